/-! the whole contract written -/
theorem wr_parts {a b : SS} {C : Cd} (hC : WfC C) (ha : RepX a C) (hb : RepM b C) {F w : Int32} {x : Nat} {sk : Nat → Bool} (hF : ∀ j, j < 32 → bt F j = inF C x sk j) {c : Nat} (hc : c < cN C) (kx : SS → Option SS) (km : SS → Option (Int32 × SS)) {n : Nat} {p q : SS} (h : Wr a b F w n p q) (hn : n ≤ 2300) : ∃ p' q' n', FX5_writeClause_L13 (nI c) kx 5000 0 p = kx p' ∧ FX8_writesAll_L42 F (nI c) km 5000 0 q = km q' ∧ Wr a b F w n' p' q' ∧ n' ≤ n + 50 * fb_ct (fun p => cO C p == c) (cP C) := by
  have w1 := hC.1
  have w2 := hC.2.1
  have hh := lp (fun m (z : SS × SS × Nat) i => ((FX5_writeClause_L13 (nI c) kx m i z.1, FX8_writesAll_L42 F (nI c) km m i z.2.1) : Option SS × Option (Int32 × SS))) (cP C) (fun i z => Wr a b F w z.2.2 z.1 z.2.1 ∧ z.2.2 ≤ n + 50 * fb_ct (fun p => cO C p == c) i) (fun r => ∃ p' q' n', r.1 = kx p' ∧ r.2 = km q' ∧ Wr a b F w n' p' q' ∧ n' ≤ n + 50 * fb_ct (fun p => cO C p == c) (cP C)) (by
    rintro m ⟨p, q, k⟩ ⟨h1, h2⟩
    simp only at h1 h2
    have rp := smW_R h1.1 ha
    have rq := smM_R h1.2.1 hb
    refine ⟨p, q, k, ?_, ?_, h1, h2⟩
    · show FX5_writeClause_L13 _ _ _ _ _ = _
      rw [FX5_writeClause_L13, rp.2.1, if_pos (nI_le (Nat.le_refl _) (by omega))]
    · show FX8_writesAll_L42 _ _ _ _ _ _ = _
      rw [FX8_writesAll_L42, rq.2.1, if_pos (nI_le (Nat.le_refl _) (by omega))]) (by
    rintro m i ⟨p, q, k⟩ hi ⟨h1, h2⟩
    simp only at h1 h2
    right
    have rp := smW_R h1.1 ha
    have rq := smM_R h1.2.1 hb
    have g : inb (nI i) 30 = true := inb_n (by omega) (by omega)
    have ci : Int32.toNatClampNeg (nI i) = i := nI_clamp (by omega)
    obtain ⟨p1, p2, p3, p4⟩ := hC.2.2.2.2 i hi
    obtain ⟨o1, o2, o3⟩ := rq.2.2.2 i hi
    obtain ⟨y1, y2, y3⟩ := rp.2.2.2.2 i hi
    have fl := fb_ct_le (fun p => cO C p == c) i
    have fs := fb_ct_succ (fun p => cO C p == c) i
    by_cases z : cO C i = c
    · rw [z, beq_self_eq_true, if_pos rfl] at fs
      have zz : nI (cO C i) = nI c := by rw [z]
      have sx : FX5_writeClause_L13 (nI c) kx (m + 1) (nI i) p = ob (FX5_writePart p (nI (cK C i)) (nI (cV C i))) (fun σ11 => FX5_writeClause_L13 (nI c) kx m (nI (i + 1)) σ11) := by
        rw [FX5_writeClause_L13, rp.2.1, if_neg (nI_ge hi (by omega)), gd_t g, ci, y3, if_pos zz, gd_t g, gd_t g, y1, y2, nI_1]
      rcases (by omega : cK C i = 0 ∨ cK C i = 1 ∨ cK C i = 2) with e | e | e
      · obtain ⟨p', q', g1, g2, g3⟩ := wr_put h1 (by omega) (65 + nI (cV C i))
        refine ⟨(p', q', k + 1), ⟨g3, show k + 1 ≤ _ by omega⟩, Prod.ext (sx.trans ?_) ?_⟩
        · rw [e, FX5_writePart, if_pos (show nI 0 = 0 from rfl), g1, ob_s, ob_s]
        · show FX8_writesAll_L42 _ _ _ _ _ _ = FX8_writesAll_L42 _ _ _ _ _ _
          rw [FX8_writesAll_L42, rq.2.1, if_neg (nI_ge hi (by omega)), gd_t g, ci, o1, if_pos zz, gd_t g, o2, e, if_neg (show ¬ nI 0 = 2 by decide), gd_t g, if_pos (show nI 0 = 0 from rfl), FX8_writesAll_J87, gd_t g, ci, o3, g2, ob_s, nI_1]
      · obtain ⟨p', q', g1, g2, g3⟩ := wr_put h1 (by omega) (97 + nI (cV C i))
        refine ⟨(p', q', k + 1), ⟨g3, show k + 1 ≤ _ by omega⟩, Prod.ext (sx.trans ?_) ?_⟩
        · rw [e, FX5_writePart, if_neg (show ¬ nI 1 = 0 by decide), if_pos (show nI 1 = 1 from rfl), g1, ob_s, ob_s]
        · show FX8_writesAll_L42 _ _ _ _ _ _ = FX8_writesAll_L42 _ _ _ _ _ _
          rw [FX8_writesAll_L42, rq.2.1, if_neg (nI_ge hi (by omega)), gd_t g, ci, o1, if_pos zz, gd_t g, o2, e, if_neg (show ¬ nI 1 = 2 by decide), gd_t g, if_neg (show ¬ nI 1 = 0 by decide), FX8_writesAll_J87, gd_t g, ci, o3, g2, ob_s, nI_1]
      · have hv := p3 e
        obtain ⟨pa, qa, g1, g2, g3⟩ := wr_put h1 (by omega) 91
        have ra := smM_R g3.2.1 hb
        have v3 : gA qa 11 i = nI (cV C i) := (ra.2.2.2 i hi).2.2
        have sm : FX8_writesAll_L42 F (nI c) km (m + 1) (nI i) q = if bI (bt F (cV C i)) = 0 then ob (FX8_writes qa 63) (fun σ24 => FX8_writesAll_J149 σ24 (fun a27 σ28 => FX8_writesAll_L42 F (nI c) km m a27 σ28) F (nI c) (nI i)) else ob (FX8_writesNumber qa F (nI (cV C i))) (fun σ31 => FX8_writesAll_J149 σ31 (fun a32 σ33 => FX8_writesAll_L42 F (nI c) km m a32 σ33) F (nI c) (nI i)) := by
          rw [FX8_writesAll_L42, rq.2.1, if_neg (nI_ge hi (by omega)), gd_t g, ci, o1, if_pos zz, gd_t g, o2, e, if_pos (show nI 2 = 2 from rfl), FX8_writesAll_J100, gd_t g, ci, o1, if_pos zz, g2, ob_s, gd_t g, v3, m_has qa F (by omega : cV C i < 32), ob_s, gd_t g]
        have sy : FX5_writePart p (nI 2) (nI (cV C i)) = if bI (bt F (cV C i)) = 0 then ob (FX5_put pa 63) (fun σ9 => FX5_writePart_J62 σ9) else ob (FX5_writeNumber pa (nI (cV C i))) (fun σ13 => FX5_writePart_J62 σ13) := by
          rw [FX5_writePart, if_neg (show ¬ nI 2 = 0 by decide), if_neg (show ¬ nI 2 = 1 by decide), g1, ob_s, g3.2.2.1, x_has pa F (by omega : cV C i < 32), ob_s]
        rw [e, sy] at sx
        cases hb2 : bt F (cV C i) with
        | false =>
          obtain ⟨pb, qb, e1, e2, e3⟩ := wr_put g3 (by omega) 63
          obtain ⟨pc, qc, e4, e5, e6⟩ := wr_put e3 (by omega) 93
          rw [hb2, if_pos bI_f] at sx sm
          refine ⟨(pc, qc, k + 1 + 1 + 1), ⟨e6, show k + 1 + 1 + 1 ≤ _ by omega⟩, Prod.ext (sx.trans ?_) (sm.trans ?_)⟩
          · rw [e1, ob_s, FX5_writePart_J62, e4, ob_s, ob_s]
          · rw [e2, ob_s, FX8_writesAll_J149, e5, ob_s, nI_1]
        | true =>
          obtain ⟨pb, qb, nb, e1, e2, e3, e7⟩ := wr_num hC ha hb hF hv hb2 g3 (by omega)
          obtain ⟨pc, qc, e4, e5, e6⟩ := wr_put e3 (by omega) 93
          rw [hb2, if_neg bI_n] at sx sm
          refine ⟨(pc, qc, nb + 1), ⟨e6, show nb + 1 ≤ _ by omega⟩, Prod.ext (sx.trans ?_) (sm.trans ?_)⟩
          · rw [e1, ob_s, FX5_writePart_J62, e4, ob_s, ob_s]
          · rw [e2, ob_s, FX8_writesAll_J149, e5, ob_s, nI_1]
    · rw [beq_ne z, if_neg (by decide)] at fs
      have zz : ¬ nI (cO C i) = nI c := nI_ne (by omega) (by omega) z
      refine ⟨(p, q, k), ⟨h1, show k ≤ _ by omega⟩, Prod.ext ?_ ?_⟩
      · show FX5_writeClause_L13 _ _ _ _ _ = FX5_writeClause_L13 _ _ _ _ _
        rw [FX5_writeClause_L13, rp.2.1, if_neg (nI_ge hi (by omega)), gd_t g, ci, y3, if_neg zz, nI_1]
      · show FX8_writesAll_L42 _ _ _ _ _ _ = FX8_writesAll_L42 _ _ _ _ _ _
        rw [FX8_writesAll_L42, rq.2.1, if_neg (nI_ge hi (by omega)), gd_t g, ci, o1, if_neg zz, FX8_writesAll_J100, gd_t g, ci, o1, if_neg zz, nI_1]) (cP C) 5000 0 (p, q, n) (by omega) (by omega) ⟨h, show n ≤ n + 50 * 0 by omega⟩
  obtain ⟨p', q', n', g1, g2, g3, g4⟩ := hh
  exact ⟨p', q', n', g1, g2, g3, g4⟩
def upc (C : Cd) (c : Nat) : Nat := fb_ct (fun p => decide (cO C p < c)) (cP C)
theorem upc_s (C : Cd) (c : Nat) : upc C (c + 1) = upc C c + fb_ct (fun p => cO C p == c) (cP C) := by
  unfold upc
  rw [← fb_ct_or (fun k _ hk => by
    have h1 := of_decide_eq_true hk.1
    have h2 := beq_iff_eq.mp hk.2
    omega)]
  refine fb_ct_cong fun k _ => ?_
  apply beq_of
  rw [Bool.or_eq_true, decide_eq_true_eq, decide_eq_true_eq, beq_iff_eq]
  omega
theorem a_written {a b : SS} {C : Cd} {K A : Nat} (h : Sit a b C K A) (w : Int32) : ∃ F p q n, FX7_inForceNow a = some F ∧ FX5_write a w F = some p ∧ FX8_writesAll b = some (nI n, q) ∧ Wr a b F w n p q ∧ n ≤ 2300 := by
  obtain ⟨F, e1, e2, e3⟩ := both_now h
  obtain ⟨hC, ha, hb, hT, hs, k1, k2, k3, k4, k5, k6⟩ := h
  have w1 := hC.1
  have w2 := hC.2.1
  have up : ∀ i, upc C i ≤ 30 := fun i => Nat.le_trans (fb_ct_le _ _) w2
  have st : Wr a b F w 0 (sI (sI (sI (sI a 93 F) 94 w) 91 0) 92 (-1)) (sI b 34 0) :=
    ⟨smW_I (smW_I (smW_I (smW_I ⟨fun _ _ _ _ _ => rfl, rfl⟩ (by omega) _) (by omega) _) (by omega) _) (by omega) _, smM_I (smM_r b) _, rfl, rfl, rfl, rfl, fun i hi => absurd hi (Nat.not_lt_zero i), fun _ => rfl⟩
  have hh := lp (fun m (z : SS × SS × Nat) i => ((FX5_write_L22 (fun s => some s) m i z.1, FX8_writesAll_L12 F (fun σ52 => some ((gI σ52 34), σ52)) m i z.2.1) : Option SS × Option (Int32 × SS))) (cN C) (fun i z => Wr a b F w z.2.2 z.1 z.2.1 ∧ z.2.2 ≤ 50 * i + 50 * upc C i) (fun r => ∃ p' q' n', r.1 = some p' ∧ r.2 = some (nI n', q') ∧ Wr a b F w n' p' q' ∧ n' ≤ 2300) (by
    rintro m ⟨p, q, k⟩ ⟨h1, h2⟩
    simp only at h1 h2
    have rp := smW_R h1.1 ha
    have rq := smM_R h1.2.1 hb
    have := up (cN C)
    refine ⟨p, q, k, ?_, ?_, h1, by omega⟩
    · show FX5_write_L22 _ _ _ _ = _
      rw [FX5_write_L22, rp.1, if_pos (nI_le (Nat.le_refl _) (by omega))]
    · show FX8_writesAll_L12 _ _ _ _ _ = _
      rw [FX8_writesAll_L12, rq.1, if_pos (nI_le (Nat.le_refl _) (by omega)), h1.2.2.2.2.2.1]) (by
    rintro m i ⟨p, q, k⟩ hi ⟨h1, h2⟩
    simp only at h1 h2
    right
    have rp := smW_R h1.1 ha
    have rq := smM_R h1.2.1 hb
    have us := upc_s C i
    have ui := up i
    have uj := up (i + 1)
    cases hf : bt F i with
    | false =>
      refine ⟨(p, q, k), ⟨h1, show k ≤ _ by omega⟩, Prod.ext ?_ ?_⟩
      · show FX5_write_L22 _ _ _ _ = FX5_write_L22 _ _ _ _
        rw [FX5_write_L22, rp.1, if_neg (nI_ge hi (by omega)), h1.2.2.1, x_has p F (by omega : i < 32), ob_s, hf, if_pos bI_f, nI_1]
      · show FX8_writesAll_L12 _ _ _ _ _ = FX8_writesAll_L12 _ _ _ _ _
        rw [FX8_writesAll_L12, rq.1, if_neg (nI_ge hi (by omega)), m_has q F (by omega : i < 32), ob_s, hf, if_pos bI_f, nI_1]
    | true =>
      obtain ⟨pa, qa, na, g1, g2, g3, g4⟩ := wr_num hC ha hb e3 hi hf h1 (by omega)
      obtain ⟨pb, qb, g5, g6, g7⟩ := wr_put g3 (by omega) 32
      obtain ⟨pc, qc, nc, l1, l2, l3, l4⟩ := wr_parts hC ha hb e3 hi (fun σ12 => ob (FX5_put σ12 (59 : Int32)) (fun σ14 => some σ14)) (fun σ49 => ob (FX8_writes σ49 (59 : Int32)) (fun σ51 => FX8_writesAll_L12 F (fun σ52 => some ((gI σ52 34), σ52)) m (nI (i + 1)) σ51)) g7 (by omega)
      obtain ⟨pd, qd, j1, j2, j3⟩ := wr_put l3 (by omega) 59
      refine ⟨(pd, qd, nc + 1), ⟨j3, show nc + 1 ≤ _ by omega⟩, Prod.ext ?_ ?_⟩
      · show FX5_write_L22 _ _ _ _ = FX5_write_L22 _ _ _ _
        rw [FX5_write_L22, rp.1, if_neg (nI_ge hi (by omega)), h1.2.2.1, x_has p F (by omega : i < 32), ob_s, hf, if_neg bI_n, FX5_writeClause, g1, ob_s, g5, ob_s, l1, j1, ob_s, ob_s, nI_1]
      · show FX8_writesAll_L12 _ _ _ _ _ = FX8_writesAll_L12 _ _ _ _ _
        rw [FX8_writesAll_L12, rq.1, if_neg (nI_ge hi (by omega)), m_has q F (by omega : i < 32), ob_s, hf, if_neg bI_n, g2, ob_s, g6, ob_s, nI_1, l2, j2, ob_s]) (cN C) 5000 0 (_, _, 0) (by omega) (by omega) ⟨st, Nat.zero_le _⟩
  obtain ⟨p', q', n', g1, g2, g3, g4⟩ := hh
  refine ⟨F, p', q', n', e1, ?_, ?_, g3, g4⟩
  · rw [FX5_write, bd_e, bd_e, bd_e, bd_e]; exact g1
  · rw [FX8_writesAll, e2, ob_s, bd_e]; exact g2
theorem a_told13 {a b : SS} {C : Cd} {K A : Nat} (h : Sit a b C K A) : ∃ r a1 b1, FX7_told a 13 = some (r, a1) ∧ FX8_told b 13 = some (r, b1) ∧ smW a a1 ∧ smM b b1 := by
  obtain ⟨F, p, q, n, e1, e2, e3, e4, e5⟩ := a_written h (-1)
  refine ⟨nI n, p, q, ?_, ?_, e4.1, e4.2.1⟩
  · have : FX7_told a 13 = ob (FX7_inForceNow a) (fun r32 => ob (FX5_write a (-1 : Int32) r32) (fun σ34 => some ((gI σ34 91), σ34))) := rfl
    rw [this, e1, ob_s, e2, ob_s, e4.2.2.2.2.1]
  · have : FX8_told b 13 = ob (FX8_writesAll b) (fun p34 => some (p34.1, p34.2)) := rfl
    rw [this, e3, ob_s]
theorem a_sign {a b : SS} {C : Cd} {K A : Nat} (h : Sit a b C K A) (x0 : Int32) : ∃ r a1 b1, FX7_sign a x0 = some (r, a1) ∧ FX8_sign_ b x0 = some (r, b1) ∧ smW a a1 ∧ smM b b1 := by
  obtain ⟨F, p, q, n, e1, e2, e3, e4, e5⟩ := a_written h x0
  rw [FX7_sign, FX8_sign_]
  by_cases z : 0 ≤ x0
  · obtain ⟨l, l1, l2⟩ := nI_of (x := x0) (Int32.not_lt.mpr z)
    rw [if_pos z, if_pos z, e1, ob_s, e2, ob_s, e3, ob_s, l2]
    show ∃ r a1 b1, some (gI p 92, p) = some (r, a1) ∧ (if nI n ≤ nI l then some ((-1 : Int32), q) else gd (inb (nI l) 4000) (some ((gA q 33 (Int32.toNatClampNeg (nI l))), q))) = some (r, b1) ∧ smW a a1 ∧ smM b b1
    obtain ⟨h1, h2, h3, h4, h5, h6, h7, h8⟩ := e4
    rcases Nat.lt_or_ge l n with y | y
    · rw [if_neg (nI_ge y (by omega)), gd_t (inb_n (by omega) (by omega)), nI_clamp l1, h7 l y l2]
      exact ⟨_, p, q, rfl, rfl, h1, h2⟩
    · rw [if_pos (nI_le y l1), h8 fun i hi e => by
        have := (nI_eq l1 (by omega)).mp (l2.symm.trans e)
        omega]
      exact ⟨_, p, q, rfl, rfl, h1, h2⟩
  · rw [if_neg z, if_neg z]; exact ⟨_, a, b, rfl, rfl, ⟨fun _ _ _ _ _ => rfl, rfl⟩, smM_r b⟩
