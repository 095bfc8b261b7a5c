/-! the contract written out, in both worlds sign by sign -/
/-- the desk's writer leaves all else -/
def smW (a p : SS) : Prop := (∀ k, k ≠ 91 → k ≠ 92 → k ≠ 93 → k ≠ 94 → gI p k = gI a k) ∧ p.2 = a.2
theorem smW_gA {a p : SS} (h : smW a p) (k : Nat) : gA p k = gA a k := by unfold gA; rw [h.2]
theorem smW_gL {a p : SS} (h : smW a p) (k : Nat) : gL p k = gL a k := by unfold gL; rw [h.2]
theorem smW_R {a p : SS} (h : smW a p) {C : Cd} (ha : RepX a C) : RepX p C := by
  unfold RepX at *
  rw [h.1 40 (by decide) (by decide) (by decide) (by decide), h.1 41 (by decide) (by decide) (by decide) (by decide), h.1 42 (by decide) (by decide) (by decide) (by decide)]
  simp only [smW_gA h]
  exact ha
theorem smW_I {a p : SS} (h : smW a p) {k : Nat} (hk : k = 91 ∨ k = 92 ∨ k = 93 ∨ k = 94) (v : Int32) : smW a (sI p k v) :=
  ⟨fun j h1 h2 h3 h4 => (gI_ne p (by rcases hk with e | e | e | e <;> rw [e] <;> assumption) v).trans (h.1 j h1 h2 h3 h4), h.2⟩
/-- n signs are out; the sign asked for is w, the clauses in force are F -/
def Wr (a b : SS) (F w : Int32) (n : Nat) (p q : SS) : Prop := smW a p ∧ smM b q ∧ gI p 93 = F ∧ gI p 94 = w ∧ gI p 91 = nI n ∧ gI q 34 = nI n ∧ (∀ i, i < n → w = nI i → gI p 92 = gA q 33 i) ∧ ((∀ i, i < n → ¬ w = nI i) → gI p 92 = -1)
theorem wr_put {a b : SS} {F w : Int32} {n : Nat} {p q : SS} (h : Wr a b F w n p q) (hn : n < 4000) (ch : Int32) : ∃ p' q', FX5_put p ch = some p' ∧ FX8_writes q ch = some q' ∧ Wr a b F w (n + 1) p' q' := by
  obtain ⟨h1, h2, h3, h4, h5, h6, h7, h8⟩ := h
  have m : FX8_writes q ch = some (sI (sA q 33 (upd (gA q 33) n ch)) 34 (nI (n + 1))) := by
    rw [FX8_writes, h6, gd_t (inb_n hn (by omega)), bd_e, bd_e, nI_clamp (by omega)]
    show some (sI _ 34 (gI q 34 + 1)) = _
    rw [h6, nI_1]
  have g33 : gA (sI (sA q 33 (upd (gA q 33) n ch)) 34 (nI (n + 1))) 33 = upd (gA q 33) n ch := gA_sA q 33 _
  have m2 : smM b (sI (sA q 33 (upd (gA q 33) n ch)) 34 (nI (n + 1))) := smM_I (smM_A h2 (by omega) _) _
  rw [FX5_put, h4, h5]
  by_cases z : nI n = w
  · rw [if_pos z, bd_e, bd_e]
    have e91 : gI (sI p 92 ch) 91 = nI n := (gI_ne p (by decide) ch).trans h5
    rw [e91, nI_1]
    refine ⟨_, _, rfl, m, smW_I (smW_I h1 (by omega) _) (by omega) _, m2, ?_, ?_, gI_sI _ _ _, gI_sI _ _ _, fun i hi hw => ?_, fun hh => absurd z.symm (hh n (by omega))⟩
    · rw [gI_ne _ (by decide), gI_ne _ (by decide)]; exact h3
    · rw [gI_ne _ (by decide), gI_ne _ (by decide)]; exact h4
    · rw [gI_ne _ (by decide), gI_sI, g33]
      have e : i = n := (nI_eq (by omega) (by omega)).mp (hw.symm.trans z.symm)
      rw [e, upd_eq, if_pos rfl]
  · rw [if_neg z, bd_e, nI_1]
    refine ⟨_, _, rfl, m, smW_I h1 (by omega) _, m2, ?_, ?_, gI_sI _ _ _, gI_sI _ _ _, fun i hi hw => ?_, fun hh => ?_⟩
    · rw [gI_ne _ (by decide)]; exact h3
    · rw [gI_ne _ (by decide)]; exact h4
    · have ne : i ≠ n := fun e => z (by rw [hw, e])
      rw [gI_ne _ (by decide), g33, upd_eq, if_neg ne]
      exact h7 i (by omega) hw
    · rw [gI_ne _ (by decide)]
      exact h8 fun i hi => hh i (by omega)
theorem fig_10 : ∀ v, v < 20 → ((48 : Int32) + jrem (nI v) 10 = nI (48 + v % 10) ∧ (10 ≤ v → (48 : Int32) + nI v / 10 = 49)) := by decide +kernel
theorem wr_num {a b : SS} {C : Cd} (hC : WfC C) (ha : RepX a C) (hb : RepM b C) {F w : Int32} {x : Nat} {sk : Nat → Bool} (hF : ∀ j, j < 32 → bt F j = inF C x sk j) {c : Nat} (hc : c < cN C) (fc : bt F c = true) {n : Nat} {p q : SS} (h : Wr a b F w n p q) (hn : n ≤ 3900) : ∃ p' q' n', FX5_writeNumber p (nI c) = some p' ∧ FX8_writesNumber q F (nI c) = some q' ∧ Wr a b F w n' p' q' ∧ n' ≤ n + 48 := by
  have w1 := hC.1
  have dl := dep_le hC (c + 1) c (by omega) hc
  have f1 : inF C x sk c = true := by rw [← hF c (by omega)]; exact fc
  have hh := lp (fun m (z : SS × SS × Nat) i => ((FX5_writeNumber_L18 (nI c) (fun s => some s) m i z.1, FX8_writesNumber_L2 F (nI c) (fun s => some s) m i z.2.1) : Option SS × Option SS)) (dep C c + 1) (fun i z => Wr a b F w z.2.2 z.1 z.2.1 ∧ z.2.2 ≤ n + 3 * i) (fun r => ∃ p' q' n', r.1 = some p' ∧ r.2 = some q' ∧ Wr a b F w n' p' q' ∧ n' ≤ n + 48) (by
    rintro m ⟨p, q, k⟩ ⟨h1, h2⟩
    simp only at h1 h2
    have rp := smW_R h1.1 ha
    have rq := smM_R h1.2.1 hb
    refine ⟨p, q, k, ?_, ?_, h1, by omega⟩
    · show FX5_writeNumber_L18 _ _ _ _ _ = _
      rw [FX5_writeNumber_L18, gd_t (inb_n (by omega) (by omega)), nI_clamp (by omega), (rp.2.2.2.1 c hc).2.1, if_pos (nI_lt (by omega) (by omega))]
    · show FX8_writesNumber_L2 _ _ _ _ _ _ = _
      rw [FX8_writesNumber_L2, m_depth hC rq hc, ob_s, if_pos (nI_lt (by omega) (by omega))]) (by
    rintro m i ⟨p, q, k⟩ hi ⟨h1, h2⟩
    simp only at h1 h2
    right
    have rp := smW_R h1.1 ha
    have rq := smM_R h1.2.1 hb
    have main : ∀ (p q : SS) (k : Nat), Wr a b F w k p q → k ≤ n + 3 * i + 1 → ∃ p' q' k', Wr a b F w k' p' q' ∧ k' ≤ n + 3 * (i + 1) ∧ FX5_writeNumber_J41 p (fun a12 σ13 => FX5_writeNumber_L18 (nI c) (fun s => some s) m a12 σ13) (nI c) (nI i) = FX5_writeNumber_L18 (nI c) (fun s => some s) m (nI (i + 1)) p' ∧ FX8_writesNumber_J21 q (fun a18 σ19 => FX8_writesNumber_L2 F (nI c) (fun s => some s) m a18 σ19) F (nI c) (nI i) = FX8_writesNumber_L2 F (nI c) (fun s => some s) m (nI (i + 1)) q' := by
      intro p q k h1 hk
      have rp := smW_R h1.1 ha
      have rq := smM_R h1.2.1 hb
      obtain ⟨q1, q2⟩ := anc_in hC i 17 c hc f1
      have x1 : FX0_aroundAt p (nI c) (nI i) = some (nI (ancF C i 17 c)) := by
        rw [FX0_aroundAt]
        exact x_around hC rp (by omega) (fun u7 => some u7) 17 5000 c 0 (by omega) hc (by omega) (by omega)
      have m1 : FX8_upTo q (nI c) (nI i) = some (nI (ancF C i 17 c)) := by
        rw [FX8_upTo, m_depth hC rq hc, ob_s]
        exact m_upTo hC rq (by omega) (fun u5 => some u5) 17 5000 c (by omega) hc (by omega)
      have sb : sib C F (ancF C i 17 c) (ancF C i 17 c) = true := by
        unfold sib
        rw [hF _ (by omega), q2]; simp
      have ve : 1 + fb_ct (sib C F (ancF C i 17 c)) (ancF C i 17 c) = fb_ct (sib C F (ancF C i 17 c)) (ancF C i 17 c + 1) := by
        rw [fb_ct_succ, sb, if_pos rfl, Nat.add_comm]
      have vl := fb_ct_le (sib C F (ancF C i 17 c)) (ancF C i 17 c + 1)
      rw [FX5_writeNumber_J41, x1, ob_s, h1.2.2.1, x_place hC rp F q1, ob_s, FX8_writesNumber_J21, m1, ob_s, m_place hC rq F q1, ob_s, ve]
      generalize hv : fb_ct (sib C F (ancF C i 17 c)) (ancF C i 17 c + 1) = v at *
      obtain ⟨d1, d2⟩ := fig_10 v (by omega)
      simp only [FX5_writeFigures, FX5_writeFigures_J17, FX8_writesNumber_J47, d1]
      rcases Nat.lt_or_ge v 10 with z | z
      · rw [if_pos (show nI v < 10 from nI_lt (b := 10) z (by omega)), if_pos (show nI v ≤ 9 from nI_le (b := 9) (by omega) (by omega))]
        obtain ⟨p', q', g1, g2, g3⟩ := wr_put h1 (by omega) (nI (48 + v % 10))
        refine ⟨p', q', k + 1, g3, by omega, ?_, ?_⟩
        · rw [g1, ob_s, ob_s, nI_1]
        · rw [g2, ob_s, nI_1]
      · rw [if_neg (show ¬ nI v < 10 from nI_nlt (b := 10) z (by omega)), if_neg (show ¬ nI v ≤ 9 from nI_ge (a := 9) (by omega) (by omega)), d2 z]
        obtain ⟨p1, q1, g1, g2, g3⟩ := wr_put h1 (by omega) 49
        obtain ⟨p', q', g4, g5, g6⟩ := wr_put g3 (by omega) (nI (48 + v % 10))
        refine ⟨p', q', k + 1 + 1, g6, by omega, ?_, ?_⟩
        · rw [g1, ob_s, g4, ob_s, ob_s, nI_1]
        · rw [g2, ob_s, g5, ob_s, nI_1]
    have s1 : FX5_writeNumber_L18 (nI c) (fun s => some s) (m + 1) (nI i) p = if nI i ≤ 0 then FX5_writeNumber_J41 p (fun a12 σ13 => FX5_writeNumber_L18 (nI c) (fun s => some s) m a12 σ13) (nI c) (nI i) else ob (FX5_put p 46) (fun σ15 => FX5_writeNumber_J41 σ15 (fun a16 σ17 => FX5_writeNumber_L18 (nI c) (fun s => some s) m a16 σ17) (nI c) (nI i)) := by
      rw [FX5_writeNumber_L18, gd_t (inb_n (by omega) (by omega)), nI_clamp (by omega), (rp.2.2.2.1 c hc).2.1, if_neg (nI_nlt (by omega) (by omega))]
    have s2 : FX8_writesNumber_L2 F (nI c) (fun s => some s) (m + 1) (nI i) q = if nI i ≤ 0 then FX8_writesNumber_J21 q (fun a12 σ13 => FX8_writesNumber_L2 F (nI c) (fun s => some s) m a12 σ13) F (nI c) (nI i) else ob (FX8_writes q 46) (fun σ15 => FX8_writesNumber_J21 σ15 (fun a16 σ17 => FX8_writesNumber_L2 F (nI c) (fun s => some s) m a16 σ17) F (nI c) (nI i)) := by
      rw [FX8_writesNumber_L2, m_depth hC rq hc, ob_s, if_neg (nI_nlt (by omega) (by omega))]
    by_cases z : i = 0
    · have z0 : nI i ≤ 0 := by rw [z]; decide
      obtain ⟨p', q', k', g1, g2, g3, g4⟩ := main p q k h1 (by omega)
      exact ⟨(p', q', k'), ⟨g1, g2⟩, Prod.ext (s1.trans ((if_pos z0).trans g3)) (s2.trans ((if_pos z0).trans g4))⟩
    · have z0 : ¬ nI i ≤ 0 := nI_ge (a := 0) (by omega) (by omega)
      obtain ⟨p1, q1, e1, e2, e3⟩ := wr_put h1 (by omega) 46
      obtain ⟨p', q', k', g1, g2, g3, g4⟩ := main p1 q1 (k + 1) e3 (by omega)
      refine ⟨(p', q', k'), ⟨g1, g2⟩, Prod.ext (s1.trans ((if_neg z0).trans ?_)) (s2.trans ((if_neg z0).trans ?_))⟩
      · rw [e1, ob_s]; exact g3
      · rw [e2, ob_s]; exact g4) (dep C c + 1) 5000 0 (p, q, n) (by omega) (by omega) ⟨h, show n ≤ n + 3 * 0 by omega⟩
  obtain ⟨p', q', n', g1, g2, g3, g4⟩ := hh
  refine ⟨p', q', n', ?_, ?_, g3, g4⟩
  · rw [FX5_writeNumber, if_neg (nI_pos (by omega)), (smW_R h.1 ha).1, if_pos (nI_lt hc (by omega))]
    exact g1
  · rw [FX8_writesNumber]
    exact g2
