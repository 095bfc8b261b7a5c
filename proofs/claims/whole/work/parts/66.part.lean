/-! the two readers: a part -/
def tkM (q : SS) (P : Nat) (x y z w : Int32) : SS := sI (sA (sA (sA (sA q 18 (upd (gA q 18) P x)) 19 (upd (gA q 19) P y)) 20 (upd (gA q 20) P z)) 21 (upd (gA q 21) P w)) 17 (nI (P + 1))
theorem m_53 {q : SS} {P : Nat} (h17 : gI q 17 = nI P) (hP : P < 30) (x y z w : Int32) : FX8_takesPart_J53 q x y w z = some (tkM q P x y z w) := by
  have c4 : inb (nI P) 30 = true := inb_n hP (by omega)
  have c5 : Int32.toNatClampNeg (nI P) = P := nI_clamp (by omega)
  simp only [FX8_takesPart_J53, bd_e, gIa, gAa, gIs, gAs, h17, c4, c5, gd_1, nI_1, Nat.reduceEqDiff, reduceIte]
  rfl
theorem tkM_f (q : SS) (P : Nat) (x y z w : Int32) : fM q (tkM q P x y z w) :=
  fM_I (fM_A (fM_A (fM_A (fM_A (fM_r q) _ (by decide) (by decide)) _ (by decide) (by decide)) _ (by decide) (by decide)) _ (by decide) (by decide)) _ (by decide)
theorem bad_tk {a b : SS} {n : Nat} {p q : SS} (h : Bad a b n p q) (P : Nat) (x y z w : Int32) : Bad a b n p (tkM q P x y z w) := by
  obtain ⟨h1, h2, h3, h4, h5⟩ := h
  exact ⟨h1, fM_t h2 (tkM_f q P x y z w), h3, h4, h5⟩
theorem okd_add {a b : SS} {C : Cd} {p q p' : SS} (h : OkD a b C p q) (hP : cP C < 30) {k v c : Nat} (hk : k < 3) (hc : c < cN C) (k2 : k = 2 → v < 16) (k1 : k ≠ 2 → v < 8) (h1 : fX p p') (h11 : gI p' 11 = gI p 11) (h15 : gI p' 15 = gI p 15) (hd : DrX (addP C k v c) p') {z : Int32} (h14 : ∀ i, i < cP C → gA p' 14 i = gA p 14 i) (hz : k = 2 → gA p' 14 (cP C) = z) : OkD a b (addP C k v c) p' (tkM q (cP C) (nI c) (nI k) (nI v) z) := by
  obtain ⟨f1, f2, e15, e23, e11, e2, hC, hX, hM, hL⟩ := h
  refine ⟨fX_t f1 h1, fM_t f2 (tkM_f _ _ _ _ _ _), h15.trans e15, e23, h11.trans e11, e2, wf_addP hC hP hk hc k2 k1, hd, ⟨hM.1, rfl, hM.2.2.1, fun i hi => ?_⟩, fun i hi => ?_⟩
  · have hi : i < cP C + 1 := hi
    show upd (gA q 18) (cP C) (nI c) i = nI (if i = cP C then c else cO C i) ∧ upd (gA q 19) (cP C) (nI k) i = nI (if i = cP C then k else cK C i) ∧ upd (gA q 20) (cP C) (nI v) i = nI (if i = cP C then v else cV C i)
    rw [upd_eq, upd_eq, upd_eq]
    by_cases e : i = cP C
    · simp only [if_pos e]; exact ⟨trivial, trivial, trivial⟩
    · simp only [if_neg e]; exact hM.2.2.2 i (by omega)
  · have hi : i < cP C + 1 := hi
    show (if i = cP C then k else cK C i) = 2 → gA p' 14 i = upd (gA q 21) (cP C) z i
    rw [upd_eq]
    by_cases e : i = cP C
    · rw [if_pos e, if_pos e, e]; exact hz
    · rw [if_neg e, if_neg e, h14 i (by omega)]; exact hL i (by omega)
theorem both_part {a b : SS} {n : Nat} {L : Nat → Nat} (ht : Tx n L) (ta : TxX a n L) (tb : TxM b n L) {C : Cd} {p q : SS} (h : OkD a b C p q) {j : Nat} (hj : j < n) (h16 : gI p 16 = nI j) (h22 : gI q 22 = nI j) {c : Nat} (hc : c < cN C) (h17 : gI p 17 = nI c) {w : Int32} {k : Nat} (hw : (w = 100 ∧ k = 0) ∨ (w = 117 ∧ k = 1) ∨ (w = 114 ∧ k = 2)) :
    (∃ i C' p' q', FX4_readPart p w = some p' ∧ FX8_takesPart q (nI c) (nI k) = some q' ∧ OkD a b C' p' q' ∧ cN C' = cN C ∧ j < i ∧ i ≤ n ∧ gI p' 16 = nI i ∧ gI q' 22 = nI i ∧ gI p' 17 = nI c) ∨ ∃ p' q', FX4_readPart p w = some p' ∧ FX8_takesPart q (nI c) (nI k) = some q' ∧ Bad a b n p' q' := by
  obtain ⟨f1, f2, e15, e23, e11, e2, hC, hX, hM, hL⟩ := id h
  have t1 := ht.1
  have tp := fX_T f1 ta
  have tq := fM_T f2 tb
  have x21 : gI p 21 = nI (cP C) := hX.2.1
  have m17 : gI q 17 = nI (cP C) := hM.2.1
  have w1 := hC.1
  have w2 := hC.2.1
  by_cases hP : cP C = 30
  · right
    refine ⟨sI (sI p 15 (nI 3)) 11 (nI j), sI (sI q 23 (nI 3)) 2 (nI j), ?_, ?_, bad_f f1 f2 (by omega) h16 (by omega) (by omega) _⟩
    · rw [FX4_readPart, x21, hP, if_neg (show ¬ nI 30 < 30 by decide), x_fail, ob_s, h16]; rfl
    · rw [FX8_takesPart, m17, hP, if_pos (show nI 30 = 30 from rfl), m_fails e23, ob_s, h22]; rfl
  have hP : cP C < 30 := by omega
  have sl := skp_le (L := L) (show j + 1 ≤ n from hj)
  have sno := skp_no (L := L) (show j + 1 ≤ n from hj)
  have sid := skp_idem (L := L) (show j + 1 ≤ n from hj)
  generalize hs : skp L n (j + 1) = s at sl sno sid
  have tp1 : ∀ v, TxX (sI p 16 v) n L := fun v => ⟨(gI_ne _ (by decide) _).trans tp.1, tp.2⟩
  have tq1 : ∀ v, TxM (sI q 22 v) n L := fun v => ⟨(gI_ne _ (by decide) _).trans tq.1, tq.2⟩
  have sg : FX8_sign (sI q 22 (nI (j + 1))) = some (ltr L n s, sI q 22 (nI s)) := by rw [m_sign ht (tq1 _) (gI_sI _ _ _) hj, hs, sI_sI]
  have tk : FX8_takesPart q (nI c) (nI k) = if nI k = 2 then ob (FX8_clauseNumber (sI q 22 (nI s))) (fun p18 => FX8_takesPart_J53 p18.2 (nI c) (nI k) (nI s) p18.1) else ob (FX8_figure (sI q 22 (nI s)) 7) (fun p7 => FX8_takesPart_J53 p7.2 (nI c) (nI k) (nI s) p7.1) := by
    rw [FX8_takesPart, m17, if_neg (show ¬ nI (cP C) = 30 from nI_ne (b := 30) (by omega) (by omega) (by omega)), bd_e, h22, nI_1, sg, ob_s, gI_sI]
  have rp : FX4_readPart p w = if w = 114 then ob (FX4_readReference (sI p 16 (nI (j + 1)))) (fun σ => some σ) else ob (FX4_readFigure (sI p 16 (nI (j + 1))) 8) (fun p5 => if p5.1 = -1 then some p5.2 else if w = 100 then FX4_readPart_J74 p5.2 p5.1 0 (gI p5.2 17) else FX4_readPart_J74 p5.2 p5.1 1 (gI p5.2 17)) := by
    rw [FX4_readPart, x21, if_pos (show nI (cP C) < 30 from nI_lt (b := 30) hP (by omega)), bd_e, h16, nI_1]
  have go : k < 2 → FX4_readPart p w = ob (FX4_readFigure (sI p 16 (nI (j + 1))) 8) (fun p5 => if p5.1 = -1 then some p5.2 else ob (FX0_addPart p5.2 (gI p5.2 17) (nI k) p5.1) (fun σ => some σ)) → (∃ i C' p' q', FX4_readPart p w = some p' ∧ FX8_takesPart q (nI c) (nI k) = some q' ∧ OkD a b C' p' q' ∧ cN C' = cN C ∧ j < i ∧ i ≤ n ∧ gI p' 16 = nI i ∧ gI q' 22 = nI i ∧ gI p' 17 = nI c) ∨ ∃ p' q', FX4_readPart p w = some p' ∧ FX8_takesPart q (nI c) (nI k) = some q' ∧ Bad a b n p' q' := by
    intro hk hr
    have fig2 : FX8_figure (sI q 22 (nI s)) 7 = FX8_figure (sI q 22 (nI (j + 1))) (nI 7) := by
      rw [FX8_figure, FX8_figure, m_sign ht (tq1 _) (gI_sI _ _ _) hj, m_sign ht (tq1 _) (gI_sI _ _ _) sl.2, hs, sid, sI_sI, sI_sI]; rfl
    have tk2 := tk
    rw [if_neg (show ¬ nI k = 2 from nI_ne (b := 2) (by omega) (by omega) (by omega)), fig2] at tk2
    rcases both_figure ht (tp1 (nI (j + 1))) (tq1 (nI (j + 1))) (gI_sI _ _ _) (gI_sI _ _ _) ((gI_ne _ (by decide) _).trans e23) hj (B := 7) (by omega) with ⟨v, hv, sn, g1, g2⟩ | ⟨e, he, g1, g2⟩
    · rw [hs, sI_sI] at g1 g2
      rw [hs] at sn
      obtain ⟨p', u1, u2, u3⟩ := x_addPart (p := sI p 16 (nI (s + 1))) hC hX hP hc (show k < 3 by omega) (v := v) (by omega) (by omega)
      left
      refine ⟨s + 1, addP C k v c, p', tkM (sI q 22 (nI (s + 1))) (cP C) (nI c) (nI k) (nI v) (nI s), ?_, ?_, okd_add (okd_m (okd_x h (nI (s + 1))) (nI (s + 1))) hP (by omega) hc (by omega) (by omega) u3.1 u3.2.1 u3.2.2.1 u2 (fun i _ => congrFun u3.2.2.2.2.2 i) (by omega), rfl, by omega, by omega, u3.2.2.2.1, rfl, u3.2.2.2.2.1.trans h17⟩
      · rw [hr, show (8 : Int32) = nI (7 + 1) from rfl, g1, ob_s]
        show (if nI v = -1 then _ else ob (FX0_addPart (sI p 16 (nI (s + 1))) (gI p 17) (nI k) (nI v)) _) = _
        rw [if_neg (nI_m1 (by omega)), h17, u1, ob_s]
      · rw [tk2, g2, ob_s]; exact m_53 (q := sI q 22 (nI (s + 1))) m17 hP _ _ _ _
    · rw [hs, sI_sI] at g1 g2
      right
      obtain ⟨e', e0, e6, rfl⟩ : ∃ e', 0 < e' ∧ e' < 6 ∧ e = nI e' := by
        rcases he with rfl | rfl
        · exact ⟨1, by omega, by omega, rfl⟩
        · exact ⟨2, by omega, by omega, rfl⟩
      refine ⟨_, _, by rw [hr, show (8 : Int32) = nI (7 + 1) from rfl, g1, ob_s, if_pos rfl], by rw [tk2, g2, ob_s]; exact m_53 (q := sI (sI (sI q 22 (nI s)) 23 (nI e')) 2 (nI s)) m17 hP _ _ _ _, bad_tk (bad_f (fX_I f1 _ (by decide) (by decide)) (fM_I f2 _ (by decide)) sl.2 (gI_sI _ _ _) e0 e6 _) _ _ _ _ _⟩
  rcases hw with ⟨hw, hk⟩ | ⟨hw, hk⟩ | ⟨hw, hk⟩
  · subst hw; subst hk
    refine go (by omega) ?_
    rw [rp, if_neg (show ¬ (100 : Int32) = 114 by decide)]
    simp only [if_pos (show (100 : Int32) = 100 from rfl)]
    rfl
  · subst hw; subst hk
    refine go (by omega) ?_
    rw [rp, if_neg (show ¬ (117 : Int32) = 114 by decide)]
    simp only [if_neg (show ¬ (117 : Int32) = 100 by decide)]
    rfl
  subst hw; subst hk
  rw [if_pos rfl] at rp
  rw [if_pos (show nI 2 = 2 from rfl)] at tk
  generalize hkk : (fun (u10 u11 : Int32) (σ12 : SS) => if u11 = 0 then ob (FX4_fail σ12 (1 : Int32) (nI s)) (fun σ24 => some σ24) else if (2 : Int32) < u11 then FX4_readReference_J76 σ12 (nI s) else if u10 < (16 : Int32) then if (30 : Int32) ≤ (gI σ12 21) then some σ12 else gd (inb (gI σ12 21) 30) (bd (sA σ12 14 (upd (gA σ12 14) (Int32.toNatClampNeg (gI σ12 21)) (nI s))) (fun σ20 => ob (FX0_addPart σ20 (gI σ20 17) (2 : Int32) u10) (fun σ22 => some σ22))) else FX4_readReference_J76 σ12 (nI s)) = kk
  have rr : FX4_readReference (sI p 16 (nI (j + 1))) = FX4_readReference_L13 (nI s) kk 5000 (nI 0) (nI 0) (sI p 16 (nI s)) := by
    rw [FX4_readReference, x_skip ht (tp1 _) (gI_sI _ _ _) hj, ob_s, hs, sI_sI, gI_sI, ← hkk]; rfl
  have kb : ∀ σ, kk (nI 0) (nI 0) σ = some (sI (sI σ 15 (nI 1)) 11 (nI s)) := fun σ => by
    rw [← hkk]; rfl
  have k2 : ∀ (u : Int32) (σ : SS), kk u (nI 3) σ = some (sI (sI σ 15 (nI 2)) 11 (nI s)) := fun u σ => by
    rw [← hkk]; rfl
  have k3 : ∀ v f σ, v < 2 ^ 31 → f = 1 ∨ f = 2 → 16 ≤ v → kk (nI v) (nI f) σ = some (sI (sI σ 15 (nI 2)) 11 (nI s)) := fun v f σ hv hf h16 => by
    rw [← hkk]
    show (if nI f = 0 then _ else if (2 : Int32) < nI f then _ else if nI v < 16 then _ else _) = _
    rw [if_neg (nI_ne0 (by omega) (by omega)), if_neg (show ¬ (2 : Int32) < nI f from nI_nlt (a := 2) (b := f) (by omega) (by omega)), if_neg (show ¬ nI v < 16 from nI_nlt (b := 16) h16 hv)]; rfl
  have k4 : ∀ v f i, v < 16 → f = 1 ∨ f = 2 → kk (nI v) (nI f) (sI p 16 (nI i)) = ob (FX0_addPart (sA (sI p 16 (nI i)) 14 (upd (gA p 14) (cP C) (nI s))) (nI c) (nI 2) (nI v)) (fun σ22 => some σ22) := fun v f i hv hf => by
    rw [← hkk]
    show (if nI f = 0 then _ else if (2 : Int32) < nI f then _ else if nI v < 16 then if (30 : Int32) ≤ gI p 21 then _ else gd (inb (gI p 21) 30) (ob (FX0_addPart (sA (sI p 16 (nI i)) 14 (upd (gA p 14) (Int32.toNatClampNeg (gI p 21)) (nI s))) (gI p 17) (nI 2) (nI v)) (fun σ22 => some σ22)) else _) = _
    rw [if_neg (nI_ne0 (by omega) (by omega)), if_neg (show ¬ (2 : Int32) < nI f from nI_nlt (a := 2) (b := f) (by omega) (by omega)), if_pos (show nI v < 16 from nI_lt (b := 16) hv (by omega)), x21, if_neg (show ¬ (30 : Int32) ≤ nI (cP C) from nI_ge (b := 30) hP (by omega)), gd_t (inb_n hP (by omega)), nI_clamp (by omega), h17]
  have x13 := x_13 ht (nI s) kk (j := s) sl.2 4996 (tp1 (nI s)) (gI_sI _ _ _)
  rw [show (4996 + 4 : Nat) = 5000 from rfl, ← rr] at x13
  obtain ⟨n1, n2, n3, n4⟩ := m_number ht (j := s) sl.2 sno (tq1 (nI s)) (gI_sI _ _ _) ((gI_ne _ (by decide) _).trans e23)
  have f9 : ∀ t, isf L n t = true → L t ≤ 57 ∧ t < n := fun t h => by
    obtain ⟨y1, y2⟩ := isf_lt h
    unfold fig at y2
    rw [Bool.and_eq_true, decide_eq_true_eq, decide_eq_true_eq] at y2
    exact ⟨y2.2, y1⟩
  have good : ∀ v i, v < 16 → s < i → i ≤ n → FX4_readReference (sI p 16 (nI (j + 1))) = ob (FX0_addPart (sA (sI p 16 (nI i)) 14 (upd (gA p 14) (cP C) (nI s))) (nI c) (nI 2) (nI v)) (fun σ22 => some σ22) → FX8_clauseNumber (sI q 22 (nI s)) = some (nI v, sI q 22 (nI i)) → (∃ i C' p' q', FX4_readPart p 114 = some p' ∧ FX8_takesPart q (nI c) (nI 2) = some q' ∧ OkD a b C' p' q' ∧ cN C' = cN C ∧ j < i ∧ i ≤ n ∧ gI p' 16 = nI i ∧ gI q' 22 = nI i ∧ gI p' 17 = nI c) ∨ ∃ p' q', FX4_readPart p 114 = some p' ∧ FX8_takesPart q (nI c) (nI 2) = some q' ∧ Bad a b n p' q' := by
    intro v i hv hi hn r1 r2
    left
    obtain ⟨p', u1, u2, u3⟩ := x_addPart (p := sA (sI p 16 (nI i)) 14 (upd (gA p 14) (cP C) (nI s))) hC hX hP hc (show 2 < 3 by omega) (v := v) (by omega) (by omega)
    refine ⟨i, addP C 2 v c, p', tkM (sI q 22 (nI i)) (cP C) (nI c) (nI 2) (nI v) (nI s), ?_, ?_, okd_add (okd_m h (nI i)) hP (by omega) hc (by omega) (by omega) (fX_t (fX_A (fX_I (fX_r p) _ (by decide) (by decide)) _ (by decide) (by decide)) u3.1) u3.2.1 u3.2.2.1 u2 (fun i hi => ?_) (fun _ => ?_), rfl, by omega, hn, u3.2.2.2.1, rfl, u3.2.2.2.2.1.trans h17⟩
    · rw [rp, r1, u1, ob_s, ob_s]
    · rw [tk, r2, ob_s]; exact m_53 (q := sI q 22 (nI i)) m17 hP _ _ _ _
    · rw [u3.2.2.2.2.2]
      show upd (gA p 14) (cP C) (nI s) i = _
      rw [upd_eq, if_neg (by omega)]
    · rw [u3.2.2.2.2.2]
      show upd (gA p 14) (cP C) (nI s) (cP C) = _
      rw [upd_eq, if_pos rfl]
  have bad : ∀ (e i : Nat) (x : Int32), i ≤ n → 0 < e → e < 6 → FX4_readReference (sI p 16 (nI (j + 1))) = some (sI (sI (sI p 16 (nI i)) 15 (nI e)) 11 (nI s)) → FX8_clauseNumber (sI q 22 (nI s)) = some (x, sI (sI (sI q 22 (nI s)) 23 (nI e)) 2 (nI s)) → (∃ i C' p' q', FX4_readPart p 114 = some p' ∧ FX8_takesPart q (nI c) (nI 2) = some q' ∧ OkD a b C' p' q' ∧ cN C' = cN C ∧ j < i ∧ i ≤ n ∧ gI p' 16 = nI i ∧ gI q' 22 = nI i ∧ gI p' 17 = nI c) ∨ ∃ p' q', FX4_readPart p 114 = some p' ∧ FX8_takesPart q (nI c) (nI 2) = some q' ∧ Bad a b n p' q' := by
    intro e i x hi e0 e6 r1 r2
    right
    refine ⟨_, tkM (sI (sI (sI q 22 (nI s)) 23 (nI e)) 2 (nI s)) (cP C) (nI c) (nI 2) x (nI s), by rw [rp, r1, ob_s], ?_, bad_tk (bad_f (fX_I f1 _ (by decide) (by decide)) (fM_I f2 _ (by decide)) hi (gI_sI _ _ _) e0 e6 _) _ _ _ _ _⟩
    rw [tk, r2, ob_s]; exact m_53 (q := sI (sI (sI q 22 (nI s)) 23 (nI e)) 2 (nI s)) m17 hP _ _ _ _
  cases h0 : isf L n s with
  | false =>
    rw [if_pos h0, kb] at x13
    exact bad 1 s 0 sl.2 (by omega) (by omega) x13 (n1 h0)
  | true =>
    have a0 := f9 s h0
    rw [if_neg (by rw [h0]; decide)] at x13
    cases h1 : isf L n (s + 1) with
    | false =>
      rw [if_pos h1, sI_sI, k4 _ 1 _ (by omega) (Or.inl rfl)] at x13
      have r2 := n2 h0 h1
      rw [sI_sI] at r2
      exact good _ (s + 1) (by omega) (by omega) (by omega) x13 r2
    | true =>
      have a1 := f9 (s + 1) h1
      rw [if_neg (by rw [h1]; decide)] at x13
      cases h2 : isf L n (s + 2) with
      | false =>
        rw [if_pos h2, sI_sI] at x13
        rcases Nat.lt_or_ge ((L s - 48) * 10 + (L (s + 1) - 48)) 16 with g | g
        · rw [k4 _ 2 _ g (Or.inr rfl)] at x13
          have r2 := n3 h0 h1 h2 (by omega)
          rw [sI_sI] at r2
          exact good _ (s + 2) g (by omega) (by omega) x13 r2
        · rw [k3 _ 2 _ (by omega) (Or.inr rfl) g] at x13
          obtain ⟨x, r2⟩ := n4 h0 h1 (Or.inr (by omega))
          exact bad 2 (s + 2) x (by omega) (by omega) (by omega) x13 r2
      | true =>
        have a2 := f9 (s + 2) h2
        rw [if_neg (by rw [h2]; decide), sI_sI, k2] at x13
        obtain ⟨x, r2⟩ := n4 h0 h1 (Or.inl h2)
        exact bad 2 (s + 3) x (by omega) (by omega) (by omega) x13 r2
