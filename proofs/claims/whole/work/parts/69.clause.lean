/-! the two readers: a clause up to its opening sign -/
theorem both_head {a b : SS} {n : Nat} {L : Nat → Nat} (ht : Tx n L) (ta : TxX a n L) (tb : TxM b n L) {C : Cd} {p q : SS} (h : OkD a b C p q) {j : Nat} (hj : j < n) (h16 : gI p 16 = nI j) (h22 : gI q 22 = nI j) {o : Option Nat} (ho : ∀ d, o = some d → d < cN C) (h17 : gI p 17 = oI o) :
    (∃ i C' p' q', FX4_readClauseHead p = some p' ∧ FX8_opens q (oI o) = some q' ∧ OkD a b C' p' q' ∧ cN C' = cN C + 1 ∧ j < i ∧ i ≤ n ∧ gI p' 16 = nI i ∧ gI q' 22 = nI i ∧ gI p' 17 = nI (cN C)) ∨ ∃ p' q', FX4_readClauseHead p = some p' ∧ FX8_opens q (oI o) = some q' ∧ Bad a b n p' q' := by
  obtain ⟨f1, f2, e15, e23, e11, e2, hC, hX, hM, hL⟩ := id h
  have t1 := ht.1
  have w1 := hC.1
  have x20 : gI p 20 = nI (cN C) := hX.1
  have m12 : gI q 12 = nI (cN C) := hM.1
  by_cases hN : cN C = 16
  · right
    refine ⟨sI (sI p 15 (nI 3)) 11 (nI j), sI (sI q 23 (nI 3)) 2 (nI j), ?_, ?_, bad_f f1 f2 (by omega) h16 (by omega) (by omega) _⟩
    · rw [FX4_readClauseHead, FX0_addClause, x20, hN, if_neg (show ¬ nI 16 < 16 by decide), ob_s]
      show (if (-1 : Int32) = -1 then ob (FX4_fail p 3 (gI p 16)) _ else _) = _
      rw [if_pos rfl, x_fail, ob_s, h16]; rfl
    · rw [FX8_opens, m12, hN, if_pos (show nI 16 = 16 from rfl), m_fails e23, ob_s, h22]; rfl
  have hN : cN C < 16 := by omega
  have c4 : inb (nI (cN C)) 16 = true := inb_n hN (by omega)
  have c5 : Int32.toNatClampNeg (nI (cN C)) = cN C := nI_clamp (by omega)
  obtain ⟨p1, u1, u2, u3⟩ := x_addClause hC hX hN ho
  have o1 := okd_open h hN ho u3 u2 (nI (j + 1))
  generalize hq1 : opM q (cN C) (nI (j + 1)) (oI o) = q1 at o1
  have y1 : gI q1 22 = nI (j + 1) := by rw [← hq1]; rfl
  generalize hN' : cN C = N at *
  generalize hkX : (fun σ16 : SS => if (gI σ16 15) = 0 then ob (FX4_letterHere σ16) (fun r19 => if r19 = (42 : Int32) then bd (sI σ16 22 ((gI σ16 22) ||| (jshl (1 : Int32) (nI N)))) (fun σ28 => bd (sI σ28 16 ((gI σ28 16) + (1 : Int32))) (fun σ29 => ob (FX4_skipBlanks σ29) (fun σ31 => FX4_readClauseHead_J124 σ31 (nI N)))) else FX4_readClauseHead_J124 σ16 (nI N)) else some σ16) = kX
  generalize hkM : (fun σ58 : SS => if (gI σ58 23) = 0 then ob (FX8_sign σ58) (fun p68 => if p68.1 = (42 : Int32) then gd (inb (nI N) 16) (bd (sA p68.2 16 (upd (gA p68.2 16) N (1 : Int32))) (fun σ71 => bd (sI σ71 22 ((gI σ71 22) + (1 : Int32))) (fun σ72 => FX8_opens_J265 σ72))) else FX8_opens_J265 p68.2) else FX8_opens_J265 σ58) = kM
  have X : FX4_readClauseHead p = FX4_readClauseHead_L43 (nI N) kX 5000 (nI 0) (sI p1 16 (nI (skp L n (j + 1)))) := by
    rw [FX4_readClauseHead, h17, u1, ob_s]
    show (if nI N = -1 then _ else bd (sI p1 16 (gI p1 16 + 1)) _) = _
    rw [if_neg (nI_m1 (by omega)), bd_e, u3.2.2.2.1, h16, nI_1, x_skip ht (i := j + 1) (p := sI p1 16 (nI (j + 1))) (fX_T (fX_I o1.1 _ (by decide) (by decide)) ta) (gI_sI _ _ _) hj, ob_s, sI_sI, ← hkX]
    generalize (5000 : Nat) = F
    rfl
  have M : FX8_opens q (oI o) = FX8_opens_L68 (nI N) kM 5000 q1 := by
    rw [FX8_opens, m12, if_neg (show ¬ nI N = 16 from nI_ne (b := 16) (by omega) (by omega) (by omega)), bd_e, gd_t c4, bd_e, gd_t c4, bd_e, gd_t c4, bd_e, gd_t c4, bd_e, bd_e, c5, h22, nI_1, ← hkM, ← hq1]
    generalize (5000 : Nat) = F
    simp only [gIa, gAa, gIs, gAs, m12, nI_1, Nat.reduceEqDiff, reduceIte]
    rfl
  rw [X, M]
  have c1 : cN (addC C o) = N + 1 := by rw [← hN']; rfl
  have l0 : tld (addC C o) N = 0 := fb_ct_zero.mpr fun k hk => by
    show (bt (if N = cN C then 0 else cY C N) k || bt (if N = cN C then 0 else cW C N) k) = false
    rw [if_pos hN'.symm, if_pos hN'.symm, b_0]; rfl
  rcases both_wants ht ta tb kX kM (c := N) 7 0 (j + 1) (addC C o) (sI p1 16 (nI (skp L n (j + 1)))) q1 (by omega) (okd_x o1 _) c1 hj (gI_sI _ _ _) y1 l0 5000 5000 (by omega) (by omega) with ⟨i2, C2, p2, q2, r1, r2, o2, c2, j2, n2, x2, y2, sk2⟩ | ⟨p2, q2, r1, r2, bd2⟩
  · rw [r1, r2]
    have tp2 := fX_T o2.1 ta
    have tq2 := fM_T o2.2.1 tb
    have KX : kX p2 = if ltr L n i2 = 42 then ob (FX4_skipBlanks (sI (sI p2 22 (gI p2 22 ||| jshl 1 (nI N))) 16 (nI (i2 + 1)))) (fun σ31 => FX4_readClauseHead_J124 σ31 (nI N)) else FX4_readClauseHead_J124 p2 (nI N) := by
      rw [← hkX]
      show (if gI p2 15 = 0 then ob (FX4_letterHere p2) (fun r19 => if r19 = (42 : Int32) then ob (FX4_skipBlanks (sI (sI p2 22 (gI p2 22 ||| jshl 1 (nI N))) 16 (gI p2 16 + 1))) (fun σ31 => FX4_readClauseHead_J124 σ31 (nI N)) else FX4_readClauseHead_J124 p2 (nI N)) else some p2) = _
      rw [if_pos o2.2.2.1, x_letter ht tp2 x2 n2, ob_s, x2, nI_1]
    have KM : kM q2 = if ltr L n i2 = 42 then FX8_opens_J265 (sI (sA q2 16 (upd (gA q2 16) N 1)) 22 (nI (i2 + 1))) else FX8_opens_J265 q2 := by
      rw [← hkM]
      show (if gI q2 23 = 0 then ob (FX8_sign q2) (fun p68 => if p68.1 = (42 : Int32) then gd (inb (nI N) 16) (FX8_opens_J265 (sI (sA p68.2 16 (upd (gA p68.2 16) N (1 : Int32))) 22 (gI p68.2 22 + 1))) else FX8_opens_J265 p68.2) else FX8_opens_J265 q2) = _
      rw [if_pos o2.2.2.2.1, m_sign ht tq2 y2 n2, ob_s, sk2, sI_same q2 y2, gd_t c4, y2, nI_1]
    rw [KX, KM]
    by_cases e : ltr L n i2 = 42
    · rw [if_pos e, if_pos e]
      have i2n := ltr_lt e (by decide)
      have o3 : OkD a b (stC C2 N) (sI (sI p2 22 (gI p2 22 ||| jshl 1 (nI N))) 16 (nI (i2 + 1))) (sI (sA q2 16 (upd (gA q2 16) N 1)) 22 (nI (i2 + 1))) := okd_m (okd_x (okd_C o2 (c := N) (by omega)) _) _
      rw [x_skip ht (fX_T o3.1 ta) (gI_sI _ _ _) i2n, ob_s, sI_sI]
      have o4 := okd_x o3 (nI (skp L n (i2 + 1)))
      rw [sI_sI] at o4
      rcases both_paren ht ta tb o4 i2n (gI_sI _ _ _) (gI_sI _ _ _) N with ⟨i3, p3, q3, s1, s2, s3, s4, s5⟩ | ⟨p3, q3, s1, s2, s3⟩
      · left; exact ⟨i3, stC C2 N, p3, q3, s1, s2, s3, c2, by omega, s5⟩
      · right; exact ⟨p3, q3, s1, s2, s3⟩
    · rw [if_neg e, if_neg e]
      rcases both_paren ht ta tb o2 n2 (by rw [sk2]; exact x2) y2 N with ⟨i3, p3, q3, s1, s2, s3, s4, s5⟩ | ⟨p3, q3, s1, s2, s3⟩
      · left; exact ⟨i3, C2, p3, q3, s1, s2, s3, c2, by omega, s5⟩
      · right; exact ⟨p3, q3, s1, s2, s3⟩
  · right
    rw [r1, r2]
    refine ⟨p2, q2, ?_, ?_, bd2⟩
    · rw [← hkX]
      show (if gI p2 15 = 0 then _ else some p2) = _
      rw [if_neg (bad_15 bd2).1]
    · rw [← hkM]
      show (if gI q2 23 = 0 then _ else FX8_opens_J265 q2) = _
      rw [if_neg (bad_15 bd2).2, FX8_opens_J265, if_neg (bad_15 bd2).2]
