/-! the two readers: a want, all wants, a clause up to its opening sign -/
theorem ltr_lt {L : Nat → Nat} {n j : Nat} {v : Int32} (h : ltr L n j = v) (hv : ¬ v = -1) : j < n := by
  unfold ltr at h
  by_cases c : j < n
  · exact c
  · rw [if_neg c] at h; exact absurd h.symm hv
theorem both_want {a b : SS} {n : Nat} {L : Nat → Nat} (ht : Tx n L) (ta : TxX a n L) (tb : TxM b n L) {C : Cd} {p q : SS} (h : OkD a b C p q) {j : Nat} (hj : j < n) (h16 : gI p 16 = nI j) (h22 : gI q 22 = nI j) {c : Nat} (hc : cN C = c + 1) :
    (∃ i C' p' q', FX4_readWant p (nI c) = some p' ∧ (∀ rec, FX8_opens_J93 q rec (nI c) = rec q') ∧ OkD a b C' p' q' ∧ cN C' = c + 1 ∧ j < i ∧ i ≤ n ∧ gI p' 16 = nI i ∧ gI q' 22 = nI i ∧ tld C' c = tld C c + 1) ∨ ∃ p' q', FX4_readWant p (nI c) = some p' ∧ (∀ rec, FX8_opens_J93 q rec (nI c) = rec q') ∧ Bad a b n p' q' := by
  obtain ⟨f1, f2, e15, e23, e11, e2, hC, hX, hM, hL⟩ := id h
  have t1 := ht.1
  have tp := fX_T f1 ta
  have tq := fM_T f2 tb
  have w1 := hC.1
  have c16 : c < 16 := by omega
  have c4 : inb (nI c) 16 = true := inb_n c16 (by omega)
  have c5 : Int32.toNatClampNeg (nI c) = c := nI_clamp (by omega)
  have x25 : gA p 25 c = cY C c := (hX.2.2.2.1 c (by omega)).2.2.1
  have x26 : gA p 26 c = cW C c := (hX.2.2.2.1 c (by omega)).2.2.2
  have m14 : gA q 14 c = cY C c := (hM.2.2.1 c (by omega)).2.1
  have m15 : gA q 15 c = cW C c := (hM.2.2.1 c (by omega)).2.2.1
  have tp1 : ∀ v, TxX (sI p 16 v) n L := fun v => ⟨(gI_ne _ (by decide) _).trans tp.1, tp.2⟩
  have tq1 : ∀ v, TxM (sI q 22 v) n L := fun v => ⟨(gI_ne _ (by decide) _).trans tq.1, tq.2⟩
  obtain ⟨y, rd, rm⟩ : ∃ y : Bool, FX4_readWant p (nI c) = FX4_readWant_J14 p (nI c) (bI y) ∧ ∀ rec, FX8_opens_J93 q rec (nI c) = FX8_opens_J112 q rec (nI c) (bI y) := by
    have el : nI (L j) = ltr L n j := (if_pos hj).symm
    refine ⟨decide (ltr L n j = 43), ?_, fun rec => ?_⟩
    · rw [FX4_readWant, x_letter ht tp h16 (by omega), ob_s]
      by_cases e : ltr L n j = 43
      · rw [if_pos e, decide_eq_true e]; rfl
      · rw [if_neg e, decide_eq_false e]; rfl
    · rw [FX8_opens_J93, h22, gd_t (inb_n (by omega) (by omega)), nI_clamp (by omega), tq.2 j hj, el]
      by_cases e : ltr L n j = 43
      · rw [if_pos e, decide_eq_true e]; rfl
      · rw [if_neg e, decide_eq_false e]; rfl
  have sl := skp_le (L := L) (show j + 1 ≤ n from hj)
  rcases both_figure ht (tp1 (nI (j + 1))) (tq1 (nI (j + 1))) (gI_sI _ _ _) (gI_sI _ _ _) ((gI_ne _ (by decide) _).trans e23) hj (B := 5) (by omega) with ⟨v, hv, sn, g1, g2⟩ | ⟨e, he, g1, g2⟩
  · generalize hs : skp L n (j + 1) = s at sl sn g1 g2
    rw [sI_sI] at g1 g2
    have xh : ∀ σ s, FX7_has σ s (nI v) = some (bI (bt s v)) := fun σ s => x_has σ s (by omega)
    have mh : ∀ σ s, FX8_has σ s (nI v) = some (bI (bt s v)) := fun σ s => m_has σ s (by omega)
    have X : FX4_readWant p (nI c) = if bI (bt (cY C c ||| cW C c) v) = 0 then (if bI y = 0 then some (sA (sI p 16 (nI (s + 1))) 26 (upd (gA p 26) c (gA p 26 c ||| jshl 1 (nI v)))) else some (sA (sI p 16 (nI (s + 1))) 25 (upd (gA p 25) c (gA p 25 c ||| jshl 1 (nI v))))) else some (sI (sI (sI p 16 (nI (s + 1))) 15 (nI 4)) 11 (nI s)) := by
      rw [rd, FX4_readWant_J14, bd_e, h16, nI_1, show (6 : Int32) = nI (5 + 1) from rfl, g1, ob_s]
      show (if nI v = -1 then _ else gd (inb (nI c) 16) (gd (inb (nI c) 16) (ob (FX7_has (sI p 16 (nI (s + 1))) (gA p 25 (Int32.toNatClampNeg (nI c)) ||| gA p 26 (Int32.toNatClampNeg (nI c))) (nI v)) (fun r11 => if r11 = 0 then if bI y = 0 then gd (inb (nI c) 16) (gd (inb (nI c) 16) (some (sA (sI p 16 (nI (s + 1))) 26 (upd (gA p 26) (Int32.toNatClampNeg (nI c)) (gA p 26 (Int32.toNatClampNeg (nI c)) ||| jshl 1 (nI v)))))) else gd (inb (nI c) 16) (gd (inb (nI c) 16) (some (sA (sI p 16 (nI (s + 1))) 25 (upd (gA p 25) (Int32.toNatClampNeg (nI c)) (gA p 25 (Int32.toNatClampNeg (nI c)) ||| jshl 1 (nI v)))))) else some (sI (sI (sI p 16 (nI (s + 1))) 15 (nI 4)) 11 (nI (s + 1) - 1)))))) = _
      rw [if_neg (nI_m1 (by omega)), gd_t c4, gd_t c4, c5, xh, ob_s, x25, x26, gd_t c4, gd_t c4, gd_t c4, gd_t c4, nI_pred]
    have M : ∀ rec, FX8_opens_J93 q rec (nI c) = if bI (bt (cY C c ||| cW C c) v) = 0 then FX8_opens_J173 (sI q 22 (nI (s + 1))) rec (nI c) (bI y) (nI v) else FX8_opens_J173 (sI (sI (sI q 22 (nI s)) 23 (nI 4)) 2 (nI s)) rec (nI c) (bI y) (nI v) := by
      intro rec
      rw [rm, FX8_opens_J112, bd_e, h22, nI_1, show (5 : Int32) = nI 5 from rfl, g2, ob_s]
      show (if gI q 23 = 0 then gd (inb (nI c) 16) (gd (inb (nI c) 16) (ob (FX8_has (sI q 22 (nI (s + 1))) (gA q 14 (Int32.toNatClampNeg (nI c)) ||| gA q 15 (Int32.toNatClampNeg (nI c))) (nI v)) (fun r44 => if r44 = 0 then FX8_opens_J173 (sI q 22 (nI (s + 1))) rec (nI c) (bI y) (nI v) else ob (FX8_fails (sI (sI q 22 (nI (s + 1))) 22 (nI (s + 1) - 1)) (nI 4)) (fun σ49 => FX8_opens_J173 σ49 rec (nI c) (bI y) (nI v))))) else _) = _
      rw [if_pos e23, gd_t c4, gd_t c4, c5, m14, m15, mh, ob_s, nI_pred, sI_sI, m_fails (show gI (sI q 22 (nI s)) 23 = 0 from e23), ob_s, gI_sI]
    cases hb : bt (cY C c ||| cW C c) v with
    | false =>
      rw [hb, if_pos bI_f] at X
      left
      have h2 := okd_m (okd_x h (nI (s + 1))) (nI (s + 1))
      cases y with
      | true =>
        rw [if_neg bI_n] at X
        obtain ⟨o1, o2⟩ := okd_Y h2 (c := c) (by omega) (by omega) hb
        refine ⟨s + 1, _, _, _, X, fun rec => ?_, o1, hc, by omega, by omega, rfl, rfl, o2⟩
        rw [M rec, hb, if_pos bI_f, m_173 c16 (show gI (sI q 22 (nI (s + 1))) 23 = 0 from e23)]; rfl
      | false =>
        rw [if_pos bI_f] at X
        obtain ⟨o1, o2⟩ := okd_W h2 (c := c) (by omega) (by omega) hb
        refine ⟨s + 1, _, _, _, X, fun rec => ?_, o1, hc, by omega, by omega, rfl, rfl, o2⟩
        rw [M rec, hb, if_pos bI_f, m_173 c16 (show gI (sI q 22 (nI (s + 1))) 23 = 0 from e23)]; rfl
    | true =>
      rw [hb, if_neg bI_n] at X
      right
      refine ⟨_, _, X, fun rec => ?_, bad_wn (bad_f (p := sI p 16 (nI (s + 1))) (q := sI q 22 (nI s)) (fX_I f1 _ (by decide) (by decide)) (fM_I f2 _ (by decide)) (j := s + 1) (by omega) (gI_sI _ _ _) (e := 4) (by omega) (by omega) (nI s)) c (gA q 14 c ||| 0) (gA q 15 c ||| 0)⟩
      · rw [M rec, hb, if_neg bI_n, m_173b c16 (show ¬ gI (sI (sI (sI q 22 (nI s)) 23 (nI 4)) 2 (nI s)) 23 = 0 from (show ¬ nI 4 = 0 by decide))]; rfl
  · generalize hs : skp L n (j + 1) = s at sl g1 g2
    rw [sI_sI] at g1 g2
    right
    obtain ⟨e', e0, e6, rfl⟩ : ∃ e', 0 < e' ∧ e' < 6 ∧ e = nI e' := by
      rcases he with rfl | rfl
      · exact ⟨1, by omega, by omega, rfl⟩
      · exact ⟨2, by omega, by omega, rfl⟩
    refine ⟨sI (sI (sI p 16 (nI s)) 15 (nI e')) 11 (nI s), _, ?_, fun rec => ?_, bad_wn (bad_f (p := sI p 16 (nI s)) (q := sI q 22 (nI s)) (fX_I f1 _ (by decide) (by decide)) (fM_I f2 _ (by decide)) (j := s) (by omega) (gI_sI _ _ _) (e := e') (by omega) (by omega) (nI s)) c (gA q 14 c ||| 0) (gA q 15 c ||| 0)⟩
    · rw [rd, FX4_readWant_J14, bd_e, h16, nI_1, show (6 : Int32) = nI (5 + 1) from rfl, g1, ob_s, if_pos rfl]
    · rw [rm, FX8_opens_J112, bd_e, h22, nI_1, show (5 : Int32) = nI 5 from rfl, g2, ob_s]
      show (if nI e' = 0 then _ else FX8_opens_J173 (sI (sI (sI q 22 (nI s)) 23 (nI e')) 2 (nI s)) rec (nI c) (bI y) 0) = _
      rw [if_neg (nI_ne0 e0 (by omega)), m_173b c16 (show ¬ gI (sI (sI (sI q 22 (nI s)) 23 (nI e')) 2 (nI s)) 23 = 0 from nI_ne0 e0 (by omega))]; rfl
theorem x_isWant {n : Nat} {L : Nat → Nat} (ht : Tx n L) {i : Nat} {p : SS} (hp : TxX p n L) (h16 : gI p 16 = nI i) (hi : i ≤ n) : FX4_isWantHere p = some (bI (decide (ltr L n i = 43) || decide (ltr L n i = 45))) := by
  rw [FX4_isWantHere, x_letter ht hp h16 hi, ob_s]
  by_cases e : ltr L n i = 43
  · rw [if_pos e, decide_eq_true e]; rfl
  · rw [if_neg e, decide_eq_false e]
    by_cases e : ltr L n i = 45
    · rw [if_pos e, decide_eq_true e]; rfl
    · rw [if_neg e, decide_eq_false e]; rfl
theorem bad_x {a b : SS} {n : Nat} {p q : SS} (h : Bad a b n p q) {i : Nat} (hi : i ≤ n) : Bad a b n (sI p 16 (nI i)) q := by
  obtain ⟨h1, h2, h3, h4, h5⟩ := h
  exact ⟨fX_I h1 _ (by decide) (by decide), h2, ⟨i, hi, gI_sI _ _ _⟩, h4, h5⟩
theorem bad_skip {a b : SS} {n : Nat} {L : Nat → Nat} (ht : Tx n L) (ta : TxX a n L) {p q : SS} (h : Bad a b n p q) : ∃ p', FX4_skipBlanks p = some p' ∧ Bad a b n p' q := by
  obtain ⟨i, hi, h16⟩ := h.2.2.1
  exact ⟨_, x_skip ht (fX_T h.1 ta) h16 hi, bad_x h (skp_le hi).2⟩
theorem bad_15 {a b : SS} {n : Nat} {p q : SS} (h : Bad a b n p q) : ¬ gI p 15 = 0 ∧ ¬ gI q 23 = 0 := by
  obtain ⟨e, e0, e6, u1, u2⟩ := h.2.2.2.1
  rw [u1, u2]
  exact ⟨nI_ne0 e0 (by omega), nI_ne0 e0 (by omega)⟩
theorem x_43b {a b : SS} {n : Nat} {L : Nat → Nat} (ht : Tx n L) (ta : TxX a n L) {p q : SS} (h : Bad a b n p q) (v1 v : Int32) (k : SS → Option SS) (f : Nat) : FX4_readClauseHead_L43 v1 k (f + 1) v p = k p := by
  obtain ⟨i, hi, h16⟩ := h.2.2.1
  rw [FX4_readClauseHead_L43, x_isWant ht (fX_T h.1 ta) h16 hi, ob_s]
  by_cases c : (6 : Int32) < v
  · rw [if_pos c]
  · rw [if_neg c]
    by_cases d : bI (decide (ltr L n i = 43) || decide (ltr L n i = 45)) = 0
    · rw [if_pos d]
    · rw [if_neg d, if_neg (bad_15 h).1]
theorem wants_step {a b : SS} {n : Nat} {L : Nat → Nat} (ht : Tx n L) (ta : TxX a n L) (tb : TxM b n L) (kX kM : SS → Option SS) {c : Nat} {C : Cd} {p q : SS} (h : OkD a b C p q) {i s v : Nat} (hi : i ≤ n) (hs : skp L n i = s) (h16 : gI p 16 = nI s) (h22 : gI q 22 = nI i) (hv : v ≤ 6) (fx fm : Nat) :
    (FX4_readClauseHead_L43 (nI c) kX (fx + 1) (nI v) p = kX p ∧ FX8_opens_L68 (nI c) kM (fm + 1) q = kM (sI q 22 (nI s))) ∨
    (s < n ∧ FX4_readClauseHead_L43 (nI c) kX (fx + 1) (nI v) p = ob (FX4_readWant p (nI c)) (fun σ13 => ob (FX4_skipBlanks σ13) (fun σ15 => FX4_readClauseHead_L43 (nI c) kX fx (nI (v + 1)) σ15)) ∧ FX8_opens_L68 (nI c) kM (fm + 1) q = FX8_opens_J93 (sI q 22 (nI s)) (fun σ => FX8_opens_L68 (nI c) kM fm σ) (nI c)) := by
  have tp := fX_T h.1 ta
  have tq := fM_T h.2.1 tb
  have sl := skp_le (L := L) hi
  have sid := skp_idem (L := L) hi
  rw [hs] at sl sid
  have tq1 : TxM (sI q 22 (nI s)) n L := ⟨(gI_ne _ (by decide) _).trans tq.1, tq.2⟩
  have X : FX4_readClauseHead_L43 (nI c) kX (fx + 1) (nI v) p = if bI (decide (ltr L n s = 43) || decide (ltr L n s = 45)) = 0 then kX p else ob (FX4_readWant p (nI c)) (fun σ13 => ob (FX4_skipBlanks σ13) (fun σ15 => FX4_readClauseHead_L43 (nI c) kX fx (nI (v + 1)) σ15)) := by
    rw [FX4_readClauseHead_L43, if_neg (show ¬ (6 : Int32) < nI v from nI_nlt (a := 6) (by omega) (by omega)), x_isWant ht tp h16 sl.2, ob_s, h.2.2.1, if_pos (show (0 : Int32) = 0 from rfl), nI_1]
  have M : FX8_opens_L68 (nI c) kM (fm + 1) q = if ltr L n s = 43 then FX8_opens_J93 (sI q 22 (nI s)) (fun σ => FX8_opens_L68 (nI c) kM fm σ) (nI c) else if ltr L n s = 45 then FX8_opens_J93 (sI q 22 (nI s)) (fun σ => FX8_opens_L68 (nI c) kM fm σ) (nI c) else kM (sI q 22 (nI s)) := by
    rw [FX8_opens_L68, h.2.2.2.1, if_pos (show (0 : Int32) = 0 from rfl), m_sign ht tq h22 hi, ob_s, hs, m_sign ht tq1 (gI_sI _ _ _) sl.2, ob_s, sid, sI_sI]
  rw [X, M]
  by_cases e3 : ltr L n s = 43
  · right
    rw [decide_eq_true e3, Bool.true_or, if_neg bI_n, if_pos e3]
    exact ⟨ltr_lt e3 (by decide), rfl, rfl⟩
  · rw [decide_eq_false e3, Bool.false_or, if_neg e3]
    by_cases e5 : ltr L n s = 45
    · right
      rw [decide_eq_true e5, if_neg bI_n, if_pos e5]
      exact ⟨ltr_lt e5 (by decide), rfl, rfl⟩
    · left
      rw [decide_eq_false e5, if_pos bI_f, if_neg e5]
      exact ⟨rfl, rfl⟩
theorem both_wants {a b : SS} {n : Nat} {L : Nat → Nat} (ht : Tx n L) (ta : TxX a n L) (tb : TxM b n L) (kX kM : SS → Option SS) {c : Nat} : ∀ m v i C p q, 6 < v + m → OkD a b C p q → cN C = c + 1 → i ≤ n → gI p 16 = nI (skp L n i) → gI q 22 = nI i → tld C c = v → ∀ fx fm, m + 1 ≤ fx → m + 1 ≤ fm →
    (∃ i' C' p' q', FX4_readClauseHead_L43 (nI c) kX fx (nI v) p = kX p' ∧ FX8_opens_L68 (nI c) kM fm q = kM q' ∧ OkD a b C' p' q' ∧ cN C' = c + 1 ∧ i ≤ i' ∧ i' ≤ n ∧ gI p' 16 = nI i' ∧ gI q' 22 = nI i' ∧ skp L n i' = i') ∨ ∃ p' q', FX4_readClauseHead_L43 (nI c) kX fx (nI v) p = kX p' ∧ FX8_opens_L68 (nI c) kM fm q = kM q' ∧ Bad a b n p' q' := by
  intro m
  induction m with
  | zero =>
    intro v i C p q hv h hc hi h16 h22 hl fx fm hfx hfm
    have : tld C c ≤ 6 := fb_ct_le _ 6
    omega
  | succ m ih =>
    intro v i C p q hv h hc hi h16 h22 hl fx fm hfx hfm
    have l6 : tld C c ≤ 6 := fb_ct_le _ 6
    obtain ⟨fx, rfl⟩ : ∃ z, fx = z + 2 := ⟨fx - 2, by omega⟩
    obtain ⟨fm, rfl⟩ : ∃ z, fm = z + 2 := ⟨fm - 2, by omega⟩
    have sl := skp_le (L := L) hi
    have sid := skp_idem (L := L) hi
    generalize hs : skp L n i = s at sl sid h16
    rcases wants_step ht ta tb kX kM (c := c) h hi hs h16 h22 (v := v) (by omega) (fx + 1) (fm + 1) with ⟨g1, g2⟩ | ⟨sn, g1, g2⟩
    · left
      exact ⟨s, C, p, _, g1, g2, okd_m h _, hc, sl.1, sl.2, h16, gI_sI _ _ _, sid⟩
    · rw [g1, g2]
      rcases both_want ht ta tb (okd_m h (nI s)) sn h16 (gI_sI _ _ _) hc with ⟨i2, C2, p2, q2, r1, r2, o2, c2, j2, n2, x2, y2, l2⟩ | ⟨p2, q2, r1, r2, bd2⟩
      · rw [r1, ob_s, r2, x_skip ht (fX_T o2.1 ta) x2 n2, ob_s]
        rcases ih (v + 1) i2 C2 (sI p2 16 (nI (skp L n i2))) q2 (by omega) (okd_x o2 _) c2 n2 (gI_sI _ _ _) y2 (by omega) (fx + 1) (fm + 1) (by omega) (by omega) with ⟨i3, C3, p3, q3, s1, s2, s3, s4, s5, s6⟩ | ⟨p3, q3, s1, s2, s3⟩
        · left; exact ⟨i3, C3, p3, q3, s1, s2, s3, s4, by omega, s6⟩
        · right; exact ⟨p3, q3, s1, s2, s3⟩
      · obtain ⟨p3, u1, u2⟩ := bad_skip ht ta bd2
        right
        refine ⟨p3, q2, ?_, ?_, u2⟩
        · rw [r1, ob_s, u1, ob_s]; exact x_43b ht ta u2 _ _ _ _
        · rw [r2, FX8_opens_L68, if_neg (bad_15 u2).2]
theorem both_paren {a b : SS} {n : Nat} {L : Nat → Nat} (ht : Tx n L) (ta : TxX a n L) (tb : TxM b n L) {C : Cd} {p q : SS} (h : OkD a b C p q) {i : Nat} (hi : i ≤ n) (h16 : gI p 16 = nI (skp L n i)) (h22 : gI q 22 = nI i) (c : Nat) :
    (∃ i' p' q', FX4_readClauseHead_J124 p (nI c) = some p' ∧ FX8_opens_J265 q = some q' ∧ OkD a b C p' q' ∧ i < i' ∧ i' ≤ n ∧ gI p' 16 = nI i' ∧ gI q' 22 = nI i' ∧ gI p' 17 = nI c) ∨ ∃ p' q', FX4_readClauseHead_J124 p (nI c) = some p' ∧ FX8_opens_J265 q = some q' ∧ Bad a b n p' q' := by
  have tp := fX_T h.1 ta
  have tq := fM_T h.2.1 tb
  have sl := skp_le (L := L) hi
  rw [FX4_readClauseHead_J124, x_letter ht tp h16 sl.2, ob_s, FX8_opens_J265, if_pos h.2.2.2.1, m_sign ht tq h22 hi, ob_s]
  generalize hs : skp L n i = s at sl h16
  have e23 : gI (sI q 22 (nI s)) 23 = 0 := h.2.2.2.1
  rw [bd_e, bd_e, bd_e, h16, nI_1, x_fail, ob_s, m_fails e23, ob_s, gI_sI, nI_1, sI_sI]
  by_cases e : ltr L n s = 40
  · left
    have sn := ltr_lt e (by decide)
    exact ⟨s + 1, _, _, if_pos e, if_pos e, okd_i (okd_m (okd_x h (nI (s + 1))) (nI (s + 1))) (nI c), by omega, by omega, rfl, rfl, rfl⟩
  · right
    exact ⟨_, _, if_neg e, if_neg e, bad_f (e := 1) h.1 (fM_I h.2.1 _ (by decide)) sl.2 h16 (by omega) (by omega) (nI s)⟩
theorem okd_C {a b : SS} {C : Cd} {p q : SS} (h : OkD a b C p q) {c : Nat} (hc : c < cN C) : OkD a b (stC C c) (sI p 22 (gI p 22 ||| jshl 1 (nI c))) (sA q 16 (upd (gA q 16) c 1)) := by
  obtain ⟨f1, f2, e15, e23, e11, e2, hC, hX, hM, hL⟩ := h
  have w1 := hC.1
  refine ⟨fX_I f1 _ (by decide) (by decide), fM_A f2 _ (by decide) (by decide), e15, e23, e11, e2, hC, ⟨hX.1, hX.2.1, fun x hx => ?_, fun x hx => ?_, hX.2.2.2.2.1, hX.2.2.2.2.2⟩, ⟨hM.1, hM.2.1, fun x hx => ?_, hM.2.2.2⟩, hL⟩
  · show bt (gI p 22 ||| jshl 1 (nI c)) x = (decide (x < cN C) && (if x = c then true else cC C x))
    rw [b_or, hX.2.2.1 x hx, b_one (by omega) hx]
    by_cases e : x = c
    · rw [if_pos e, decide_eq_true e, decide_eq_true (show x < cN C by omega)]; simp
    · rw [if_neg e, decide_eq_false e, Bool.or_false]
  · show gA p 23 x = oI (cA C x) ∧ gA p 24 x = nI (dep (stC C c) x) ∧ gA p 25 x = cY C x ∧ gA p 26 x = cW C x
    rw [dep_A (C := C) (C' := stC C c) rfl]
    exact hX.2.2.2.1 x hx
  · show gA q 13 x = oI (cA C x) ∧ gA q 14 x = cY C x ∧ gA q 15 x = cW C x ∧ upd (gA q 16) c 1 x = bI (if x = c then true else cC C x)
    have w := hM.2.2.1 x hx
    refine ⟨w.1, w.2.1, w.2.2.1, ?_⟩
    rw [upd_eq]
    by_cases e : x = c
    · rw [if_pos e, if_pos e]; rfl
    · rw [if_neg e, if_neg e]; exact w.2.2.2
