/-! the two readers: a word, all words -/
theorem both_word {a b : SS} {n : Nat} {L : Nat → Nat} (ht : Tx n L) (ta : TxX a n L) (tb : TxM b n L) {C : Cd} {p q : SS} (h : OkD a b C p q) {j : Nat} (hj : j < n) (sj : skp L n j = j) (h16 : gI p 16 = nI j) (h22 : gI q 22 = nI j) {o : Option Nat} (ho : ∀ d, o = some d → d < cN C) (h17 : gI p 17 = oI o) :
    (∃ i C' p' q' o', FX4_readWord p = some p' ∧ (∀ rec, FX8_reads_J22 q rec (oI o) = rec (oI o') q') ∧ OkD a b C' p' q' ∧ j < i ∧ i ≤ n ∧ gI p' 16 = nI i ∧ gI q' 22 = nI i ∧ gI p' 17 = oI o' ∧ ∀ d, o' = some d → d < cN C') ∨ ∃ p' q' v, FX4_readWord p = some p' ∧ (∀ rec, FX8_reads_J22 q rec (oI o) = rec v q') ∧ Bad a b n p' q' := by
  obtain ⟨f1, f2, e15, e23, e11, e2, hC, hX, hM, hL⟩ := id h
  have t1 := ht.1
  have w1 := hC.1
  have tp := fX_T f1 ta
  have tq := fM_T f2 tb
  have X : FX4_readWord p = if ltr L n j = 99 then ob (FX4_readClauseHead p) (fun σ23 => some σ23) else if oI o = -1 then some (sI (sI p 15 (nI 1)) 11 (nI j)) else if ltr L n j = 41 then if gI p 20 ≤ oI o then FX4_readWord_J81 p else if oI o < 0 then FX4_readWord_J81 p else gd (inb (oI o) 16) (some (sI (sI p 17 (gA p 23 (Int32.toNatClampNeg (oI o)))) 16 (nI (j + 1)))) else if ltr L n j = 100 then FX4_readWord_J116 p (ltr L n j) else if ltr L n j = 117 then FX4_readWord_J116 p (ltr L n j) else if ltr L n j = 114 then FX4_readWord_J116 p (ltr L n j) else some (sI (sI p 15 (nI 1)) 11 (nI j)) := by
    rw [FX4_readWord, x_letter ht tp h16 (by omega), ob_s, h17, x_fail, ob_s, h16, bd_e, bd_e, gIs, if_neg (show ¬ 16 = 17 by decide), h16, nI_1]; rfl
  have M : ∀ rec, FX8_reads_J22 q rec (oI o) = if ltr L n j = 99 then ob (FX8_opens q (oI o)) (fun σ43 => rec ((gI σ43 12) - (1 : Int32)) σ43) else if ltr L n j = 41 then if oI o = -1 then FX8_reads_J79 q rec (oI o) (ltr L n j) else gd (inb (oI o) 16) (rec (gA q 13 (Int32.toNatClampNeg (oI o))) (sI q 22 (nI (j + 1)))) else FX8_reads_J79 q rec (oI o) (ltr L n j) := fun rec => by
    rw [FX8_reads_J22, m_sign ht tq h22 (by omega), ob_s, sj, sI_same q h22, bd_e, h22, nI_1]; rfl
  have F : ∀ rec v, FX8_reads_J131 q rec v = rec v (sI (sI q 23 (nI 1)) 2 (nI j)) := fun rec v => by
    rw [FX8_reads_J131, m_fails e23, ob_s, h22]; rfl
  have B : Bad a b n (sI (sI p 15 (nI 1)) 11 (nI j)) (sI (sI q 23 (nI 1)) 2 (nI j)) := bad_f f1 f2 (by omega) h16 (by omega) (by omega) _
  rw [X]
  by_cases e9 : ltr L n j = 99
  · simp only [M, if_pos e9]
    rcases both_head ht ta tb h hj h16 h22 ho h17 with ⟨i, C', p', q', r1, r2, o1, c1, j1, n1, x1, y1, z1⟩ | ⟨p', q', r1, r2, bd1⟩
    · left
      refine ⟨i, C', p', q', some (cN C), by rw [r1, ob_s], fun rec => ?_, o1, j1, n1, x1, y1, z1, fun d hd => by cases hd; omega⟩
      rw [r2, ob_s, o1.2.2.2.2.2.2.2.2.1.1, c1, nI_pred]; rfl
    · right
      exact ⟨p', q', _, by rw [r1, ob_s], fun rec => by rw [r2, ob_s], bd1⟩
  rw [if_neg e9]
  cases o with
  | none =>
    right
    rw [if_pos (show oI none = -1 from rfl)]
    refine ⟨_, _, -1, rfl, fun rec => ?_, B⟩
    have J : FX8_reads_J79 q rec (oI none) (ltr L n j) = rec (-1) (sI (sI q 23 (nI 1)) 2 (nI j)) := by
      rw [FX8_reads_J79, if_pos (show oI none = -1 from rfl)]; exact F rec _
    rw [M, if_neg e9, if_pos (show oI none = -1 from rfl), J]
    split <;> rfl
  | some c =>
    have hc := ho c rfl
    have c4 : inb (nI c) 16 = true := inb_n (by omega) (by omega)
    have c5 : Int32.toNatClampNeg (nI c) = c := nI_clamp (by omega)
    have cm : ¬ oI (some c) = -1 := nI_m1 (by omega)
    rw [if_neg cm]
    by_cases e4 : ltr L n j = 41
    · left
      rw [if_pos e4]
      refine ⟨j + 1, C, sI (sI p 17 (oI (cA C c))) 16 (nI (j + 1)), sI q 22 (nI (j + 1)), cA C c, ?_, fun rec => ?_, okd_x (okd_i (okd_m h _) _) _, by omega, by omega, rfl, rfl, rfl, fun d hd => ?_⟩
      · show (if gI p 20 ≤ nI c then _ else if nI c < 0 then _ else gd (inb (nI c) 16) (some (sI (sI p 17 (gA p 23 (Int32.toNatClampNeg (nI c)))) 16 (nI (j + 1))))) = _
        rw [hX.1, if_neg (nI_ge hc (by omega)), if_neg (nI_pos (by omega)), gd_t c4, c5, (hX.2.2.2.1 c hc).1]
      · rw [M, if_neg e9, if_pos e4, if_neg cm]
        show gd (inb (nI c) 16) (rec (gA q 13 (Int32.toNatClampNeg (nI c))) (sI q 22 (nI (j + 1)))) = _
        rw [gd_t c4, c5, (hM.2.2.1 c hc).1]
      · have := hC.2.2.1 c hc d hd
        omega
    rw [if_neg e4]
    have P : ∀ {w : Int32} {k : Nat}, (w = 100 ∧ k = 0) ∨ (w = 117 ∧ k = 1) ∨ (w = 114 ∧ k = 2) → (∀ rec, FX8_reads_J22 q rec (oI (some c)) = ob (FX8_takesPart q (nI c) (nI k)) (fun σ18 => rec (nI c) σ18)) → (∃ i C' p' q' o', FX4_readWord_J116 p w = some p' ∧ (∀ rec, FX8_reads_J22 q rec (oI (some c)) = rec (oI o') q') ∧ OkD a b C' p' q' ∧ j < i ∧ i ≤ n ∧ gI p' 16 = nI i ∧ gI q' 22 = nI i ∧ gI p' 17 = oI o' ∧ ∀ d, o' = some d → d < cN C') ∨ ∃ p' q' v, FX4_readWord_J116 p w = some p' ∧ (∀ rec, FX8_reads_J22 q rec (oI (some c)) = rec v q') ∧ Bad a b n p' q' := by
      intro w k hw hr
      rcases both_part ht ta tb h hj h16 h22 hc h17 hw with ⟨i, C', p', q', r1, r2, o1, c1, j1, n1, x1, y1, z1⟩ | ⟨p', q', r1, r2, bd1⟩
      · left
        exact ⟨i, C', p', q', some c, by rw [FX4_readWord_J116, r1, ob_s], fun rec => by rw [hr, r2, ob_s]; rfl, o1, j1, n1, x1, y1, z1, fun d hd => by cases hd; omega⟩
      · right
        exact ⟨p', q', nI c, by rw [FX4_readWord_J116, r1, ob_s], fun rec => by rw [hr, r2, ob_s], bd1⟩
    by_cases e0 : ltr L n j = 100
    · rw [if_pos e0, e0]
      refine P (k := 0) (Or.inl ⟨rfl, rfl⟩) fun rec => ?_
      rw [M, if_neg e9, if_neg e4, FX8_reads_J79, if_neg cm, if_pos e0, FX8_reads_J102, if_pos e0]; rfl
    rw [if_neg e0]
    by_cases e7 : ltr L n j = 117
    · rw [if_pos e7, e7]
      refine P (k := 1) (Or.inr (Or.inl ⟨rfl, rfl⟩)) fun rec => ?_
      rw [M, if_neg e9, if_neg e4, FX8_reads_J79, if_neg cm, if_neg e0, if_pos e7, FX8_reads_J102, if_neg e0, if_pos e7]; rfl
    rw [if_neg e7]
    by_cases e1 : ltr L n j = 114
    · rw [if_pos e1, e1]
      refine P (k := 2) (Or.inr (Or.inr ⟨rfl, rfl⟩)) fun rec => ?_
      rw [M, if_neg e9, if_neg e4, FX8_reads_J79, if_neg cm, if_neg e0, if_neg e7, if_pos e1, FX8_reads_J102, if_neg e0, if_neg e7]; rfl
    rw [if_neg e1]
    right
    refine ⟨_, _, nI c, rfl, fun rec => ?_, B⟩
    rw [M, if_neg e9, if_neg e4, FX8_reads_J79, if_neg cm, if_neg e0, if_neg e7, if_neg e1]
    exact F _ _
/-- what the desk does behind the last word -/
def kEnd (σ : SS) : Option (Int32 × SS) := if (gI σ 15) = 0 then if (gI σ 17) = (-1 : Int32) then FX4_readText_J96 σ else ob (FX4_fail σ (1 : Int32) (gI σ 10)) (fun σ25 => FX4_readText_J96 σ25) else FX4_readText_J96 σ
theorem x_33b {a b : SS} {n : Nat} {p q : SS} (h : Bad a b n p q) (v : Int32) (f : Nat) : FX4_readText_L33 kEnd (f + 1) v p = FX4_readText_J96 p := by
  have k : kEnd p = FX4_readText_J96 p := by rw [kEnd, if_neg (bad_15 h).1]
  rw [FX4_readText_L33, if_neg (bad_15 h).1, k]
  split
  · rfl
  · split <;> rfl
theorem text_end {a b : SS} {n : Nat} {L : Nat → Nat} (ht : Tx n L) (ta : TxX a n L) (tb : TxM b n L) (kM : SS → Option SS) {w i : Nat} {C : Cd} {p q : SS} {o : Option Nat} (h : OkD a b C p q) (hi : i ≤ n) (hn : n ≤ skp L n i) (h16 : gI p 16 = nI (skp L n i)) (h22 : gI q 22 = nI i) (h17 : gI p 17 = oI o) (ho : ∀ d, o = some d → d < cN C) (fx fm : Nat) :
    ∃ p' q', FX4_readText_L33 kEnd (fx + 1) (nI w) p = FX4_readText_J96 p' ∧ FX8_reads_L2 kM (fm + 2) (oI o) q = kM q' ∧ ((∃ C' i', OkD a b C' p' q' ∧ i' ≤ n ∧ gI p' 16 = nI i') ∨ Bad a b n p' q') := by
  obtain ⟨f1, f2, e15, e23, e11, e2, hC, hX, hM, hL⟩ := id h
  have t1 := ht.1
  have w1 := hC.1
  have tp := fX_T f1 ta
  have tq := fM_T f2 tb
  have sl := skp_le (L := L) hi
  have sn : skp L n i = n := by omega
  rw [sn] at h16
  have tq1 : TxM (sI q 22 (nI n)) n L := ⟨(gI_ne _ (by decide) _).trans tq.1, tq.2⟩
  have l1 : ltr L n n = -1 := if_neg (Nat.lt_irrefl _)
  have s2 : skp L n n = n := skp_two (Nat.le_refl _) (fun c => by omega)
  have X : FX4_readText_L33 kEnd (fx + 1) (nI w) p = kEnd p := by
    rw [FX4_readText_L33, tp.1, h16, if_pos (nI_le (Nat.le_refl n) (by omega))]
    split <;> rfl
  have M0 : FX8_reads_L2 kM (fm + 2) (oI o) q = if oI o = -1 then kM (sI q 22 (nI n)) else FX8_reads_J22 (sI q 22 (nI n)) (fun a47 σ48 => FX8_reads_L2 kM (fm + 1) a47 σ48) (oI o) := by
    rw [FX8_reads_L2, if_pos e23, m_sign ht tq h22 hi, ob_s, sn, l1, if_pos (show (-1 : Int32) = -1 from rfl)]
  rw [X, M0, kEnd, if_pos e15, h17]
  cases o with
  | none =>
    rw [if_pos (show oI none = -1 from rfl), if_pos (show oI none = -1 from rfl)]
    exact ⟨p, _, rfl, rfl, Or.inl ⟨C, n, okd_m h _, Nat.le_refl _, h16⟩⟩
  | some c =>
    have hc := ho c rfl
    have cm : ¬ oI (some c) = -1 := nI_m1 (by omega)
    have e23' : gI (sI q 22 (nI n)) 23 = 0 := e23
    rw [if_neg cm, if_neg cm, x_fail, ob_s, tp.1]
    refine ⟨_, sI (sI (sI q 22 (nI n)) 23 (nI 1)) 2 (nI n), rfl, ?_, Or.inr (bad_f (e := 1) f1 (fM_I f2 _ (by decide)) (Nat.le_refl n) h16 (by omega) (by omega) (nI n))⟩
    rw [FX8_reads_J22, m_sign ht tq1 (gI_sI _ _ _) (Nat.le_refl n), ob_s, s2, l1, sI_sI]
    show (if (-1 : Int32) = 99 then _ else if (-1 : Int32) = 41 then _ else FX8_reads_J79 (sI q 22 (nI n)) (fun a35 σ36 => FX8_reads_L2 kM (fm + 1) a35 σ36) (oI (some c)) (-1)) = _
    rw [if_neg (show ¬ (-1 : Int32) = 99 by decide), if_neg (show ¬ (-1 : Int32) = 41 by decide), FX8_reads_J79, if_neg cm, if_neg (show ¬ (-1 : Int32) = 100 by decide), if_neg (show ¬ (-1 : Int32) = 117 by decide), if_neg (show ¬ (-1 : Int32) = 114 by decide), FX8_reads_J131, m_fails e23', ob_s, gI_sI, FX8_reads_L2, if_neg (show ¬ gI (sI (sI (sI q 22 (nI n)) 23 1) 2 (nI n)) 23 = 0 from (show ¬ (1 : Int32) = 0 by decide))]
    rfl
theorem both_text {a b : SS} {n : Nat} {L : Nat → Nat} (ht : Tx n L) (ta : TxX a n L) (tb : TxM b n L) (kM : SS → Option SS) : ∀ m w i C p q o, OkD a b C p q → i ≤ n → gI p 16 = nI (skp L n i) → gI q 22 = nI i → gI p 17 = oI o → (∀ d, o = some d → d < cN C) → n ≤ i + m → w ≤ i → ∀ fx fm, m + 2 ≤ fx → m + 2 ≤ fm →
    ∃ p' q', FX4_readText_L33 kEnd fx (nI w) p = FX4_readText_J96 p' ∧ FX8_reads_L2 kM fm (oI o) q = kM q' ∧ ((∃ C' i', OkD a b C' p' q' ∧ i' ≤ n ∧ gI p' 16 = nI i') ∨ Bad a b n p' q') := by
  intro m
  induction m with
  | zero =>
    intro w i C p q o h hi h16 h22 h17 ho hm hw fx fm hfx hfm
    obtain ⟨fx, rfl⟩ : ∃ z, fx = z + 1 := ⟨fx - 1, by omega⟩
    obtain ⟨fm, rfl⟩ : ∃ z, fm = z + 2 := ⟨fm - 2, by omega⟩
    have sl := skp_le (L := L) hi
    exact text_end ht ta tb kM h hi (by omega) h16 h22 h17 ho fx fm
  | succ m ih =>
    intro w i C p q o h hi h16 h22 h17 ho hm hw fx fm hfx hfm
    obtain ⟨fx, rfl⟩ : ∃ z, fx = z + 2 := ⟨fx - 2, by omega⟩
    obtain ⟨fm, rfl⟩ : ∃ z, fm = z + 2 := ⟨fm - 2, by omega⟩
    have t1 := ht.1
    have sl := skp_le (L := L) hi
    rcases Nat.lt_or_ge (skp L n i) n with sn | sn
    · have sid := skp_idem (L := L) hi
      have tp := fX_T h.1 ta
      have tq := fM_T h.2.1 tb
      have M0 := m_sign ht tq h22 hi
      generalize hs : skp L n i = s at sl sid h16 sn M0
      have ls := ht.2 s sn
      have l1 : ¬ ltr L n s = -1 := by unfold ltr; rw [if_pos sn]; exact nI_m1 (by omega)
      have X : FX4_readText_L33 kEnd (fx + 2) (nI w) p = ob (FX4_readWord p) (fun σ13 => ob (FX4_skipBlanks σ13) (fun σ15 => FX4_readText_L33 kEnd (fx + 1) (nI (w + 1)) σ15)) := by
        rw [FX4_readText_L33, if_neg (show ¬ (240 : Int32) ≤ nI w from nI_ge (b := 240) (by omega) (by omega)), tp.1, h16, if_neg (nI_ge sn (by omega)), if_pos h.2.2.1, nI_1]
      have M : FX8_reads_L2 kM (fm + 2) (oI o) q = FX8_reads_J22 (sI q 22 (nI s)) (fun a44 σ45 => FX8_reads_L2 kM (fm + 1) a44 σ45) (oI o) := by
        rw [FX8_reads_L2, if_pos h.2.2.2.1, M0, ob_s]
        show (if ltr L n s = -1 then _ else FX8_reads_J22 (sI q 22 (nI s)) _ (oI o)) = _
        rw [if_neg l1]
      rw [X, M]
      rcases both_word ht ta tb (okd_m h (nI s)) sn sid h16 (gI_sI _ _ _) ho h17 with ⟨i2, C2, p2, q2, o2, r1, r2, k2, j2, n2, x2, y2, z2, ho2⟩ | ⟨p2, q2, v2, r1, r2, bd2⟩
      · rw [r1, ob_s, x_skip ht (fX_T k2.1 ta) x2 n2, ob_s, r2]
        exact ih (w + 1) i2 C2 (sI p2 16 (nI (skp L n i2))) q2 o2 (okd_x k2 _) n2 (gI_sI _ _ _) y2 z2 ho2 (by omega) (by omega) (fx + 1) (fm + 1) (by omega) (by omega)
      · obtain ⟨p3, u1, u2⟩ := bad_skip ht ta bd2
        refine ⟨p3, q2, ?_, ?_, Or.inr u2⟩
        · rw [r1, ob_s, u1, ob_s]; exact x_33b u2 _ _
        · rw [r2, FX8_reads_L2, if_neg (bad_15 u2).2]
    · exact text_end ht ta tb kM h hi sn h16 h22 h17 ho (fx + 1) fm
