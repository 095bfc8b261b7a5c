/-! the two readers: a figure -/
def fig (v : Nat) : Bool := decide (48 ≤ v) && decide (v ≤ 57)
theorem fig_x : ∀ v, v < 256 → (if nI v - 48 < 0 then (-1 : Int32) else if 9 < nI v - 48 then -1 else nI v - 48) = if fig v then nI (v - 48) else -1 := by decide +kernel
theorem fig_m : ∀ v, v < 256 → (if nI v < 48 then (0 : Int32) else if 57 < nI v then 0 else 1) = bI (fig v) := by decide +kernel
theorem fig_48 : ∀ v, v < 256 → fig v = true → nI v - 48 = nI (v - 48) := by decide +kernel
theorem x_figureHere {n : Nat} {L : Nat → Nat} (ht : Tx n L) {i : Nat} {p : SS} (hp : TxX p n L) (h16 : gI p 16 = nI i) (hi : i ≤ n) : FX4_figureHere p = some (if i < n ∧ fig (L i) = true then nI (L i - 48) else -1) := by
  have t1 := ht.1
  rw [FX4_figureHere, h16, if_neg (nI_pos (by omega)), hp.1]
  rcases Nat.lt_or_ge i n with c | c
  · rw [if_pos (nI_lt c (by omega)), gd_t (inb_n (by omega) (by omega)), nI_clamp (by omega), hp.2 i c, bd_e]
    have e := fig_x (L i) (ht.2 i c)
    have g : (if nI (L i) - 48 < 0 then some (-1 : Int32) else if 9 < nI (L i) - 48 then some (-1) else some (nI (L i) - 48)) = some (if nI (L i) - 48 < 0 then (-1 : Int32) else if 9 < nI (L i) - 48 then -1 else nI (L i) - 48) := by
      split
      · rfl
      · split <;> rfl
    rw [g, e]
    cases hf : fig (L i) with
    | true => rw [if_pos rfl, if_pos ⟨c, rfl⟩]
    | false => rw [if_neg (by decide), if_neg (fun z => by cases z.2)]
  · rw [if_neg (nI_nlt c (by omega)), if_neg (fun z => by omega)]
theorem m_isFigure {n : Nat} {L : Nat → Nat} (ht : Tx n L) (σ : SS) (i : Nat) : FX8_isFigure σ (ltr L n i) = some (bI (decide (i < n) && fig (L i))) := by
  rw [FX8_isFigure, FX8_in]
  unfold ltr
  by_cases c : i < n
  · rw [if_pos c]
    have g : (if nI (L i) < 48 then some (0 : Int32) else if 57 < nI (L i) then some 0 else some 1) = some (if nI (L i) < 48 then (0 : Int32) else if 57 < nI (L i) then 0 else 1) := by
      split
      · rfl
      · split <;> rfl
    rw [g, fig_m (L i) (ht.2 i c), ob_s, gd_t (isb_bI _), decide_eq_true c, Bool.true_and]
  · rw [if_neg c, decide_eq_false c]; rfl
theorem both_figure {n : Nat} {L : Nat → Nat} (ht : Tx n L) {i : Nat} {p q : SS} (hp : TxX p n L) (hq : TxM q n L) (h16 : gI p 16 = nI i) (h22 : gI q 22 = nI i) (h23 : gI q 23 = 0) (hi : i ≤ n) {B : Nat} (hB : B < 10) : (∃ v, v < B + 1 ∧ skp L n i < n ∧ FX4_readFigure p (nI (B + 1)) = some (nI v, sI p 16 (nI (skp L n i + 1))) ∧ FX8_figure q (nI B) = some (nI v, sI q 22 (nI (skp L n i + 1)))) ∨ ∃ e : Int32, (e = 1 ∨ e = 2) ∧ FX4_readFigure p (nI (B + 1)) = some (-1, sI (sI (sI p 16 (nI (skp L n i))) 15 e) 11 (nI (skp L n i))) ∧ FX8_figure q (nI B) = some (0, sI (sI (sI q 22 (nI (skp L n i))) 23 e) 2 (nI (skp L n i))) := by
  have t1 := ht.1
  have sl := (skp_le (L := L) hi).2
  generalize hj : skp L n i = j at sl
  have sp : TxX (sI p 16 (nI j)) n L := ⟨(gI_ne _ (by decide) _).trans hp.1, hp.2⟩
  have fl : ∀ e : Int32, FX8_fails (sI q 22 (nI j)) e = some (sI (sI (sI q 22 (nI j)) 23 e) 2 (nI j)) := fun e => by
    rw [FX8_fails, gI_ne _ (show 23 ≠ 22 by decide), h23, if_pos rfl, bd_e, bd_e, gI_ne _ (show 22 ≠ 23 by decide), gI_sI]
  have fx : ∀ e : Int32, FX4_fail (sI p 16 (nI j)) e (gI (sI p 16 (nI j)) 16) = some (sI (sI (sI p 16 (nI j)) 15 e) 11 (nI j)) := fun e => by
    rw [FX4_fail, gI_sI, bd_e, bd_e]
  have xs : FX4_readFigure p (nI (B + 1)) = (if (if j < n ∧ fig (L j) = true then nI (L j - 48) else -1) = -1 then some (-1, sI (sI (sI p 16 (nI j)) 15 1) 11 (nI j)) else if (if j < n ∧ fig (L j) = true then nI (L j - 48) else -1) < nI (B + 1) then some ((if j < n ∧ fig (L j) = true then nI (L j - 48) else -1), sI p 16 (nI (j + 1))) else some (-1, sI (sI (sI p 16 (nI j)) 15 2) 11 (nI j))) := by
    rw [FX4_readFigure, x_skip ht hp h16 hi, ob_s, hj, x_figureHere ht sp (gI_sI _ _ _) sl, ob_s, fx, fx, ob_s, ob_s, bd_e, gI_sI, nI_1, sI_sI]
  have ms : FX8_figure q (nI B) = (if bI (decide (j < n) && fig (L j)) = 0 then some (0, sI (sI (sI q 22 (nI j)) 23 1) 2 (nI j)) else if ltr L n j - 48 ≤ nI B then some (ltr L n j - 48, sI q 22 (nI (j + 1))) else some (0, sI (sI (sI q 22 (nI j)) 23 2) 2 (nI j))) := by
    rw [FX8_figure, m_sign ht hq h22 hi, ob_s, hj]
    show ob (FX8_isFigure (sI q 22 (nI j)) (ltr L n j)) _ = _
    rw [m_isFigure ht, ob_s]
    show (if bI (decide (j < n) && fig (L j)) = 0 then ob (FX8_fails (sI q 22 (nI j)) 1) _ else if ltr L n j - 48 ≤ nI B then bd (sI (sI q 22 (nI j)) 22 (gI (sI q 22 (nI j)) 22 + 1)) _ else ob (FX8_fails (sI q 22 (nI j)) 2) _) = _
    rw [fl, fl, ob_s, ob_s, bd_e, gI_sI, nI_1, sI_sI]
  rw [xs, ms]
  by_cases c : j < n ∧ fig (L j) = true
  · have lj := ht.2 j c.1
    have f9 : 48 ≤ L j ∧ L j ≤ 57 := by
      have := c.2
      unfold fig at this
      rw [Bool.and_eq_true, decide_eq_true_eq, decide_eq_true_eq] at this
      exact this
    rw [if_pos c, if_neg (nI_m1 (by omega)), decide_eq_true c.1, c.2, if_neg (show ¬ bI (true && true) = 0 by decide)]
    unfold ltr
    rw [if_pos c.1, fig_48 (L j) lj c.2]
    rcases Nat.lt_or_ge (L j - 48) (B + 1) with d | d
    · left
      exact ⟨L j - 48, d, c.1, if_pos (nI_lt d (by omega)), if_pos (nI_le (by omega) (by omega))⟩
    · right
      exact ⟨2, Or.inr rfl, if_neg (nI_nlt d (by omega)), if_neg (nI_ge (by omega) (by omega))⟩
  · right
    have z : (decide (j < n) && fig (L j)) = false := by
      by_cases d : j < n
      · rw [decide_eq_true d, Bool.true_and]; exact not_t fun e => c ⟨d, e⟩
      · rw [decide_eq_false d]; rfl
    rw [if_neg c, z]
    exact ⟨1, Or.inl rfl, if_pos rfl, if_pos bI_f⟩
