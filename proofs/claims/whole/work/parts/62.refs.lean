/-! the two readers: a clause's number, both -/
theorem nI_mul (a b : Nat) : nI a * nI b = nI (a * b) := (Int32.ofNat_mul a b).symm
theorem x_13s {n : Nat} {L : Nat → Nat} (ht : Tx n L) (v1 : Int32) (k : Int32 → Int32 → SS → Option SS) {t : Nat} (h_t : t ≤ n) (f a c : Nat) (hc : c ≤ 3) {p : SS} (hp : TxX p n L) (h16 : gI p 16 = nI t) : FX4_readReference_L13 v1 k (f + 1) (nI a) (nI c) p = if c = 3 ∨ isf L n t = false then k (nI a) (nI c) p else FX4_readReference_L13 v1 k f (nI (a * 10 + (L t - 48))) (nI (c + 1)) (sI p 16 (nI (t + 1))) := by
  have t1 := ht.1
  rw [FX4_readReference_L13]
  by_cases c3 : c = 3
  · rw [if_pos (show (3 : Int32) ≤ nI c by rw [c3]; decide), if_pos (Or.inl c3)]
  rw [if_neg (show ¬ (3 : Int32) ≤ nI c from nI_ge (b := 3) (by omega) (by omega)), x_figureHere ht hp h16 h_t, ob_s, ob_s, bd_e, h16, nI_1, nI_1]
  cases hi : isf L n t with
  | false =>
    have z : ¬ (t < n ∧ fig (L t) = true) := fun y => by
      unfold isf at hi
      rw [decide_eq_true y.1, y.2] at hi; cases hi
    rw [if_neg z, if_pos rfl, if_pos (Or.inr rfl)]
  | true =>
    have y := isf_lt hi
    have lt := ht.2 t y.1
    rw [if_pos y, if_neg (nI_m1 (by omega)), if_neg (fun w => by rcases w with w | w; exact c3 w; cases w), show (10 : Int32) = nI 10 from rfl, nI_mul, nI_add]
theorem val_e {L : Nat → Nat} {a t : Nat} (h : L t < 256) (hf : fig (L t) = true) : (10 : Int32) * nI a + nI (L t) - 48 = nI (a * 10 + (L t - 48)) := by
  have f9 : 48 ≤ L t := by
    unfold fig at hf
    rw [Bool.and_eq_true, decide_eq_true_eq] at hf
    exact hf.1
  rw [show (10 : Int32) = nI 10 from rfl, nI_mul, nI_add, show (48 : Int32) = nI 48 from rfl, nI_sub (by omega)]
  congr 1
  omega
