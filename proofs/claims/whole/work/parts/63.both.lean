/-! the two readers: a clause's number, the figures that are there -/
theorem x_13 {n : Nat} {L : Nat → Nat} (ht : Tx n L) (v1 : Int32) (k : Int32 → Int32 → SS → Option SS) {j : Nat} (hj : j ≤ n) (f : Nat) {p : SS} (hp : TxX p n L) (h16 : gI p 16 = nI j) : FX4_readReference_L13 v1 k (f + 4) (nI 0) (nI 0) p =
    if isf L n j = false then k (nI 0) (nI 0) p
    else if isf L n (j + 1) = false then k (nI (L j - 48)) (nI 1) (sI p 16 (nI (j + 1)))
    else if isf L n (j + 2) = false then k (nI ((L j - 48) * 10 + (L (j + 1) - 48))) (nI 2) (sI p 16 (nI (j + 2)))
    else k (nI (((L j - 48) * 10 + (L (j + 1) - 48)) * 10 + (L (j + 2) - 48))) (nI 3) (sI p 16 (nI (j + 3))) := by
  have hs : ∀ t, TxX (sI p 16 (nI t)) n L := fun t => ⟨(gI_ne _ (by decide) _).trans hp.1, hp.2⟩
  rw [x_13s ht v1 k hj (f + 3) 0 0 (by omega) hp h16]
  cases h0 : isf L n j with
  | false => rw [if_pos (Or.inr rfl), if_pos rfl]
  | true =>
    have l0 := (isf_lt h0).1
    rw [if_neg (show ¬ (0 = 3 ∨ true = false) by decide), if_neg (show ¬ true = false by decide), x_13s ht v1 k (t := j + 1) (by omega) (f + 2) _ 1 (by omega) (hs _) (gI_sI _ _ _), sI_sI, show 0 * 10 + (L j - 48) = L j - 48 by omega]
    cases h1 : isf L n (j + 1) with
    | false => rw [if_pos (Or.inr rfl), if_pos rfl]
    | true =>
      have l1 := (isf_lt h1).1
      rw [if_neg (show ¬ (1 = 3 ∨ true = false) by decide), if_neg (show ¬ true = false by decide), x_13s ht v1 k (t := j + 2) (by omega) (f + 1) _ 2 (by omega) (hs _) (gI_sI _ _ _), sI_sI]
      cases h2 : isf L n (j + 2) with
      | false => rw [if_pos (Or.inr rfl), if_pos rfl]
      | true =>
        have l2 := (isf_lt h2).1
        rw [if_neg (show ¬ (2 = 3 ∨ true = false) by decide), if_neg (show ¬ true = false by decide), x_13s ht v1 k (t := j + 3) (by omega) f _ 3 (by omega) (hs _) (gI_sI _ _ _), if_pos (Or.inl rfl)]
