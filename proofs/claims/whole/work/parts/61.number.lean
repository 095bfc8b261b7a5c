/-! the two readers: a clause's number -/
theorem nI_sub {a b : Nat} (h : b ≤ a) : nI a - nI b = nI (a - b) := by
  have e : nI a = nI (a - b) + nI b := by rw [nI_add, Nat.sub_add_cancel h]
  rw [e, Int32.add_sub_cancel]
def isf (L : Nat → Nat) (n i : Nat) : Bool := decide (i < n) && fig (L i)
theorem isf_lt {L : Nat → Nat} {n i : Nat} (h : isf L n i = true) : i < n ∧ fig (L i) = true := by
  unfold isf at h
  rw [Bool.and_eq_true, decide_eq_true_eq] at h
  exact h
theorem m_24s {n : Nat} {L : Nat → Nat} (ht : Tx n L) (k : Int32 → SS → Option (Int32 × SS)) {j t : Nat} (hj : j ≤ t) (h_t : t ≤ n) (f : Nat) (v : Int32) {q : SS} (hq : TxM q n L) (h22 : gI q 22 = nI t) : FX8_clauseNumber_L24 (nI j) k (f + 1) v q = if isf L n t = false then k v q else if 3 ≤ t - j then FX8_clauseNumber_L24 (nI j) k f v (sI q 22 (nI (t + 1))) else FX8_clauseNumber_L24 (nI j) k f (10 * v + nI (L t) - 48) (sI q 22 (nI (t + 1))) := by
  have t1 := ht.1
  rw [FX8_clauseNumber_L24, hq.1, h22]
  rcases Nat.lt_or_ge t n with c | c
  · have e : nI (L t) = ltr L n t := by unfold ltr; rw [if_pos c]
    rw [if_neg (nI_ge c (by omega)), gd_t (inb_n (by omega) (by omega)), nI_clamp (by omega), hq.2 t c, gd_t (inb_n (by omega) (by omega)), bd_e, bd_e, bd_e, nI_1, nI_sub hj, e, m_isFigure ht, ob_s]
    unfold isf
    cases decide (t < n) && fig (L t) with
    | false => rw [if_pos bI_f, if_pos rfl]
    | true =>
      rw [if_neg bI_n, if_neg (show ¬ true = false by decide)]
      by_cases d : 3 ≤ t - j
      · rw [if_pos d, if_pos (show (3 : Int32) ≤ nI (t - j) from nI_le (a := 3) d (by omega))]
      · rw [if_neg d, if_neg (show ¬ (3 : Int32) ≤ nI (t - j) from nI_ge (b := 3) (by omega) (by omega))]
  · rw [if_pos (nI_le c (by omega)), if_pos (by unfold isf; rw [decide_eq_false (by omega)]; rfl)]
theorem m_24 {n : Nat} {L : Nat → Nat} (ht : Tx n L) (k : Int32 → SS → Option (Int32 × SS)) {j : Nat} : ∀ m f t v (q : SS), TxM q n L → gI q 22 = nI t → j ≤ t → t + m = n → m < f → ∃ v' t', t ≤ t' ∧ t' ≤ n ∧ FX8_clauseNumber_L24 (nI j) k f v q = k v' (sI q 22 (nI t'))
  | m, f, t, v, q, hq, h22, hj, hm, hf => by
    obtain ⟨f, rfl⟩ : ∃ z, f = z + 1 := ⟨f - 1, by omega⟩
    rw [m_24s ht k hj (by omega) f v hq h22]
    cases hi : isf L n t with
    | false => exact ⟨v, t, Nat.le_refl _, by omega, by rw [if_pos rfl, sI_same q h22]⟩
    | true =>
      obtain ⟨tn, -⟩ := isf_lt hi
      obtain ⟨m, rfl⟩ : ∃ z, m = z + 1 := ⟨m - 1, by omega⟩
      have hq2 : TxM (sI q 22 (nI (t + 1))) n L := ⟨(gI_ne _ (by decide) _).trans hq.1, hq.2⟩
      rw [if_neg (show ¬ true = false by decide)]
      by_cases d : 3 ≤ t - j
      · obtain ⟨v', t', a1, a2, a3⟩ := m_24 ht k (j := j) m f (t + 1) v _ hq2 (gI_sI _ _ _) (by omega) (by omega) (by omega)
        exact ⟨v', t', by omega, a2, by rw [if_pos d, a3, sI_sI]⟩
      · obtain ⟨v', t', a1, a2, a3⟩ := m_24 ht k (j := j) m f (t + 1) (10 * v + nI (L t) - 48) _ hq2 (gI_sI _ _ _) (by omega) (by omega) (by omega)
        exact ⟨v', t', by omega, a2, by rw [if_neg d, a3, sI_sI]⟩
