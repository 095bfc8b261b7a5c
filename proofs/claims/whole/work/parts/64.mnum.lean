/-! the reference's reading of a clause's number -/
theorem m_number {n : Nat} {L : Nat → Nat} (ht : Tx n L) {j : Nat} (hj : j ≤ n) (hb : j < n → ¬ L j = 32) {q : SS} (hq : TxM q n L) (h22 : gI q 22 = nI j) (h23 : gI q 23 = 0) :
    (isf L n j = false → FX8_clauseNumber q = some (0, sI (sI q 23 1) 2 (nI j))) ∧
    (isf L n j = true → isf L n (j + 1) = false → FX8_clauseNumber q = some (nI (L j - 48), sI q 22 (nI (j + 1)))) ∧
    (isf L n j = true → isf L n (j + 1) = true → isf L n (j + 2) = false → (L j - 48) * 10 + (L (j + 1) - 48) ≤ 15 → FX8_clauseNumber q = some (nI ((L j - 48) * 10 + (L (j + 1) - 48)), sI q 22 (nI (j + 2)))) ∧
    (isf L n j = true → isf L n (j + 1) = true → (isf L n (j + 2) = true ∨ 15 < (L j - 48) * 10 + (L (j + 1) - 48)) → ∃ w, FX8_clauseNumber q = some (w, sI (sI q 23 2) 2 (nI j))) := by
  have t1 := ht.1
  have hs : ∀ t, TxM (sI q 22 (nI t)) n L := fun t => ⟨(gI_ne _ (by decide) _).trans hq.1, hq.2⟩
  have sj : skp L n j = j := skp_two hj hb
  have fl : ∀ e : Int32, FX8_fails q e = some (sI (sI q 23 e) 2 (nI j)) := fun e => by
    rw [FX8_fails, h23, if_pos rfl, bd_e, bd_e, gI_ne _ (show 22 ≠ 23 by decide), h22]
  have j1 : ∀ t w, FX8_clauseNumber_J111 (sI q 22 (nI t)) (nI j) w = some (w, sI (sI q 23 2) 2 (nI j)) := fun t w => by
    rw [FX8_clauseNumber_J111, bd_e, sI_sI, sI_same q h22, fl, ob_s]
  have st : FX8_clauseNumber q = if bI (isf L n j) = 0 then some (0, sI (sI q 23 1) 2 (nI j)) else FX8_clauseNumber_L24 (nI j) (fun u16 σ17 => if (2 : Int32) < ((gI σ17 22) - nI j) then FX8_clauseNumber_J111 σ17 (nI j) u16 else if u16 ≤ (15 : Int32) then some (u16, σ17) else FX8_clauseNumber_J111 σ17 (nI j) u16) 5000 (nI 0) q := by
    rw [FX8_clauseNumber, m_sign ht hq h22 hj, ob_s, sj, sI_same q h22]
    show ob (FX8_isFigure q (ltr L n j)) _ = _
    rw [m_isFigure ht, ob_s]
    show (if bI (isf L n j) = 0 then ob (FX8_fails q 1) _ else FX8_clauseNumber_L24 (gI q 22) _ 5000 0 q) = _
    rw [fl, ob_s, h22]; rfl
  generalize hk : (fun (u16 : Int32) (σ17 : SS) => if (2 : Int32) < ((gI σ17 22) - nI j) then FX8_clauseNumber_J111 σ17 (nI j) u16 else if u16 ≤ (15 : Int32) then some (u16, σ17) else FX8_clauseNumber_J111 σ17 (nI j) u16) = kk at st
  have ke : ∀ w t, j ≤ t → t < 2 ^ 31 → kk w (sI q 22 (nI t)) = if 2 < t - j then some (w, sI (sI q 23 2) 2 (nI j)) else if w ≤ 15 then some (w, sI q 22 (nI t)) else some (w, sI (sI q 23 2) 2 (nI j)) := by
    intro w t h1 h2
    rw [← hk]
    show (if (2 : Int32) < gI (sI q 22 (nI t)) 22 - nI j then _ else _) = _
    rw [gI_sI, nI_sub h1, j1]
    by_cases c : 2 < t - j
    · rw [if_pos c, if_pos (show (2 : Int32) < nI (t - j) from nI_lt (a := 2) c (by omega))]
    · rw [if_neg c, if_neg (show ¬ (2 : Int32) < nI (t - j) from nI_nlt (b := t - j) (a := 2) (by omega) (by omega) |> fun h => h)]
  have sN : ∀ f a t, j ≤ t → t < j + 3 → isf L n t = true → FX8_clauseNumber_L24 (nI j) kk (f + 1) (nI a) (sI q 22 (nI t)) = FX8_clauseNumber_L24 (nI j) kk f (nI (a * 10 + (L t - 48))) (sI q 22 (nI (t + 1))) := by
    intro f a t h1 h2 h3
    obtain ⟨y1, y2⟩ := isf_lt h3
    rw [m_24s ht kk h1 (by omega) f (nI a) (hs t) (gI_sI _ _ _), h3, if_neg (show ¬ true = false by decide), if_neg (by omega), val_e (ht.2 t y1) y2, sI_sI]
  have sE : ∀ f a t, j ≤ t → t ≤ n → isf L n t = false → FX8_clauseNumber_L24 (nI j) kk (f + 1) (nI a) (sI q 22 (nI t)) = kk (nI a) (sI q 22 (nI t)) := by
    intro f a t h1 h2 h3
    rw [m_24s ht kk h1 h2 f (nI a) (hs t) (gI_sI _ _ _), h3, if_pos rfl]
  have s0 : isf L n j = true → FX8_clauseNumber_L24 (nI j) kk 5000 (nI 0) q = FX8_clauseNumber_L24 (nI j) kk 4999 (nI (L j - 48)) (sI q 22 (nI (j + 1))) := by
    intro h0
    have e := sN 4999 0 j (Nat.le_refl _) (by omega) h0
    rw [sI_same q h22, show 0 * 10 + (L j - 48) = L j - 48 by omega] at e
    exact e
  have f9 : ∀ t, isf L n t = true → L t ≤ 57 ∧ t < n := fun t h => by
    obtain ⟨y1, y2⟩ := isf_lt h
    unfold fig at y2
    rw [Bool.and_eq_true, decide_eq_true_eq, decide_eq_true_eq] at y2
    exact ⟨y2.2, y1⟩
  refine ⟨fun h0 => ?_, fun h0 h1 => ?_, fun h0 h1 h2 hv => ?_, fun h0 h1 h2 => ?_⟩
  · rw [st, h0, if_pos bI_f]
  · have a0 := f9 j h0
    rw [st, h0, if_neg bI_n, s0 h0, sE 4998 _ (j + 1) (by omega) (by omega) h1, ke _ _ (by omega) (by omega), if_neg (by omega), if_pos (show nI (L j - 48) ≤ 15 from nI_le (b := 15) (by omega) (by omega))]
  · have a0 := f9 j h0
    have a1 := f9 (j + 1) h1
    rw [st, h0, if_neg bI_n, s0 h0, sN 4998 _ (j + 1) (by omega) (by omega) h1, sE 4997 _ (j + 2) (by omega) (by omega) h2, ke _ _ (by omega) (by omega), if_neg (by omega), if_pos (show nI ((L j - 48) * 10 + (L (j + 1) - 48)) ≤ 15 from nI_le (b := 15) (by omega) (by omega))]
  · have a0 := f9 j h0
    have a1 := f9 (j + 1) h1
    rw [st, h0, if_neg bI_n, s0 h0, sN 4998 _ (j + 1) (by omega) (by omega) h1]
    cases h3 : isf L n (j + 2) with
    | false =>
      rcases h2 with h2 | h2
      · rw [h3] at h2; cases h2
      · exact ⟨_, by rw [sE 4997 _ (j + 2) (by omega) (by omega) h3, ke _ _ (by omega) (by omega), if_neg (by omega), if_neg (show ¬ nI ((L j - 48) * 10 + (L (j + 1) - 48)) ≤ 15 from nI_ge (a := 15) (by omega) (by omega))]⟩
    | true =>
      have a2 := f9 (j + 2) h3
      rw [sN 4997 _ (j + 2) (by omega) (by omega) h3]
      obtain ⟨v', t', b1, b2, b3⟩ := m_24 ht kk (j := j) (n - (j + 3)) 4997 (j + 3) (nI (((L j - 48) * 10 + (L (j + 1) - 48)) * 10 + (L (j + 2) - 48))) (sI q 22 (nI (j + 3))) (hs _) (gI_sI _ _ _) (by omega) (by omega) (by omega)
      exact ⟨v', by rw [b3, sI_sI, ke _ _ (by omega) (by omega), if_pos (by omega)]⟩
