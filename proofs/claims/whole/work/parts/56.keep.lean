/-! keep, and what drift does -/
theorem s_keep : Sim_keep Rel := fun a b h x0 => by
  obtain ⟨C, K, A, hs, ht, hf, hh, hi⟩ := id h
  rw [FX7_keep, FX8_keep]
  rcases both_im a b x0 with ⟨i1, i2⟩ | ⟨m, hm, i0, i1, i2⟩
  · rw [i1, i2, ob_s, ob_s, if_pos rfl, if_pos rfl]; exact ⟨_, a, b, rfl, rfl, h⟩
  have t0 : (3 : Int32) * nI m = nI (3 * m) := m3 m (by omega)
  have t1 : (3 : Int32) * nI m + 1 = nI (3 * m + 1) := by rw [t0, nI_1]
  have t2 : (3 : Int32) * nI m + 2 = nI (3 * m + 2) := by rw [t0, show (2 : Int32) = nI 2 from rfl, nI_add]
  rw [i1, i2, ob_s, ob_s, if_neg (show ¬ (1 : Int32) = 0 by decide), if_neg (show ¬ (1 : Int32) = 0 by decide), i0, sit_pck hs, ob_s, gd_t (inb_n (by omega) (by omega)), bd_e, FX1_clear, bd_e, ob_s, t1, t2, t0, gd_t (inb_n (by omega) (by omega)), bd_e, gd_t (inb_n (by omega) (by omega)), bd_e, gd_t (inb_n (by omega) (by omega)), bd_e, gd_t (inb_n (by omega) (by omega)), bd_e, bd_e, nI_clamp (by omega), nI_clamp (by omega), nI_clamp (by omega), nI_clamp (by omega), gA_sA, gA_sA]
  refine ⟨_, _, _, rfl, rfl, C, K, A, hs, ht, hf, his_0 _ _ C, fun i hi2 => ?_⟩
  show (gA (sA a 74 (upd (gA a 74) m (pck (gI b 24) (gI b 25) (gI b 26)))) 74 i = -1 ∧ upd (gA b 30) m 1 i = 0) ∨ (upd (gA b 30) m 1 i = 1 ∧ Lg C (upd (upd (upd (gA b 29) (3 * m) (gI b 24)) (3 * m + 1) (gI b 25)) (3 * m + 2) (gI b 26) (3 * i)) (upd (upd (upd (gA b 29) (3 * m) (gI b 24)) (3 * m + 1) (gI b 25)) (3 * m + 2) (gI b 26) (3 * i + 1)) (upd (upd (upd (gA b 29) (3 * m) (gI b 24)) (3 * m + 1) (gI b 25)) (3 * m + 2) (gI b 26) (3 * i + 2)) ∧ gA (sA a 74 (upd (gA a 74) m (pck (gI b 24) (gI b 25) (gI b 26)))) 74 i = pck (upd (upd (upd (gA b 29) (3 * m) (gI b 24)) (3 * m + 1) (gI b 25)) (3 * m + 2) (gI b 26) (3 * i)) (upd (upd (upd (gA b 29) (3 * m) (gI b 24)) (3 * m + 1) (gI b 25)) (3 * m + 2) (gI b 26) (3 * i + 1)) (upd (upd (upd (gA b 29) (3 * m) (gI b 24)) (3 * m + 1) (gI b 25)) (3 * m + 2) (gI b 26) (3 * i + 2)))
  rw [gA_sA]
  simp only [upd_eq]
  by_cases d : i = m
  · subst d
    right
    rw [if_pos rfl, if_pos rfl, if_neg (by omega), if_neg (by omega), if_pos rfl, if_neg (by omega), if_pos rfl, if_pos rfl]
    exact ⟨rfl, sit_lg hs, rfl⟩
  · rw [if_neg d, if_neg d, if_neg (by omega), if_neg (by omega), if_neg (by omega), if_neg (by omega), if_neg (by omega), if_neg (by omega), if_neg (by omega), if_neg (by omega), if_neg (by omega)]
    exact hi i hi2
