/-! what is noted before a change -/
theorem m3 : ∀ h, h < 9 → (3 : Int32) * nI h = nI (3 * h) := by decide
def smP (a p : SS) : Prop := (∀ k, k ≠ 70 → gI p k = gI a k) ∧ (∀ k, k ≠ 71 → gA p k = gA a k) ∧ p.2.2 = a.2.2
def smQ (b q : SS) : Prop := (∀ k, k ≠ 28 → gI q k = gI b k) ∧ ∀ k, k ≠ 27 → gA q k = gA b k
theorem m_J47 {q : SS} {h : Nat} (hh : h < 8) (e : gI q 28 = nI h) : ∃ σ, FX8_notes_J47 q = some σ ∧ smQ q σ ∧ gI σ 28 = nI (h + 1) ∧ gA σ 27 = upd (upd (upd (gA q 27) (3 * h) (gI q 24)) (3 * h + 1) (gI q 25)) (3 * h + 2) (gI q 26) := by
  have e3 := m3 h (by omega)
  have e1 : (3 : Int32) * nI h + 1 = nI (3 * h + 1) := by rw [e3, nI_1]
  have e2 : (3 : Int32) * nI h + 2 = nI (3 * h + 2) := by rw [e3, show (2 : Int32) = nI 2 from rfl, nI_add]
  refine ⟨sI (sA (sA (sA q 27 (upd (gA q 27) (3 * h) (gI q 24))) 27 (upd (upd (gA q 27) (3 * h) (gI q 24)) (3 * h + 1) (gI q 25))) 27 (upd (upd (upd (gA q 27) (3 * h) (gI q 24)) (3 * h + 1) (gI q 25)) (3 * h + 2) (gI q 26))) 28 (nI (h + 1)), ?_, ⟨fun k hk => ?_, fun k hk => ?_⟩, gI_sI _ _ _, ?_⟩
  · rw [FX8_notes_J47, e, e3, gd_t (inb_n (by omega) (by omega)), bd_e, nI_clamp (by omega)]
    show gd (inb ((3 : Int32) * gI q 28 + 1) 24) _ = _
    rw [e, e1, gd_t (inb_n (by omega) (by omega)), bd_e]
    show gd (inb ((3 : Int32) * gI q 28 + 2) 24) _ = _
    rw [e, e2, gd_t (inb_n (by omega) (by omega)), bd_e, bd_e]
    show some (sI (sA (sA (sA q 27 _) 27 (upd (gA (sA q 27 _) 27) (Int32.toNatClampNeg ((3 : Int32) * gI q 28 + 1)) (gI q 25))) 27 (upd (gA (sA (sA q 27 _) 27 _) 27) (Int32.toNatClampNeg ((3 : Int32) * gI q 28 + 2)) (gI q 26))) 28 (gI q 28 + 1)) = _
    rw [e, e1, e2, nI_clamp (by omega), nI_clamp (by omega), nI_1, gA_sA, gA_sA, show gI (sA q 27 (upd (gA q 27) (3 * h) (gI q 24))) 28 = gI q 28 from rfl, show gI (sA q 27 (upd (gA q 27) (3 * h) (gI q 24))) 25 = gI q 25 from rfl, e, e1, nI_clamp (by omega)]
  · rw [gI_ne _ hk]; rfl
  · show gA (sA (sA (sA q 27 _) 27 _) 27 _) k = _
    rw [gA_ne _ hk, gA_ne _ hk, gA_ne _ hk]
  · exact gA_sA _ 27 _
theorem m_shift {b : SS} (k : SS → Option SS) : ∃ σ, FX8_notes_L11 k 5000 0 b = k σ ∧ (∀ j, gI σ j = gI b j) ∧ (∀ j, j ≠ 27 → gA σ j = gA b j) ∧ ∀ j, j < 21 → gA σ 27 j = gA b 27 (j + 3) := by
  obtain ⟨σ, ⟨h1, h3, h4⟩, h2⟩ := lpk (fun n (q : SS) i => FX8_notes_L11 k n i q) 21 k (fun i q => (∀ j, gI q j = gI b j) ∧ (∀ j, j ≠ 27 → gA q j = gA b j) ∧ ∀ j, gA q 27 j = if j < i then gA b 27 (j + 3) else gA b 27 j) (by
    intro n q _
    show FX8_notes_L11 _ _ _ _ = _
    rw [FX8_notes_L11, if_pos (by decide)]) (by
    rintro n i q hi ⟨h1, h3, h4⟩
    refine ⟨sA q 27 (upd (gA q 27) i (gA q 27 (i + 3))), ⟨h1, fun j hj => ?_, fun j => ?_⟩, ?_⟩
    · rw [gA_ne _ hj]; exact h3 j hj
    · rw [gA_sA, upd_eq]
      by_cases c : j = i
      · rw [if_pos c, if_pos (by omega), h4, if_neg (by omega), c]
      · rw [if_neg c, h4]
        by_cases d : j < i
        · rw [if_pos d, if_pos (by omega)]
        · rw [if_neg d, if_neg (by omega)]
    · show FX8_notes_L11 _ _ _ _ = FX8_notes_L11 _ _ _ _
      rw [FX8_notes_L11, if_neg (show ¬ (21 : Int32) ≤ nI i from nI_ge (b := 21) hi (by omega)), show (3 : Int32) = nI 3 from rfl, nI_add, gd_t (inb_n (by omega) (by omega)), gd_t (inb_n (by omega) (by omega)), bd_e, nI_clamp (by omega), nI_clamp (by omega), nI_1]) (n := 5000) (by omega) (a := b) ⟨fun _ => rfl, fun _ _ => rfl, fun j => by rw [if_neg (by omega)]⟩
  refine ⟨σ, h2, h1, h3, fun j hj => ?_⟩
  rw [h4, if_pos hj]
theorem x_J30 {p : SS} {h : Nat} (hh : h < 8) (e : gI p 70 = nI h) (v : Int32) : ∃ σ, FX1_push_J30 p v = some σ ∧ smP p σ ∧ gI σ 70 = nI (h + 1) ∧ gA σ 71 = upd (gA p 71) h v := by
  refine ⟨sI (sA p 71 (upd (gA p 71) h v)) 70 (nI (h + 1)), ?_, ⟨fun k hk => ?_, fun k hk => ?_, rfl⟩, gI_sI _ _ _, gA_sA _ _ _⟩
  · rw [FX1_push_J30, e, gd_t (inb_n (by omega) (by omega)), bd_e, bd_e, nI_clamp (by omega)]
    show some (sI _ 70 (gI p 70 + 1)) = _
    rw [e, nI_1]
  · rw [gI_ne _ hk]; rfl
  · show gA (sA p 71 _) k = _
    rw [gA_ne _ hk]
theorem both_note {a b : SS} {C : Cd} (hl : Lg C (gI b 24) (gI b 25) (gI b 26)) (hh : His a b C) : ∃ a1 b1, FX1_push a (pck (gI b 24) (gI b 25) (gI b 26)) = some a1 ∧ FX8_notes b = some b1 ∧ smP a a1 ∧ smQ b b1 ∧ His a1 b1 C := by
  obtain ⟨h, h8, x1, y1, z1⟩ := hh
  rw [FX1_push, FX8_notes, x1, y1]
  rcases Nat.lt_or_ge h 8 with c | c
  · obtain ⟨p, e1, e2, e3, e4⟩ := x_J30 c x1 (pck (gI b 24) (gI b 25) (gI b 26))
    obtain ⟨q, f1, f2, f3, f4⟩ := m_J47 c y1
    rw [if_pos (show nI h < 8 from nI_lt (b := 8) c (by omega)), if_neg (show ¬ nI h = 8 from nI_ne (b := 8) (by omega) (by omega) (by omega))]
    refine ⟨p, q, e1, f1, e2, f2, h + 1, by omega, e3, f3, fun i hi => ?_⟩
    rw [e4, f4]
    simp only [upd_eq]
    by_cases d : i = h
    · subst d
      rw [if_neg (by omega), if_neg (by omega), if_pos rfl, if_neg (by omega), if_pos rfl, if_pos rfl, if_pos rfl]
      exact ⟨hl, rfl⟩
    · rw [if_neg (by omega), if_neg (by omega), if_neg (by omega), if_neg (by omega), if_neg (by omega), if_neg (by omega), if_neg (by omega), if_neg (by omega), if_neg (by omega), if_neg d]
      exact z1 i (by omega)
  · have e8 : h = 8 := by omega
    subst e8
    rw [if_neg (show ¬ nI 8 < 8 by decide), if_pos (show nI 8 = 8 from rfl), bd_e, bd_e]
    obtain ⟨τ, t1, t2, t3, t4⟩ := m_shift (b := b) (fun σ13 => bd (sI σ13 28 ((gI σ13 28) - (1 : Int32))) (fun σ14 => FX8_notes_J47 σ14))
    rw [t1, bd_e, t2 28, y1]
    obtain ⟨p, e1, e2, e3, e4⟩ := x_J30 (p := sI (sA a 71 (va_cpy (gA a 71) (gA a 71) (Int32.toNatClampNeg (1 : Int32)) (Int32.toNatClampNeg (0 : Int32)) (Int32.toNatClampNeg (7 : Int32)))) 70 (7 : Int32)) (h := 7) (by omega) (gI_sI _ _ _) (pck (gI b 24) (gI b 25) (gI b 26))
    obtain ⟨q, f1, f2, f3, f4⟩ := m_J47 (q := sI τ 28 (nI 8 - 1)) (h := 7) (by omega) (gI_sI _ _ _)
    refine ⟨p, q, e1, f1, ⟨fun k hk => ?_, fun k hk => ?_, e2.2.2⟩, ⟨fun k hk => ?_, fun k hk => ?_⟩, 8, by omega, e3, f3, fun i hi => ?_⟩
    · rw [e2.1 k hk, gI_ne _ hk]; rfl
    · rw [e2.2.1 k hk]
      show gA (sA a 71 _) k = _
      rw [gA_ne _ hk]
    · rw [f2.1 k hk, gI_ne _ hk, t2]
    · rw [f2.2 k hk]; exact t3 k hk
    · have g71 : gA (sI (sA a 71 (va_cpy (gA a 71) (gA a 71) (Int32.toNatClampNeg (1 : Int32)) (Int32.toNatClampNeg (0 : Int32)) (Int32.toNatClampNeg (7 : Int32)))) 70 (7 : Int32)) 71 = va_cpy (gA a 71) (gA a 71) 1 0 7 := gA_sA _ _ _
      have g24 : gI (sI τ 28 (nI 8 - 1)) 24 = gI b 24 := by rw [gI_ne _ (by decide), t2]
      have g25 : gI (sI τ 28 (nI 8 - 1)) 25 = gI b 25 := by rw [gI_ne _ (by decide), t2]
      have g26 : gI (sI τ 28 (nI 8 - 1)) 26 = gI b 26 := by rw [gI_ne _ (by decide), t2]
      rw [e4, f4, g71, g24, g25, g26]
      simp only [upd_eq]
      by_cases d : i = 7
      · subst d
        exact ⟨hl, rfl⟩
      · rw [if_neg (by omega), if_neg (by omega), if_neg (by omega), if_neg (by omega), if_neg (by omega), if_neg (by omega), if_neg (by omega), if_neg (by omega), if_neg (by omega), if_neg d]
        show Lg C (gA τ 27 (3 * i)) (gA τ 27 (3 * i + 1)) (gA τ 27 (3 * i + 2)) ∧ va_cpy (gA a 71) (gA a 71) 1 0 7 i = pck (gA τ 27 (3 * i)) (gA τ 27 (3 * i + 1)) (gA τ 27 (3 * i + 2))
        rw [t4 _ (by omega), t4 _ (by omega), t4 _ (by omega)]
        have zi := z1 (i + 1) (by omega)
        rw [show 3 * i + 3 = 3 * (i + 1) by omega, show 3 * i + 1 + 3 = 3 * (i + 1) + 1 by omega, show 3 * i + 2 + 3 = 3 * (i + 1) + 2 by omega]
        refine ⟨zi.1, ?_⟩
        rw [← zi.2]
        unfold va_cpy
        rw [if_pos ⟨by omega, by omega⟩, show 1 + (i - 0) = i + 1 by omega]
