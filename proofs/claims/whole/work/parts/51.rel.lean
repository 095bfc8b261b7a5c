/-! what the two worlds share -/
def Lg (C : Cd) (k a s : Int32) : Prop := ∃ K A, Stn K A ∧ k = nI K ∧ a = nI A ∧ ∀ c, c < 32 → bt s c = true → c < cN C
def pck (k a s : Int32) : Int32 := (jshl s 12 ||| jshl a 6) ||| k
def Txt (a b : SS) : Prop := ∃ n, n ≤ 240 ∧ gI a 10 = nI n ∧ gI b 1 = nI n ∧ ∀ i, i < n → ∃ v, v < 256 ∧ gA a 13 i = nI v ∧ gA b 0 i = nI v
def His (a b : SS) (C : Cd) : Prop := ∃ h, h ≤ 8 ∧ gI a 70 = nI h ∧ gI b 28 = nI h ∧ ∀ i, i < h → Lg C (gA b 27 (3 * i)) (gA b 27 (3 * i + 1)) (gA b 27 (3 * i + 2)) ∧ gA a 71 i = pck (gA b 27 (3 * i)) (gA b 27 (3 * i + 1)) (gA b 27 (3 * i + 2))
def Img (a b : SS) (C : Cd) : Prop := ∀ i, i < 2 → (gA a 74 i = -1 ∧ gA b 30 i = 0) ∨ (gA b 30 i = 1 ∧ Lg C (gA b 29 (3 * i)) (gA b 29 (3 * i + 1)) (gA b 29 (3 * i + 2)) ∧ gA a 74 i = pck (gA b 29 (3 * i)) (gA b 29 (3 * i + 1)) (gA b 29 (3 * i + 2)))
def Rel (a b : SS) : Prop := ∃ C K A, Sit a b C K A ∧ Txt a b ∧ gI a 11 = gI b 2 ∧ His a b C ∧ Img a b C
theorem sit_mono {a b a1 b1 : SS} {C : Cd} {K A : Nat} (h : Sit a b C K A) (ha : smW a a1) (hb : smM b b1) : Sit a1 b1 C K A := by
  obtain ⟨h1, h2, h3, h4, h5, k1, k2, k3, k4, k5, k6⟩ := h
  have x60 := ha.1 60 (by decide) (by decide) (by decide) (by decide)
  have x61 := ha.1 61 (by decide) (by decide) (by decide) (by decide)
  have x62 := ha.1 62 (by decide) (by decide) (by decide) (by decide)
  have m26 := hb.1 26 (by decide)
  refine ⟨h1, smW_R ha h2, smM_R hb h3, ?_, h5, x60.trans k1, x61.trans k2, (hb.1 24 (by decide)).trans k3, (hb.1 25 (by decide)).trans k4, x62.trans (k5.trans m26.symm), by rw [m26]; exact k6⟩
  rw [m26]
  unfold Tabs
  simp only [smW_gL ha]
  exact h4
theorem rel_mono {a b a1 b1 : SS} (h : Rel a b) (ha : smW a a1) (hb : smM b b1) : Rel a1 b1 := by
  obtain ⟨C, K, A, h1, h2, h3, h4, h5⟩ := h
  refine ⟨C, K, A, sit_mono h1 ha hb, ?_, ?_, ?_, ?_⟩
  · unfold Txt at *
    rw [ha.1 10 (by decide) (by decide) (by decide) (by decide), hb.1 1 (by decide), smW_gA ha, hb.2 0 (by decide) (by decide) (by decide)]; exact h2
  · rw [ha.1 11 (by decide) (by decide) (by decide) (by decide), hb.1 2 (by decide)]; exact h3
  · unfold His at *
    rw [ha.1 70 (by decide) (by decide) (by decide) (by decide), hb.1 28 (by decide), smW_gA ha, hb.2 27 (by decide) (by decide) (by decide)]; exact h4
  · unfold Img at *
    rw [smW_gA ha, hb.2 29 (by decide) (by decide) (by decide), hb.2 30 (by decide) (by decide) (by decide)]; exact h5
theorem smW_r (a : SS) : smW a a := ⟨fun _ _ _ _ _ => rfl, rfl⟩
theorem s_wrong : Sim_wrong Rel := fun a b h x0 => by
  obtain ⟨C, K, A, h1, -⟩ := id h
  obtain ⟨r, b1, e1, e2, e3⟩ := a_wrong h1 x0
  exact ⟨r, a, b1, e1, e2, rel_mono h (smW_r a) e3⟩
theorem s_term : Sim_term Rel := fun a b h x0 x1 => by
  obtain ⟨C, K, A, h1, -⟩ := id h
  obtain ⟨r, b1, e1, e2, e3⟩ := a_term h1 x0 x1
  exact ⟨r, a, b1, e1, e2, rel_mono h (smW_r a) e3⟩
theorem s_by : Sim_by Rel := fun a b h x0 x1 => by
  obtain ⟨C, K, A, h1, -⟩ := id h
  obtain ⟨r, b1, e1, e2, e3⟩ := a_by h1 x0 x1
  exact ⟨r, a, b1, e1, e2, rel_mono h (smW_r a) e3⟩
theorem s_hangs : Sim_hangs Rel := fun a b h x0 x1 => by
  obtain ⟨C, K, A, h1, -⟩ := id h
  obtain ⟨r, b1, e1, e2, e3⟩ := a_hangs h1 x0 x1
  exact ⟨r, a, b1, e1, e2, rel_mono h (smW_r a) e3⟩
theorem s_told : Sim_told Rel := fun a b h x0 => by
  obtain ⟨C, K, A, h1, ⟨n, -, t1, t2, -⟩, -, ⟨m, -, g1, g2, -⟩, -⟩ := id h
  by_cases z : x0 = 13
  · subst z
    obtain ⟨r, a1, b1, e1, e2, e3, e4⟩ := a_told13 h1
    exact ⟨r, a1, b1, e1, e2, rel_mono h e3 e4⟩
  · obtain ⟨r, b1, e1, e2, e3⟩ := a_told h1 x0 z (t1.trans t2.symm) (g1.trans g2.symm)
    exact ⟨r, a, b1, e1, e2, rel_mono h (smW_r a) e3⟩
theorem s_sign : Sim_sign Rel := fun a b h x0 => by
  obtain ⟨C, K, A, h1, -⟩ := id h
  obtain ⟨r, a1, b1, e1, e2, e3, e4⟩ := a_sign h1 x0
  exact ⟨r, a1, b1, e1, e2, rel_mono h e3 e4⟩
theorem s_clause : Sim_clause Rel := fun a b h x0 x1 => by
  obtain ⟨C, K, A, h1, -⟩ := id h
  obtain ⟨r, e1, e2⟩ := a_clause h1 x0 x1
  exact ⟨r, a, b, e1, e2, h⟩
theorem s_part : Sim_part Rel := fun a b h x0 x1 x2 => by
  obtain ⟨C, K, A, h1, -⟩ := id h
  obtain ⟨r, e1, e2⟩ := a_part h1 x0 x1 x2
  exact ⟨r, a, b, e1, e2, h⟩
theorem s_number : Sim_number Rel := fun a b h x0 x1 => by
  obtain ⟨C, K, A, h1, -⟩ := id h
  obtain ⟨r, e1, e2⟩ := a_number h1 x0 x1
  exact ⟨r, a, b, e1, e2, h⟩
theorem s_fault : Sim_fault Rel := fun a b h => by
  obtain ⟨C, K, A, h1, h2, h3, -⟩ := id h
  exact ⟨gI b 2, a, b, by rw [FX7_fault, h3], rfl, h⟩
theorem both_q (a b : SS) (x : Int32) : (FX7_isQuestion a x = some 0 ∧ FX8_in b x 0 5 = some 0) ∨ ∃ q, q < 6 ∧ x = nI q ∧ FX7_isQuestion a x = some 1 ∧ FX8_in b x 0 5 = some 1 := by
  unfold FX7_isQuestion
  rcases in_0 b x (M := 5) (m := 5) rfl (by omega) with ⟨i1, i2⟩ | ⟨t, i1, i2, i3⟩
  · left
    refine ⟨?_, i1⟩
    by_cases c : x < 0
    · rw [if_pos c]
    · obtain ⟨j, j1, j2⟩ := nI_of c
      rcases i2 with i2 | i2
      · exact absurd i2 c
      · rw [j2] at i2
        have := (nI_ltI (a := 5) (by omega) j1).mp i2
        rw [if_neg c, j2, if_pos (show (6 : Int32) ≤ nI j from nI_le (a := 6) (by omega) j1)]
  · right
    refine ⟨t, by omega, i2, ?_, i3⟩
    rw [i2, if_neg (nI_pos (by omega)), if_neg (show ¬ (6 : Int32) ≤ nI t from nI_ge (b := 6) (by omega) (by omega))]
def ans (K A q : Nat) : Int32 := if K.testBit q = true then bI (A.testBit q) else -1
theorem x_answerTo {a : SS} {K A : Nat} (hK : gI a 60 = nI K) (hA : gI a 61 = nI A) {q : Nat} (hq : q < 6) : FX6_answerTo a (nI q) = some (ans K A q) := by
  rw [FX6_answerTo, hK, hA, x_has a _ (by omega : q < 32), ob_s, x_has a _ (by omega : q < 32), ob_s, b_nI _ (by omega), b_nI _ (by omega)]
  unfold ans
  cases K.testBit q <;> cases A.testBit q <;> rfl
theorem m_answerOf {b : SS} {K A : Nat} (hK : gI b 24 = nI K) (hA : gI b 25 = nI A) {q : Nat} (hq : q < 6) (h5 : FX8_in b (nI q) 0 5 = some 1) : FX8_answerOf b (nI q) = some (ans K A q) := by
  rw [FX8_answerOf, h5, ob_s, if_neg (show ¬ (1 : Int32) = 0 by decide), hK, hA, m_has b _ (by omega : q < 32), ob_s, m_has b _ (by omega : q < 32), ob_s, b_nI _ (by omega), b_nI _ (by omega)]
  unfold ans
  cases K.testBit q <;> cases A.testBit q <;> rfl
theorem s_answerOf : Sim_answerOf Rel := fun a b h x0 => by
  obtain ⟨C, K, A, ⟨h1, h2, h3, h4, h5, k1, k2, k3, k4, k5, k6⟩, -⟩ := id h
  rcases both_q a b x0 with ⟨i1, i2⟩ | ⟨q, hq, i0, i1, i2⟩
  · exact ⟨_, a, b, by rw [FX7_answerOf, i1, ob_s, if_pos rfl], by rw [FX8_answerOf, i2, ob_s, if_pos rfl], h⟩
  · subst i0
    exact ⟨_, a, b, by rw [FX7_answerOf, i1, ob_s, if_neg (show ¬ (1 : Int32) = 0 by decide), x_answerTo k1 k2 hq, ob_s], m_answerOf k3 k4 hq i2, h⟩
