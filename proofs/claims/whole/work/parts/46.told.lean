/-! the questions of a clause that look ahead; what is told, all but the written contract -/
theorem both_is {a b : SS} {C : Cd} (hC : WfC C) (ha : RepX a C) (hb : RepM b C) (x : Int32) : (FX7_isClause a x = some 0 ∧ FX8_isClause b x = some 0) ∨ ∃ c, c < cN C ∧ x = nI c ∧ FX7_isClause a x = some 1 ∧ FX8_isClause b x = some 1 := by
  have w1 := hC.1
  unfold FX7_isClause FX8_isClause
  rw [ha.1, hb.1]
  by_cases z : cN C = 0
  · rw [z]
    left
    by_cases c : x < 0
    · rw [if_pos c, FX8_in, if_pos c]; exact ⟨rfl, rfl⟩
    · obtain ⟨j, j1, j2⟩ := nI_of c
      rw [if_neg c, FX8_in, if_neg c, j2, if_pos (nI_le (Nat.zero_le _) j1)]
      refine ⟨rfl, ?_⟩
      have e : (nI 0 - 1 : Int32) < nI j := by
        rw [show (nI 0 - 1 : Int32) = -1 from rfl, Int32.lt_iff_toInt_lt, nI_toInt j1, show (-1 : Int32).toInt = -1 from by decide]
        omega
      rw [if_pos e]; rfl
  · obtain ⟨m, hm⟩ : ∃ m, cN C = m + 1 := ⟨cN C - 1, by omega⟩
    rw [hm, nI_pred]
    rcases in_0 b x (M := nI m) (m := m) rfl (by omega) with ⟨i1, i2⟩ | ⟨t, i1, i2, i3⟩
    · left
      rw [i1]
      refine ⟨?_, rfl⟩
      rcases i2 with i2 | i2
      · rw [if_pos i2]
      · by_cases c : x < 0
        · rw [if_pos c]
        · obtain ⟨j, j1, j2⟩ := nI_of c
          rw [j2] at i2
          have := (nI_ltI (by omega) j1).mp i2
          rw [if_neg c, j2, if_pos (nI_le (by omega) j1)]
    · right
      refine ⟨t, by omega, i2, ?_, by rw [i3]; rfl⟩
      rw [i2, if_neg (nI_pos (by omega)), if_neg (nI_ge (by omega) (by omega))]
theorem a_hangs {a b : SS} {C : Cd} {K A : Nat} (h : Sit a b C K A) (x0 x1 : Int32) : ∃ r b1, FX7_hangs a x0 x1 = some r ∧ FX8_hangs b x0 x1 = some (r, b1) ∧ smM b b1 := by
  obtain ⟨hC, ha, hb, hT, hs, k1, k2, k3, k4, k5, k6⟩ := h
  have w1 := hC.1
  have hk : ∀ c, c < cN C → bt (gI b 26) c = bt (gI b 26) c := fun _ _ => rfl
  rw [FX7_hangs, FX8_hangs]
  rcases both_is hC ha hb x0 with ⟨i1, i2⟩ | ⟨c, hc, i0, i1, i2⟩
  · rw [i1, i2, ob_s, ob_s, if_pos rfl, if_pos rfl]; exact ⟨_, b, rfl, rfl, smM_r b⟩
  rw [i1, i2, ob_s, ob_s, if_neg (show ¬ (1 : Int32) = 0 by decide), if_neg (show ¬ (1 : Int32) = 0 by decide), i0]
  by_cases c0 : x1 = 0
  · rw [if_pos c0, if_pos c0]
    obtain ⟨r, g1, g2⟩ := x_mattersFor hC ha hT k1 k2 hc
    obtain ⟨s, σ, g3, g4, g5⟩ := m_matters hC hb hk hs k3 k4 (jshl 1 (nI c))
    have e : s = r := b_ext fun o ho => by
      rw [g2 o ho, g5 o ho]
      congr 1
      apply beq_of
      rw [anyB_iff]
      constructor
      · rintro ⟨j, hj, h1⟩
        rw [b_one (by omega) (by omega), Bool.and_eq_true, decide_eq_true_eq] at h1
        rw [← h1.1]; exact h1.2
      · intro h1
        exact ⟨c, hc, by rw [b_one (by omega) (by omega), h1]; simp⟩
    subst e
    exact ⟨_, σ, by rw [g1, ob_s], by rw [g3, ob_s], g4⟩
  rw [if_neg c0, if_neg c0]
  by_cases c1 : x1 = 1
  · rw [if_pos c1, if_pos c1]
    obtain ⟨σ, g1, g2⟩ := m_settles hC hb hk hs k3 k4 hc
    exact ⟨_, σ, by rw [x_settles hC ha hT hs k1 k2 hc, ob_s], by rw [g1, ob_s], g2⟩
  rw [if_neg c1, if_neg c1]
  by_cases c2 : x1 = 2
  · rw [if_pos c2, if_pos c2]
    obtain ⟨σ, g1, g2⟩ := m_brings hC hb hk hs k3 k4 hc
    exact ⟨_, σ, by rw [x_brings hC ha hT k1 k2 hc, ob_s], by rw [g1, ob_s], g2⟩
  rw [if_neg c2, if_neg c2]
  by_cases c3 : x1 = 3
  · rw [if_pos c3, if_pos c3]
    obtain ⟨t, e1, e2⟩ := x_possible k1 k2
    have xs : FX3_surety a (nI c) = some (nI (sty C (bt (gI b 26)) (can K A) c)) := by
      rw [FX3_surety, e1, ob_s, x_among hC ha hT hc e2, ob_s]
    rw [xs, ob_s]
    obtain ⟨r2, σ, g1, g2, g3⟩ := m_surely hC hb hk hs k3 k4 (w := 2) (by omega)
    have q1 : ∀ k, k ≠ 34 → gI σ k = gI b k := g2.1
    obtain ⟨r1, τ, g4, g5, g6⟩ := m_surely hC (smM_R g2 hb) (sk := bt (gI b 26)) (fun c _ => by rw [q1 26 (by decide)]) hs ((q1 24 (by decide)).trans k3) ((q1 25 (by decide)).trans k4) (w := 1) (by omega)
    have s3 := sty_3 C (bt (gI b 26)) (can K A) c
    have h2 := g3 c (by omega)
    have h1 := g6 c (by omega)
    rw [show (2 : Int32) = nI 2 from rfl, g1, ob_s, m_has σ _ (by omega : c < 32), ob_s, h2, decide_eq_true hc, Bool.true_and, show (1 : Int32) = nI 1 from rfl]
    show ∃ r b1, some (nI (sty C (bt (gI b 26)) (can K A) c)) = some r ∧ (if bI (sty C (bt (gI b 26)) (can K A) c == 2) = 0 then ob (FX8_surely σ (nI 1)) (fun p20 => ob (FX8_has p20.2 p20.1 (nI c)) (fun r22 => if r22 = 0 then some ((0 : Int32), p20.2) else some (nI 1, p20.2))) else some (nI 2, σ)) = some (r, b1) ∧ smM b b1
    rw [g4, ob_s, m_has τ _ (by omega : c < 32), ob_s, h1, decide_eq_true hc, Bool.true_and]
    rcases (by omega : sty C (bt (gI b 26)) (can K A) c = 0 ∨ sty C (bt (gI b 26)) (can K A) c = 1 ∨ sty C (bt (gI b 26)) (can K A) c = 2) with e | e | e
    · rw [e]; exact ⟨_, τ, rfl, rfl, smM_t g2 g5⟩
    · rw [e]; exact ⟨_, τ, rfl, rfl, smM_t g2 g5⟩
    · rw [e]; exact ⟨_, σ, rfl, rfl, g2⟩
  rw [if_neg c3, if_neg c3]
  exact ⟨_, b, rfl, rfl, smM_r b⟩
theorem both_surely {a b : SS} {C : Cd} {K A : Nat} (h : Sit a b C K A) {w : Nat} (hw : w < 3) : ∃ r b1, FX3_clausesOf a (nI w) = some r ∧ FX8_surely b (nI w) = some (r, b1) ∧ smM b b1 := by
  obtain ⟨hC, ha, hb, hT, hs, k1, k2, k3, k4, k5, k6⟩ := h
  obtain ⟨r, g1, g2⟩ := x_clausesOf hC ha hT k1 k2 hw
  obtain ⟨s, σ, g3, g4, g5⟩ := m_surely hC hb (sk := bt (gI b 26)) (fun _ _ => rfl) hs k3 k4 hw
  have e : s = r := b_ext fun o ho => by rw [g2 o ho, g5 o ho]
  subst e
  exact ⟨s, σ, g1, g3, g4⟩
/-- all that is told but 2, 13 and 14 -/
theorem a_told {a b : SS} {C : Cd} {K A : Nat} (h : Sit a b C K A) (x0 : Int32) (h13 : x0 ≠ 13) (h1 : gI a 10 = gI b 1) (h2 : gI a 70 = gI b 28) : ∃ r b1, FX7_told a x0 = some (r, a) ∧ FX8_told b x0 = some (r, b1) ∧ smM b b1 := by
  obtain ⟨F, e1, e2, e3⟩ := both_now h
  have s2 := both_surely h (w := 2) (by omega)
  have s1 := both_surely h (w := 1) (by omega)
  have s0 := both_surely h (w := 0) (by omega)
  obtain ⟨hC, ha, hb, hT, hs, k1, k2, k3, k4, k5, k6⟩ := h
  have w1 := hC.1
  have hA := hs.2.1
  have hk : ∀ c, c < cN C → bt (gI b 26) c = bt (gI b 26) c := fun _ _ => rfl
  have sj : ∀ j, j < cN C → bt F j = inF C A (bt (gI b 26)) j := fun j hj => e3 j (by omega)
  rw [FX7_told, FX8_told]
  by_cases c0 : x0 = 0
  · rw [if_pos c0, if_pos c0, ha.1, hb.1]; exact ⟨_, b, rfl, rfl, smM_r b⟩
  rw [if_neg c0, if_neg c0]
  by_cases c1 : x0 = 1
  · rw [if_pos c1, if_pos c1, ha.2.1, hb.2.1]; exact ⟨_, b, rfl, rfl, smM_r b⟩
  rw [if_neg c1, if_neg c1]
  by_cases c2 : x0 = 2
  · rw [if_pos c2, if_pos c2, h1]; exact ⟨_, b, rfl, rfl, smM_r b⟩
  rw [if_neg c2, if_neg c2]
  by_cases c3 : x0 = 3
  · rw [if_pos c3, if_pos c3, k1, k3]; exact ⟨_, b, rfl, rfl, smM_r b⟩
  rw [if_neg c3, if_neg c3]
  by_cases c4 : x0 = 4
  · rw [if_pos c4, if_pos c4, e1, e2, ob_s, ob_s]; exact ⟨_, b, rfl, rfl, smM_r b⟩
  rw [if_neg c4, if_neg c4]
  by_cases c5 : x0 = 5
  · rw [if_pos c5, if_pos c5, FX3_sure]
    obtain ⟨r, σ, g1, g2, g3⟩ := s2
    exact ⟨r, σ, by rw [show (2 : Int32) = nI 2 from rfl, g1, ob_s, ob_s], by rw [show (2 : Int32) = nI 2 from rfl, g2, ob_s], g3⟩
  rw [if_neg c5, if_neg c5]
  by_cases c6 : x0 = 6
  · rw [if_pos c6, if_pos c6, FX3_never]
    obtain ⟨r, σ, g1, g2, g3⟩ := s0
    exact ⟨r, σ, by rw [show (0 : Int32) = nI 0 from rfl, g1, ob_s, ob_s], by rw [show (0 : Int32) = nI 0 from rfl, g2, ob_s], g3⟩
  rw [if_neg c6, if_neg c6]
  by_cases c7 : x0 = 7
  · rw [if_pos c7, if_pos c7, FX3_open]
    obtain ⟨r, σ, g1, g2, g3⟩ := s1
    exact ⟨r, σ, by rw [show (1 : Int32) = nI 1 from rfl, g1, ob_s, ob_s], by rw [show (1 : Int32) = nI 1 from rfl, g2, ob_s], g3⟩
  rw [if_neg c7, if_neg c7]
  by_cases c8 : x0 = 8
  · rw [if_pos c8, if_pos c8, k5]; exact ⟨_, b, rfl, rfl, smM_r b⟩
  rw [if_neg c8, if_neg c8]
  by_cases c9 : x0 = 9
  · obtain ⟨σ, g1, g2⟩ := m_wrongBy hC hb F
    rw [if_pos c9, if_pos c9, k2, x_countWrong hC ha hT hA, ob_s, e2, ob_s, g1, ob_s, nwr_cong hC sj]
    exact ⟨_, σ, rfl, rfl, g2⟩
  rw [if_neg c9, if_neg c9]
  by_cases c10 : x0 = 10
  · rw [if_pos c10, if_pos c10]
    obtain ⟨r, g1, g2⟩ := x_matters hC ha hT k1 k2
    obtain ⟨s, σ, g3, g4, g5⟩ := m_matters hC hb hk hs k3 k4 (jshl 1 (gI b 3) - 1)
    have e : s = r := b_ext fun o ho => by
      rw [g2 o ho, g5 o ho]
      congr 1
      refine anyB_cong fun j hj => ?_
      rw [hb.1, mask_bit (cN C) (by omega) j (by omega), decide_eq_true hj, Bool.true_and]
    subst e
    exact ⟨_, σ, by rw [g1, ob_s], by rw [g3, ob_s], g4⟩
  rw [if_neg c10, if_neg c10]
  obtain ⟨⟨σ, m1, m2⟩, τ, m3, m4⟩ := m_ways hC hb hk hs k3 k4
  obtain ⟨y1, y2⟩ := x_ways hC ha hT k1 k2
  by_cases c11 : x0 = 11
  · rw [if_pos c11, if_pos c11, y1, m1, ob_s, ob_s]; exact ⟨_, σ, rfl, rfl, m2⟩
  rw [if_neg c11, if_neg c11]
  by_cases c12 : x0 = 12
  · rw [if_pos c12, if_pos c12, y2, m3, ob_s, ob_s]; exact ⟨_, τ, rfl, rfl, m4⟩
  rw [if_neg c12, if_neg c12, if_neg h13, if_neg h13]
  by_cases c14 : x0 = 14
  · rw [if_pos c14, if_pos c14, h2]; exact ⟨_, b, rfl, rfl, smM_r b⟩
  rw [if_neg c14, if_neg c14]
  exact ⟨_, b, rfl, rfl, smM_r b⟩
