/-! the questions that write nothing: wrong, term, hangs, by -/
theorem in_0 (σ : SS) (x : Int32) {M : Int32} {m : Nat} (hM : M = nI m) (hm : m < 2 ^ 31) : (FX8_in σ x 0 M = some 0 ∧ (x < 0 ∨ M < x)) ∨ ∃ j, j ≤ m ∧ x = nI j ∧ FX8_in σ x 0 M = some 1 := by
  subst hM
  unfold FX8_in
  by_cases c : x < 0
  · exact Or.inl ⟨by rw [if_pos c], Or.inl c⟩
  · obtain ⟨j, j1, j2⟩ := nI_of c
    rw [if_neg c]
    by_cases d : nI m < x
    · exact Or.inl ⟨by rw [if_pos d], Or.inr d⟩
    · refine Or.inr ⟨j, ?_, j2, by rw [if_neg d]⟩
      rw [j2] at d
      rcases Nat.lt_or_ge m j with e | e
      · exact absurd (nI_lt e j1) d
      · exact e
theorem a_wrong {a b : SS} {C : Cd} {K A : Nat} (h : Sit a b C K A) (x0 : Int32) : ∃ r b1, FX7_wrong a x0 = some r ∧ FX8_wrong b x0 = some (r, b1) ∧ smM b b1 := by
  obtain ⟨F, e1, e2, e3⟩ := both_now h
  obtain ⟨hC, ha, hb, hT, hs, k1, k2, k3, k4, k5, k6⟩ := h
  have w1 := hC.1
  have w2 := hC.2.1
  have sj : ∀ j, j < cN C → bt F j = inF C A (bt (gI b 26)) j := fun j hj => e3 j (by omega)
  have hA := hs.2.1
  have f1 := m_firstWrong hC hb F
  have fe : fidx (ami C (bt F)) 0 (cP C) = fidx (ami C (inF C A (bt (gI b 26)))) 0 (cP C) := fidx_cong fun p _ hp => ami_cong hC sj (by omega)
  rw [fe] at f1
  have f2 := x_firstAmiss hC ha hT hA
  rw [FX8_wrong, e2, ob_s, f1, ob_s, FX7_wrong, k2]
  have mc := m_count hC hb F
  rw [cam_cong hC sj, cam_cong hC sj, cam_cong hC sj] at mc
  by_cases c0 : x0 = 0
  · rw [if_pos c0, if_pos c0, c0]
    have e := x_countAmiss hC ha hT (k := 1) (by omega) hA
    exact ⟨_, b, by rw [show (1 : Int32) = nI 1 from rfl, e, ob_s], by rw [mc.1, ob_s], smM_r b⟩
  rw [if_neg c0, if_neg c0]
  by_cases c1 : x0 = 1
  · rw [if_pos c1, if_pos c1, c1]
    have e := x_countAmiss hC ha hT (k := 0) (by omega) hA
    exact ⟨_, b, by rw [show (0 : Int32) = nI 0 from rfl, e, ob_s], by rw [mc.2.1, ob_s], smM_r b⟩
  rw [if_neg c1, if_neg c1]
  by_cases c2 : x0 = 2
  · rw [if_pos c2, if_pos c2]
    exact ⟨_, b, by rw [x_countIdle hC ha hT hA, ob_s], by rw [m_idle hC hb F, ob_s, idl_cong hC sj], smM_r b⟩
  rw [if_neg c2, if_neg c2]
  by_cases c3 : x0 = 3
  · rw [if_pos c3, if_pos c3, c3]
    have e := x_countAmiss hC ha hT (k := 2) (by omega) hA
    exact ⟨_, b, by rw [show (2 : Int32) = nI 2 from rfl, e, ob_s], by rw [mc.2.2, ob_s], smM_r b⟩
  rw [if_neg c3, if_neg c3]
  by_cases c4 : x0 = 4
  · rw [if_pos c4, if_pos c4]
    obtain ⟨r, g1, g2⟩ := x_roundTerms hT hA
    obtain ⟨s, σ, g3, g4, g5⟩ := m_roundOf hC hb F
    have e : s = r := b_ext fun o ho => by rw [g2 o ho, g5 o ho, hng_eq hC sj]
    subst e
    exact ⟨_, σ, by rw [g1, ob_s], by rw [g3, ob_s], g4⟩
  rw [if_neg c4, if_neg c4]
  by_cases c5 : x0 = 5
  · rw [if_pos c5, if_pos c5, f2, ob_s, x_ownerOf hC ha, ob_s]
    refine ⟨_, b, rfl, ?_, smM_r b⟩
    unfold own
    rcases fidx_or (ami C (inF C A (bt (gI b 26)))) (cP C) 0 with ⟨h1, h2⟩ | ⟨k, h1, h2, h3, h4⟩
    · rw [h1]; rfl
    · rw [h4, if_neg (nI_m1 (by omega)), if_neg (nI_m1 (by omega)), gd_t (inb_n (by omega) (by omega)), nI_clamp (by omega), (hb.2.2.2 k (by omega)).1]
  rw [if_neg c5, if_neg c5]
  by_cases c6 : x0 = 6
  · rw [if_pos c6, if_pos c6, f2, ob_s]; exact ⟨_, b, rfl, rfl, smM_r b⟩
  rw [if_neg c6, if_neg c6]
  exact ⟨_, b, rfl, rfl, smM_r b⟩
theorem m_term2 {b : SS} {C : Cd} (hC : WfC C) (hb : RepM b C) (s : Int32) {t : Nat} (ht : t < 8) : FX8_term_L79 b (nI t) s (some (-1, b)) 5000 0 = some (own C (fidx (iof C (bt s) t 0) 0 (cP C)), b) := by
  have w1 := hC.1
  have w2 := hC.2.1
  have h := lp (fun n (_ : Unit) i => FX8_term_L79 b (nI t) s (some (-1, b)) n i) (cP C) (fun i _ => fidx (iof C (bt s) t 0) 0 (cP C) = fidx (iof C (bt s) t 0) i (cP C - i)) (fun r => r = some (own C (fidx (iof C (bt s) t 0) 0 (cP C)), b)) (by
    intro n _ h
    show FX8_term_L79 _ _ _ _ _ _ = _
    rw [FX8_term_L79, hb.2.1, if_pos (nI_le (Nat.le_refl _) (by omega)), h, Nat.sub_self]; rfl) (by
    intro n i _ hi h
    obtain ⟨p1, p2, p3, p4⟩ := hC.2.2.2.2 i hi
    obtain ⟨o1, o2, o3⟩ := hb.2.2.2 i hi
    have hv := v_lt hC hi
    have ci : Int32.toNatClampNeg (nI i) = i := nI_clamp (by omega)
    have g : inb (nI i) 30 = true := inb_n (by omega) (by omega)
    have st : FX8_term_L79 b (nI t) s (some (-1, b)) (n + 1) (nI i) = if bI (iof C (bt s) t 0 i) = 0 then FX8_term_L79 b (nI t) s (some (-1, b)) n (nI (i + 1)) else some (nI (cO C i), b) := by
      rw [FX8_term_L79, hb.2.1, if_neg (nI_ge hi (by omega)), gd_t g, ci, o1, m_has b s (by omega : cO C i < 32), ob_s, gd_t g, o2, gd_t g, o3, gd_t g, nI_1]
      unfold iof
      cases bt s (cO C i) with
      | false => rw [if_pos bI_f]; rfl
      | true =>
        rw [if_neg bI_n]
        by_cases c1 : cK C i = 0
        · rw [if_pos (show nI (cK C i) = 0 by rw [c1]; rfl), c1]
          by_cases c2 : cV C i = t
          · rw [if_pos (by rw [c2]), c2, beq_self_eq_true, beq_self_eq_true]; rfl
          · rw [if_neg (nI_ne (by omega) (by omega) c2), beq_ne c2, beq_self_eq_true]; rfl
        · rw [if_neg (show ¬ nI (cK C i) = 0 from nI_ne (b := 0) (by omega) (by omega) c1), beq_ne c1]; rfl
    rw [fidx_s _ hi] at h
    cases hm : iof C (bt s) t 0 i with
    | false => rw [hm] at h st; exact Or.inr ⟨(), h, st.trans (if_pos bI_f)⟩
    | true =>
      rw [hm, if_pos rfl] at h
      rw [hm] at st
      refine Or.inl ((st.trans (if_neg bI_n)).trans ?_)
      rw [h]
      unfold own
      rw [if_neg (nI_m1 (by omega)), ci]) (cP C) 5000 0 () (by omega) (by omega) rfl
  exact h
theorem iof_cong {C : Cd} (hC : WfC C) {S T : Nat → Bool} (h : ∀ j, j < cN C → S j = T j) (t k : Nat) {p : Nat} (hp : p < cP C) : iof C S t k p = iof C T t k p := by
  unfold iof
  rw [h _ (hC.2.2.2.2 p hp).2.1]
theorem usd_8 {C : Cd} (hC : WfC C) {c t : Nat} (ht : ¬ t < 8) : usd C c t = false := by
  unfold usd
  refine anyB_f.mpr fun p hp => ?_
  obtain ⟨p1, p2, p3, p4⟩ := hC.2.2.2.2 p hp
  by_cases c1 : cK C p = 1
  · have := p4 (by omega)
    rw [beq_ne (show ¬ cV C p = t by omega)]; simp
  · rw [beq_ne c1]; rfl
theorem hng_8 {C : Cd} (hC : WfC C) {S : Nat → Bool} {t o : Nat} (ho : ¬ o < 8) : hng C S t o = false := by
  unfold hng
  refine anyB_f.mpr fun p hp => ?_
  rw [usd_8 hC ho]; simp
theorem a_term {a b : SS} {C : Cd} {K A : Nat} (h : Sit a b C K A) (x0 x1 : Int32) : ∃ r b1, FX7_term a x0 x1 = some r ∧ FX8_term b x0 x1 = some (r, b1) ∧ smM b b1 := by
  obtain ⟨F, e1, e2, e3⟩ := both_now h
  obtain ⟨hC, ha, hb, hT, hs, k1, k2, k3, k4, k5, k6⟩ := h
  have w1 := hC.1
  have w2 := hC.2.1
  have sj : ∀ j, j < cN C → bt F j = inF C A (bt (gI b 26)) j := fun j hj => e3 j (by omega)
  have hA := hs.2.1
  rw [FX8_term, FX7_term, k2]
  rcases in_0 b x0 (M := 7) (m := 7) rfl (by omega) with ⟨i1, i2⟩ | ⟨t, i1, i2, i3⟩
  · rw [i1, ob_s, if_pos rfl]
    refine ⟨_, b, ?_, rfl, smM_r b⟩
    rcases i2 with i2 | i2
    · rw [if_pos i2]
    · by_cases c : x0 < 0
      · rw [if_pos c]
      · obtain ⟨j, j1, j2⟩ := nI_of c
        rw [if_neg c, if_neg]
        rw [j2] at i2 ⊢
        have := (nI_ltI (a := 7) (by omega) j1).mp i2
        exact nI_nlt (b := 8) (by omega) j1
  subst i2
  rw [i3, ob_s, if_neg (show ¬ (1 : Int32) = 0 by decide), e2, ob_s, if_neg (nI_pos (by omega)), if_pos (show nI t < 8 from nI_lt (b := 8) (by omega) (by omega))]
  by_cases c0 : x1 = 0
  · rw [if_pos c0, if_pos c0]
    exact ⟨_, b, by rw [show (0 : Int32) = nI 0 from rfl, x_countParts hC ha hT (by omega) (by omega) hA, ob_s], by rw [show (0 : Int32) = nI 0 from rfl, hb.2.1, m_often hC hb F (by omega) (by omega) (Nat.le_refl _), ob_s, ofn_cong hC sj], smM_r b⟩
  rw [if_neg c0, if_neg c0]
  by_cases c1 : x1 = 1
  · rw [if_pos c1, if_pos c1]
    exact ⟨_, b, by rw [show (1 : Int32) = nI 1 from rfl, x_countParts hC ha hT (by omega) (by omega) hA, ob_s], by rw [show (1 : Int32) = nI 1 from rfl, hb.2.1, m_often hC hb F (by omega) (by omega) (Nat.le_refl _), ob_s, ofn_cong hC sj], smM_r b⟩
  rw [if_neg c1, if_neg c1]
  by_cases c2 : x1 = 2
  · rw [if_pos c2, if_pos c2]
    refine ⟨_, b, by rw [x_firstDef hC ha hT (by omega) hA, ob_s, x_ownerOf hC ha, ob_s], ?_, smM_r b⟩
    rw [m_term2 hC hb F (by omega), fidx_cong fun p _ hp => iof_cong hC sj t 0 (show p < cP C by omega)]
  rw [if_neg c2, if_neg c2]
  by_cases c3 : x1 = 3
  · rw [if_pos c3, if_pos c3]
    obtain ⟨r, g1, g2⟩ := x_roundTerms hT hA
    obtain ⟨s, σ, g3, g4, g5⟩ := m_roundOf hC hb F
    have e : s = r := b_ext fun o ho => by rw [g2 o ho, g5 o ho, hng_eq hC sj]
    subst e
    rw [g1, ob_s, x_has a s (by omega : t < 32), ob_s, g3, ob_s, m_has σ s (by omega : t < 32), ob_s]
    cases bt s t
    · exact ⟨0, σ, if_pos bI_f, if_pos bI_f, g4⟩
    · exact ⟨1, σ, if_neg bI_n, if_neg bI_n, g4⟩
  rw [if_neg c3, if_neg c3]
  by_cases c4 : x1 = 4
  · rw [if_pos c4, if_pos c4]
    obtain ⟨r, g1, g2⟩ := x_hangsOn hT (show t < 8 by omega) hA
    obtain ⟨s, g3, g5⟩ := m_hangsOn hC hb F (t := t) (by omega)
    have e : s = r := b_ext fun o ho => by
      rw [g2 o ho, g5 o ho, hng_eq hC sj]
      by_cases o8 : o < 8
      · simp [o8]
      · rw [hng_8 hC o8]; simp
    subst e
    exact ⟨_, b, by rw [g1, ob_s], by rw [g3, ob_s], smM_r b⟩
  rw [if_neg c4, if_neg c4]
  exact ⟨_, b, rfl, rfl, smM_r b⟩
theorem a_by {a b : SS} {C : Cd} {K A : Nat} (h : Sit a b C K A) (x0 x1 : Int32) : ∃ r b1, FX7_by a x0 x1 = some r ∧ FX8_by b x0 x1 = some (r, b1) ∧ smM b b1 := by
  rw [FX8_by, FX7_by]
  rcases in_0 b x0 (M := 63) (m := 63) rfl (by omega) with ⟨i1, i2⟩ | ⟨t, i1, i2, i3⟩
  · rw [i1, ob_s, if_pos rfl]
    refine ⟨_, b, ?_, rfl, smM_r b⟩
    rcases i2 with i2 | i2
    · rw [if_pos i2]
    · by_cases c : x0 < 0
      · rw [if_pos c]
      · obtain ⟨j, j1, j2⟩ := nI_of c
        rw [if_neg c, if_neg]
        rw [j2] at i2 ⊢
        have := (nI_ltI (a := 63) (by omega) j1).mp i2
        exact nI_nlt (b := 64) (by omega) j1
  subst i2
  rw [i3, ob_s, if_neg (show ¬ (1 : Int32) = 0 by decide), if_neg (nI_pos (by omega)), if_pos (show nI t < 64 from nI_lt (b := 64) (by omega) (by omega))]
  obtain ⟨F, e1, e2, e3⟩ := both_by h (x := t) (by omega)
  obtain ⟨hC, ha, hb, hT, hs, k1, k2, k3, k4, k5, k6⟩ := h
  have w1 := hC.1
  have sj : ∀ j, j < cN C → bt F j = inF C t (bt (gI b 26)) j := fun j hj => e3 j (by omega)
  by_cases c0 : x1 = 0
  · rw [if_pos c0, c0, show FX8_in b 0 0 1 = some 1 from rfl, ob_s, if_neg (show ¬ (1 : Int32) = 0 by decide), e1, ob_s, e2, ob_s, if_pos rfl]
    exact ⟨F, b, rfl, rfl, smM_r b⟩
  rw [if_neg c0]
  by_cases c1 : x1 = 1
  · obtain ⟨σ, g1, g2⟩ := m_wrongBy hC hb F
    rw [if_pos c1, c1, show FX8_in b 1 0 1 = some 1 from rfl, ob_s, if_neg (show ¬ (1 : Int32) = 0 by decide), e2, ob_s, if_neg (show ¬ (1 : Int32) = 0 by decide), g1, ob_s, x_countWrong hC ha hT (by omega), ob_s]
    exact ⟨_, σ, rfl, by rw [nwr_cong hC sj], g2⟩
  rw [if_neg c1]
  rcases in_0 b x1 (M := 1) (m := 1) rfl (by omega) with ⟨i4, i5⟩ | ⟨u, i4, i5, i6⟩
  · rw [i4, ob_s, if_pos rfl]
    exact ⟨_, b, rfl, rfl, smM_r b⟩
  · rcases (by omega : u = 0 ∨ u = 1) with hu | hu
    · exact absurd (by rw [i5, hu]; rfl) c0
    · exact absurd (by rw [i5, hu]; rfl) c1
