/-! answers, and going back to what was noted -/
theorem bt_shl {n : Nat} (hn : n < 32) (x : Int32) {i : Nat} (hi : i < 32) : bt (jshl x (nI n)) i = (decide (n ≤ i) && bt x (i - n)) := b_shl n hn x hi
theorem bt_ushr {n : Nat} (hn : n < 32) (x : Int32) (i : Nat) : bt (jushr x (nI n)) i = bt x (n + i) := b_ushr n hn x i
theorem bt_63 : ∀ i, i < 32 → bt 63 i = decide (i < 6) := by decide +kernel
theorem lg_bits {C : Cd} {k a s : Int32} (h : Lg C k a s) : (∀ i, bt k i = true → i < 6) ∧ (∀ i, bt a i = true → bt k i = true) ∧ (∀ i, bt a i = true → i < 6) ∧ ∀ i, bt s i = true → i < cN C := by
  obtain ⟨K, A, ⟨h1, h2, h3⟩, h4, h5, h6⟩ := h
  have big : ∀ (x : Int32) i, bt x i = true → i < 32 := fun x i e => by
    rcases Nat.lt_or_ge i 32 with c | c
    · exact c
    · rw [b_big c] at e; cases e
  have kk : ∀ i, bt k i = true → K.testBit i = true := fun i e => by rw [h4, b_nI _ (big _ _ e)] at e; exact e
  have aa : ∀ i, bt a i = true → A.testBit i = true := fun i e => by rw [h5, b_nI _ (big _ _ e)] at e; exact e
  refine ⟨fun i e => ?_, fun i e => ?_, fun i e => ?_, fun i e => h6 i (big _ _ e) e⟩
  · rcases Nat.lt_or_ge i 6 with c | c
    · exact c
    · have := kk i e; rw [b_lt (m := 6) h1 c] at this; cases this
  · rw [h4, b_nI _ (big _ _ e)]; exact h3 i (aa i e)
  · rcases Nat.lt_or_ge i 6 with c | c
    · exact c
    · have := aa i e; rw [b_lt (m := 6) h2 c] at this; cases this
theorem pck_bit {k a s : Int32} {i : Nat} (hi : i < 32) : bt (pck k a s) i = (((decide (12 ≤ i) && bt s (i - 12)) || (decide (6 ≤ i) && bt a (i - 6))) || bt k i) := by
  unfold pck
  rw [b_or, b_or, show (12 : Int32) = nI 12 from rfl, show (6 : Int32) = nI 6 from rfl, bt_shl (by omega) _ hi, bt_shl (by omega) _ hi]
theorem not_t {b : Bool} (h : ¬ b = true) : b = false := by cases b <;> first | rfl | exact absurd rfl h
theorem pck_back {C : Cd} (hC : WfC C) {k a s : Int32} (h : Lg C k a s) : pck k a s &&& 63 = k ∧ jushr (pck k a s) 6 &&& 63 = a ∧ jushr (pck k a s) 12 = s ∧ ¬ pck k a s = -1 := by
  have w1 := hC.1
  obtain ⟨h1, h2, h3, h4⟩ := lg_bits h
  have n1 : ∀ i, 6 ≤ i → bt k i = false := fun i c => not_t fun e => by have := h1 i e; omega
  have n3 : ∀ i, 6 ≤ i → bt a i = false := fun i c => not_t fun e => by have := h3 i e; omega
  have n4 : ∀ i, 16 ≤ i → bt s i = false := fun i c => not_t fun e => by have := h4 i e; omega
  refine ⟨b_ext fun i hi => ?_, b_ext fun i hi => ?_, b_ext fun i hi => ?_, fun e => ?_⟩
  · rw [b_and, pck_bit hi, bt_63 i hi]
    by_cases c : i < 6
    · simp [c, show ¬ 12 ≤ i by omega, show ¬ 6 ≤ i by omega]
    · rw [n1 i (by omega)]; simp [c]
  · rw [b_and, bt_63 i hi, show (6 : Int32) = nI 6 from rfl, bt_ushr (by omega)]
    by_cases c : i < 6
    · rw [pck_bit (by omega), n1 (6 + i) (by omega)]; simp [c, show ¬ 12 ≤ 6 + i by omega]
    · rw [n3 i (by omega)]; simp [c]
  · rw [show (12 : Int32) = nI 12 from rfl, bt_ushr (by omega)]
    by_cases c : 12 + i < 32
    · rw [pck_bit c, n1 (12 + i) (by omega), n3 (12 + i - 6) (by omega)]; simp
    · rw [b_big (by omega), n4 i (by omega)]
  · have := congrArg (fun z => bt z 31) e
    simp only [b_m1 31 (by omega)] at this
    rw [pck_bit (by omega), n1 31 (by omega), n3 (31 - 6) (by omega), n4 (31 - 12) (by omega)] at this
    simp at this
theorem of_6 {k : Int32} (h : ∀ i, i < 32 → bt k i = true → i < 6) : ∃ K, K < 64 ∧ k = nI K := by
  obtain ⟨K, h1, h2⟩ := wb_of32 k
  refine ⟨K, ?_, h2⟩
  rcases Nat.lt_or_ge K 64 with c | c
  · exact c
  · obtain ⟨i, hi, e⟩ := Nat.exists_ge_and_testBit_of_ge_two_pow (n := 6) c
    have i32 : i < 32 := by
      rcases Nat.lt_or_ge i 32 with d | d
      · exact d
      · rw [b_lt (m := 32) h1 d] at e; cases e
    have := h i i32 (by rw [h2, b_nI _ i32]; exact e)
    omega
theorem lg_of {C : Cd} {k a s : Int32} (h1 : ∀ i, i < 32 → bt k i = true → i < 6) (h2 : ∀ i, i < 32 → bt a i = true → bt k i = true) (h3 : ∀ i, i < 32 → bt s i = true → i < cN C) : Lg C k a s := by
  obtain ⟨K, k1, k2⟩ := of_6 h1
  obtain ⟨A, a1, a2⟩ := of_6 (k := a) fun i hi e => h1 i hi (h2 i hi e)
  refine ⟨K, A, ⟨k1, a1, fun q e => ?_⟩, k2, a2, h3⟩
  have q6 : q < 6 := by
    rcases Nat.lt_or_ge q 6 with c | c
    · exact c
    · rw [b_lt (m := 6) a1 c] at e; cases e
  have := h2 q (by omega) (by rw [a2, b_nI _ (by omega)]; exact e)
  rw [k2, b_nI _ (by omega)] at this
  exact this
theorem sit_lg {a b : SS} {C : Cd} {K A : Nat} (h : Sit a b C K A) : Lg C (gI b 24) (gI b 25) (gI b 26) := by
  obtain ⟨h1, h2, h3, h4, h5, k1, k2, k3, k4, k5, k6⟩ := h
  exact ⟨K, A, h5, k3, k4, k6⟩
theorem sit_pck {a b : SS} {C : Cd} {K A : Nat} (h : Sit a b C K A) : FX6_packed a = some (pck (gI b 24) (gI b 25) (gI b 26)) := by
  obtain ⟨h1, h2, h3, h4, h5, k1, k2, k3, k4, k5, k6⟩ := h
  rw [FX6_packed, k5, k1, k2, k3, k4]; rfl
/-- all but the standing -/
def smS (a p : SS) : Prop := (∀ k, k ≠ 60 → k ≠ 61 → k ≠ 62 → gI p k = gI a k) ∧ ∀ k, gA p k = gA a k
def smT (b q : SS) : Prop := (∀ k, k ≠ 24 → k ≠ 25 → k ≠ 26 → gI q k = gI b k) ∧ ∀ k, gA q k = gA b k
theorem smP_X {a p : SS} (h : smP a p) {C : Cd} (ha : RepX a C) : RepX p C := by
  unfold RepX at *
  rw [h.1 40 (by decide), h.1 41 (by decide), h.1 42 (by decide), h.2.1 43 (by decide), h.2.1 44 (by decide), h.2.1 45 (by decide), h.2.1 46 (by decide), h.2.1 47 (by decide), h.2.1 48 (by decide), h.2.1 49 (by decide), h.2.1 50 (by decide), h.2.1 51 (by decide)]
  exact ha
theorem smS_X {a p : SS} (h : smS a p) {C : Cd} (ha : RepX a C) : RepX p C := by
  unfold RepX at *
  simp only [h.2]
  rw [h.1 40 (by decide) (by decide) (by decide), h.1 41 (by decide) (by decide) (by decide), h.1 42 (by decide) (by decide) (by decide)]
  exact ha
theorem smQ_M {b q : SS} (h : smQ b q) {C : Cd} (hb : RepM b C) : RepM q C := by
  unfold RepM at *
  rw [h.1 3 (by decide), h.1 8 (by decide), h.2 4 (by decide), h.2 5 (by decide), h.2 6 (by decide), h.2 7 (by decide), h.2 9 (by decide), h.2 10 (by decide), h.2 11 (by decide)]
  exact hb
theorem smT_M {b q : SS} (h : smT b q) {C : Cd} (hb : RepM b C) : RepM q C := by
  unfold RepM at *
  simp only [h.2]
  rw [h.1 3 (by decide) (by decide) (by decide), h.1 8 (by decide) (by decide) (by decide)]
  exact hb
theorem sit_new {a b : SS} {C : Cd} (hC : WfC C) (ha : RepX a C) (hb : RepM b C) (hT : Tabs a C (bt (gI b 26))) (e1 : gI a 60 = gI b 24) (e2 : gI a 61 = gI b 25) (e3 : gI a 62 = gI b 26) (hl : Lg C (gI b 24) (gI b 25) (gI b 26)) : ∃ K A, Sit a b C K A := by
  obtain ⟨K, A, h1, h2, h3, h4⟩ := hl
  exact ⟨K, A, hC, ha, hb, hT, h1, e1.trans h2, e2.trans h3, h2, h3, e3, h4⟩
/-- a new standing on top of what was noted -/
theorem rel_set {a b a1 b1 a2 b2 : SS} {C : Cd} (hC : WfC C) (ha : RepX a C) (hb : RepM b C) (ht : Txt a b) (hf : gI a 11 = gI b 2) (hi : Img a b C) (p1 : smP a a1) (q1 : smQ b b1) (hh : His a1 b1 C) (p2 : smS a1 a2) (q2 : smT b1 b2) (hT : Tabs a2 C (bt (gI b2 26))) (e1 : gI a2 60 = gI b2 24) (e2 : gI a2 61 = gI b2 25) (e3 : gI a2 62 = gI b2 26) (hl : Lg C (gI b2 24) (gI b2 25) (gI b2 26)) : Rel a2 b2 := by
  obtain ⟨K, A, hs⟩ := sit_new hC (smS_X p2 (smP_X p1 ha)) (smT_M q2 (smQ_M q1 hb)) hT e1 e2 e3 hl
  refine ⟨C, K, A, hs, ?_, ?_, ?_, ?_⟩
  · unfold Txt at *
    rw [p2.1 10 (by decide) (by decide) (by decide), p1.1 10 (by decide), q2.1 1 (by decide) (by decide) (by decide), q1.1 1 (by decide), p2.2, p1.2.1 13 (by decide), q2.2, q1.2 0 (by decide)]
    exact ht
  · rw [p2.1 11 (by decide) (by decide) (by decide), p1.1 11 (by decide), q2.1 2 (by decide) (by decide) (by decide), q1.1 2 (by decide)]; exact hf
  · unfold His at *
    rw [p2.1 70 (by decide) (by decide) (by decide), q2.1 28 (by decide) (by decide) (by decide), p2.2, q2.2]
    exact hh
  · unfold Img at *
    rw [p2.2, q2.2, q2.2, p1.2.1 74 (by decide), q1.2 29 (by decide), q1.2 30 (by decide)]
    exact hi
