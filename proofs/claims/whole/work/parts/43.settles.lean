/-! how few answers could settle a clause -/
theorem can_and {K A : Nat} (hs : Stn K A) (x : Nat) : (nI x &&& nI K) = nI A ↔ can K A x = true := by
  obtain ⟨h1, h2, h3⟩ := hs
  unfold can
  rw [allB_iff]
  constructor
  · intro h q hq
    have h4 := congrArg (fun z => bt z q) h
    simp only [b_and, b_nI _ (show q < 32 by omega)] at h4
    cases hk : K.testBit q with
    | false => rfl
    | true => rw [hk, Bool.and_true] at h4; simp [h4]
  · intro h
    apply b_ext
    intro q hq
    rw [b_and, b_nI _ hq, b_nI _ hq, b_nI _ hq]
    by_cases q6 : q < 6
    · have := h q q6
      cases hk : K.testBit q with
      | false =>
        cases ha : A.testBit q with
        | false => simp
        | true => rw [h3 q ha] at hk; cases hk
      | true => rw [hk] at this; simp at this; rw [this]; simp
    · rw [b_lt (m := 6) h1 (by omega), b_lt (m := 6) h2 (by omega)]; simp
def pc (m : Nat) : Nat := fb_ct m.testBit 6
theorem pc_32 : ∀ m, m < 64 → fb_ct (bt (nI m)) 32 = pc m ∧ fb_ct (bt (nI m)) 16 = pc m := by decide +kernel
theorem pc_6 (m : Nat) : pc m ≤ 6 := fb_ct_le _ _
def dis (K m : Nat) : Bool := allB (fun q => !(m.testBit q && K.testBit q)) 6
def sbs (h m : Nat) : Bool := allB (fun q => !h.testBit q || m.testBit q) 6
theorem dis_iff {K m : Nat} (hm : m < 64) : (nI m &&& nI K) = 0 ↔ dis K m = true := by
  unfold dis
  rw [b_zero, allB_iff]
  constructor
  · intro h q hq; have := h q (by omega); rw [b_and, b_nI _ (by omega), b_nI _ (by omega)] at this; rw [this]; rfl
  · intro h q hq
    rw [b_and, b_nI _ hq, b_nI _ hq]
    by_cases q6 : q < 6
    · have := h q q6; revert this; cases m.testBit q <;> cases K.testBit q <;> decide
    · rw [b_lt (m := 6) hm (by omega)]; rfl
theorem six_sub : ∀ n, n < 7 → (6 : Int32) - nI n = nI (6 - n) := by decide
theorem sbs_iff {h m : Nat} (hh : h < 64) : (nI h &&& (nI m ^^^ -1)) = 0 ↔ sbs h m = true := by
  unfold sbs
  rw [b_zero, allB_iff]
  constructor
  · intro z q hq; have := z q (by omega); rw [b_and, b_not _ (by omega), b_nI _ (by omega), b_nI _ (by omega)] at this; revert this; cases h.testBit q <;> cases m.testBit q <;> decide
  · intro z q hq
    rw [b_and, b_not _ hq, b_nI _ hq, b_nI _ hq]
    by_cases q6 : q < 6
    · have := z q q6; revert this; cases h.testBit q <;> cases m.testBit q <;> decide
    · rw [b_lt (m := 6) hh (by omega)]; rfl
theorem sbs_Stn {h m : Nat} (hh : h < 64) (hm : m < 64) (z : sbs h m = true) : Stn m h := by
  refine ⟨hm, hh, fun q hq => ?_⟩
  by_cases q6 : q < 6
  · have := allB_iff.mp z q q6; rw [hq] at this; simpa using this
  · rw [b_lt (m := 6) hh (by omega)] at hq; cases hq
/-- the ways left once the facts m are answered h -/
def aft (K A m h x : Nat) : Bool := can K A x && can m h x
def dcd (C : Cd) (sk : Nat → Bool) (K A j m h : Nat) : Bool := sbs h m && (sty C sk (aft K A m h) j != 1)
def stl (C : Cd) (sk : Nat → Bool) (K A j m : Nat) : Bool := anyB (dcd C sk K A j m) 64
theorem x_could {a : SS} {C : Cd} {sk : Nat → Bool} {K A : Nat} (hC : WfC C) (ha : RepX a C) (hT : Tabs a C sk) (hs : Stn K A) (hK : gI a 60 = nI K) (hA : gI a 61 = nI A) {j : Nat} (hj : j < cN C) {m : Nat} (hm : m < 64) (hd : dis K m = true) : FX3_couldSettle a (nI j) (nI m) = some (bI (stl C sk K A j m)) := by
  have h := lp (fun n (_ : Unit) i => FX3_couldSettle_L2 a (nI j) (nI m) (some 0) n i) 64 (fun i _ => ∀ h, h < i → dcd C sk K A j m h = false) (fun r => r = some (bI (stl C sk K A j m))) (by
    intro n _ h
    show FX3_couldSettle_L2 _ _ _ _ _ _ = _
    rw [FX3_couldSettle_L2, if_pos (by decide)]
    unfold stl
    rw [anyB_f.mpr h]; rfl) (by
    intro n i _ hi h
    by_cases z : sbs i m = true
    · obtain ⟨t, e1, e2⟩ := x_agreeing a (nI K ||| nI m) (nI A ||| nI i)
      have e3 : ∀ x, x < 64 → lb t x = aft K A m i x := by
        intro x hx
        rw [e2 x hx]
        unfold aft can
        apply beq_of
        rw [Bool.and_eq_true, allB_iff, allB_iff, allB_iff, ← forall_and]
        have q1 : ∀ q, q < 6 → ((!bt (nI K ||| nI m) q || (x.testBit q == bt (nI A ||| nI i) q)) = true ↔ (!K.testBit q || (x.testBit q == A.testBit q)) = true ∧ (!m.testBit q || (x.testBit q == i.testBit q)) = true) := by
          intro q hq
          rw [b_or, b_or, b_nI _ (by omega), b_nI _ (by omega), b_nI _ (by omega), b_nI _ (by omega)]
          have c1 := allB_iff.mp hd q hq
          have c2 := allB_iff.mp z q hq
          have c3 := hs.2.2 q
          revert c1 c2 c3
          cases K.testBit q <;> cases m.testBit q <;> cases A.testBit q <;> cases i.testBit q <;> cases x.testBit q <;> decide
        constructor
        · intro w q; exact ⟨fun hq => ((q1 q hq).mp (w q hq)).1, fun hq => ((q1 q hq).mp (w q hq)).2⟩
        · intro w q hq; exact (q1 q hq).mpr ⟨(w q).1 hq, (w q).2 hq⟩
      have st : FX3_couldSettle_L2 a (nI j) (nI m) (some 0) (n + 1) (nI i) = if nI (sty C sk (aft K A m i) j) = 1 then FX3_couldSettle_L2 a (nI j) (nI m) (some 0) n (nI (i + 1)) else some 1 := by
        rw [FX3_couldSettle_L2, if_neg (l64 hi), if_pos ((sbs_iff hi).mpr z), hK, hA, e1, ob_s, x_among hC ha hT hj e3, ob_s, nI_1]
      have s3 := sty_3 C sk (aft K A m i) j
      by_cases y : sty C sk (aft K A m i) j = 1
      · refine Or.inr ⟨(), fun h2 hh => ?_, st.trans (if_pos (by rw [y]; rfl))⟩
        rcases Nat.lt_or_ge h2 i with c | c
        · exact h h2 c
        · have e : h2 = i := by omega
          subst e; unfold dcd; rw [y]; simp
      · refine Or.inl ((st.trans (if_neg (nI_ne (b := 1) (by omega) (by omega) y))).trans ?_)
        have : stl C sk K A j m = true := anyB_iff.mpr ⟨i, hi, by unfold dcd; rw [z]; simp [y]⟩
        rw [this]; rfl
    · refine Or.inr ⟨(), fun h2 hh => ?_, ?_⟩
      · rcases Nat.lt_or_ge h2 i with c | c
        · exact h h2 c
        · have e : h2 = i := by omega
          subst e; unfold dcd; simp [z]
      · show FX3_couldSettle_L2 _ _ _ _ _ _ = FX3_couldSettle_L2 _ _ _ _ _ _
        rw [FX3_couldSettle_L2, if_neg (l64 hi), if_neg (fun y => z ((sbs_iff hi).mp y)), nI_1]) 64 5000 0 () (by omega) (by omega) (fun h hh => absurd hh (Nat.not_lt_zero h))
  rw [FX3_couldSettle]
  exact h
/-- the fewest so far, from s on -/
def bst (C : Cd) (sk : Nat → Bool) (K A j s : Nat) : Nat → Nat
  | 0 => s
  | i + 1 => if (dis K i && decide (pc i < bst C sk K A j s i) && stl C sk K A j i) = true then pc i else bst C sk K A j s i
theorem bst_le {C : Cd} {sk : Nat → Bool} {K A j s : Nat} : ∀ n, bst C sk K A j s n ≤ s ∧ (∀ i, i < n → dis K i = true → stl C sk K A j i = true → bst C sk K A j s n ≤ pc i) ∧ (bst C sk K A j s n = s ∨ ∃ i, i < n ∧ dis K i = true ∧ stl C sk K A j i = true ∧ bst C sk K A j s n = pc i)
  | 0 => ⟨Nat.le_refl _, fun i hi => absurd hi (Nat.not_lt_zero i), Or.inl rfl⟩
  | n + 1 => by
    obtain ⟨h1, h2, h3⟩ := bst_le (C := C) (sk := sk) (K := K) (A := A) (j := j) (s := s) n
    rw [bst]
    by_cases c : (dis K n && decide (pc n < bst C sk K A j s n) && stl C sk K A j n) = true
    · rw [if_pos c]
      rw [Bool.and_eq_true, Bool.and_eq_true, decide_eq_true_eq] at c
      obtain ⟨⟨c1, c2⟩, c3⟩ := c
      refine ⟨by omega, fun i hi d1 d2 => ?_, Or.inr ⟨n, by omega, c1, c3, rfl⟩⟩
      rcases Nat.lt_or_ge i n with g | g
      · have := h2 i g d1 d2; omega
      · have e : i = n := by omega
        rw [e]; omega
    · rw [if_neg c]
      refine ⟨h1, fun i hi d1 d2 => ?_, ?_⟩
      · rcases Nat.lt_or_ge i n with g | g
        · exact h2 i g d1 d2
        · have e : i = n := by omega
          subst e
          rw [d1, d2] at c
          simp at c
          omega
      · rcases h3 with h3 | ⟨i, hi, h3⟩
        · exact Or.inl h3
        · exact Or.inr ⟨i, by omega, h3⟩
theorem rest_K : ∀ K, K < 64 → (63 - K < 64 ∧ dis K (63 - K) = true ∧ pc (63 - K) = 6 - pc K ∧ ∀ q, q < 6 → (63 - K).testBit q = !K.testBit q) := by decide +kernel
theorem rest_stl {C : Cd} {sk : Nat → Bool} {K A : Nat} (hs : Stn K A) (j : Nat) : stl C sk K A j (63 - K) = true := by
  obtain ⟨r1, r2, r3, r4⟩ := rest_K K hs.1
  refine anyB_iff.mpr ⟨0, by omega, ?_⟩
  unfold dcd
  have o : ∀ x, x < 64 → aft K A (63 - K) 0 x = true → x = A := by
    intro x hx h
    unfold aft can at h
    rw [Bool.and_eq_true, allB_iff, allB_iff] at h
    apply Nat.eq_of_testBit_eq
    intro q
    by_cases q6 : q < 6
    · have h1 := h.1 q q6
      have h2 := h.2 q q6
      rw [r4 q q6, Nat.zero_testBit] at h2
      have c3 := hs.2.2 q
      revert h1 h2 c3
      cases K.testBit q <;> cases A.testBit q <;> cases x.testBit q <;> decide
    · rw [b_lt (m := 6) hx (by omega), b_lt (m := 6) hs.2.1 (by omega)]
  have e : sbs 0 (63 - K) = true := allB_iff.mpr fun q _ => by rw [Nat.zero_testBit]; rfl
  rw [e, Bool.true_and]
  unfold sty
  cases hi : inF C A sk j with
  | false =>
    rw [if_pos (anyB_f.mpr fun x hx => ?_)]
    · rfl
    · cases ht : aft K A (63 - K) 0 x with
      | false => simp
      | true => rw [o x hx ht, hi]; rfl
  | true =>
    split
    · rfl
    · rw [if_pos (allB_iff.mpr fun x hx => ?_)]
      · rfl
      · cases ht : aft K A (63 - K) 0 x with
        | false => rfl
        | true => rw [o x hx ht, hi]; rfl
theorem bst_same {C : Cd} {sk : Nat → Bool} {K A : Nat} (hs : Stn K A) (j : Nat) : bst C sk K A j (6 - pc K) 64 = bst C sk K A j 6 64 := by
  obtain ⟨r1, r2, r3, r4⟩ := rest_K K hs.1
  have g := rest_stl (C := C) (sk := sk) hs j
  obtain ⟨a1, a2, a3⟩ := bst_le (C := C) (sk := sk) (K := K) (A := A) (j := j) (s := 6 - pc K) 64
  obtain ⟨b1, b2, b3⟩ := bst_le (C := C) (sk := sk) (K := K) (A := A) (j := j) (s := 6) 64
  have c1 := b2 (63 - K) r1 r2 g
  rw [r3] at c1
  rcases a3 with a3 | ⟨i, i1, i2, i3, i4⟩
  · rcases b3 with b3 | ⟨k, k1, k2, k3, k4⟩
    · have := pc_6 K; omega
    · have := a2 k k1 k2 k3; omega
  · have := b2 i i1 i2 i3
    rcases b3 with b3 | ⟨k, k1, k2, k3, k4⟩
    · omega
    · have := a2 k k1 k2 k3; omega
theorem bst_6 {C : Cd} {sk : Nat → Bool} {K A j s : Nat} (hs : s ≤ 6) (n : Nat) : bst C sk K A j s n ≤ 6 := Nat.le_trans (bst_le n).1 hs
theorem x_settles {a : SS} {C : Cd} {sk : Nat → Bool} {K A : Nat} (hC : WfC C) (ha : RepX a C) (hT : Tabs a C sk) (hs : Stn K A) (hK : gI a 60 = nI K) (hA : gI a 61 = nI A) {j : Nat} (hj : j < cN C) : FX3_settles a (nI j) = some (nI (bst C sk K A j 6 64)) := by
  rw [← bst_same hs]
  have k6 := pc_6 K
  obtain ⟨r, h1, h2⟩ := lpk (fun n (q : Int32) i => FX3_settles_L16 a (nI j) (fun u => some u) n q i) 64 (fun u => some u) (fun i q => q = nI (bst C sk K A j (6 - pc K) i)) (by
    intro n q _
    show FX3_settles_L16 _ _ _ _ _ _ = _
    rw [FX3_settles_L16, if_pos (by decide)]) (by
    intro n i q hi e
    refine ⟨_, rfl, ?_⟩
    show FX3_settles_L16 _ _ _ _ _ _ = FX3_settles_L16 _ _ _ _ _ _
    have b6 := bst_6 (C := C) (sk := sk) (K := K) (A := A) (j := j) (s := 6 - pc K) (by omega) i
    have p6 := pc_6 i
    rw [FX3_settles_L16, if_neg (l64 hi), hK, bst, e]
    cases hd : dis K i with
    | false =>
      rw [if_neg (fun z => by rw [(dis_iff hi).mp z] at hd; cases hd), FX3_settles_J39, if_pos rfl, nI_1]
      rfl
    | true =>
      rw [if_pos ((dis_iff hi).mpr hd), FX3_settles_J39, if_neg (by decide), x_ones, ob_s, (pc_32 i hi).1, nI_1]
      by_cases c : pc i < bst C sk K A j (6 - pc K) i
      · rw [if_neg (nI_ge c (by omega)), x_could hC ha hT hs hK hA hj hi hd, ob_s, ob_s, decide_eq_true c]
        cases stl C sk K A j i with
        | false => rw [if_pos bI_f]; rfl
        | true => rw [if_neg bI_n]; rfl
      · rw [if_pos (nI_le (by omega) (by omega)), decide_eq_false c]; rfl) (n := 5000) (by omega) (a := nI (6 - pc K)) rfl
  rw [FX3_settles, hK, x_ones, ob_s, (pc_32 K hs.1).1, ← h1]
  rw [show (6 : Int32) - nI (pc K) = nI (6 - pc K) from six_sub _ (by omega)]
  exact h2
theorem s90 {σ : SS} {rec : Int32 → Int32 → Int32 → Option (Int32 × SS)} {v1 v2 v3 v4 v7 : Int32} {f5 f6 t w : Bool} (hi : inb v7 64 = true) (hw : FX8_has σ (gA σ 31 (Int32.toNatClampNeg v7)) v1 = some (bI w)) : FX8_settles_J90 σ rec v1 v2 v3 v4 (bI f5) (bI f6) v7 (bI t) = rec (bI (f5 && (!t || w))) (bI (f6 && !(w && t))) (v7 + 1) := by
  simp only [FX8_settles_J90, FX8_settles_J120, FX8_settles_J116, FX8_settles_J121, gd_t hi, hw, ob_s]
  cases f5 <;> cases f6 <;> cases t <;> cases w <;> first | rfl | simp [bI]
theorem m_60 {σ : SS} {C : Cd} {sk : Nat → Bool} {K A : Nat} (hC : WfC C) (hs : Stn K A) (hK : gI σ 24 = nI K) (hA : gI σ 25 = nI A) (hf : ∀ x, x < 64 → ∀ j, j < 32 → bt (gA σ 31 x) j = inF C x sk j) {j : Nat} (hj : j < cN C) (v2 : Int32) {m h : Nat} (hm : m < 64) (hh : h < 64) (hb : sbs h m = true) (k : Int32 → Int32 → Option (Int32 × SS)) : FX8_settles_L60 σ (nI j) v2 (nI m) (nI h) k 5000 1 1 0 = k (bI (allB (fun x => !aft K A m h x || inF C x sk j) 64)) (bI (!anyB (fun x => inF C x sk j && aft K A m h x) 64)) := by
  have w1 := hC.1
  obtain ⟨⟨r, s⟩, ⟨h1, h3⟩, h2⟩ := lpk (fun n (q : Int32 × Int32) i => FX8_settles_L60 σ (nI j) v2 (nI m) (nI h) k n q.1 q.2 i) 64 (fun q => k q.1 q.2) (fun i q => q.1 = bI (allB (fun x => !aft K A m h x || inF C x sk j) i) ∧ q.2 = bI (!anyB (fun x => inF C x sk j && aft K A m h x) i)) (by
    rintro n ⟨q1, q2⟩ _
    show FX8_settles_L60 _ _ _ _ _ _ _ _ _ _ = _
    rw [FX8_settles_L60, if_pos (by decide)]) (by
    rintro n i ⟨q1, q2⟩ hi ⟨e1, e2⟩
    simp only at e1 e2
    refine ⟨(_, _), ⟨rfl, rfl⟩, ?_⟩
    show FX8_settles_L60 _ _ _ _ _ _ _ _ _ _ = FX8_settles_L60 _ _ _ _ _ _ _ _ _ _
    have hw : FX8_has σ (gA σ 31 (Int32.toNatClampNeg (nI i))) (nI j) = some (bI (inF C i sk j)) := by
      rw [nI_clamp (by omega), m_has σ _ (by omega : j < 32), hf i hi j (by omega)]
    have ib : inb (nI i) 64 = true := inb_n hi (by omega)
    rw [FX8_settles_L60, if_neg (l64 hi), m_canBe hs hK hA, ob_s, e1, e2, allB_s, anyB, Bool.not_or]
    show (if bI (can K A i) = 0 then FX8_settles_J90 σ _ (nI j) v2 (nI m) (nI h) _ _ (nI i) (bI false) else if (nI i &&& nI m) = nI h then FX8_settles_J90 σ _ (nI j) v2 (nI m) (nI h) _ _ (nI i) (bI true) else FX8_settles_J90 σ _ (nI j) v2 (nI m) (nI h) _ _ (nI i) (bI false)) = _
    rw [s90 ib hw, s90 ib hw, nI_1]
    unfold aft
    cases can K A i with
    | false => rw [if_pos bI_f]; rfl
    | true =>
      rw [if_neg bI_n]
      cases hc : can m h i with
      | false => rw [if_neg (fun z => by rw [(can_and (sbs_Stn hh hm hb) i).mp z] at hc; cases hc)]; rfl
      | true => rw [if_pos ((can_and (sbs_Stn hh hm hb) i).mpr hc)]; rfl) (n := 5000) (by omega) (a := (1, 1)) ⟨rfl, rfl⟩
  simp only at h1 h3
  rw [← h1, ← h3]
  exact h2
theorem sty_n1 {C : Cd} {sk T : Nat → Bool} {j : Nat} : (sty C sk T j != 1) = (allB (fun x => !T x || inF C x sk j) 64 || !anyB (fun x => inF C x sk j && T x) 64) := by
  unfold sty
  cases anyB (fun x => inF C x sk j && T x) 64 <;> cases allB (fun x => !T x || inF C x sk j) 64 <;> decide
theorem m_18 {σ : SS} {C : Cd} {sk : Nat → Bool} {K A : Nat} (hC : WfC C) (hs : Stn K A) (hK : gI σ 24 = nI K) (hA : gI σ 25 = nI A) (hf : ∀ x, x < 64 → ∀ j, j < 32 → bt (gA σ 31 x) j = inF C x sk j) {j : Nat} (hj : j < cN C) {v : Nat} (hv : v ≤ 6) {m : Nat} (hm : m < 64) (k : Int32 → Option (Int32 × SS)) : FX8_settles_L18 σ (nI j) (nI m) k 5000 (nI v) 0 = k (nI (if (dis K m && decide (pc m < v) && stl C sk K A j m) = true then pc m else v)) := by
  have p6 := pc_6 m
  obtain ⟨r, h1, h2⟩ := lpk (fun n (q : Int32) i => FX8_settles_L18 σ (nI j) (nI m) k n q i) 64 k (fun i q => q = nI (if (dis K m && decide (pc m < v) && anyB (dcd C sk K A j m) i) = true then pc m else v)) (by
    rintro n q _
    show FX8_settles_L18 _ _ _ _ _ _ _ = _
    rw [FX8_settles_L18, if_pos (by decide)]) (by
    intro n i q hi e
    refine ⟨_, rfl, ?_⟩
    show FX8_settles_L18 _ _ _ _ _ _ _ = FX8_settles_L18 _ _ _ _ _ _ _
    rw [FX8_settles_L18, if_neg (l64 hi), hK, nI_1, e, anyB]
    cases hd : dis K m with
    | false => rw [if_neg (fun z => by rw [(dis_iff hm).mp z] at hd; cases hd)]; rfl
    | true =>
      rw [if_pos ((dis_iff hm).mpr hd)]
      cases hb : sbs i m with
      | false =>
        rw [if_neg (fun z => by rw [(sbs_iff hi).mp z] at hb; cases hb), show dcd C sk K A j m i = false by unfold dcd; rw [hb]; rfl, Bool.or_false]
      | true =>
        rw [if_pos ((sbs_iff hi).mpr hb), m_ones, ob_s, (pc_32 m hm).2]
        by_cases c : pc m < v
        · rw [decide_eq_true c]
          cases ha : anyB (dcd C sk K A j m) i with
          | true =>
            rw [if_pos (show (true && true && true) = true from rfl), if_pos (nI_le (Nat.le_refl _) (by omega))]; rfl
          | false =>
            rw [if_neg (show ¬ (true && true && false) = true by decide), if_neg (nI_ge c (by omega)), m_60 hC hs hK hA hf hj _ hm hi hb]
            have dd : dcd C sk K A j m i = (allB (fun x => !aft K A m i x || inF C x sk j) 64 || !anyB (fun x => inF C x sk j && aft K A m i x) 64) := by
              unfold dcd; rw [hb, Bool.true_and, sty_n1]
            rw [dd]
            simp only [FX8_settles_J170, m_ones, ob_s, (pc_32 m hm).2, nI_1]
            cases allB (fun x => !aft K A m i x || inF C x sk j) 64 <;> cases anyB (fun x => inF C x sk j && aft K A m i x) 64 <;> rfl
        · rw [decide_eq_false c]
          rw [if_neg (show ¬ (true && false && anyB (dcd C sk K A j m) i) = true by simp), if_neg (show ¬ (true && false && (anyB (dcd C sk K A j m) i || dcd C sk K A j m i)) = true by simp), if_pos (nI_le (by omega) (by omega))]) (n := 5000) (by omega) (a := nI v) (by
      show nI v = _
      rw [if_neg (by simp [anyB])])
  have h1 : r = nI (if (dis K m && decide (pc m < v) && stl C sk K A j m) = true then pc m else v) := h1
  rw [← h1]
  exact h2
theorem m_settles {b : SS} {C : Cd} (hC : WfC C) (hb : RepM b C) {sk : Nat → Bool} (hk : ∀ c, c < cN C → bt (gI b 26) c = sk c) {K A : Nat} (hs : Stn K A) (hK : gI b 24 = nI K) (hA : gI b 25 = nI A) {j : Nat} (hj : j < cN C) : ∃ σ, FX8_settles b (nI j) = some (nI (bst C sk K A j 6 64), σ) ∧ smM b σ := by
  obtain ⟨σ, e1, s1, f1⟩ := m_forces hC hb hk
  have gk : gI σ 24 = nI K := (s1.1 24 (by decide)).trans hK
  have ga : gI σ 25 = nI A := (s1.1 25 (by decide)).trans hA
  obtain ⟨r, h1, h2⟩ := lpk (fun n (q : Int32) i => FX8_settles_L9 σ (nI j) (fun u68 => some (u68, σ)) n q i) 64 (fun u68 => some (u68, σ)) (fun i q => q = nI (bst C sk K A j 6 i)) (by
    rintro n q _
    show FX8_settles_L9 _ _ _ _ _ _ = _
    rw [FX8_settles_L9, if_pos (by decide)]) (by
    intro n i q hi e
    refine ⟨_, rfl, ?_⟩
    show FX8_settles_L9 _ _ _ _ _ _ = FX8_settles_L9 _ _ _ _ _ _
    rw [FX8_settles_L9, if_neg (l64 hi), e, m_18 hC hs gk ga f1 hj (bst_6 (by omega) i) hi, nI_1, bst]) (n := 5000) (by omega) (a := 6) rfl
  refine ⟨σ, ?_, s1⟩
  rw [FX8_settles, e1, ob_s, ← h1]
  exact h2
