/-! which facts matter yet -/
def mt (C : Cd) (K A : Nat) (sk : Nat → Bool) (j q : Nat) : Bool := !K.testBit q && anyB (fun x => can K A x && (inF C x sk j != inF C (x ^^^ 2 ^ q) sk j)) 64
theorem fl_lt : ∀ q, q < 6 → ∀ x, x < 64 → x ^^^ 2 ^ q < 64 := by decide +kernel
theorem fl_add : ∀ q, q < 6 → ∀ x, x < 64 → x.testBit q = false → 2 ^ q + x = x ^^^ 2 ^ q := by decide +kernel
theorem fl_bit : ∀ q, q < 6 → ∀ x, x < 64 → (x ^^^ 2 ^ q).testBit q = !x.testBit q := by decide +kernel
theorem fl_two : ∀ q, q < 6 → ∀ x, x < 64 → (x ^^^ 2 ^ q) ^^^ 2 ^ q = x := by decide +kernel
theorem fl_nI : ∀ q, q < 6 → ∀ x, x < 64 → nI x ^^^ jshl 1 (nI q) = nI (x ^^^ 2 ^ q) := by decide +kernel
theorem fl_one : ∀ q, q < 6 → jshl 1 (nI q) = nI (2 ^ q) := by decide +kernel
theorem fl_sh : ∀ q, q < 6 → 2 ^ q < 64 := by decide
theorem fl_can {K A q x : Nat} (h : K.testBit q = false) : can K A (x ^^^ 2 ^ q) = can K A x := by
  unfold can
  apply beq_of
  have e : ∀ p, (!K.testBit p || ((x ^^^ 2 ^ q).testBit p == A.testBit p)) = (!K.testBit p || (x.testBit p == A.testBit p)) := by
    intro p
    by_cases c : p = q
    · rw [c, h]; rfl
    · rw [Nat.testBit_xor, Nat.testBit_two_pow_of_ne (fun z => c z.symm), Bool.xor_false]
  rw [allB_iff, allB_iff]
  constructor
  · intro z p hp; rw [← e]; exact z p hp
  · intro z p hp; rw [e]; exact z p hp
theorem mt_half {C : Cd} {K A : Nat} {sk : Nat → Bool} {j q : Nat} (hq : q < 6) (h : K.testBit q = false) : anyB (fun x => can K A x && (inF C x sk j != inF C (x ^^^ 2 ^ q) sk j)) 64 = true ↔ ∃ i, i < 64 ∧ i.testBit q = false ∧ can K A i = true ∧ (inF C i sk j != inF C (i ^^^ 2 ^ q) sk j) = true := by
  rw [anyB_iff]
  constructor
  · rintro ⟨x, hx, e⟩
    rw [Bool.and_eq_true] at e
    cases hb : x.testBit q with
    | false => exact ⟨x, hx, hb, e.1, e.2⟩
    | true =>
      refine ⟨x ^^^ 2 ^ q, fl_lt q hq x hx, ?_, ?_, ?_⟩
      · rw [fl_bit q hq x hx, hb]; rfl
      · rw [fl_can h]; exact e.1
      · rw [fl_two q hq x hx]
        have := e.2
        revert this
        cases inF C x sk j <;> cases inF C (x ^^^ 2 ^ q) sk j <;> decide
  · rintro ⟨x, hx, _, h2, h3⟩
    exact ⟨x, hx, by rw [h2, h3]; rfl⟩
theorem x_mattersFor {a : SS} {C : Cd} {sk : Nat → Bool} {K A : Nat} (hC : WfC C) (ha : RepX a C) (hT : Tabs a C sk) (hK : gI a 60 = nI K) (hA : gI a 61 = nI A) {j : Nat} (hj : j < cN C) : ∃ r, FX3_mattersFor a (nI j) = some r ∧ ∀ o, o < 32 → bt r o = (decide (o < 6) && mt C K A sk j o) := by
  obtain ⟨t, e1, e2⟩ := x_possible hK hA
  obtain ⟨r, h1, h2⟩ := lpk (fun n (q : Int32) i => FX3_mattersFor_L21 a (gL a 81 j) t (fun u => some u) n q i) 6 (fun u => some u) (fun i q => ∀ o, o < 32 → bt q o = (decide (o < i) && mt C K A sk j o)) (by
    intro n q _
    show FX3_mattersFor_L21 _ _ _ _ _ _ _ = _
    rw [FX3_mattersFor_L21, if_pos (by decide)]) (by
    intro n i q hi e
    refine ⟨_, bt_put (by omega) e rfl, ?_⟩
    show FX3_mattersFor_L21 _ _ _ _ _ _ _ = FX3_mattersFor_L21 _ _ _ _ _ _ _
    rw [FX3_mattersFor_L21, if_neg (by rw [show (6 : Int32) = nI 6 from rfl]; exact nI_ge hi (by omega)), gd_t (inb_n (by omega) (by omega)), bd_e, hK, x_has a _ (by omega : i < 32), ob_s, b_nI _ (by omega), nI_clamp (by omega), nI_1, fl_one i hi]
    unfold mt
    cases hk : K.testBit i with
    | true => rw [if_neg bI_n, if_neg (show ¬ (!true && anyB (fun x => can K A x && (inF C x sk j != inF C (x ^^^ 2 ^ i) sk j)) 64) = true by simp)]
    | false =>
      rw [if_pos bI_f]
      have key : (((jlushr (gL a 81 j) (nI (2 ^ i))) ^^^ gL a 81 j) &&& (yesT i ^^^ (-1 : Int64))) &&& t = 0 ↔ ¬ anyB (fun x => can K A x && (inF C x sk j != inF C (x ^^^ 2 ^ i) sk j)) 64 = true := by
        rw [mt_half hi hk]
        have bit : ∀ x, x < 64 → (lb ((((jlushr (gL a 81 j) (nI (2 ^ i))) ^^^ gL a 81 j) &&& (yesT i ^^^ (-1 : Int64))) &&& t) x = true ↔ x.testBit i = false ∧ can K A x = true ∧ (inF C x sk j != inF C (x ^^^ 2 ^ i) sk j) = true) := by
          intro x hx
          rw [l_and, l_and, l_xor, l_not _ hx, yes_bit i hi x hx, e2 x hx, l_ushr (fl_sh i hi), (hT x hx).1 j hj]
          cases hb : x.testBit i with
          | true => simp
          | false =>
            rw [fl_add i hi x hx hb, (hT _ (fl_lt i hi x hx)).1 j hj]
            cases inF C x sk j <;> cases inF C (x ^^^ 2 ^ i) sk j <;> cases can K A x <;> simp
        rw [l_zero]
        constructor
        · rintro h ⟨x, hx, h3⟩
          have := (bit x hx).mpr h3
          rw [h x hx] at this; cases this
        · intro h x hx
          cases hb : lb ((((jlushr (gL a 81 j) (nI (2 ^ i))) ^^^ gL a 81 j) &&& (yesT i ^^^ (-1 : Int64))) &&& t) x with
          | false => rfl
          | true => exact absurd ⟨x, hx, (bit x hx).mp hb⟩ h
      cases hm : anyB (fun x => can K A x && (inF C x sk j != inF C (x ^^^ 2 ^ i) sk j)) 64 with
      | false =>
        rw [if_pos (cmp_0.mpr (key.mpr (by rw [hm]; decide)))]; rfl
      | true =>
        rw [if_neg (fun z => key.mp (cmp_0.mp z) hm)]; rfl) (n := 5000) (by omega) (a := 0) (fun o _ => by rw [b_0]; simp)
  refine ⟨r, ?_, h1⟩
  rw [FX3_mattersFor, x_forceOf hC ha hj, ob_s, e1, ob_s]
  exact h2
theorem x_matters {a : SS} {C : Cd} {sk : Nat → Bool} {K A : Nat} (hC : WfC C) (ha : RepX a C) (hT : Tabs a C sk) (hK : gI a 60 = nI K) (hA : gI a 61 = nI A) : ∃ r, FX3_matters a = some r ∧ ∀ o, o < 32 → bt r o = (decide (o < 6) && anyB (fun j => mt C K A sk j o) (cN C)) := by
  have w1 := hC.1
  obtain ⟨r, h1, h2⟩ := lpk (fun n (q : Int32) i => FX3_matters_L4 a (fun u => some u) n q i) (cN C) (fun u => some u) (fun i q => ∀ o, o < 32 → bt q o = (decide (o < 6) && anyB (fun j => mt C K A sk j o) i)) (by
    intro n q _
    show FX3_matters_L4 _ _ _ _ _ = _
    rw [FX3_matters_L4, ha.1, if_pos (nI_le (Nat.le_refl _) (by omega))]) (by
    intro n i q hi e
    obtain ⟨r, h3, h4⟩ := x_mattersFor hC ha hT hK hA hi
    refine ⟨q ||| r, fun o ho => ?_, ?_⟩
    · rw [b_or, e o ho, h4 o ho, anyB, Bool.and_or_distrib_left]
    · show FX3_matters_L4 _ _ _ _ _ = FX3_matters_L4 _ _ _ _ _
      rw [FX3_matters_L4, ha.1, if_neg (nI_ge hi (by omega)), h3, ob_s, nI_1]) (n := 5000) (by omega) (a := 0) (fun o _ => by rw [b_0]; simp [anyB])
  exact ⟨r, h2, h1⟩
theorem mm_72 (b : SS) (rec : Int32 → Int32 → Option (Int32 × SS)) (v1 v2 v3 v4 : Int32) : FX8_matters_J72 b rec v1 v2 v3 v4 = rec v2 (v4 + 1) := by
  rw [FX8_matters_J72, FX8_matters_J73, if_pos rfl, Int32.or_zero]
theorem mm_73 (b : SS) (rec : Int32 → Int32 → Option (Int32 × SS)) (v1 v2 v3 v4 : Int32) : FX8_matters_J73 b rec v1 v2 v3 v4 1 = rec (v2 ||| jshl 1 v3) (v4 + 1) := by
  rw [FX8_matters_J73, if_neg (by decide)]
theorem m_matters {b : SS} {C : Cd} (hC : WfC C) (hb : RepM b C) {sk : Nat → Bool} (hk : ∀ c, c < cN C → bt (gI b 26) c = sk c) {K A : Nat} (hs : Stn K A) (hK : gI b 24 = nI K) (hA : gI b 25 = nI A) (m : Int32) : ∃ r σ, FX8_matters b m = some (r, σ) ∧ smM b σ ∧ ∀ o, o < 32 → bt r o = (decide (o < 6) && anyB (fun j => bt m j && mt C K A sk j o) (cN C)) := by
  have w1 := hC.1
  obtain ⟨σ, e1, s1, f1⟩ := m_forces hC hb hk
  have cb := m_canBe hs ((s1.1 24 (by decide)).trans hK) ((s1.1 25 (by decide)).trans hA)
  have gk : gI σ 24 = nI K := (s1.1 24 (by decide)).trans hK
  have inner : ∀ (k : Int32 → Option (Int32 × SS)) (q : Nat) (_ : q < 6) (v0 : Int32), ∃ v, FX8_matters_L17 σ m (nI q) k 5000 v0 0 = k v ∧ ∀ o, o < 32 → bt v o = (bt v0 o || (decide (o = q) && (!K.testBit q && anyB (fun x => can K A x && anyB (fun j => bt m j && (inF C x sk j != inF C (x ^^^ 2 ^ q) sk j)) (cN C)) 64))) := by
    intro k q hq v0
    obtain ⟨r, h1, h2⟩ := lpk (fun n (v : Int32) i => FX8_matters_L17 σ m (nI q) k n v i) 64 k (fun i v => ∀ o, o < 32 → bt v o = (bt v0 o || (decide (o = q) && (!K.testBit q && anyB (fun x => can K A x && anyB (fun j => bt m j && (inF C x sk j != inF C (x ^^^ 2 ^ q) sk j)) (cN C)) i)))) (by
      intro n v _
      show FX8_matters_L17 _ _ _ _ _ _ _ = _
      rw [FX8_matters_L17, if_pos (by decide)]) (by
      intro n i v hi e
      have key : ((gA σ 31 i ^^^ gA σ 31 (i ^^^ 2 ^ q)) &&& m) = 0 ↔ anyB (fun j => bt m j && (inF C i sk j != inF C (i ^^^ 2 ^ q) sk j)) (cN C) = false := by
        have bit : ∀ j, j < 32 → bt ((gA σ 31 i ^^^ gA σ 31 (i ^^^ 2 ^ q)) &&& m) j = (bt m j && (inF C i sk j != inF C (i ^^^ 2 ^ q) sk j)) := by
          intro j hj
          rw [b_and, b_xor, f1 i hi j hj, f1 _ (fl_lt q hq i hi) j hj]
          cases inF C i sk j <;> cases inF C (i ^^^ 2 ^ q) sk j <;> cases bt m j <;> rfl
        rw [b_zero, anyB_f]
        constructor
        · intro h j hj; rw [← bit j (by omega)]; exact h j (by omega)
        · intro h j hj
          rw [bit j hj]
          by_cases c : j < cN C
          · exact h j c
          · rw [show inF C i sk j = false from rds_ge (by omega), show inF C (i ^^^ 2 ^ q) sk j = false from rds_ge (by omega)]; simp
      have go : ∀ (z : Bool), (!K.testBit q && (can K A i && anyB (fun j => bt m j && (inF C i sk j != inF C (i ^^^ 2 ^ q) sk j)) (cN C))) = z → FX8_matters_L17 σ m (nI q) k (n + 1) v (nI i) = FX8_matters_L17 σ m (nI q) k n (if z then v ||| jshl 1 (nI q) else v) (nI (i + 1)) := by
        intro z hz
        rw [FX8_matters_L17, if_neg (l64 hi), gk, m_has σ _ (by omega : q < 32), ob_s, b_nI _ (by omega), cb, mm_72, mm_73, nI_1, fl_nI q hq i hi, nI_clamp (show i < 2 ^ 31 by omega), nI_clamp (show i ^^^ 2 ^ q < 2 ^ 31 by have := fl_lt q hq i hi; omega)]
        rw [← hz]
        cases K.testBit q with
        | true => rw [if_neg bI_n]; rfl
        | false =>
          rw [if_pos bI_f, ob_s]
          cases can K A i with
          | false => rw [if_pos bI_f]; rfl
          | true =>
            rw [if_neg bI_n, gd_t (inb_n (by omega) (by omega)), gd_t (inb_n (fl_lt q hq i hi) (by omega))]
            cases hm : anyB (fun j => bt m j && (inF C i sk j != inF C (i ^^^ 2 ^ q) sk j)) (cN C) with
            | false => rw [if_pos (key.mpr hm)]; rfl
            | true => rw [if_neg (fun y => by rw [key.mp y] at hm; cases hm)]; rfl
      refine ⟨_, fun o ho => ?_, go _ rfl⟩
      rw [anyB, Bool.and_or_distrib_left]
      cases hz : (!K.testBit q && (can K A i && anyB (fun j => bt m j && (inF C i sk j != inF C (i ^^^ 2 ^ q) sk j)) (cN C))) with
      | false => rw [if_neg (by decide), e o ho, Bool.or_false]
      | true =>
        rw [if_pos rfl, b_or, b_one (by omega) ho, e o ho]
        by_cases c : o = q
        · simp [c]
        · simp [c]) (n := 5000) (by omega) (a := v0) (fun o _ => by simp [anyB])
    exact ⟨r, h2, h1⟩
  have same : ∀ o, (!K.testBit o && anyB (fun x => can K A x && anyB (fun j => bt m j && (inF C x sk j != inF C (x ^^^ 2 ^ o) sk j)) (cN C)) 64) = anyB (fun j => bt m j && mt C K A sk j o) (cN C) := by
    intro o
    apply beq_of
    rw [Bool.and_eq_true, anyB_iff, anyB_iff]
    constructor
    · rintro ⟨h0, x, hx, h1⟩
      rw [Bool.and_eq_true, anyB_iff] at h1
      obtain ⟨h1, j, hj, h2⟩ := h1
      rw [Bool.and_eq_true] at h2
      refine ⟨j, hj, ?_⟩
      unfold mt
      rw [Bool.and_eq_true, Bool.and_eq_true, anyB_iff]
      exact ⟨h2.1, h0, x, hx, by rw [h1, h2.2]; rfl⟩
    · rintro ⟨j, hj, h1⟩
      unfold mt at h1
      rw [Bool.and_eq_true, Bool.and_eq_true, anyB_iff] at h1
      obtain ⟨h1, h0, x, hx, h2⟩ := h1
      rw [Bool.and_eq_true] at h2
      refine ⟨h0, x, hx, ?_⟩
      rw [Bool.and_eq_true, anyB_iff]
      exact ⟨h2.1, j, hj, by rw [h1, h2.2]; rfl⟩
  obtain ⟨r, h1, h2⟩ := lpk (fun n (v : Int32) i => FX8_matters_L8 σ m (fun u26 => some (u26, σ)) n v i) 6 (fun u26 => some (u26, σ)) (fun i v => ∀ o, o < 32 → bt v o = (decide (o < i) && anyB (fun j => bt m j && mt C K A sk j o) (cN C))) (by
    intro n v _
    show FX8_matters_L8 _ _ _ _ _ _ = _
    rw [FX8_matters_L8, if_pos (by decide)]) (by
    intro n i v hi e
    obtain ⟨r, h3, h4⟩ := inner (fun u25 => FX8_matters_L8 σ m (fun u26 => some (u26, σ)) n u25 (nI i + 1)) i hi v
    refine ⟨r, fun o ho => ?_, ?_⟩
    · rw [h4 o ho, e o ho]
      by_cases c : o = i
      · subst c; rw [same]; simp
      · by_cases d : o < i
        · simp [c, d, show o < i + 1 by omega]
        · simp [c, d, show ¬ o < i + 1 by omega]
    · show FX8_matters_L8 _ _ _ _ _ _ = FX8_matters_L8 _ _ _ _ _ _
      rw [FX8_matters_L8, if_neg (by rw [show (6 : Int32) = nI 6 from rfl]; exact nI_ge hi (by omega)), h3, nI_1]) (n := 5000) (by omega) (a := 0) (fun o _ => by rw [b_0]; simp)
  refine ⟨r, σ, ?_, s1, h1⟩
  rw [FX8_matters, e1, ob_s]
  exact h2
