/-! sweeps come to rest; the desk's tables of what is in force -/
section Sweep
variable {f : (Nat → Bool) → Nat → Bool} {n : Nat}
theorem swp_inc {S : Nat → Bool} : ∀ {i j : Nat}, S j = true → swp f i S j = true
  | 0, _, h => h
  | i + 1, j, h => by
    rw [swp_s]
    by_cases e : j = i
    · subst e; rw [if_pos rfl, swp_inc h]; rfl
    · rw [if_neg e]; exact swp_inc h
theorem swp_pf (hm : ∀ (S T : Nat → Bool) (c : Nat), c < n → (∀ j, j < n → S j = true → T j = true) → f S c = true → f T c = true) {S : Nat → Bool} (h : ∀ c, c < n → S c = true → f S c = true) : ∀ {i : Nat}, i ≤ n → ∀ c, c < n → swp f i S c = true → f (swp f i S) c = true
  | 0, _ => h
  | i + 1, hi => by
    have ih := swp_pf hm h (i := i) (by omega)
    have sub : ∀ j, j < n → swp f i S j = true → swp f (i + 1) S j = true := by
      intro j _ hj
      rw [swp_s]
      by_cases e : j = i
      · subst e; rw [if_pos rfl, hj]; rfl
      · rw [if_neg e]; exact hj
    intro c hc hs
    rw [swp_s] at hs
    refine hm _ _ c hc sub ?_
    by_cases e : c = i
    · subst e
      rw [if_pos rfl] at hs
      rcases Bool.or_eq_true _ _ ▸ hs with h1 | h1
      · exact ih c hc h1
      · exact h1
    · rw [if_neg e] at hs
      exact ih c hc hs
theorem swp_cong (hg : ∀ (S T : Nat → Bool) (c : Nat), c < n → (∀ j, j < n → S j = T j) → f S c = f T c) {S T : Nat → Bool} (h : ∀ j, j < n → S j = T j) : ∀ {i : Nat}, i ≤ n → ∀ j, j < n → swp f i S j = swp f i T j
  | 0, _ => h
  | i + 1, hi => by
    have ih := swp_cong hg h (i := i) (by omega)
    intro j hj
    rw [swp_s, swp_s]
    by_cases e : j = i
    · rw [if_pos e, if_pos e, ih i (by omega), hg _ _ i (by omega) ih]
    · rw [if_neg e, if_neg e, ih j hj]
theorem rds_mono {k j : Nat} (h : rds f n k j = true) : rds f n (k + 1) j = true := by rw [rds]; exact swp_inc h
theorem rds_rest (hg : ∀ (S T : Nat → Bool) (c : Nat), c < n → (∀ j, j < n → S j = T j) → f S c = f T c) : ∀ m, n ≤ m → ∀ j, j < n → rds f n m j = rds f n n j := by
  have grow : ∀ k, (∀ j, j < n → rds f n (k + 1) j = rds f n k j) ∨ fb_ct (rds f n k) n + 1 ≤ fb_ct (rds f n (k + 1)) n := by
    intro k
    by_cases h : ∀ j, j < n → rds f n (k + 1) j = rds f n k j
    · exact Or.inl h
    · right
      obtain ⟨i, hi⟩ := Classical.not_forall.mp h
      obtain ⟨hi, hne⟩ := Classical.not_imp.mp hi
      have h0 : rds f n k i = false := by
        cases hk : rds f n k i with
        | false => rfl
        | true => exact absurd ((rds_mono hk).trans hk.symm) hne
      have h1 : rds f n (k + 1) i = true := by
        cases hk : rds f n (k + 1) i with
        | true => rfl
        | false => exact absurd (hk.trans h0.symm) hne
      have e := fb_ct_upd (rds f n k) true hi
      rw [h0] at e
      have l := fb_ct_sub (p := fun j => if j = i then true else rds f n k j) (q := rds f n (k + 1)) (n := n) (fun j _ hj => by
        by_cases e : j = i
        · rw [e]; exact h1
        · rw [if_neg e] at hj; exact rds_mono hj)
      replace e : fb_ct (fun j => if j = i then true else rds f n k j) n + 0 = fb_ct (rds f n k) n + 1 := e
      omega
  have stay : ∀ k, (∀ j, j < n → rds f n (k + 1) j = rds f n k j) → ∀ m, k ≤ m → ∀ j, j < n → rds f n m j = rds f n k j := by
    intro k hk m hm
    obtain ⟨d, rfl⟩ : ∃ d, m = k + d := ⟨m - k, by omega⟩
    clear hm
    induction d with
    | zero => exact fun _ _ => rfl
    | succ d ih =>
      intro j hj
      rw [show k + (d + 1) = (k + d) + 1 by omega, rds, swp_cong hg ih (Nat.le_refl n) j hj]
      exact hk j hj
  have some : ∃ k, k ≤ n ∧ ∀ j, j < n → rds f n (k + 1) j = rds f n k j := by
    apply Classical.byContradiction
    intro hno
    have all : ∀ k, k ≤ n + 1 → k ≤ fb_ct (rds f n k) n := by
      intro k
      induction k with
      | zero => intro _; omega
      | succ k ih =>
        intro hk
        rcases grow k with h | h
        · exact absurd ⟨k, by omega, h⟩ hno
        · have := ih (by omega); omega
    have h1 := all (n + 1) (Nat.le_refl _)
    have h2 := fb_ct_le (rds f n (n + 1)) n
    omega
  obtain ⟨k, hk, hs⟩ := some
  intro m hm j hj
  rw [stay k hs m (by omega) j hj, stay k hs n hk j hj]
/-- once a round adds nothing, it has come to rest -/
theorem rds_stop (hg : ∀ (S T : Nat → Bool) (c : Nat), c < n → (∀ j, j < n → S j = T j) → f S c = f T c) {k : Nat} (hk : ∀ j, j < n → rds f n (k + 1) j = rds f n k j) : ∀ j, j < n → rds f n k j = rds f n n j := by
  have stay : ∀ m, k ≤ m → ∀ j, j < n → rds f n m j = rds f n k j := by
    intro m hm
    obtain ⟨d, rfl⟩ : ∃ d, m = k + d := ⟨m - k, by omega⟩
    clear hm
    induction d with
    | zero => exact fun _ _ => rfl
    | succ d ih =>
      intro j hj
      rw [show k + (d + 1) = (k + d) + 1 by omega, rds, swp_cong hg ih (Nat.le_refl n) j hj]
      exact hk j hj
  intro j hj
  rcases Nat.le_total k n with h | h
  · exact (stay n h j hj).symm
  · exact rds_rest hg k h j hj
end Sweep
theorem one_mono {C : Cd} (hC : WfC C) {x : Nat} {sk : Nat → Bool} : ∀ (S T : Nat → Bool) (c : Nat), c < cN C → (∀ j, j < cN C → S j = true → T j = true) → one C x sk S c = true → one C x sk T c = true := by
  intro S T c hc h ho
  unfold one at ho ⊢
  simp only [Bool.and_eq_true, Bool.or_eq_true] at ho ⊢
  obtain ⟨h1, h2, h3, h4⟩ := ho
  refine ⟨h1, h2, ?_, ?_⟩
  · cases ha : cA C c with
    | none => rfl
    | some d => rw [ha] at h3; exact h d (Nat.lt_trans (hC.2.2.1 c hc d ha) hc) h3
  · rcases h4 with h4 | h4
    · exact Or.inl h4
    · refine Or.inr (anyB_mono (fun p hp => ?_) h4)
      unfold callB
      simp only [Bool.and_eq_true]
      rintro ⟨a, b, c', d⟩
      exact ⟨a, b, c', h _ (hC.2.2.2.2 p hp).2.1 d⟩
theorem one_g {C : Cd} (hC : WfC C) {x : Nat} {sk : Nat → Bool} : ∀ (S T : Nat → Bool) (c : Nat), c < cN C → (∀ j, j < cN C → S j = T j) → one C x sk S c = one C x sk T c := fun _ _ _ hc h => one_cong hC hc h
/-- what is in force, after any number of rounds that is enough -/
theorem inF_rds {C : Cd} (hC : WfC C) (x : Nat) (sk : Nat → Bool) {m : Nat} (hm : cN C ≤ m) {j : Nat} (hj : j < cN C) : rds (one C x sk) (cN C) m j = inF C x sk j := by
  unfold inF
  rw [rds_rest (one_g hC) m hm j hj, rds_rest (one_g hC) (cN C + 1) (by omega) j hj]
/-! the desk's contract -/
def refd (C : Cd) (c j : Nat) : Bool := anyB (fun p => cK C p == 2 && (cV C p == c && cO C p == j)) (cP C)
def usd (C : Cd) (c t : Nat) : Bool := anyB (fun p => cK C p == 1 && (cO C p == c && cV C p == t)) (cP C)
def depF (C : Cd) : Nat → Nat → Nat
  | 0, _ => 0
  | n + 1, c => match cA C c with
    | none => 0
    | some d => depF C n d + 1
def dep (C : Cd) (c : Nat) : Nat := depF C 17 c
def RepX (a : SS) (C : Cd) : Prop := gI a 40 = nI (cN C) ∧ gI a 41 = nI (cP C) ∧ (∀ c, c < cN C → bt (gI a 42) c = cC C c) ∧
  (∀ c, c < cN C → gA a 43 c = oI (cA C c) ∧ gA a 44 c = nI (dep C c) ∧ gA a 45 c = cY C c ∧ gA a 46 c = cW C c ∧ (∀ j, j < 32 → bt (gA a 47 c) j = refd C c j) ∧ ∀ t, t < 32 → bt (gA a 48 c) t = usd C c t) ∧
  ∀ p, p < cP C → gA a 49 p = nI (cK C p) ∧ gA a 50 p = nI (cV C p) ∧ gA a 51 p = nI (cO C p)
theorem x_agreeing (σ : SS) (v0 v1 : Int32) : ∃ t, FX7_agreeing σ v0 v1 = some t ∧ ∀ x, x < 64 → lb t x = allB (fun q => !bt v0 q || (x.testBit q == bt v1 q)) 6 := by
  have bit : ∀ (v : Int32) (i : Nat), i < 6 → ((v &&& jshl 1 (nI i)) = 0 ↔ bt v i = false) := by
    intro v i hi
    rw [b_zero]
    constructor
    · intro h
      have h1 := h i (by omega)
      rw [b_and, b_one (by omega) (by omega)] at h1
      simpa using h1
    · intro h j hj
      rw [b_and, b_one (by omega) hj]
      by_cases e : j = i
      · subst e; simp [h]
      · simp [e]
  obtain ⟨t, h1, h2⟩ := lpk (fun n (a : Int64) i => FX7_agreeing_L7 σ v0 v1 (fun u => some u) n a i) 6 (fun u => some u) (fun i a => ∀ x, x < 64 → lb a x = allB (fun q => !bt v0 q || (x.testBit q == bt v1 q)) i) (by
    intro n a h
    show FX7_agreeing_L7 _ _ _ _ _ _ _ = _
    rw [FX7_agreeing_L7, if_pos (by decide)]) (by
    intro n i a hi h
    have ci : Int32.toNatClampNeg (nI i) = i := nI_clamp (by omega)
    have g : inb (nI i) 6 = true := inb_n (by omega) (by omega)
    have st : ∀ x : Nat, allB (fun q => !bt v0 q || (x.testBit q == bt v1 q)) (i + 1) = (allB (fun q => !bt v0 q || (x.testBit q == bt v1 q)) i && (!bt v0 i || (x.testBit i == bt v1 i))) := by
      intro x; unfold allB; rw [anyB, Bool.not_or, Bool.not_not]
    have l6 : ¬ (6 : Int32) ≤ nI i := by rw [show (6 : Int32) = nI 6 from rfl]; exact nI_ge hi (by omega)
    cases e0 : bt v0 i with
    | false =>
      refine ⟨a, fun x hx => ?_, ?_⟩
      · rw [st, e0, h x hx]; simp
      · show FX7_agreeing_L7 _ _ _ _ _ _ _ = FX7_agreeing_L7 _ _ _ _ _ _ _
        rw [FX7_agreeing_L7, if_neg l6, if_pos ((bit v0 i hi).mpr e0), nI_1]
    | true =>
      cases e1 : bt v1 i with
      | false =>
        refine ⟨a &&& (yesT i ^^^ (-1)), fun x hx => ?_, ?_⟩
        · rw [st, e0, e1, l_and, l_not _ hx, yes_bit i hi x hx, h x hx]; simp
        · show FX7_agreeing_L7 _ _ _ _ _ _ _ = FX7_agreeing_L7 _ _ _ _ _ _ _
          rw [FX7_agreeing_L7, if_neg l6, if_neg (fun z => by rw [(bit v0 i hi).mp z] at e0; cases e0), if_pos ((bit v1 i hi).mpr e1), gd_t g, bd_e, ci, nI_1]
      | true =>
        refine ⟨a &&& yesT i, fun x hx => ?_, ?_⟩
        · rw [st, e0, e1, l_and, yes_bit i hi x hx, h x hx]; simp
        · show FX7_agreeing_L7 _ _ _ _ _ _ _ = FX7_agreeing_L7 _ _ _ _ _ _ _
          rw [FX7_agreeing_L7, if_neg l6, if_neg (fun z => by rw [(bit v0 i hi).mp z] at e0; cases e0), if_neg (fun z => by rw [(bit v1 i hi).mp z] at e1; cases e1), gd_t g, ci, nI_1]) (n := 5000) (by omega) (a := -1) (fun x hx => by rw [l_m1 x hx]; rfl)
  exact ⟨t, h2, h1⟩
theorem x_holds {a : SS} {C : Cd} (hC : WfC C) (ha : RepX a C) {c : Nat} (hc : c < cN C) : ∃ t, FX0_holds a (nI c) = some t ∧ ∀ x, x < 64 → lb t x = hold C x c := by
  obtain ⟨-, -, -, r4, -⟩ := ha
  obtain ⟨-, -, y, w, -, -⟩ := r4 c hc
  have w1 := hC.1
  have cl : Int32.toNatClampNeg (nI c) = c := nI_clamp (by omega)
  have g : inb (nI c) 16 = true := inb_n (by omega) (by omega)
  obtain ⟨t, h1, h2⟩ := x_agreeing a (cY C c ||| cW C c) (cY C c)
  refine ⟨t, ?_, fun x hx => ?_⟩
  · unfold FX0_holds
    simp only [gd_t g, cl, y, w, h1, ob_s]
  · rw [h2 x hx]
    unfold hold
    apply beq_of
    rw [allB_iff, allB_iff]
    constructor
    · intro h q hq
      have := h q hq
      rw [b_or] at this
      have d := (hC.2.2.2.1 c hc q (by omega)).2.2
      revert this d
      cases bt (cY C c) q <;> cases bt (cW C c) q <;> cases x.testBit q <;> simp
    · intro h q hq
      have := h q hq
      rw [b_or]
      have d := (hC.2.2.2.1 c hc q (by omega)).2.2
      revert this d
      cases bt (cY C c) q <;> cases bt (cW C c) q <;> cases x.testBit q <;> simp
theorem x_forceOf {a : SS} {C : Cd} (hC : WfC C) (ha : RepX a C) {d : Nat} (hd : d < cN C) : FX2_forceOf a (nI d) = some (gL a 81 d) := by
  have w1 := hC.1
  unfold FX2_forceOf
  rw [if_neg (nI_pos (by omega)), ha.1, if_neg (nI_ge hd (by omega)), gd_t (inb_n (by omega) (by omega)), nI_clamp (by omega)]
theorem x_anyForce {a : SS} {C : Cd} (hC : WfC C) (ha : RepX a C) (s : Int32) : ∃ t, FX2_anyForce a s = some t ∧ ∀ x, x < 64 → lb t x = anyB (fun j => bt s j && lb (gL a 81 j) x) (cN C) := by
  have w1 := hC.1
  obtain ⟨t, h1, h2⟩ := lpk (fun n (v : Int64) i => FX2_anyForce_L5 a s (fun u => some u) n v i) (cN C) (fun u => some u) (fun i v => ∀ x, x < 64 → lb v x = anyB (fun j => bt s j && lb (gL a 81 j) x) i) (by
    intro n v h
    show FX2_anyForce_L5 _ _ _ _ _ _ = _
    rw [FX2_anyForce_L5, ha.1, if_pos (nI_le (Nat.le_refl _) (by omega))]) (by
    intro n i v hi h
    have ci : Int32.toNatClampNeg (nI i) = i := nI_clamp (by omega)
    have g : inb (nI i) 16 = true := inb_n (by omega) (by omega)
    cases e : bt s i with
    | false =>
      refine ⟨v, fun x hx => ?_, ?_⟩
      · rw [anyB, h x hx, e]; simp
      · show FX2_anyForce_L5 _ _ _ _ _ _ = FX2_anyForce_L5 _ _ _ _ _ _
        rw [FX2_anyForce_L5, ha.1, if_neg (nI_ge hi (by omega)), x_has a s (by omega : i < 32), ob_s, e, if_pos bI_f, nI_1]
    | true =>
      refine ⟨v ||| gL a 81 i, fun x hx => ?_, ?_⟩
      · rw [anyB, l_or, h x hx, e]; simp
      · show FX2_anyForce_L5 _ _ _ _ _ _ = FX2_anyForce_L5 _ _ _ _ _ _
        rw [FX2_anyForce_L5, ha.1, if_neg (nI_ge hi (by omega)), x_has a s (by omega : i < 32), ob_s, e, if_neg bI_n, gd_t g, ci, nI_1]) (n := 5000) (by omega) (a := 0) (fun x _ => l_0 x)
  exact ⟨t, h2, h1⟩
/-- of the tables, the truths by the answers x -/
def tS (T : Nat → Int64) (x : Nat) : Nat → Bool := fun j => lb (T j) x
theorem ref_call {C : Cd} (hC : WfC C) (S : Nat → Bool) (c : Nat) : anyB (fun j => (refd C c j && !decide (j = c)) && S j) (cN C) = anyB (callB C S c) (cP C) := by
  apply beq_of
  rw [anyB_iff, anyB_iff]
  constructor
  · rintro ⟨j, hj, h⟩
    simp only [Bool.and_eq_true] at h
    obtain ⟨⟨h1, h2⟩, h3⟩ := h
    unfold refd at h1
    obtain ⟨p, hp, h4⟩ := anyB_iff.mp h1
    simp only [Bool.and_eq_true, beq_iff_eq] at h4
    obtain ⟨k1, k2, k3⟩ := h4
    refine ⟨p, hp, ?_⟩
    unfold callB
    rw [k3]
    simp at h2
    simp [k1, k2, h2, h3]
  · rintro ⟨p, hp, h⟩
    unfold callB at h
    simp only [Bool.and_eq_true, beq_iff_eq] at h
    obtain ⟨k1, k2, k3, k4⟩ := h
    refine ⟨cO C p, (hC.2.2.2.2 p hp).2.1, ?_⟩
    have : refd C c (cO C p) = true := anyB_iff.mpr ⟨p, hp, by simp [k1, k2]⟩
    simp at k3
    simp [this, k3, k4]
theorem x_forceSoFar {a : SS} {C : Cd} (hC : WfC C) (ha : RepX a C) {c : Nat} (hc : c < cN C) : ∃ t, FX2_forceSoFar a (nI c) = some t ∧ ∀ x, x < 64 → lb t x = one C x (fun _ => false) (tS (gL a 81) x) c := by
  have w1 := hC.1
  have ci : Int32.toNatClampNeg (nI c) = c := nI_clamp (by omega)
  have g : inb (nI c) 16 = true := inb_n (by omega) (by omega)
  obtain ⟨th, e1, e2⟩ := x_holds hC ha hc
  obtain ⟨r1, r2, r3, r4, r5⟩ := id ha
  obtain ⟨k1, k2, k3, k4, k5, k6⟩ := r4 c hc
  have j38 : ∀ v : Int64, ∃ t, FX2_forceSoFar_J38 a (nI c) v = some t ∧ ∀ x, x < 64 → lb t x = (lb v x && (!cC C c || anyB (callB C (tS (gL a 81) x) c) (cP C))) := by
    intro v
    rw [FX2_forceSoFar_J38, x_has a _ (by omega : c < 32), ob_s, r3 c hc]
    cases hcc : cC C c with
    | false => rw [if_pos bI_f]; exact ⟨v, rfl, fun x _ => by simp⟩
    | true =>
      rw [if_neg bI_n, gd_t g, ci]
      obtain ⟨t, h1, h2⟩ := x_anyForce hC ha (gA a 47 c &&& (jshl 1 (nI c) ^^^ (-1)))
      rw [h1, ob_s]
      refine ⟨_, rfl, fun x hx => ?_⟩
      rw [l_and, h2 x hx, ← ref_call hC]
      simp only [Bool.not_true, Bool.false_or]
      congr 1
      refine anyB_cong fun j hj => ?_
      rw [b_and, b_not _ (by omega), b_one (by omega) (by omega), k5 j (by omega)]
      rfl
  unfold FX2_forceSoFar
  rw [e1, ob_s, gd_t g, ci, k1]
  cases hA : cA C c with
  | none =>
    rw [if_pos (show oI none = -1 from rfl)]
    obtain ⟨t, h1, h2⟩ := j38 th
    refine ⟨t, h1, fun x hx => ?_⟩
    rw [h2 x hx, e2 x hx]
    unfold one
    rw [hA]; simp
  | some d =>
    have hd := hC.2.2.1 c hc d hA
    rw [if_neg (by rw [← hA, oI_m1 (fun e he => by have := hC.2.2.1 c hc e he; omega), hA]; exact fun z => by cases z), gd_t g, show oI (some d) = nI d from rfl, x_forceOf hC ha (by omega), ob_s]
    obtain ⟨t, h1, h2⟩ := j38 (th &&& gL a 81 d)
    refine ⟨t, h1, fun x hx => ?_⟩
    rw [h2 x hx, l_and, e2 x hx]
    unfold one
    rw [hA]
    simp [tS, Bool.and_assoc]
