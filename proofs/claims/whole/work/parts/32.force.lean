/-! a contract as data; what is in force, and the reference's way to it -/
def anyB (p : Nat → Bool) : Nat → Bool
  | 0 => false
  | n + 1 => anyB p n || p n
theorem anyB_iff {p : Nat → Bool} : ∀ {n : Nat}, anyB p n = true ↔ ∃ k, k < n ∧ p k = true
  | 0 => ⟨fun h => (by cases h), fun ⟨k, h, _⟩ => absurd h (Nat.not_lt_zero k)⟩
  | n + 1 => by
    rw [anyB, Bool.or_eq_true, anyB_iff]
    constructor
    · rintro (⟨k, h1, h2⟩ | h)
      · exact ⟨k, by omega, h2⟩
      · exact ⟨n, by omega, h⟩
    · rintro ⟨k, h1, h2⟩
      rcases Nat.lt_or_ge k n with h | h
      · exact Or.inl ⟨k, h, h2⟩
      · have e : k = n := by omega
        subst e; exact Or.inr h2
theorem anyB_f {p : Nat → Bool} {n : Nat} : anyB p n = false ↔ ∀ k, k < n → p k = false := by
  constructor
  · intro h k hk
    cases hp : p k with
    | false => rfl
    | true => rw [anyB_iff.mpr ⟨k, hk, hp⟩] at h; cases h
  · intro h
    cases hp : anyB p n with
    | false => rfl
    | true => obtain ⟨k, h1, h2⟩ := anyB_iff.mp hp; rw [h k h1] at h2; cases h2
theorem anyB_cong {p q : Nat → Bool} : ∀ {n : Nat}, (∀ k, k < n → p k = q k) → anyB p n = anyB q n
  | 0, _ => rfl
  | n + 1, h => by rw [anyB, anyB, anyB_cong (fun k hk => h k (by omega)), h n (by omega)]
theorem anyB_mono {p q : Nat → Bool} {n : Nat} (h : ∀ k, k < n → p k = true → q k = true) (hp : anyB p n = true) : anyB q n = true := by
  obtain ⟨k, h1, h2⟩ := anyB_iff.mp hp
  exact anyB_iff.mpr ⟨k, h1, h k h1 h2⟩
def allB (p : Nat → Bool) (n : Nat) : Bool := !anyB (fun k => !p k) n
theorem allB_iff {p : Nat → Bool} {n : Nat} : allB p n = true ↔ ∀ k, k < n → p k = true := by
  unfold allB
  rw [Bool.not_eq_true', anyB_f]
  exact ⟨fun h k hk => by have := h k hk; simpa using this, fun h k hk => by simp [h k hk]⟩
theorem beq_of {b c : Bool} (h : b = true ↔ c = true) : b = c := by
  cases b <;> cases c <;> simp at h <;> first | rfl | exact absurd rfl h
/-- clauses, parts; around, wants yes, wants no, called; of a part: which, its number, its clause -/
abbrev Cd : Type := Nat × Nat × (Nat → Option Nat) × (Nat → Int32) × (Nat → Int32) × (Nat → Bool) × (Nat → Nat) × (Nat → Nat) × (Nat → Nat)
def cN (C : Cd) : Nat := C.1
def cP (C : Cd) : Nat := C.2.1
def cA (C : Cd) : Nat → Option Nat := C.2.2.1
def cY (C : Cd) : Nat → Int32 := C.2.2.2.1
def cW (C : Cd) : Nat → Int32 := C.2.2.2.2.1
def cC (C : Cd) : Nat → Bool := C.2.2.2.2.2.1
def cK (C : Cd) : Nat → Nat := C.2.2.2.2.2.2.1
def cV (C : Cd) : Nat → Nat := C.2.2.2.2.2.2.2.1
def cO (C : Cd) : Nat → Nat := C.2.2.2.2.2.2.2.2
def oI (o : Option Nat) : Int32 := match o with
  | none => -1
  | some d => nI d
def WfC (C : Cd) : Prop := cN C ≤ 16 ∧ cP C ≤ 30 ∧ (∀ c, c < cN C → ∀ d, cA C c = some d → d < c) ∧ (∀ c, c < cN C → ∀ q, q < 32 → (bt (cY C c) q = true → q < 6) ∧ (bt (cW C c) q = true → q < 6) ∧ ¬ (bt (cY C c) q = true ∧ bt (cW C c) q = true)) ∧
  ∀ p, p < cP C → cK C p < 3 ∧ cO C p < cN C ∧ (cK C p = 2 → cV C p < cN C) ∧ (cK C p ≠ 2 → cV C p < 8)
def RepM (b : SS) (C : Cd) : Prop := gI b 3 = nI (cN C) ∧ gI b 8 = nI (cP C) ∧ (∀ c, c < cN C → gA b 4 c = oI (cA C c) ∧ gA b 5 c = cY C c ∧ gA b 6 c = cW C c ∧ gA b 7 c = bI (cC C c)) ∧
  ∀ p, p < cP C → gA b 9 p = nI (cO C p) ∧ gA b 10 p = nI (cK C p) ∧ gA b 11 p = nI (cV C p)
theorem oI_m1 {o : Option Nat} (h : ∀ d, o = some d → d < 2 ^ 31) : oI o = -1 ↔ o = none := by
  cases o with
  | none => exact ⟨fun _ => rfl, fun _ => rfl⟩
  | some d =>
    refine ⟨fun e => ?_, fun e => by cases e⟩
    exfalso
    have h1 : (nI d).toInt = (-1 : Int32).toInt := congrArg Int32.toInt e
    rw [nI_toInt (h d rfl)] at h1
    rw [show (-1 : Int32).toInt = -1 from by decide] at h1
    omega
def hold (C : Cd) (x c : Nat) : Bool := allB (fun q => (!bt (cY C c) q || x.testBit q) && (!bt (cW C c) q || !x.testBit q)) 6
def callB (C : Cd) (S : Nat → Bool) (c p : Nat) : Bool := cK C p == 2 && (cV C p == c && (!(cO C p == c) && S (cO C p)))
def one (C : Cd) (x : Nat) (sk S : Nat → Bool) (c : Nat) : Bool :=
  hold C x c && (!sk c && ((match cA C c with | none => true | some d => S d) && (!cC C c || anyB (callB C S c) (cP C))))
def swp (f : (Nat → Bool) → Nat → Bool) : Nat → (Nat → Bool) → Nat → Bool
  | 0, S => S
  | n + 1, S => fun j => if j = n then swp f n S n || f (swp f n S) n else swp f n S j
def rds (f : (Nat → Bool) → Nat → Bool) (n : Nat) : Nat → Nat → Bool
  | 0 => fun _ => false
  | k + 1 => swp f n (rds f n k)
def inF (C : Cd) (x : Nat) (sk : Nat → Bool) : Nat → Bool := rds (one C x sk) (cN C) (cN C + 1)
theorem bI_n : ¬ bI true = 0 := by decide
theorem swp_s (f : (Nat → Bool) → Nat → Bool) (n : Nat) (S : Nat → Bool) (j : Nat) : swp f (n + 1) S j = if j = n then swp f n S n || f (swp f n S) n else swp f n S j := rfl
theorem swp_ge {f : (Nat → Bool) → Nat → Bool} {S : Nat → Bool} : ∀ {n j : Nat}, n ≤ j → swp f n S j = S j
  | 0, _, _ => rfl
  | n + 1, j, h => by rw [swp_s, if_neg (by omega), swp_ge (by omega)]
theorem rds_ge {f : (Nat → Bool) → Nat → Bool} {n : Nat} : ∀ {k j : Nat}, n ≤ j → rds f n k j = false
  | 0, _, _ => rfl
  | k + 1, j, h => by rw [rds, swp_ge h, rds_ge h]
theorem m_holds {b : SS} {C : Cd} (hC : WfC C) (hb : RepM b C) {c x : Nat} (hc : c < cN C) : FX8_holds b (nI c) (nI x) = some (bI (hold C x c)) := by
  obtain ⟨w1, w2, w3, w4, w5⟩ := hC
  obtain ⟨-, -, r3, -⟩ := hb
  obtain ⟨-, r5, r6, -⟩ := r3 c hc
  have cl : Int32.toNatClampNeg (nI c) = c := nI_clamp (by omega)
  have e1 : (cY C c &&& (nI x ^^^ (-1 : Int32))) = 0 ↔ ∀ q, q < 6 → bt (cY C c) q = true → x.testBit q = true := by
    rw [b_zero]
    constructor
    · intro h q hq hy
      have h1 := h q (by omega)
      rw [b_and, b_not _ (by omega), b_nI _ (by omega), hy] at h1
      simpa using h1
    · intro h q hq
      rw [b_and, b_not _ hq, b_nI _ hq]
      cases hy : bt (cY C c) q with
      | false => rfl
      | true => rw [h q ((w4 c hc q hq).1 hy) hy]; rfl
  have e2 : (cW C c &&& nI x) = 0 ↔ ∀ q, q < 6 → bt (cW C c) q = true → x.testBit q = false := by
    rw [b_zero]
    constructor
    · intro h q hq hy
      have h1 := h q (by omega)
      rw [b_and, b_nI _ (by omega), hy] at h1
      simpa using h1
    · intro h q hq
      rw [b_and, b_nI _ hq]
      cases hy : bt (cW C c) q with
      | false => rfl
      | true => rw [h q ((w4 c hc q hq).2.1 hy) hy]; rfl
  have key : hold C x c = true ↔ (∀ q, q < 6 → bt (cY C c) q = true → x.testBit q = true) ∧ ∀ q, q < 6 → bt (cW C c) q = true → x.testBit q = false := by
    unfold hold
    rw [allB_iff]
    constructor
    · intro h
      refine ⟨fun q hq hy => ?_, fun q hq hy => ?_⟩
      · have := h q hq; rw [hy] at this; simp at this; exact this.1
      · have := h q hq; rw [hy] at this; simp at this; exact this.2
    · rintro ⟨h1, h2⟩ q hq
      cases hy : bt (cY C c) q <;> cases hw : bt (cW C c) q <;> simp
      · exact h2 q hq hw
      · exact h1 q hq hy
      · exact (w4 c hc q (by omega)).2.2 ⟨hy, hw⟩
  unfold FX8_holds
  rw [gd_t (inb_n (by omega) (by omega)), cl, r5, r6]
  by_cases h1 : (cY C c &&& (nI x ^^^ (-1 : Int32))) = 0
  · rw [if_pos h1, gd_t (inb_n (by omega) (by omega))]
    by_cases h2 : (cW C c &&& nI x) = 0
    · rw [if_pos h2, key.mpr ⟨e1.mp h1, e2.mp h2⟩]; rfl
    · rw [if_neg h2]
      cases hh : hold C x c with
      | false => rfl
      | true => exact absurd (e2.mpr (key.mp hh).2) h2
  · rw [if_neg h1]
    cases hh : hold C x c with
    | false => rfl
    | true => exact absurd (e1.mpr (key.mp hh).1) h1
theorem nI_ne {a b : Nat} (ha : a < 2 ^ 31) (hb : b < 2 ^ 31) (h : ¬ a = b) : ¬ nI a = nI b := fun e => h ((nI_eq ha hb).mp e)
theorem m_isCalled {b : SS} {C : Cd} (hC : WfC C) (hb : RepM b C) {c : Nat} (hc : c < cN C) (s : Int32) : FX8_isCalled b (nI c) s = some (bI (!cC C c || anyB (callB C (bt s) c) (cP C))) := by
  obtain ⟨w1, w2, w3, w4, w5⟩ := hC
  obtain ⟨r1, r2, r3, r4⟩ := hb
  obtain ⟨-, -, -, r7⟩ := r3 c hc
  have cl : Int32.toNatClampNeg (nI c) = c := nI_clamp (by omega)
  have loop : ∀ d : Bool, FX8_isCalled_L18 b (nI c) s (fun u => gd (isb u) (some u)) 5000 (bI d) (nI 0) = some (bI (d || anyB (callB C (bt s) c) (cP C))) := by
    intro d
    obtain ⟨a', h1, h2⟩ := lpk (fun n (a : Int32) i => FX8_isCalled_L18 b (nI c) s (fun u => gd (isb u) (some u)) n a i) (cP C) (fun u => gd (isb u) (some u)) (fun i a => a = bI (d || anyB (callB C (bt s) c) i)) (by
      intro n a h
      show FX8_isCalled_L18 _ _ _ _ _ _ _ = _
      rw [FX8_isCalled_L18, r2, if_pos (nI_le (Nat.le_refl _) (by omega))]) (by
      intro n i a hi h
      refine ⟨_, rfl, ?_⟩
      show FX8_isCalled_L18 _ _ _ _ _ _ _ = FX8_isCalled_L18 _ _ _ _ _ _ _
      obtain ⟨p1, p2, p3, p4⟩ := w5 i hi
      obtain ⟨o1, o2, o3⟩ := r4 i hi
      have ci : Int32.toNatClampNeg (nI i) = i := nI_clamp (by omega)
      have g : inb (nI i) 30 = true := inb_n (by omega) (by omega)
      rw [FX8_isCalled_L18, r2, if_neg (nI_ge hi (by omega)), h, anyB, nI_1, ci, gd_t g, gd_t g, gd_t g, gd_t g, o1, o2, o3, m_has b s (by omega : cO C i < 32), ob_s]
      cases hd : (d || anyB (callB C (bt s) c) i) with
      | true =>
        rw [if_neg (by decide)]
        congr 1
        rw [show (d || (anyB (callB C (bt s) c) i || callB C (bt s) c i)) = ((d || anyB (callB C (bt s) c) i) || callB C (bt s) c i) from (Bool.or_assoc _ _ _).symm, hd]; rfl
      | false =>
        rw [if_pos bI_f, show (d || (anyB (callB C (bt s) c) i || callB C (bt s) c i)) = ((d || anyB (callB C (bt s) c) i) || callB C (bt s) c i) from (Bool.or_assoc _ _ _).symm, hd, Bool.false_or]
        unfold callB
        by_cases h1 : cK C i = 2
        · rw [if_pos (by rw [h1]; rfl)]
          by_cases h2 : cV C i = c
          · rw [if_pos (by rw [h2])]
            by_cases h3 : cO C i = c
            · rw [if_pos (by rw [h3])]; simp [h1, h2, h3, bI]
            · rw [if_neg (nI_ne (by omega) (by omega) h3)]
              cases hs : bt s (cO C i) with
              | false => rw [if_pos bI_f]; simp [bI]
              | true => rw [if_neg bI_n]; simp [h1, h2, h3, bI]
          · rw [if_neg (nI_ne (by omega) (by omega) h2)]; simp [h2, bI]
        · rw [if_neg (show ¬ nI (cK C i) = (2 : Int32) from nI_ne (b := 2) (by omega) (by omega) h1)]; simp [h1, bI]) (n := 5000) (by omega) (a := bI d) (by show bI d = bI (d || false); rw [Bool.or_false])
    have h2 : FX8_isCalled_L18 b (nI c) s (fun u => gd (isb u) (some u)) 5000 (bI d) (nI 0) = gd (isb a') (some a') := h2
    rw [h2, h1, gd_t (isb_bI _)]
  unfold FX8_isCalled
  rw [gd_t (inb_n (by omega) (by omega)), cl, r7]
  cases hcc : cC C c with
  | false => rw [if_pos bI_f]; exact loop true
  | true => rw [if_neg bI_n]; exact loop false
theorem fb_85 (b : SS) (rec : Int32 → Int32 → Option Int32) (v1 v2 v3 v4 : Int32) : FX8_forceBy_J85 b rec v1 v2 v3 v4 = rec v2 (v4 + 1) := by
  rw [FX8_forceBy_J85, FX8_forceBy_J86, if_pos rfl, Int32.or_zero]
theorem fb_86 (b : SS) (rec : Int32 → Int32 → Option Int32) (v1 v2 v3 v4 : Int32) : FX8_forceBy_J86 b rec v1 v2 v3 v4 1 = rec (v2 ||| jshl 1 v4) (v4 + 1) := by
  rw [FX8_forceBy_J86, if_neg (by decide)]
theorem set_bit {f : (Nat → Bool) → Nat → Bool} {S : Nat → Bool} {i : Nat} (hi : i < 32) {s : Int32} (hs : ∀ j, j < 32 → bt s j = swp f i S j) (q : Bool) (hq : f (swp f i S) i = q) : ∀ j, j < 32 → bt (if q then s ||| jshl 1 (nI i) else s) j = swp f (i + 1) S j := by
  intro j hj
  rw [swp_s]
  cases q with
  | false =>
    rw [if_neg (by decide), hs j hj, hq]
    by_cases h : j = i
    · subst h; rw [if_pos rfl, Bool.or_false]
    · rw [if_neg h]
  | true =>
    rw [if_pos rfl, b_or, b_one hi hj, hs j hj, hq]
    by_cases h : j = i
    · subst h; simp
    · simp [h]
theorem one_cong {C : Cd} (hC : WfC C) {x : Nat} {sk S T : Nat → Bool} {c : Nat} (hc : c < cN C) (h : ∀ j, j < cN C → S j = T j) : one C x sk S c = one C x sk T c := by
  unfold one
  have e1 : anyB (callB C S c) (cP C) = anyB (callB C T c) (cP C) := anyB_cong fun p hp => by
    unfold callB; rw [h _ (hC.2.2.2.2 p hp).2.1]
  rw [e1]
  cases ha : cA C c with
  | none => rfl
  | some d => simp only; rw [h d (Nat.lt_trans (hC.2.2.1 c hc d ha) hc)]
theorem m_inner {b : SS} {C : Cd} (hC : WfC C) (hb : RepM b C) {x : Nat} {sk : Nat → Bool} (hk : ∀ c, c < cN C → bt (gI b 26) c = sk c) (v3 : Int32) (k : Int32 → Option Int32) {S : Nat → Bool} (s : Int32) (hs : ∀ j, j < 32 → bt s j = S j) :
    ∃ s', (∀ j, j < 32 → bt s' j = swp (one C x sk) (cN C) S j) ∧ FX8_forceBy_L15 b (nI x) v3 k 5000 s (nI 0) = k s' := by
  have w1 := hC.1
  refine lpk (fun n (a : Int32) i => FX8_forceBy_L15 b (nI x) v3 k n a i) (cN C) k (fun i a => ∀ j, j < 32 → bt a j = swp (one C x sk) i S j) (by
    intro n a h
    show FX8_forceBy_L15 _ _ _ _ _ _ _ = _
    rw [FX8_forceBy_L15, hb.1, if_pos (nI_le (Nat.le_refl _) (by omega))]) (by
    intro n i a hi h
    refine ⟨_, set_bit (by omega) h _ rfl, ?_⟩
    show FX8_forceBy_L15 _ _ _ _ _ _ _ = FX8_forceBy_L15 _ _ _ _ _ _ _
    have e0 : one C x sk (swp (one C x sk) i S) i = one C x sk (bt a) i := one_cong hC hi fun j hj => (h j (by omega)).symm
    rw [e0]
    have ci : Int32.toNatClampNeg (nI i) = i := nI_clamp (by omega)
    have g : inb (nI i) 16 = true := inb_n (by omega) (by omega)
    obtain ⟨r4, -, -, -⟩ := hb.2.2.1 i hi
    obtain ⟨q, eq⟩ : ∃ q, q = (!cC C i || anyB (callB C (bt a) i) (cP C)) := ⟨_, rfl⟩
    have j71 : ∀ rec, FX8_forceBy_J71 b rec (nI x) a v3 (nI i) = rec (if q = true then a ||| jshl 1 (nI i) else a) (nI i + 1) := by
      intro rec
      rw [FX8_forceBy_J71, m_isCalled hC hb hi a, ob_s, fb_85, fb_86, ← eq]
      cases q with
      | false => rw [if_pos bI_f]; rfl
      | true => rw [if_neg bI_n]; rfl
    rw [FX8_forceBy_L15, hb.1, if_neg (nI_ge hi (by omega)), m_holds hC hb hi, ob_s, m_has b (gI b 26) (by omega : i < 32), ob_s, hk i hi, ci, gd_t g, gd_t g, r4]
    simp only [fb_85, j71, nI_1]
    unfold one
    rw [← eq]
    cases hh : hold C x i with
    | false => rw [if_pos bI_f]; rfl
    | true =>
      rw [if_neg bI_n]
      cases hq : sk i with
      | true => rw [if_neg bI_n]; rfl
      | false =>
        rw [if_pos bI_f]
        cases ha : cA C i with
        | none =>
          rw [if_pos (show oI none = -1 from rfl)]
          simp
        | some d =>
          have hd := hC.2.2.1 i hi d ha
          rw [if_neg (by rw [← ha, oI_m1 (fun e he => by have := hC.2.2.1 i hi e he; omega), ha]; exact fun z => by cases z), show oI (some d) = nI d from rfl, m_has b a (by omega : d < 32), ob_s]
          cases hS : bt a d with
          | false => rw [if_pos bI_f]; simp [hS]
          | true => rw [if_neg bI_n]; simp [hS]) (by omega) hs
theorem m_forceBy {b : SS} {C : Cd} (hC : WfC C) (hb : RepM b C) (x : Nat) {sk : Nat → Bool} (hk : ∀ c, c < cN C → bt (gI b 26) c = sk c) : ∃ F, FX8_forceBy b (nI x) = some F ∧ ∀ j, j < 32 → bt F j = inF C x sk j := by
  have w1 := hC.1
  obtain ⟨F, h1, h2⟩ := lpk (fun n (a : Int32) i => FX8_forceBy_L4 b (nI x) (fun u => some u) n a i) (cN C + 1) (fun u => some u) (fun i a => ∀ j, j < 32 → bt a j = rds (one C x sk) (cN C) i j) (by
    intro n a h
    show FX8_forceBy_L4 _ _ _ _ _ _ = _
    rw [FX8_forceBy_L4, hb.1, if_pos (nI_lt (Nat.lt_succ_self _) (by omega))]) (by
    intro n i a hi h
    obtain ⟨s', h3, h4⟩ := m_inner hC hb hk (nI i) (fun u35 => FX8_forceBy_L4 b (nI x) (fun u => some u) n u35 (nI i + 1)) a h
    refine ⟨s', h3, ?_⟩
    show FX8_forceBy_L4 _ _ _ _ _ _ = FX8_forceBy_L4 _ _ _ _ _ _
    have h4 : FX8_forceBy_L15 b (nI x) (nI i) (fun u35 => FX8_forceBy_L4 b (nI x) (fun u => some u) n u35 (nI i + 1)) 5000 a 0 = FX8_forceBy_L4 b (nI x) (fun u => some u) n s' (nI i + 1) := h4
    rw [FX8_forceBy_L4, hb.1, if_neg (nI_nlt (by omega) (by omega)), h4, nI_1]) (n := 5000) (by omega) (a := 0) (fun j _ => b_0 j)
  exact ⟨F, h2, h1⟩
