/-! which clauses are sure, open, never -/
theorem bt_put {i : Nat} (hi : i < 32) {q : Int32} {f : Nat → Bool} (e : ∀ o, o < 32 → bt q o = (decide (o < i) && f o)) {w : Bool} (hw : f i = w) : ∀ o, o < 32 → bt (if w then q ||| jshl 1 (nI i) else q) o = (decide (o < i + 1) && f o) := by
  intro o ho
  have dd : o ≠ i → decide (o < i + 1) = decide (o < i) := by
    intro c
    by_cases d : o < i
    · simp [d]; omega
    · simp [d]; omega
  cases w with
  | false =>
    rw [if_neg (by decide), e o ho]
    by_cases c : o = i
    · subst c; rw [hw]; simp
    · rw [dd c]
  | true =>
    rw [if_pos rfl, b_or, b_one (by omega) ho, e o ho]
    by_cases c : o = i
    · subst c; rw [hw]; simp
    · rw [dd c]; simp [c]
theorem mask_bit : ∀ n, n < 17 → ∀ j, j < 32 → bt (jshl 1 (nI n) - 1) j = decide (j < n) := by decide +kernel
def sty (C : Cd) (sk : Nat → Bool) (T : Nat → Bool) (j : Nat) : Nat := if anyB (fun x => inF C x sk j && T x) 64 = false then 0 else if allB (fun x => !T x || inF C x sk j) 64 = true then 2 else 1
theorem sty_3 (C : Cd) (sk : Nat → Bool) (T : Nat → Bool) (j : Nat) : sty C sk T j < 3 := by
  unfold sty
  split
  · omega
  · split <;> omega
theorem sty_cong {C : Cd} {sk T U : Nat → Bool} {j : Nat} (h : ∀ x, x < 64 → T x = U x) : sty C sk T j = sty C sk U j := by
  unfold sty
  rw [anyB_cong (q := fun x => inF C x sk j && U x) (fun x hx => by rw [h x hx])]
  have : allB (fun x => !T x || inF C x sk j) 64 = allB (fun x => !U x || inF C x sk j) 64 := beq_of (by
    rw [allB_iff, allB_iff]
    constructor
    · intro z x hx; rw [← h x hx]; exact z x hx
    · intro z x hx; rw [h x hx]; exact z x hx)
  rw [this]
theorem x_among {a : SS} {C : Cd} {sk : Nat → Bool} (hC : WfC C) (ha : RepX a C) (hT : Tabs a C sk) {j : Nat} (hj : j < cN C) {t : Int64} {T : Nat → Bool} (ht : ∀ x, x < 64 → lb t x = T x) : FX3_suretyAmong a (nI j) t = some (nI (sty C sk T j)) := by
  have bit : ∀ x, x < 64 → lb (gL a 81 j &&& t) x = (inF C x sk j && T x) := fun x hx => by rw [l_and, (hT x hx).1 j hj, ht x hx]
  rw [FX3_suretyAmong, x_forceOf hC ha hj, ob_s]
  unfold sty
  by_cases h1 : anyB (fun x => inF C x sk j && T x) 64 = false
  · rw [if_pos h1, if_pos (cmp_0.mpr (l_zero.mpr fun x hx => by rw [bit x hx]; exact anyB_f.mp h1 x hx))]; rfl
  · rw [if_neg h1, if_neg (fun z => h1 (anyB_f.mpr fun x hx => by have := l_zero.mp (cmp_0.mp z) x hx; rwa [bit x hx] at this))]
    by_cases h2 : allB (fun x => !T x || inF C x sk j) 64 = true
    · rw [if_pos h2, if_pos (cmp_0.mpr (l_ext fun x hx => by
        rw [bit x hx, ht x hx]
        have := allB_iff.mp h2 x hx
        cases hq : T x <;> cases hr : inF C x sk j <;> simp_all))]; rfl
    · rw [if_neg h2, if_neg (fun z => h2 (allB_iff.mpr fun x hx => by
        have := congrArg (fun z => lb z x) (cmp_0.mp z)
        simp only [bit x hx, ht x hx] at this
        cases hq : T x <;> cases hr : inF C x sk j <;> simp_all))]; rfl
theorem x_clausesOf {a : SS} {C : Cd} {sk : Nat → Bool} {K A : Nat} (hC : WfC C) (ha : RepX a C) (hT : Tabs a C sk) (hK : gI a 60 = nI K) (hA : gI a 61 = nI A) {w : Nat} (hw : w < 3) : ∃ r, FX3_clausesOf a (nI w) = some r ∧ ∀ o, o < 32 → bt r o = (decide (o < cN C) && (sty C sk (can K A) o == w)) := by
  have w1 := hC.1
  obtain ⟨t, e1, e2⟩ := x_possible hK hA
  obtain ⟨r, h1, h2⟩ := lpk (fun n (q : Int32) i => FX3_clausesOf_L4 a (nI w) (fun u => some u) n q i) (cN C) (fun u => some u) (fun i q => ∀ o, o < 32 → bt q o = (decide (o < i) && (sty C sk (can K A) o == w))) (by
    intro n q _
    show FX3_clausesOf_L4 _ _ _ _ _ _ = _
    rw [FX3_clausesOf_L4, ha.1, if_pos (nI_le (Nat.le_refl _) (by omega))]) (by
    intro n i q hi e
    refine ⟨_, bt_put (by omega) e rfl, ?_⟩
    show FX3_clausesOf_L4 _ _ _ _ _ _ = FX3_clausesOf_L4 _ _ _ _ _ _
    rw [FX3_clausesOf_L4, ha.1, if_neg (nI_ge hi (by omega)), FX3_surety, e1, ob_s, x_among hC ha hT hi e2, ob_s, ob_s, nI_1]
    have s3 := sty_3 C sk (can K A) i
    by_cases z : sty C sk (can K A) i = w
    · rw [if_pos (by rw [z]), if_pos (show (sty C sk (can K A) i == w) = true by rw [z]; exact beq_self_eq_true w)]
    · rw [if_neg (nI_ne (by omega) (by omega) z), if_neg (show ¬ (sty C sk (can K A) i == w) = true by rw [beq_ne z]; decide)]) (n := 5000) (by omega) (a := 0) (fun o _ => by rw [b_0]; simp)
  exact ⟨r, h2, h1⟩
theorem allB_s (p : Nat → Bool) (n : Nat) : allB p (n + 1) = (allB p n && p n) := by
  apply beq_of
  rw [Bool.and_eq_true, allB_iff, allB_iff]
  constructor
  · intro h; exact ⟨fun k hk => h k (by omega), h n (by omega)⟩
  · rintro ⟨h1, h2⟩ k hk
    rcases Nat.lt_or_ge k n with c | c
    · exact h1 k c
    · have e : k = n := by omega
      rw [e]; exact h2
theorem sty_w {C : Cd} {sk : Nat → Bool} {K A : Nat} (hs : Stn K A) (j : Nat) : (sty C sk (can K A) j == 2) = allB (fun x => !can K A x || inF C x sk j) 64 ∧ (sty C sk (can K A) j == 0) = !anyB (fun x => can K A x && inF C x sk j) 64 ∧ (sty C sk (can K A) j == 1) = (anyB (fun x => can K A x && inF C x sk j) 64 && !allB (fun x => !can K A x || inF C x sk j) 64) := by
  have e : anyB (fun x => inF C x sk j && can K A x) 64 = anyB (fun x => can K A x && inF C x sk j) 64 := anyB_cong fun x _ => Bool.and_comm _ _
  unfold sty
  rw [e]
  cases h1 : anyB (fun x => can K A x && inF C x sk j) 64 with
  | false =>
    cases h2 : allB (fun x => !can K A x || inF C x sk j) 64 with
    | false => decide
    | true =>
      have := allB_iff.mp h2 A hs.2.1
      have h3 := anyB_f.mp h1 A hs.2.1
      rw [can_self] at this h3
      simp at this h3
      rw [this] at h3; cases h3
  | true =>
    cases h2 : allB (fun x => !can K A x || inF C x sk j) 64 <;> decide
theorem m_surely {b : SS} {C : Cd} (hC : WfC C) (hb : RepM b C) {sk : Nat → Bool} (hk : ∀ c, c < cN C → bt (gI b 26) c = sk c) {K A : Nat} (hs : Stn K A) (hK : gI b 24 = nI K) (hA : gI b 25 = nI A) {w : Nat} (hw : w < 3) : ∃ r σ, FX8_surely b (nI w) = some (r, σ) ∧ smM b σ ∧ ∀ o, o < 32 → bt r o = (decide (o < cN C) && (sty C sk (can K A) o == w)) := by
  have w1 := hC.1
  obtain ⟨σ, e1, s1, f1⟩ := m_forces hC hb hk
  have cb := m_canBe hs ((s1.1 24 (by decide)).trans hK) ((s1.1 25 (by decide)).trans hA)
  generalize hkk : (fun (u18 u19 : Int32) => if nI w = (2 : Int32) then some (u18, σ)
    else if nI w = (1 : Int32) then some ((u19 &&& (u18 ^^^ (-1 : Int32))), σ)
    else some ((((jshl (1 : Int32) (gI σ 3)) - (1 : Int32)) &&& (u19 ^^^ (-1 : Int32))), σ)) = kk
  have msk := mask_bit (cN C) (by omega)
  obtain ⟨⟨v2, v3⟩, ⟨z1, z2⟩, h2⟩ := lpk (fun n (q : Int32 × Int32) i => FX8_surely_L18 σ (nI w) kk n q.1 q.2 i) 64 (fun q => kk q.1 q.2) (fun i q => (∀ j, j < 32 → bt q.1 j = (decide (j < cN C) && allB (fun x => !can K A x || inF C x sk j) i)) ∧ ∀ j, j < 32 → bt q.2 j = anyB (fun x => can K A x && inF C x sk j) i) (by
    rintro n ⟨v2, v3⟩ _
    show FX8_surely_L18 _ _ _ _ _ _ _ = _
    rw [FX8_surely_L18, if_pos (by decide)]) (by
    rintro n i ⟨v2, v3⟩ hi ⟨e2, e3⟩
    simp only at e2 e3
    cases hc : can K A i with
    | false =>
      refine ⟨(v2 &&& v2, v3 ||| 0), ⟨fun j hj => ?_, fun j hj => ?_⟩, ?_⟩
      · show bt (v2 &&& v2) j = _
        rw [b_and, e2 j hj, allB_s, hc]; simp
      · show bt (v3 ||| 0) j = _
        rw [b_or, b_0, e3 j hj, anyB, hc]; simp
      · show FX8_surely_L18 _ _ _ _ _ _ _ = FX8_surely_L18 _ _ _ _ _ _ _
        rw [FX8_surely_L18, if_neg (l64 hi), cb, ob_s, hc, if_pos bI_f, FX8_surely_J46, cb, ob_s, hc, if_pos bI_f, nI_1]
    | true =>
      refine ⟨(v2 &&& gA σ 31 i, v3 ||| gA σ 31 i), ⟨fun j hj => ?_, fun j hj => ?_⟩, ?_⟩
      · show bt (v2 &&& gA σ 31 i) j = _
        rw [b_and, e2 j hj, allB_s, hc, f1 i hi j hj]; simp [Bool.and_assoc]
      · show bt (v3 ||| gA σ 31 i) j = _
        rw [b_or, e3 j hj, anyB, hc, f1 i hi j hj]; simp
      · show FX8_surely_L18 _ _ _ _ _ _ _ = FX8_surely_L18 _ _ _ _ _ _ _
        rw [FX8_surely_L18, if_neg (l64 hi), cb, ob_s, hc, if_neg bI_n, gd_t (inb_n (by omega) (by omega)), nI_clamp (by omega), FX8_surely_J46, cb, ob_s, hc, if_neg bI_n, gd_t (inb_n (by omega) (by omega)), nI_clamp (by omega), nI_1]) (n := 5000) (by omega) (a := (jshl 1 (gI b 3) - 1, 0)) ⟨fun j hj => by
      show bt (jshl 1 (gI b 3) - 1) j = _
      rw [hb.1, msk j hj]; simp [allB, anyB], fun j hj => b_0 j⟩
  simp only at z1 z2
  have h2 : FX8_surely_L18 σ (nI w) kk 5000 (jshl 1 (gI b 3) - 1) 0 0 = kk v2 v3 := h2
  have gg : FX8_surely b (nI w) = kk v2 v3 := by
    rw [FX8_surely, e1, ob_s, hkk]; exact h2
  rw [gg, ← hkk]
  have sw := fun j => sty_w (C := C) (sk := sk) hs j
  have out : ∀ j, ¬ j < cN C → anyB (fun x => can K A x && inF C x sk j) 64 = false := fun j hj => anyB_f.mpr fun x _ => by
    have : inF C x sk j = false := rds_ge (by omega)
    simp only [this, Bool.and_false]
  rcases (by omega : w = 0 ∨ w = 1 ∨ w = 2) with h | h | h
  · subst h
    refine ⟨_, σ, (if_neg (by decide)).trans (if_neg (by decide)), s1, fun o ho => ?_⟩
    rw [b_and, b_not _ ho, z2 o ho, s1.1 3 (by decide), hb.1, msk o ho, (sw o).2.1]
  · subst h
    refine ⟨_, σ, (if_neg (by decide)).trans (if_pos (by decide)), s1, fun o ho => ?_⟩
    rw [b_and, b_not _ ho, z1 o ho, z2 o ho, (sw o).2.2]
    by_cases c : o < cN C
    · simp [c]
    · rw [out o c]; simp
  · subst h
    refine ⟨_, σ, if_pos (by decide), s1, fun o ho => ?_⟩
    rw [z1 o ho, (sw o).1]
