/-! two new worlds -/
def Cd0 : Cd := (0, 0, fun _ => none, fun _ => 0, fun _ => 0, fun _ => false, fun _ => 0, fun _ => 0, fun _ => 0)
theorem wsh_f {h : Nat → Nat → Bool} (e : ∀ t u, h t u = false) : ∀ k t u, wsh h k t u = false
  | 0, t, u => e t u
  | k + 1, t, u => by
    show (wsh h k t u || (wsh h k t k && wsh h k k u)) = false
    rw [wsh_f e k t u, wsh_f e k t k]; rfl
theorem no_lt {P : Nat → Prop} : ∀ c, c < 0 → P c := fun c hc => absurd hc (Nat.not_lt_zero c)
theorem rel_0 : Rel σX0 σM0 := by
  refine ⟨Cd0, 0, 0, ⟨⟨by decide, by decide, no_lt, no_lt, no_lt⟩, ⟨rfl, rfl, no_lt, no_lt, no_lt⟩, ⟨rfl, rfl, no_lt, no_lt⟩, ?_, ⟨by decide, by decide, fun q h => by rw [Nat.zero_testBit] at h; cases h⟩, rfl, rfl, rfl, rfl, rfl, fun c _ h => ?_⟩, ⟨0, by omega, rfl, rfl, no_lt⟩, rfl, ⟨0, by omega, rfl, rfl, no_lt⟩, fun i hi => Or.inl ⟨?_, rfl⟩⟩
  · intro x hx
    refine ⟨no_lt, no_lt, fun t ht o ho => ?_, fun t ht u hu => ?_⟩
    · exact l_0 x
    · rw [wsh_f (h := hng Cd0 (inF Cd0 x (bt (gI σM0 26)))) (fun _ _ => rfl)]; exact l_0 x
  · have e : bt 0 c = true := h
    rw [b_0] at e; cases e
  · rcases (by omega : i = 0 ∨ i = 1) with e | e
    · subst e; rfl
    · subst e; rfl
