/-! the text becomes the contract -/
theorem wfc_of {C : Cd} (h : WfD C) (hr : ∀ i, i < cP C → cK C i = 2 → cV C i < cN C) : WfC C :=
  ⟨h.1, h.2.1, h.2.2.1, h.2.2.2.1, fun i hi => ⟨(h.2.2.2.2 i hi).1, (h.2.2.2.2 i hi).2.1, hr i hi, (h.2.2.2.2 i hi).2.2.2⟩⟩
/-- all that is not the text stays -/
theorem rel_fr {a b p q : SS} (h : Rel a b) (f1 : fX a p) (f2 : fM b q) (he : gI p 11 = gI q 2) : Rel (sI p 10 0) (sI q 1 0) := by
  obtain ⟨C, K, A, ⟨h1, h2, h3, h4, h5, k1, k2, k3, k4, k5, k6⟩, ht, hf, hh, hi⟩ := h
  have gx : ∀ k, 22 < k → gI (sI p 10 0) k = gI a k := fun k hk => by rw [gI_ne _ (show k ≠ 10 by omega)]; exact f1.1 k (Or.inr hk)
  have ax : ∀ k, 31 < k → gA (sI p 10 0) k = gA a k := fun k hk => f1.2.1 k (Or.inr hk)
  have gm : ∀ k, k ≠ 1 → k ≠ 2 → k ≠ 12 → k ≠ 17 → k ≠ 22 → k ≠ 23 → gI (sI q 1 0) k = gI b k := fun k h0 h1 h2 h3 h4 h5 => by rw [gI_ne _ h0]; exact f2.1 k h1 h2 h3 h4 h5
  have am : ∀ k, k < 13 ∨ 21 < k → gA (sI q 1 0) k = gA b k := fun k hk => f2.2 k hk
  have m26 : gI (sI q 1 0) 26 = gI b 26 := gm 26 (by decide) (by decide) (by decide) (by decide) (by decide) (by decide)
  refine ⟨C, K, A, ⟨h1, ?_, ?_, ?_, h5, ?_, ?_, ?_, ?_, ?_, ?_⟩, ⟨0, by omega, gI_sI _ _ _, gI_sI _ _ _, no_lt⟩, he, ?_, ?_⟩
  · unfold RepX
    rw [gx 40 (by decide), gx 41 (by decide), gx 42 (by decide), ax 43 (by decide), ax 44 (by decide), ax 45 (by decide), ax 46 (by decide), ax 47 (by decide), ax 48 (by decide), ax 49 (by decide), ax 50 (by decide), ax 51 (by decide)]
    exact h2
  · unfold RepM
    rw [gm 3 (by decide) (by decide) (by decide) (by decide) (by decide) (by decide), gm 8 (by decide) (by decide) (by decide) (by decide) (by decide) (by decide), am 4 (by decide), am 5 (by decide), am 6 (by decide), am 7 (by decide), am 9 (by decide), am 10 (by decide), am 11 (by decide)]
    exact h3
  · rw [m26]
    have e : ∀ k, gL (sI p 10 0) k = gL a k := fun k => congrFun f1.2.2 k
    unfold Tabs
    simp only [e]
    exact h4
  · rw [gx 60 (by decide)]; exact k1
  · rw [gx 61 (by decide)]; exact k2
  · rw [gm 24 (by decide) (by decide) (by decide) (by decide) (by decide) (by decide)]; exact k3
  · rw [gm 25 (by decide) (by decide) (by decide) (by decide) (by decide) (by decide)]; exact k4
  · rw [gx 62 (by decide), m26]; exact k5
  · rw [m26]; exact k6
  · unfold His at *
    rw [gx 70 (by decide), ax 71 (by decide), gm 28 (by decide) (by decide) (by decide) (by decide) (by decide) (by decide), am 27 (by decide)]
    exact hh
  · unfold Img at *
    rw [ax 74 (by decide), am 29 (by decide), am 30 (by decide)]
    exact hi
/-- the desk takes its draft over -/
theorem cpy_lt (f g : Nat → Int32) {m k : Nat} (h : k < m) : va_cpy f g 0 0 m k = f k := by
  unfold va_cpy
  rw [if_pos ⟨Nat.zero_le _, by omega⟩]
  congr 1
  omega
def toX (p : SS) : SS := sA (sA (sA (sA (sA (sA (sA (sA (sA (sI (sI (sI p 40 (gI p 20)) 41 (gI p 21)) 42 (gI p 22)) 43 (va_cpy (gA p 23) (gA p 43) 0 0 16)) 44 (va_cpy (gA p 24) (gA p 44) 0 0 16)) 45 (va_cpy (gA p 25) (gA p 45) 0 0 16)) 46 (va_cpy (gA p 26) (gA p 46) 0 0 16)) 47 (va_cpy (gA p 27) (gA p 47) 0 0 16)) 48 (va_cpy (gA p 28) (gA p 48) 0 0 16)) 49 (va_cpy (gA p 29) (gA p 49) 0 0 30)) 50 (va_cpy (gA p 30) (gA p 50) 0 0 30)) 51 (va_cpy (gA p 31) (gA p 51) 0 0 30)
theorem x_takeOver (p : SS) : FX0_takeOver p = some (toX p) := by
  have c0 : Int32.toNatClampNeg (0 : Int32) = 0 := by decide
  have c1 : Int32.toNatClampNeg (16 : Int32) = 16 := by decide
  have c2 : Int32.toNatClampNeg (30 : Int32) = 30 := by decide
  simp only [FX0_takeOver, bd_e, gIa, gAa, gIs, gAs, c0, c1, c2, Nat.reduceEqDiff, reduceIte]
  rfl
theorem rep_takeOver {C : Cd} {p : SS} (hC : WfD C) (h : DrX C p) : RepX (toX p) C := by
  obtain ⟨d1, d2, d3, d4, d5, d6⟩ := h
  have w1 := hC.1
  have w2 := hC.2.1
  refine ⟨d1, d2, fun c hc => ?_, fun c hc => ?_, fun i hi => ?_⟩
  · show bt (gI p 22) c = _
    rw [d3 c (by omega), decide_eq_true hc, Bool.true_and]
  · show va_cpy (gA p 23) (gA p 43) 0 0 16 c = _ ∧ va_cpy (gA p 24) (gA p 44) 0 0 16 c = _ ∧ va_cpy (gA p 25) (gA p 45) 0 0 16 c = _ ∧ va_cpy (gA p 26) (gA p 46) 0 0 16 c = _ ∧ (∀ j, j < 32 → bt (va_cpy (gA p 27) (gA p 47) 0 0 16 c) j = _) ∧ ∀ t, t < 32 → bt (va_cpy (gA p 28) (gA p 48) 0 0 16 c) t = _
    have c16 : c < 16 := by omega
    rw [cpy_lt _ _ c16, cpy_lt _ _ c16, cpy_lt _ _ c16, cpy_lt _ _ c16, cpy_lt _ _ c16, cpy_lt _ _ c16]
    have e := d4 c hc
    exact ⟨e.1, e.2.1, e.2.2.1, e.2.2.2, (d5 c c16).1, (d5 c c16).2⟩
  · show va_cpy (gA p 29) (gA p 49) 0 0 30 i = _ ∧ va_cpy (gA p 30) (gA p 50) 0 0 30 i = _ ∧ va_cpy (gA p 31) (gA p 51) 0 0 30 i = _
    have i30 : i < 30 := by omega
    rw [cpy_lt _ _ i30, cpy_lt _ _ i30, cpy_lt _ _ i30]
    exact d6 i hi
theorem x_forget (p : SS) : ∃ f : Nat → Int32, FX7_forgetImages p = some (sA p 74 f) ∧ ∀ i, i < 2 → f i = -1 := by
  refine ⟨upd (upd (gA p 74) 0 (-1)) 1 (-1), ?_, fun i hi => ?_⟩
  · rw [FX7_forgetImages]
    show FX7_forgetImages_L2 _ (4997 + 3) 0 p = _
    have c0 : Int32.toNatClampNeg (0 : Int32) = 0 := by decide
    have c1 : Int32.toNatClampNeg ((0 : Int32) + 1) = 1 := by decide
    rw [FX7_forgetImages_L2, if_neg (by decide), gd_t (by decide), bd_e, FX7_forgetImages_L2, if_neg (by decide), gd_t (by decide), bd_e, FX7_forgetImages_L2, if_pos (by decide), c0, c1, gAa, if_pos rfl]
    congr 1
    unfold sA
    congr 2
    funext j
    by_cases e : j = 74 <;> simp [e]
  · rw [upd_eq, upd_eq]
    rcases (by omega : i = 0 ∨ i = 1) with e | e
    · subst e; rfl
    · subst e; rfl
/-- the reference copies its new rows -/
def fN (b q : SS) : Prop := (∀ k, gI q k = gI b k) ∧ ∀ k, 11 < k → gA q k = gA b k
theorem fN_A {a p : SS} (h : fN a p) {k : Nat} (f : Nat → Int32) (h1 : k ≤ 11) : fN a (sA p k f) := ⟨h.1, fun j hj => by
  rw [gA_ne _ (show j ≠ k by omega)]; exact h.2 j hj⟩
theorem m_67 {C : Cd} {q : SS} (hC : WfD C) (h : DrM C q) (h3 : gI q 3 = nI (cN C)) (k : SS → Option (Int32 × SS)) : ∃ q', FX8_contract_L67 k 5000 (0 : Int32) q = k q' ∧ fN q q' ∧ ∀ c, c < cN C → gA q' 4 c = oI (cA C c) ∧ gA q' 5 c = cY C c ∧ gA q' 6 c = cW C c ∧ gA q' 7 c = bI (cC C c) := by
  have w1 := hC.1
  obtain ⟨q', h1, h2⟩ := lpk (fun n (σ : SS) i => FX8_contract_L67 k n i σ) (cN C) k (fun i σ => fN q σ ∧ ∀ c, c < i → gA σ 4 c = oI (cA C c) ∧ gA σ 5 c = cY C c ∧ gA σ 6 c = cW C c ∧ gA σ 7 c = bI (cC C c)) (by
    intro n σ h
    show FX8_contract_L67 _ _ _ _ = _
    rw [FX8_contract_L67, h.1.1 3, h3, if_pos (nI_le (Nat.le_refl _) (by omega))]) (by
    intro n i σ hi h'
    have c4 : inb (nI i) 16 = true := inb_n (by omega) (by omega)
    have c5 : Int32.toNatClampNeg (nI i) = i := nI_clamp (by omega)
    have g := h.2.2.1 i hi
    refine ⟨sA (sA (sA (sA σ 4 (upd (gA σ 4) i (gA σ 13 i))) 5 (upd (gA σ 5) i (gA σ 14 i))) 6 (upd (gA σ 6) i (gA σ 15 i))) 7 (upd (gA σ 7) i (gA σ 16 i)), ⟨fN_A (fN_A (fN_A (fN_A h'.1 _ (by decide)) _ (by decide)) _ (by decide)) _ (by decide), fun c hc => ?_⟩, ?_⟩
    · show upd (gA σ 4) i (gA σ 13 i) c = _ ∧ upd (gA σ 5) i (gA σ 14 i) c = _ ∧ upd (gA σ 6) i (gA σ 15 i) c = _ ∧ upd (gA σ 7) i (gA σ 16 i) c = _
      rw [upd_eq, upd_eq, upd_eq, upd_eq, h'.1.2 13 (by decide), h'.1.2 14 (by decide), h'.1.2 15 (by decide), h'.1.2 16 (by decide)]
      by_cases e : c = i
      · rw [if_pos e, if_pos e, if_pos e, if_pos e, e]; exact g
      · rw [if_neg e, if_neg e, if_neg e, if_neg e]; exact h'.2 c (by omega)
    · show FX8_contract_L67 _ _ _ _ = FX8_contract_L67 _ _ _ _
      rw [FX8_contract_L67, h'.1.1 3, h3, if_neg (nI_ge hi (by omega)), nI_1]
      simp only [bd_e, gIa, gAa, gIs, gAs, c4, c5, gd_1, Nat.reduceEqDiff, reduceIte]) (n := 5000) (by omega) (a := q) ⟨⟨fun _ => rfl, fun _ _ => rfl⟩, no_lt⟩
  exact ⟨q', h2, h1⟩
theorem m_131 {C : Cd} {q : SS} (hC : WfD C) (h : DrM C q) (h8 : gI q 8 = nI (cP C)) (k : SS → Option (Int32 × SS)) : ∃ q', FX8_contract_L131 k 5000 (0 : Int32) q = k q' ∧ fN q q' ∧ (∀ k, k < 9 → gA q' k = gA q k) ∧ ∀ p, p < cP C → gA q' 9 p = nI (cO C p) ∧ gA q' 10 p = nI (cK C p) ∧ gA q' 11 p = nI (cV C p) := by
  have w2 := hC.2.1
  obtain ⟨q', h1, h2⟩ := lpk (fun n (σ : SS) i => FX8_contract_L131 k n i σ) (cP C) k (fun i σ => fN q σ ∧ (∀ k, k < 9 → gA σ k = gA q k) ∧ ∀ p, p < i → gA σ 9 p = nI (cO C p) ∧ gA σ 10 p = nI (cK C p) ∧ gA σ 11 p = nI (cV C p)) (by
    intro n σ h
    show FX8_contract_L131 _ _ _ _ = _
    rw [FX8_contract_L131, h.1.1 8, h8, if_pos (nI_le (Nat.le_refl _) (by omega))]) (by
    intro n i σ hi h'
    have c4 : inb (nI i) 30 = true := inb_n (by omega) (by omega)
    have c5 : Int32.toNatClampNeg (nI i) = i := nI_clamp (by omega)
    have g := h.2.2.2 i hi
    refine ⟨sA (sA (sA σ 9 (upd (gA σ 9) i (gA σ 18 i))) 10 (upd (gA σ 10) i (gA σ 19 i))) 11 (upd (gA σ 11) i (gA σ 20 i)), ⟨fN_A (fN_A (fN_A h'.1 _ (by decide)) _ (by decide)) _ (by decide), fun k hk => ?_, fun c hc => ?_⟩, ?_⟩
    · rw [gA_ne _ (show k ≠ 11 by omega), gA_ne _ (show k ≠ 10 by omega), gA_ne _ (show k ≠ 9 by omega)]; exact h'.2.1 k hk
    · show upd (gA σ 9) i (gA σ 18 i) c = _ ∧ upd (gA σ 10) i (gA σ 19 i) c = _ ∧ upd (gA σ 11) i (gA σ 20 i) c = _
      rw [upd_eq, upd_eq, upd_eq, h'.1.2 18 (by decide), h'.1.2 19 (by decide), h'.1.2 20 (by decide)]
      by_cases e : c = i
      · rw [if_pos e, if_pos e, if_pos e, e]; exact g
      · rw [if_neg e, if_neg e, if_neg e]; exact h'.2.2 c (by omega)
    · show FX8_contract_L131 _ _ _ _ = FX8_contract_L131 _ _ _ _
      rw [FX8_contract_L131, h'.1.1 8, h8, if_neg (nI_ge hi (by omega)), nI_1]
      simp only [bd_e, gIa, gAa, gIs, gAs, c4, c5, gd_1, Nat.reduceEqDiff, reduceIte]) (n := 5000) (by omega) (a := q) ⟨⟨fun _ => rfl, fun _ _ => rfl⟩, fun _ _ => rfl, no_lt⟩
  exact ⟨q', h2, h1⟩
