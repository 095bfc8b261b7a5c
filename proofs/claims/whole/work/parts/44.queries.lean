/-! one contract in two worlds; terms, and what is wrong -/
def Sit (a b : SS) (C : Cd) (K A : Nat) : Prop := WfC C ∧ RepX a C ∧ RepM b C ∧ Tabs a C (bt (gI b 26)) ∧ Stn K A ∧ gI a 60 = nI K ∧ gI a 61 = nI A ∧ gI b 24 = nI K ∧ gI b 25 = nI A ∧ gI a 62 = gI b 26 ∧ ∀ c, c < 32 → bt (gI b 26) c = true → c < cN C
theorem both_now {a b : SS} {C : Cd} {K A : Nat} (h : Sit a b C K A) : ∃ F, FX7_inForceNow a = some F ∧ FX8_now b = some F ∧ ∀ j, j < 32 → bt F j = inF C A (bt (gI b 26)) j := by
  obtain ⟨hC, ha, hb, hT, hs, k1, k2, k3, k4, k5, k6⟩ := h
  obtain ⟨F, e1, e2⟩ := x_inForce hC ha hT hs.2.1
  obtain ⟨G, e3, e4⟩ := m_forceBy hC hb A (sk := bt (gI b 26)) (fun c _ => rfl)
  have e : G = F := b_ext fun j hj => by rw [e2 j hj, e4 j hj]
  subst e
  exact ⟨G, by rw [FX7_inForceNow, k2, e1, ob_s], by rw [FX8_now, k4, e3, ob_s], e2⟩
theorem both_by {a b : SS} {C : Cd} {K A : Nat} (h : Sit a b C K A) {x : Nat} (hx : x < 64) : ∃ F, FX2_inForce a (nI x) = some F ∧ FX8_forceBy b (nI x) = some F ∧ ∀ j, j < 32 → bt F j = inF C x (bt (gI b 26)) j := by
  obtain ⟨hC, ha, hb, hT, hs, k1, k2, k3, k4, k5, k6⟩ := h
  obtain ⟨F, e1, e2⟩ := x_inForce hC ha hT hx
  obtain ⟨G, e3, e4⟩ := m_forceBy hC hb x (sk := bt (gI b 26)) (fun c _ => rfl)
  have e : G = F := b_ext fun j hj => by rw [e2 j hj, e4 j hj]
  subst e
  exact ⟨G, e1, e3, e2⟩
def iof (C : Cd) (S : Nat → Bool) (t k p : Nat) : Bool := S (cO C p) && (cK C p == k && cV C p == t)
theorem v_lt {C : Cd} (hC : WfC C) {p : Nat} (hp : p < cP C) : cV C p < 16 := by
  obtain ⟨w1, w2, -, -, w5⟩ := id hC
  obtain ⟨p1, p2, p3, p4⟩ := w5 p hp
  by_cases q : cK C p = 2
  · have := p3 q; omega
  · have := p4 q; omega
theorem x_iof {a : SS} {C : Cd} {sk : Nat → Bool} (hC : WfC C) (ha : RepX a C) (hT : Tabs a C sk) {p t k x : Nat} (hp : p < cP C) (ht : t < 2 ^ 30) (hk : k < 2 ^ 30) (hx : x < 64) : FX2_isInForce a (nI p) (nI k) (nI t) (nI x) = some (bI (iof C (inF C x sk) t k p)) := by
  obtain ⟨w1, w2, -, -, w5⟩ := id hC
  obtain ⟨p1, p2, p3, p4⟩ := w5 p hp
  obtain ⟨k1, k2, k3⟩ := ha.2.2.2.2 p hp
  have hv := v_lt hC hp
  have ci : Int32.toNatClampNeg (nI p) = p := nI_clamp (by omega)
  have g : inb (nI p) 30 = true := inb_n (by omega) (by omega)
  rw [FX2_isInForce, gd_t g, ci, k1, gd_t g, k2, gd_t g, k3, x_forceOf hC ha p2, ob_s, x_isSo a _ hx, ob_s, (hT x hx).1 _ p2]
  unfold iof
  by_cases c1 : cK C p = k
  · rw [if_pos (by rw [c1])]
    by_cases c2 : cV C p = t
    · rw [if_pos (by rw [c2]), c1, c2]
      cases inF C x sk (cO C p) with
      | false => rw [if_pos bI_f]; rfl
      | true => rw [if_neg bI_n]; simp [bI]
    · rw [if_neg (nI_ne (by omega) (by omega) c2), beq_ne c2]; simp [bI]
  · rw [if_neg (nI_ne (by omega) (by omega) c1), beq_ne c1]; simp [bI]
theorem x_countParts {a : SS} {C : Cd} {sk : Nat → Bool} (hC : WfC C) (ha : RepX a C) (hT : Tabs a C sk) {t k x : Nat} (ht : t < 2 ^ 30) (hk : k < 2 ^ 30) (hx : x < 64) : FX2_countParts a (nI k) (nI t) (nI x) = some (nI (ofn C (inF C x sk) t k (cP C))) := by
  have w2 := hC.2.1
  obtain ⟨r, h1, h2⟩ := lpk (fun n (v : Int32) i => FX2_countParts_L6 a (nI k) (nI t) (nI x) (fun u => some u) n v i) (cP C) (fun u => some u) (fun i v => v = nI (ofn C (inF C x sk) t k i)) (by
    intro n v h
    show FX2_countParts_L6 _ _ _ _ _ _ _ _ = _
    rw [FX2_countParts_L6, ha.2.1, if_pos (nI_le (Nat.le_refl _) (by omega))]) (by
    intro n i v hi h
    refine ⟨_, rfl, ?_⟩
    show FX2_countParts_L6 _ _ _ _ _ _ _ _ = FX2_countParts_L6 _ _ _ _ _ _ _ _
    rw [FX2_countParts_L6, ha.2.1, if_neg (nI_ge hi (by omega)), x_iof hC ha hT hi ht hk hx, ob_s, h, nI_1]
    have e : ofn C (inF C x sk) t k (i + 1) = ofn C (inF C x sk) t k i + (if iof C (inF C x sk) t k i then 1 else 0) := rfl
    rw [e]
    cases iof C (inF C x sk) t k i with
    | false => rw [if_pos bI_f]; rfl
    | true => rw [if_neg bI_n, show (1 : Int32) = nI 1 from rfl, nI_add]; rfl) (n := 5000) (by omega) (a := 0) rfl
  unfold FX2_countParts
  have h2 : FX2_countParts_L6 a (nI k) (nI t) (nI x) (fun u => some u) 5000 0 0 = some r := h2
  rw [h2, h1]
theorem x_firstDef {a : SS} {C : Cd} {sk : Nat → Bool} (hC : WfC C) (ha : RepX a C) (hT : Tabs a C sk) {t x : Nat} (ht : t < 2 ^ 30) (hx : x < 64) : FX2_firstDefinition a (nI t) (nI x) = some (fidx (iof C (inF C x sk) t 0) 0 (cP C)) := by
  have w2 := hC.2.1
  have h := lp (fun n (_ : Unit) i => FX2_firstDefinition_L2 a (nI t) (nI x) (some (-1)) n i) (cP C) (fun i _ => fidx (iof C (inF C x sk) t 0) 0 (cP C) = fidx (iof C (inF C x sk) t 0) i (cP C - i)) (fun r => r = some (fidx (iof C (inF C x sk) t 0) 0 (cP C))) (by
    intro n _ h
    show FX2_firstDefinition_L2 _ _ _ _ _ _ = _
    rw [FX2_firstDefinition_L2, ha.2.1, if_pos (nI_le (Nat.le_refl _) (by omega)), h, Nat.sub_self]; rfl) (by
    intro n i _ hi h
    have st : FX2_firstDefinition_L2 a (nI t) (nI x) (some (-1)) (n + 1) (nI i) = if bI (iof C (inF C x sk) t 0 i) = 0 then FX2_firstDefinition_L2 a (nI t) (nI x) (some (-1)) n (nI (i + 1)) else some (nI i) := by
      rw [FX2_firstDefinition_L2, ha.2.1, if_neg (nI_ge hi (by omega)), show (0 : Int32) = nI 0 from rfl, x_iof hC ha hT hi ht (by omega) hx, ob_s, nI_1]
    rw [fidx_s _ hi] at h
    cases hm : iof C (inF C x sk) t 0 i with
    | false => rw [hm] at h st; exact Or.inr ⟨(), h, st.trans (if_pos bI_f)⟩
    | true => rw [hm, if_pos rfl] at h; rw [hm] at st; exact Or.inl ((st.trans (if_neg bI_n)).trans (by rw [h]))) (cP C) 5000 0 () (by omega) (by omega) rfl
  exact h
theorem fidx_or (f : Nat → Bool) : ∀ m i, (fidx f i m = -1 ∧ ∀ k, i ≤ k → k < i + m → f k = false) ∨ ∃ k, i ≤ k ∧ k < i + m ∧ f k = true ∧ fidx f i m = nI k
  | 0, i => Or.inl ⟨rfl, fun k h1 h2 => absurd h2 (by omega)⟩
  | m + 1, i => by
    cases hf : f i with
    | true => exact Or.inr ⟨i, Nat.le_refl _, by omega, hf, by rw [fidx, hf]; rfl⟩
    | false =>
      have e : fidx f i (m + 1) = fidx f (i + 1) m := by rw [fidx, hf]; rfl
      rw [e]
      rcases fidx_or f m (i + 1) with ⟨h1, h2⟩ | ⟨k, h1, h2, h3, h4⟩
      · refine Or.inl ⟨h1, fun k h3 h4 => ?_⟩
        rcases Nat.lt_or_ge i k with c | c
        · exact h2 k c (by omega)
        · have e : k = i := by omega
          rw [e]; exact hf
      · exact Or.inr ⟨k, by omega, by omega, h3, h4⟩
theorem nI_m1 {k : Nat} (h : k < 2 ^ 31) : ¬ nI k = -1 := fun e => nI_pos h (by rw [e]; decide)
def own (C : Cd) (r : Int32) : Int32 := if r = -1 then -1 else nI (cO C (Int32.toNatClampNeg r))
theorem x_ownerOf {a : SS} {C : Cd} (hC : WfC C) (ha : RepX a C) (f : Nat → Bool) : FX0_ownerOf a (fidx f 0 (cP C)) = some (own C (fidx f 0 (cP C))) := by
  have w2 := hC.2.1
  rcases fidx_or f (cP C) 0 with ⟨h1, h2⟩ | ⟨k, h1, h2, h3, h4⟩
  · rw [h1]; rfl
  · rw [h4, FX0_ownerOf, if_neg (nI_pos (by omega)), ha.2.1, if_neg (nI_ge (by omega) (by omega)), gd_t (inb_n (by omega) (by omega)), nI_clamp (by omega), (ha.2.2.2.2 k (by omega)).2.2]
    unfold own
    rw [if_neg (nI_m1 (by omega)), nI_clamp (by omega)]
def idl (C : Cd) (S : Nat → Bool) : Nat := fb_ct (fun t => decide (0 < ofn C S t 0 (cP C)) && decide (ofn C S t 1 (cP C) = 0)) 8
theorem ofn_lt {C : Cd} (hC : WfC C) (S : Nat → Bool) (t k : Nat) : ofn C S t k (cP C) ≤ 30 := Nat.le_trans (fb_ct_le _ _) hC.2.1
theorem x_countIdle {a : SS} {C : Cd} {sk : Nat → Bool} (hC : WfC C) (ha : RepX a C) (hT : Tabs a C sk) {x : Nat} (hx : x < 64) : FX2_countIdle a (nI x) = some (nI (idl C (inF C x sk))) := by
  obtain ⟨r, h1, h2⟩ := lpk (fun n (v : Int32) i => FX2_countIdle_L4 a (nI x) (fun u => some u) n v i) 8 (fun u => some u) (fun i v => v = nI (fb_ct (fun t => decide (0 < ofn C (inF C x sk) t 0 (cP C)) && decide (ofn C (inF C x sk) t 1 (cP C) = 0)) i)) (by
    intro n v h
    show FX2_countIdle_L4 _ _ _ _ _ _ = _
    rw [FX2_countIdle_L4, if_pos (by decide)]) (by
    intro n i v hi h
    refine ⟨_, rfl, ?_⟩
    show FX2_countIdle_L4 _ _ _ _ _ _ = FX2_countIdle_L4 _ _ _ _ _ _
    have o0 := ofn_lt hC (inF C x sk) i 0
    have o1 := ofn_lt hC (inF C x sk) i 1
    have e0 : FX2_countParts a 0 (nI i) (nI x) = some (nI (ofn C (inF C x sk) i 0 (cP C))) := x_countParts hC ha hT (k := 0) (by omega) (by omega) hx
    have e1 : FX2_countParts a 1 (nI i) (nI x) = some (nI (ofn C (inF C x sk) i 1 (cP C))) := x_countParts hC ha hT (k := 1) (by omega) (by omega) hx
    rw [FX2_countIdle_L4, if_neg (by rw [show (8 : Int32) = nI 8 from rfl]; exact nI_ge hi (by omega)), e0, ob_s, e1, ob_s, h, nI_1, fb_ct_succ]
    by_cases c0 : 0 < ofn C (inF C x sk) i 0 (cP C)
    · rw [if_neg (show ¬ nI (ofn C (inF C x sk) i 0 (cP C)) ≤ 0 from nI_ge (a := 0) c0 (by omega)), decide_eq_true c0]
      by_cases c1 : ofn C (inF C x sk) i 1 (cP C) = 0
      · rw [if_pos (by rw [c1]; rfl), decide_eq_true c1, show (1 : Int32) = nI 1 from rfl, nI_add]; rfl
      · rw [if_neg (show ¬ nI (ofn C (inF C x sk) i 1 (cP C)) = 0 from nI_ne (b := 0) (by omega) (by omega) c1), decide_eq_false c1]; rfl
    · rw [if_pos (show nI (ofn C (inF C x sk) i 0 (cP C)) ≤ 0 from nI_le (b := 0) (by omega) (by omega)), decide_eq_false c0]; rfl) (n := 5000) (by omega) (a := 0) rfl
  unfold FX2_countIdle idl
  have h2 : FX2_countIdle_L4 a (nI x) (fun u => some u) 5000 0 0 = some r := h2
  rw [h2, h1]
theorem m_idle {b : SS} {C : Cd} (hC : WfC C) (hb : RepM b C) (s : Int32) : FX8_idle b s = some (nI (idl C (bt s))) := by
  obtain ⟨r, h1, h2⟩ := lpk (fun n (v : Int32) i => FX8_idle_L4 b s (fun u => some u) n v i) 8 (fun u => some u) (fun i v => v = nI (fb_ct (fun t => decide (0 < ofn C (bt s) t 0 (cP C)) && decide (ofn C (bt s) t 1 (cP C) = 0)) i)) (by
    intro n v h
    show FX8_idle_L4 _ _ _ _ _ _ = _
    rw [FX8_idle_L4, if_pos (by decide)]) (by
    intro n i v hi h
    refine ⟨_, rfl, ?_⟩
    show FX8_idle_L4 _ _ _ _ _ _ = FX8_idle_L4 _ _ _ _ _ _
    have o0 := ofn_lt hC (bt s) i 0
    have o1 := ofn_lt hC (bt s) i 1
    have e0 : FX8_often b s (nI i) 0 (nI (cP C)) = some (nI (ofn C (bt s) i 0 (cP C))) := m_often hC hb s (k := 0) (by omega) (by omega) (Nat.le_refl _)
    have e1 : FX8_often b s (nI i) 1 (nI (cP C)) = some (nI (ofn C (bt s) i 1 (cP C))) := m_often hC hb s (k := 1) (by omega) (by omega) (Nat.le_refl _)
    rw [FX8_idle_L4, if_neg (by rw [show (8 : Int32) = nI 8 from rfl]; exact nI_ge hi (by omega)), hb.2.1, e0, ob_s, e1, ob_s, h, nI_1, fb_ct_succ]
    by_cases c0 : 0 < ofn C (bt s) i 0 (cP C)
    · rw [if_neg (show ¬ nI (ofn C (bt s) i 0 (cP C)) ≤ 0 from nI_ge (a := 0) c0 (by omega)), decide_eq_true c0]
      by_cases c1 : ofn C (bt s) i 1 (cP C) = 0
      · rw [if_pos (by rw [c1]; rfl), decide_eq_true c1, show (1 : Int32) = nI 1 from rfl, nI_add]; rfl
      · rw [if_neg (show ¬ nI (ofn C (bt s) i 1 (cP C)) = 0 from nI_ne (b := 0) (by omega) (by omega) c1), decide_eq_false c1, Int32.add_zero]; rfl
    · rw [if_pos (show nI (ofn C (bt s) i 0 (cP C)) ≤ 0 from nI_le (b := 0) (by omega) (by omega)), decide_eq_false c0, Int32.add_zero]; rfl) (n := 5000) (by omega) (a := 0) rfl
  unfold FX8_idle idl
  have h2 : FX8_idle_L4 b s (fun u => some u) 5000 0 0 = some r := h2
  rw [h2, h1]
theorem ofn_cong {C : Cd} (hC : WfC C) {S T : Nat → Bool} (h : ∀ j, j < cN C → S j = T j) (t k : Nat) : ofn C S t k (cP C) = ofn C T t k (cP C) := by
  unfold ofn
  exact fb_ct_cong fun p hp => by rw [h _ (hC.2.2.2.2 p hp).2.1]
theorem idl_cong {C : Cd} (hC : WfC C) {S T : Nat → Bool} (h : ∀ j, j < cN C → S j = T j) : idl C S = idl C T := by
  unfold idl
  exact fb_ct_cong fun t _ => by rw [ofn_cong hC h, ofn_cong hC h]
theorem x_hangsOn {a : SS} {C : Cd} {sk : Nat → Bool} (hT : Tabs a C sk) {t x : Nat} (ht : t < 8) (hx : x < 64) : ∃ r, FX2_hangsOn a (nI t) (nI x) = some r ∧ ∀ o, o < 32 → bt r o = (decide (o < 8) && hng C (inF C x sk) t o) := by
  obtain ⟨r, h1, h2⟩ := lpk (fun n (q : Int32) i => FX2_hangsOn_L5 a (nI t) (nI x) (fun u => some u) n q i) 8 (fun u => some u) (fun i q => ∀ o, o < 32 → bt q o = (decide (o < i) && hng C (inF C x sk) t o)) (by
    intro n q _
    show FX2_hangsOn_L5 _ _ _ _ _ _ _ = _
    rw [FX2_hangsOn_L5, if_pos (by decide)]) (by
    intro n i q hi e
    refine ⟨_, bt_put (by omega) e rfl, ?_⟩
    show FX2_hangsOn_L5 _ _ _ _ _ _ _ = FX2_hangsOn_L5 _ _ _ _ _ _ _
    rw [FX2_hangsOn_L5, if_neg (by rw [show (8 : Int32) = nI 8 from rfl]; exact nI_ge hi (by omega)), ix8 ht hi, gd_t (inb_n (by omega) (by omega)), nI_clamp (by omega), x_isSo a _ hx, ob_s, (hT x hx).2.2.1 t ht i hi, nI_1]
    cases hng C (inF C x sk) t i with
    | false => rw [if_pos bI_f]; rfl
    | true => rw [if_neg bI_n]; rfl) (n := 5000) (by omega) (a := 0) (fun o _ => by rw [b_0]; simp)
  exact ⟨r, h2, h1⟩
