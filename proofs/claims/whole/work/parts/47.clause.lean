/-! a clause, a part, a number -/
theorem depF_e {C : Cd} (hC : WfC C) : ∀ n m c, c < n → c < m → c < cN C → depF C n c = depF C m c
  | 0, _, _, h, _, _ => absurd h (Nat.not_lt_zero _)
  | _, 0, _, _, h, _ => absurd h (Nat.not_lt_zero _)
  | n + 1, m + 1, c, h1, h2, h3 => by
    rw [depF, depF]
    cases ha : cA C c with
    | none => rfl
    | some d =>
      have := hC.2.2.1 c h3 d ha
      show depF C n d + 1 = depF C m d + 1
      rw [depF_e hC n m d (by omega) (by omega) (by omega)]
theorem dep_s {C : Cd} (hC : WfC C) {c d : Nat} (hc : c < cN C) (h : cA C c = some d) : dep C c = dep C d + 1 := by
  have w1 := hC.1
  have := hC.2.2.1 c hc d h
  unfold dep
  rw [depF, h, depF_e hC 17 16 d (by omega) (by omega) (by omega)]
theorem dep_n {C : Cd} {c : Nat} (h : cA C c = none) : dep C c = 0 := by unfold dep; rw [depF, h]
theorem dep_le {C : Cd} (hC : WfC C) : ∀ n c, c < n → c < cN C → dep C c ≤ c
  | 0, _, h, _ => absurd h (Nat.not_lt_zero _)
  | n + 1, c, h, hc => by
    cases ha : cA C c with
    | none => rw [dep_n ha]; omega
    | some d =>
      have := hC.2.2.1 c hc d ha
      rw [dep_s hC hc ha]
      have := dep_le hC n d (by omega) (by omega)
      omega
theorem m_dep9 {b : SS} {C : Cd} (hC : WfC C) (hb : RepM b C) (k : Int32 → Option Int32) : ∀ n m c v, c < n → c < cN C → c + 2 ≤ m → FX8_depthOf_L9 b k m (nI v) (oI (cA C c)) = k (nI (v + dep C c))
  | 0, _, _, _, h, _, _ => absurd h (Nat.not_lt_zero _)
  | n + 1, m, c, v, h, hc, hm => by
    have w1 := hC.1
    obtain ⟨m, rfl⟩ : ∃ z, m = z + 1 := ⟨m - 1, by omega⟩
    cases ha : cA C c with
    | none => rw [dep_n ha, FX8_depthOf_L9, if_pos (show oI none = -1 from rfl)]; rfl
    | some d =>
      have dc := hC.2.2.1 c hc d ha
      rw [FX8_depthOf_L9]
      show (if nI d = -1 then _ else _) = _
      rw [if_neg (nI_m1 (by omega))]
      show gd (inb (nI d) 16) (FX8_depthOf_L9 b k m (nI v + 1) (gA b 4 (Int32.toNatClampNeg (nI d)))) = _
      rw [gd_t (inb_n (by omega) (by omega)), nI_clamp (by omega), (hb.2.2.1 d (by omega)).1, nI_1, m_dep9 hC hb k n m d (v + 1) (by omega) (by omega) (by omega), dep_s hC hc ha]
      congr 2; omega
theorem m_depth {b : SS} {C : Cd} (hC : WfC C) (hb : RepM b C) {c : Nat} (hc : c < cN C) : FX8_depthOf b (nI c) = some (nI (dep C c)) := by
  have w1 := hC.1
  rw [FX8_depthOf, gd_t (inb_n (by omega) (by omega)), nI_clamp (by omega), (hb.2.2.1 c hc).1]
  have h := m_dep9 hC hb (fun u4 => some u4) 17 5000 c 0 (by omega) hc (by omega)
  rw [Nat.zero_add] at h
  exact h
theorem oI_eq {C : Cd} (hC : WfC C) {c j : Nat} (hj : j < cN C) (hc : c < 2 ^ 31) : oI (cA C j) = nI c ↔ cA C j = some c := by
  have w1 := hC.1
  cases ha : cA C j with
  | none => exact ⟨fun e => absurd e.symm (nI_m1 hc), fun e => by cases e⟩
  | some d =>
    have := hC.2.2.1 j hj d ha
    exact ⟨fun e => by rw [(nI_eq (by omega) hc).mp e], fun e => by cases e; rfl⟩
theorem x_within {a : SS} {C : Cd} (hC : WfC C) (ha : RepX a C) {c : Nat} (hc : c < cN C) : ∃ r, FX0_within a (nI c) = some r ∧ ∀ o, o < 32 → bt r o = (decide (o < cN C) && decide (cA C o = some c)) := by
  have w1 := hC.1
  obtain ⟨r, h1, h2⟩ := lpk (fun n (q : Int32) i => FX0_within_L4 a (nI c) (fun u => some u) n q i) (cN C) (fun u => some u) (fun i q => ∀ o, o < 32 → bt q o = (decide (o < i) && decide (cA C o = some c))) (by
    intro n q _
    show FX0_within_L4 _ _ _ _ _ _ = _
    rw [FX0_within_L4, ha.1, if_pos (nI_le (Nat.le_refl _) (by omega))]) (by
    intro n i q hi e
    refine ⟨_, bt_put (by omega) e rfl, ?_⟩
    show FX0_within_L4 _ _ _ _ _ _ = FX0_within_L4 _ _ _ _ _ _
    rw [FX0_within_L4, ha.1, if_neg (nI_ge hi (by omega)), gd_t (inb_n (by omega) (by omega)), nI_clamp (by omega), (ha.2.2.2.1 i hi).1, nI_1]
    by_cases z : cA C i = some c
    · rw [if_pos ((oI_eq hC hi (by omega)).mpr z), decide_eq_true z]; rfl
    · rw [if_neg (fun y => z ((oI_eq hC hi (by omega)).mp y)), decide_eq_false z]; rfl) (n := 5000) (by omega) (a := 0) (fun o _ => by rw [b_0]; simp)
  exact ⟨r, h2, h1⟩
theorem m_within {b : SS} {C : Cd} (hC : WfC C) (hb : RepM b C) {c : Nat} (hc : c < cN C) : ∃ r, FX8_clause_L84 b (nI c) (fun u13 => some u13) 5000 0 0 = some r ∧ ∀ o, o < 32 → bt r o = (decide (o < cN C) && decide (cA C o = some c)) := by
  have w1 := hC.1
  obtain ⟨r, h1, h2⟩ := lpk (fun n (q : Int32) i => FX8_clause_L84 b (nI c) (fun u => some u) n q i) (cN C) (fun u => some u) (fun i q => ∀ o, o < 32 → bt q o = (decide (o < i) && decide (cA C o = some c))) (by
    intro n q _
    show FX8_clause_L84 _ _ _ _ _ _ = _
    rw [FX8_clause_L84, hb.1, if_pos (nI_le (Nat.le_refl _) (by omega))]) (by
    intro n i q hi e
    refine ⟨_, bt_put (by omega) e rfl, ?_⟩
    show FX8_clause_L84 _ _ _ _ _ _ = FX8_clause_L84 _ _ _ _ _ _
    rw [FX8_clause_L84, hb.1, if_neg (nI_ge hi (by omega)), gd_t (inb_n (by omega) (by omega)), nI_clamp (by omega), (hb.2.2.1 i hi).1, nI_1, Int32.or_zero]
    by_cases z : cA C i = some c
    · rw [if_pos ((oI_eq hC hi (by omega)).mpr z), decide_eq_true z]; rfl
    · rw [if_neg (fun y => z ((oI_eq hC hi (by omega)).mp y)), decide_eq_false z]; rfl) (n := 5000) (by omega) (a := 0) (fun o _ => by rw [b_0]; simp)
  exact ⟨r, h2, h1⟩
theorem x_ownParts {a : SS} {C : Cd} (hC : WfC C) (ha : RepX a C) {c : Nat} (hc : c < cN C) : FX0_countOwnParts a (nI c) = some (nI (fb_ct (fun p => cO C p == c) (cP C))) := by
  have w1 := hC.1
  have w2 := hC.2.1
  obtain ⟨r, h1, h2⟩ := lpk (fun n (q : Int32) i => FX0_countOwnParts_L4 a (nI c) (fun u => some u) n q i) (cP C) (fun u => some u) (fun i q => q = nI (fb_ct (fun p => cO C p == c) i)) (by
    intro n q _
    show FX0_countOwnParts_L4 _ _ _ _ _ _ = _
    rw [FX0_countOwnParts_L4, ha.2.1, if_pos (nI_le (Nat.le_refl _) (by omega))]) (by
    intro n i q hi e
    refine ⟨_, rfl, ?_⟩
    show FX0_countOwnParts_L4 _ _ _ _ _ _ = FX0_countOwnParts_L4 _ _ _ _ _ _
    have := (hC.2.2.2.2 i hi).2.1
    rw [FX0_countOwnParts_L4, ha.2.1, if_neg (nI_ge hi (by omega)), gd_t (inb_n (by omega) (by omega)), nI_clamp (by omega), (ha.2.2.2.2 i hi).2.2, nI_1, e, fb_ct_succ]
    by_cases z : cO C i = c
    · rw [if_pos (by rw [z]), z, beq_self_eq_true, show (1 : Int32) = nI 1 from rfl, nI_add]; rfl
    · rw [if_neg (nI_ne (by omega) (by omega) z), beq_ne z]; rfl) (n := 5000) (by omega) (a := 0) rfl
  rw [FX0_countOwnParts, ← h1]
  exact h2
theorem m_ownParts {b : SS} {C : Cd} (hC : WfC C) (hb : RepM b C) {c : Nat} (hc : c < cN C) : FX8_clause_L147 b (nI c) (fun u24 => some u24) 5000 0 0 = some (nI (fb_ct (fun p => cO C p == c) (cP C))) := by
  have w1 := hC.1
  have w2 := hC.2.1
  obtain ⟨r, h1, h2⟩ := lpk (fun n (q : Int32) i => FX8_clause_L147 b (nI c) (fun u => some u) n q i) (cP C) (fun u => some u) (fun i q => q = nI (fb_ct (fun p => cO C p == c) i)) (by
    intro n q _
    show FX8_clause_L147 _ _ _ _ _ _ = _
    rw [FX8_clause_L147, hb.2.1, if_pos (nI_le (Nat.le_refl _) (by omega))]) (by
    intro n i q hi e
    refine ⟨_, rfl, ?_⟩
    show FX8_clause_L147 _ _ _ _ _ _ = FX8_clause_L147 _ _ _ _ _ _
    have := (hC.2.2.2.2 i hi).2.1
    rw [FX8_clause_L147, hb.2.1, if_neg (nI_ge hi (by omega)), gd_t (inb_n (by omega) (by omega)), nI_clamp (by omega), (hb.2.2.2 i hi).1, nI_1, e, fb_ct_succ]
    by_cases z : cO C i = c
    · rw [if_pos (by rw [z]), z, beq_self_eq_true, show (1 : Int32) = nI 1 from rfl, nI_add]; rfl
    · rw [if_neg (nI_ne (by omega) (by omega) z), beq_ne z, Int32.add_zero]; rfl) (n := 5000) (by omega) (a := 0) rfl
  rw [← h1]
  exact h2
theorem m_refs {b : SS} {C : Cd} (hC : WfC C) (hb : RepM b C) {c : Nat} (hc : c < cN C) : ∃ r, FX8_clause_L221 b (nI c) (fun u43 => some u43) 5000 0 0 = some r ∧ ∀ o, o < 32 → bt r o = refd C c o := by
  have w1 := hC.1
  have w2 := hC.2.1
  obtain ⟨r, h1, h2⟩ := lpk (fun n (q : Int32) i => FX8_clause_L221 b (nI c) (fun u => some u) n q i) (cP C) (fun u => some u) (fun i q => ∀ o, o < 32 → bt q o = anyB (fun p => cK C p == 2 && (cV C p == c && cO C p == o)) i) (by
    intro n q _
    show FX8_clause_L221 _ _ _ _ _ _ = _
    rw [FX8_clause_L221, hb.2.1, if_pos (nI_le (Nat.le_refl _) (by omega))]) (by
    intro n i q hi e
    obtain ⟨p1, p2, p3, p4⟩ := hC.2.2.2.2 i hi
    obtain ⟨o1, o2, o3⟩ := hb.2.2.2 i hi
    have hv := v_lt hC hi
    have g : inb (nI i) 30 = true := inb_n (by omega) (by omega)
    have st : FX8_clause_L221 b (nI c) (fun u => some u) (n + 1) q (nI i) = if cK C i = 2 ∧ cV C i = c then FX8_clause_L221 b (nI c) (fun u => some u) n (q ||| jshl 1 (nI (cO C i))) (nI (i + 1)) else FX8_clause_L221 b (nI c) (fun u => some u) n q (nI (i + 1)) := by
      rw [FX8_clause_L221, hb.2.1, if_neg (nI_ge hi (by omega)), gd_t g, gd_t g, gd_t g, bd_e, nI_clamp (by omega), o1, o2, o3, nI_1, Int32.or_zero]
      by_cases z1 : cK C i = 2
      · rw [if_pos (show nI (cK C i) = 2 by rw [z1]; rfl)]
        by_cases z2 : cV C i = c
        · rw [if_pos (by rw [z2]), if_pos ⟨z1, z2⟩]
        · rw [if_neg (nI_ne (by omega) (by omega) z2), if_neg (fun y => z2 y.2)]
      · rw [if_neg (show ¬ nI (cK C i) = 2 from nI_ne (b := 2) (by omega) (by omega) z1), if_neg (fun y => z1 y.1)]
    by_cases z : cK C i = 2 ∧ cV C i = c
    · refine ⟨_, fun o ho => ?_, st.trans (if_pos z)⟩
      rw [b_or, e o ho, b_one (by omega) ho, anyB, z.1, z.2]
      congr 1
      by_cases y : cO C i = o
      · simp [y]
      · simp [y, show ¬ o = cO C i from fun w => y w.symm]
    · refine ⟨q, fun o ho => ?_, st.trans (if_neg z)⟩
      rw [e o ho, anyB]
      have : (cK C i == 2 && (cV C i == c && cO C i == o)) = false := by
        by_cases z1 : cK C i = 2
        · by_cases z2 : cV C i = c
          · exact absurd ⟨z1, z2⟩ z
          · rw [beq_ne z2]; simp
        · rw [beq_ne z1]; rfl
      rw [this, Bool.or_false]) (n := 5000) (by omega) (a := 0) (fun o _ => by rw [b_0]; rfl)
  exact ⟨r, h2, h1⟩
theorem a_clause {a b : SS} {C : Cd} {K A : Nat} (h : Sit a b C K A) (x0 x1 : Int32) : ∃ r, FX7_clause a x0 x1 = some r ∧ FX8_clause b x0 x1 = some r := by
  obtain ⟨F, e1, e2, e3⟩ := both_now h
  obtain ⟨hC, ha, hb, hT, hs, k1, k2, k3, k4, k5, k6⟩ := h
  have w1 := hC.1
  rw [FX7_clause, FX8_clause]
  rcases both_is hC ha hb x0 with ⟨i1, i2⟩ | ⟨c, hc, i0, i1, i2⟩
  · rw [i1, i2, ob_s, ob_s, if_pos rfl, if_pos rfl]; exact ⟨_, rfl, rfl⟩
  rw [i1, i2, ob_s, ob_s, if_neg (show ¬ (1 : Int32) = 0 by decide), if_neg (show ¬ (1 : Int32) = 0 by decide), i0]
  have g : inb (nI c) 16 = true := inb_n (by omega) (by omega)
  have ci : Int32.toNatClampNeg (nI c) = c := nI_clamp (by omega)
  obtain ⟨r1, r2, r3, r4, r5, r6⟩ := ha.2.2.2.1 c hc
  obtain ⟨q1, q2, q3, q4⟩ := hb.2.2.1 c hc
  by_cases c0 : x1 = 0
  · rw [if_pos c0, if_pos c0, gd_t g, gd_t g, ci, r1, q1]; exact ⟨_, rfl, rfl⟩
  rw [if_neg c0, if_neg c0]
  by_cases c1 : x1 = 1
  · rw [if_pos c1, if_pos c1, gd_t g, ci, r2, m_depth hC hb hc, ob_s]; exact ⟨_, rfl, rfl⟩
  rw [if_neg c1, if_neg c1]
  by_cases c2 : x1 = 2
  · rw [if_pos c2, if_pos c2]
    obtain ⟨r, g1, g2⟩ := x_within hC ha hc
    obtain ⟨s, g3, g4⟩ := m_within hC hb hc
    have e : s = r := b_ext fun o ho => by rw [g2 o ho, g4 o ho]
    subst e
    exact ⟨s, by rw [g1, ob_s], g3⟩
  rw [if_neg c2, if_neg c2]
  by_cases c3 : x1 = 3
  · rw [if_pos c3, if_pos c3, gd_t g, gd_t g, ci, r3, q2]; exact ⟨_, rfl, rfl⟩
  rw [if_neg c3, if_neg c3]
  by_cases c4 : x1 = 4
  · rw [if_pos c4, if_pos c4, gd_t g, gd_t g, ci, r4, q3]; exact ⟨_, rfl, rfl⟩
  rw [if_neg c4, if_neg c4]
  by_cases c5 : x1 = 5
  · rw [if_pos c5, if_pos c5, gd_t g, ci, q4, x_has a _ (by omega : c < 32), ob_s, ha.2.2.1 c hc]
    cases cC C c
    · exact ⟨0, rfl, rfl⟩
    · exact ⟨1, rfl, rfl⟩
  rw [if_neg c5, if_neg c5]
  by_cases c6 : x1 = 6
  · rw [if_pos c6, if_pos c6, x_ownParts hC ha hc, ob_s, m_ownParts hC hb hc]; exact ⟨_, rfl, rfl⟩
  rw [if_neg c6, if_neg c6]
  by_cases c7 : x1 = 7
  · obtain ⟨t, g1, g2⟩ := x_holds hC ha hc
    rw [if_pos c7, if_pos c7, g1, ob_s, k2, x_isSo a _ hs.2.1, ob_s, g2 A hs.2.1, k4, m_holds hC hb hc]
    cases hold C A c
    · exact ⟨0, rfl, rfl⟩
    · exact ⟨1, rfl, rfl⟩
  rw [if_neg c7, if_neg c7]
  by_cases c8 : x1 = 8
  · rw [if_pos c8, if_pos c8, e1, ob_s, e2, ob_s, x_has a _ (by omega : c < 32), m_has b _ (by omega : c < 32), ob_s]
    cases bt F c
    · exact ⟨0, rfl, rfl⟩
    · exact ⟨1, rfl, rfl⟩
  rw [if_neg c8, if_neg c8]
  by_cases c9 : x1 = 9
  · obtain ⟨s, g3, g4⟩ := m_refs hC hb hc
    have e : s = gA a 47 c := b_ext fun o ho => by rw [g4 o ho, r5 o ho]
    rw [if_pos c9, if_pos c9, gd_t g, ci, g3, e]; exact ⟨_, rfl, rfl⟩
  rw [if_neg c9, if_neg c9]
  exact ⟨_, rfl, rfl⟩
