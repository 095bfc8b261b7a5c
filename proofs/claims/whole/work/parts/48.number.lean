/-! a clause's number, a clause's own parts -/
theorem nI_dec (n : Nat) : nI (n + 1) + -1 = nI n := by rw [← nI_1, Int32.add_assoc, show (1 : Int32) + -1 = 0 from rfl, Int32.add_zero]
theorem inF_pf {C : Cd} (hC : WfC C) (x : Nat) (sk : Nat → Bool) : ∀ k c, c < cN C → rds (one C x sk) (cN C) k c = true → one C x sk (rds (one C x sk) (cN C) k) c = true
  | 0, _, _, h => by cases h
  | k + 1, c, hc, h => swp_pf (f := one C x sk) (n := cN C) (one_mono hC) (fun c hc h => inF_pf hC x sk k c hc h) (Nat.le_refl _) c hc h
theorem inF_up {C : Cd} (hC : WfC C) {x : Nat} {sk : Nat → Bool} {c d : Nat} (hc : c < cN C) (ha : cA C c = some d) (h : inF C x sk c = true) : inF C x sk d = true := by
  have := inF_pf hC x sk _ c hc h
  unfold one at this
  rw [ha] at this
  simp only [Bool.and_eq_true] at this
  exact this.2.2.1
def ancF (C : Cd) (l : Nat) : Nat → Nat → Nat
  | 0, c => c
  | n + 1, c => if dep C c ≤ l then c else match cA C c with
    | none => c
    | some d => ancF C l n d
theorem anc_in {C : Cd} (hC : WfC C) {x : Nat} {sk : Nat → Bool} (l : Nat) : ∀ n c, c < cN C → inF C x sk c = true → ancF C l n c < cN C ∧ inF C x sk (ancF C l n c) = true
  | 0, c, hc, h => ⟨hc, h⟩
  | n + 1, c, hc, h => by
    rw [ancF]
    by_cases z : dep C c ≤ l
    · rw [if_pos z]; exact ⟨hc, h⟩
    · rw [if_neg z]
      cases ha : cA C c with
      | none => exact ⟨hc, h⟩
      | some d =>
        have := hC.2.2.1 c hc d ha
        exact anc_in hC l n d (by omega) (inF_up hC hc ha h)
theorem x_around {a : SS} {C : Cd} (hC : WfC C) (ha : RepX a C) {l : Nat} (hl : l < 2 ^ 31) (k : Int32 → Option Int32) : ∀ n m c i, c < n → c < cN C → c + i < 16 → c < m → FX0_aroundAt_L5 a (nI l) k m (nI c) (nI i) = k (nI (ancF C l n c))
  | 0, _, _, _, h, _, _, _ => absurd h (Nat.not_lt_zero _)
  | n + 1, m, c, i, h, hc, hi, hm => by
    have w1 := hC.1
    obtain ⟨m, rfl⟩ : ∃ z, m = z + 1 := ⟨m - 1, by omega⟩
    have g : inb (nI c) 16 = true := inb_n (by omega) (by omega)
    have dl := dep_le hC (c + 1) c (by omega) hc
    rw [FX0_aroundAt_L5, if_neg (show ¬ (16 : Int32) ≤ nI i from nI_ge (b := 16) (by omega) (by omega)), if_neg (nI_pos (by omega)), ha.1, if_neg (nI_ge hc (by omega)), gd_t g, gd_t g, nI_clamp (by omega), (ha.2.2.2.1 c hc).2.1, (ha.2.2.2.1 c hc).1, nI_1, ancF]
    by_cases z : dep C c ≤ l
    · rw [if_pos z, if_pos (nI_le z hl)]
    · rw [if_neg z, if_neg (nI_ge (by omega) (by omega))]
      cases hd : cA C c with
      | none => rw [dep_n hd] at z; omega
      | some d =>
        have := hC.2.2.1 c hc d hd
        exact x_around hC ha hl k n m d (i + 1) (by omega) (by omega) (by omega) (by omega)
theorem m_upTo {b : SS} {C : Cd} (hC : WfC C) (hb : RepM b C) {l : Nat} (hl : l < 2 ^ 31) (k : Int32 → Option Int32) : ∀ n m c, c < n → c < cN C → c < m → FX8_upTo_L9 b (nI l) k m (nI c) (nI (dep C c)) = k (nI (ancF C l n c))
  | 0, _, _, h, _, _ => absurd h (Nat.not_lt_zero _)
  | n + 1, m, c, h, hc, hm => by
    have w1 := hC.1
    obtain ⟨m, rfl⟩ : ∃ z, m = z + 1 := ⟨m - 1, by omega⟩
    have g : inb (nI c) 16 = true := inb_n (by omega) (by omega)
    have dl := dep_le hC (c + 1) c (by omega) hc
    rw [FX8_upTo_L9, gd_t g, nI_clamp (by omega), (hb.2.2.1 c hc).1, ancF]
    by_cases z : dep C c ≤ l
    · rw [if_pos z, if_pos (nI_le z hl)]
    · rw [if_neg z, if_neg (nI_ge (by omega) (by omega))]
      cases hd : cA C c with
      | none => rw [dep_n hd] at z; omega
      | some d =>
        have := hC.2.2.1 c hc d hd
        rw [dep_s hC hc hd, nI_dec]
        exact m_upTo hC hb hl k n m d (by omega) (by omega) (by omega)
def sib (C : Cd) (F : Int32) (c j : Nat) : Bool := decide (oI (cA C j) = oI (cA C c)) && bt F j
theorem x_place {a : SS} {C : Cd} (hC : WfC C) (ha : RepX a C) (F : Int32) {c : Nat} (hc : c < cN C) : FX0_place a (nI c) F = some (nI (fb_ct (sib C F c) (c + 1))) := by
  have w1 := hC.1
  obtain ⟨r, h1, h2⟩ := lpk (fun n (q : Int32) i => FX0_place_L19 a (nI c) F (fun u => some u) n q i) (c + 1) (fun u => some u) (fun i q => q = nI (fb_ct (sib C F c) i)) (by
    intro n q _
    show FX0_place_L19 _ _ _ _ _ _ _ = _
    rw [FX0_place_L19, if_pos (nI_lt (Nat.lt_succ_self _) (by omega))]) (by
    intro n i q hi e
    refine ⟨_, rfl, ?_⟩
    show FX0_place_L19 _ _ _ _ _ _ _ = FX0_place_L19 _ _ _ _ _ _ _
    rw [FX0_place_L19, if_neg (nI_nlt (by omega) (by omega)), gd_t (inb_n (by omega) (by omega)), gd_t (inb_n (by omega) (by omega)), nI_clamp (by omega), nI_clamp (by omega), (ha.2.2.2.1 i (by omega)).1, (ha.2.2.2.1 c hc).1, x_has a _ (by omega : i < 32), ob_s, nI_1, e, fb_ct_succ]
    unfold sib
    by_cases z : oI (cA C i) = oI (cA C c)
    · rw [if_pos z, decide_eq_true z]
      cases bt F i with
      | false => rw [if_pos bI_f]; rfl
      | true => rw [if_neg bI_n, show (1 : Int32) = nI 1 from rfl, nI_add]; rfl
    · rw [if_neg z, decide_eq_false z]; rfl) (n := 5000) (by omega) (a := 0) rfl
  rw [FX0_place, if_neg (nI_pos (by omega)), ha.1, if_pos (nI_lt hc (by omega)), ← h1]
  exact h2
theorem m_place {b : SS} {C : Cd} (hC : WfC C) (hb : RepM b C) (F : Int32) {c : Nat} (hc : c < cN C) : FX8_placeOf b F (nI c) = some (nI (1 + fb_ct (sib C F c) c)) := by
  have w1 := hC.1
  obtain ⟨r, h1, h2⟩ := lpk (fun n (q : Int32) i => FX8_placeOf_L5 b F (nI c) (fun u => some u) n q i) c (fun u => some u) (fun i q => q = nI (1 + fb_ct (sib C F c) i)) (by
    intro n q _
    show FX8_placeOf_L5 _ _ _ _ _ _ _ = _
    rw [FX8_placeOf_L5, if_pos (nI_le (Nat.le_refl _) (by omega))]) (by
    intro n i q hi e
    refine ⟨_, rfl, ?_⟩
    show FX8_placeOf_L5 _ _ _ _ _ _ _ = FX8_placeOf_L5 _ _ _ _ _ _ _
    rw [FX8_placeOf_L5, if_neg (nI_ge hi (by omega)), m_has b _ (by omega : i < 32), ob_s, gd_t (inb_n (by omega) (by omega)), gd_t (inb_n (by omega) (by omega)), nI_clamp (by omega), nI_clamp (by omega), (hb.2.2.1 i (by omega)).1, (hb.2.2.1 c hc).1, nI_1, e, fb_ct_succ]
    unfold sib
    cases bt F i with
    | false => rw [if_pos bI_f, Int32.add_zero]; simp
    | true =>
      rw [if_neg bI_n]
      by_cases z : oI (cA C i) = oI (cA C c)
      · rw [if_pos z, decide_eq_true z, show (1 : Int32) = nI 1 from rfl, nI_add]; rfl
      · rw [if_neg z, decide_eq_false z, Int32.add_zero]; rfl) (n := 5000) (by omega) (a := 1) rfl
  rw [FX8_placeOf, ← h1]
  exact h2
theorem a_number {a b : SS} {C : Cd} {K A : Nat} (h : Sit a b C K A) (x0 x1 : Int32) : ∃ r, FX7_number a x0 x1 = some r ∧ FX8_number b x0 x1 = some r := by
  obtain ⟨F, e1, e2, e3⟩ := both_now h
  obtain ⟨hC, ha, hb, hT, hs, k1, k2, k3, k4, k5, k6⟩ := h
  have w1 := hC.1
  rw [FX7_number, FX8_number]
  rcases both_is hC ha hb x0 with ⟨i1, i2⟩ | ⟨c, hc, i0, i1, i2⟩
  · rw [i1, i2, ob_s, ob_s, if_pos rfl, if_pos rfl]; exact ⟨_, rfl, rfl⟩
  rw [i1, i2, ob_s, ob_s, if_neg (show ¬ (1 : Int32) = 0 by decide), if_neg (show ¬ (1 : Int32) = 0 by decide), i0]
  by_cases z : 0 ≤ x1
  · obtain ⟨l, l1, l2⟩ := nI_of (x := x1) (Int32.not_lt.mpr z)
    rw [if_pos z, if_pos z, e1, ob_s, e2, ob_s, x_has a _ (by omega : c < 32), m_has b _ (by omega : c < 32), ob_s, ob_s, l2]
    have dl := dep_le hC (c + 1) c (by omega) hc
    cases hF : bt F c with
    | false => rw [if_pos bI_f, if_pos bI_f]; exact ⟨_, rfl, rfl⟩
    | true =>
      rw [if_neg bI_n, if_neg bI_n, gd_t (inb_n (by omega) (by omega)), nI_clamp (by omega), (ha.2.2.2.1 c hc).2.1, m_depth hC hb hc, ob_s]
      rcases Nat.lt_or_ge (dep C c) l with y | y
      · rw [if_neg (nI_ge y l1), if_pos (nI_lt y l1)]; exact ⟨_, rfl, rfl⟩
      · rw [if_pos (nI_le y (by omega)), if_neg (nI_nlt y (by omega))]
        have f1 : inF C A (bt (gI b 26)) c = true := by rw [← e3 c (by omega)]; exact hF
        obtain ⟨q1, q2⟩ := anc_in hC l 17 c hc f1
        have x1 : FX0_aroundAt a (nI c) (nI l) = some (nI (ancF C l 17 c)) := by
          rw [FX0_aroundAt]
          exact x_around hC ha l1 (fun u7 => some u7) 17 5000 c 0 (by omega) hc (by omega) (by omega)
        have m1 : FX8_upTo b (nI c) (nI l) = some (nI (ancF C l 17 c)) := by
          rw [FX8_upTo, m_depth hC hb hc, ob_s]
          exact m_upTo hC hb l1 (fun u5 => some u5) 17 5000 c (by omega) hc (by omega)
        rw [x1, ob_s, m1, ob_s, x_place hC ha F q1, m_place hC hb F q1, ob_s, ob_s]
        refine ⟨_, rfl, ?_⟩
        have : sib C F (ancF C l 17 c) (ancF C l 17 c) = true := by
          unfold sib
          rw [e3 _ (by omega), q2]; simp
        rw [fb_ct_succ, this, if_pos rfl, Nat.add_comm]
  · rw [if_neg z, if_neg z]; exact ⟨_, rfl, rfl⟩
theorem a_part {a b : SS} {C : Cd} {K A : Nat} (h : Sit a b C K A) (x0 x1 x2 : Int32) : ∃ r, FX7_part a x0 x1 x2 = some r ∧ FX8_part b x0 x1 x2 = some r := by
  obtain ⟨hC, ha, hb, hT, hs, k1, k2, k3, k4, k5, k6⟩ := h
  have w1 := hC.1
  have w2 := hC.2.1
  rw [FX7_part, FX8_part]
  rcases both_is hC ha hb x0 with ⟨i1, i2⟩ | ⟨c, hc, i0, i1, i2⟩
  · rw [i1, i2, ob_s, ob_s, if_pos rfl, if_pos rfl]; exact ⟨_, rfl, rfl⟩
  rw [i1, i2, ob_s, ob_s, if_neg (show ¬ (1 : Int32) = 0 by decide), if_neg (show ¬ (1 : Int32) = 0 by decide), i0]
  by_cases z : x1 < 0
  · rw [if_pos z, if_pos z]; exact ⟨_, rfl, rfl⟩
  rw [if_neg z, if_neg z]
  obtain ⟨l, l1, l2⟩ := nI_of z
  rcases in_0 b x2 (M := 1) (m := 1) rfl (by omega) with ⟨i4, i5⟩ | ⟨u, i4, i5, i6⟩
  · rw [i4, ob_s, if_pos rfl]
    refine ⟨_, ?_, rfl⟩
    rcases i5 with i5 | i5
    · rw [if_pos i5]
    · by_cases y : x2 < 0
      · rw [if_pos y]
      · rw [if_neg y, if_neg (Int32.not_le.mpr i5)]
  rw [i6, ob_s, if_neg (show ¬ (1 : Int32) = 0 by decide), if_neg (show ¬ x2 < 0 by rw [i5]; exact nI_pos (by omega)), if_pos (show x2 ≤ 1 by rw [i5]; exact nI_le (b := 1) i4 (by omega)), l2]
  have hh := lp (fun n (q : Nat) i => ((FX0_ownPart_L5 a (nI c) (nI l) (some (-1)) n (nI q) i, FX8_part_L33 b (nI c) x2 (fun u12 => if x2 = 0 then gd (inb u12 30) (some (gA b 10 (Int32.toNatClampNeg u12))) else gd (inb u12 30) (some (gA b 11 (Int32.toNatClampNeg u12)))) n (nI (l - q)) i) : Option Int32 × Option Int32)) (cP C) (fun i q => q ≤ l ∧ q ≤ i) (fun r => (r.1 = some (-1) ∧ r.2 = some (-1)) ∨ ∃ p, p < cP C ∧ r.1 = some (nI p) ∧ r.2 = (if x2 = 0 then some (nI (cK C p)) else some (nI (cV C p)))) (by
    rintro n q ⟨h1, h2⟩
    left
    show FX0_ownPart_L5 _ _ _ _ _ _ _ = _ ∧ FX8_part_L33 _ _ _ _ _ _ _ = _
    rw [FX0_ownPart_L5, ha.2.1, if_pos (nI_le (Nat.le_refl _) (by omega)), FX8_part_L33, hb.2.1, if_pos (nI_le (Nat.le_refl _) (by omega))]
    exact ⟨rfl, rfl⟩) (by
    rintro n i q hi ⟨h1, h2⟩
    have p2 := (hC.2.2.2.2 i hi).2.1
    have g : inb (nI i) 30 = true := inb_n (by omega) (by omega)
    have ci : Int32.toNatClampNeg (nI i) = i := nI_clamp (by omega)
    have s1 : FX0_ownPart_L5 a (nI c) (nI l) (some (-1)) (n + 1) (nI q) (nI i) = if nI (cO C i) = nI c then if nI q = nI l then some (nI i) else FX0_ownPart_L5 a (nI c) (nI l) (some (-1)) n (nI q + 1) (nI (i + 1)) else FX0_ownPart_L5 a (nI c) (nI l) (some (-1)) n (nI q) (nI (i + 1)) := by
      rw [FX0_ownPart_L5, ha.2.1, if_neg (nI_ge hi (by omega)), gd_t g, ci, (ha.2.2.2.2 i hi).2.2, nI_1 i]
    have s2 : ∀ k v, FX8_part_L33 b (nI c) x2 k (n + 1) v (nI i) = if nI (cO C i) = nI c then if v = 0 then k (nI i) else FX8_part_L33 b (nI c) x2 k n (v + -1) (nI (i + 1)) else FX8_part_L33 b (nI c) x2 k n v (nI (i + 1)) := by
      intro k v
      rw [FX8_part_L33, hb.2.1, if_neg (nI_ge hi (by omega)), gd_t g, ci, (hb.2.2.2 i hi).1, nI_1]
    by_cases y : cO C i = c
    · have y2 : nI (cO C i) = nI c := by rw [y]
      by_cases w : q = l
      · left; right
        refine ⟨i, hi, ?_, ?_⟩
        · exact s1.trans ((if_pos y2).trans (if_pos (by rw [w])))
        · refine (s2 _ _).trans ((if_pos y2).trans ((if_pos (by rw [w, Nat.sub_self]; rfl)).trans ?_))
          rw [gd_t g, gd_t g, ci, (hb.2.2.2 i hi).2.1, (hb.2.2.2 i hi).2.2]
      · right
        refine ⟨q + 1, ⟨by omega, by omega⟩, ?_⟩
        obtain ⟨e, he⟩ : ∃ e, l - q = e + 1 := ⟨l - q - 1, by omega⟩
        refine Prod.ext ?_ ?_
        · refine s1.trans ((if_pos y2).trans ((if_neg (nI_ne (by omega) l1 w)).trans ?_))
          rw [nI_1]
        · refine (s2 _ _).trans ((if_pos y2).trans ((if_neg ?_).trans ?_))
          · rw [he]; exact nI_ne0 (by omega) (by omega)
          · rw [he, nI_dec, show l - (q + 1) = e by omega]
    · have y2 : ¬ nI (cO C i) = nI c := nI_ne (by omega) (by omega) y
      right
      exact ⟨q, ⟨h1, by omega⟩, Prod.ext (s1.trans (if_neg y2)) ((s2 _ _).trans (if_neg y2))⟩) (cP C) 5000 0 0 (by omega) (by omega) ⟨by omega, by omega⟩
  have xe : FX0_ownPart a (nI c) (nI l) = FX0_ownPart_L5 a (nI c) (nI l) (some (-1)) 5000 (nI 0) (nI 0) := by rw [FX0_ownPart]; rfl
  rw [xe]
  rcases hh with ⟨r1, r2⟩ | ⟨p, hp, r1, r2⟩
  · refine ⟨-1, ?_, r2⟩
    have r1 : FX0_ownPart_L5 a (nI c) (nI l) (some (-1)) 5000 (nI 0) (nI 0) = some (-1) := r1
    rw [r1, ob_s, if_pos rfl]
  · have r1 : FX0_ownPart_L5 a (nI c) (nI l) (some (-1)) 5000 (nI 0) (nI 0) = some (nI p) := r1
    have g : inb (nI p) 30 = true := inb_n (by omega) (by omega)
    rw [r1, ob_s, if_neg (nI_m1 (by omega)), gd_t g, gd_t g, nI_clamp (by omega), (ha.2.2.2.2 p hp).1, (ha.2.2.2.2 p hp).2.1]
    by_cases y : x2 = 0
    · rw [if_pos y]
      exact ⟨_, rfl, r2.trans (if_pos y)⟩
    · rw [if_neg y]
      exact ⟨_, rfl, r2.trans (if_neg y)⟩
