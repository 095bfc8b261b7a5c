def kp84 (a σ : SS) : Prop := sm1 a σ ∧ gL σ 81 = gL a 81 ∧ gL σ 82 = gL a 82
theorem kp84_L {a σ : SS} (h : kp84 a σ) (f : Nat → Int64) : kp84 a (sL σ 84 f) := ⟨h.1, (gL_ne σ (by decide) f).trans h.2.1, (gL_ne σ (by decide) f).trans h.2.2⟩
theorem kp84_t {a b c : SS} (h : kp84 a b) (h2 : kp84 b c) : kp84 a c := ⟨⟨h2.1.1.trans h.1.1, h2.1.2.trans h.1.2⟩, h2.2.1.trans h.2.1, h2.2.2.trans h.2.2⟩
theorem ix8 {t o : Nat} (ht : t < 8) (ho : o < 8) : nI t * (8 : Int32) + nI o = nI (t * 8 + o) := by
  rw [show (8 : Int32) = nI 8 from rfl, pk_mul, nI_add]
theorem x_hangOnAll (a : SS) {t : Nat} (ht : t < 8) (u : Int32) (v : Int64) : ∃ σ, FX2_hangOnAll a (nI t) u v = some σ ∧ kp84 a σ ∧ ∀ j, j < 64 → gL σ 84 j = if j / 8 = t ∧ bt u (j % 8) = true then gL a 84 j ||| v else gL a 84 j := by
  obtain ⟨σ, ⟨h1, h2⟩, h3⟩ := lpk (fun n (q : SS) i => FX2_hangOnAll_L3 (nI t) u v (fun σ8 => some σ8) n i q) 8 (fun σ8 => some σ8)
    (fun i q => kp84 a q ∧ ∀ j, j < 64 → gL q 84 j = if j / 8 = t ∧ j % 8 < i ∧ bt u (j % 8) = true then gL a 84 j ||| v else gL a 84 j) (by
    rintro n q -
    show FX2_hangOnAll_L3 _ _ _ _ _ _ _ = _
    rw [FX2_hangOnAll_L3, if_pos (by decide)]) (by
    rintro n i q hi ⟨s1, s2⟩
    have l8 : ¬ (8 : Int32) ≤ nI i := by rw [show (8 : Int32) = nI 8 from rfl]; exact nI_ge hi (by omega)
    cases hu : bt u i with
    | false =>
      refine ⟨q, ⟨s1, fun j hj => ?_⟩, ?_⟩
      · rw [s2 j hj]
        by_cases c : j / 8 = t ∧ j % 8 < i ∧ bt u (j % 8) = true
        · rw [if_pos c, if_pos ⟨c.1, by omega, c.2.2⟩]
        · rw [if_neg c, if_neg]
          rintro ⟨c1, c2, c3⟩
          by_cases e : j % 8 = i
          · rw [e, hu] at c3; cases c3
          · exact c ⟨c1, by omega, c3⟩
      · show FX2_hangOnAll_L3 _ _ _ _ _ _ _ = FX2_hangOnAll_L3 _ _ _ _ _ _ _
        rw [FX2_hangOnAll_L3, if_neg l8, x_has q u (by omega : i < 32), ob_s, hu, if_pos bI_f, nI_1]
    | true =>
      refine ⟨sL q 84 (vp_updL (gL q 84) (t * 8 + i) (gL q 84 (t * 8 + i) ||| v)), ⟨kp84_L s1 _, fun j hj => ?_⟩, ?_⟩
      · rw [gL_sL, updL_eq]
        by_cases e : j = t * 8 + i
        · have q1 : j / 8 = t := by omega
          have q2 : j % 8 = i := by omega
          rw [if_pos e, if_pos ⟨q1, by omega, by rw [q2]; exact hu⟩, ← e, s2 j hj, if_neg (by omega)]
        · rw [if_neg e, s2 j hj]
          by_cases c : j / 8 = t ∧ j % 8 < i ∧ bt u (j % 8) = true
          · rw [if_pos c, if_pos ⟨c.1, by omega, c.2.2⟩]
          · rw [if_neg c, if_neg]
            rintro ⟨c1, c2, c3⟩
            exact c ⟨c1, by omega, c3⟩
      · show FX2_hangOnAll_L3 _ _ _ _ _ _ _ = FX2_hangOnAll_L3 _ _ _ _ _ _ _
        have g : inb (nI (t * 8 + i)) 64 = true := inb_n (by omega) (by omega)
        rw [FX2_hangOnAll_L3, if_neg l8, x_has q u (by omega : i < 32), ob_s, hu, if_neg bI_n, ix8 ht hi, gd_t g, gd_t g, bd_e, nI_clamp (by omega), nI_1]) (n := 5000) (by omega) (a := a) ⟨⟨⟨rfl, rfl⟩, rfl, rfl⟩, fun j _ => by rw [if_neg (by omega)]⟩
  refine ⟨σ, h3, h1, fun j hj => ?_⟩
  rw [h2 j hj]
  by_cases c : j / 8 = t ∧ bt u (j % 8) = true
  · rw [if_pos c, if_pos ⟨c.1, by omega, c.2⟩]
  · rw [if_neg c, if_neg (fun z => c ⟨z.1, z.2.2⟩)]
theorem x_reckonHang {a : SS} {C : Cd} (hC : WfC C) (ha : RepX a C) {S : Nat → Nat → Bool} (hS : ∀ x, x < 64 → ∀ j, j < cN C → lb (gL a 81 j) x = S x j) :
    ∃ σ, FX2_reckonHang a = some σ ∧ kp84 a σ ∧ ∀ x, x < 64 → ∀ t, t < 8 → ∀ o, o < 8 → lb (gL σ 84 (t * 8 + o)) x = hng C (S x) t o := by
  obtain ⟨w1, w2, -, -, w5⟩ := id hC
  obtain ⟨σ, ⟨z1, z3⟩, h0⟩ := lpk (fun n (q : SS) i => FX2_reckonHang_L2 (fun σ4 => FX2_reckonHang_L23 (fun σ39 => some σ39) 5000 0 σ4) n i q) 64 (fun σ4 => FX2_reckonHang_L23 (fun σ39 => some σ39) 5000 0 σ4)
    (fun i q => kp84 a q ∧ ∀ j, j < i → gL q 84 j = 0) (by
    rintro n q -
    show FX2_reckonHang_L2 _ _ _ _ = _
    rw [FX2_reckonHang_L2, if_pos (by decide)]) (by
    rintro n i q hi ⟨s1, s3⟩
    refine ⟨sL q 84 (vp_updL (gL q 84) i 0), ⟨kp84_L s1 _, fun j hj => ?_⟩, ?_⟩
    · rw [gL_sL, updL_eq]
      by_cases e : j = i
      · rw [if_pos e]
      · rw [if_neg e]; exact s3 j (by omega)
    · show FX2_reckonHang_L2 _ _ _ _ = FX2_reckonHang_L2 _ _ _ _
      rw [FX2_reckonHang_L2, if_neg (by rw [show (64 : Int32) = nI 64 from rfl]; exact nI_ge hi (by omega)), gd_t (inb_n (by omega) (by omega)), bd_e, nI_clamp (by omega), nI_1]) (n := 5000) (by omega) (a := a) ⟨⟨⟨rfl, rfl⟩, rfl, rfl⟩, fun j hj => absurd hj (Nat.not_lt_zero j)⟩
  have h0 : FX2_reckonHang a = FX2_reckonHang_L23 (fun σ39 => some σ39) 5000 (nI 0) σ := h0
  rw [h0]
  obtain ⟨σ', ⟨y1, y3⟩, h1⟩ := lpk (fun n (q : SS) i => FX2_reckonHang_L23 (fun σ39 => some σ39) n i q) (cP C) (fun σ39 => some σ39)
    (fun i q => kp84 a q ∧ ∀ x, x < 64 → ∀ t, t < 8 → ∀ o, o < 8 → lb (gL q 84 (t * 8 + o)) x = anyB (fun p => cK C p == 0 && (cV C p == t && (S x (cO C p) && usd C (cO C p) o))) i) (by
    rintro n q ⟨s1, -⟩
    show FX2_reckonHang_L23 _ _ _ _ = _
    rw [FX2_reckonHang_L23, sm1_I s1.1, ha.2.1, if_pos (nI_le (Nat.le_refl _) (by omega))]) (by
    rintro n i q hi ⟨s1, s4⟩
    have hq : RepX q C := sm1_R s1.1 ha
    obtain ⟨p1, p2, p3, p4⟩ := w5 i hi
    obtain ⟨k1, k2, k3⟩ := hq.2.2.2.2 i hi
    have ci : Int32.toNatClampNeg (nI i) = i := nI_clamp (by omega)
    have g : inb (nI i) 30 = true := inb_n (by omega) (by omega)
    by_cases hk : cK C i = 0
    · have hv := p4 (by omega)
      obtain ⟨σ2, e1, e2, e3⟩ := x_hangOnAll q hv (gA q 48 (cO C i)) (gL q 81 (cO C i))
      refine ⟨σ2, ⟨kp84_t s1 e2, fun x hx t ht o ho => ?_⟩, ?_⟩
      · have us := (hq.2.2.2.1 (cO C i) p2).2.2.2.2.2 o (by omega)
        rw [e3 _ (by omega), anyB, ← s4 x hx t ht o ho, show (t * 8 + o) / 8 = t by omega, show (t * 8 + o) % 8 = o by omega, us]
        by_cases c : t = cV C i ∧ usd C (cO C i) o = true
        · rw [if_pos c, l_or, s1.2.1, hS x hx _ p2, c.2, c.1, hk]; simp
        · rw [if_neg c]
          have : (cV C i == t && (S x (cO C i) && usd C (cO C i) o)) = false := by
            cases hu : usd C (cO C i) o with
            | false => simp
            | true =>
              have : (cV C i == t) = false := by simp; exact fun e => c ⟨e.symm, hu⟩
              rw [this]; rfl
          rw [this]; simp
      · show FX2_reckonHang_L23 _ (n + 1) _ _ = FX2_reckonHang_L23 _ n _ _
        have l8 : ¬ (8 : Int32) ≤ nI (cV C i) := by rw [show (8 : Int32) = nI 8 from rfl]; exact nI_ge hv (by omega)
        have l16 : ¬ (16 : Int32) ≤ nI (cO C i) := by rw [show (16 : Int32) = nI 16 from rfl]; exact nI_ge (by omega) (by omega)
        rw [FX2_reckonHang_L23, hq.2.1, if_neg (nI_ge hi (by omega)), gd_t g, gd_t g, gd_t g, ci, k1, k2, k3, if_pos (by rw [hk]; rfl), if_neg (nI_pos (by omega)), if_neg l8, if_neg (nI_pos (by omega)), if_neg l16, gd_t (inb_n (by omega) (by omega)), x_forceOf hC hq p2, ob_s, nI_clamp (by omega), e1, ob_s, nI_1]
    · refine ⟨q, ⟨s1, fun x hx t ht o ho => ?_⟩, ?_⟩
      · rw [s4 x hx t ht o ho, anyB]
        have : (cK C i == 0) = false := by simp; exact hk
        rw [this]; simp
      · show FX2_reckonHang_L23 _ (n + 1) _ _ = FX2_reckonHang_L23 _ n _ _
        rw [FX2_reckonHang_L23, hq.2.1, if_neg (nI_ge hi (by omega)), gd_t g, gd_t g, gd_t g, ci, k1, if_neg (show ¬ nI (cK C i) = 0 from nI_ne (b := 0) (by omega) (by omega) hk), nI_1]) (n := 5000) (by omega) (a := σ) ⟨z1, fun x hx t ht o ho => by rw [z3 _ (by omega), l_0]; rfl⟩
  exact ⟨σ', h1, y1, y3⟩
def kp85 (a σ : SS) : Prop := sm1 a σ ∧ gL σ 81 = gL a 81 ∧ gL σ 82 = gL a 82 ∧ gL σ 84 = gL a 84
theorem kp85_L {a σ : SS} (h : kp85 a σ) (f : Nat → Int64) : kp85 a (sL σ 85 f) := ⟨h.1, (gL_ne σ (by decide) f).trans h.2.1, (gL_ne σ (by decide) f).trans h.2.2.1, (gL_ne σ (by decide) f).trans h.2.2.2⟩
theorem kp85_t {a b c : SS} (h : kp85 a b) (h2 : kp85 b c) : kp85 a c := ⟨⟨h2.1.1.trans h.1.1, h2.1.2.trans h.1.2⟩, h2.2.1.trans h.2.1, h2.2.2.1.trans h.2.2.1, h2.2.2.2.trans h.2.2.2⟩
theorem x_reach46 (a : SS) {k f : Nat} (hk : k < 8) (hf : f < 8) (v : Int64) (K : SS → Option SS) : ∃ σ, FX2_reckonReach_L46 (nI k) (nI f) v K 5000 (nI 0) a = K σ ∧ kp85 a σ ∧ ∀ j, j < 64 → gL σ 85 j = if j / 8 = f then gL a 85 j ||| (v &&& gL a 85 (k * 8 + j % 8)) else gL a 85 j := by
  refine lp (fun n (q : SS) i => FX2_reckonReach_L46 (nI k) (nI f) v K n i q) 8
    (fun i q => kp85 a q ∧ ∀ j, j < 64 → gL q 85 j = if j / 8 = f ∧ j % 8 < i then gL a 85 j ||| (v &&& gL a 85 (k * 8 + j % 8)) else gL a 85 j)
    (fun r => ∃ σ, r = K σ ∧ kp85 a σ ∧ ∀ j, j < 64 → gL σ 85 j = if j / 8 = f then gL a 85 j ||| (v &&& gL a 85 (k * 8 + j % 8)) else gL a 85 j) (by
    rintro n q ⟨s1, s2⟩
    refine ⟨q, ?_, s1, fun j hj => ?_⟩
    · show FX2_reckonReach_L46 _ _ _ _ _ _ _ = _
      rw [FX2_reckonReach_L46, if_pos (by decide)]
    · rw [s2 j hj]
      by_cases c : j / 8 = f
      · rw [if_pos c, if_pos ⟨c, by omega⟩]
      · rw [if_neg c, if_neg (fun z => c z.1)]) (by
    rintro n i q hi ⟨s1, s2⟩
    have l8 : ¬ (8 : Int32) ≤ nI i := by rw [show (8 : Int32) = nI 8 from rfl]; exact nI_ge hi (by omega)
    by_cases hv : v = 0
    · left
      refine ⟨q, ?_, s1, fun j hj => ?_⟩
      · show FX2_reckonReach_L46 _ _ _ _ _ _ _ = _
        rw [FX2_reckonReach_L46, if_neg l8, if_pos (cmp_0.mpr hv)]
      · have z : ∀ w y : Int64, w ||| (v &&& y) = w := by
          intro w y
          apply l_ext; intro i hi
          rw [l_or, l_and, hv, l_0]; simp
        rw [s2 j hj]
        simp only [z, ite_self]
    · right
      refine ⟨sL q 85 (vp_updL (gL q 85) (f * 8 + i) (gL q 85 (f * 8 + i) ||| (v &&& gL q 85 (k * 8 + i)))), ⟨kp85_L s1 _, fun j hj => ?_⟩, ?_⟩
      · rw [gL_sL, updL_eq]
        by_cases e : j = f * 8 + i
        · have q1 : j / 8 = f := by omega
          have q2 : j % 8 = i := by omega
          rw [if_pos e, if_pos ⟨q1, by omega⟩, ← e, s2 j hj, if_neg (by omega), s2 (k * 8 + i) (by omega), if_neg (by omega), q2]
        · rw [if_neg e, s2 j hj]
          by_cases c : j / 8 = f ∧ j % 8 < i
          · rw [if_pos c, if_pos ⟨c.1, by omega⟩]
          · rw [if_neg c, if_neg]
            rintro ⟨c1, c2⟩
            exact c ⟨c1, by omega⟩
      · show FX2_reckonReach_L46 _ _ _ _ _ _ _ = FX2_reckonReach_L46 _ _ _ _ _ _ _
        have g : inb (nI (f * 8 + i)) 64 = true := inb_n (by omega) (by omega)
        have g2 : inb (nI (k * 8 + i)) 64 = true := inb_n (by omega) (by omega)
        rw [FX2_reckonReach_L46, if_neg l8, if_neg (fun z => hv (cmp_0.mp z)), ix8 hf hi, ix8 hk hi, gd_t g, gd_t g2, gd_t g, bd_e, nI_clamp (by omega), nI_clamp (by omega), nI_1]) 8 5000 0 a (by omega) (by omega) ⟨⟨⟨rfl, rfl⟩, rfl, rfl, rfl⟩, fun j _ => by rw [if_neg (by omega)]⟩
theorem wsh_row (h : Nat → Nat → Bool) (k t : Nat) : wsh h (k + 1) k t = wsh h k k t := by
  show (wsh h k k t || (wsh h k k k && wsh h k k t)) = _
  cases wsh h k k t <;> cases wsh h k k k <;> rfl
theorem x_reach25 (a : SS) {k : Nat} (hk : k < 8) (H : Nat → Nat → Nat → Bool) (K : SS → Option SS) (hR : ∀ x, x < 64 → ∀ t, t < 8 → ∀ u, u < 8 → lb (gL a 85 (t * 8 + u)) x = wsh (H x) k t u) :
    ∃ σ, (kp85 a σ ∧ ∀ x, x < 64 → ∀ t, t < 8 → ∀ u, u < 8 → lb (gL σ 85 (t * 8 + u)) x = wsh (H x) (k + 1) t u) ∧ FX2_reckonReach_L25 (nI k) K 5000 (nI 0) a = K σ := by
  obtain ⟨σ, ⟨h1, h2⟩, h3⟩ := lpk (fun n (q : SS) i => FX2_reckonReach_L25 (nI k) K n i q) 8 K
    (fun i q => kp85 a q ∧ ∀ x, x < 64 → ∀ t, t < 8 → ∀ u, u < 8 → lb (gL q 85 (t * 8 + u)) x = if t < i then wsh (H x) (k + 1) t u else wsh (H x) k t u) (by
    rintro n q -
    show FX2_reckonReach_L25 _ _ _ _ _ = _
    rw [FX2_reckonReach_L25, if_pos (by decide)]) (by
    rintro n i q hi ⟨s1, s2⟩
    have l8 : ¬ (8 : Int32) ≤ nI i := by rw [show (8 : Int32) = nI 8 from rfl]; exact nI_ge hi (by omega)
    obtain ⟨σ2, e1, e2, e3⟩ := x_reach46 q hk hi (gL q 85 (i * 8 + k)) (fun σ12 => FX2_reckonReach_L25 (nI k) K n (nI i + 1) σ12)
    refine ⟨σ2, ⟨kp85_t s1 e2, fun x hx t ht u hu => ?_⟩, ?_⟩
    · rw [e3 _ (by omega), show (t * 8 + u) / 8 = t by omega, show (t * 8 + u) % 8 = u by omega]
      by_cases c : t = i
      · subst c
        rw [if_pos rfl, if_pos (by omega), l_or, l_and, s2 x hx t ht u hu, s2 x hx t ht k hk, s2 x hx k hk u hu, if_neg (by omega), if_neg (by omega)]
        show _ = (wsh (H x) k t u || (wsh (H x) k t k && wsh (H x) k k u))
        by_cases c2 : k < t
        · rw [if_pos c2, wsh_row]
        · rw [if_neg c2]
      · rw [if_neg c, s2 x hx t ht u hu]
        by_cases c2 : t < i
        · rw [if_pos c2, if_pos (by omega)]
        · rw [if_neg c2, if_neg (by omega)]
    · show FX2_reckonReach_L25 _ _ _ _ _ = FX2_reckonReach_L25 _ _ _ _ _
      have g : inb (nI (i * 8 + k)) 64 = true := inb_n (by omega) (by omega)
      rw [FX2_reckonReach_L25, if_neg l8, ix8 hi hk, gd_t g, bd_e, nI_clamp (by omega)]
      have e1 : FX2_reckonReach_L46 (nI k) (nI i) (gL q 85 (i * 8 + k)) (fun σ12 => FX2_reckonReach_L25 (nI k) K n (nI i + 1) σ12) 5000 0 q = FX2_reckonReach_L25 (nI k) K n (nI i + 1) σ2 := e1
      rw [e1, nI_1]) (n := 5000) (by omega) (a := a) ⟨⟨⟨rfl, rfl⟩, rfl, rfl, rfl⟩, fun x hx t ht u hu => by rw [if_neg (by omega)]; exact hR x hx t ht u hu⟩
  exact ⟨σ, ⟨h1, fun x hx t ht u hu => by rw [h2 x hx t ht u hu, if_pos ht]⟩, h3⟩
theorem x_reckonReach {a : SS} (H : Nat → Nat → Nat → Bool) (hH : ∀ x, x < 64 → ∀ t, t < 8 → ∀ o, o < 8 → lb (gL a 84 (t * 8 + o)) x = H x t o) :
    ∃ σ, FX2_reckonReach a = some σ ∧ kp85 a σ ∧ ∀ x, x < 64 → ∀ t, t < 8 → ∀ u, u < 8 → lb (gL σ 85 (t * 8 + u)) x = wsh (H x) 8 t u := by
  obtain ⟨σ, ⟨h1, h2⟩, h3⟩ := lpk (fun n (q : SS) i => FX2_reckonReach_L17 (fun σ14 => some σ14) n i q) 8 (fun σ14 => some σ14)
    (fun i q => kp85 a q ∧ ∀ x, x < 64 → ∀ t, t < 8 → ∀ u, u < 8 → lb (gL q 85 (t * 8 + u)) x = wsh (H x) i t u) (by
    rintro n q -
    show FX2_reckonReach_L17 _ _ _ _ = _
    rw [FX2_reckonReach_L17, if_pos (by decide)]) (by
    rintro n i q hi ⟨s1, s2⟩
    have l8 : ¬ (8 : Int32) ≤ nI i := by rw [show (8 : Int32) = nI 8 from rfl]; exact nI_ge hi (by omega)
    obtain ⟨σ2, ⟨e1, e2⟩, e3⟩ := x_reach25 q hi H (fun σ13 => FX2_reckonReach_L17 (fun σ14 => some σ14) n (nI i + 1) σ13) s2
    refine ⟨σ2, ⟨kp85_t s1 e1, e2⟩, ?_⟩
    show FX2_reckonReach_L17 _ _ _ _ = FX2_reckonReach_L17 _ _ _ _
    have e3 : FX2_reckonReach_L25 (nI i) (fun σ13 => FX2_reckonReach_L17 (fun σ14 => some σ14) n (nI i + 1) σ13) 5000 0 q = FX2_reckonReach_L17 (fun σ14 => some σ14) n (nI i + 1) σ2 := e3
    rw [FX2_reckonReach_L17, if_neg l8, e3, nI_1]) (n := 5000) (by omega) (a := sL a 85 (va_cpy (gL a 84) (gL a 85) (Int32.toNatClampNeg (0 : Int32)) (Int32.toNatClampNeg (0 : Int32)) (Int32.toNatClampNeg (64 : Int32))))
    ⟨kp85_L ⟨⟨rfl, rfl⟩, rfl, rfl, rfl⟩ _, fun x hx t ht u hu => by
      rw [gL_sL, show Int32.toNatClampNeg (0 : Int32) = 0 from by decide, show Int32.toNatClampNeg (64 : Int32) = 64 from by decide, pk_cpy_in (by omega) (by omega), show 0 + (t * 8 + u - 0) = t * 8 + u by omega]
      exact hH x hx t ht u hu⟩
  refine ⟨σ, ?_, h1, h2⟩
  rw [FX2_reckonReach, bd_e]
  exact h3
/-- the tables are those of a contract and of what is struck -/
def Tabs (a : SS) (C : Cd) (sk : Nat → Bool) : Prop := ∀ x, x < 64 → (∀ j, j < cN C → lb (gL a 81 j) x = inF C x sk j) ∧ (∀ p, p < cP C → lb (gL a 82 p) x = ami C (inF C x sk) p) ∧ (∀ t, t < 8 → ∀ o, o < 8 → lb (gL a 84 (t * 8 + o)) x = hng C (inF C x sk) t o) ∧ ∀ t, t < 8 → ∀ u, u < 8 → lb (gL a 85 (t * 8 + u)) x = wsh (hng C (inF C x sk)) 8 t u
theorem x_reckon {a : SS} {C : Cd} (hC : WfC C) (ha : RepX a C) {s : Int32} {sk : Nat → Bool} (hs : ∀ c, c < cN C → bt s c = sk c) : ∃ σ, FX2_reckon a s = some σ ∧ sm1 a σ ∧ Tabs σ C sk := by
  obtain ⟨T, e1, h1⟩ := x_reckonForce hC ha hs
  have r1 : RepX (sL a 81 T) C := ha
  have f1 : ∀ x, x < 64 → ∀ j, j < cN C → lb (gL (sL a 81 T) 81 j) x = inF C x sk j := by rw [gL_sL]; exact h1
  obtain ⟨σ2, e2, s2, k2, h2⟩ := x_reckonAmiss hC r1 (S := fun x => inF C x sk) f1
  have r2 : RepX σ2 C := sm1_R s2 r1
  have f2 : ∀ x, x < 64 → ∀ j, j < cN C → lb (gL σ2 81 j) x = inF C x sk j := by rw [k2]; exact f1
  obtain ⟨σ3, e3, k3, h3⟩ := x_reckonHang hC r2 (S := fun x => inF C x sk) f2
  obtain ⟨σ4, e4, k4, h4⟩ := x_reckonReach (fun x => hng C (inF C x sk)) h3
  refine ⟨σ4, ?_, ⟨(k4.1.1.trans k3.1.1).trans s2.1, (k4.1.2.trans k3.1.2).trans s2.2⟩, fun x hx => ⟨?_, ?_, ?_, h4 x hx⟩⟩
  · rw [FX2_reckon, e1, ob_s, e2, ob_s, e3, ob_s, e4, ob_s]
  · rw [k4.2.1, k3.2.1]; exact f2 x hx
  · rw [k4.2.2.1, k3.2.2]; exact h2 x hx
  · rw [k4.2.2.2]; exact h3 x hx
