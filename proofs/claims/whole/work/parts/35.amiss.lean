/-! reckonAmiss, reckonHang, reckonReach -/
def dfb (C : Cd) (S : Nat → Bool) (p t : Nat) : Bool := anyB (fun q => cK C q == 0 && (cV C q == t && S (cO C q))) p
def ami (C : Cd) (S : Nat → Bool) (p : Nat) : Bool := S (cO C p) && (if cK C p = 2 then !S (cV C p) else if cK C p = 0 then dfb C S p (cV C p) else !dfb C S p (cV C p))
def hng (C : Cd) (S : Nat → Bool) (t o : Nat) : Bool := anyB (fun p => cK C p == 0 && (cV C p == t && (S (cO C p) && usd C (cO C p) o))) (cP C)
def wsh (h : Nat → Nat → Bool) : Nat → Nat → Nat → Bool
  | 0 => h
  | k + 1 => fun f t => wsh h k f t || (wsh h k f k && wsh h k k t)
def sm1 (a σ : SS) : Prop := σ.1 = a.1 ∧ σ.2.1 = a.2.1
theorem sm1_L {a σ : SS} (h : sm1 a σ) (k : Nat) (f : Nat → Int64) : sm1 a (sL σ k f) := h
theorem sm1_I {a σ : SS} (h : sm1 a σ) (k : Nat) : gI σ k = gI a k := by unfold gI; rw [h.1]
theorem sm1_A {a σ : SS} (h : sm1 a σ) (k : Nat) : gA σ k = gA a k := by unfold gA; rw [h.2]
theorem sm1_R {a σ : SS} (h : sm1 a σ) {C : Cd} (ha : RepX a C) : RepX σ C := by
  unfold RepX
  simp only [sm1_I h, sm1_A h]
  exact ha
theorem l83 (σ : SS) (f : Nat → Int64) : gL (sL σ 83 f) 81 = gL σ 81 ∧ gL (sL σ 83 f) 82 = gL σ 82 := ⟨gL_ne σ (by decide) f, gL_ne σ (by decide) f⟩
theorem l82 (σ : SS) (f : Nat → Int64) : gL (sL σ 82 f) 81 = gL σ 81 ∧ gL (sL σ 82 f) 83 = gL σ 83 := ⟨gL_ne σ (by decide) f, gL_ne σ (by decide) f⟩
theorem x_reckonAmiss {a : SS} {C : Cd} (hC : WfC C) (ha : RepX a C) {S : Nat → Nat → Bool} (hS : ∀ x, x < 64 → ∀ j, j < cN C → lb (gL a 81 j) x = S x j) :
    ∃ σ, FX2_reckonAmiss a = some σ ∧ sm1 a σ ∧ gL σ 81 = gL a 81 ∧ ∀ x, x < 64 → ∀ p, p < cP C → lb (gL σ 82 p) x = ami C (S x) p := by
  obtain ⟨w1, w2, -, -, w5⟩ := id hC
  obtain ⟨σ, ⟨z1, z2, z3⟩, h0⟩ := lpk (fun n (q : SS) i => FX2_reckonAmiss_L2 (fun σ4 => FX2_reckonAmiss_L23 (fun σ39 => some σ39) 5000 0 σ4) n i q) 8 (fun σ4 => FX2_reckonAmiss_L23 (fun σ39 => some σ39) 5000 0 σ4)
    (fun i q => sm1 a q ∧ gL q 81 = gL a 81 ∧ ∀ j, j < i → gL q 83 j = 0) (by
    rintro n q -
    show FX2_reckonAmiss_L2 _ _ _ _ = _
    rw [FX2_reckonAmiss_L2, if_pos (by decide)]) (by
    rintro n i q hi ⟨s1, s2, s3⟩
    refine ⟨sL q 83 (vp_updL (gL q 83) i 0), ⟨sm1_L s1 _ _, (l83 _ _).1.trans s2, fun j hj => ?_⟩, ?_⟩
    · rw [gL_sL, updL_eq]
      by_cases e : j = i
      · rw [if_pos e]
      · rw [if_neg e]; exact s3 j (by omega)
    · show FX2_reckonAmiss_L2 _ _ _ _ = FX2_reckonAmiss_L2 _ _ _ _
      rw [FX2_reckonAmiss_L2, if_neg (by rw [show (8 : Int32) = nI 8 from rfl]; exact nI_ge hi (by omega)), gd_t (inb_n (by omega) (by omega)), bd_e, nI_clamp (by omega), nI_1]) (n := 5000) (by omega) (a := a) ⟨⟨rfl, rfl⟩, rfl, fun j hj => absurd hj (Nat.not_lt_zero j)⟩
  have h0 : FX2_reckonAmiss a = FX2_reckonAmiss_L23 (fun σ39 => some σ39) 5000 (nI 0) σ := h0
  rw [h0]
  obtain ⟨σ', ⟨y1, y2, y3, -⟩, h1⟩ := lpk (fun n (q : SS) i => FX2_reckonAmiss_L23 (fun σ39 => some σ39) n i q) (cP C) (fun σ39 => some σ39)
    (fun i q => sm1 a q ∧ gL q 81 = gL a 81 ∧ (∀ x, x < 64 → ∀ p, p < i → lb (gL q 82 p) x = ami C (S x) p) ∧ ∀ x, x < 64 → ∀ t, t < 8 → lb (gL q 83 t) x = dfb C (S x) i t) (by
    rintro n q ⟨s1, -⟩
    show FX2_reckonAmiss_L23 _ _ _ _ = _
    rw [FX2_reckonAmiss_L23, sm1_I s1, ha.2.1, if_pos (nI_le (Nat.le_refl _) (by omega))]) (by
    rintro n i q hi ⟨s1, s2, s3, s4⟩
    have hq : RepX q C := sm1_R s1 ha
    obtain ⟨p1, p2, p3, p4⟩ := w5 i hi
    obtain ⟨k1, k2, k3⟩ := hq.2.2.2.2 i hi
    have ci : Int32.toNatClampNeg (nI i) = i := nI_clamp (by omega)
    have g : inb (nI i) 30 = true := inb_n (by omega) (by omega)
    by_cases hk : cK C i = 2
    · refine ⟨sL q 82 (vp_updL (gL q 82) i (gL q 81 (cO C i) &&& (gL q 81 (cV C i) ^^^ (-1)))), ⟨sm1_L s1 _ _, (l82 _ _).1.trans s2, fun x hx p hp => ?_, fun x hx t ht => ?_⟩, ?_⟩
      · rw [gL_sL, updL_eq]
        by_cases e : p = i
        · subst e
          rw [if_pos rfl, l_and, l_not _ hx, s2, hS x hx _ p2, hS x hx _ (p3 hk)]
          unfold ami
          rw [if_pos hk]
        · rw [if_neg e]; exact s3 x hx p (by omega)
      · rw [(l82 _ _).2, s4 x hx t ht]
        unfold dfb
        rw [anyB, hk]
        simp
      · show FX2_reckonAmiss_L23 _ (n + 1) _ _ = FX2_reckonAmiss_L23 _ n _ _
        rw [FX2_reckonAmiss_L23, hq.2.1, if_neg (nI_ge hi (by omega)), gd_t g, ci, k3, x_forceOf hC hq p2, ob_s, gd_t g, gd_t g, k1, k2, hk, if_pos (show nI 2 = (2 : Int32) from rfl), x_forceOf hC hq (p3 hk), ob_s, gd_t g, bd_e, nI_1]
    · have hv := p4 hk
      have gv : inb (nI (cV C i)) 8 = true := inb_n hv (by omega)
      have cv : Int32.toNatClampNeg (nI (cV C i)) = cV C i := nI_clamp (by omega)
      have nk : ¬ nI (cK C i) = (2 : Int32) := nI_ne (b := 2) (by omega) (by omega) hk
      have n8 : ¬ (8 : Int32) ≤ nI (cV C i) := by rw [show (8 : Int32) = nI 8 from rfl]; exact nI_ge hv (by omega)
      -- the two stores
      have store : ∀ (z : Int32) (m : Int64) (D : Int64), (D = if z = 0 then 0 else gL q 81 (cO C i)) → FX2_reckonAmiss_J156 q (fun a26 σ27 => FX2_reckonAmiss_L23 (fun σ39 => some σ39) n a26 σ27) (nI i) (gL q 81 (cO C i)) (nI (cV C i)) z m (gL q 81 (cO C i)) (nI i) = FX2_reckonAmiss_L23 (fun σ39 => some σ39) n (nI (i + 1)) (sL (sL q 82 (vp_updL (gL q 82) i (gL q 81 (cO C i) &&& m))) 83 (vp_updL (gL q 83) (cV C i) (gL q 83 (cV C i) ||| D))) := by
        intro z m D hD
        rw [FX2_reckonAmiss_J156, gd_t g, bd_e, gd_t gv, ci, cv, (l82 _ _).2]
        by_cases hz : z = 0
        · rw [if_pos hz, gd_t gv, bd_e, hD, if_pos hz, nI_1]
        · rw [if_neg hz, gd_t gv, bd_e, hD, if_neg hz, nI_1]
      by_cases h0k : cK C i = 0
      · refine ⟨_, ⟨sm1_L (sm1_L s1 82 (vp_updL (gL q 82) i (gL q 81 (cO C i) &&& gL q 83 (cV C i)))) 83 (vp_updL (gL q 83) (cV C i) (gL q 83 (cV C i) ||| gL q 81 (cO C i))), ((l83 _ _).1.trans (l82 _ _).1).trans s2, fun x hx p hp => ?_, fun x hx t ht => ?_⟩, ?_⟩
        · rw [(l83 _ _).2, gL_sL, updL_eq]
          by_cases e : p = i
          · subst e
            rw [if_pos rfl, l_and, s2, hS x hx _ p2, s4 x hx _ hv]
            unfold ami
            rw [if_neg hk, if_pos h0k]
          · rw [if_neg e]; exact s3 x hx p (by omega)
        · rw [gL_sL, updL_eq]
          unfold dfb
          rw [anyB]
          by_cases e : t = cV C i
          · rw [if_pos e, l_or, s2, hS x hx _ p2, s4 x hx _ hv, e]
            unfold dfb
            simp [h0k]
          · rw [if_neg e, s4 x hx t ht]
            unfold dfb
            have : (cV C i == t) = false := by simp; omega
            rw [this]; simp
        · show FX2_reckonAmiss_L23 _ (n + 1) _ _ = FX2_reckonAmiss_L23 _ n _ _
          rw [FX2_reckonAmiss_L23, hq.2.1, if_neg (nI_ge hi (by omega)), gd_t g, ci, k3, x_forceOf hC hq p2, ob_s, gd_t g, gd_t g, k1, k2, if_neg nk, if_neg (nI_pos (by omega)), if_neg n8, gd_t g, if_pos (by rw [h0k]; rfl), FX2_reckonAmiss_J122, if_neg (by decide), gd_t gv, cv]
          exact store 1 _ _ (by rw [if_neg (by decide)])
      · refine ⟨_, ⟨sm1_L (sm1_L s1 82 (vp_updL (gL q 82) i (gL q 81 (cO C i) &&& (gL q 83 (cV C i) ^^^ (-1))))) 83 (vp_updL (gL q 83) (cV C i) (gL q 83 (cV C i) ||| 0)), ((l83 _ _).1.trans (l82 _ _).1).trans s2, fun x hx p hp => ?_, fun x hx t ht => ?_⟩, ?_⟩
        · rw [(l83 _ _).2, gL_sL, updL_eq]
          by_cases e : p = i
          · subst e
            rw [if_pos rfl, l_and, l_not _ hx, s2, hS x hx _ p2, s4 x hx _ hv]
            unfold ami
            rw [if_neg hk, if_neg h0k]
          · rw [if_neg e]; exact s3 x hx p (by omega)
        · rw [gL_sL, updL_eq]
          unfold dfb
          rw [anyB]
          have z : (cK C i == 0) = false := by simp; exact h0k
          by_cases e : t = cV C i
          · rw [if_pos e, l_or, l_0, s4 x hx _ hv, e]
            unfold dfb
            simp [z]
          · rw [if_neg e, s4 x hx t ht]
            unfold dfb
            simp [z]
        · show FX2_reckonAmiss_L23 _ (n + 1) _ _ = FX2_reckonAmiss_L23 _ n _ _
          rw [FX2_reckonAmiss_L23, hq.2.1, if_neg (nI_ge hi (by omega)), gd_t g, ci, k3, x_forceOf hC hq p2, ob_s, gd_t g, gd_t g, k1, k2, if_neg nk, if_neg (nI_pos (by omega)), if_neg n8, gd_t g, if_neg (show ¬ nI (cK C i) = 0 from nI_ne (b := 0) (by omega) (by omega) h0k), FX2_reckonAmiss_J122, if_pos rfl, gd_t gv, cv]
          exact store 0 _ _ (by rw [if_pos rfl])) (n := 5000) (by omega) (a := σ) ⟨z1, z2, fun _ _ p hp => absurd hp (Nat.not_lt_zero p), fun x hx t ht => by rw [z3 t ht, l_0]; rfl⟩
  exact ⟨σ', h1, y1, y2, y3⟩
