/-! reckonForce: the tables hold what is in force -/
theorem sL_sL (σ : SS) (k : Nat) (f g : Nat → Int64) : sL (sL σ k f) k g = sL σ k g := by
  unfold sL
  congr 2
  funext j
  by_cases h : j = k
  · simp [h]
  · simp [h]
theorem gL_sL (σ : SS) (k : Nat) (f : Nat → Int64) : gL (sL σ k f) k = f := by unfold gL sL; simp
theorem gL_ne (σ : SS) {k j : Nat} (h : j ≠ k) (f : Nat → Int64) : gL (sL σ k f) j = gL σ j := by unfold gL sL; simp [h]
theorem sL_self (σ : SS) (k : Nat) : sL σ k (gL σ k) = σ := by
  unfold sL gL
  have e : (fun j => if j = k then σ.2.2 k else σ.2.2 j) = σ.2.2 := by
    funext j
    by_cases h : j = k
    · subst h; simp
    · simp [h]
  rw [e]
theorem updL_eq (f : Nat → Int64) (k : Nat) (v : Int64) (j : Nat) : vp_updL f k v j = if j = k then v else f j := rfl
theorem one_sk {C : Cd} {x : Nat} {sk S : Nat → Bool} {c : Nat} : one C x sk S c = (!sk c && one C x (fun _ => false) S c) := by
  unfold one
  cases hold C x c <;> cases sk c <;> simp
theorem rds_pf {C : Cd} (hC : WfC C) {x : Nat} {sk : Nat → Bool} : ∀ k, ∀ c, c < cN C → rds (one C x sk) (cN C) k c = true → one C x sk (rds (one C x sk) (cN C) k) c = true
  | 0, c, _, h => by cases h
  | k + 1, c, hc, h => swp_pf (one_mono hC) (rds_pf hC k) (Nat.le_refl _) c hc h
theorem x_turn {a : SS} {C : Cd} (hC : WfC C) (ha : RepX a C) {s : Int32} {sk : Nat → Bool} (hs : ∀ c, c < cN C → bt s c = sk c) (v3 : Int32) (k : Int32 → SS → Option SS) {T0 : Nat → Int64} (hp : ∀ x, x < 64 → ∀ c, c < cN C → tS T0 x c = true → one C x sk (tS T0 x) c = true) :
    ∃ (v : Int32) (T : Nat → Int64), (∀ x, x < 64 → ∀ j, j < cN C → tS T x j = swp (one C x sk) (cN C) (tS T0 x) j) ∧ ((v = 0 ∧ ∀ j, j < cN C → T j = T0 j) ∨ v = 1) ∧ FX2_reckonForce_L40 s v3 k 5000 0 (nI 0) (sL a 81 T0) = k v (sL a 81 T) := by
  have w1 := hC.1
  obtain ⟨⟨v, σ⟩, ⟨T, e1, h1, h2⟩, h3⟩ := lpk (fun n (q : Int32 × SS) i => FX2_reckonForce_L40 s v3 k n q.1 i q.2) (cN C) (fun q => k q.1 q.2)
    (fun i q => ∃ T, q.2 = sL a 81 T ∧ (∀ x, x < 64 → ∀ j, j < cN C → tS T x j = swp (one C x sk) i (tS T0 x) j) ∧ ((q.1 = 0 ∧ ∀ j, j < cN C → T j = T0 j) ∨ q.1 = 1)) (by
    rintro n ⟨v, σ⟩ ⟨T, e1, -⟩
    have e1 : σ = sL a 81 T := e1
    show FX2_reckonForce_L40 s v3 k (n + 1) v (nI (cN C)) σ = k v σ
    subst e1
    rw [FX2_reckonForce_L40, show gI (sL a 81 T) 40 = nI (cN C) from ha.1, if_pos (nI_le (Nat.le_refl _) (by omega))]) (by
    rintro n i ⟨v, σ⟩ hi ⟨T, e1, h1, h2⟩
    have e1 : σ = sL a 81 T := e1
    subst e1
    have ha2 : RepX (sL a 81 T) C := ha
    have ci : Int32.toNatClampNeg (nI i) = i := nI_clamp (by omega)
    have g : inb (nI i) 16 = true := inb_n (by omega) (by omega)
    have gT : gL (sL a 81 T) 81 = T := gL_sL a 81 T
    obtain ⟨t0, f1, f2⟩ := x_forceSoFar hC ha2 hi
    rw [gT] at f2
    -- what is stored
    obtain ⟨t, et, ft⟩ : ∃ t : Int64, (if bI (sk i) = 0 then ob (FX2_forceSoFar (sL a 81 T) (nI i)) (fun r12 => FX2_reckonForce_J71 (sL a 81 T) (fun a26 a27 σ28 => FX2_reckonForce_L40 s v3 k n a26 a27 σ28) s v v3 (nI i) r12) else FX2_reckonForce_J71 (sL a 81 T) (fun a29 a30 σ31 => FX2_reckonForce_L40 s v3 k n a29 a30 σ31) s v v3 (nI i) 0) = FX2_reckonForce_J71 (sL a 81 T) (fun a29 a30 σ31 => FX2_reckonForce_L40 s v3 k n a29 a30 σ31) s v v3 (nI i) t ∧ ∀ x, x < 64 → lb t x = one C x sk (tS T x) i := by
      cases hk : sk i with
      | false =>
        refine ⟨t0, by rw [if_pos bI_f, f1, ob_s], fun x hx => ?_⟩
        rw [one_sk, hk, f2 x hx]; rfl
      | true =>
        refine ⟨0, by rw [if_neg bI_n], fun x hx => ?_⟩
        rw [one_sk, hk, l_0]; rfl
    have swn : ∀ x, x < 64 → ∀ j, j < cN C → tS (vp_updL T i t) x j = swp (one C x sk) (i + 1) (tS T0 x) j := by
      intro x hx j hj
      rw [swp_s]
      have pf := swp_pf (one_mono hC) (hp x hx) (i := i) (by omega) i hi
      have oc : one C x sk (tS T x) i = one C x sk (swp (one C x sk) i (tS T0 x)) i := one_cong hC hi (h1 x hx)
      by_cases e : j = i
      · subst e
        rw [if_pos rfl]
        show lb (vp_updL T j t j) x = _
        rw [updL_eq, if_pos rfl, ft x hx, oc]
        cases hh : swp (one C x sk) j (tS T0 x) j with
        | false => rfl
        | true => rw [pf hh]; rfl
      · rw [if_neg e]
        show lb (vp_updL T i t j) x = _
        rw [updL_eq, if_neg e]
        exact h1 x hx j hj
    have st : FX2_reckonForce_L40 s v3 k (n + 1) v (nI i) (sL a 81 T) = FX2_reckonForce_J71 (sL a 81 T) (fun a29 a30 σ31 => FX2_reckonForce_L40 s v3 k n a29 a30 σ31) s v v3 (nI i) t := by
      rw [FX2_reckonForce_L40, show gI (sL a 81 T) 40 = nI (cN C) from ha.1, if_neg (nI_ge hi (by omega)), x_has _ s (by omega : i < 32), ob_s, hs i hi, et]
    have grow : FX2_reckonForce_J90 (sL a 81 T) (fun a29 a30 σ31 => FX2_reckonForce_L40 s v3 k n a29 a30 σ31) s v3 (nI i) t = FX2_reckonForce_L40 s v3 k n 1 (nI (i + 1)) (sL a 81 (vp_updL T i t)) := by
      rw [FX2_reckonForce_J90, gd_t g, bd_e, ci, gT, sL_sL, nI_1]
    rcases h2 with ⟨ev, hT⟩ | ev
    · have ev : v = 0 := ev
      subst ev
      by_cases ht : t = T i
      · refine ⟨(0, sL a 81 (vp_updL T i t)), ⟨_, rfl, swn, Or.inl ⟨rfl, fun j hj => ?_⟩⟩, ?_⟩
        · rw [updL_eq]
          by_cases e : j = i
          · subst e; rw [if_pos rfl, ht]; exact hT j hj
          · rw [if_neg e]; exact hT j hj
        · show FX2_reckonForce_L40 s v3 k (n + 1) 0 (nI i) (sL a 81 T) = FX2_reckonForce_L40 s v3 k n 0 (nI (i + 1)) _
          rw [st, FX2_reckonForce_J71, if_pos rfl, gd_t g, ci, gT, if_pos (cmp_0.mpr ht), gd_t g, bd_e, sL_sL, nI_1]
      · refine ⟨(1, sL a 81 (vp_updL T i t)), ⟨_, rfl, swn, Or.inr rfl⟩, ?_⟩
        show FX2_reckonForce_L40 s v3 k (n + 1) 0 (nI i) (sL a 81 T) = FX2_reckonForce_L40 s v3 k n 1 (nI (i + 1)) _
        rw [st, FX2_reckonForce_J71, if_pos rfl, gd_t g, ci, gT, if_neg (fun z => ht (cmp_0.mp z)), grow]
    · have ev : v = 1 := ev
      subst ev
      refine ⟨(1, sL a 81 (vp_updL T i t)), ⟨_, rfl, swn, Or.inr rfl⟩, ?_⟩
      show FX2_reckonForce_L40 s v3 k (n + 1) 1 (nI i) (sL a 81 T) = FX2_reckonForce_L40 s v3 k n 1 (nI (i + 1)) _
      rw [st, FX2_reckonForce_J71, if_neg (by decide), grow]) (n := 5000) (by omega) (a := (0, sL a 81 T0)) ⟨T0, rfl, fun _ _ _ _ => rfl, Or.inl ⟨rfl, fun _ _ => rfl⟩⟩
  have e1 : σ = sL a 81 T := e1
  subst e1
  exact ⟨v, T, h1, h2, h3⟩
theorem x_reckonForce {a : SS} {C : Cd} (hC : WfC C) (ha : RepX a C) {s : Int32} {sk : Nat → Bool} (hs : ∀ c, c < cN C → bt s c = sk c) :
    ∃ T : Nat → Int64, FX2_reckonForce a s = some (sL a 81 T) ∧ ∀ x, x < 64 → ∀ j, j < cN C → lb (T j) x = inF C x sk j := by
  have w1 := hC.1
  obtain ⟨σ, ⟨T0, e0, z0⟩, h0⟩ := lpk (fun n (q : SS) i => FX2_reckonForce_L2 s (fun σ4 => FX2_reckonForce_L25 s (fun σ34 => some σ34) 5000 1 0 σ4) n i q) 16 (fun σ4 => FX2_reckonForce_L25 s (fun σ34 => some σ34) 5000 1 0 σ4)
    (fun i q => ∃ T, q = sL a 81 T ∧ ∀ j, j < i → T j = 0) (by
    rintro n q -
    show FX2_reckonForce_L2 _ _ _ _ _ = _
    rw [FX2_reckonForce_L2, if_pos (by decide)]) (by
    rintro n i q hi ⟨T, e1, h1⟩
    subst e1
    refine ⟨sL a 81 (vp_updL T i 0), ⟨_, rfl, fun j hj => ?_⟩, ?_⟩
    · rw [updL_eq]
      by_cases e : j = i
      · rw [if_pos e]
      · rw [if_neg e]; exact h1 j (by omega)
    · show FX2_reckonForce_L2 _ _ _ _ _ = FX2_reckonForce_L2 _ _ _ _ _
      rw [FX2_reckonForce_L2, if_neg (by rw [show (16 : Int32) = nI 16 from rfl]; exact nI_ge hi (by omega)), gd_t (inb_n (by omega) (by omega)), bd_e, nI_clamp (by omega), gL_sL, sL_sL, nI_1]) (n := 5000) (by omega) (a := a) ⟨gL a 81, (sL_self a 81).symm, fun j hj => absurd hj (Nat.not_lt_zero j)⟩
  subst e0
  have h0 : FX2_reckonForce a s = FX2_reckonForce_L25 s (fun σ34 => some σ34) 5000 1 (nI 0) (sL a 81 T0) := h0
  rw [h0]
  have fin := lp (fun n (q : Int32 × SS) i => FX2_reckonForce_L25 s (fun σ34 => some σ34) n q.1 i q.2) 17
    (fun i q => ∃ T, q.2 = sL a 81 T ∧ ((q.1 = 1 ∧ ∀ x, x < 64 → ∀ j, j < cN C → tS T x j = rds (one C x sk) (cN C) i j) ∨ (q.1 = 0 ∧ ∀ x, x < 64 → ∀ j, j < cN C → tS T x j = inF C x sk j)))
    (fun r => ∃ T, r = some (sL a 81 T) ∧ ∀ x, x < 64 → ∀ j, j < cN C → lb (T j) x = inF C x sk j) (by
    rintro n ⟨v, σ⟩ ⟨T, e1, h1⟩
    have e1 : σ = sL a 81 T := e1
    subst e1
    refine ⟨T, ?_, ?_⟩
    · show FX2_reckonForce_L25 _ _ _ _ _ _ = _
      rw [FX2_reckonForce_L25, if_pos (by decide)]
    · rcases h1 with ⟨-, h1⟩ | ⟨-, h1⟩
      · intro x hx j hj
        exact (h1 x hx j hj).trans (inF_rds hC x sk (by omega) hj)
      · exact h1) (by
    rintro n i ⟨v, σ⟩ hi ⟨T, e1, h1⟩
    have e1 : σ = sL a 81 T := e1
    subst e1
    have l16 : ¬ (16 : Int32) < nI i := by rw [show (16 : Int32) = nI 16 from rfl]; exact nI_nlt (by omega) (by omega)
    rcases h1 with ⟨ev, h1⟩ | ⟨ev, h1⟩
    · right
      have ev : v = 1 := ev
      subst ev
      have hp : ∀ x, x < 64 → ∀ c, c < cN C → tS T x c = true → one C x sk (tS T x) c = true := by
        intro x hx c hc h
        rw [h1 x hx c hc] at h
        rw [one_cong hC hc (h1 x hx)]
        exact rds_pf hC i c hc h
      obtain ⟨v', T', g1, g2, g3⟩ := x_turn hC ha hs (nI i) (fun u32 σ33 => FX2_reckonForce_L25 s (fun σ34 => some σ34) n u32 (nI i + 1) σ33) hp
      have sw : ∀ x, x < 64 → ∀ j, j < cN C → tS T' x j = rds (one C x sk) (cN C) (i + 1) j := by
        intro x hx j hj
        rw [g1 x hx j hj, rds]
        exact swp_cong (one_g hC) (h1 x hx) (Nat.le_refl _) j hj
      refine ⟨(v', sL a 81 T'), ⟨T', rfl, ?_⟩, ?_⟩
      · rcases g2 with ⟨e, hT⟩ | e
        · right
          refine ⟨e, fun x hx j hj => ?_⟩
          have same : ∀ j, j < cN C → rds (one C x sk) (cN C) (i + 1) j = rds (one C x sk) (cN C) i j := by
            intro j hj
            rw [← sw x hx j hj, ← h1 x hx j hj]
            show lb (T' j) x = lb (T j) x
            rw [hT j hj]
          show lb (T' j) x = _
          rw [hT j hj]
          have q1 : lb (T j) x = rds (one C x sk) (cN C) i j := h1 x hx j hj
          rw [q1, rds_stop (one_g hC) same j hj, ← inF_rds hC x sk (Nat.le_refl _) hj]
        · exact Or.inl ⟨e, sw⟩
      · show FX2_reckonForce_L25 _ _ _ _ _ _ = FX2_reckonForce_L25 _ _ _ _ _ _
        have g3 : FX2_reckonForce_L40 s (nI i) (fun u32 σ33 => FX2_reckonForce_L25 s (fun σ34 => some σ34) n u32 (nI i + 1) σ33) 5000 0 0 (sL a 81 T) = FX2_reckonForce_L25 s (fun σ34 => some σ34) n v' (nI i + 1) (sL a 81 T') := g3
        rw [FX2_reckonForce_L25, if_neg l16, if_neg (show ¬ (1 : Int32) = 0 by decide), g3, nI_1]
    · left
      have ev : v = 0 := ev
      subst ev
      refine ⟨T, ?_, h1⟩
      show FX2_reckonForce_L25 _ _ _ _ _ _ = _
      rw [FX2_reckonForce_L25, if_neg l16, if_pos rfl]) 17 5000 0 (1, sL a 81 T0) (by omega) (by omega) ⟨T0, rfl, Or.inl ⟨rfl, fun x hx j hj => by show lb (T0 j) x = false; rw [z0 j (by omega), l_0]⟩⟩
  exact fin
