/-! what the reference may write beside: its scratch rows -/
def smM (b σ : SS) : Prop := (∀ k, k ≠ 34 → gI σ k = gI b k) ∧ ∀ k, k ≠ 31 → k ≠ 32 → k ≠ 33 → gA σ k = gA b k
theorem smM_r (b : SS) : smM b b := ⟨fun _ _ => rfl, fun _ _ _ _ => rfl⟩
theorem smM_t {a b c : SS} (h : smM a b) (h2 : smM b c) : smM a c := ⟨fun k hk => (h2.1 k hk).trans (h.1 k hk), fun k h31 h32 h33 => (h2.2 k h31 h32 h33).trans (h.2 k h31 h32 h33)⟩
theorem gA_sA (σ : SS) (k : Nat) (f : Nat → Int32) : gA (sA σ k f) k = f := by unfold gA sA; simp
theorem gA_ne (σ : SS) {k j : Nat} (h : j ≠ k) (f : Nat → Int32) : gA (sA σ k f) j = gA σ j := by unfold gA sA; simp [h]
theorem gI_sI (σ : SS) (k : Nat) (v : Int32) : gI (sI σ k v) k = v := by unfold gI sI; simp
theorem gI_ne (σ : SS) {k j : Nat} (h : j ≠ k) (v : Int32) : gI (sI σ k v) j = gI σ j := by unfold gI sI; simp [h]
theorem smM_A {b σ : SS} (h : smM b σ) {k : Nat} (hk : k = 31 ∨ k = 32 ∨ k = 33) (f : Nat → Int32) : smM b (sA σ k f) :=
  ⟨h.1, fun j h1 h2 h3 => (gA_ne σ (by omega) f).trans (h.2 j h1 h2 h3)⟩
theorem smM_I {b σ : SS} (h : smM b σ) (v : Int32) : smM b (sI σ 34 v) := ⟨fun j hj => (gI_ne σ hj v).trans (h.1 j hj), h.2⟩
theorem smM_R {b σ : SS} (h : smM b σ) {C : Cd} (hb : RepM b C) : RepM σ C := by
  unfold RepM
  rw [h.1 3 (by decide), h.1 8 (by decide), h.2 4 (by decide) (by decide) (by decide), h.2 5 (by decide) (by decide) (by decide), h.2 6 (by decide) (by decide) (by decide), h.2 7 (by decide) (by decide) (by decide), h.2 9 (by decide) (by decide) (by decide), h.2 10 (by decide) (by decide) (by decide), h.2 11 (by decide) (by decide) (by decide)]
  exact hb
theorem upd_eq (f : Nat → Int32) (k : Nat) (v : Int32) (j : Nat) : upd f k v j = if j = k then v else f j := rfl
theorem m_roundOf {b : SS} {C : Cd} (hC : WfC C) (hb : RepM b C) (s : Int32) : ∃ r σ, FX8_roundOf b s = some (r, σ) ∧ smM b σ ∧ ∀ o, o < 32 → bt r o = (decide (o < 8) && wsh (hng C (bt s)) 8 o o) := by
  obtain ⟨σ, ⟨z1, z2⟩, h0⟩ := lpk (fun n (q : SS) i => FX8_roundOf_L4 s 0 (fun σ6 => FX8_roundOf_L30 σ6 (fun u20 => some (u20, σ6)) 5000 0 0) n i q) 8 (fun σ6 => FX8_roundOf_L30 σ6 (fun u20 => some (u20, σ6)) 5000 0 0)
    (fun i q => smM b q ∧ ∀ t, t < i → ∀ o, o < 32 → bt (gA q 32 t) o = hng C (bt s) t o) (by
    rintro n q -
    show FX8_roundOf_L4 _ _ _ _ _ _ = _
    rw [FX8_roundOf_L4, if_pos (by decide)]) (by
    rintro n i q hi ⟨s1, s2⟩
    obtain ⟨r, e1, e2⟩ := m_hangsOn hC (smM_R s1 hb) s (show i < 2 ^ 30 by omega)
    refine ⟨sA q 32 (upd (gA q 32) i r), ⟨smM_A s1 (by omega) _, fun t ht o ho => ?_⟩, ?_⟩
    · rw [gA_sA, upd_eq]
      by_cases e : t = i
      · rw [if_pos e, e]; exact e2 o ho
      · rw [if_neg e]; exact s2 t (by omega) o ho
    · show FX8_roundOf_L4 _ _ _ _ _ _ = FX8_roundOf_L4 _ _ _ _ _ _
      rw [FX8_roundOf_L4, if_neg (by rw [show (8 : Int32) = nI 8 from rfl]; exact nI_ge hi (by omega)), e1, ob_s, gd_t (inb_n (by omega) (by omega)), bd_e, nI_clamp (by omega), nI_1]) (n := 5000) (by omega) (a := b) ⟨smM_r b, fun t ht => absurd ht (Nat.not_lt_zero t)⟩
  have h0 : FX8_roundOf b s = FX8_roundOf_L30 σ (fun u20 => some (u20, σ)) 5000 0 (nI 0) := h0
  rw [h0]
  obtain ⟨h, eh⟩ : ∃ h, h = hng C (bt s) := ⟨_, rfl⟩
  rw [← eh] at z2 ⊢
  -- one sweep
  have sweep : ∀ (v2 v3 v5 v : Int32) (K : Int32 → Option (Int32 × SS)) (S : Nat → Bool), (∀ o, o < 8 → bt v o = S o) → ∃ r, (∀ o, o < 8 → bt r o = swh h 8 S o) ∧ FX8_roundOf_L57 σ v2 v3 v5 K 5000 v (nI 0) = K r := by
    intro v2 v3 v5 v K S hv
    refine lpk (fun n (q : Int32) i => FX8_roundOf_L57 σ v2 v3 v5 K n q i) 8 K (fun i q => ∀ o, o < 8 → bt q o = swh h i S o) (by
      intro n q _
      show FX8_roundOf_L57 _ _ _ _ _ _ _ _ = _
      rw [FX8_roundOf_L57, if_pos (by decide)]) (by
      intro n i q hi e
      have l8 : ¬ (8 : Int32) ≤ nI i := by rw [show (8 : Int32) = nI 8 from rfl]; exact nI_ge hi (by omega)
      cases hq : bt q i with
      | false =>
        refine ⟨q, fun o ho => ?_, ?_⟩
        · show _ = (swh h i S o || (swh h i S i && h i o))
          rw [← e i hi, hq, e o ho]; simp
        · show FX8_roundOf_L57 _ _ _ _ _ _ _ _ = FX8_roundOf_L57 _ _ _ _ _ _ _ _
          rw [FX8_roundOf_L57, if_neg l8, m_has σ q (by omega : i < 32), ob_s, hq, if_pos bI_f, Int32.or_zero, nI_1]
      | true =>
        refine ⟨q ||| gA σ 32 i, fun o ho => ?_, ?_⟩
        · show _ = (swh h i S o || (swh h i S i && h i o))
          rw [b_or, ← e i hi, hq, e o ho, z2 i hi o (by omega)]; simp
        · show FX8_roundOf_L57 _ _ _ _ _ _ _ _ = FX8_roundOf_L57 _ _ _ _ _ _ _ _
          rw [FX8_roundOf_L57, if_neg l8, m_has σ q (by omega : i < 32), ob_s, hq, if_neg bI_n, gd_t (inb_n (by omega) (by omega)), nI_clamp (by omega), nI_1]) (n := 5000) (by omega) (a := v) hv
  have rounds : ∀ (v2 v3 v : Int32) (K : Int32 → Option (Int32 × SS)) (S : Nat → Bool), (∀ o, o < 8 → bt v o = S o) → ∃ r, (∀ o, o < 8 → bt r o = rdh h S 8 o) ∧ FX8_roundOf_L47 σ v2 v3 K 5000 v (nI 0) = K r := by
    intro v2 v3 v K S hv
    refine lpk (fun n (q : Int32) i => FX8_roundOf_L47 σ v2 v3 K n q i) 8 K (fun i q => ∀ o, o < 8 → bt q o = rdh h S i o) (by
      intro n q _
      show FX8_roundOf_L47 _ _ _ _ _ _ _ = _
      rw [FX8_roundOf_L47, if_pos (by decide)]) (by
      intro n i q hi e
      obtain ⟨r, e1, e2⟩ := sweep v2 v3 (nI i) q (fun u15 => FX8_roundOf_L47 σ v2 v3 K n u15 (nI i + 1)) (rdh h S i) e
      refine ⟨r, e1, ?_⟩
      show FX8_roundOf_L47 _ _ _ _ _ _ _ = FX8_roundOf_L47 _ _ _ _ _ _ _
      have e2 : FX8_roundOf_L57 σ v2 v3 (nI i) (fun u15 => FX8_roundOf_L47 σ v2 v3 K n u15 (nI i + 1)) 5000 q 0 = FX8_roundOf_L47 σ v2 v3 K n r (nI i + 1) := e2
      rw [FX8_roundOf_L47, if_neg (by rw [show (8 : Int32) = nI 8 from rfl]; exact nI_ge hi (by omega)), e2, nI_1]) (n := 5000) (by omega) (a := v) hv
  obtain ⟨r, h1, h2⟩ := lpk (fun n (q : Int32) i => FX8_roundOf_L30 σ (fun u20 => some (u20, σ)) n q i) 8 (fun u20 => some (u20, σ)) (fun i q => ∀ o, o < 32 → bt q o = (decide (o < i) && wsh h 8 o o)) (by
    intro n q _
    show FX8_roundOf_L30 _ _ _ _ _ = _
    rw [FX8_roundOf_L30, if_pos (by decide)]) (by
    intro n i q hi e
    obtain ⟨r, e1, e2⟩ := rounds q (nI i) (gA σ 32 i) (fun u16 => ob (FX8_has σ u16 (nI i)) (fun r18 => if r18 = 0 then FX8_roundOf_L30 σ (fun u20 => some (u20, σ)) n (q ||| 0) (nI i + 1) else FX8_roundOf_L30 σ (fun u20 => some (u20, σ)) n (q ||| jshl 1 (nI i)) (nI i + 1))) (h i) (fun o ho => z2 i hi o (by omega))
    have e2 : FX8_roundOf_L47 σ q (nI i) (fun u16 => ob (FX8_has σ u16 (nI i)) (fun r18 => if r18 = 0 then FX8_roundOf_L30 σ (fun u20 => some (u20, σ)) n (q ||| 0) (nI i + 1) else FX8_roundOf_L30 σ (fun u20 => some (u20, σ)) n (q ||| jshl 1 (nI i)) (nI i + 1))) 5000 (gA σ 32 i) 0 = _ := e2
    have st : FX8_roundOf_L30 σ (fun u20 => some (u20, σ)) (n + 1) q (nI i) = if bI (wsh h 8 i i) = 0 then FX8_roundOf_L30 σ (fun u20 => some (u20, σ)) n q (nI (i + 1)) else FX8_roundOf_L30 σ (fun u20 => some (u20, σ)) n (q ||| jshl 1 (nI i)) (nI (i + 1)) := by
      rw [FX8_roundOf_L30, if_neg (by rw [show (8 : Int32) = nI 8 from rfl]; exact nI_ge hi (by omega)), gd_t (inb_n (by omega) (by omega)), nI_clamp (by omega), e2]
      show ob (FX8_has σ r (nI i)) _ = _
      rw [m_has σ r (by omega : i < 32), ob_s, e1 i hi, rdh_wsh h hi hi, Int32.or_zero, nI_1]
    cases hw : wsh h 8 i i with
    | false =>
      rw [hw, if_pos bI_f] at st
      refine ⟨q, fun o ho => ?_, st⟩
      rw [e o ho]
      by_cases c : o = i
      · subst c; rw [hw]; simp
      · have : decide (o < i + 1) = decide (o < i) := by
          by_cases d : o < i
          · simp [d]; omega
          · simp [d]; omega
        rw [this]
    | true =>
      rw [hw, if_neg bI_n] at st
      refine ⟨_, fun o ho => ?_, st⟩
      rw [b_or, b_one (by omega) ho, e o ho]
      by_cases c : o = i
      · subst c; rw [hw]; simp
      · have : decide (o < i + 1) = decide (o < i) := by
          by_cases d : o < i
          · simp [d]; omega
          · simp [d]; omega
        rw [this]; simp [c]) (n := 5000) (by omega) (a := 0) (fun o _ => by rw [b_0]; simp)
  exact ⟨r, σ, h2, z1, h1⟩
theorem ct_cut (f : Nat → Bool) {m n : Nat} (h : m ≤ n) : fb_ct (fun o => decide (o < m) && f o) n = fb_ct f m := by
  obtain ⟨d, rfl⟩ : ∃ d, n = m + d := ⟨n - m, by omega⟩
  rw [fb_ct_split]
  have e1 : fb_ct (fun o => decide (o < m) && f o) m = fb_ct f m := fb_ct_cong fun k hk => by simp [hk]
  have e2 : fb_ct (fun k => decide (m + k < m) && f (m + k)) d = 0 := fb_ct_zero.mpr fun k _ => by
    have : ¬ m + k < m := by omega
    simp [this]
  rw [e1, e2]; rfl
def nrd (C : Cd) (S : Nat → Bool) : Nat := fb_ct (fun t => wsh (hng C S) 8 t t) 8
def nwr (C : Cd) (S : Nat → Bool) : Nat := cam C S 0 + cam C S 1 + cam C S 2 + nrd C S
theorem hng_eq {C : Cd} (hC : WfC C) {S T : Nat → Bool} (h : ∀ j, j < cN C → S j = T j) : hng C S = hng C T := by funext t o; exact hng_cong hC h t o
theorem nwr_cong {C : Cd} (hC : WfC C) {S T : Nat → Bool} (h : ∀ j, j < cN C → S j = T j) : nwr C S = nwr C T := by
  unfold nwr nrd
  rw [cam_cong hC h, cam_cong hC h, cam_cong hC h, hng_eq hC h]
theorem m_wrongBy {b : SS} {C : Cd} (hC : WfC C) (hb : RepM b C) (s : Int32) : ∃ σ, FX8_wrongBy b s = some (nI (nwr C (bt s)), σ) ∧ smM b σ := by
  obtain ⟨c1, c2, c3⟩ := m_count hC hb s
  obtain ⟨r, σ, e1, e2, e3⟩ := m_roundOf hC hb s
  refine ⟨σ, ?_, e2⟩
  rw [FX8_wrongBy, c1, ob_s, c2, ob_s, c3, ob_s, e1, ob_s]
  show ob (FX8_ones σ r) _ = _
  rw [m_ones, ob_s, nI_add, nI_add, nI_add, fb_ct_cong (fun o ho => e3 o (by omega)), ct_cut _ (by omega)]
  unfold nwr nrd
  rw [show cam C (bt s) 1 + cam C (bt s) 0 = cam C (bt s) 0 + cam C (bt s) 1 by omega]
theorem x_roundTerms {a : SS} {C : Cd} {sk : Nat → Bool} (hT : Tabs a C sk) {x : Nat} (hx : x < 64) : ∃ r, FX2_roundTerms a (nI x) = some r ∧ ∀ o, o < 32 → bt r o = (decide (o < 8) && wsh (hng C (inF C x sk)) 8 o o) := by
  obtain ⟨r, h1, h2⟩ := lpk (fun n (q : Int32) i => FX2_roundTerms_L4 a (nI x) (fun u => some u) n q i) 8 (fun u => some u) (fun i q => ∀ o, o < 32 → bt q o = (decide (o < i) && wsh (hng C (inF C x sk)) 8 o o)) (by
    intro n q _
    show FX2_roundTerms_L4 _ _ _ _ _ _ = _
    rw [FX2_roundTerms_L4, if_pos (by decide)]) (by
    intro n i q hi e
    have st : FX2_roundTerms_L4 a (nI x) (fun u => some u) (n + 1) q (nI i) = if bI (wsh (hng C (inF C x sk)) 8 i i) = 0 then FX2_roundTerms_L4 a (nI x) (fun u => some u) n q (nI (i + 1)) else FX2_roundTerms_L4 a (nI x) (fun u => some u) n (q ||| jshl 1 (nI i)) (nI (i + 1)) := by
      rw [FX2_roundTerms_L4, if_neg (by rw [show (8 : Int32) = nI 8 from rfl]; exact nI_ge hi (by omega)), ix8 hi hi, gd_t (inb_n (by omega) (by omega)), nI_clamp (by omega), x_isSo a _ hx, ob_s, (hT x hx).2.2.2 i hi i hi, nI_1]
    have dd : ∀ o, o ≠ i → decide (o < i + 1) = decide (o < i) := by
      intro o c
      by_cases d : o < i
      · simp [d]; omega
      · simp [d]; omega
    cases hw : wsh (hng C (inF C x sk)) 8 i i with
    | false =>
      rw [hw, if_pos bI_f] at st
      refine ⟨q, fun o ho => ?_, st⟩
      rw [e o ho]
      by_cases c : o = i
      · subst c; rw [hw]; simp
      · rw [dd o c]
    | true =>
      rw [hw, if_neg bI_n] at st
      refine ⟨_, fun o ho => ?_, st⟩
      rw [b_or, b_one (by omega) ho, e o ho]
      by_cases c : o = i
      · subst c; rw [hw]; simp
      · rw [dd o c]; simp [c]) (n := 5000) (by omega) (a := 0) (fun o _ => by rw [b_0]; simp)
  exact ⟨r, h2, h1⟩
theorem x_countWrong {a : SS} {C : Cd} {sk : Nat → Bool} (hC : WfC C) (ha : RepX a C) (hT : Tabs a C sk) {x : Nat} (hx : x < 64) : FX2_countWrong a (nI x) = some (nI (nwr C (inF C x sk))) := by
  obtain ⟨r, e1, e3⟩ := x_roundTerms hT hx
  have c0 : FX2_countAmiss a 0 (nI x) = _ := x_countAmiss hC ha hT (k := 0) (by omega) hx
  have c1 : FX2_countAmiss a 1 (nI x) = _ := x_countAmiss hC ha hT (k := 1) (by omega) hx
  have c2 : FX2_countAmiss a 2 (nI x) = _ := x_countAmiss hC ha hT (k := 2) (by omega) hx
  rw [FX2_countWrong, c0, ob_s, c1, ob_s, c2, ob_s, e1, ob_s, x_ones, ob_s, nI_add, nI_add, nI_add, fb_ct_cong (fun o ho => e3 o (by omega)), ct_cut _ (by omega)]
  rfl
theorem nwr_0 {C : Cd} (hC : WfC C) {S : Nat → Bool} : nwr C S = 0 ↔ (∀ p, p < cP C → ami C S p = false) ∧ ∀ t, t < 8 → wsh (hng C S) 8 t t = false := by
  have e : nwr C S = 0 ↔ cam C S 0 = 0 ∧ cam C S 1 = 0 ∧ cam C S 2 = 0 ∧ nrd C S = 0 := by unfold nwr; omega
  rw [e]
  unfold cam nrd
  rw [fb_ct_zero, fb_ct_zero, fb_ct_zero, fb_ct_zero]
  constructor
  · rintro ⟨h0, h1, h2, h3⟩
    refine ⟨fun p hp => ?_, h3⟩
    have k := (hC.2.2.2.2 p hp).1
    rcases (show cK C p = 0 ∨ cK C p = 1 ∨ cK C p = 2 by omega) with q | q | q
    · have := h0 p hp; rw [q] at this; simpa using this
    · have := h1 p hp; rw [q] at this; simpa using this
    · have := h2 p hp; rw [q] at this; simpa using this
  · rintro ⟨h, h3⟩
    exact ⟨fun p hp => by rw [h p hp]; simp, fun p hp => by rw [h p hp]; simp, fun p hp => by rw [h p hp]; simp, h3⟩
theorem x_faultless {a : SS} {C : Cd} {sk : Nat → Bool} (hC : WfC C) (ha : RepX a C) (hT : Tabs a C sk) : ∃ t, FX2_faultless a = some t ∧ ∀ x, x < 64 → lb t x = decide (nwr C (inF C x sk) = 0) := by
  have w2 := hC.2.1
  obtain ⟨v, h1, h2⟩ := lpk (fun n (q : Int64) i => FX2_faultless_L6 a (fun u4 => FX2_faultless_L38 a (fun u8 => some u8) 5000 u4 0) n q i) (cP C) (fun u4 => FX2_faultless_L38 a (fun u8 => some u8) 5000 u4 0) (fun i q => ∀ x, x < 64 → lb q x = allB (fun p => !ami C (inF C x sk) p) i) (by
    intro n q _
    show FX2_faultless_L6 _ _ _ _ _ = _
    rw [FX2_faultless_L6, ha.2.1, if_pos (nI_le (Nat.le_refl _) (by omega))]) (by
    intro n i q hi e
    refine ⟨q &&& (gL a 82 i ^^^ (-1)), fun x hx => ?_, ?_⟩
    · rw [l_and, l_not _ hx, e x hx, (hT x hx).2.1 i hi]
      unfold allB
      rw [anyB, Bool.not_or, Bool.not_not]
    · show FX2_faultless_L6 _ _ _ _ _ = FX2_faultless_L6 _ _ _ _ _
      rw [FX2_faultless_L6, ha.2.1, if_neg (nI_ge hi (by omega)), gd_t (inb_n (by omega) (by omega)), bd_e, nI_clamp (by omega), nI_1]) (n := 5000) (by omega) (a := -1) (fun x hx => by rw [l_m1 x hx]; rfl)
  obtain ⟨w, h3, h4⟩ := lpk (fun n (q : Int64) i => FX2_faultless_L38 a (fun u8 => some u8) n q i) 8 (fun u8 => some u8) (fun i q => ∀ x, x < 64 → lb q x = (allB (fun p => !ami C (inF C x sk) p) (cP C) && allB (fun t => !wsh (hng C (inF C x sk)) 8 t t) i)) (by
    intro n q _
    show FX2_faultless_L38 _ _ _ _ _ = _
    rw [FX2_faultless_L38, if_pos (by decide)]) (by
    intro n i q hi e
    refine ⟨q &&& (gL a 85 (i * 8 + i) ^^^ (-1)), fun x hx => ?_, ?_⟩
    · rw [l_and, l_not _ hx, e x hx, (hT x hx).2.2.2 i hi i hi, Bool.and_assoc]
      congr 1
      unfold allB
      rw [anyB, Bool.not_or, Bool.not_not]
    · show FX2_faultless_L38 _ _ _ _ _ = FX2_faultless_L38 _ _ _ _ _
      rw [FX2_faultless_L38, if_neg (by rw [show (8 : Int32) = nI 8 from rfl]; exact nI_ge hi (by omega)), ix8 hi hi, gd_t (inb_n (by omega) (by omega)), bd_e, nI_clamp (by omega), nI_1]) (n := 5000) (by omega) (a := v) (fun x hx => by rw [h1 x hx]; show _ = (_ && true); rw [Bool.and_true])
  refine ⟨w, ?_, fun x hx => ?_⟩
  · have h2 : FX2_faultless a = FX2_faultless_L38 a (fun u8 => some u8) 5000 v (nI 0) := h2
    rw [h2]; exact h4
  · rw [h3 x hx]
    apply beq_of
    rw [Bool.and_eq_true, allB_iff, allB_iff, decide_eq_true_eq, nwr_0 hC]
    constructor
    · rintro ⟨p, q⟩
      exact ⟨fun k hk => by simpa using p k hk, fun k hk => by simpa using q k hk⟩
    · rintro ⟨p, q⟩
      exact ⟨fun k hk => by rw [p k hk]; rfl, fun k hk => by rw [q k hk]; rfl⟩
theorem x_inForce {a : SS} {C : Cd} {sk : Nat → Bool} (hC : WfC C) (ha : RepX a C) (hT : Tabs a C sk) {x : Nat} (hx : x < 64) : ∃ F, FX2_inForce a (nI x) = some F ∧ ∀ j, j < 32 → bt F j = inF C x sk j := by
  have w1 := hC.1
  obtain ⟨r, h1, h2⟩ := lpk (fun n (q : Int32) i => FX2_inForce_L4 a (nI x) (fun u => some u) n q i) (cN C) (fun u => some u) (fun i q => ∀ o, o < 32 → bt q o = (decide (o < i) && inF C x sk o)) (by
    intro n q _
    show FX2_inForce_L4 _ _ _ _ _ _ = _
    rw [FX2_inForce_L4, ha.1, if_pos (nI_le (Nat.le_refl _) (by omega))]) (by
    intro n i q hi e
    have st : FX2_inForce_L4 a (nI x) (fun u => some u) (n + 1) q (nI i) = if bI (inF C x sk i) = 0 then FX2_inForce_L4 a (nI x) (fun u => some u) n q (nI (i + 1)) else FX2_inForce_L4 a (nI x) (fun u => some u) n (q ||| jshl 1 (nI i)) (nI (i + 1)) := by
      rw [FX2_inForce_L4, ha.1, if_neg (nI_ge hi (by omega)), gd_t (inb_n (by omega) (by omega)), nI_clamp (by omega), x_isSo a _ hx, ob_s, (hT x hx).1 i hi, nI_1]
    have dd : ∀ o, o ≠ i → decide (o < i + 1) = decide (o < i) := by
      intro o c
      by_cases d : o < i
      · simp [d]; omega
      · simp [d]; omega
    cases hw : inF C x sk i with
    | false =>
      rw [hw, if_pos bI_f] at st
      refine ⟨q, fun o ho => ?_, st⟩
      rw [e o ho]
      by_cases c : o = i
      · subst c; rw [hw]; simp
      · rw [dd o c]
    | true =>
      rw [hw, if_neg bI_n] at st
      refine ⟨_, fun o ho => ?_, st⟩
      rw [b_or, b_one (by omega) ho, e o ho]
      by_cases c : o = i
      · subst c; rw [hw]; simp
      · rw [dd o c]; simp [c]) (n := 5000) (by omega) (a := 0) (fun o _ => by rw [b_0]; simp)
  refine ⟨r, h2, fun j hj => ?_⟩
  rw [h1 j hj]
  by_cases c : j < cN C
  · simp [c]
  · have : inF C x sk j = false := rds_ge (by omega)
    rw [this]; simp
