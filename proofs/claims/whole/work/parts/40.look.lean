/-! what the answers that there can be yet would bring -/
def can (K A x : Nat) : Bool := allB (fun q => !K.testBit q || (x.testBit q == A.testBit q)) 6
/-- answers: those that there are, those that are yes -/
def Stn (K A : Nat) : Prop := K < 64 ∧ A < 64 ∧ ∀ q, A.testBit q = true → K.testBit q = true
theorem can_self (K A : Nat) : can K A A = true := by
  unfold can
  rw [allB_iff]
  intro q _
  simp
theorem x_possible {a : SS} {K A : Nat} (hK : gI a 60 = nI K) (hA : gI a 61 = nI A) : ∃ t, FX3_possible a = some t ∧ ∀ x, x < 64 → lb t x = can K A x := by
  obtain ⟨t, h1, h2⟩ := x_agreeing a (nI K) (nI A)
  refine ⟨t, ?_, fun x hx => ?_⟩
  · rw [FX3_possible, hK, hA, h1, ob_s]
  · rw [h2 x hx]
    unfold can
    apply beq_of
    rw [allB_iff, allB_iff]
    constructor
    · intro h q hq; have := h q hq; rwa [b_nI _ (by omega), b_nI _ (by omega)] at this
    · intro h q hq; rw [b_nI _ (by omega), b_nI _ (by omega)]; exact h q hq
theorem m_canBe {b : SS} {K A : Nat} (hs : Stn K A) (hK : gI b 24 = nI K) (hA : gI b 25 = nI A) (x : Nat) : FX8_canBe b (nI x) = some (bI (can K A x)) := by
  obtain ⟨h1, h2, h3⟩ := hs
  have e : (nI x &&& nI K) = nI A ↔ can K A x = true := by
    unfold can
    rw [allB_iff]
    constructor
    · intro h q hq
      have h4 := congrArg (fun z => bt z q) h
      simp only [b_and, b_nI _ (show q < 32 by omega)] at h4
      cases hk : K.testBit q with
      | false => rfl
      | true => rw [hk, Bool.and_true] at h4; simp [h4]
    · intro h
      apply b_ext
      intro q hq
      rw [b_and, b_nI _ hq, b_nI _ hq, b_nI _ hq]
      by_cases q6 : q < 6
      · have := h q q6
        cases hk : K.testBit q with
        | false =>
          cases ha : A.testBit q with
          | false => simp
          | true => rw [h3 q ha] at hk; cases hk
        | true => rw [hk] at this; simp at this; rw [this, Bool.and_true]
      · rw [b_lt (m := 6) h1 (by omega), b_lt (m := 6) h2 (by omega)]; simp
  unfold FX8_canBe
  rw [hK, hA]
  cases hc : can K A x with
  | true => rw [if_pos (e.mpr hc)]; rfl
  | false => rw [if_neg (fun z => by rw [e.mp z] at hc; cases hc)]; rfl
theorem m_forces {b : SS} {C : Cd} (hC : WfC C) (hb : RepM b C) {sk : Nat → Bool} (hk : ∀ c, c < cN C → bt (gI b 26) c = sk c) : ∃ σ, FX8_forces b = some σ ∧ smM b σ ∧ ∀ x, x < 64 → ∀ j, j < 32 → bt (gA σ 31 x) j = inF C x sk j := by
  obtain ⟨σ, ⟨z1, z2⟩, h0⟩ := lpk (fun n (q : SS) i => FX8_forces_L2 (fun σ6 => some σ6) n i q) 64 (fun σ6 => some σ6) (fun i q => smM b q ∧ ∀ x, x < i → ∀ j, j < 32 → bt (gA q 31 x) j = inF C x sk j) (by
    rintro n q -
    show FX8_forces_L2 _ _ _ _ = _
    rw [FX8_forces_L2, if_pos (by decide)]) (by
    rintro n i q hi ⟨s1, s2⟩
    obtain ⟨F, e1, e2⟩ := m_forceBy hC (smM_R s1 hb) i (sk := sk) (fun c hc => by rw [s1.1 26 (by decide)]; exact hk c hc)
    refine ⟨sA q 31 (upd (gA q 31) i F), ⟨smM_A s1 (by omega) _, fun x hx j hj => ?_⟩, ?_⟩
    · rw [gA_sA, upd_eq]
      by_cases e : x = i
      · rw [if_pos e, e]; exact e2 j hj
      · rw [if_neg e]; exact s2 x (by omega) j hj
    · show FX8_forces_L2 _ _ _ _ = FX8_forces_L2 _ _ _ _
      rw [FX8_forces_L2, if_neg (by rw [show (64 : Int32) = nI 64 from rfl]; exact nI_ge hi (by omega)), e1, ob_s, gd_t (inb_n (by omega) (by omega)), bd_e, nI_clamp (by omega), nI_1]) (n := 5000) (by omega) (a := b) ⟨smM_r b, fun x hx => absurd hx (Nat.not_lt_zero x)⟩
  exact ⟨σ, h0, z1, z2⟩
theorem l64 {i : Nat} (hi : i < 64) : ¬ (64 : Int32) ≤ nI i := by rw [show (64 : Int32) = nI 64 from rfl]; exact nI_ge hi (by omega)
/-! brings, ways, first way -/
def brg (C : Cd) (K A : Nat) (sk : Nat → Bool) (c : Nat) : Nat := fb_ct (fun x => can K A x && inF C x sk c) 64
theorem x_brings {a : SS} {C : Cd} {sk : Nat → Bool} {K A : Nat} (hC : WfC C) (ha : RepX a C) (hT : Tabs a C sk) (hK : gI a 60 = nI K) (hA : gI a 61 = nI A) {c : Nat} (hc : c < cN C) : FX3_brings a (nI c) = some (nI (brg C K A sk c)) := by
  obtain ⟨t, e1, e2⟩ := x_possible hK hA
  rw [FX3_brings, x_forceOf hC ha hc, ob_s, e1, ob_s, x_onesL, ob_s]
  unfold brg
  rw [fb_ct_cong fun x hx => by rw [l_and, (hT x hx).1 c hc, e2 x hx, Bool.and_comm]]
theorem m_brings {b : SS} {C : Cd} (hC : WfC C) (hb : RepM b C) {sk : Nat → Bool} (hk : ∀ c, c < cN C → bt (gI b 26) c = sk c) {K A : Nat} (hs : Stn K A) (hK : gI b 24 = nI K) (hA : gI b 25 = nI A) {c : Nat} (hc : c < cN C) : ∃ σ, FX8_brings b (nI c) = some (nI (brg C K A sk c), σ) ∧ smM b σ := by
  have w1 := hC.1
  obtain ⟨σ, e1, s1, f1⟩ := m_forces hC hb hk
  obtain ⟨r, h1, h2⟩ := lpk (fun n (q : Int32) i => FX8_brings_L8 σ (nI c) (fun u => some (u, σ)) n q i) 64 (fun u => some (u, σ)) (fun i q => q = nI (fb_ct (fun x => can K A x && inF C x sk c) i)) (by
    intro n q _
    show FX8_brings_L8 _ _ _ _ _ _ = _
    rw [FX8_brings_L8, if_pos (by decide)]) (by
    intro n i q hi e
    refine ⟨_, rfl, ?_⟩
    show FX8_brings_L8 _ _ _ _ _ _ = FX8_brings_L8 _ _ _ _ _ _
    rw [FX8_brings_L8, if_neg (l64 hi), m_canBe hs ((s1.1 24 (by decide)).trans hK) ((s1.1 25 (by decide)).trans hA), ob_s, gd_t (inb_n (by omega) (by omega)), nI_clamp (by omega), m_has σ _ (by omega : c < 32), ob_s, f1 i hi c (by omega), e, fb_ct_succ, nI_1]
    cases can K A i with
    | false => rw [if_pos bI_f, Int32.add_zero]; rfl
    | true =>
      rw [if_neg bI_n]
      cases inF C i sk c with
      | false => rw [if_pos bI_f, Int32.add_zero]; rfl
      | true => rw [if_neg bI_n, show (1 : Int32) = nI 1 from rfl, nI_add]; rfl) (n := 5000) (by omega) (a := 0) rfl
  refine ⟨σ, ?_, s1⟩
  have h2 : FX8_brings_L8 σ (nI c) (fun u => some (u, σ)) 5000 0 0 = some (r, σ) := h2
  rw [FX8_brings, e1, ob_s, h2, h1]; rfl
def okw (C : Cd) (K A : Nat) (sk : Nat → Bool) (x : Nat) : Bool := can K A x && decide (nwr C (inF C x sk) = 0)
theorem x_ways {a : SS} {C : Cd} {sk : Nat → Bool} {K A : Nat} (hC : WfC C) (ha : RepX a C) (hT : Tabs a C sk) (hK : gI a 60 = nI K) (hA : gI a 61 = nI A) : FX3_ways a = some (nI (fb_ct (okw C K A sk) 64)) ∧ FX3_firstWay a = some (fidx (okw C K A sk) 0 64) := by
  obtain ⟨t, e1, e2⟩ := x_possible hK hA
  obtain ⟨f, e3, e4⟩ := x_faultless hC ha hT
  have bit : ∀ x, x < 64 → lb (f &&& t) x = okw C K A sk x := fun x hx => by
    unfold okw; rw [l_and, e4 x hx, e2 x hx, Bool.and_comm]
  constructor
  · rw [FX3_ways, e3, ob_s, e1, ob_s, x_onesL, ob_s, fb_ct_cong bit]
  · rw [FX3_firstWay, e3, ob_s, e1, ob_s]
    have h := lp (fun n (_ : Unit) i => FX3_firstWay_L15 a (f &&& t) (some (-1)) n i) 64 (fun i _ => fidx (okw C K A sk) 0 64 = fidx (okw C K A sk) i (64 - i)) (fun r => r = some (fidx (okw C K A sk) 0 64)) (by
      intro n _ h
      show FX3_firstWay_L15 _ _ _ _ _ = _
      rw [FX3_firstWay_L15, if_pos (by decide), h]; rfl) (by
      intro n i _ hi h
      have st : FX3_firstWay_L15 a (f &&& t) (some (-1)) (n + 1) (nI i) = if bI (okw C K A sk i) = 0 then FX3_firstWay_L15 a (f &&& t) (some (-1)) n (nI (i + 1)) else some (nI i) := by
        rw [FX3_firstWay_L15, if_neg (l64 hi), x_isSo a _ hi, ob_s, bit i hi, nI_1]
      rw [fidx_s _ hi] at h
      cases hm : okw C K A sk i with
      | false => rw [hm] at h st; exact Or.inr ⟨(), h, st.trans (if_pos bI_f)⟩
      | true => rw [hm, if_pos rfl] at h; rw [hm] at st; exact Or.inl ((st.trans (if_neg bI_n)).trans (by rw [h]))) 64 5000 0 () (by omega) (by omega) rfl
    exact h
theorem nwr_lt {C : Cd} (hC : WfC C) (S : Nat → Bool) : nwr C S < 2 ^ 30 := by
  have w2 := hC.2.1
  have a0 := fb_ct_le (fun p => cK C p == 0 && ami C S p) (cP C)
  have a1 := fb_ct_le (fun p => cK C p == 1 && ami C S p) (cP C)
  have a2 := fb_ct_le (fun p => cK C p == 2 && ami C S p) (cP C)
  have a3 := fb_ct_le (fun t => wsh (hng C S) 8 t t) 8
  unfold nwr cam nrd; omega
theorem m_ways {b : SS} {C : Cd} (hC : WfC C) (hb : RepM b C) {sk : Nat → Bool} (hk : ∀ c, c < cN C → bt (gI b 26) c = sk c) {K A : Nat} (hs : Stn K A) (hK : gI b 24 = nI K) (hA : gI b 25 = nI A) : (∃ σ, FX8_ways b 0 = some (nI (fb_ct (okw C K A sk) 64), σ) ∧ smM b σ) ∧ ∃ σ, FX8_ways b 1 = some (fidx (okw C K A sk) 0 64, σ) ∧ smM b σ := by
  have turn : ∀ (v1 : Int32) (kk : Int32 → SS → Option (Int32 × SS)) (n : Nat) (i : Nat) (hi : i < 64) (v : Int32) (q : SS) (hq : smM b q), ∃ q', smM b q' ∧ FX8_ways_L4 v1 kk (n + 1) v (nI i) q = if bI (okw C K A sk i) = 0 then FX8_ways_L4 v1 kk n v (nI (i + 1)) q' else if v1 = 0 then FX8_ways_L4 v1 kk n (v + 1) (nI (i + 1)) q' else some (nI i, q') := by
    intro v1 kk n i hi v q hq
    have hbq := smM_R hq hb
    obtain ⟨F, e1, e2⟩ := m_forceBy hC hbq i (sk := sk) (fun c hc => by rw [hq.1 26 (by decide)]; exact hk c hc)
    obtain ⟨q', e3, e4⟩ := m_wrongBy hC hbq F
    have ew : nwr C (bt F) = nwr C (inF C i sk) := nwr_cong hC fun j hj => e2 j (by have := hC.1; omega)
    cases hc : can K A i with
    | false =>
      refine ⟨q, hq, ?_⟩
      unfold okw
      rw [FX8_ways_L4, if_neg (l64 hi), m_canBe hs ((hq.1 24 (by decide)).trans hK) ((hq.1 25 (by decide)).trans hA), ob_s, hc, if_pos bI_f, nI_1]
      rw [if_pos (show bI (false && decide (nwr C (inF C i sk) = 0)) = 0 from rfl)]
    | true =>
      refine ⟨q', smM_t hq e4, ?_⟩
      unfold okw
      rw [FX8_ways_L4, if_neg (l64 hi), m_canBe hs ((hq.1 24 (by decide)).trans hK) ((hq.1 25 (by decide)).trans hA), ob_s, hc, if_neg bI_n, e1, ob_s, e3, ob_s, nI_1, ew, Bool.true_and]
      show (if nI (nwr C (inF C i sk)) = 0 then _ else _) = _
      by_cases z : nwr C (inF C i sk) = 0
      · rw [if_pos (show nI (nwr C (inF C i sk)) = 0 by rw [z]; rfl), if_neg (show ¬ bI (decide (nwr C (inF C i sk) = 0)) = 0 by rw [decide_eq_true z]; decide)]
      · rw [if_neg (show ¬ nI (nwr C (inF C i sk)) = 0 from nI_ne (b := 0) (by have := nwr_lt hC (inF C i sk); omega) (by omega) z), if_pos (show bI (decide (nwr C (inF C i sk) = 0)) = 0 by rw [decide_eq_false z]; rfl)]
  constructor
  · obtain ⟨⟨v, q⟩, ⟨h1, h3⟩, h2⟩ := lpk (fun n (z : Int32 × SS) i => FX8_ways_L4 0 (fun u11 σ12 => if (0 : Int32) = 0 then some (u11, σ12) else some (-1, σ12)) n z.1 i z.2) 64 (fun z => some (z.1, z.2)) (fun i z => z.1 = nI (fb_ct (okw C K A sk) i) ∧ smM b z.2) (by
      rintro n ⟨v, q⟩ -
      show FX8_ways_L4 _ _ _ _ _ _ = _
      rw [FX8_ways_L4, if_pos (by decide), if_pos rfl]) (by
      rintro n i ⟨v, q⟩ hi ⟨e, hq⟩
      have e : v = nI (fb_ct (okw C K A sk) i) := e
      obtain ⟨q', h1, h2⟩ := turn 0 (fun u11 σ12 => if (0 : Int32) = 0 then some (u11, σ12) else some (-1, σ12)) n i hi v q hq
      cases hw : okw C K A sk i with
      | false =>
        rw [hw, if_pos bI_f] at h2
        refine ⟨(v, q'), ⟨?_, h1⟩, h2⟩
        show v = _
        rw [e, fb_ct_succ, hw]; rfl
      | true =>
        rw [hw, if_neg bI_n, if_pos rfl] at h2
        refine ⟨(v + 1, q'), ⟨?_, h1⟩, h2⟩
        show v + 1 = _
        rw [e, fb_ct_succ, hw, show (1 : Int32) = nI 1 from rfl, nI_add]; rfl) (n := 5000) (by omega) (a := (0, b)) ⟨rfl, smM_r b⟩
    refine ⟨q, ?_, h3⟩
    have h1 : v = nI (fb_ct (okw C K A sk) 64) := h1
    rw [← h1]
    exact h2
  · have h := lp (fun n (z : SS) i => FX8_ways_L4 1 (fun u11 σ12 => if (1 : Int32) = 0 then some (u11, σ12) else some (-1, σ12)) n 0 i z) 64 (fun i z => smM b z ∧ fidx (okw C K A sk) 0 64 = fidx (okw C K A sk) i (64 - i)) (fun r => ∃ σ, r = some (fidx (okw C K A sk) 0 64, σ) ∧ smM b σ) (by
      rintro n q ⟨hq, h⟩
      refine ⟨q, ?_, hq⟩
      show FX8_ways_L4 _ _ _ _ _ _ = _
      rw [FX8_ways_L4, if_pos (by decide), if_neg (by decide), h]; rfl) (by
      rintro n i q hi ⟨hq, h⟩
      obtain ⟨q', h1, h2⟩ := turn 1 (fun u11 σ12 => if (1 : Int32) = 0 then some (u11, σ12) else some (-1, σ12)) n i hi 0 q hq
      rw [fidx_s _ hi] at h
      cases hw : okw C K A sk i with
      | false =>
        rw [hw, if_pos bI_f] at h2
        rw [hw] at h
        exact Or.inr ⟨q', ⟨h1, h⟩, h2⟩
      | true =>
        rw [hw, if_neg bI_n, if_neg (by decide)] at h2
        rw [hw, if_pos rfl] at h
        exact Or.inl ⟨q', by rw [h]; exact h2, h1⟩) 64 5000 0 b (by omega) (by omega) ⟨smM_r b, rfl⟩
    exact h
