/-! the two readers: references to what there is; the whole text -/
theorem both_check {a b : SS} {n : Nat} {C : Cd} {p q : SS} (h : OkD a b C p q) {i0 : Nat} (hi0 : i0 ≤ n) (h16 : gI p 16 = nI i0) : ∀ m k, k + m = cP C → (∀ i, i < k → cK C i = 2 → cV C i < cN C) → ∀ fx fm, m + 2 ≤ fx → m + 2 ≤ fm →
    (FX4_checkReferences_L2 p (some p) fx (nI k) = some p ∧ FX8_reads_L141 (fun σ60 => some σ60) fm (nI k) q = some q ∧ ∀ i, i < cP C → cK C i = 2 → cV C i < cN C) ∨ ∃ p' q', FX4_checkReferences_L2 p (some p) fx (nI k) = some p' ∧ FX8_reads_L141 (fun σ60 => some σ60) fm (nI k) q = some q' ∧ Bad a b n p' q' := by
  obtain ⟨f1, f2, e15, e23, e11, e2, hC, hX, hM, hL⟩ := id h
  have w1 := hC.1
  have w2 := hC.2.1
  intro m
  induction m with
  | zero =>
    intro k hk hr fx fm hfx hfm
    obtain ⟨fx, rfl⟩ : ∃ z, fx = z + 1 := ⟨fx - 1, by omega⟩
    obtain ⟨fm, rfl⟩ : ∃ z, fm = z + 1 := ⟨fm - 1, by omega⟩
    left
    have e : k = cP C := by omega
    rw [FX4_checkReferences_L2, hX.2.1, if_pos (nI_le (by omega) (by omega)), FX8_reads_L141, hM.2.1, if_pos (nI_le (by omega) (by omega))]
    exact ⟨rfl, rfl, by rw [← e]; exact hr⟩
  | succ m ih =>
    intro k hk hr fx fm hfx hfm
    obtain ⟨fx, rfl⟩ : ∃ z, fx = z + 2 := ⟨fx - 2, by omega⟩
    obtain ⟨fm, rfl⟩ : ∃ z, fm = z + 2 := ⟨fm - 2, by omega⟩
    have kp : k < cP C := by omega
    have c4 : inb (nI k) 30 = true := inb_n (by omega) (by omega)
    have c5 : Int32.toNatClampNeg (nI k) = k := nI_clamp (by omega)
    have g := hC.2.2.2.2 k kp
    have gv : cV C k < 16 := by
      by_cases e : cK C k = 2
      · exact g.2.2.1 e
      · have := g.2.2.2 e; omega
    have X : FX4_checkReferences_L2 p (some p) (fx + 2) (nI k) = if cK C k = 2 then (if cV C k < cN C then FX4_checkReferences_L2 p (some p) (fx + 1) (nI (k + 1)) else some (sI (sI p 15 (nI 5)) 11 (gA p 14 k))) else FX4_checkReferences_L2 p (some p) (fx + 1) (nI (k + 1)) := by
      rw [FX4_checkReferences_L2, hX.2.1, if_neg (nI_ge kp (by omega)), gd_t c4, c5, (hX.2.2.2.2.2 k kp).1, (hX.2.2.2.2.2 k kp).2.1, gd_t c4, gd_t c4, x_fail, ob_s, hX.1, nI_1]
      by_cases e : cK C k = 2
      · rw [if_pos e, if_pos (show nI (cK C k) = 2 by rw [e]; rfl)]
        by_cases d : cV C k < cN C
        · rw [if_pos d, if_pos (nI_lt d (by omega))]
        · rw [if_neg d, if_neg (nI_nlt (by omega) (by omega))]; rfl
      · rw [if_neg e, if_neg (show ¬ nI (cK C k) = 2 from nI_ne (b := 2) (by omega) (by omega) e)]
    have M : FX8_reads_L141 (fun σ60 => some σ60) (fm + 2) (nI k) q = if cK C k = 2 then (if cV C k < cN C then FX8_reads_L141 (fun σ60 => some σ60) (fm + 1) (nI (k + 1)) q else FX8_reads_L141 (fun σ60 => some σ60) (fm + 1) (nI (k + 1)) (sI (sI (sI q 22 (gA q 21 k)) 23 (nI 5)) 2 (gA q 21 k))) else FX8_reads_L141 (fun σ60 => some σ60) (fm + 1) (nI (k + 1)) q := by
      rw [FX8_reads_L141, hM.2.1, if_neg (nI_ge kp (by omega)), if_pos e23, gd_t c4, c5, (hM.2.2.2 k kp).2.1, (hM.2.2.2 k kp).2.2, gd_t c4, gd_t c4, bd_e, m_fails (show gI (sI q 22 (gA q 21 k)) 23 = 0 from e23), ob_s, gI_sI, hM.1, nI_1]
      by_cases e : cK C k = 2
      · rw [if_pos e, if_pos (show nI (cK C k) = 2 by rw [e]; rfl)]
        by_cases d : cV C k < cN C
        · rw [if_pos d, if_pos (nI_lt d (by omega))]
        · rw [if_neg d, if_neg (nI_nlt (by omega) (by omega))]; rfl
      · rw [if_neg e, if_neg (show ¬ nI (cK C k) = 2 from nI_ne (b := 2) (by omega) (by omega) e)]
    rw [X, M]
    have go : (cK C k = 2 → cV C k < cN C) → (FX4_checkReferences_L2 p (some p) (fx + 1) (nI (k + 1)) = some p ∧ FX8_reads_L141 (fun σ60 => some σ60) (fm + 1) (nI (k + 1)) q = some q ∧ ∀ i, i < cP C → cK C i = 2 → cV C i < cN C) ∨ ∃ p' q', FX4_checkReferences_L2 p (some p) (fx + 1) (nI (k + 1)) = some p' ∧ FX8_reads_L141 (fun σ60 => some σ60) (fm + 1) (nI (k + 1)) q = some q' ∧ Bad a b n p' q' := fun hg =>
      ih (k + 1) (by omega) (fun i hi => by
        by_cases e : i = k
        · rw [e]; exact hg
        · exact hr i (by omega)) (fx + 1) (fm + 1) (by omega) (by omega)
    by_cases e : cK C k = 2
    · rw [if_pos e, if_pos e]
      by_cases d : cV C k < cN C
      · rw [if_pos d, if_pos d]
        exact go fun _ => d
      · rw [if_neg d, if_neg d]
        right
        refine ⟨_, sI (sI (sI q 22 (gA q 21 k)) 23 (nI 5)) 2 (gA q 21 k), rfl, ?_, by rw [hL k kp e]; exact bad_f f1 (fM_I f2 _ (by decide)) hi0 h16 (by omega) (by omega) _⟩
        rw [FX8_reads_L141, if_neg (show ¬ gI (sI (sI (sI q 22 (gA q 21 k)) 23 (nI 5)) 2 (gA q 21 k)) 23 = 0 from (show ¬ nI 5 = 0 by decide))]
        split <;> rfl
    · rw [if_neg e, if_neg e]
      exact go fun z => absurd z e
theorem x_clear (p : SS) : ∃ p', FX0_clear p = some p' ∧ fX p p' ∧ gI p' 20 = 0 ∧ gI p' 21 = 0 ∧ gI p' 22 = 0 ∧ ∀ c, c < 16 → gA p' 27 c = 0 ∧ gA p' 28 c = 0 := by
  obtain ⟨p', h1, h2⟩ := lpk (fun n (σ : SS) i => FX0_clear_L17 (fun σ9 => some σ9) n i σ) 16 (fun σ => some σ) (fun i σ => fX p σ ∧ gI σ 20 = 0 ∧ gI σ 21 = 0 ∧ gI σ 22 = 0 ∧ ∀ c, c < i → gA σ 27 c = 0 ∧ gA σ 28 c = 0) (by
    intro n σ h
    show FX0_clear_L17 _ _ _ _ = _
    rw [FX0_clear_L17, if_pos (by decide)]) (by
    intro n i σ hi h
    have c4 : inb (nI i) 16 = true := inb_n (by omega) (by omega)
    have c5 : Int32.toNatClampNeg (nI i) = i := nI_clamp (by omega)
    refine ⟨sA (sA σ 27 (upd (gA σ 27) i 0)) 28 (upd (gA σ 28) i 0), ⟨fX_A (fX_A h.1 _ (by decide) (by decide)) _ (by decide) (by decide), h.2.1, h.2.2.1, h.2.2.2.1, fun c hc => ?_⟩, ?_⟩
    · show upd (gA σ 27) i 0 c = 0 ∧ upd (gA σ 28) i 0 c = 0
      rw [upd_eq, upd_eq]
      by_cases e : c = i
      · rw [if_pos e, if_pos e]; exact ⟨rfl, rfl⟩
      · rw [if_neg e, if_neg e]; exact h.2.2.2.2 c (by omega)
    · show FX0_clear_L17 _ _ _ _ = FX0_clear_L17 _ _ _ _
      rw [FX0_clear_L17, if_neg (show ¬ (16 : Int32) ≤ nI i from nI_ge (b := 16) hi (by omega)), gd_t c4, bd_e, gd_t c4, bd_e, c5, nI_1, gAa, if_neg (show ¬ 28 = 27 by decide)]) (n := 5000) (by omega) (a := sI (sI (sI p 20 0) 21 0) 22 0) ⟨fX_I (fX_I (fX_I (fX_r p) _ (by decide) (by decide)) _ (by decide) (by decide)) _ (by decide) (by decide), rfl, rfl, rfl, fun c hc => absurd hc (Nat.not_lt_zero c)⟩
  refine ⟨p', ?_, h1⟩
  rw [FX0_clear, bd_e, bd_e, bd_e]
  exact h2
def bgX (p : SS) : SS := sI (sI (sI (sI p 15 0) 11 (-1)) 16 0) 17 (-1)
def bgM (q : SS) : SS := sI (sI (sI (sI (sI q 12 0) 17 0) 22 0) 23 0) 2 (-1)
theorem okd_0 {a p : SS} (b : SS) (h : fX a p) (h20 : gI p 20 = 0) (h21 : gI p 21 = 0) (h22 : gI p 22 = 0) (hc : ∀ c, c < 16 → gA p 27 c = 0 ∧ gA p 28 c = 0) : OkD a b Cd0 (bgX p) (bgM b) := by
  refine ⟨fX_I (fX_I (fX_I (fX_I h _ (by decide) (by decide)) _ (by decide) (by decide)) _ (by decide) (by decide)) _ (by decide) (by decide), fM_I (fM_I (fM_I (fM_I (fM_I (fM_r b) _ (by decide)) _ (by decide)) _ (by decide)) _ (by decide)) _ (by decide), rfl, rfl, rfl, rfl, ⟨by decide, by decide, no_lt, no_lt, no_lt⟩, ⟨h20, h21, fun c _ => ?_, no_lt, fun c hc' => ⟨fun j _ => ?_, fun t _ => ?_⟩, no_lt⟩, ⟨rfl, rfl, no_lt, no_lt⟩, no_lt⟩
  · show bt (gI p 22) c = _
    rw [h22, b_0]; rfl
  · show bt (gA p 27 c) j = _
    rw [(hc c hc').1, b_0]; rfl
  · show bt (gA p 28 c) t = _
    rw [(hc c hc').2, b_0]; rfl
theorem both_read {a b : SS} {n : Nat} {L : Nat → Nat} (ht : Tx n L) (ta : TxX a n L) (tb : TxM b n L) : ∃ p' q', FX4_readText a = some (gI p' 15, sI p' 10 0) ∧ FX8_reads (bgM b) = some q' ∧ ((∃ C, OkD a b C p' q' ∧ ∀ i, i < cP C → cK C i = 2 → cV C i < cN C) ∨ Bad a b n p' q') := by
  have t1 := ht.1
  obtain ⟨p0, u1, u2, u3, u4, u5, u6⟩ := x_clear a
  have o0 := okd_0 b u2 u3 u4 u5 u6
  have X : FX4_readText a = FX4_readText_L33 kEnd 5000 (nI 0) (sI (bgX p0) 16 (nI (skp L n 0))) := by
    rw [FX4_readText, u1, ob_s, bd_e, bd_e, bd_e, bd_e, show sI (sI (sI (sI p0 15 0) 11 (-1)) 16 0) 17 (-1) = bgX p0 from rfl, x_skip ht (p := bgX p0) (fX_T o0.1 ta) (i := 0) rfl (Nat.zero_le n), ob_s]
    generalize (5000 : Nat) = F
    rfl
  have M : FX8_reads (bgM b) = FX8_reads_L2 (fun σ49 => FX8_reads_L141 (fun σ60 => some σ60) 5000 (nI 0) σ49) 5000 (oI none) (bgM b) := by
    rw [FX8_reads]
    generalize (5000 : Nat) = F
    rfl
  obtain ⟨p1, q1, r1, r2, r3⟩ := both_text ht ta tb (fun σ49 => FX8_reads_L141 (fun σ60 => some σ60) 5000 (nI 0) σ49) n 0 0 Cd0 (sI (bgX p0) 16 (nI (skp L n 0))) (bgM b) none (okd_x o0 _) (Nat.zero_le n) (gI_sI _ _ _) rfl rfl (fun d hd => by cases hd) (by omega) (by omega) 5000 5000 (by omega) (by omega)
  rw [X, M, r1, r2]
  rcases r3 with ⟨C, i', o1, hi', h16⟩ | bd1
  · have w2 := o1.2.2.2.2.2.2.1.2.1
    rw [FX4_readText_J96, if_pos o1.2.2.1, FX4_checkReferences]
    rcases both_check o1 hi' h16 (cP C) 0 (by omega) no_lt 5000 5000 (by omega) (by omega) with ⟨s1, s2, s3⟩ | ⟨p2, q2, s1, s2, s3⟩
    · refine ⟨p1, q1, ?_, s2, Or.inl ⟨C, o1, s3⟩⟩
      rw [show (0 : Int32) = nI 0 from rfl, s1, ob_s, bd_e]; rfl
    · refine ⟨p2, q2, ?_, s2, Or.inr s3⟩
      rw [show (0 : Int32) = nI 0 from rfl, s1, ob_s, bd_e]; rfl
  · refine ⟨p1, q1, ?_, ?_, Or.inr bd1⟩
    · rw [FX4_readText_J96, if_neg (bad_15 bd1).1, bd_e]; rfl
    · show FX8_reads_L141 (fun σ60 => some σ60) (4999 + 1) (nI 0) q1 = some q1
      rw [FX8_reads_L141, if_neg (bad_15 bd1).2]
      split <;> rfl
