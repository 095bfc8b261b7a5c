/-! rounds of terms: the reference's closure and the desk's tables say the same -/
def swh (h : Nat → Nat → Bool) : Nat → (Nat → Bool) → Nat → Bool
  | 0, S => S
  | u + 1, S => fun o => swh h u S o || (swh h u S u && h u o)
def rdh (h : Nat → Nat → Bool) (S : Nat → Bool) : Nat → Nat → Bool
  | 0 => S
  | k + 1 => swh h 8 (rdh h S k)
theorem swh_inc {h : Nat → Nat → Bool} {S : Nat → Bool} {o : Nat} : ∀ {u : Nat}, S o = true → swh h u S o = true
  | 0, e => e
  | u + 1, e => by show (swh h u S o || _) = true; rw [swh_inc e]; rfl
theorem swh_step {h : Nat → Nat → Bool} {S : Nat → Bool} {o : Nat} : ∀ {u v : Nat}, u ≤ v → swh h u S o = true → swh h v S o = true := by
  intro u v huv e
  obtain ⟨d, rfl⟩ : ∃ d, v = u + d := ⟨v - u, by omega⟩
  clear huv
  induction d with
  | zero => exact e
  | succ d ih => show (swh h (u + d) S o || _) = true; rw [ih]; rfl
/-- a sweep that adds nothing: the set is closed -/
theorem swh_stop {h : Nat → Nat → Bool} {S : Nat → Bool} (he : ∀ o, o < 8 → swh h 8 S o = S o) : ∀ u, u < 8 → ∀ o, o < 8 → S u = true → h u o = true → S o = true := by
  intro u hu o ho hs hh
  rw [← he o ho]
  refine swh_step (u := u + 1) (by omega) ?_
  show (swh h u S o || (swh h u S u && h u o)) = true
  rw [swh_inc hs, hh]; simp
theorem swh_cong {h : Nat → Nat → Bool} {S T : Nat → Bool} (e : ∀ o, o < 8 → S o = T o) : ∀ {u : Nat}, u ≤ 8 → ∀ o, o < 8 → swh h u S o = swh h u T o
  | 0, _ => e
  | u + 1, hu => by
    have ih := swh_cong (h := h) e (u := u) (by omega)
    intro o ho
    show (swh h u S o || (swh h u S u && h u o)) = (swh h u T o || (swh h u T u && h u o))
    rw [ih o ho, ih u (by omega)]
theorem rdh_inc {h : Nat → Nat → Bool} {S : Nat → Bool} {k o : Nat} (e : rdh h S k o = true) : rdh h S (k + 1) o = true := swh_inc e
theorem rdh_base {h : Nat → Nat → Bool} {S : Nat → Bool} {o : Nat} : ∀ {k : Nat}, S o = true → rdh h S k o = true
  | 0, e => e
  | _ + 1, e => rdh_inc (rdh_base e)
/-- eight sweeps are enough -/
theorem rdh_closed (h : Nat → Nat → Bool) (S : Nat → Bool) : ∀ u, u < 8 → ∀ o, o < 8 → rdh h S 8 u = true → h u o = true → rdh h S 8 o = true := by
  by_cases hex : ∃ k, k < 8 ∧ ∀ o, o < 8 → rdh h S (k + 1) o = rdh h S k o
  · obtain ⟨k, hk, he⟩ := hex
    have stay : ∀ d, ∀ o, o < 8 → rdh h S (k + d) o = rdh h S k o := by
      intro d
      induction d with
      | zero => exact fun _ _ => rfl
      | succ d ih =>
        intro o ho
        show swh h 8 (rdh h S (k + d)) o = _
        rw [swh_cong ih (Nat.le_refl _) o ho]
        exact he o ho
    have e8 : ∀ o, o < 8 → rdh h S 8 o = rdh h S k o := fun o ho => by
      have := stay (8 - k) o ho
      rwa [show k + (8 - k) = 8 by omega] at this
    intro u hu o ho h1 h2
    rw [e8 u hu] at h1
    rw [e8 o ho]
    exact swh_stop he u hu o ho h1 h2
  · have grow : ∀ k, k ≤ 8 → k ≤ fb_ct (rdh h S k) 8 := by
      intro k
      induction k with
      | zero => intro _; omega
      | succ k ih =>
        intro hk
        have h1 := ih (by omega)
        have hne : ¬ ∀ o, o < 8 → rdh h S (k + 1) o = rdh h S k o := fun z => hex ⟨k, by omega, z⟩
        obtain ⟨i, hi⟩ := Classical.not_forall.mp hne
        obtain ⟨hi, hne⟩ := Classical.not_imp.mp hi
        have h0 : rdh h S k i = false := by
          cases q : rdh h S k i with
          | false => rfl
          | true => exact absurd ((rdh_inc q).trans q.symm) hne
        have h1' : rdh h S (k + 1) i = true := by
          cases q : rdh h S (k + 1) i with
          | true => rfl
          | false => exact absurd (q.trans h0.symm) hne
        have e := fb_ct_upd (rdh h S k) true hi
        rw [h0] at e
        have l := fb_ct_sub (p := fun j => if j = i then true else rdh h S k j) (q := rdh h S (k + 1)) (n := 8) (fun j _ hj => by
          by_cases e : j = i
          · rw [e]; exact h1'
          · rw [if_neg e] at hj; exact rdh_inc hj)
        replace e : fb_ct (fun j => if j = i then true else rdh h S k j) 8 + 0 = fb_ct (rdh h S k) 8 + 1 := e
        omega
    have h8 := grow 8 (Nat.le_refl _)
    have hle := fb_ct_le (rdh h S 8) 8
    have all := fb_ct_all.mp (show fb_ct (rdh h S 8) 8 = 8 by omega)
    intro u hu o ho _ _
    exact all o ho
theorem wsh_inc {h : Nat → Nat → Bool} {f t : Nat} : ∀ {k : Nat}, h f t = true → wsh h k f t = true
  | 0, e => e
  | k + 1, e => by show (wsh h k f t || _) = true; rw [wsh_inc e]; rfl
/-- Warshall: a way over terms below k can be put together -/
theorem wsh_trans (h : Nat → Nat → Bool) : ∀ k, ∀ u, u < k → ∀ f t, wsh h k f u = true → wsh h k u t = true → wsh h k f t = true := by
  intro k
  induction k with
  | zero => intro u hu; exact absurd hu (Nat.not_lt_zero u)
  | succ k ih =>
    intro u hu f t h1 h2
    have d1 : wsh h k f u = true ∨ (wsh h k f k = true ∧ wsh h k k u = true) := by
      have h1 : (wsh h k f u || (wsh h k f k && wsh h k k u)) = true := h1
      simpa using h1
    have d2 : wsh h k u t = true ∨ (wsh h k u k = true ∧ wsh h k k t = true) := by
      have h2 : (wsh h k u t || (wsh h k u k && wsh h k k t)) = true := h2
      simpa using h2
    have goal : wsh h k f t = true ∨ (wsh h k f k = true ∧ wsh h k k t = true) → wsh h (k + 1) f t = true := by
      intro z
      show (wsh h k f t || (wsh h k f k && wsh h k k t)) = true
      simpa using z
    apply goal
    by_cases e : u = k
    · subst e
      have a1 : wsh h u f u = true := by rcases d1 with z | z; exact z; exact z.1
      have a2 : wsh h u u t = true := by rcases d2 with z | z; exact z; exact z.2
      exact Or.inr ⟨a1, a2⟩
    · have hu' : u < k := by omega
      rcases d1 with z1 | ⟨z1, z1'⟩
      · rcases d2 with z2 | ⟨z2, z2'⟩
        · exact Or.inl (ih u hu' f t z1 z2)
        · exact Or.inr ⟨ih u hu' f k z1 z2, z2'⟩
      · rcases d2 with z2 | ⟨z2, z2'⟩
        · exact Or.inr ⟨z1, ih u hu' k t z1' z2⟩
        · exact Or.inr ⟨z1, z2'⟩
theorem wsh_in {h : Nat → Nat → Bool} {S : Nat → Bool} (hc : ∀ u, u < 8 → ∀ o, o < 8 → S u = true → h u o = true → S o = true) : ∀ k, k ≤ 8 → ∀ f, f < 8 → ∀ o, o < 8 → S f = true → wsh h k f o = true → S o = true := by
  intro k
  induction k with
  | zero => intro _ f hf o ho hs hw; exact hc f hf o ho hs hw
  | succ k ih =>
    intro hk f hf o ho hs hw
    have hw : (wsh h k f o || (wsh h k f k && wsh h k k o)) = true := hw
    have d : wsh h k f o = true ∨ (wsh h k f k = true ∧ wsh h k k o = true) := by simpa using hw
    rcases d with z | ⟨z1, z2⟩
    · exact ih (by omega) f hf o ho hs z
    · exact ih (by omega) k (by omega) o ho (ih (by omega) f hf k (by omega) hs z1) z2
theorem rdh_wsh (h : Nat → Nat → Bool) {t : Nat} (ht : t < 8) {o : Nat} (ho : o < 8) : rdh h (h t) 8 o = wsh h 8 t o := by
  apply beq_of
  constructor
  · have sub : ∀ k, ∀ o, o < 8 → rdh h (h t) k o = true → wsh h 8 t o = true := by
      intro k
      induction k with
      | zero => intro o _ e; exact wsh_inc e
      | succ k ih =>
        have sw : ∀ u, u ≤ 8 → ∀ o, o < 8 → swh h u (rdh h (h t) k) o = true → wsh h 8 t o = true := by
          intro u
          induction u with
          | zero => intro _; exact ih
          | succ u ihu =>
            intro hu o ho e
            have e : (swh h u (rdh h (h t) k) o || (swh h u (rdh h (h t) k) u && h u o)) = true := e
            have d : swh h u (rdh h (h t) k) o = true ∨ (swh h u (rdh h (h t) k) u = true ∧ h u o = true) := by simpa using e
            rcases d with z | ⟨z1, z2⟩
            · exact ihu (by omega) o ho z
            · exact wsh_trans h 8 u (by omega) t o (ihu (by omega) u (by omega) z1) (wsh_inc z2)
        exact sw 8 (Nat.le_refl _)
    exact sub 8 o ho
  · intro hw
    have hc := rdh_closed h (h t)
    have key : ∀ k, k ≤ 8 → ∀ o, o < 8 → wsh h k t o = true → rdh h (h t) 8 o = true := by
      intro k
      induction k with
      | zero => intro _ o ho e; exact rdh_base e
      | succ k ih =>
        intro hk o ho e
        have e : (wsh h k t o || (wsh h k t k && wsh h k k o)) = true := e
        have d : wsh h k t o = true ∨ (wsh h k t k = true ∧ wsh h k k o = true) := by simpa using e
        rcases d with z | ⟨z1, z2⟩
        · exact ih (by omega) o ho z
        · exact wsh_in hc k (by omega) k (by omega) o ho (ih (by omega) k (by omega) z1) z2
    exact key 8 (Nat.le_refl _) o ho hw
theorem beq_ne {a b : Nat} (h : ¬ a = b) : (a == b) = false := by simp [h]
/-! the reference's hangsOn -/
theorem ho_93 (b : SS) (rec : Int32 → Int32 → Option Int32) (v1 v2 v3 v4 v5 : Int32) : FX8_hangsOn_J93 b rec v1 v2 v3 v4 v5 = rec v3 (v5 + 1) := by
  rw [FX8_hangsOn_J93, FX8_hangsOn_J94, if_pos rfl, Int32.or_zero]
theorem m_hangsOn {b : SS} {C : Cd} (hC : WfC C) (hb : RepM b C) (s : Int32) {t : Nat} (ht : t < 2 ^ 30) : ∃ r, FX8_hangsOn b s (nI t) = some r ∧ ∀ o, o < 32 → bt r o = hng C (bt s) t o := by
  obtain ⟨w1, w2, -, -, w5⟩ := id hC
  have vlt : ∀ p, p < cP C → cV C p < 32 := by
    intro p hp
    obtain ⟨-, -, p3, p4⟩ := w5 p hp
    by_cases q : cK C p = 2
    · have := p3 q; omega
    · have := p4 q; omega
  have inner : ∀ (i : Nat), i < cP C → ∀ (v : Int32) (K : Int32 → Option Int32), ∃ r, (∀ o, o < 32 → bt r o = (bt v o || ((cK C i == 0 && (cV C i == t && bt s (cO C i))) && usd C (cO C i) o))) ∧ FX8_hangsOn_L17 b s (nI t) (nI i) K 5000 v (nI 0) = K r := by
    intro i hi v K
    obtain ⟨p1, p2, p3, p4⟩ := w5 i hi
    obtain ⟨o1, o2, o3⟩ := hb.2.2.2 i hi
    have ci : Int32.toNatClampNeg (nI i) = i := nI_clamp (by omega)
    have g : inb (nI i) 30 = true := inb_n (by omega) (by omega)
    refine lpk (fun n (q : Int32) j => FX8_hangsOn_L17 b s (nI t) (nI i) K n q j) (cP C) K (fun j q => ∀ o, o < 32 → bt q o = (bt v o || ((cK C i == 0 && (cV C i == t && bt s (cO C i))) && anyB (fun p => cK C p == 1 && (cO C p == cO C i && cV C p == o)) j))) (by
      intro n q h
      show FX8_hangsOn_L17 _ _ _ _ _ _ _ _ = _
      rw [FX8_hangsOn_L17, hb.2.1, if_pos (nI_le (Nat.le_refl _) (by omega))]) (by
      intro n j q hj h
      obtain ⟨q1, q2, q3⟩ := hb.2.2.2 j hj
      have pj := w5 j hj
      have cj : Int32.toNatClampNeg (nI j) = j := nI_clamp (by omega)
      have gj : inb (nI j) 30 = true := inb_n (by omega) (by omega)
      have st : FX8_hangsOn_L17 b s (nI t) (nI i) K (n + 1) q (nI j) = (if bI (bt s (cO C i)) = 0 then FX8_hangsOn_L17 b s (nI t) (nI i) K n q (nI (j + 1)) else if nI (cK C i) = 0 then (if nI (cV C i) = nI t then (if nI (cO C j) = nI (cO C i) then (if nI (cK C j) = 1 then FX8_hangsOn_L17 b s (nI t) (nI i) K n (q ||| jshl 1 (nI (cV C j))) (nI (j + 1)) else FX8_hangsOn_L17 b s (nI t) (nI i) K n q (nI (j + 1))) else FX8_hangsOn_L17 b s (nI t) (nI i) K n q (nI (j + 1))) else FX8_hangsOn_L17 b s (nI t) (nI i) K n q (nI (j + 1))) else FX8_hangsOn_L17 b s (nI t) (nI i) K n q (nI (j + 1))) := by
        rw [FX8_hangsOn_L17, hb.2.1, if_neg (nI_ge hj (by omega))]
        simp only [gd_t g, gd_t gj, ci, cj, o1, o2, o3, q1, q2, q3, ob_s, m_has b s (by omega : cO C i < 32), ho_93, FX8_hangsOn_J94, nI_1, bd_e]
        simp only [show ¬ (1 : Int32) = 0 by decide, if_false]
      cases hs : bt s (cO C i) with
      | false =>
        refine ⟨q, fun o ho => ?_, ?_⟩
        · rw [h o ho, hs]; simp
        · show FX8_hangsOn_L17 _ _ _ _ _ _ _ _ = _
          rw [st, hs, if_pos bI_f]
      | true =>
        rw [hs, if_neg bI_n] at st
        by_cases c1 : cK C i = 0
        · rw [if_pos (show nI (cK C i) = 0 by rw [c1]; rfl)] at st
          by_cases c2 : cV C i = t
          · rw [if_pos (by rw [c2])] at st
            by_cases c3 : cO C j = cO C i
            · rw [if_pos (by rw [c3])] at st
              by_cases c4 : cK C j = 1
              · rw [if_pos (show nI (cK C j) = 1 by rw [c4]; rfl)] at st
                refine ⟨_, fun o ho => ?_, st⟩
                rw [b_or, b_one (vlt j hj) ho, h o ho, hs, anyB]
                have e : decide (o = cV C j) = (cV C j == o) := by
                  by_cases z : o = cV C j
                  · simp [z]
                  · have : ¬ cV C j = o := fun w => z w.symm
                    simp [z, this]
                rw [e]
                simp [c1, c2, c3, c4, Bool.or_assoc]
              · rw [if_neg (show ¬ nI (cK C j) = 1 from nI_ne (b := 1) (by omega) (by omega) c4)] at st
                refine ⟨q, fun o ho => ?_, st⟩
                rw [h o ho, hs, anyB]; simp [beq_ne c4]
            · rw [if_neg (nI_ne (by omega) (by omega) c3)] at st
              refine ⟨q, fun o ho => ?_, st⟩
              rw [h o ho, hs, anyB]; simp [beq_ne c3]
          · rw [if_neg (nI_ne (by have := vlt i hi; omega) (by omega) c2)] at st
            refine ⟨q, fun o ho => ?_, st⟩
            rw [h o ho]; simp [beq_ne c2]
        · rw [if_neg (show ¬ nI (cK C i) = 0 from nI_ne (b := 0) (by omega) (by omega) c1)] at st
          refine ⟨q, fun o ho => ?_, st⟩
          rw [h o ho]; simp [beq_ne c1]) (n := 5000) (by omega) (a := v) (fun o ho => by show bt v o = (bt v o || (_ && false)); simp)
  obtain ⟨r, h1, h2⟩ := lpk (fun n (q : Int32) i => FX8_hangsOn_L5 b s (nI t) (fun u => some u) n q i) (cP C) (fun u => some u) (fun i q => ∀ o, o < 32 → bt q o = anyB (fun p => cK C p == 0 && (cV C p == t && (bt s (cO C p) && usd C (cO C p) o))) i) (by
    intro n q h
    show FX8_hangsOn_L5 _ _ _ _ _ _ _ = _
    rw [FX8_hangsOn_L5, hb.2.1, if_pos (nI_le (Nat.le_refl _) (by omega))]) (by
    intro n i q hi h
    obtain ⟨r, e1, e2⟩ := inner i hi q (fun u33 => FX8_hangsOn_L5 b s (nI t) (fun u => some u) n u33 (nI i + 1))
    refine ⟨r, fun o ho => ?_, ?_⟩
    · rw [e1 o ho, h o ho, anyB]
      simp only [Bool.and_assoc]
    · show FX8_hangsOn_L5 _ _ _ _ _ _ _ = FX8_hangsOn_L5 _ _ _ _ _ _ _
      have e2 : FX8_hangsOn_L17 b s (nI t) (nI i) (fun u33 => FX8_hangsOn_L5 b s (nI t) (fun u => some u) n u33 (nI i + 1)) 5000 q 0 = FX8_hangsOn_L5 b s (nI t) (fun u => some u) n r (nI i + 1) := e2
      rw [FX8_hangsOn_L5, hb.2.1, if_neg (nI_ge hi (by omega)), e2, nI_1]) (n := 5000) (by omega) (a := 0) (fun o _ => by rw [b_0]; rfl)
  exact ⟨r, h2, h1⟩
