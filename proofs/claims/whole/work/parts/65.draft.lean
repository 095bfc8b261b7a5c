/-! the two readers: the draft -/
theorem gIs (σ : SS) (k : Nat) (v : Int32) (j : Nat) : gI (sI σ k v) j = if j = k then v else gI σ j := rfl
theorem gIa (σ : SS) (k : Nat) (f : Nat → Int32) (j : Nat) : gI (sA σ k f) j = gI σ j := rfl
theorem gAa (σ : SS) (k : Nat) (f : Nat → Int32) (j : Nat) : gA (sA σ k f) j = if j = k then f else gA σ j := rfl
theorem gAs (σ : SS) (k : Nat) (v : Int32) (j : Nat) : gA (sI σ k v) j = gA σ j := rfl
theorem gd_1 {α : Type} (x : Option α) : gd true x = x := rfl
/-- what the readers leave alone -/
def fX (a p : SS) : Prop := (∀ k, k < 11 ∨ 22 < k → gI p k = gI a k) ∧ (∀ k, k < 14 ∨ 31 < k → gA p k = gA a k) ∧ p.2.2 = a.2.2
def fM (b q : SS) : Prop := (∀ k, k ≠ 2 → k ≠ 12 → k ≠ 17 → k ≠ 22 → k ≠ 23 → gI q k = gI b k) ∧ ∀ k, k < 13 ∨ 21 < k → gA q k = gA b k
theorem fX_r (a : SS) : fX a a := ⟨fun _ _ => rfl, fun _ _ => rfl, rfl⟩
theorem fM_r (b : SS) : fM b b := ⟨fun _ _ _ _ _ _ => rfl, fun _ _ => rfl⟩
theorem fX_t {a p p' : SS} (h : fX a p) (h' : fX p p') : fX a p' := ⟨fun k hk => (h'.1 k hk).trans (h.1 k hk), fun k hk => (h'.2.1 k hk).trans (h.2.1 k hk), h'.2.2.trans h.2.2⟩
theorem fM_t {a p p' : SS} (h : fM a p) (h' : fM p p') : fM a p' := ⟨fun k h1 h2 h3 h4 h5 => (h'.1 k h1 h2 h3 h4 h5).trans (h.1 k h1 h2 h3 h4 h5), fun k hk => (h'.2 k hk).trans (h.2 k hk)⟩
theorem fX_I {a p : SS} (h : fX a p) {k : Nat} (v : Int32) (h1 : 11 ≤ k) (h2 : k ≤ 22) : fX a (sI p k v) := ⟨fun j hj => by
  rw [gI_ne _ (show j ≠ k by omega)]; exact h.1 j hj, h.2.1, h.2.2⟩
theorem fX_A {a p : SS} (h : fX a p) {k : Nat} (f : Nat → Int32) (h1 : 14 ≤ k) (h2 : k ≤ 31) : fX a (sA p k f) := ⟨h.1, fun j hj => by
  rw [gA_ne _ (show j ≠ k by omega)]; exact h.2.1 j hj, h.2.2⟩
theorem fM_I {a p : SS} (h : fM a p) {k : Nat} (v : Int32) (h1 : k = 2 ∨ k = 12 ∨ k = 17 ∨ k = 22 ∨ k = 23) : fM a (sI p k v) := ⟨fun j j1 j2 j3 j4 j5 => by
  rw [gI_ne _ (show j ≠ k by omega)]; exact h.1 j j1 j2 j3 j4 j5, h.2⟩
theorem fM_A {a p : SS} (h : fM a p) {k : Nat} (f : Nat → Int32) (h1 : 13 ≤ k) (h2 : k ≤ 21) : fM a (sA p k f) := ⟨h.1, fun j hj => by
  rw [gA_ne _ (show j ≠ k by omega)]; exact h.2 j hj⟩
theorem fX_T {a p : SS} {n : Nat} {L : Nat → Nat} (h : fX a p) (ht : TxX a n L) : TxX p n L := ⟨(h.1 10 (by omega)).trans ht.1, fun i hi => by rw [h.2.1 13 (by omega)]; exact ht.2 i hi⟩
theorem fM_T {a p : SS} {n : Nat} {L : Nat → Nat} (h : fM a p) (ht : TxM a n L) : TxM p n L := ⟨(h.1 1 (by omega) (by omega) (by omega) (by omega) (by omega)).trans ht.1, fun i hi => by rw [h.2 0 (by omega)]; exact ht.2 i hi⟩
def WfD (C : Cd) : Prop := cN C ≤ 16 ∧ cP C ≤ 30 ∧ (∀ c, c < cN C → ∀ d, cA C c = some d → d < c) ∧ (∀ c, c < cN C → ∀ q, q < 32 → (bt (cY C c) q = true → q < 6) ∧ (bt (cW C c) q = true → q < 6) ∧ ¬ (bt (cY C c) q = true ∧ bt (cW C c) q = true)) ∧
  ∀ p, p < cP C → cK C p < 3 ∧ cO C p < cN C ∧ (cK C p = 2 → cV C p < 16) ∧ (cK C p ≠ 2 → cV C p < 8)
def DrX (C : Cd) (p : SS) : Prop := gI p 20 = nI (cN C) ∧ gI p 21 = nI (cP C) ∧ (∀ c, c < 32 → bt (gI p 22) c = (decide (c < cN C) && cC C c)) ∧
  (∀ c, c < cN C → gA p 23 c = oI (cA C c) ∧ gA p 24 c = nI (dep C c) ∧ gA p 25 c = cY C c ∧ gA p 26 c = cW C c) ∧
  (∀ c, c < 16 → (∀ j, j < 32 → bt (gA p 27 c) j = refd C c j) ∧ ∀ t, t < 32 → bt (gA p 28 c) t = usd C c t) ∧
  ∀ i, i < cP C → gA p 29 i = nI (cK C i) ∧ gA p 30 i = nI (cV C i) ∧ gA p 31 i = nI (cO C i)
def DrM (C : Cd) (q : SS) : Prop := gI q 12 = nI (cN C) ∧ gI q 17 = nI (cP C) ∧ (∀ c, c < cN C → gA q 13 c = oI (cA C c) ∧ gA q 14 c = cY C c ∧ gA q 15 c = cW C c ∧ gA q 16 c = bI (cC C c)) ∧
  ∀ i, i < cP C → gA q 18 i = nI (cO C i) ∧ gA q 19 i = nI (cK C i) ∧ gA q 20 i = nI (cV C i)
def PlE (C : Cd) (p q : SS) : Prop := ∀ i, i < cP C → cK C i = 2 → gA p 14 i = gA q 21 i
/-- nothing wrong so far -/
def OkD (a b : SS) (C : Cd) (p q : SS) : Prop := fX a p ∧ fM b q ∧ gI p 15 = 0 ∧ gI q 23 = 0 ∧ gI p 11 = -1 ∧ gI q 2 = -1 ∧ WfD C ∧ DrX C p ∧ DrM C q ∧ PlE C p q
/-- a fault, the same -/
def Bad (a b : SS) (n : Nat) (p q : SS) : Prop := fX a p ∧ fM b q ∧ (∃ i, i ≤ n ∧ gI p 16 = nI i) ∧ (∃ e, 0 < e ∧ e < 6 ∧ gI p 15 = nI e ∧ gI q 23 = nI e) ∧ gI p 11 = gI q 2
theorem okd_x {a b : SS} {C : Cd} {p q : SS} (h : OkD a b C p q) (v : Int32) : OkD a b C (sI p 16 v) q := by
  obtain ⟨h1, h2, h3, h4, h5, h6, h7, h8, h9, h0⟩ := h
  exact ⟨fX_I h1 v (by decide) (by decide), h2, h3, h4, h5, h6, h7, h8, h9, h0⟩
theorem okd_i {a b : SS} {C : Cd} {p q : SS} (h : OkD a b C p q) (v : Int32) : OkD a b C (sI p 17 v) q := by
  obtain ⟨h1, h2, h3, h4, h5, h6, h7, h8, h9, h0⟩ := h
  exact ⟨fX_I h1 v (by decide) (by decide), h2, h3, h4, h5, h6, h7, h8, h9, h0⟩
theorem okd_m {a b : SS} {C : Cd} {p q : SS} (h : OkD a b C p q) (v : Int32) : OkD a b C p (sI q 22 v) := by
  obtain ⟨h1, h2, h3, h4, h5, h6, h7, h8, h9, h0⟩ := h
  exact ⟨h1, fM_I h2 v (by decide), h3, h4, h5, h6, h7, h8, h9, h0⟩
theorem bad_f {a b : SS} {n : Nat} {p q : SS} (h1 : fX a p) (h2 : fM b q) {j e : Nat} (hj : j ≤ n) (h16 : gI p 16 = nI j) (e0 : 0 < e) (e6 : e < 6) (v : Int32) : Bad a b n (sI (sI p 15 (nI e)) 11 v) (sI (sI q 23 (nI e)) 2 v) :=
  ⟨fX_I (fX_I h1 _ (by decide) (by decide)) _ (by decide) (by decide), fM_I (fM_I h2 _ (by decide)) _ (by decide), ⟨j, hj, h16⟩, ⟨e, e0, e6, rfl, rfl⟩, rfl⟩
theorem m_fails {q : SS} (h : gI q 23 = 0) (e : Int32) : FX8_fails q e = some (sI (sI q 23 e) 2 (gI q 22)) := by
  rw [FX8_fails, h, if_pos rfl, bd_e, bd_e]; rfl
theorem x_fail (p : SS) (e v : Int32) : FX4_fail p e v = some (sI (sI p 15 e) 11 v) := rfl
/-! one more part -/
def addP (C : Cd) (k v o : Nat) : Cd := (cN C, cP C + 1, cA C, cY C, cW C, cC C, fun i => if i = cP C then k else cK C i, fun i => if i = cP C then v else cV C i, fun i => if i = cP C then o else cO C i)
theorem depF_A {C C' : Cd} (h : cA C' = cA C) : ∀ n c, depF C' n c = depF C n c
  | 0, _ => rfl
  | n + 1, c => by
    rw [depF, depF, h]
    cases cA C c with
    | none => rfl
    | some d => show depF C' n d + 1 = depF C n d + 1; rw [depF_A h n d]
theorem dep_A {C C' : Cd} (h : cA C' = cA C) (c : Nat) : dep C' c = dep C c := depF_A h 17 c
theorem wf_addP {C : Cd} (hC : WfD C) (hP : cP C < 30) {k v o : Nat} (hk : k < 3) (ho : o < cN C) (h2 : k = 2 → v < 16) (h1 : k ≠ 2 → v < 8) : WfD (addP C k v o) := by
  obtain ⟨w1, w2, w3, w4, w5⟩ := hC
  refine ⟨w1, hP, w3, w4, fun i hi => ?_⟩
  have hi : i < cP C + 1 := hi
  show (if i = cP C then k else cK C i) < 3 ∧ (if i = cP C then o else cO C i) < cN C ∧ ((if i = cP C then k else cK C i) = 2 → (if i = cP C then v else cV C i) < 16) ∧ ((if i = cP C then k else cK C i) ≠ 2 → (if i = cP C then v else cV C i) < 8)
  by_cases e : i = cP C
  · simp only [if_pos e]; exact ⟨hk, ho, h2, h1⟩
  · simp only [if_neg e]; exact w5 i (by omega)
theorem refd_addP (C : Cd) (k v o c j : Nat) : refd (addP C k v o) c j = (refd C c j || (k == 2 && (v == c && o == j))) := by
  show anyB _ (cP C + 1) = _
  rw [anyB]
  show (_ || ((if cP C = cP C then k else cK C (cP C)) == 2 && ((if cP C = cP C then v else cV C (cP C)) == c && (if cP C = cP C then o else cO C (cP C)) == j))) = _
  rw [if_pos rfl, if_pos rfl, if_pos rfl]
  congr 1
  refine anyB_cong fun i hi => ?_
  show ((if i = cP C then k else cK C i) == 2 && ((if i = cP C then v else cV C i) == c && (if i = cP C then o else cO C i) == j)) = _
  have e : ¬ i = cP C := by omega
  rw [if_neg e, if_neg e, if_neg e]
theorem usd_addP (C : Cd) (k v o c t : Nat) : usd (addP C k v o) c t = (usd C c t || (k == 1 && (o == c && v == t))) := by
  show anyB _ (cP C + 1) = _
  rw [anyB]
  show (_ || ((if cP C = cP C then k else cK C (cP C)) == 1 && ((if cP C = cP C then o else cO C (cP C)) == c && (if cP C = cP C then v else cV C (cP C)) == t))) = _
  rw [if_pos rfl, if_pos rfl, if_pos rfl]
  congr 1
  refine anyB_cong fun i hi => ?_
  show ((if i = cP C then k else cK C i) == 1 && ((if i = cP C then o else cO C i) == c && (if i = cP C then v else cV C i) == t)) = _
  have e : ¬ i = cP C := by omega
  rw [if_neg e, if_neg e, if_neg e]
def apB (p : SS) (P c k v : Nat) : SS := sI (sA (sA (sA p 29 (upd (gA p 29) P (nI k))) 30 (upd (gA p 30) P (nI v))) 31 (upd (gA p 31) P (nI c))) 21 (nI (P + 1))
def kpX (p p' : SS) : Prop := fX p p' ∧ gI p' 11 = gI p 11 ∧ gI p' 15 = gI p 15 ∧ gI p' 16 = gI p 16 ∧ gI p' 17 = gI p 17 ∧ gA p' 14 = gA p 14
theorem apB_k (p : SS) (P c k v : Nat) : kpX p (apB p P c k v) :=
  ⟨fX_I (fX_A (fX_A (fX_A (fX_r p) _ (by decide) (by decide)) _ (by decide) (by decide)) _ (by decide) (by decide)) _ (by decide) (by decide), rfl, rfl, rfl, rfl, rfl⟩
theorem x_addPart {p : SS} {C : Cd} (hC : WfD C) (hd : DrX C p) (hP : cP C < 30) {c k v : Nat} (hc : c < cN C) (hk : k < 3) (h2 : k = 2 → v < 16) (h1 : k ≠ 2 → v < 8) : ∃ p', FX0_addPart p (nI c) (nI k) (nI v) = some p' ∧ DrX (addP C k v c) p' ∧ kpX p p' := by
  obtain ⟨d1, d2, d3, d4, d5, d6⟩ := id hd
  have w1 := hC.1
  have c1 : ¬ (30 : Int32) ≤ nI (cP C) := nI_ge (b := 30) hP (by omega)
  have c2 : ¬ nI c < 0 := nI_pos (by omega)
  have c3 : nI c < nI (cN C) := nI_lt hc (by omega)
  have c4 : inb (nI (cP C)) 30 = true := inb_n hP (by omega)
  have c5 : Int32.toNatClampNeg (nI (cP C)) = cP C := nI_clamp (by omega)
  have c6 : inb (nI c) 16 = true := inb_n (by omega) (by omega)
  have c7 : Int32.toNatClampNeg (nI c) = c := nI_clamp (by omega)
  have c8 : ¬ nI v < 0 := nI_pos (by omega)
  have c9 : Int32.toNatClampNeg (nI v) = v := nI_clamp (by omega)
  have base : FX0_addPart p (nI c) (nI k) (nI v) = if nI k = 1 then FX0_addPart_J79 (sA (apB p (cP C) c k v) 28 (upd (gA p 28) c (gA p 28 c ||| jshl 1 (nI v)))) (nI c) (nI k) (nI v) else FX0_addPart_J79 (apB p (cP C) c k v) (nI c) (nI k) (nI v) := by
    simp only [FX0_addPart, bd_e, gIa, gAa, gIs, gAs, d1, d2, c4, c5, c6, c7, gd_1, if_neg c1, if_neg c2, if_pos c3, nI_1, Nat.reduceEqDiff, reduceIte]
    rfl
  have gen : ∀ σ : SS, gI σ 20 = gI p 20 → gI σ 21 = nI (cP C + 1) → gI σ 22 = gI p 22 → gA σ 23 = gA p 23 → gA σ 24 = gA p 24 → gA σ 25 = gA p 25 → gA σ 26 = gA p 26 → gA σ 29 = upd (gA p 29) (cP C) (nI k) → gA σ 30 = upd (gA p 30) (cP C) (nI v) → gA σ 31 = upd (gA p 31) (cP C) (nI c) → (∀ x, x < 16 → (∀ j, j < 32 → bt (gA σ 27 x) j = (refd C x j || (k == 2 && (v == x && c == j)))) ∧ ∀ t, t < 32 → bt (gA σ 28 x) t = (usd C x t || (k == 1 && (c == x && v == t)))) → DrX (addP C k v c) σ := by
    intro σ e1 e2 e3 e4 e5 e6 e7 e8 e9 e10 e11
    refine ⟨e1.trans d1, e2, fun x hx => by rw [e3]; exact d3 x hx, fun x hx => ?_, fun x hx => ?_, fun i hi => ?_⟩
    · rw [e4, e5, e6, e7, dep_A (C := C) (C' := addP C k v c) rfl]; exact d4 x hx
    · exact ⟨fun j hj => by rw [refd_addP]; exact (e11 x hx).1 j hj, fun t h_t => by rw [usd_addP]; exact (e11 x hx).2 t h_t⟩
    · have hi : i < cP C + 1 := hi
      rw [e8, e9, e10, upd_eq, upd_eq, upd_eq]
      show (if i = cP C then _ else _) = nI (if i = cP C then k else cK C i) ∧ (if i = cP C then _ else _) = nI (if i = cP C then v else cV C i) ∧ (if i = cP C then _ else _) = nI (if i = cP C then c else cO C i)
      by_cases e : i = cP C
      · simp only [if_pos e]; exact ⟨trivial, trivial, trivial⟩
      · simp only [if_neg e]; exact d6 i (by omega)
  rcases (by omega : k = 0 ∨ k = 1 ∨ k = 2) with e | e | e
  · subst e
    refine ⟨apB p (cP C) c 0 v, ?_, gen _ rfl rfl rfl rfl rfl rfl rfl rfl rfl rfl (fun x hx => ⟨fun j hj => ?_, fun t h_t => ?_⟩), apB_k p _ _ _ _⟩
    · rw [base, if_neg (show ¬ nI 0 = 1 by decide), FX0_addPart_J79, if_neg (show ¬ nI 0 = 2 by decide)]
    · show bt (gA p 27 x) j = (refd C x j || false); rw [Bool.or_false]; exact (d5 x hx).1 j hj
    · show bt (gA p 28 x) t = (usd C x t || false); rw [Bool.or_false]; exact (d5 x hx).2 t h_t
  · subst e
    have v8 := h1 (by omega)
    have kk := apB_k p (cP C) c 1 v
    refine ⟨sA (apB p (cP C) c 1 v) 28 (upd (gA p 28) c (gA p 28 c ||| jshl 1 (nI v))), ?_, gen _ rfl rfl rfl rfl rfl rfl rfl rfl rfl rfl (fun x hx => ⟨fun j hj => ?_, fun t h_t => ?_⟩), fX_A kk.1 _ (by decide) (by decide), kk.2⟩
    · rw [base, if_pos (show nI 1 = 1 from rfl), FX0_addPart_J79, if_neg (show ¬ nI 1 = 2 by decide)]
    · show bt (gA p 27 x) j = (refd C x j || false); rw [Bool.or_false]; exact (d5 x hx).1 j hj
    · show bt (upd (gA p 28) c (gA p 28 c ||| jshl 1 (nI v)) x) t = (usd C x t || (true && (c == x && v == t)))
      rw [upd_eq, Bool.true_and, ← (d5 x hx).2 t h_t]
      by_cases d : x = c
      · subst d
        rw [if_pos rfl, b_or, b_one (by omega) h_t, beq_self_eq_true, Bool.true_and]
        congr 1
        by_cases z : t = v
        · rw [decide_eq_true z, z]; simp
        · rw [decide_eq_false z]; simp; omega
      · rw [if_neg d, show (c == x) = false from by simp; omega]; simp
  · subst e
    have v16 := h2 rfl
    have kk := apB_k p (cP C) c 2 v
    refine ⟨sA (apB p (cP C) c 2 v) 27 (upd (gA p 27) v (gA p 27 v ||| jshl 1 (nI c))), ?_, gen _ rfl rfl rfl rfl rfl rfl rfl rfl rfl rfl (fun x hx => ⟨fun j hj => ?_, fun t h_t => ?_⟩), fX_A kk.1 _ (by decide) (by decide), kk.2⟩
    · rw [base, if_neg (show ¬ nI 2 = 1 by decide), FX0_addPart_J79, if_pos (show nI 2 = 2 from rfl), if_neg c8, if_neg (show ¬ (16 : Int32) ≤ nI v from nI_ge (b := 16) v16 (by omega)), gd_t (inb_n v16 (by omega)), gd_t (inb_n v16 (by omega)), bd_e, c9]; rfl
    · show bt (upd (gA p 27) v (gA p 27 v ||| jshl 1 (nI c)) x) j = (refd C x j || (true && (v == x && c == j)))
      rw [upd_eq, Bool.true_and, ← (d5 x hx).1 j hj]
      by_cases d : x = v
      · subst d
        rw [if_pos rfl, b_or, b_one (by omega) hj, beq_self_eq_true, Bool.true_and]
        congr 1
        by_cases z : j = c
        · rw [decide_eq_true z, z]; simp
        · rw [decide_eq_false z]; simp; omega
      · rw [if_neg d, show (v == x) = false from by simp; omega]; simp
    · show bt (gA p 28 x) t = (usd C x t || false); rw [Bool.or_false]; exact (d5 x hx).2 t h_t
