/-! the two readers: a new clause, what it wants -/
def addC (C : Cd) (o : Option Nat) : Cd := (cN C + 1, cP C, fun c => if c = cN C then o else cA C c, fun c => if c = cN C then 0 else cY C c, fun c => if c = cN C then 0 else cW C c, fun c => if c = cN C then false else cC C c, cK C, cV C, cO C)
def stY (C : Cd) (c : Nat) (v : Int32) : Cd := (cN C, cP C, cA C, fun x => if x = c then v else cY C x, cW C, cC C, cK C, cV C, cO C)
def stW (C : Cd) (c : Nat) (v : Int32) : Cd := (cN C, cP C, cA C, cY C, fun x => if x = c then v else cW C x, cC C, cK C, cV C, cO C)
def stC (C : Cd) (c : Nat) : Cd := (cN C, cP C, cA C, cY C, cW C, fun x => if x = c then true else cC C x, cK C, cV C, cO C)
theorem wf_addC {C : Cd} (hC : WfD C) (hN : cN C < 16) {o : Option Nat} (ho : ∀ d, o = some d → d < cN C) : WfD (addC C o) := by
  obtain ⟨w1, w2, w3, w4, w5⟩ := hC
  refine ⟨hN, w2, fun c hc d => ?_, fun c hc q hq => ?_, fun i hi => ?_⟩
  · have hc : c < cN C + 1 := hc
    show (if c = cN C then o else cA C c) = some d → d < c
    by_cases e : c = cN C
    · rw [if_pos e, e]; exact ho d
    · rw [if_neg e]; exact w3 c (by omega) d
  · have hc : c < cN C + 1 := hc
    show (bt (if c = cN C then 0 else cY C c) q = true → q < 6) ∧ (bt (if c = cN C then 0 else cW C c) q = true → q < 6) ∧ ¬ (bt (if c = cN C then 0 else cY C c) q = true ∧ bt (if c = cN C then 0 else cW C c) q = true)
    by_cases e : c = cN C
    · simp only [if_pos e, b_0]
      exact ⟨fun h => (by cases h), fun h => (by cases h), fun h => (by cases h.1)⟩
    · simp only [if_neg e]; exact w4 c (by omega) q hq
  · have := w5 i hi
    exact ⟨this.1, Nat.lt_succ_of_lt this.2.1, this.2.2⟩
theorem depF_d {C : Cd} (h : ∀ c, c < cN C → ∀ d, cA C c = some d → d < c) : ∀ n m c, c < n → c < m → c < cN C → depF C n c = depF C m c
  | 0, _, _, h1, _, _ => absurd h1 (Nat.not_lt_zero _)
  | _, 0, _, _, h1, _ => absurd h1 (Nat.not_lt_zero _)
  | n + 1, m + 1, c, h1, h2, h3 => by
    rw [depF, depF]
    cases ha : cA C c with
    | none => rfl
    | some d =>
      have := h c h3 d ha
      show depF C n d + 1 = depF C m d + 1
      rw [depF_d h n m d (by omega) (by omega) (by omega)]
theorem depF_c {C : Cd} (h : ∀ c, c < cN C → ∀ d, cA C c = some d → d < c) (o : Option Nat) : ∀ n c, c < cN C → depF (addC C o) n c = depF C n c
  | 0, _, _ => rfl
  | n + 1, c, hc => by
    have e : cA (addC C o) c = cA C c := if_neg (by omega)
    rw [depF, depF, e]
    cases ha : cA C c with
    | none => rfl
    | some d =>
      have := h c hc d ha
      show depF (addC C o) n d + 1 = depF C n d + 1
      rw [depF_c h o n d (by omega)]
theorem dep_new {C : Cd} (hC : WfD C) (hN : cN C < 16) {d : Nat} (hd : d < cN C) : dep (addC C (some d)) (cN C) = dep C d + 1 := by
  have e : cA (addC C (some d)) (cN C) = some d := if_pos rfl
  unfold dep
  rw [depF, e]
  show depF (addC C (some d)) 16 d + 1 = depF C 17 d + 1
  rw [depF_c hC.2.2.1 _ _ _ hd, depF_d hC.2.2.1 16 17 d (by omega) (by omega) hd]
theorem dep_new0 (C : Cd) : dep (addC C none) (cN C) = 0 := by
  have e : cA (addC C none) (cN C) = none := if_pos rfl
  unfold dep
  rw [depF, e]
def acX (p : SS) (N : Nat) (x d : Int32) : SS := sI (sA (sA (sA (sA p 23 (upd (gA p 23) N x)) 24 (upd (gA p 24) N d)) 25 (upd (gA p 25) N 0)) 26 (upd (gA p 26) N 0)) 20 (nI (N + 1))
theorem acX_k (p : SS) (N : Nat) (x d : Int32) : kpX p (acX p N x d) :=
  ⟨fX_I (fX_A (fX_A (fX_A (fX_A (fX_r p) _ (by decide) (by decide)) _ (by decide) (by decide)) _ (by decide) (by decide)) _ (by decide) (by decide)) _ (by decide) (by decide), rfl, rfl, rfl, rfl, rfl⟩
theorem x_addClause {p : SS} {C : Cd} (hC : WfD C) (hd : DrX C p) (hN : cN C < 16) {o : Option Nat} (ho : ∀ d, o = some d → d < cN C) : ∃ p', FX0_addClause p (oI o) = some (nI (cN C), p') ∧ DrX (addC C o) p' ∧ kpX p p' := by
  obtain ⟨d1, d2, d3, d4, d5, d6⟩ := id hd
  have c1 : nI (cN C) < 16 := nI_lt (b := 16) hN (by omega)
  have c4 : inb (nI (cN C)) 16 = true := inb_n hN (by omega)
  have c5 : Int32.toNatClampNeg (nI (cN C)) = cN C := nI_clamp (by omega)
  have j49 : ∀ x d : Int32, FX0_addClause_J49 (sA p 23 (upd (gA p 23) (cN C) x)) (nI (cN C)) d (nI (cN C)) = some (nI (cN C), acX p (cN C) x d) := fun x d => by
    simp only [FX0_addClause_J49, bd_e, gIa, gAa, gIs, gAs, d1, c4, c5, gd_1, nI_1, Nat.reduceEqDiff, reduceIte]
    rfl
  refine ⟨acX p (cN C) (oI o) (nI (dep (addC C o) (cN C))), ?_, ⟨rfl, d2, fun c hc => ?_, fun c hc => ?_, d5, d6⟩, acX_k p _ _ _⟩
  · rw [FX0_addClause, d1, if_pos c1, gd_t c4, bd_e, c5]
    cases o with
    | none =>
      rw [dep_new0, if_pos (show oI none < 0 by decide), FX0_addClause_J48, j49]; rfl
    | some d =>
      have hd := ho d rfl
      rw [dep_new hC hN hd]
      show (if nI d < 0 then _ else if nI (cN C) ≤ nI d then _ else gd (inb (nI d) 16) (FX0_addClause_J49 _ _ (gA p 24 (Int32.toNatClampNeg (nI d)) + 1) _)) = _
      rw [if_neg (nI_pos (by omega)), if_neg (nI_ge hd (by omega)), gd_t (inb_n (by omega) (by omega)), nI_clamp (by omega), (d4 d hd).2.1, nI_1]
      exact j49 _ _
  · show bt (gI p 22) c = (decide (c < cN C + 1) && (if c = cN C then false else cC C c))
    rw [d3 c hc]
    by_cases e : c = cN C
    · rw [if_pos e, e, decide_eq_false (Nat.lt_irrefl _)]; simp
    · rw [if_neg e]
      congr 1
      exact decide_eq_decide.mpr (by omega)
  · have hc : c < cN C + 1 := hc
    show upd (gA p 23) (cN C) (oI o) c = oI (if c = cN C then o else cA C c) ∧ upd (gA p 24) (cN C) (nI (dep (addC C o) (cN C))) c = nI (dep (addC C o) c) ∧ upd (gA p 25) (cN C) 0 c = (if c = cN C then 0 else cY C c) ∧ upd (gA p 26) (cN C) 0 c = (if c = cN C then 0 else cW C c)
    rw [upd_eq, upd_eq, upd_eq, upd_eq]
    by_cases e : c = cN C
    · subst e; rw [if_pos rfl, if_pos rfl, if_pos rfl, if_pos rfl, if_pos rfl, if_pos rfl, if_pos rfl]; exact ⟨rfl, rfl, rfl, rfl⟩
    · simp only [if_neg e]
      rw [show dep (addC C o) c = dep C c from depF_c hC.2.2.1 o 17 c (by omega)]
      exact d4 c (by omega)
def opM (q : SS) (N : Nat) (v x : Int32) : SS := sI (sA (sA (sA (sA (sI q 22 v) 13 (upd (gA q 13) N x)) 14 (upd (gA q 14) N 0)) 15 (upd (gA q 15) N 0)) 16 (upd (gA q 16) N 0)) 12 (nI (N + 1))
theorem opM_f (q : SS) (N : Nat) (v x : Int32) : fM q (opM q N v x) :=
  fM_I (fM_A (fM_A (fM_A (fM_A (fM_I (fM_r q) _ (by decide)) _ (by decide) (by decide)) _ (by decide) (by decide)) _ (by decide) (by decide)) _ (by decide) (by decide)) _ (by decide)
theorem okd_open {a b : SS} {C : Cd} {p q p' : SS} (h : OkD a b C p q) (hN : cN C < 16) {o : Option Nat} (ho : ∀ d, o = some d → d < cN C) (hk : kpX p p') (hd : DrX (addC C o) p') (v : Int32) : OkD a b (addC C o) p' (opM q (cN C) v (oI o)) := by
  obtain ⟨f1, f2, e15, e23, e11, e2, hC, hX, hM, hL⟩ := h
  refine ⟨fX_t f1 hk.1, fM_t f2 (opM_f _ _ _ _), hk.2.2.1.trans e15, e23, hk.2.1.trans e11, e2, wf_addC hC hN ho, hd, ⟨rfl, hM.2.1, fun c hc => ?_, hM.2.2.2⟩, fun i hi e => ?_⟩
  · have hc : c < cN C + 1 := hc
    show upd (gA q 13) (cN C) (oI o) c = oI (if c = cN C then o else cA C c) ∧ upd (gA q 14) (cN C) 0 c = (if c = cN C then 0 else cY C c) ∧ upd (gA q 15) (cN C) 0 c = (if c = cN C then 0 else cW C c) ∧ upd (gA q 16) (cN C) 0 c = bI (if c = cN C then false else cC C c)
    rw [upd_eq, upd_eq, upd_eq, upd_eq]
    by_cases e : c = cN C
    · simp only [if_pos e]; exact ⟨trivial, trivial, trivial, rfl⟩
    · simp only [if_neg e]; exact hM.2.2.1 c (by omega)
  · rw [hk.2.2.2.2.2]; exact hL i hi e
/-- the questions that a clause tells -/
def tld (C : Cd) (c : Nat) : Nat := fb_ct (fun x => bt (cY C c) x || bt (cW C c) x) 6
def wnM (q : SS) (c : Nat) (x y : Int32) : SS := sA (sA q 14 (upd (gA q 14) c x)) 15 (upd (gA q 15) c y)
theorem m_173b {q : SS} {c : Nat} (hc : c < 16) (h : ¬ gI q 23 = 0) (rec : SS → Option SS) (y v : Int32) : FX8_opens_J173 q rec (nI c) y v = rec (wnM q c (gA q 14 c ||| 0) (gA q 15 c ||| 0)) := by
  have c4 : inb (nI c) 16 = true := inb_n hc (by omega)
  have c5 : Int32.toNatClampNeg (nI c) = c := nI_clamp (by omega)
  simp only [FX8_opens_J173, FX8_opens_J198, FX8_opens_J199, bd_e, gIa, gAa, gIs, gAs, c4, c5, gd_1, if_neg h, Nat.reduceEqDiff, reduceIte]
  rfl
theorem m_173 {q : SS} {c : Nat} (hc : c < 16) (h : gI q 23 = 0) (rec : SS → Option SS) (y : Bool) (v : Int32) : FX8_opens_J173 q rec (nI c) (bI y) v = rec (wnM q c (gA q 14 c ||| if y then jshl 1 v else 0) (gA q 15 c ||| if y then 0 else jshl 1 v)) := by
  have c4 : inb (nI c) 16 = true := inb_n hc (by omega)
  have c5 : Int32.toNatClampNeg (nI c) = c := nI_clamp (by omega)
  cases y with
  | true =>
    simp only [FX8_opens_J173, FX8_opens_J198, FX8_opens_J199, bd_e, gIa, gAa, gIs, gAs, c4, c5, gd_1, if_pos h, if_neg bI_n, Nat.reduceEqDiff, reduceIte]
    rfl
  | false =>
    simp only [FX8_opens_J173, FX8_opens_J198, FX8_opens_J199, bd_e, gIa, gAa, gIs, gAs, c4, c5, gd_1, if_pos h, if_pos bI_f, Nat.reduceEqDiff, reduceIte]
    rfl
theorem wnM_f (q : SS) (c : Nat) (x y : Int32) : fM q (wnM q c x y) := fM_A (fM_A (fM_r q) _ (by decide) (by decide)) _ (by decide) (by decide)
theorem bad_wn {a b : SS} {n : Nat} {p q : SS} (h : Bad a b n p q) (c : Nat) (x y : Int32) : Bad a b n p (wnM q c x y) := by
  obtain ⟨h1, h2, h3, h4, h5⟩ := h
  exact ⟨h1, fM_t h2 (wnM_f q c x y), h3, h4, h5⟩
theorem or_0 (x : Int32) : x ||| 0 = x := b_ext fun i _ => by rw [b_or, b_0, Bool.or_false]
theorem upd_same (f : Nat → Int32) (c : Nat) : upd f c (f c) = f := by
  funext x
  rw [upd_eq]
  by_cases e : x = c
  · rw [if_pos e, e]
  · rw [if_neg e]
theorem sA_same (q : SS) (k : Nat) : sA q k (gA q k) = q := by
  unfold sA gA
  have : (fun j => if j = k then q.2.1 k else q.2.1 j) = q.2.1 := by
    funext j
    by_cases e : j = k
    · rw [if_pos e, e]
    · rw [if_neg e]
  rw [this]
theorem okd_Y {a b : SS} {C : Cd} {p q : SS} (h : OkD a b C p q) {c v : Nat} (hc : c < cN C) (hv : v < 6) (hn : bt (cY C c ||| cW C c) v = false) : OkD a b (stY C c (cY C c ||| jshl 1 (nI v))) (sA p 25 (upd (gA p 25) c (gA p 25 c ||| jshl 1 (nI v)))) (wnM q c (gA q 14 c ||| jshl 1 (nI v)) (gA q 15 c ||| 0)) ∧ tld (stY C c (cY C c ||| jshl 1 (nI v))) c = tld C c + 1 := by
  obtain ⟨f1, f2, e15, e23, e11, e2, hC, hX, hM, hL⟩ := h
  rw [b_or, Bool.or_eq_false_iff] at hn
  refine ⟨⟨fX_A f1 _ (by decide) (by decide), fM_t f2 (wnM_f _ _ _ _), e15, e23, e11, e2, ⟨hC.1, hC.2.1, hC.2.2.1, fun x hx z hz => ?_, hC.2.2.2.2⟩, ⟨hX.1, hX.2.1, hX.2.2.1, fun x hx => ?_, hX.2.2.2.2.1, hX.2.2.2.2.2⟩, ⟨hM.1, hM.2.1, fun x hx => ?_, hM.2.2.2⟩, hL⟩, ?_⟩
  · show (bt (if x = c then cY C c ||| jshl 1 (nI v) else cY C x) z = true → z < 6) ∧ (bt (cW C x) z = true → z < 6) ∧ ¬ (bt (if x = c then cY C c ||| jshl 1 (nI v) else cY C x) z = true ∧ bt (cW C x) z = true)
    have w := hC.2.2.2.1 x hx z hz
    by_cases e : x = c
    · subst e
      rw [if_pos rfl, b_or, b_one (by omega) hz]
      by_cases d : z = v
      · subst d
        refine ⟨fun _ => hv, w.2.1, fun g => ?_⟩
        rw [hn.2] at g; cases g.2
      · rw [decide_eq_false d, Bool.or_false]; exact w
    · rw [if_neg e]; exact w
  · show gA p 23 x = oI (cA C x) ∧ gA p 24 x = nI (dep (stY C c (cY C c ||| jshl 1 (nI v))) x) ∧ upd (gA p 25) c (gA p 25 c ||| jshl 1 (nI v)) x = (if x = c then cY C c ||| jshl 1 (nI v) else cY C x) ∧ gA p 26 x = cW C x
    rw [dep_A (C := C) (C' := stY C c (cY C c ||| jshl 1 (nI v))) rfl]
    have w := hX.2.2.2.1 x hx
    refine ⟨w.1, w.2.1, ?_, w.2.2.2⟩
    rw [upd_eq]
    by_cases e : x = c
    · rw [if_pos e, if_pos e, ← e, w.2.2.1]
    · rw [if_neg e, if_neg e, w.2.2.1]
  · show gA q 13 x = oI (cA C x) ∧ upd (gA q 14) c (gA q 14 c ||| jshl 1 (nI v)) x = (if x = c then cY C c ||| jshl 1 (nI v) else cY C x) ∧ upd (gA q 15) c (gA q 15 c ||| 0) x = cW C x ∧ gA q 16 x = bI (cC C x)
    have w := hM.2.2.1 x hx
    rw [or_0, upd_same]
    refine ⟨w.1, ?_, w.2.2.1, w.2.2.2⟩
    rw [upd_eq]
    by_cases e : x = c
    · rw [if_pos e, if_pos e, ← e, w.2.1]
    · rw [if_neg e, if_neg e, w.2.1]
  · have u := fb_ct_upd (fun x => bt (cY C c) x || bt (cW C c) x) true hv
    rw [show (bt (cY C c) v || bt (cW C c) v) = false by rw [hn.1, hn.2]; rfl] at u
    simp only [if_true] at u
    unfold tld
    have e : fb_ct (fun x => bt (cY (stY C c (cY C c ||| jshl 1 (nI v))) c) x || bt (cW (stY C c (cY C c ||| jshl 1 (nI v))) c) x) 6 = fb_ct (fun k => if k = v then true else bt (cY C c) k || bt (cW C c) k) 6 := fb_ct_cong fun k hk => by
      show (bt (if c = c then cY C c ||| jshl 1 (nI v) else cY C c) k || bt (cW C c) k) = _
      rw [if_pos rfl, b_or, b_one (by omega) (by omega)]
      by_cases d : k = v
      · rw [decide_eq_true d, if_pos d]; simp
      · rw [decide_eq_false d, if_neg d, Bool.or_false]
    rw [e]
    simpa using u
theorem okd_W {a b : SS} {C : Cd} {p q : SS} (h : OkD a b C p q) {c v : Nat} (hc : c < cN C) (hv : v < 6) (hn : bt (cY C c ||| cW C c) v = false) : OkD a b (stW C c (cW C c ||| jshl 1 (nI v))) (sA p 26 (upd (gA p 26) c (gA p 26 c ||| jshl 1 (nI v)))) (wnM q c (gA q 14 c ||| 0) (gA q 15 c ||| jshl 1 (nI v))) ∧ tld (stW C c (cW C c ||| jshl 1 (nI v))) c = tld C c + 1 := by
  obtain ⟨f1, f2, e15, e23, e11, e2, hC, hX, hM, hL⟩ := h
  rw [b_or, Bool.or_eq_false_iff] at hn
  refine ⟨⟨fX_A f1 _ (by decide) (by decide), fM_t f2 (wnM_f _ _ _ _), e15, e23, e11, e2, ⟨hC.1, hC.2.1, hC.2.2.1, fun x hx z hz => ?_, hC.2.2.2.2⟩, ⟨hX.1, hX.2.1, hX.2.2.1, fun x hx => ?_, hX.2.2.2.2.1, hX.2.2.2.2.2⟩, ⟨hM.1, hM.2.1, fun x hx => ?_, hM.2.2.2⟩, hL⟩, ?_⟩
  · show (bt (cY C x) z = true → z < 6) ∧ (bt (if x = c then cW C c ||| jshl 1 (nI v) else cW C x) z = true → z < 6) ∧ ¬ (bt (cY C x) z = true ∧ bt (if x = c then cW C c ||| jshl 1 (nI v) else cW C x) z = true)
    have w := hC.2.2.2.1 x hx z hz
    by_cases e : x = c
    · subst e
      rw [if_pos rfl, b_or, b_one (by omega) hz]
      by_cases d : z = v
      · subst d
        refine ⟨w.1, fun _ => hv, fun g => ?_⟩
        rw [hn.1] at g; cases g.1
      · rw [decide_eq_false d, Bool.or_false]; exact w
    · rw [if_neg e]; exact w
  · show gA p 23 x = oI (cA C x) ∧ gA p 24 x = nI (dep (stW C c (cW C c ||| jshl 1 (nI v))) x) ∧ gA p 25 x = cY C x ∧ upd (gA p 26) c (gA p 26 c ||| jshl 1 (nI v)) x = (if x = c then cW C c ||| jshl 1 (nI v) else cW C x)
    rw [dep_A (C := C) (C' := stW C c (cW C c ||| jshl 1 (nI v))) rfl]
    have w := hX.2.2.2.1 x hx
    refine ⟨w.1, w.2.1, w.2.2.1, ?_⟩
    rw [upd_eq]
    by_cases e : x = c
    · rw [if_pos e, if_pos e, ← e, w.2.2.2]
    · rw [if_neg e, if_neg e, w.2.2.2]
  · show gA q 13 x = oI (cA C x) ∧ upd (gA q 14) c (gA q 14 c ||| 0) x = cY C x ∧ upd (gA q 15) c (gA q 15 c ||| jshl 1 (nI v)) x = (if x = c then cW C c ||| jshl 1 (nI v) else cW C x) ∧ gA q 16 x = bI (cC C x)
    have w := hM.2.2.1 x hx
    rw [or_0, upd_same]
    refine ⟨w.1, w.2.1, ?_, w.2.2.2⟩
    rw [upd_eq]
    by_cases e : x = c
    · rw [if_pos e, if_pos e, ← e, w.2.2.1]
    · rw [if_neg e, if_neg e, w.2.2.1]
  · have u := fb_ct_upd (fun x => bt (cY C c) x || bt (cW C c) x) true hv
    rw [show (bt (cY C c) v || bt (cW C c) v) = false by rw [hn.1, hn.2]; rfl] at u
    simp only [if_true] at u
    unfold tld
    have e : fb_ct (fun x => bt (cY (stW C c (cW C c ||| jshl 1 (nI v))) c) x || bt (cW (stW C c (cW C c ||| jshl 1 (nI v))) c) x) 6 = fb_ct (fun k => if k = v then true else bt (cY C c) k || bt (cW C c) k) 6 := fb_ct_cong fun k hk => by
      show (bt (cY C c) k || bt (if c = c then cW C c ||| jshl 1 (nI v) else cW C c) k) = _
      rw [if_pos rfl, b_or, b_one (by omega) (by omega)]
      by_cases d : k = v
      · rw [decide_eq_true d, if_pos d]; simp
      · rw [decide_eq_false d, if_neg d, Bool.or_false]
    rw [e]
    simpa using u
