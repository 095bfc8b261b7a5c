/-! what is wrong: counts, first ones, as the reference and the desk find them -/
def ofn (C : Cd) (S : Nat → Bool) (t k n : Nat) : Nat := fb_ct (fun p => S (cO C p) && (cK C p == k && cV C p == t)) n
def cam (C : Cd) (S : Nat → Bool) (k : Nat) : Nat := fb_ct (fun p => cK C p == k && ami C S p) (cP C)
theorem dfb_cong {C : Cd} (hC : WfC C) {S T : Nat → Bool} (h : ∀ j, j < cN C → S j = T j) {p : Nat} (hp : p ≤ cP C) (t : Nat) : dfb C S p t = dfb C T p t := by
  unfold dfb
  exact anyB_cong fun q hq => by rw [h _ (hC.2.2.2.2 q (by omega)).2.1]
theorem ami_cong {C : Cd} (hC : WfC C) {S T : Nat → Bool} (h : ∀ j, j < cN C → S j = T j) {p : Nat} (hp : p < cP C) : ami C S p = ami C T p := by
  obtain ⟨p1, p2, p3, p4⟩ := hC.2.2.2.2 p hp
  unfold ami
  rw [h _ p2, dfb_cong hC h (Nat.le_of_lt hp)]
  by_cases hk : cK C p = 2
  · rw [if_pos hk, if_pos hk, h _ (p3 hk)]
  · rw [if_neg hk, if_neg hk]
theorem hng_cong {C : Cd} (hC : WfC C) {S T : Nat → Bool} (h : ∀ j, j < cN C → S j = T j) (t o : Nat) : hng C S t o = hng C T t o := by
  unfold hng
  exact anyB_cong fun q hq => by rw [h _ (hC.2.2.2.2 q hq).2.1]
theorem cam_cong {C : Cd} (hC : WfC C) {S T : Nat → Bool} (h : ∀ j, j < cN C → S j = T j) (k : Nat) : cam C S k = cam C T k := by
  unfold cam
  exact fb_ct_cong fun p hp => by rw [ami_cong hC h hp]
theorem ofn_dfb {C : Cd} {S : Nat → Bool} {t n : Nat} : ofn C S t 0 n = 0 ↔ dfb C S n t = false := by
  unfold ofn dfb
  rw [fb_ct_zero, anyB_f]
  constructor
  · intro h k hk
    have := h k hk
    revert this
    cases S (cO C k) <;> cases (cK C k == 0) <;> cases (cV C k == t) <;> simp
  · intro h k hk
    have := h k hk
    revert this
    cases S (cO C k) <;> cases (cK C k == 0) <;> cases (cV C k == t) <;> simp
theorem m_often {b : SS} {C : Cd} (hC : WfC C) (hb : RepM b C) (s : Int32) {t k m : Nat} (ht : t < 2 ^ 30) (hk : k < 2 ^ 30) (hm : m ≤ cP C) : FX8_often b s (nI t) (nI k) (nI m) = some (nI (ofn C (bt s) t k m)) := by
  obtain ⟨w1, w2, -, -, w5⟩ := id hC
  obtain ⟨r, h1, h2⟩ := lpk (fun n (a : Int32) i => FX8_often_L6 b s (nI t) (nI k) (nI m) (fun u => some u) n a i) m (fun u => some u) (fun i a => a = nI (ofn C (bt s) t k i)) (by
    intro n a h
    show FX8_often_L6 _ _ _ _ _ _ _ _ _ = _
    rw [FX8_often_L6, if_pos (nI_le (Nat.le_refl _) (by omega))]) (by
    intro n i a hi h
    refine ⟨_, rfl, ?_⟩
    show FX8_often_L6 _ _ _ _ _ _ _ _ _ = FX8_often_L6 _ _ _ _ _ _ _ _ _
    obtain ⟨p1, p2, p3, p4⟩ := w5 i (by omega)
    obtain ⟨o1, o2, o3⟩ := hb.2.2.2 i (by omega)
    have ci : Int32.toNatClampNeg (nI i) = i := nI_clamp (by omega)
    have g : inb (nI i) 30 = true := inb_n (by omega) (by omega)
    have hv : cV C i < 2 ^ 30 := by
      by_cases q : cK C i = 2
      · have := p3 q; omega
      · have := p4 q; omega
    rw [FX8_often_L6, if_neg (nI_ge hi (by omega)), gd_t g, ci, o1, m_has b s (by omega : cO C i < 32), ob_s, gd_t g, gd_t g, o2, o3, h, nI_1]
    unfold ofn
    rw [fb_ct_succ]
    cases hs : bt s (cO C i) with
    | false => rw [if_pos bI_f, Int32.add_zero]; simp
    | true =>
      rw [if_neg bI_n]
      by_cases c1 : cK C i = k
      · rw [if_pos (by rw [c1])]
        by_cases c2 : cV C i = t
        · rw [if_pos (by rw [c2]), show (1 : Int32) = nI 1 from rfl, nI_add]; simp [c1, c2]
        · rw [if_neg (nI_ne (by omega) (by omega) c2), Int32.add_zero]; simp [c2]
      · rw [if_neg (nI_ne (by omega) (by omega) c1), Int32.add_zero]; simp [c1]) (n := 5000) (by omega) (a := 0) rfl
  unfold FX8_often
  have h2 : FX8_often_L6 b s (nI t) (nI k) (nI m) (fun u => some u) 5000 0 0 = some r := h2
  rw [h2, h1]
/-- the reference's number of a kind of wrong -> the part's kind -/
theorem m_isWrong {b : SS} {C : Cd} (hC : WfC C) (hb : RepM b C) (s : Int32) {p : Nat} (hp : p < cP C) : FX8_isWrong b s (nI p) 0 = some (bI (cK C p == 1 && ami C (bt s) p)) ∧ FX8_isWrong b s (nI p) 1 = some (bI (cK C p == 0 && ami C (bt s) p)) ∧ FX8_isWrong b s (nI p) 3 = some (bI (cK C p == 2 && ami C (bt s) p)) := by
  obtain ⟨w1, w2, -, -, w5⟩ := id hC
  obtain ⟨p1, p2, p3, p4⟩ := w5 p hp
  obtain ⟨o1, o2, o3⟩ := hb.2.2.2 p hp
  have ci : Int32.toNatClampNeg (nI p) = p := nI_clamp (by omega)
  have g : inb (nI p) 30 = true := inb_n (by omega) (by omega)
  have hv : cV C p < 2 ^ 30 := by
    by_cases q : cK C p = 2
    · have := p3 q; omega
    · have := p4 q; omega
  have hof := m_often hC hb s hv (show 0 < 2 ^ 30 by omega) (Nat.le_of_lt hp)
  have hof : FX8_often b s (nI (cV C p)) 0 (nI p) = some (nI (ofn C (bt s) (cV C p) 0 p)) := hof
  have hle : ofn C (bt s) (cV C p) 0 p < 2 ^ 31 := by
    have := fb_ct_le (fun q => bt s (cO C q) && (cK C q == 0 && cV C q == cV C p)) p
    unfold ofn; omega
  have z := ofn_dfb (C := C) (S := bt s) (t := cV C p) (n := p)
  have zero : nI (ofn C (bt s) (cV C p) 0 p) = 0 ↔ dfb C (bt s) p (cV C p) = false := by
    rw [← z, show (0 : Int32) = nI 0 from rfl, nI_eq hle (by omega)]
  have le0 : nI (ofn C (bt s) (cV C p) 0 p) ≤ 0 ↔ dfb C (bt s) p (cV C p) = false := by
    rw [← z, show (0 : Int32) = nI 0 from rfl, nI_leI hle (by omega)]; omega
  refine ⟨?_, ?_, ?_⟩
  · rw [FX8_isWrong, gd_t g, ci, o1, m_has b s (by omega : cO C p < 32), ob_s, if_pos rfl, gd_t g, o2, gd_t g, o3, hof, ob_s]
    unfold ami
    cases hs : bt s (cO C p) with
    | false => rw [if_pos bI_f]; simp [bI]
    | true =>
      rw [if_neg bI_n]
      by_cases c1 : cK C p = 1
      · rw [if_pos (by rw [c1]; rfl)]
        cases hd : dfb C (bt s) p (cV C p) with
        | false => rw [if_pos (zero.mpr hd)]; simp [c1, bI]
        | true => rw [if_neg (fun q => by rw [zero.mp q] at hd; cases hd)]; simp [c1, bI]
      · rw [if_neg (show ¬ nI (cK C p) = (1 : Int32) from nI_ne (b := 1) (by omega) (by omega) c1)]; simp [c1, bI]
  · rw [FX8_isWrong]
    simp only [gd_t g, ci, o1, o2, o3, hof, ob_s, m_has b s (by omega : cO C p < 32)]
    rw [if_neg (show ¬ (1 : Int32) = 0 by decide), if_pos trivial]
    unfold ami
    cases hs : bt s (cO C p) with
    | false => rw [if_pos bI_f]; simp [bI]
    | true =>
      rw [if_neg bI_n]
      by_cases c1 : cK C p = 0
      · rw [if_pos (by rw [c1]; rfl)]
        cases hd : dfb C (bt s) p (cV C p) with
        | false => rw [if_pos (le0.mpr hd)]; simp [c1, bI]
        | true => rw [if_neg (fun q => by rw [le0.mp q] at hd; cases hd)]; simp [c1, bI]
      · rw [if_neg (show ¬ nI (cK C p) = 0 from nI_ne (b := 0) (by omega) (by omega) c1)]; simp [c1, bI]
  · rw [FX8_isWrong]
    simp only [gd_t g, ci, o1, o2, o3, hof, ob_s, m_has b s (by omega : cO C p < 32)]
    rw [if_neg (show ¬ (3 : Int32) = 0 by decide), if_neg (show ¬ (3 : Int32) = 1 by decide)]
    unfold ami
    cases hs : bt s (cO C p) with
    | false => rw [if_pos bI_f]; simp [bI]
    | true =>
      rw [if_neg bI_n]
      by_cases c1 : cK C p = 2
      · rw [if_pos (by rw [c1]; rfl), m_has b s (by have := p3 c1; omega : cV C p < 32), ob_s]
        cases hd : bt s (cV C p) with
        | false => rw [if_pos bI_f]; simp [c1, bI]
        | true => rw [if_neg bI_n]; simp [c1, bI]
      · rw [if_neg (show ¬ nI (cK C p) = (2 : Int32) from nI_ne (b := 2) (by omega) (by omega) c1)]; simp [c1, bI]
theorem m_countG {b : SS} {C : Cd} (hC : WfC C) (hb : RepM b C) (s w : Int32) (k : Nat) (hw : ∀ p, p < cP C → FX8_isWrong b s (nI p) w = some (bI (cK C p == k && ami C (bt s) p))) : FX8_count b s w = some (nI (cam C (bt s) k)) := by
  have w2 := hC.2.1
  obtain ⟨r, h1, h2⟩ := lpk (fun n (a : Int32) i => FX8_count_L5 b s w (fun u => some u) n a i) (cP C) (fun u => some u) (fun i a => a = nI (fb_ct (fun p => cK C p == k && ami C (bt s) p) i)) (by
    intro n a h
    show FX8_count_L5 _ _ _ _ _ _ _ = _
    rw [FX8_count_L5, hb.2.1, if_pos (nI_le (Nat.le_refl _) (by omega))]) (by
    intro n i a hi h
    refine ⟨_, rfl, ?_⟩
    show FX8_count_L5 _ _ _ _ _ _ _ = FX8_count_L5 _ _ _ _ _ _ _
    rw [FX8_count_L5, hb.2.1, if_neg (nI_ge hi (by omega)), hw i hi, ob_s, h, fb_ct_succ, nI_1]
    cases (cK C i == k && ami C (bt s) i) with
    | false => rw [if_pos bI_f, Int32.add_zero]; rfl
    | true => rw [if_neg bI_n, show (1 : Int32) = nI 1 from rfl, nI_add]; rfl) (n := 5000) (by omega) (a := 0) rfl
  unfold FX8_count
  have h2 : FX8_count_L5 b s w (fun u => some u) 5000 0 0 = some r := h2
  rw [h2, h1]; rfl
theorem m_count {b : SS} {C : Cd} (hC : WfC C) (hb : RepM b C) (s : Int32) : FX8_count b s 0 = some (nI (cam C (bt s) 1)) ∧ FX8_count b s 1 = some (nI (cam C (bt s) 0)) ∧ FX8_count b s 3 = some (nI (cam C (bt s) 2)) :=
  ⟨m_countG hC hb s 0 1 (fun p hp => (m_isWrong hC hb s hp).1), m_countG hC hb s 1 0 (fun p hp => (m_isWrong hC hb s hp).2.1), m_countG hC hb s 3 2 (fun p hp => (m_isWrong hC hb s hp).2.2)⟩
/-- the first of i, i + 1 .. that is so -/
def fidx (f : Nat → Bool) : Nat → Nat → Int32
  | _, 0 => -1
  | i, m + 1 => if f i then nI i else fidx f (i + 1) m
theorem fidx_s (f : Nat → Bool) {i N : Nat} (h : i < N) : fidx f i (N - i) = if f i then nI i else fidx f (i + 1) (N - (i + 1)) := by
  obtain ⟨m, e⟩ : ∃ m, N - i = m + 1 := ⟨N - i - 1, by omega⟩
  rw [e, fidx, show N - (i + 1) = m by omega]
theorem fidx_cong {f g : Nat → Bool} : ∀ {m i : Nat}, (∀ k, i ≤ k → k < i + m → f k = g k) → fidx f i m = fidx g i m
  | 0, _, _ => rfl
  | m + 1, i, h => by rw [fidx, fidx, h i (Nat.le_refl _) (by omega), fidx_cong (fun k h1 h2 => h k (by omega) (by omega))]
theorem m_firstWrong {b : SS} {C : Cd} (hC : WfC C) (hb : RepM b C) (s : Int32) : FX8_firstWrong b s = some (fidx (ami C (bt s)) 0 (cP C)) := by
  have w2 := hC.2.1
  have h := lp (fun n (_ : Unit) i => FX8_firstWrong_L2 b s (some (-1)) n i) (cP C) (fun i _ => fidx (ami C (bt s)) 0 (cP C) = fidx (ami C (bt s)) i (cP C - i)) (fun r => r = some (fidx (ami C (bt s)) 0 (cP C))) (by
    intro n _ h
    show FX8_firstWrong_L2 _ _ _ _ _ = _
    rw [FX8_firstWrong_L2, hb.2.1, if_pos (nI_le (Nat.le_refl _) (by omega)), h, Nat.sub_self]; rfl) (by
    intro n i _ hi h
    obtain ⟨e1, e2, e3⟩ := m_isWrong hC hb s hi
    have k3 := (hC.2.2.2.2 i hi).1
    rw [fidx_s _ hi] at h
    cases ha : ami C (bt s) i with
    | false =>
      right
      rw [ha] at h
      refine ⟨(), h, ?_⟩
      show FX8_firstWrong_L2 _ _ _ _ _ = FX8_firstWrong_L2 _ _ _ _ _
      rw [FX8_firstWrong_L2, hb.2.1, if_neg (nI_ge hi (by omega)), e1, ob_s, e2, ob_s, e3, ob_s, ha]
      simp only [Bool.and_false]
      rw [if_pos bI_f, if_pos bI_f, if_pos bI_f, nI_1]
    | true =>
      left
      rw [ha, if_pos rfl] at h
      show FX8_firstWrong_L2 _ _ _ _ _ = _
      rw [FX8_firstWrong_L2, hb.2.1, if_neg (nI_ge hi (by omega)), e1, ob_s, e2, ob_s, e3, ob_s, ha, h]
      simp only [Bool.and_true]
      rcases (show cK C i = 0 ∨ cK C i = 1 ∨ cK C i = 2 by omega) with q | q | q
      · rw [q, show (0 == 1) = false from rfl, if_pos bI_f, show (0 == 0) = true from rfl, if_neg bI_n]
      · rw [q, show (1 == 1) = true from rfl, if_neg bI_n]
      · rw [q, show (2 == 1) = false from rfl, if_pos bI_f, show (2 == 0) = false from rfl, if_pos bI_f, show (2 == 2) = true from rfl, if_neg bI_n]) (cP C) 5000 0 () (by omega) (by omega) rfl
  exact h
/-! the desk's -/
theorem x_countAmiss {a : SS} {C : Cd} {sk : Nat → Bool} (hC : WfC C) (ha : RepX a C) (hT : Tabs a C sk) {k x : Nat} (hk : k < 2 ^ 30) (hx : x < 64) : FX2_countAmiss a (nI k) (nI x) = some (nI (cam C (inF C x sk) k)) := by
  have w2 := hC.2.1
  obtain ⟨r, h1, h2⟩ := lpk (fun n (v : Int32) i => FX2_countAmiss_L5 a (nI k) (nI x) (fun u => some u) n v i) (cP C) (fun u => some u) (fun i v => v = nI (fb_ct (fun p => cK C p == k && ami C (inF C x sk) p) i)) (by
    intro n v h
    show FX2_countAmiss_L5 _ _ _ _ _ _ _ = _
    rw [FX2_countAmiss_L5, ha.2.1, if_pos (nI_le (Nat.le_refl _) (by omega))]) (by
    intro n i v hi h
    refine ⟨_, rfl, ?_⟩
    show FX2_countAmiss_L5 _ _ _ _ _ _ _ = FX2_countAmiss_L5 _ _ _ _ _ _ _
    obtain ⟨k1, -, -⟩ := ha.2.2.2.2 i hi
    have p1 := (hC.2.2.2.2 i hi).1
    have ci : Int32.toNatClampNeg (nI i) = i := nI_clamp (by omega)
    have g : inb (nI i) 30 = true := inb_n (by omega) (by omega)
    rw [FX2_countAmiss_L5, ha.2.1, if_neg (nI_ge hi (by omega)), gd_t g, ci, k1, gd_t g, x_isSo a _ hx, ob_s, (hT x hx).2.1 i hi, h, fb_ct_succ, nI_1]
    by_cases c : cK C i = k
    · rw [if_pos (by rw [c])]
      cases ami C (inF C x sk) i with
      | false => rw [if_pos bI_f]; simp
      | true => rw [if_neg bI_n, show (1 : Int32) = nI 1 from rfl, nI_add]; simp [c]
    · rw [if_neg (nI_ne (by omega) (by omega) c)]; simp [c]) (n := 5000) (by omega) (a := 0) rfl
  unfold FX2_countAmiss
  have h2 : FX2_countAmiss_L5 a (nI k) (nI x) (fun u => some u) 5000 0 0 = some r := h2
  rw [h2, h1]; rfl
theorem x_firstAmiss {a : SS} {C : Cd} {sk : Nat → Bool} (hC : WfC C) (ha : RepX a C) (hT : Tabs a C sk) {x : Nat} (hx : x < 64) : FX2_firstAmiss a (nI x) = some (fidx (ami C (inF C x sk)) 0 (cP C)) := by
  have w2 := hC.2.1
  have h := lp (fun n (_ : Unit) i => FX2_firstAmiss_L2 a (nI x) (some (-1)) n i) (cP C) (fun i _ => fidx (ami C (inF C x sk)) 0 (cP C) = fidx (ami C (inF C x sk)) i (cP C - i)) (fun r => r = some (fidx (ami C (inF C x sk)) 0 (cP C))) (by
    intro n _ h
    show FX2_firstAmiss_L2 _ _ _ _ _ = _
    rw [FX2_firstAmiss_L2, ha.2.1, if_pos (nI_le (Nat.le_refl _) (by omega)), h, Nat.sub_self]; rfl) (by
    intro n i _ hi h
    have ci : Int32.toNatClampNeg (nI i) = i := nI_clamp (by omega)
    have g : inb (nI i) 30 = true := inb_n (by omega) (by omega)
    have st : FX2_firstAmiss_L2 a (nI x) (some (-1)) (n + 1) (nI i) = if bI (ami C (inF C x sk) i) = 0 then FX2_firstAmiss_L2 a (nI x) (some (-1)) n (nI (i + 1)) else some (nI i) := by
      rw [FX2_firstAmiss_L2, ha.2.1, if_neg (nI_ge hi (by omega)), gd_t g, ci, x_isSo a _ hx, ob_s, (hT x hx).2.1 i hi, nI_1]
    rw [fidx_s _ hi] at h
    cases hm : ami C (inF C x sk) i with
    | false => rw [hm] at h st; exact Or.inr ⟨(), h, st.trans (if_pos bI_f)⟩
    | true => rw [hm, if_pos rfl] at h; rw [hm] at st; exact Or.inl ((st.trans (if_neg bI_n)).trans (by rw [h]))) (cP C) 5000 0 () (by omega) (by omega) rfl
  exact h
