/-! how many bits: Integer.bitCount, Long.bitCount -/
theorem and_p {p h d M m : Nat} (k : Nat) (hp : 2 ^ k = p) (hd : d < p) (hm : m < p) : (p * h + d) &&& (p * M + m) = p * (h &&& M) + (d &&& m) := by
  subst hp
  apply Nat.eq_of_testBit_eq
  intro i
  rw [Nat.testBit_and, Nat.testBit_two_pow_mul_add _ hd, Nat.testBit_two_pow_mul_add _ hm, Nat.testBit_two_pow_mul_add _ (Nat.and_lt_two_pow _ hm)]
  by_cases h1 : i < k
  · simp [h1]
  · simp [h1]
def nib (f : Nat → Nat) : Nat → Nat → Nat
  | 0, _ => 0
  | n + 1, x => f (x % 16) + 16 * nib f n (x / 16)
def nmk (c : Nat) : Nat → Nat
  | 0 => 0
  | n + 1 => 16 * nmk c n + c
theorem nib_s1 : ∀ (n x : Nat), (x / 2) &&& nmk 5 n = nib (fun d => (d / 2) &&& 5) n x := by
  intro n
  induction n with
  | zero => intro x; simp [nmk, nib]
  | succ n ih =>
    intro x
    have e : x / 2 = 16 * (x / 16 / 2) + (8 * (x / 16 % 2) + x % 16 / 2) := by omega
    rw [e, nmk, and_p 4 rfl (by omega) (by omega), ih, nib]
    have h : ∀ d, d < 16 → ∀ r, r < 2 → (8 * r + d / 2) &&& 5 = (d / 2) &&& 5 := by decide
    rw [h _ (by omega) _ (by omega)]
    omega
theorem nib_id : ∀ (n x : Nat), x < 16 ^ n → nib id n x = x := by
  intro n
  induction n with
  | zero => intro x h; simp [nib]; omega
  | succ n ih =>
    intro x h
    rw [nib, ih (x / 16) (by rw [Nat.pow_succ] at h; omega)]
    simp only [id]; omega
theorem nib_le {f g : Nat → Nat} (h : ∀ d, d < 16 → f d ≤ g d) : ∀ (n x : Nat), nib f n x ≤ nib g n x := by
  intro n
  induction n with
  | zero => intro x; simp [nib]
  | succ n ih =>
    intro x
    have h1 := ih (x / 16)
    have h2 := h (x % 16) (by omega)
    rw [nib, nib]; omega
theorem nib_sub {f g : Nat → Nat} (h : ∀ d, d < 16 → g d ≤ f d) : ∀ (n x : Nat), nib f n x - nib g n x = nib (fun d => f d - g d) n x := by
  intro n
  induction n with
  | zero => intro x; simp [nib]
  | succ n ih =>
    intro x
    have h1 := ih (x / 16)
    have h2 := h (x % 16) (by omega)
    have h3 := nib_le h n (x / 16)
    rw [nib, nib, nib, ← h1]; omega
theorem nib_s2 {e : Nat → Nat} (he : ∀ d, d < 16 → e d < 16) : ∀ (n x : Nat), (nib e n x &&& nmk 3 n) + ((nib e n x / 4) &&& nmk 3 n) = nib (fun d => (e d &&& 3) + ((e d / 4) &&& 3)) n x := by
  intro n
  induction n with
  | zero => intro x; simp [nib, nmk]
  | succ n ih =>
    intro x
    have h1 := ih (x / 16)
    have h2 := he (x % 16) (by omega)
    rw [nib, nib]
    generalize nib e n (x / 16) = y at h1 ⊢
    generalize e (x % 16) = v at h2 ⊢
    have e1 : (v + 16 * y) &&& nmk 3 (n + 1) = 16 * (y &&& nmk 3 n) + (v &&& 3) := by
      rw [nmk, Nat.add_comm v, and_p 4 rfl h2 (by omega)]
    have e2 : ((v + 16 * y) / 4) &&& nmk 3 (n + 1) = 16 * ((y / 4) &&& nmk 3 n) + ((4 * (y % 4) + v / 4) &&& 3) := by
      have q : (v + 16 * y) / 4 = 16 * (y / 4) + (4 * (y % 4) + v / 4) := by omega
      rw [q, nmk, and_p 4 rfl (by omega) (by omega)]
    have h3 : ∀ v, v < 16 → ∀ r, r < 4 → (4 * r + v / 4) &&& 3 = (v / 4) &&& 3 := by decide
    rw [e1, e2, h3 v h2 _ (by omega)]
    omega
theorem nib_lt {e : Nat → Nat} (he : ∀ d, d < 16 → e d < 16) : ∀ (n x : Nat), nib e n x < 16 ^ n := by
  intro n
  induction n with
  | zero => intro x; simp [nib]
  | succ n ih =>
    intro x
    have h1 := ih (x / 16)
    have h2 := he (x % 16) (by omega)
    rw [nib, Nat.pow_succ]; omega
/-- the bits of a figure to the base 16 -/
def pc4 (d : Nat) : Nat := fb_ct (fun i => d.testBit i) 4
theorem pc4_le : ∀ d, d < 16 → pc4 d ≤ 4 := by decide
theorem pc4_e : ∀ d, d < 16 → ((d - ((d / 2) &&& 5)) &&& 3) + (((d - ((d / 2) &&& 5)) / 4) &&& 3) = pc4 d := by decide
theorem nib_cong {f g : Nat → Nat} (h : ∀ d, d < 16 → f d = g d) : ∀ (n x : Nat), nib f n x = nib g n x := by
  intro n
  induction n with
  | zero => intro x; rfl
  | succ n ih => intro x; rw [nib, nib, ih, h _ (by omega)]
/-- two steps: each figure its own bits -/
theorem swar2 (n x : Nat) (hx : x < 16 ^ n) : let y := x - ((x / 2) &&& nmk 5 n); y < 16 ^ n ∧ (y &&& nmk 3 n) + ((y / 4) &&& nmk 3 n) = nib pc4 n x := by
  have h1 : x - ((x / 2) &&& nmk 5 n) = nib (fun d => d - ((d / 2) &&& 5)) n x := by
    rw [nib_s1]
    have := nib_sub (f := id) (g := fun d => (d / 2) &&& 5) (by decide) n x
    rw [nib_id n x hx] at this
    exact this
  have h2 : ∀ d, d < 16 → d - ((d / 2) &&& 5) < 16 := by decide
  refine ⟨by rw [h1]; exact nib_lt h2 n x, ?_⟩
  show ((x - ((x / 2) &&& nmk 5 n)) &&& nmk 3 n) + _ = _
  rw [h1, nib_s2 h2]
  exact nib_cong pc4_e n x
def bmk : Nat → Nat
  | 0 => 0
  | k + 1 => 256 * bmk k + 15
def bys : Nat → Nat → Nat
  | 0, _ => 0
  | k + 1, x => 256 * bys k (x / 256) + (pc4 (x % 16) + pc4 (x / 16 % 16))
theorem nib_mod (n x : Nat) : nib pc4 n x % 16 ≤ 4 := by
  cases n with
  | zero => simp [nib]
  | succ n => have := pc4_le (x % 16) (by omega); rw [nib]; omega
theorem swar3 : ∀ (k x : Nat), (nib pc4 (2 * k) x + nib pc4 (2 * k) x / 16) &&& bmk k = bys k x := by
  intro k
  induction k with
  | zero => intro x; simp [nib, bmk, bys]
  | succ k ih =>
    intro x
    have h1 := ih (x / 256)
    have e0 : nib pc4 (2 * (k + 1)) x = pc4 (x % 16) + 16 * (pc4 (x / 16 % 16) + 16 * nib pc4 (2 * k) (x / 256)) := by
      rw [show 2 * (k + 1) = 2 * k + 1 + 1 by omega, nib, nib, Nat.div_div_eq_div_mul]
    have h2 := nib_mod (2 * k) (x / 256)
    have h3 := pc4_le (x % 16) (by omega)
    have h4 := pc4_le (x / 16 % 16) (by omega)
    rw [e0]
    generalize nib pc4 (2 * k) (x / 256) = y at h1 h2 ⊢
    generalize hu : pc4 (x % 16) = u at h3 ⊢
    generalize hw : pc4 (x / 16 % 16) = w at h4 ⊢
    have e1 : u + 16 * (w + 16 * y) + (u + 16 * (w + 16 * y)) / 16 = 256 * (y + y / 16) + (16 * (w + y % 16) + (u + w)) := by omega
    rw [e1, bmk, and_p 8 rfl (by omega) (by omega), h1, bys, hu, hw]
    have e2 : (16 * (w + y % 16) + (u + w)) &&& 15 = u + w := by
      rw [show (15 : Nat) = 2 ^ 4 - 1 from rfl, Nat.and_two_pow_sub_one_eq_mod]; omega
    rw [e2]
def pcs (n : Nat) (k : Nat) : Nat := fb_ct (fun i => n.testBit i) k
theorem pcs_8 (x k : Nat) : pcs x (8 + k) = (pc4 (x % 16) + pc4 (x / 16 % 16)) + pcs (x / 256) k := by
  unfold pcs pc4
  rw [show 8 + k = 4 + (4 + k) by omega, fb_ct_split, fb_ct_split]
  have a : ∀ i, x.testBit (4 + (4 + i)) = (x / 256).testBit i := by
    intro i; rw [show (256 : Nat) = 2 ^ 8 from rfl, Nat.testBit_div_two_pow, show i + 8 = 4 + (4 + i) by omega]
  have b1 : fb_ct (fun i => x.testBit i) 4 = fb_ct (fun i => (x % 16).testBit i) 4 := fb_ct_cong fun i hi => by
    rw [show (16 : Nat) = 2 ^ 4 from rfl, Nat.testBit_mod_two_pow]; simp [hi]
  have b2 : fb_ct (fun i => x.testBit (4 + i)) 4 = fb_ct (fun i => (x / 16 % 16).testBit i) 4 := fb_ct_cong fun i hi => by
    rw [show (16 : Nat) = 2 ^ 4 from rfl, Nat.testBit_mod_two_pow, Nat.testBit_div_two_pow]; simp [hi, Nat.add_comm]
  rw [b1, b2, fb_ct_cong (fun i _ => a i)]
  have e9 : fb_ct (x / 256).testBit k = fb_ct (fun i => (x / 256).testBit i) k := rfl
  omega
theorem pcs_0 (x : Nat) : pcs x 0 = 0 := rfl
theorem bys_s (k x : Nat) : bys (k + 1) x = 256 * bys k (x / 256) + (pc4 (x % 16) + pc4 (x / 16 % 16)) := by rw [bys]
theorem byp (y : Nat) : pc4 (y % 16) + pc4 (y / 16 % 16) ≤ 8 := by
  have h1 := pc4_le (y % 16) (by omega)
  have h2 := pc4_le (y / 16 % 16) (by omega)
  omega
def byv (y : Nat) : Nat := pc4 (y % 16) + pc4 (y / 16 % 16)
theorem byv_le (y : Nat) : byv y ≤ 8 := byp y
theorem byv_s (k x : Nat) : bys (k + 1) x = 256 * bys k (x / 256) + byv x := bys_s k x
theorem byv_8 (x k : Nat) : pcs x (8 + k) = byv x + pcs (x / 256) k := pcs_8 x k
theorem byv_1 (x : Nat) : bys 1 x = byv x := by
  have h : bys 1 x = 256 * bys 0 (x / 256) + byv x := byv_s 0 x
  have h0 : bys 0 (x / 256) = 0 := by rw [bys]
  rw [h0] at h
  omega
theorem bys_8 (x : Nat) : ∃ z X1 X2 X3 X4 X5 X6 X7 b0 b1 b2 b3 b4 b5 b6, b0 ≤ 8 ∧ b1 ≤ 8 ∧ b2 ≤ 8 ∧ b3 ≤ 8 ∧ b4 ≤ 8 ∧ b5 ≤ 8 ∧ b6 ≤ 8 ∧ X7 ≤ 8 ∧ bys 8 x = z ∧ z = 256 * X1 + b0 ∧ X1 = 256 * X2 + b1 ∧ X2 = 256 * X3 + b2 ∧ X3 = 256 * X4 + b3 ∧ X4 = 256 * X5 + b4 ∧ X5 = 256 * X6 + b5 ∧ X6 = 256 * X7 + b6 ∧ pcs x 64 = b0 + b1 + b2 + b3 + b4 + b5 + b6 + X7 := by
  obtain ⟨x1, e1⟩ : ∃ y, y = x / 256 := ⟨_, rfl⟩
  obtain ⟨x2, e2⟩ : ∃ y, y = x1 / 256 := ⟨_, rfl⟩
  obtain ⟨x3, e3⟩ : ∃ y, y = x2 / 256 := ⟨_, rfl⟩
  obtain ⟨x4, e4⟩ : ∃ y, y = x3 / 256 := ⟨_, rfl⟩
  obtain ⟨x5, e5⟩ : ∃ y, y = x4 / 256 := ⟨_, rfl⟩
  obtain ⟨x6, e6⟩ : ∃ y, y = x5 / 256 := ⟨_, rfl⟩
  obtain ⟨x7, e7⟩ : ∃ y, y = x6 / 256 := ⟨_, rfl⟩
  have a0 := byv_8 x 56
  have a1 := byv_8 x1 48
  have a2 := byv_8 x2 40
  have a3 := byv_8 x3 32
  have a4 := byv_8 x4 24
  have a5 := byv_8 x5 16
  have a6 := byv_8 x6 8
  have a7 := byv_8 x7 0
  have c0 := byv_s 7 x
  have c1 := byv_s 6 x1
  have c2 := byv_s 5 x2
  have c3 := byv_s 4 x3
  have c4 := byv_s 3 x4
  have c5 := byv_s 2 x5
  have c6 := byv_s 1 x6
  have c7 := byv_1 x7
  rw [← e1] at a0 c0
  rw [← e2] at a1 c1
  rw [← e3] at a2 c2
  rw [← e4] at a3 c3
  rw [← e5] at a4 c4
  rw [← e6] at a5 c5
  rw [← e7] at a6 c6
  rw [pcs_0] at a7
  have h7 := byv_le x7
  refine ⟨bys 8 x, bys 7 x1, bys 6 x2, bys 5 x3, bys 4 x4, bys 3 x5, bys 2 x6, bys 1 x7, byv x, byv x1, byv x2, byv x3, byv x4, byv x5, byv x6, byv_le x, byv_le x1, byv_le x2, byv_le x3, byv_le x4, byv_le x5, byv_le x6, by rw [c7]; exact h7, rfl, c0, c1, c2, c3, c4, c5, c6, ?_⟩
  rw [c7]
  clear c0 c1 c2 c3 c4 c5 c6 c7 e1 e2 e3 e4 e5 e6 e7
  simp only [Nat.reduceAdd] at a0 a1 a2 a3 a4 a5 a6 a7
  omega
theorem fin_pair {P Q R S b c d : Nat} (e0 : P = 256 * Q + b) (e1 : Q = 256 * R + c) (e2 : R = 256 * S + d) : P + Q = 65536 * (R + S) + (256 * (c + d) + (b + c)) := by omega
theorem fin_q {T Y U V s0 t0 s2 t2 s4 t4 : Nat} (h0 : s0 ≤ 16) (g0 : t0 ≤ 16) (h2 : s2 ≤ 16) (g2 : t2 ≤ 16) (h4 : s4 ≤ 16) (g4 : t4 ≤ 16) (hT : T = 65536 * Y + (256 * s0 + t0)) (hY : Y = 65536 * U + (256 * s2 + t2)) (hU : U = 65536 * V + (256 * s4 + t4)) :
    T / 65536 = Y ∧ T + Y = 4294967296 * (U + V) + (65536 * (256 * s2 + t2 + (256 * s4 + t4)) + (256 * s0 + t0 + (256 * s2 + t2))) := by
  refine ⟨by omega, ?_⟩
  have a : 65536 * Y = 4294967296 * U + 65536 * (256 * s2 + t2) := by omega
  have b : 65536 * U = 4294967296 * V + 65536 * (256 * s4 + t4) := by omega
  omega
theorem fin_d {m r : Nat} (h : r < 4294967296) : (4294967296 * m + r) / 4294967296 = m := by omega
theorem fin8 {z X1 X2 X3 X4 X5 X6 X7 b0 b1 b2 b3 b4 b5 b6 : Nat} (h0 : b0 ≤ 8) (h1 : b1 ≤ 8) (h2 : b2 ≤ 8) (h3 : b3 ≤ 8) (h4 : b4 ≤ 8) (h5 : b5 ≤ 8) (h6 : b6 ≤ 8) (h7 : X7 ≤ 8) (e0 : z = 256 * X1 + b0) (e1 : X1 = 256 * X2 + b1) (e2 : X2 = 256 * X3 + b2) (e3 : X3 = 256 * X4 + b3) (e4 : X4 = 256 * X5 + b4) (e5 : X5 = 256 * X6 + b5) (e6 : X6 = 256 * X7 + b6) :
    z / 256 = X1 ∧ (z + X1) / 65536 = X2 + X3 ∧ (z + X1 + (X2 + X3)) / 4294967296 = X4 + X5 + X6 + X7 ∧ z < 18446744073709551616 ∧ z + X1 < 18446744073709551616 ∧ z + X1 + (X2 + X3) < 18446744073709551616 ∧ (z + X1 + (X2 + X3) + (X4 + X5 + X6 + X7)) % 128 = b0 + b1 + b2 + b3 + b4 + b5 + b6 + X7 := by
  have f1 : z / 256 = X1 := by omega
  have gT := fin_pair e0 e1 e2
  have gY := fin_pair e2 e3 e4
  have gU := fin_pair e4 e5 e6
  obtain ⟨f2, g2⟩ := fin_q (s0 := b1 + b2) (t0 := b0 + b1) (s2 := b3 + b4) (t2 := b2 + b3) (s4 := b5 + b6) (t4 := b4 + b5) (by omega) (by omega) (by omega) (by omega) (by omega) (by omega) gT gY gU
  have hV : X6 + X7 ≤ 2064 := by omega
  have hU : X4 + X5 ≤ 140000000 := by omega
  have f3 : (z + X1 + (X2 + X3)) / 4294967296 = X4 + X5 + (X6 + X7) := by
    rw [g2]; exact fin_d (by omega)
  have l3 : z + X1 + (X2 + X3) < 18446744073709551616 := by rw [g2]; omega
  have l4 : (z + X1 + (X2 + X3) + (X4 + X5 + X6 + X7)) % 128 = b0 + b1 + b2 + b3 + b4 + b5 + b6 + X7 := by
    rw [g2, show X4 + X5 + X6 + X7 = (X4 + X5) + (X6 + X7) by omega, gU, e6]
    clear f1 f2 f3 l3 g2 gT gY gU e0 e1 e2 e3 e4 e5 e6 hU hV
    omega
  exact ⟨f1, f2, by rw [f3]; omega, by omega, by omega, l3, l4⟩
theorem bys_4 (x : Nat) : ∃ z X1 X2 X3 b0 b1 b2, b0 ≤ 8 ∧ b1 ≤ 8 ∧ b2 ≤ 8 ∧ X3 ≤ 8 ∧ bys 4 x = z ∧ z = 256 * X1 + b0 ∧ X1 = 256 * X2 + b1 ∧ X2 = 256 * X3 + b2 ∧ pcs x 32 = b0 + b1 + b2 + X3 := by
  obtain ⟨x1, e1⟩ : ∃ y, y = x / 256 := ⟨_, rfl⟩
  obtain ⟨x2, e2⟩ : ∃ y, y = x1 / 256 := ⟨_, rfl⟩
  obtain ⟨x3, e3⟩ : ∃ y, y = x2 / 256 := ⟨_, rfl⟩
  have a0 := byv_8 x 24
  have a1 := byv_8 x1 16
  have a2 := byv_8 x2 8
  have a3 := byv_8 x3 0
  have c0 := byv_s 3 x
  have c1 := byv_s 2 x1
  have c2 := byv_s 1 x2
  have c3 := byv_1 x3
  rw [← e1] at a0 c0
  rw [← e2] at a1 c1
  rw [← e3] at a2 c2
  rw [pcs_0] at a3
  have h7 := byv_le x3
  refine ⟨bys 4 x, bys 3 x1, bys 2 x2, bys 1 x3, byv x, byv x1, byv x2, byv_le x, byv_le x1, byv_le x2, by rw [c3]; exact h7, rfl, c0, c1, c2, ?_⟩
  rw [c3]
  clear c0 c1 c2 c3 e1 e2 e3
  simp only [Nat.reduceAdd] at a0 a1 a2 a3
  omega
theorem fin4 {z X1 X2 X3 b0 b1 b2 : Nat} (h0 : b0 ≤ 8) (h1 : b1 ≤ 8) (h2 : b2 ≤ 8) (h7 : X3 ≤ 8) (e0 : z = 256 * X1 + b0) (e1 : X1 = 256 * X2 + b1) (e2 : X2 = 256 * X3 + b2) :
    z / 256 = X1 ∧ (z + X1) / 65536 = X2 + X3 ∧ z < 4294967296 ∧ z + X1 < 4294967296 ∧ (z + X1 + (X2 + X3)) % 64 = b0 + b1 + b2 + X3 := by
  have f1 : z / 256 = X1 := by omega
  have g1 : z + X1 = 65536 * (X2 + X3) + (256 * (b1 + b2) + (b0 + b1)) := by omega
  have f2 : (z + X1) / 65536 = X2 + X3 := by rw [g1]; omega
  exact ⟨f1, f2, by omega, by omega, by rw [g1, e2]; omega⟩
theorem jl_shr {n k : Nat} (hn : n < 2 ^ 64) (hk : k < 64) : jlushr (lN n) (nI k) = lN (n / 2 ^ k) := wb_shr hn hk
theorem ji_shr {n k : Nat} (hn : n < 2 ^ 32) (hk : k < 32) : jushr (nI n) (nI k) = nI (n / 2 ^ k) := pk_ushrN hn (nI k) k (s_u k hk)
theorem andL (a b : Nat) : lN a &&& lN b = lN (a &&& b) := by
  apply wb_inj
  rw [Int64.toBitVec_and, wb_tb, wb_tb, wb_tb]
  apply BitVec.eq_of_getLsbD_eq
  intro i hi
  simp [hi]
theorem andI (a b : Nat) : nI a &&& nI b = nI (a &&& b) := by
  apply Int32.toBitVec_inj.1
  show BitVec.ofNat 32 a &&& BitVec.ofNat 32 b = BitVec.ofNat 32 (a &&& b)
  apply BitVec.eq_of_getLsbD_eq
  intro i hi
  simp [hi]
theorem bc_long (σ : SS) {n : Nat} (hn : n < 2 ^ 64) : FJ13_bitCount_95d88 σ (lN n) = some (nI (pcs n 64)) := by
  have hn16 : n < 16 ^ 16 := hn
  have m5 : nmk 5 16 = 6148914691236517205 := rfl
  have m3 : nmk 3 16 = 3689348814741910323 := rfl
  have m15 : bmk 8 = 1085102592571150095 := rfl
  obtain ⟨hy, e2⟩ := swar2 16 n hn16
  have e3 := swar3 8 n
  rw [m5] at hy e2
  rw [m3] at e2
  rw [m15] at e3
  have hsub : (n / 2 &&& 6148914691236517205) ≤ n := Nat.le_trans Nat.and_le_left (Nat.div_le_self _ _)
  unfold FJ13_bitCount_95d88
  simp only [bd_e]
  rw [show (1 : Int32) = nI 1 from rfl, show (2 : Int32) = nI 2 from rfl, show (4 : Int32) = nI 4 from rfl, show (8 : Int32) = nI 8 from rfl, show (16 : Int32) = nI 16 from rfl, show (32 : Int32) = nI 32 from rfl, show (6148914691236517205 : Int64) = lN 6148914691236517205 from rfl, show (3689348814741910323 : Int64) = lN 3689348814741910323 from rfl, show (1085102592571150095 : Int64) = lN 1085102592571150095 from rfl, show (127 : Int32) = nI 127 from rfl]
  rw [jl_shr hn (by omega), andL, lN_sub (by simpa using hsub)]
  generalize hy1 : n - (n / 2 ^ 1 &&& 6148914691236517205) = y at *
  rw [andL, jl_shr (show y < 2 ^ 64 from hy) (by omega), andL, lN_add, show (2 : Nat) ^ 2 = 4 from rfl, e2]
  have hz : nib pc4 16 n < 16 ^ 16 := nib_lt (fun d hd => by have := pc4_le d hd; omega) 16 n
  rw [jl_shr (show nib pc4 16 n < 2 ^ 64 from hz) (by omega), lN_add, andL, show (2 : Nat) ^ 4 = 16 from rfl, e3]
  obtain ⟨z, X1, X2, X3, X4, X5, X6, X7, b0, b1, b2, b3, b4, b5, b6, h0, h1, h2, h3, h4, h5, h6, h7, ez, f0, f1, f2, f3, f4, f5, f6, ep⟩ := bys_8 n
  obtain ⟨g1, g2, g3, l1, l2, l3, g4⟩ := fin8 h0 h1 h2 h3 h4 h5 h6 h7 f0 f1 f2 f3 f4 f5 f6
  rw [ez, ep, jl_shr l1 (by omega), show (2 : Nat) ^ 8 = 256 from rfl, g1, lN_add, jl_shr l2 (by omega), show (2 : Nat) ^ 16 = 65536 from rfl, g2, lN_add, jl_shr l3 (by omega), show (2 : Nat) ^ 32 = 4294967296 from rfl, g3, lN_add, lN_i, andI, show (127 : Nat) = 2 ^ 7 - 1 from rfl, Nat.and_two_pow_sub_one_eq_mod, show (2 : Nat) ^ 7 = 128 from rfl, g4]
theorem bc_int (σ : SS) {n : Nat} (hn : n < 2 ^ 32) : FJ6_bitCount_0f7a4 σ (nI n) = some (nI (pcs n 32)) := by
  have hn16 : n < 16 ^ 8 := hn
  have m5 : nmk 5 8 = 1431655765 := rfl
  have m3 : nmk 3 8 = 858993459 := rfl
  have m15 : bmk 4 = 252645135 := rfl
  obtain ⟨hy, e2⟩ := swar2 8 n hn16
  have e3 := swar3 4 n
  rw [m5] at hy e2
  rw [m3] at e2
  rw [m15] at e3
  have hsub : (n / 2 &&& 1431655765) ≤ n := Nat.le_trans Nat.and_le_left (Nat.div_le_self _ _)
  unfold FJ6_bitCount_0f7a4
  simp only [bd_e]
  rw [show (1 : Int32) = nI 1 from rfl, show (2 : Int32) = nI 2 from rfl, show (4 : Int32) = nI 4 from rfl, show (8 : Int32) = nI 8 from rfl, show (16 : Int32) = nI 16 from rfl, show (1431655765 : Int32) = nI 1431655765 from rfl, show (858993459 : Int32) = nI 858993459 from rfl, show (252645135 : Int32) = nI 252645135 from rfl, show (63 : Int32) = nI 63 from rfl]
  rw [ji_shr hn (by omega), andI, pk_sub (by simpa using hsub)]
  generalize hy1 : n - (n / 2 ^ 1 &&& 1431655765) = y at *
  rw [andI, ji_shr (show y < 2 ^ 32 from hy) (by omega), andI, nI_add, show (2 : Nat) ^ 2 = 4 from rfl, e2]
  have hz : nib pc4 8 n < 16 ^ 8 := nib_lt (fun d hd => by have := pc4_le d hd; omega) 8 n
  rw [ji_shr (show nib pc4 8 n < 2 ^ 32 from hz) (by omega), nI_add, andI, show (2 : Nat) ^ 4 = 16 from rfl, e3]
  obtain ⟨z, X1, X2, X3, b0, b1, b2, h0, h1, h2, h3, ez, f0, f1, f2, ep⟩ := bys_4 n
  obtain ⟨g1, g2, l1, l2, g4⟩ := fin4 h0 h1 h2 h3 f0 f1 f2
  rw [ez, ep, ji_shr l1 (by omega), show (2 : Nat) ^ 8 = 256 from rfl, g1, nI_add, ji_shr l2 (by omega), show (2 : Nat) ^ 16 = 65536 from rfl, g2, nI_add, andI, show (63 : Nat) = 2 ^ 6 - 1 from rfl, Nat.and_two_pow_sub_one_eq_mod, show (2 : Nat) ^ 6 = 64 from rfl, g4]
/-- by bits -/
theorem x_ones (σ : SS) (s : Int32) : FJ6_bitCount_0f7a4 σ s = some (nI (fb_ct (bt s) 32)) := by
  obtain ⟨n, hn, rfl⟩ := wb_of32 s
  rw [bc_int σ hn]
  congr 2
  exact fb_ct_cong fun i hi => (b_nI n hi).symm
theorem x_onesL (σ : SS) (s : Int64) : FJ13_bitCount_95d88 σ s = some (nI (fb_ct (lb s) 64)) := by
  obtain ⟨n, hn, rfl⟩ := wb_of s
  rw [bc_long σ hn]
  congr 2
  refine fb_ct_cong fun i hi => ?_
  show _ = (BitVec.ofNat 64 n).getLsbD i
  rw [BitVec.getLsbD_ofNat]; simp [hi]
theorem m_ones (σ : SS) (s : Int32) : FX8_ones σ s = some (nI (fb_ct (bt s) 16)) := by
  unfold FX8_ones
  obtain ⟨a', h1, h2⟩ := lpk (fun n (a : Int32) i => FX8_ones_L4 σ s (fun u2 => some u2) n a i) 16 (fun a => some a) (fun i a => a = nI (fb_ct (bt s) i)) (by
    intro n a h
    show FX8_ones_L4 _ _ _ _ _ _ = _
    rw [FX8_ones_L4, if_pos (by decide)]) (by
    intro n i a hi h
    refine ⟨_, rfl, ?_⟩
    show FX8_ones_L4 _ _ _ _ _ _ = FX8_ones_L4 _ _ _ _ _ _
    have key : jshr s (nI i) &&& 1 = nI (if bt s i = true then 1 else 0) := by
      apply b_ext
      intro j hj
      rw [b_and, b_1 j hj]
      unfold jshr
      rw [b_sshr i (by omega) _ hj]
      by_cases h0 : j = 0
      · subst h0
        have : i < 32 := by omega
        cases bt s i <;> simp [this, b_nI]
      · cases bt s i <;> simp [h0, b_nI _ hj]
        rw [show (1 : Nat) = 2 ^ 0 from rfl, Nat.testBit_two_pow]; simp; omega
    rw [FX8_ones_L4, if_neg (by rw [show (16 : Int32) = nI 16 from rfl, nI_leI (by omega) (by omega)]; omega), nI_1, h, key, nI_add, fb_ct_succ]) (n := 5000) (by omega) (a := 0) rfl
  show FX8_ones_L4 σ s (fun u2 => some u2) 5000 0 (nI 0) = _
  rw [h2, h1]
