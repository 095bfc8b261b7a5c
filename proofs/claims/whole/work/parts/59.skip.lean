/-! the two readers: blanks, the letter here, faults -/
/-- the text: n letters L -/
def Tx (n : Nat) (L : Nat → Nat) : Prop := n ≤ 240 ∧ ∀ i, i < n → L i < 256
def TxX (p : SS) (n : Nat) (L : Nat → Nat) : Prop := gI p 10 = nI n ∧ ∀ i, i < n → gA p 13 i = nI (L i)
def TxM (q : SS) (n : Nat) (L : Nat → Nat) : Prop := gI q 1 = nI n ∧ ∀ i, i < n → gA q 0 i = nI (L i)
/-- the first place from i on, of m that are left, that is no blank -/
def nb (L : Nat → Nat) : Nat → Nat → Nat
  | 0, i => i
  | m + 1, i => if L i = 32 then nb L m (i + 1) else i
theorem nb_le (L : Nat → Nat) : ∀ m i, i ≤ nb L m i ∧ nb L m i ≤ i + m
  | 0, i => ⟨Nat.le_refl _, by rw [nb]; omega⟩
  | m + 1, i => by
    rw [nb]
    have h := nb_le L m (i + 1)
    split <;> omega
theorem nb_no (L : Nat → Nat) : ∀ m i, nb L m i < i + m → ¬ L (nb L m i) = 32
  | 0, i => fun h => by rw [nb] at h; omega
  | m + 1, i => by
    rw [nb]
    split
    · rename_i h1
      intro h
      exact nb_no L m (i + 1) (by omega)
    · rename_i h1
      intro _; exact h1
def skp (L : Nat → Nat) (n i : Nat) : Nat := nb L (n - i) i
theorem skp_le {L : Nat → Nat} {n i : Nat} (h : i ≤ n) : i ≤ skp L n i ∧ skp L n i ≤ n := by
  have := nb_le L (n - i) i
  unfold skp
  omega
theorem skp_no {L : Nat → Nat} {n i : Nat} (h : i ≤ n) (h2 : skp L n i < n) : ¬ L (skp L n i) = 32 := by
  unfold skp at *
  exact nb_no L (n - i) i (by omega)
theorem skp_two {L : Nat → Nat} {n i : Nat} (h : i ≤ n) (h2 : i < n → ¬ L i = 32) : skp L n i = i := by
  unfold skp
  cases e : n - i with
  | zero => rfl
  | succ m => rw [nb, if_neg (h2 (by omega))]
theorem skp_idem {L : Nat → Nat} {n i : Nat} (h : i ≤ n) : skp L n (skp L n i) = skp L n i := skp_two (skp_le h).2 (skp_no h)
theorem sI_sI (σ : SS) (k : Nat) (v w : Int32) : sI (sI σ k v) k w = sI σ k w := by
  unfold sI
  congr 1
  funext j
  by_cases h : j = k <;> simp [h]
theorem sI_same (σ : SS) {k : Nat} {v : Int32} (h : gI σ k = v) : sI σ k v = σ := by
  unfold sI gI at *
  have : (fun j => if j = k then v else σ.1 j) = σ.1 := by
    funext j
    by_cases e : j = k
    · rw [if_pos e, e, h]
    · rw [if_neg e]
  rw [this]
theorem x_skipL {n : Nat} {L : Nat → Nat} (ht : Tx n L) (k : SS → Option SS) : ∀ m f i (p : SS), TxX p n L → gI p 16 = nI i → i + m = n → m < f → FX4_skipBlanks_L0 k f p = k (sI p 16 (nI (nb L m i)))
  | 0, f, i, p, hp, h16, hi, hf => by
    have t1 := ht.1
    obtain ⟨f, rfl⟩ : ∃ z, f = z + 1 := ⟨f - 1, by omega⟩
    rw [FX4_skipBlanks_L0, h16, if_neg (nI_pos (by omega)), hp.1, if_pos (nI_le (by omega) (by omega)), nb, sI_same p h16]
  | m + 1, f, i, p, hp, h16, hi, hf => by
    have t1 := ht.1
    obtain ⟨f, rfl⟩ : ∃ z, f = z + 1 := ⟨f - 1, by omega⟩
    have li := ht.2 i (by omega)
    rw [FX4_skipBlanks_L0, h16, if_neg (nI_pos (by omega)), hp.1, if_neg (nI_ge (by omega) (by omega)), gd_t (inb_n (by omega) (by omega)), nI_clamp (by omega), hp.2 i (by omega), bd_e, nI_1, nb]
    by_cases c : L i = 32
    · rw [if_pos (show nI (L i) = 32 by rw [c]; rfl), if_pos c, x_skipL ht k m f (i + 1) (sI p 16 (nI (i + 1))) hp (gI_sI _ _ _) (by omega) (by omega), sI_sI]
    · rw [if_neg (show ¬ nI (L i) = 32 from nI_ne (b := 32) (by omega) (by omega) c), if_neg c, sI_same p h16]
theorem x_skip {n : Nat} {L : Nat → Nat} (ht : Tx n L) {i : Nat} {p : SS} (hp : TxX p n L) (h16 : gI p 16 = nI i) (hi : i ≤ n) : FX4_skipBlanks p = some (sI p 16 (nI (skp L n i))) := by
  have t1 := ht.1
  rw [FX4_skipBlanks]
  exact x_skipL ht _ (n - i) 5000 i p hp h16 (by omega) (by omega)
theorem m_skipL {n : Nat} {L : Nat → Nat} (ht : Tx n L) (k : SS → Option (Int32 × SS)) : ∀ m f i (q : SS), TxM q n L → gI q 22 = nI i → i + m = n → m < f → FX8_sign_L0 k f q = k (sI q 22 (nI (nb L m i)))
  | 0, f, i, p, hp, h16, hi, hf => by
    have t1 := ht.1
    obtain ⟨f, rfl⟩ : ∃ z, f = z + 1 := ⟨f - 1, by omega⟩
    rw [FX8_sign_L0, h16, hp.1, if_pos (nI_le (by omega) (by omega)), nb, sI_same p h16]
  | m + 1, f, i, p, hp, h16, hi, hf => by
    have t1 := ht.1
    obtain ⟨f, rfl⟩ : ∃ z, f = z + 1 := ⟨f - 1, by omega⟩
    have li := ht.2 i (by omega)
    rw [FX8_sign_L0, h16, hp.1, if_neg (nI_ge (by omega) (by omega)), gd_t (inb_n (by omega) (by omega)), nI_clamp (by omega), hp.2 i (by omega), bd_e, nI_1, nb]
    by_cases c : L i = 32
    · rw [if_pos (show nI (L i) = 32 by rw [c]; rfl), if_pos c, m_skipL ht k m f (i + 1) (sI p 22 (nI (i + 1))) hp (gI_sI _ _ _) (by omega) (by omega), sI_sI]
    · rw [if_neg (show ¬ nI (L i) = 32 from nI_ne (b := 32) (by omega) (by omega) c), if_neg c, sI_same p h16]
/-- the letter at i, or none -/
def ltr (L : Nat → Nat) (n i : Nat) : Int32 := if i < n then nI (L i) else -1
theorem m_sign {n : Nat} {L : Nat → Nat} (ht : Tx n L) {i : Nat} {q : SS} (hq : TxM q n L) (h22 : gI q 22 = nI i) (hi : i ≤ n) : FX8_sign q = some (ltr L n (skp L n i), sI q 22 (nI (skp L n i))) := by
  have t1 := ht.1
  have sl := (skp_le (L := L) hi).2
  rw [FX8_sign, m_skipL ht _ (n - i) 5000 i q hq h22 (by omega) (by omega)]
  show (if gI q 1 ≤ gI (sI q 22 (nI (skp L n i))) 22 then _ else _) = _
  rw [gI_sI, hq.1]
  unfold ltr
  rcases Nat.lt_or_ge (skp L n i) n with c | c
  · rw [if_neg (nI_ge c (by omega)), gd_t, if_pos c]
    · show some (gA q 0 (Int32.toNatClampNeg (gI (sI q 22 (nI (skp L n i))) 22)), _) = _
      rw [gI_sI, nI_clamp (by omega), hq.2 _ c]; rfl
    · show inb (gI (sI q 22 (nI (skp L n i))) 22) 240 = true
      rw [gI_sI]; exact inb_n (by omega) (by omega)
  · rw [if_pos (nI_le (by omega) (by omega)), if_neg (by omega)]; rfl
theorem x_letter {n : Nat} {L : Nat → Nat} (ht : Tx n L) {i : Nat} {p : SS} (hp : TxX p n L) (h16 : gI p 16 = nI i) (hi : i ≤ n) : FX4_letterHere p = some (ltr L n i) := by
  have t1 := ht.1
  rw [FX4_letterHere, h16, if_neg (nI_pos (by omega)), hp.1]
  unfold ltr
  rcases Nat.lt_or_ge i n with c | c
  · rw [if_neg (nI_ge c (by omega)), gd_t (inb_n (by omega) (by omega)), nI_clamp (by omega), hp.2 i c, if_pos c]
  · rw [if_pos (nI_le c (by omega)), if_neg (by omega)]
