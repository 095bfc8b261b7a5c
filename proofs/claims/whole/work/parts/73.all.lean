/-! contract, and with it all twenty -/
theorem fN_D {C : Cd} {q q' : SS} (h : DrM C q) (f : fN q q') : DrM C q' := by
  unfold DrM at *
  rw [f.1 12, f.1 17, f.2 13 (by decide), f.2 14 (by decide), f.2 15 (by decide), f.2 16 (by decide), f.2 18 (by decide), f.2 19 (by decide), f.2 20 (by decide)]
  exact h
theorem m_con {C : Cd} {q : SS} (hC : WfD C) (h : DrM C q) (h3 : gI q 3 = nI (cN C)) (h8 : gI q 8 = nI (cP C)) (k : SS → Option (Int32 × SS)) : ∃ q', FX8_contract_L67 (fun σ25 => FX8_contract_L131 k 5000 (0 : Int32) σ25) 5000 (0 : Int32) q = k q' ∧ RepM q' C ∧ fN q q' := by
  obtain ⟨q1, u1, u2, u3⟩ := m_67 hC h h3 (fun σ25 => FX8_contract_L131 k 5000 (0 : Int32) σ25)
  obtain ⟨q2, v1, v2, v3, v4⟩ := m_131 hC (fN_D h u2) ((u2.1 8).trans h8) k
  refine ⟨q2, u1.trans v1, ⟨(v2.1 3).trans ((u2.1 3).trans h3), (v2.1 8).trans ((u2.1 8).trans h8), fun c hc => ?_, v4⟩, fun k => (v2.1 k).trans (u2.1 k), fun k hk => (v2.2 k hk).trans (u2.2 k hk)⟩
  rw [v3 4 (by decide), v3 5 (by decide), v3 6 (by decide), v3 7 (by decide)]
  exact u3 c hc
def cnM (q : SS) : SS := sI (sI (sI q 1 0) 3 (gI q 12)) 8 (gI q 17)
def enM (q : SS) : SS := sA (sA (sI (sI q 26 0) 28 0) 30 (upd (gA q 30) 0 0)) 30 (upd (upd (gA q 30) 0 0) 1 0)
theorem m_contract {b q : SS} (h : FX8_reads (bgM b) = some q) : FX8_contract b = if gI q 23 ≤ 0 then FX8_contract_L67 (fun σ25 => FX8_contract_L131 (fun σ36 => some (gI (enM σ36) 3, enM σ36)) 5000 (0 : Int32) σ25) 5000 (0 : Int32) (cnM q) else some (-10 - gI q 23, sI q 1 0) := by
  have e : (fun σ36 : SS => bd (sI σ36 26 (0 : Int32)) (fun σ37 => bd (sI σ37 28 (0 : Int32)) (fun σ38 => gd (inb (0 : Int32) 2) (bd (sA σ38 30 (upd (gA σ38 30) (Int32.toNatClampNeg (0 : Int32)) (0 : Int32))) (fun σ40 => gd (inb (1 : Int32) 2) (bd (sA σ40 30 (upd (gA σ40 30) (Int32.toNatClampNeg (1 : Int32)) (0 : Int32))) (fun σ42 => some ((gI σ42 3), σ42)))))))) = fun σ36 => some (gI (enM σ36) 3, enM σ36) := by
    funext σ
    have c0 : Int32.toNatClampNeg (0 : Int32) = 0 := by decide
    have c1 : Int32.toNatClampNeg (1 : Int32) = 1 := by decide
    rw [bd_e, bd_e, gd_t (by decide), bd_e, gd_t (by decide), bd_e, c0, c1, gAa, if_pos rfl]
    rfl
  rw [FX8_contract, bd_e, bd_e, bd_e, bd_e, bd_e, show sI (sI (sI (sI (sI b 12 0) 17 0) 22 0) 23 0) 2 (-1) = bgM b from rfl, h, ob_s, bd_e, bd_e, bd_e, e]
  generalize (5000 : Nat) = F
  rfl
theorem s_contract : Sim_contract Rel := fun a b h => by
  obtain ⟨C0, K, A, ⟨h1, h2, h3, h4, h5, k1, k2, k3, k4, k5, k6⟩, ⟨n, n240, x1, y1, z1⟩, hf, hh, hi⟩ := id h
  obtain ⟨L, hL⟩ : ∃ L : Nat → Nat, ∀ i, i < n → L i < 256 ∧ gA a 13 i = nI (L i) ∧ gA b 0 i = nI (L i) := by
    refine ⟨fun i => Int32.toNatClampNeg (gA a 13 i), fun i hi => ?_⟩
    obtain ⟨v, v1, v2, v3⟩ := z1 i hi
    have e : Int32.toNatClampNeg (gA a 13 i) = v := by rw [v2]; exact nI_clamp (by omega)
    show Int32.toNatClampNeg (gA a 13 i) < 256 ∧ gA a 13 i = nI (Int32.toNatClampNeg (gA a 13 i)) ∧ gA b 0 i = nI (Int32.toNatClampNeg (gA a 13 i))
    rw [e]; exact ⟨v1, v2, v3⟩
  obtain ⟨p, q, r1, r2, r3⟩ := both_read (L := L) ⟨n240, fun i hi => (hL i hi).1⟩ ⟨x1, fun i hi => (hL i hi).2.1⟩ ⟨y1, fun i hi => (hL i hi).2.2⟩
  have M := m_contract r2
  rcases r3 with ⟨C, o1, hr⟩ | bd1
  · obtain ⟨f1, f2, e15, e23, e11, e2, hC, hX, hM, -⟩ := id o1
    have w1 := hC.1
    have hW := wfc_of hC hr
    rw [e23, if_pos (show (0 : Int32) ≤ 0 by decide)] at M
    obtain ⟨q4, u1, u2, u3⟩ := m_con (q := cnM q) hC hM hM.1 hM.2.1 (fun σ36 => some (gI (enM σ36) 3, enM σ36))
    rw [u1] at M
    obtain ⟨f, i1, i2⟩ := x_forget (sI (toX (sI p 10 0)) 62 0)
    have R : RepX (toX (sI p 10 0)) C := rep_takeOver (p := sI p 10 0) hC hX
    obtain ⟨σ, g1, g2, g3⟩ := x_reckon (a := sI (sA (sI (toX (sI p 10 0)) 62 0) 74 f) 70 0) hW R (s := 0) (sk := bt 0) (fun _ _ => rfl)
    have gi : ∀ k, gI σ k = gI (sI (sA (sI (toX (sI p 10 0)) 62 0) 74 f) 70 0) k := fun k => congrFun g2.1 k
    have ga : ∀ k, gA σ k = gA (sI (sA (sI (toX (sI p 10 0)) 62 0) 74 f) 70 0) k := fun k => congrFun g2.2 k
    have X : FX7_contract a = some (gI σ 40, σ) := by
      rw [FX7_contract, r1, ob_s]
      show (if gI p 15 = 0 then ob (FX0_takeOver (sI p 10 0)) _ else _) = _
      rw [if_pos e15, x_takeOver, ob_s, bd_e, i1, ob_s, FX1_clear, bd_e, ob_s]
      show ob (FX2_reckon (sI (sA (sI (toX (sI p 10 0)) 62 0) 74 f) 70 0) 0) _ = _
      rw [g1, ob_s]
    have e40 : gI σ 40 = nI (cN C) := (gi 40).trans hX.1
    have e3 : gI (enM q4) 3 = nI (cN C) := u2.1
    refine ⟨nI (cN C), σ, enM q4, by rw [X, e40], by rw [M, e3], C, K, A, ⟨hW, ?_, ?_, g3, h5, ?_, ?_, ?_, ?_, ?_, ?_⟩, ⟨0, by omega, ?_, ?_, no_lt⟩, ?_, ⟨0, by omega, ?_, rfl, no_lt⟩, fun i hi => Or.inl ⟨?_, ?_⟩⟩
    · unfold RepX
      simp only [gi, ga]
      exact R
    · exact u2
    · exact (gi 60).trans ((f1.1 60 (by decide)).trans k1)
    · exact (gi 61).trans ((f1.1 61 (by decide)).trans k2)
    · exact (u3.1 24).trans ((f2.1 24 (by decide) (by decide) (by decide) (by decide) (by decide)).trans k3)
    · exact (u3.1 25).trans ((f2.1 25 (by decide) (by decide) (by decide) (by decide) (by decide)).trans k4)
    · exact gi 62
    · intro c _ hb
      have hb : bt 0 c = true := hb
      rw [b_0] at hb; cases hb
    · exact gi 10
    · exact u3.1 1
    · exact (gi 11).trans (e11.trans (e2.symm.trans (u3.1 2).symm))
    · exact gi 70
    · rw [ga 74]; exact i2 i hi
    · rcases (by omega : i = 0 ∨ i = 1) with e | e
      · subst e; rfl
      · subst e; rfl
  · obtain ⟨f1, f2, -, ⟨e, e0, e6, u1, u2⟩, e2⟩ := id bd1
    refine ⟨-10 - nI e, sI p 10 0, sI q 1 0, ?_, ?_, rel_fr h f1 f2 e2⟩
    · rw [FX7_contract, r1, ob_s]
      show (if gI p 15 = 0 then _ else some (-10 - gI p 15, sI p 10 0)) = _
      rw [if_neg (bad_15 bd1).1, u1]
    · rw [M, u2, if_neg (show ¬ nI e ≤ 0 from nI_ge (a := 0) e0 (by omega))]
theorem rel_all : AllSim Rel := ⟨s_feed, s_contract, s_fault, s_answer, s_forget, s_strike, s_drift, s_undo, s_answerOf, s_told, s_wrong, s_clause, s_part, s_number, s_hangs, s_term, s_by, s_sign, s_keep, s_goBack⟩
