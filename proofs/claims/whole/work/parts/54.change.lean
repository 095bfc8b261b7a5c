/-! answer, forget, undo, going back -/
theorem tabs_of {a p : SS} {C : Cd} {sk : Nat → Bool} (e : p.2.2 = a.2.2) (h : Tabs a C sk) : Tabs p C sk := by
  unfold Tabs gL at *
  rw [e]; exact h
theorem rel_ans {a b a1 b1 : SS} {C : Cd} {K A : Nat} (hs : Sit a b C K A) (ht : Txt a b) (hf : gI a 11 = gI b 2) (hi : Img a b C) (p1 : smP a a1) (q1 : smQ b b1) (hh : His a1 b1 C) {k' a' : Int32} (hl : Lg C k' a' (gI b 26)) : Rel (sI (sI a1 60 k') 61 a') (sI (sI b1 24 k') 25 a') := by
  obtain ⟨h1, h2, h3, h4, h5, k1, k2, k3, k4, k5, k6⟩ := hs
  have m26 : gI (sI (sI b1 24 k') 25 a') 26 = gI b 26 := by rw [gI_ne _ (by decide), gI_ne _ (by decide), q1.1 26 (by decide)]
  have m24 : gI (sI (sI b1 24 k') 25 a') 24 = k' := by rw [gI_ne _ (by decide), gI_sI]
  have m25 : gI (sI (sI b1 24 k') 25 a') 25 = a' := gI_sI _ _ _
  refine rel_set h1 h2 h3 ht hf hi p1 q1 hh ⟨fun k c1 c2 c3 => ?_, fun k => rfl⟩ ⟨fun k c1 c2 c3 => ?_, fun k => rfl⟩ ?_ ?_ ?_ ?_ ?_
  · rw [gI_ne _ c2, gI_ne _ c1]
  · rw [gI_ne _ c2, gI_ne _ c1]
  · rw [m26]; exact tabs_of p1.2.2 h4
  · rw [m24, gI_ne _ (by decide), gI_sI]
  · rw [m25, gI_sI]
  · rw [m26, gI_ne _ (by decide), gI_ne _ (by decide), p1.1 62 (by decide)]; exact k5
  · rw [m24, m25, m26]; exact hl
theorem x_set (σ : SS) (q v : Int32) : FX6_setAnswer σ q v = some (sI (sI σ 60 (if v = -1 then gI σ 60 &&& (jshl 1 q ^^^ -1) else gI σ 60 ||| jshl 1 q)) 61 (if v = 1 then gI σ 61 ||| jshl 1 q else gI σ 61 &&& (jshl 1 q ^^^ -1))) := by
  unfold FX6_setAnswer FX6_setAnswer_J27
  simp only [bd_e]
  by_cases c : v = -1
  · rw [if_pos c, if_pos c]
    by_cases d : v = 1
    · rw [if_pos d, if_pos d, gI_ne _ (show 61 ≠ 60 by decide)]
    · rw [if_neg d, if_neg d, gI_ne _ (show 61 ≠ 60 by decide)]
  · rw [if_neg c, if_neg c]
    by_cases d : v = 1
    · rw [if_pos d, if_pos d, gI_ne _ (show 61 ≠ 60 by decide)]
    · rw [if_neg d, if_neg d, gI_ne _ (show 61 ≠ 60 by decide)]
theorem ans_in (K A q : Nat) : ans K A q = -1 ∨ ans K A q = 0 ∨ ans K A q = 1 := by
  unfold ans
  cases K.testBit q <;> cases A.testBit q <;> decide
theorem s_answer : Sim_answer Rel := fun a b h x0 x1 hx => by
  obtain ⟨C, K, A, hs, ht, hf, hh, hi⟩ := id h
  obtain ⟨h1, h2, h3, h4, h5, k1, k2, k3, k4, k5, k6⟩ := id hs
  rcases both_q a b x0 with ⟨i1, i2⟩ | ⟨q, hq, i0, i1, i2⟩
  · refine ⟨_, a, b, by rw [FX7_answer, i1, ob_s, if_pos rfl], ?_, h⟩
    rw [FX8_answer, FX8_answerOf, i2, ob_s, if_pos rfl, ob_s, if_pos rfl]
  subst i0
  obtain ⟨y, hy⟩ : ∃ y, x1 = bI y := by
    rcases hx with e | e
    · exact ⟨false, e⟩
    · exact ⟨true, e⟩
  have sx : FX7_answer a (nI q) x1 = FX7_answer_J28 a (nI q) (ans K A q) (bI y) := by
    rw [FX7_answer, i1, ob_s, if_neg (show ¬ (1 : Int32) = 0 by decide), x_answerTo k1 k2 hq, ob_s, hy]
    cases y <;> rfl
  have sm : FX8_answer b (nI q) x1 = FX8_answer_J25 b (nI q) (bI y) (ans K A q) (bI y) (ans K A q) := by
    rw [FX8_answer, m_answerOf k3 k4 hq i2, ob_s, if_neg (by rcases ans_in K A q with e | e | e <;> rw [e] <;> decide), hy]
    cases y <;> rfl
  rw [sx, sm, FX7_answer_J28, FX8_answer_J25]
  by_cases c : ans K A q = bI y
  · rw [if_pos c, if_pos c]; exact ⟨_, a, b, rfl, rfl, h⟩
  rw [if_neg c, if_neg c, sit_pck hs, ob_s]
  obtain ⟨a1, b1, n1, n2, n3, n4, n5⟩ := both_note (sit_lg hs) hh
  rw [n1, ob_s, n2, ob_s, x_set, ob_s, bd_e, bd_e, bd_e]
  have g24 : gI b1 24 = gI b 24 := n4.1 24 (by decide)
  have g25 : gI b1 25 = gI b 25 := n4.1 25 (by decide)
  have g60 : gI a1 60 = gI b 24 := (n3.1 60 (by decide)).trans (k1.trans k3.symm)
  have g61 : gI a1 61 = gI b 25 := (n3.1 61 (by decide)).trans (k2.trans k4.symm)
  have ne1 : ¬ bI y = -1 := by cases y <;> decide
  rw [gI_ne _ (show 25 ≠ 24 by decide), g24, g25, g60, g61, if_neg ne1]
  obtain ⟨lb1, lb2, lb3, lb4⟩ := lg_bits (sit_lg hs)
  have lg : Lg C (gI b 24 ||| jshl 1 (nI q)) (if bI y = 1 then gI b 25 ||| jshl 1 (nI q) else gI b 25 &&& (jshl 1 (nI q) ^^^ -1)) (gI b 26) := by
    refine lg_of (fun i hi e => ?_) (fun i hi e => ?_) (fun i hi e => lb4 i e)
    · rw [b_or, b_one (by omega) hi, Bool.or_eq_true, decide_eq_true_eq] at e
      rcases e with e | e
      · exact lb1 i e
      · omega
    · rw [b_or, b_one (by omega) hi, Bool.or_eq_true, decide_eq_true_eq]
      cases y with
      | true =>
        rw [if_pos (show bI true = 1 from rfl), b_or, b_one (by omega) hi, Bool.or_eq_true, decide_eq_true_eq] at e
        rcases e with e | e
        · exact Or.inl (lb2 i e)
        · exact Or.inr e
      | false =>
        rw [if_neg (by decide), b_and, Bool.and_eq_true] at e
        exact Or.inl (lb2 i e.1)
  have R := rel_ans hs ht hf hi n3 n4 n5 lg
  cases y with
  | true => exact ⟨_, _, _, rfl, rfl, R⟩
  | false => exact ⟨_, _, _, rfl, rfl, R⟩
theorem s_forget : Sim_forget Rel := fun a b h x0 => by
  obtain ⟨C, K, A, hs, ht, hf, hh, hi⟩ := id h
  obtain ⟨h1, h2, h3, h4, h5, k1, k2, k3, k4, k5, k6⟩ := id hs
  rcases both_q a b x0 with ⟨i1, i2⟩ | ⟨q, hq, i0, i1, i2⟩
  · refine ⟨_, a, b, by rw [FX7_forget, i1, ob_s, if_pos rfl], ?_, h⟩
    rw [FX8_forget, FX8_answerOf, i2, ob_s, if_pos rfl, ob_s, if_pos rfl]
  subst i0
  rw [FX7_forget, i1, ob_s, if_neg (show ¬ (1 : Int32) = 0 by decide), x_answerTo k1 k2 hq, ob_s, FX8_forget, m_answerOf k3 k4 hq i2, ob_s, if_neg (show ¬ ans K A q = -1000000001 by rcases ans_in K A q with e | e | e <;> rw [e] <;> decide)]
  by_cases c : ans K A q = -1
  · rw [if_pos c, if_pos c]; exact ⟨_, a, b, rfl, rfl, h⟩
  rw [if_neg c, if_neg c, sit_pck hs, ob_s]
  obtain ⟨a1, b1, n1, n2, n3, n4, n5⟩ := both_note (sit_lg hs) hh
  rw [n1, ob_s, n2, ob_s, x_set, ob_s, bd_e, bd_e]
  have g24 : gI b1 24 = gI b 24 := n4.1 24 (by decide)
  have g25 : gI b1 25 = gI b 25 := n4.1 25 (by decide)
  have g60 : gI a1 60 = gI b 24 := (n3.1 60 (by decide)).trans (k1.trans k3.symm)
  have g61 : gI a1 61 = gI b 25 := (n3.1 61 (by decide)).trans (k2.trans k4.symm)
  rw [gI_ne _ (show 25 ≠ 24 by decide), g24, g25, g60, g61, if_pos (show (-1 : Int32) = -1 from rfl), if_neg (show ¬ (-1 : Int32) = 1 by decide)]
  obtain ⟨lb1, lb2, lb3, lb4⟩ := lg_bits (sit_lg hs)
  have lg : Lg C (gI b 24 &&& (jshl 1 (nI q) ^^^ -1)) (gI b 25 &&& (jshl 1 (nI q) ^^^ -1)) (gI b 26) := by
    refine lg_of (fun i hi e => ?_) (fun i hi e => ?_) (fun i hi e => lb4 i e)
    · rw [b_and, Bool.and_eq_true] at e
      exact lb1 i e.1
    · rw [b_and, Bool.and_eq_true] at e ⊢
      exact ⟨lb2 i e.1, e.2⟩
  exact ⟨_, _, _, rfl, rfl, rel_ans hs ht hf hi n3 n4 n5 lg⟩
theorem x_restore {p : SS} {C : Cd} (hC : WfC C) (hp : RepX p C) (hT : Tabs p C (bt (gI p 62))) {k a s : Int32} (hl : Lg C k a s) : ∃ σ, FX7_restore p (pck k a s) = some σ ∧ smS p σ ∧ gI σ 60 = k ∧ gI σ 61 = a ∧ gI σ 62 = s ∧ Tabs σ C (bt s) := by
  obtain ⟨e1, e2, e3, e4⟩ := pck_back hC hl
  have su : smS p (sI (sI (sI p 60 k) 61 a) 62 s) := ⟨fun j c1 c2 c3 => by rw [gI_ne _ c3, gI_ne _ c2, gI_ne _ c1], fun j => rfl⟩
  have u62 : gI (sI (sI (sI p 60 k) 61 a) 62 s) 62 = s := gI_sI _ _ _
  have u61 : gI (sI (sI (sI p 60 k) 61 a) 62 s) 61 = a := by rw [gI_ne _ (by decide), gI_sI]
  have u60 : gI (sI (sI (sI p 60 k) 61 a) 62 s) 60 = k := by rw [gI_ne _ (by decide), gI_ne _ (by decide), gI_sI]
  have un : FX6_unpack p (pck k a s) = some (sI (sI (sI p 60 k) 61 a) 62 s) := by
    rw [FX6_unpack, bd_e, bd_e, bd_e, e1, e2, e3]
  rw [FX7_restore, un, ob_s, u62]
  by_cases c : s = gI p 62
  · rw [if_pos c]
    exact ⟨_, rfl, su, u60, u61, u62, by rw [c]; exact tabs_of rfl hT⟩
  · rw [if_neg c]
    obtain ⟨σ, f1, f2, f3⟩ := x_reckon hC (smS_X su hp) (s := s) (sk := bt s) (fun _ _ => rfl)
    have gi : ∀ j, gI σ j = gI (sI (sI (sI p 60 k) 61 a) 62 s) j := fun j => by unfold gI; rw [f2.1]
    have ga : ∀ j, gA σ j = gA (sI (sI (sI p 60 k) 61 a) 62 s) j := fun j => by unfold gA; rw [f2.2]
    refine ⟨σ, by rw [f1, ob_s], ⟨fun j c1 c2 c3 => (gi j).trans (su.1 j c1 c2 c3), fun j => (ga j).trans (su.2 j)⟩, (gi 60).trans u60, (gi 61).trans u61, (gi 62).trans u62, f3⟩
