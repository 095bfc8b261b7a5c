/-! drift -/
theorem lN_big {n : Nat} (h : n < 2 ^ 63) : (lN n).toInt = (n : Int) := lg_ofNat_toInt (by omega)
theorem l_div {a b : Nat} (ha : a < 2 ^ 63) (hb : b < 2 ^ 63) : lN a / lN b = lN (a / b) := by
  have hd : a / b ≤ a := Nat.div_le_self a b
  apply Int64.toInt_inj.mp
  rw [Int64.toInt_div, lN_big ha, lN_big hb, lN_big (by omega)]
  have e : (a : Int).tdiv (b : Int) = ((a / b : Nat) : Int) := rfl
  rw [e]
  clear e
  generalize a / b = d at hd ⊢
  exact Int.bmod_eq_of_le (by omega) (by omega)
theorem l_rem {a b : Nat} (ha : a < 2 ^ 63) (hb : b < 2 ^ 63) : jlrem (lN a) (lN b) = lN (a % b) := by
  unfold jlrem
  rw [l_div ha hb, lN_mul, lN_sub (Nat.div_mul_le_self a b)]
  have h := Nat.div_add_mod' a b
  congr 1
  omega
theorem s_drift : Sim_drift Rel := fun a b h x0 => by
  obtain ⟨C, K, A, hs, ht, hf, hh, hi⟩ := id h
  obtain ⟨h1, h2, h3, h4, h5, k1, k2, k3, k4, k5, k6⟩ := id hs
  rw [FX7_drift, FX8_drift, FX8_in]
  by_cases c1 : x0 < 1
  · rw [if_pos c1, if_pos c1, ob_s, if_pos rfl]; exact ⟨_, a, b, rfl, rfl, h⟩
  rw [if_neg c1, if_neg c1]
  by_cases c2 : ¬ x0 ≤ 999999
  · rw [if_neg c2, if_pos (Int32.not_le.mp c2), ob_s, if_pos rfl]; exact ⟨_, a, b, rfl, rfl, h⟩
  have c2 : x0 ≤ 999999 := Decidable.not_not.mp c2
  rw [if_pos c2, if_neg (Int32.not_lt.mpr c2), ob_s, if_neg (show ¬ (1 : Int32) = 0 by decide), sit_pck hs, ob_s]
  obtain ⟨a1, b1, n1, n2, n3, n4, n5⟩ := both_note (sit_lg hs) hh
  rw [n1, ob_s, n2, ob_s, bd_e, bd_e]
  obtain ⟨lb1, lb2, lb3, lb4⟩ := lg_bits (sit_lg hs)
  have c0 : ¬ x0 < 0 := fun z => c1 (Int32.lt_trans z (by decide))
  obtain ⟨s, s1, s2⟩ := nI_of2 (x := x0) (M := 999999) (n := 999999) (by decide) c0 c2
  have se : Int32.toInt64 x0 = lN s := by rw [s2, nI_l (by omega)]
  rw [se]
  have fin := lp (fun n (z : Int64 × SS × SS) i => ((FX7_drift_L34 (fun σ18 => ob (FX7_inForceNow σ18) (fun r20 => ob (FJ6_bitCount_0f7a4 σ18 r20) (fun r22 => some (r22, σ18)))) n z.1 i z.2.1, FX8_drift_L33 (fun σ21 => ob (FX8_now σ21) (fun r23 => ob (FX8_ones σ21 r23) (fun r25 => some (r25, σ21)))) n z.1 i z.2.2) : Option (Int32 × SS) × Option (Int32 × SS))) 6 (fun i z => (∃ m, m < 2147483647 ∧ z.1 = lN m) ∧ smS a1 z.2.1 ∧ gI z.2.1 62 = gI a1 62 ∧ z.2.1.2.2 = a1.2.2 ∧ smT b1 z.2.2 ∧ gI z.2.2 26 = gI b1 26 ∧ (∀ o, o < i → bt (gI z.2.1 60) o = bt (gI z.2.2 24) o ∧ bt (gI z.2.1 61) o = bt (gI z.2.2 25) o ∧ (bt (gI z.2.2 25) o = true → bt (gI z.2.2 24) o = true)) ∧ ∀ o, o < 32 → i ≤ o → bt (gI z.2.2 24) o = false ∧ bt (gI z.2.2 25) o = false ∧ (bt (gI z.2.1 60) o = true → o < 6) ∧ (bt (gI z.2.1 61) o = true → o < 6)) (fun r => ∃ v p q, r.1 = some (v, p) ∧ r.2 = some (v, q) ∧ Rel p q) (by
    rintro n ⟨z, p, q⟩ ⟨-, g1, g2, g3, g4, g5, g6, g7⟩
    simp only at g1 g2 g3 g4 g5 g6 g7
    have e24 : gI p 60 = gI q 24 := b_ext fun o ho => by
      rcases Nat.lt_or_ge o 6 with c | c
      · exact (g6 o c).1
      · obtain ⟨u1, u2, u3, u4⟩ := g7 o ho c
        rw [u1]; exact not_t fun e => by have := u3 e; omega
    have e25 : gI p 61 = gI q 25 := b_ext fun o ho => by
      rcases Nat.lt_or_ge o 6 with c | c
      · exact (g6 o c).2.1
      · obtain ⟨u1, u2, u3, u4⟩ := g7 o ho c
        rw [u2]; exact not_t fun e => by have := u4 e; omega
    have q26 : gI q 26 = gI b 26 := g5.trans (n4.1 26 (by decide))
    have R : Rel p q := by
      refine rel_set h1 h2 h3 ht hf hi n3 n4 n5 g1 g4 ?_ e24 e25 ?_ ?_
      · rw [q26]; exact tabs_of (g3.trans n3.2.2) h4
      · rw [g2, q26, n3.1 62 (by decide)]; exact k5
      · rw [q26]
        refine lg_of (fun o ho e => ?_) (fun o ho e => ?_) (fun o _ e => lb4 o e)
        · rcases Nat.lt_or_ge o 6 with c | c
          · exact c
          · rw [(g7 o ho c).1] at e; cases e
        · rcases Nat.lt_or_ge o 6 with c | c
          · exact (g6 o c).2.2 e
          · rw [(g7 o ho c).2.1] at e; cases e
    obtain ⟨C2, K2, A2, hs2, -⟩ := id R
    obtain ⟨F, u1, u2, u3⟩ := both_now hs2
    refine ⟨nI (fb_ct (bt F) 32), p, q, ?_, ?_, R⟩
    · show FX7_drift_L34 _ _ _ _ _ = _
      rw [FX7_drift_L34, if_pos (by decide), u1, ob_s, x_ones, ob_s]
    · show FX8_drift_L33 _ _ _ _ _ = _
      rw [FX8_drift_L33, if_pos (by decide), u2, ob_s, m_ones, ob_s, ones_16 hs2.1 u3]) (by
    rintro n i ⟨z, p, q⟩ hi6 ⟨⟨m, hm, ez⟩, g1, g2, g3, g4, g5, g6, g7⟩
    simp only at ez g1 g2 g3 g4 g5 g6 g7
    right
    have r1 : jlrem (z * 16807) 2147483647 = lN (m * 16807 % 2147483647) := by
      rw [ez, show (16807 : Int64) = lN 16807 from rfl, lN_mul, show (2147483647 : Int64) = lN 2147483647 from rfl, l_rem (by omega) (by omega)]
    have ml := Nat.mod_lt (m * 16807) (show 2147483647 > 0 by omega)
    generalize m * 16807 % 2147483647 = w at r1 ml
    have r2 : jlrem (lN w) 3 = lN (w % 3) := by rw [show (3 : Int64) = lN 3 from rfl, l_rem (by omega) (by omega)]
    have w3 := Nat.mod_lt w (show 3 > 0 by omega)
    generalize w % 3 = t at r2 w3
    have l6 : ¬ (6 : Int32) ≤ nI i := nI_ge (b := 6) hi6 (by omega)
    have bo : ∀ o, o < 32 → bt (jshl 1 (nI i)) o = decide (o = i) := fun o ho => b_one (by omega) ho
    -- the state after the turn
    have step : ∀ (kn : Int32) (ka : Int32) (jn ja : Int32), (∀ o, o < 32 → o ≠ i → bt kn o = bt (gI p 60) o ∧ bt ka o = bt (gI p 61) o ∧ bt jn o = bt (gI q 24) o ∧ bt ja o = bt (gI q 25) o) → bt kn i = bt jn i → bt ka i = bt ja i → (bt ja i = true → bt jn i = true) →
        ((∃ m, m < 2147483647 ∧ lN w = lN m) ∧ smS a1 (sI (sI p 60 kn) 61 ka) ∧ gI (sI (sI p 60 kn) 61 ka) 62 = gI a1 62 ∧ (sI (sI p 60 kn) 61 ka).2.2 = a1.2.2 ∧ smT b1 (sI (sI q 24 jn) 25 ja) ∧ gI (sI (sI q 24 jn) 25 ja) 26 = gI b1 26 ∧ (∀ o, o < i + 1 → bt (gI (sI (sI p 60 kn) 61 ka) 60) o = bt (gI (sI (sI q 24 jn) 25 ja) 24) o ∧ bt (gI (sI (sI p 60 kn) 61 ka) 61) o = bt (gI (sI (sI q 24 jn) 25 ja) 25) o ∧ (bt (gI (sI (sI q 24 jn) 25 ja) 25) o = true → bt (gI (sI (sI q 24 jn) 25 ja) 24) o = true)) ∧ ∀ o, o < 32 → i + 1 ≤ o → bt (gI (sI (sI q 24 jn) 25 ja) 24) o = false ∧ bt (gI (sI (sI q 24 jn) 25 ja) 25) o = false ∧ (bt (gI (sI (sI p 60 kn) 61 ka) 60) o = true → o < 6) ∧ (bt (gI (sI (sI p 60 kn) 61 ka) 61) o = true → o < 6)) := by
      intro kn ka jn ja hr e1 e2 e3
      have v60 : gI (sI (sI p 60 kn) 61 ka) 60 = kn := by rw [gI_ne _ (by decide), gI_sI]
      have v61 : gI (sI (sI p 60 kn) 61 ka) 61 = ka := gI_sI _ _ _
      have v24 : gI (sI (sI q 24 jn) 25 ja) 24 = jn := by rw [gI_ne _ (by decide), gI_sI]
      have v25 : gI (sI (sI q 24 jn) 25 ja) 25 = ja := gI_sI _ _ _
      rw [v60, v61, v24, v25]
      refine ⟨⟨w, ml, rfl⟩, ⟨fun k c1 c2 c3 => ?_, fun k => g1.2 k⟩, ?_, g3, ⟨fun k c1 c2 c3 => ?_, fun k => g4.2 k⟩, ?_, fun o ho => ?_, fun o ho hio => ?_⟩
      · rw [gI_ne _ c2, gI_ne _ c1]; exact g1.1 k c1 c2 c3
      · rw [gI_ne _ (by decide), gI_ne _ (by decide)]; exact g2
      · rw [gI_ne _ c2, gI_ne _ c1]; exact g4.1 k c1 c2 c3
      · rw [gI_ne _ (by decide), gI_ne _ (by decide)]; exact g5
      · by_cases d : o = i
        · subst d; exact ⟨e1, e2, e3⟩
        · obtain ⟨u1, u2, u3, u4⟩ := hr o (by omega) d
          rw [u1, u2, u3, u4]; exact g6 o (by omega)
      · obtain ⟨u1, u2, u3, u4⟩ := hr o ho (by omega)
        rw [u1, u2, u3, u4]; exact g7 o ho (by omega)
    obtain ⟨y1, y2, -, -⟩ := g7 i (by omega) (Nat.le_refl _)
    have q25 : ∀ v, gI (sI q 24 v) 25 = gI q 25 := fun v => gI_ne _ (by decide) _
    rcases (by omega : t = 0 ∨ t = 1 ∨ t = 2) with et | et | et
    · refine ⟨(lN w, _, _), step (gI p 60 ||| jshl 1 (nI i)) (gI p 61 &&& (jshl 1 (nI i) ^^^ -1)) (gI q 24 ||| jshl 1 (nI i)) (gI q 25 ||| 0) (fun o ho hne => ?_) ?_ ?_ ?_, Prod.ext ?_ ?_⟩
      · rw [b_or, b_and, b_not _ ho, b_or, b_or, bo o ho, b_0, decide_eq_false hne]; simp
      · rw [b_or, b_or, bo i (by omega)]; simp
      · rw [b_and, b_not _ (by omega), b_or, bo i (by omega), b_0, y2]; simp
      · intro _; rw [b_or, bo i (by omega)]; simp
      · show FX7_drift_L34 _ _ _ _ _ = FX7_drift_L34 _ _ _ _ _
        rw [FX7_drift_L34, if_neg l6, bd_e, r1, r2, et, if_neg (show ¬ (lN 0).toInt32 = 2 by decide), FX7_drift_J77, x_set, ob_s, nI_1, if_neg (show ¬ (lN 0).toInt32 = -1 by decide), if_neg (show ¬ (lN 0).toInt32 = 1 by decide)]; rfl
      · show FX8_drift_L33 _ _ _ _ _ = FX8_drift_L33 _ _ _ _ _
        rw [FX8_drift_L33, if_neg l6, bd_e, r1, r2, et, if_neg (show ¬ 0 ≤ lg_cmp (lN 0) 2 by decide), FX8_drift_J75, r2, et, bd_e, if_neg (show ¬ lg_cmp (lN 0) 1 = 0 by decide), bd_e, nI_1, q25]; rfl
    · refine ⟨(lN w, _, _), step (gI p 60 ||| jshl 1 (nI i)) (gI p 61 ||| jshl 1 (nI i)) (gI q 24 ||| jshl 1 (nI i)) (gI q 25 ||| jshl 1 (nI i)) (fun o ho hne => ?_) ?_ ?_ ?_, Prod.ext ?_ ?_⟩
      · rw [b_or, b_or, b_or, b_or, bo o ho, decide_eq_false hne]; simp
      · rw [b_or, b_or, bo i (by omega)]; simp
      · rw [b_or, b_or, bo i (by omega)]; simp
      · intro _; rw [b_or, bo i (by omega)]; simp
      · show FX7_drift_L34 _ _ _ _ _ = FX7_drift_L34 _ _ _ _ _
        rw [FX7_drift_L34, if_neg l6, bd_e, r1, r2, et, if_neg (show ¬ (lN 1).toInt32 = 2 by decide), FX7_drift_J77, x_set, ob_s, nI_1, if_neg (show ¬ (lN 1).toInt32 = -1 by decide), if_pos (show (lN 1).toInt32 = 1 by decide)]; rfl
      · show FX8_drift_L33 _ _ _ _ _ = FX8_drift_L33 _ _ _ _ _
        rw [FX8_drift_L33, if_neg l6, bd_e, r1, r2, et, if_neg (show ¬ 0 ≤ lg_cmp (lN 1) 2 by decide), FX8_drift_J75, r2, et, bd_e, if_pos (show lg_cmp (lN 1) 1 = 0 by decide), bd_e, nI_1, q25]; rfl
    · refine ⟨(lN w, _, _), step (gI p 60 &&& (jshl 1 (nI i) ^^^ -1)) (gI p 61 &&& (jshl 1 (nI i) ^^^ -1)) (gI q 24 ||| 0) (gI q 25 ||| 0) (fun o ho hne => ?_) ?_ ?_ ?_, Prod.ext ?_ ?_⟩
      · rw [b_and, b_and, b_not _ ho, b_or, b_or, bo o ho, b_0, decide_eq_false hne]; simp
      · rw [b_and, b_not _ (by omega), b_or, bo i (by omega), b_0, y1]; simp
      · rw [b_and, b_not _ (by omega), b_or, bo i (by omega), b_0, y2]; simp
      · rw [b_or, b_0, y2]; intro e; cases e
      · show FX7_drift_L34 _ _ _ _ _ = FX7_drift_L34 _ _ _ _ _
        rw [FX7_drift_L34, if_neg l6, bd_e, r1, r2, et, if_pos (show (lN 2).toInt32 = 2 by decide), FX7_drift_J77, x_set, ob_s, nI_1, if_pos (show (-1 : Int32) = -1 from rfl), if_neg (show ¬ (-1 : Int32) = 1 by decide)]; rfl
      · show FX8_drift_L33 _ _ _ _ _ = FX8_drift_L33 _ _ _ _ _
        rw [FX8_drift_L33, if_neg l6, bd_e, r1, r2, et, if_pos (show 0 ≤ lg_cmp (lN 2) 2 by decide), FX8_drift_J75, r2, et, bd_e, if_neg (show ¬ lg_cmp (lN 2) 1 = 0 by decide), bd_e, nI_1, q25]; rfl) 6 5000 0 (lN s, a1, sI (sI b1 24 0) 25 0) (by omega) (by omega) ⟨⟨s, by omega, rfl⟩, ⟨fun _ _ _ _ => rfl, fun _ => rfl⟩, rfl, rfl, ⟨fun k c1 c2 c3 => by rw [gI_ne _ c2, gI_ne _ c1], fun _ => rfl⟩, by rw [gI_ne _ (by decide), gI_ne _ (by decide)], fun o ho => absurd ho (Nat.not_lt_zero o), fun o ho _ => by
      show bt (gI (sI (sI b1 24 0) 25 0) 24) o = false ∧ bt (gI (sI (sI b1 24 0) 25 0) 25) o = false ∧ (bt (gI a1 60) o = true → o < 6) ∧ (bt (gI a1 61) o = true → o < 6)
      rw [gI_sI, gI_ne _ (show 24 ≠ 25 by decide), gI_sI, b_0, n3.1 60 (by decide), n3.1 61 (by decide), k1, k2, ← k3, ← k4]
      exact ⟨rfl, rfl, fun e => lb1 o e, fun e => lb3 o e⟩⟩
  obtain ⟨v, p, q, f1, f2, f3⟩ := fin
  exact ⟨v, p, q, f1, f2, f3⟩
