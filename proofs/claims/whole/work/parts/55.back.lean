/-! undo, keep, go back, strike, feed -/
theorem smP_I (a : SS) (v : Int32) : smP a (sI a 70 v) := ⟨fun k hk => gI_ne _ hk _, fun k _ => rfl, rfl⟩
theorem smQ_I (b : SS) (v : Int32) : smQ b (sI b 28 v) := ⟨fun k hk => gI_ne _ hk _, fun k _ => rfl⟩
theorem his_0 (a b : SS) (C : Cd) : His (sI a 70 0) (sI b 28 0) C := ⟨0, by omega, gI_sI _ _ _, gI_sI _ _ _, fun i hi => absurd hi (Nat.not_lt_zero i)⟩
theorem s_undo : Sim_undo Rel := fun a b h => by
  obtain ⟨C, K, A, hs, ht, hf, ⟨n, n8, x1, y1, z1⟩, hi⟩ := id h
  obtain ⟨h1, h2, h3, h4, h5, k1, k2, k3, k4, k5, k6⟩ := id hs
  rw [FX7_undo, FX8_undo, x1, y1]
  by_cases c : n = 0
  · subst c
    rw [if_pos (show nI 0 = 0 from rfl), if_pos (show nI 0 = 0 from rfl)]; exact ⟨_, a, b, rfl, rfl, h⟩
  obtain ⟨m, rfl⟩ : ∃ m, n = m + 1 := ⟨n - 1, by omega⟩
  obtain ⟨lg, pk⟩ := z1 m (by omega)
  rw [if_neg (nI_ne0 (by omega) (by omega)), if_neg (nI_ne0 (by omega) (by omega)), nI_pred, bd_e]
  have xp : FX1_pop a = some (pck (gA b 27 (3 * m)) (gA b 27 (3 * m + 1)) (gA b 27 (3 * m + 2)), sI a 70 (nI m)) := by
    rw [FX1_pop, x1, if_pos (show 0 < nI (m + 1) from nI_lt (a := 0) (by omega) (by omega)), nI_pred, bd_e, gI_sI, gd_t (inb_n (by omega) (by omega)), nI_clamp (by omega)]
    show some (gA a 71 m, sI a 70 (nI m)) = _
    rw [pk]
  have g62 : gI (sI a 70 (nI m)) 62 = gI b 26 := (gI_ne _ (by decide) _).trans k5
  obtain ⟨σ, f1, f2, f3, f4, f5, f6⟩ := x_restore h1 (smP_X (smP_I a (nI m)) h2) (by rw [g62]; exact tabs_of rfl h4) lg
  have e0 : gI (sI b 28 (nI m)) 28 = nI m := gI_sI _ _ _
  have t0 : (3 : Int32) * nI m = nI (3 * m) := m3 m (by omega)
  have t1 : (3 : Int32) * nI m + 1 = nI (3 * m + 1) := by rw [t0, nI_1]
  have t2 : (3 : Int32) * nI m + 2 = nI (3 * m + 2) := by rw [t0, show (2 : Int32) = nI 2 from rfl, nI_add]
  have me : FX8_undo b = some (nI m, sI (sI (sI (sI b 28 (nI m)) 24 (gA b 27 (3 * m))) 25 (gA b 27 (3 * m + 1))) 26 (gA b 27 (3 * m + 2))) := by
    rw [FX8_undo, y1, if_neg (nI_ne0 (by omega) (by omega)), nI_pred, bd_e, e0, t0, gd_t (inb_n (by omega) (by omega)), bd_e, nI_clamp (by omega)]
    show gd (inb ((3 : Int32) * nI m + 1) 24) _ = _
    rw [t1, gd_t (inb_n (by omega) (by omega)), bd_e]
    show gd (inb ((3 : Int32) * nI m + 2) 24) (bd (sI (sI (sI (sI b 28 (nI m)) 24 (gA b 27 (3 * m))) 25 (gA b 27 (Int32.toNatClampNeg ((3 : Int32) * nI m + 1)))) 26 (gA b 27 (Int32.toNatClampNeg ((3 : Int32) * nI m + 2)))) (fun σ8 => some ((gI σ8 28), σ8))) = _
    rw [t1, t2, gd_t (inb_n (by omega) (by omega)), bd_e, nI_clamp (by omega), nI_clamp (by omega)]
    rfl
  have me' := me
  rw [FX8_undo, y1, if_neg (nI_ne0 (by omega) (by omega)), nI_pred, bd_e] at me'
  rw [me', xp, ob_s, f1, ob_s, f2.1 70 (by decide) (by decide) (by decide), gI_sI]
  refine ⟨_, σ, _, rfl, rfl, ?_⟩
  refine rel_set h1 h2 h3 ht hf hi (smP_I a (nI m)) (smQ_I b (nI m)) ⟨m, by omega, gI_sI _ _ _, gI_sI _ _ _, fun i hi => z1 i (by omega)⟩ f2 ⟨fun k c1 c2 c3 => ?_, fun k => rfl⟩ ?_ ?_ ?_ ?_ ?_
  · rw [gI_ne _ c3, gI_ne _ c2, gI_ne _ c1]
  · rw [gI_sI]; exact f6
  · rw [f3, gI_ne _ (by decide), gI_ne _ (by decide), gI_sI]
  · rw [f4, gI_ne _ (by decide), gI_sI]
  · rw [f5, gI_sI]
  · rw [gI_sI, gI_ne _ (show 25 ≠ 26 by decide), gI_sI, gI_ne _ (show 24 ≠ 26 by decide), gI_ne _ (show 24 ≠ 25 by decide), gI_sI]; exact lg
theorem both_im (a b : SS) (x : Int32) : (FX7_isImage a x = some 0 ∧ FX8_in b x 0 1 = some 0) ∨ ∃ q, q < 2 ∧ x = nI q ∧ FX7_isImage a x = some 1 ∧ FX8_in b x 0 1 = some 1 := by
  unfold FX7_isImage
  rcases in_0 b x (M := 1) (m := 1) rfl (by omega) with ⟨i1, i2⟩ | ⟨t, i1, i2, i3⟩
  · left
    refine ⟨?_, i1⟩
    by_cases c : x < 0
    · rw [if_pos c]
    · obtain ⟨j, j1, j2⟩ := nI_of c
      rcases i2 with i2 | i2
      · exact absurd i2 c
      · rw [j2] at i2
        have := (nI_ltI (a := 1) (by omega) j1).mp i2
        rw [if_neg c, j2, if_pos (show (2 : Int32) ≤ nI j from nI_le (a := 2) (by omega) j1)]
  · right
    refine ⟨t, by omega, i2, ?_, i3⟩
    rw [i2, if_neg (nI_pos (by omega)), if_neg (show ¬ (2 : Int32) ≤ nI t from nI_ge (b := 2) (by omega) (by omega))]
theorem s_goBack : Sim_goBack Rel := fun a b h x0 => by
  obtain ⟨C, K, A, hs, ht, hf, hh, hi⟩ := id h
  obtain ⟨h1, h2, h3, h4, h5, k1, k2, k3, k4, k5, k6⟩ := id hs
  rw [FX7_goBack, FX8_goBack]
  rcases both_im a b x0 with ⟨i1, i2⟩ | ⟨m, hm, i0, i1, i2⟩
  · rw [i1, i2, ob_s, ob_s, if_pos rfl, if_pos rfl]; exact ⟨_, a, b, rfl, rfl, h⟩
  rw [i1, i2, ob_s, ob_s, if_neg (show ¬ (1 : Int32) = 0 by decide), if_neg (show ¬ (1 : Int32) = 0 by decide), i0, gd_t (inb_n (by omega) (by omega)), gd_t (inb_n (by omega) (by omega)), gd_t (inb_n (by omega) (by omega)), nI_clamp (by omega)]
  rcases hi m hm with ⟨j1, j2⟩ | ⟨j1, lg, j2⟩
  · rw [if_pos j1, if_pos j2]; exact ⟨_, a, b, rfl, rfl, h⟩
  have nm := (pck_back h1 lg).2.2.2
  rw [j2, if_neg nm, j1, if_neg (show ¬ (1 : Int32) = 0 by decide)]
  obtain ⟨σ, f1, f2, f3, f4, f5, f6⟩ := x_restore h1 h2 (by rw [k5]; exact h4) lg
  have t0 : (3 : Int32) * nI m = nI (3 * m) := m3 m (by omega)
  have t1 : (3 : Int32) * nI m + 1 = nI (3 * m + 1) := by rw [t0, nI_1]
  have t2 : (3 : Int32) * nI m + 2 = nI (3 * m + 2) := by rw [t0, show (2 : Int32) = nI 2 from rfl, nI_add]
  rw [f1, ob_s, FX1_clear, bd_e, ob_s, t1, t2, t0, gd_t (inb_n (by omega) (by omega)), bd_e, gd_t (inb_n (by omega) (by omega)), bd_e, gd_t (inb_n (by omega) (by omega)), bd_e, bd_e, nI_clamp (by omega), nI_clamp (by omega), nI_clamp (by omega)]
  refine ⟨_, _, _, rfl, rfl, ?_⟩
  show Rel (sI σ 70 0) (sI (sI (sI (sI b 24 (gA b 29 (3 * m))) 25 (gA b 29 (3 * m + 1))) 26 (gA b 29 (3 * m + 2))) 28 0)
  have hx : smS (sI a 70 0) (sI σ 70 0) := ⟨fun k c1 c2 c3 => by
    by_cases c : k = 70
    · rw [c, gI_sI, gI_sI]
    · rw [gI_ne _ c, gI_ne _ c]; exact f2.1 k c1 c2 c3, fun k => f2.2 k⟩
  have hy : smT (sI b 28 0) (sI (sI (sI (sI b 24 (gA b 29 (3 * m))) 25 (gA b 29 (3 * m + 1))) 26 (gA b 29 (3 * m + 2))) 28 0) := ⟨fun k c1 c2 c3 => by
    by_cases c : k = 28
    · rw [c, gI_sI, gI_sI]
    · rw [gI_ne _ c, gI_ne _ c, gI_ne _ c3, gI_ne _ c2, gI_ne _ c1], fun k => rfl⟩
  have v26 : gI (sI (sI (sI (sI b 24 (gA b 29 (3 * m))) 25 (gA b 29 (3 * m + 1))) 26 (gA b 29 (3 * m + 2))) 28 0) 26 = gA b 29 (3 * m + 2) := by rw [gI_ne _ (by decide), gI_sI]
  have v25 : gI (sI (sI (sI (sI b 24 (gA b 29 (3 * m))) 25 (gA b 29 (3 * m + 1))) 26 (gA b 29 (3 * m + 2))) 28 0) 25 = gA b 29 (3 * m + 1) := by rw [gI_ne _ (by decide), gI_ne _ (by decide), gI_sI]
  have v24 : gI (sI (sI (sI (sI b 24 (gA b 29 (3 * m))) 25 (gA b 29 (3 * m + 1))) 26 (gA b 29 (3 * m + 2))) 28 0) 24 = gA b 29 (3 * m) := by rw [gI_ne _ (by decide), gI_ne _ (by decide), gI_ne _ (by decide), gI_sI]
  refine rel_set h1 h2 h3 ht hf hi (smP_I a 0) (smQ_I b 0) (his_0 a b C) hx hy ?_ ?_ ?_ ?_ ?_
  · rw [v26]; exact tabs_of rfl f6
  · rw [v24, gI_ne _ (by decide)]; exact f3
  · rw [v25, gI_ne _ (by decide)]; exact f4
  · rw [v26, gI_ne _ (by decide)]; exact f5
  · rw [v24, v25, v26]; exact lg
theorem ones_16 {C : Cd} (hC : WfC C) {F : Int32} {x : Nat} {sk : Nat → Bool} (h : ∀ j, j < 32 → bt F j = inF C x sk j) : fb_ct (bt F) 32 = fb_ct (bt F) 16 := by
  have w1 := hC.1
  have s := fb_ct_split (bt F) 16 16
  have z : fb_ct (fun k => bt F (16 + k)) 16 = 0 := fb_ct_zero.mpr fun k hk => by
    rw [h (16 + k) (by omega)]
    exact rds_ge (by omega)
  rw [z] at s
  exact s
theorem s_strike : Sim_strike Rel := fun a b h x0 x1 hx => by
  obtain ⟨C, K, A, hs, ht, hf, hh, hi⟩ := id h
  obtain ⟨h1, h2, h3, h4, h5, k1, k2, k3, k4, k5, k6⟩ := id hs
  have w1 := h1.1
  rw [FX7_strike, FX8_strike]
  rcases both_is h1 h2 h3 x0 with ⟨i1, i2⟩ | ⟨c, hc, i0, i1, i2⟩
  · rw [i1, i2, ob_s, ob_s, if_pos rfl, if_pos rfl]; exact ⟨_, a, b, rfl, rfl, h⟩
  rw [i1, i2, ob_s, ob_s, if_neg (show ¬ (1 : Int32) = 0 by decide), if_neg (show ¬ (1 : Int32) = 0 by decide), i0, k5, x_has a _ (by omega : c < 32), m_has b _ (by omega : c < 32), ob_s, ob_s]
  by_cases e : bI (bt (gI b 26) c) = x1
  · rw [if_pos e, if_pos e]; exact ⟨_, a, b, rfl, rfl, h⟩
  rw [if_neg e, if_neg e, sit_pck hs, ob_s]
  obtain ⟨a1, b1, n1, n2, n3, n4, n5⟩ := both_note (sit_lg hs) hh
  have g26 : gI b1 26 = gI b 26 := n4.1 26 (by decide)
  have g62 : gI a1 62 = gI b 26 := (n3.1 62 (by decide)).trans k5
  have s26 : gI (sI b1 26 (gI b1 26 ^^^ jshl 1 (nI c))) 26 = gI b 26 ^^^ jshl 1 (nI c) := by rw [gI_sI, g26]
  have s62 : gI (sI a1 62 (gI a1 62 ^^^ jshl 1 (nI c))) 62 = gI b 26 ^^^ jshl 1 (nI c) := by rw [gI_sI, g62]
  have su : smS a1 (sI a1 62 (gI a1 62 ^^^ jshl 1 (nI c))) := ⟨fun j c1 c2 c3 => gI_ne _ c3 _, fun j => rfl⟩
  obtain ⟨σ, f1, f2, f3⟩ := x_reckon h1 (smS_X su (smP_X n3 h2)) (s := gI b 26 ^^^ jshl 1 (nI c)) (sk := bt (gI b 26 ^^^ jshl 1 (nI c))) (fun _ _ => rfl)
  have gi : ∀ j, gI σ j = gI (sI a1 62 (gI a1 62 ^^^ jshl 1 (nI c))) j := fun j => congrFun f2.1 j
  have ga : ∀ j, gA σ j = gA (sI a1 62 (gI a1 62 ^^^ jshl 1 (nI c))) j := fun j => congrFun f2.2 j
  have b24 : gI (sI b1 26 (gI b1 26 ^^^ jshl 1 (nI c))) 24 = gI b 24 := by rw [gI_ne _ (by decide)]; exact n4.1 24 (by decide)
  have b25 : gI (sI b1 26 (gI b1 26 ^^^ jshl 1 (nI c))) 25 = gI b 25 := by rw [gI_ne _ (by decide)]; exact n4.1 25 (by decide)
  have a60 : gI σ 60 = gI b 24 := by rw [gi, gI_ne _ (by decide), n3.1 60 (by decide), k1, k3]
  have a61 : gI σ 61 = gI b 25 := by rw [gi, gI_ne _ (by decide), n3.1 61 (by decide), k2, k4]
  obtain ⟨lb1, lb2, lb3, lb4⟩ := lg_bits (sit_lg hs)
  have R : Rel σ (sI b1 26 (gI b1 26 ^^^ jshl 1 (nI c))) := by
    refine rel_set h1 h2 h3 ht hf hi n3 n4 n5 ⟨fun j c1 c2 c3 => (gi j).trans (su.1 j c1 c2 c3), fun j => (ga j).trans (su.2 j)⟩ ⟨fun j c1 c2 c3 => gI_ne _ c3 _, fun j => rfl⟩ ?_ ?_ ?_ ?_ ?_
    · rw [s26]; exact f3
    · rw [a60, b24]
    · rw [a61, b25]
    · rw [gi, s62, s26]
    · rw [b24, b25, s26]
      refine lg_of (fun i _ e => lb1 i e) (fun i _ e => lb2 i e) (fun i hi e => ?_)
      rw [b_xor, b_one (by omega) hi] at e
      by_cases d : i = c
      · rw [d]; exact hc
      · rw [decide_eq_false d, Bool.xor_false] at e
        exact lb4 i e
  obtain ⟨C2, K2, A2, hs2, -⟩ := id R
  obtain ⟨F, u1, u2, u3⟩ := both_now hs2
  refine ⟨nI (fb_ct (bt F) 32), σ, sI b1 26 (gI b1 26 ^^^ jshl 1 (nI c)), ?_, ?_, R⟩
  · rw [n1, ob_s, bd_e, s62, f1, ob_s, u1, ob_s, x_ones, ob_s]
  · rw [n2, ob_s, bd_e, u2, ob_s, m_ones, ob_s, ones_16 hs2.1 u3]
theorem s_feed : Sim_feed Rel := fun a b h x0 => by
  obtain ⟨C, K, A, hs, ⟨n, n240, x1, y1, z1⟩, hf, hh, hi⟩ := id h
  rw [FX7_feed, FX8_feed]
  rcases in_0 b x0 (M := 255) (m := 255) rfl (by omega) with ⟨i1, i2⟩ | ⟨v, i1, i2, i3⟩
  · rw [i1, ob_s, if_pos rfl]
    refine ⟨_, a, b, ?_, rfl, h⟩
    by_cases c : x0 < 0
    · rw [if_pos c]
    · rcases i2 with i2 | i2
      · exact absurd i2 c
      · rw [if_neg c, if_neg (Int32.not_le.mpr i2)]
  rw [i3, ob_s, if_neg (show ¬ (1 : Int32) = 0 by decide), i2, if_neg (nI_pos (by omega)), if_pos (show nI v ≤ 255 from nI_le (b := 255) i1 (by omega)), FX4_takeLetter, x1, y1]
  rcases Nat.lt_or_ge n 240 with c | c
  · rw [if_pos (show nI n < 240 from nI_lt (b := 240) c (by omega)), if_neg (show ¬ nI n = 240 from nI_ne (b := 240) (by omega) (by omega) (by omega)), gd_t (inb_n (by omega) (by omega)), gd_t (inb_n (by omega) (by omega)), bd_e, bd_e, bd_e, bd_e, nI_clamp (by omega), ob_s]
    have ex : gI (sA a 13 (upd (gA a 13) n (nI v))) 10 = nI n := x1
    have ey : gI (sA b 0 (upd (gA b 0) n (nI v))) 1 = nI n := y1
    rw [ex, ey, nI_1]
    show ∃ r a1 b1, (if (1 : Int32) = 0 then some ((-1000000004 : Int32), sI (sA a 13 (upd (gA a 13) n (nI v))) 10 (nI (n + 1))) else some (gI (sI (sA a 13 (upd (gA a 13) n (nI v))) 10 (nI (n + 1))) 10, sI (sA a 13 (upd (gA a 13) n (nI v))) 10 (nI (n + 1)))) = some (r, a1) ∧ _
    rw [if_neg (show ¬ (1 : Int32) = 0 by decide), gI_sI, gI_sI]
    refine ⟨_, _, _, rfl, rfl, C, K, A, ?_, ⟨n + 1, by omega, gI_sI _ _ _, gI_sI _ _ _, fun i hi => ?_⟩, ?_, ?_, ?_⟩
    · exact hs
    · show ∃ u, u < 256 ∧ gA (sA a 13 (upd (gA a 13) n (nI v))) 13 i = nI u ∧ gA (sA b 0 (upd (gA b 0) n (nI v))) 0 i = nI u
      rw [gA_sA, gA_sA, upd_eq, upd_eq]
      by_cases d : i = n
      · rw [if_pos d, if_pos d]; exact ⟨v, by omega, rfl, rfl⟩
      · rw [if_neg d, if_neg d]; exact z1 i (by omega)
    · exact hf
    · exact hh
    · exact hi
  · have e : n = 240 := by omega
    subst e
    rw [if_neg (show ¬ nI 240 < 240 by decide), if_pos (show nI 240 = 240 from rfl), ob_s]
    exact ⟨_, a, b, rfl, rfl, h⟩
