/-! printed by wip/whole/gen4.py: the law from its entry to its loop -/
theorem q82 : Cond.methodLink RL (9) yX7_init ∈ wsG := inG 82 (by decide +kernel) rfl
theorem q83 : Cond.instanceMethod yX7_init ∈ wsG := inG 83 (by decide +kernel) rfl
theorem q84 : Cond.code yX7_init cX7_init 1 none ∈ wsG := inG 84 (by decide +kernel) rfl
theorem q780 : Cond.methodLink RL (12) yX8_init ∈ wsG := inG 780 (by decide +kernel) rfl
theorem q781 : Cond.instanceMethod yX8_init ∈ wsG := inG 781 (by decide +kernel) rfl
theorem q782 : Cond.code yX8_init cX8_init 1 none ∈ wsG := inG 782 (by decide +kernel) rfl
theorem qins_X7 : Cond.instantiable RX7 8 ∈ wsG := inG 81 (by decide +kernel) rfl
theorem qins_X8 : Cond.instantiable RX8 35 ∈ wsG := inG 779 (by decide +kernel) rfl
theorem qlc7 : Cond.classLink RL 7 RX7 ∈ wsG := inG 80 (by decide +kernel) rfl
theorem qlc8 : Cond.classLink RL 10 RX8 ∈ wsG := inG 778 (by decide +kernel) rfl
theorem apart_of {A : Nat → Prop} {gX gM : Gx} {a0 b0 : SS} (hD : va_D A (wsX gX a0 ++ wsM gM b0)) (a b : SS) (i j : Nat) (p q : Nat × va_E) (hi : (wsX gX a)[i]? = some p) (hj : (wsM gM b)[j]? = some q) : p.1 ≠ q.1 := by
  have e : (wsX gX a0 ++ wsM gM b0).map Prod.fst = (wsX gX a ++ wsM gM b).map Prod.fst := by
    rw [List.map_append, List.map_append, wsX_fix gX a0 a, wsM_fix gM b0 b]
  have hD2 := hD.fix e
  intro hpq
  have hlen : (wsX gX a).length = 36 := rfl
  have hil : i < (wsX gX a).length := (List.getElem?_eq_some_iff.mp hi).1
  have h1 : (wsX gX a ++ wsM gM b)[i]? = some p := by rw [List.getElem?_append_left hil]; exact hi
  have h2 : (wsX gX a ++ wsM gM b)[(wsX gX a).length + j]? = some q := by rw [List.getElem?_append_right (by omega), Nat.add_sub_cancel_left]; exact hj
  have := hD2.1 _ _ _ _ h1 h2 hpq
  omega
theorem split_of {A : Nat → Prop} {gX gM : Gx} {a0 b0 : SS} (hD : va_D A (wsX gX a0 ++ wsM gM b0)) : (∀ a, va_D A (wsX gX a)) ∧ ∀ b, va_D A (wsM gM b) := by
  refine ⟨fun a => va_D.fix (wsX_fix gX a0 a) ?_, fun b => va_D.fix (wsM_fix gM b0 b) ?_⟩
  · exact hD.sub [0, 1, 2, 3, 4, 5, 6, 7, 8, 9, 10, 11, 12, 13, 14, 15, 16, 17, 18, 19, 20, 21, 22, 23, 24, 25, 26, 27, 28, 29, 30, 31, 32, 33, 34, 35] (by decide) rfl
  · exact hD.sub [36, 37, 38, 39, 40, 41, 42, 43, 44, 45, 46, 47, 48, 49, 50, 51, 52, 53, 54, 55, 56, 57, 58] (by decide) rfl
theorem arr_known {s : State} {args : Array Value} {ty : FieldType} (h : (Cond.arrayClass ty).before args s = true) : ∃ cA : ClassId, s.vm.findClass ("[" ++ ty.toString) = some cA ∧ ArrOfT s cA ty := by
  obtain ⟨cA, kA, comp, h1, h2, h3⟩ := Cond.arrayClass_spec h
  exact ⟨cA, h1, fun n z => ⟨fun k h => (by cases h), kA, h2, comp, h3⟩⟩
theorem yes_known {args : Array Value} {s : State} (hgv : (Jvm.Cond.and given_1 narrow_1).before args s = true) {A : Nat → Prop} (hA : ∀ a : Nat, a < s.heap.size → ¬ A a) : ∃ t : Nat, (Term.static "ContractDesk" "YES_TO" "[J").eval args s none [] s = some (.ref t) ∧ va_T .long t 6 (fun j => .long (yesT j)) A s s.heap := by
  have hs := flat_of_before _ hgv
  refine va_Tof (by omega) (hs (Cond.arrayOf (.static "ContractDesk" "YES_TO" "[J") .long) (by decide +kernel)) (va_eqt (hs (Cond.eq (.length (.static "ContractDesk" "YES_TO" "[J")) (.int 6)) (by decide +kernel))) (fun j hj => ?_) hA
  match j, hj with
  | 0, _ => exact va_eqtl (hs (Cond.eq (.elem (.static "ContractDesk" "YES_TO" "[J") (.int 0)) (.long (-6148914691236517206))) (by decide +kernel))
  | 1, _ => exact va_eqtl (hs (Cond.eq (.elem (.static "ContractDesk" "YES_TO" "[J") (.int 1)) (.long (-3689348814741910324))) (by decide +kernel))
  | 2, _ => exact va_eqtl (hs (Cond.eq (.elem (.static "ContractDesk" "YES_TO" "[J") (.int 2)) (.long (-1085102592571150096))) (by decide +kernel))
  | 3, _ => exact va_eqtl (hs (Cond.eq (.elem (.static "ContractDesk" "YES_TO" "[J") (.int 3)) (.long (-71777214294589696))) (by decide +kernel))
  | 4, _ => exact va_eqtl (hs (Cond.eq (.elem (.static "ContractDesk" "YES_TO" "[J") (.int 4)) (.long (-281470681808896))) (by decide +kernel))
  | 5, _ => exact va_eqtl (hs (Cond.eq (.elem (.static "ContractDesk" "YES_TO" "[J") (.int 5)) (.long (-4294967296))) (by decide +kernel))
  | j + 6, hj => exact absurd hj (by omega)
set_option maxRecDepth 100000 in
set_option maxHeartbeats 4000000 in
theorem whole_open {Rl : SS → SS → Prop} (hs : AllSim Rl) (h00 : Rl σX0 σM0) {p : Program} {e : Env} {s : State} {m : MethodId} {below : List Frame} {meth : Method} {c : Code} (l : Launch) {b L : Nat} {xs : Nat → Int32} (hL : L ≤ 2048) (C0 : lw_At p s m meth c b L xs) : W p l e room_1 s m #[Value.ref b] below meth c s.heap [] 0 0 (lw_Z below #[Value.ref b] s) (entryFrame m ([Value.ref b] : List Value).toArray 4) := by
  obtain ⟨hx, hb, hr, hml, hown, hts, hX, hbl, hlocks, hgv⟩ := id C0
  have hown : s.vm.findClass RL = some m.cls := hown
  have htsG : ∀ w ∈ wsG, w.before #[Value.ref b] s = true := fun w hw => hts w (List.mem_filter.mp hw).1
  have hN : NwG s := by
    intro w hw
    have h1 := hts w (List.mem_filter.mp hw).1
    have h2 := (List.mem_filter.mp hw).2
    cases w with
    | methodLinkNest a i x b => exact va_Nw.of rfl h1
    | fieldLinkNest a i b n d c => exact va_Nw.of rfl h1
    | _ => cases h2
  obtain ⟨A, eA⟩ : ∃ A : Nat → Prop, A = fun q : Nat => s.heap.size ≤ q := ⟨_, rfl⟩
  have hA : ∀ q : Nat, s.heap.size ≤ q → A q := fun q h => by rw [eA]; exact h
  have hnA : ∀ a : Nat, a < s.heap.size → ¬ A a := fun a h q => by rw [eA] at q; exact absurd h (Nat.not_lt.mpr q)
  obtain ⟨yt, hyt, hT⟩ := yes_known hgv hnA
  have hZ : va_Z "ContractDesk" "YES_TO" "[J" (.ref yt) A s s.heap := va_Zof (hts (.laysStatic "ContractDesk" "YES_TO" "[J") (List.mem_of_getElem? (i := 446) (by decide +kernel))) (htsG _ q68) hyt hnA
  obtain ⟨cI, hfI, hcI⟩ := arr_known (htsG _ qarr_int)
  obtain ⟨cJ, hfJ, hcJ⟩ := arr_known (htsG _ qarr_long)
  obtain ⟨cZ, hfZ, hcZ⟩ := arr_known (htsG _ qarr_boolean)
  obtain ⟨c0, iS0, hKn0⟩ := u_known (C := RX0) (T := TX0) (N := 12) (n := 12) htsG inG_X0 (htsG _ qins_X0)
  obtain ⟨c1, iS1, hKn1⟩ := u_known (C := RX1) (T := TX1) (N := 2) (n := 2) htsG inG_X1 (htsG _ qins_X1)
  obtain ⟨c2, iS2, hKn2⟩ := u_known (C := RX2) (T := TX2) (N := 6) (n := 6) htsG inG_X2 (htsG _ qins_X2)
  obtain ⟨c3, iS3, hKn3⟩ := u_known (C := RX3) (T := TX3) (N := 3) (n := 3) htsG inG_X3 (htsG _ qins_X3)
  obtain ⟨c4, iS4, hKn4⟩ := u_known (C := RX4) (T := TX4) (N := 8) (n := 8) htsG inG_X4 (htsG _ qins_X4)
  obtain ⟨c5, iS5, hKn5⟩ := u_known (C := RX5) (T := TX5) (N := 5) (n := 5) htsG inG_X5 (htsG _ qins_X5)
  obtain ⟨c6, iS6, hKn6⟩ := u_known (C := RX6) (T := TX6) (N := 3) (n := 3) htsG inG_X6 (htsG _ qins_X6)
  obtain ⟨c7, iS7, hKn7⟩ := u_known (C := RX7) (T := TX7) (N := 8) (n := 8) htsG inG_X7 (htsG _ qins_X7)
  obtain ⟨c8, iS8, hKn8⟩ := u_known (C := RX8) (T := TX8) (N := 35) (n := 35) htsG inG_X8 (htsG _ qins_X8)
  obtain ⟨D, hKc⟩ : ∃ D : va_G, ∀ (k : Nat) (q : vw_C), vwCl[k]? = some q → u_Kn s q.1 q.2.1 q.2.2 (D.1 k) (D.2 k) := by
    refine ⟨(fun k => if k = 0 then c0 else if k = 1 then c1 else if k = 2 then c2 else if k = 3 then c3 else if k = 4 then c4 else if k = 5 then c5 else if k = 6 then c6 else if k = 7 then c7 else c8, fun k => if k = 0 then iS0 else if k = 1 then iS1 else if k = 2 then iS2 else if k = 3 then iS3 else if k = 4 then iS4 else if k = 5 then iS5 else if k = 6 then iS6 else if k = 7 then iS7 else iS8), ?_⟩
    intro k q hq
    match k, hq with
    | 0, hq => cases hq; exact hKn0
    | 1, hq => cases hq; exact hKn1
    | 2, hq => cases hq; exact hKn2
    | 3, hq => cases hq; exact hKn3
    | 4, hq => cases hq; exact hKn4
    | 5, hq => cases hq; exact hKn5
    | 6, hq => cases hq; exact hKn6
    | 7, hq => cases hq; exact hKn7
    | 8, hq => cases hq; exact hKn8
    | k + 9, hq => simp [vwCl] at hq
  have hK : va_K D vwCl [(cI, .int), (cJ, .long), (cZ, .boolean)] s := by
    refine ⟨hKc, fun k q h => ?_⟩
    match k, h with
    | 0, h => cases h; exact ⟨hcI, hfI⟩
    | 1, h => cases h; exact ⟨hcJ, hfJ⟩
    | 2, h => cases h; exact ⟨hcZ, hfZ⟩
    | k + 3, h => simp at h
  have hS : va_S A s.heap s.heap [] := va_S.rf
  have hP : va_P D vwCl [] s.heap := fun k q h => by simp at h
  have hD : va_D A [] := ⟨fun i j p q h => by simp at h, fun k q h => by simp at h⟩
  have hl := lv_entry ([.ref b]) (n := 4) (Nat.le_of_ble_eq_true rfl)
  rw [lg_entry_eq]
  generalize (lg_sl ([.ref b]) ++ List.replicate (4 - (lg_sl ([.ref b])).length) Slot.unset).toArray = ls at hl ⊢
  have hl : lv_has ls 4 [(0, .ref b)] := hl
  refine va_new (ci := 7) (fs := [.null, .null, .null, .null, .null, .null, .null, .null]) (C := RX7) (T := TX7) (N := 8) hx hb htsG inG_X7 tyX7 tyX7_ok hown (htsG _ qlc7) (htsG _ qins_X7) (htsG _ q68) hK hP hD hS hA rfl (fun j hj => by match j, hj with | 0, _ => rfl | 1, _ => rfl | 2, _ => rfl | 3, _ => rfl | 4, _ => rfl | 5, _ => rfl | 6, _ => rfl | 7, _ => rfl | j + 8, hj => exact absurd hj (by omega)) (Nat.le_of_ble_eq_true rfl) (Nat.le_of_ble_eq_true rfl) dL_law_0 (fun qx H hP hD hS => ?_)
  have hP : va_P D vwCl [(qx, .inr (7, [.null, .null, .null, .null, .null, .null, .null, .null]))] H := hP
  have hD : va_D A [(qx, .inr (7, [.null, .null, .null, .null, .null, .null, .null, .null]))] := hD
  refine lv_dup hx hb dL_law_3 rfl ?_
  have hFc := va_free (wc := [(qx, .inr (7, [.null, .null, .null, .null, .null, .null, .null, .null]))]) hD hS hA [0] rfl
  refine va_callv (va_runI (As := []) (rest := [.ref qx]) (Ts := wsG) ⟨hx, hb, hml, hown, htsG⟩ (k_X7_init l D cI cJ cZ yt qx H.size) (cwI 0 htsG (goodC q84) rfl rfl rfl (htsG _ q68) (htsG _ q82) (htsG _ q83) rfl (by decide) ⟨by decide, by decide⟩) ⟨k_blind, fun U hU hW => ⟨rfl, by rw [hU], by rw [hU]; exact hP, va_K.moved hW.alike hK, hD.weaken (fun _ _ _ _ => trivial), hN.warm hW⟩⟩ rfl rfl hl.1 rfl (lv_room (Nat.le_of_ble_eq_true rfl)) dL_law_4 ⟨(Nat.le_of_ble_eq_true rfl), (Nat.le_of_ble_eq_true rfl)⟩) hS (fun q _ h => hFc q h) hFc (fun uX t H1 locs ht hvm hw hB hz1 hk1 hS => ?_)
  obtain ⟨hP1, hD1, eX⟩ := hB
  rw [ht] at hP1
  obtain ⟨hP, hD⟩ := va_join (wr := []) (w1 := wsX (D, uX, cI, cJ, cZ, yt) σX0) hP hD [0] [] rfl rfl (by decide) (by decide) hk1 hFc hP1 hD1
  clear hFc hP1 hD1 hz1 hk1
  generalize H1 = H at hP hS ⊢
  have hP : va_P D vwCl (wsX (D, uX, cI, cJ, cZ, yt) σX0) H := hP
  have hD : va_D A (wsX (D, uX, cI, cJ, cZ, yt) σX0) := hD
  refine W.widen (k := 36) (n := 893) (Nat.le_of_ble_eq_true rfl) (Nat.le_of_ble_eq_true rfl) ?_
  refine lv_astore_n (lv' := [(1, .ref qx), (0, .ref b)]) hx hb dL_law_7 rfl hl (by decide) rfl (fun ls hl => ?_)
  refine va_new (ci := 8) (fs := [.null, .int 0, .int 0, .int 0, .null, .null, .null, .null, .int 0, .null, .null, .null, .int 0, .null, .null, .null, .null, .int 0, .null, .null, .null, .null, .int 0, .int 0, .int 0, .int 0, .int 0, .null, .int 0, .null, .null, .null, .null, .null, .int 0]) (C := RX8) (T := TX8) (N := 35) hx hb htsG inG_X8 tyX8 tyX8_ok hown (htsG _ qlc8) (htsG _ qins_X8) (htsG _ q76) hK hP hD hS hA rfl (fun j hj => by match j, hj with | 0, _ => rfl | 1, _ => rfl | 2, _ => rfl | 3, _ => rfl | 4, _ => rfl | 5, _ => rfl | 6, _ => rfl | 7, _ => rfl | 8, _ => rfl | 9, _ => rfl | 10, _ => rfl | 11, _ => rfl | 12, _ => rfl | 13, _ => rfl | 14, _ => rfl | 15, _ => rfl | 16, _ => rfl | 17, _ => rfl | 18, _ => rfl | 19, _ => rfl | 20, _ => rfl | 21, _ => rfl | 22, _ => rfl | 23, _ => rfl | 24, _ => rfl | 25, _ => rfl | 26, _ => rfl | 27, _ => rfl | 28, _ => rfl | 29, _ => rfl | 30, _ => rfl | 31, _ => rfl | 32, _ => rfl | 33, _ => rfl | 34, _ => rfl | j + 35, hj => exact absurd hj (by omega)) (Nat.le_of_ble_eq_true rfl) (Nat.le_of_ble_eq_true rfl) dL_law_8 (fun qm H hP hD hS => ?_)
  refine lv_dup hx hb dL_law_11 rfl ?_
  have hPc := hP.sub (ws' := [(qm, .inr (8, [.null, .int 0, .int 0, .int 0, .null, .null, .null, .null, .int 0, .null, .null, .null, .int 0, .null, .null, .null, .null, .int 0, .null, .null, .null, .null, .int 0, .int 0, .int 0, .int 0, .int 0, .null, .int 0, .null, .null, .null, .null, .null, .int 0]))]) [36] rfl
  have hDc := hD.sub (ws' := [(qm, .inr (8, [.null, .int 0, .int 0, .int 0, .null, .null, .null, .null, .int 0, .null, .null, .null, .int 0, .null, .null, .null, .null, .int 0, .null, .null, .null, .null, .int 0, .int 0, .int 0, .int 0, .int 0, .null, .int 0, .null, .null, .null, .null, .null, .int 0]))]) [36] (by decide) rfl
  have hFc := va_free (wc := [(qm, .inr (8, [.null, .int 0, .int 0, .int 0, .null, .null, .null, .null, .int 0, .null, .null, .null, .int 0, .null, .null, .null, .null, .int 0, .null, .null, .null, .null, .int 0, .int 0, .int 0, .int 0, .int 0, .null, .int 0, .null, .null, .null, .null, .null, .int 0]))]) hD hS hA [36] rfl
  refine va_callv (va_runI (As := []) (rest := [.ref qm]) (Ts := wsG) ⟨hx, hb, hml, hown, htsG⟩ (k_X8_init l D cI cJ cZ yt qm H.size) (cwI 0 htsG (goodC q782) rfl rfl rfl (htsG _ q76) (htsG _ q780) (htsG _ q781) rfl (by decide) ⟨by decide, by decide⟩) ⟨k_blind, fun U hU hW => ⟨rfl, by rw [hU], by rw [hU]; exact hPc, va_K.moved hW.alike hK, hDc.weaken (fun _ _ _ _ => trivial), hN.warm hW⟩⟩ rfl rfl hl.1 rfl (lv_room (Nat.le_of_ble_eq_true rfl)) dL_law_12 ⟨(Nat.le_of_ble_eq_true rfl), (Nat.le_of_ble_eq_true rfl)⟩) hS (fun q _ h => hFc q h) hFc (fun uM t H1 locs ht hvm hw hB hz1 hk1 hS => ?_)
  obtain ⟨hP1, hD1, eM⟩ := hB
  rw [ht] at hP1
  obtain ⟨hP, hD⟩ := va_join (wr := wsX (D, uX, cI, cJ, cZ, yt) σX0) (w1 := wsM (D, uM, cI, cJ, cZ, yt) σM0) hP hD [36] [0, 1, 2, 3, 4, 5, 6, 7, 8, 9, 10, 11, 12, 13, 14, 15, 16, 17, 18, 19, 20, 21, 22, 23, 24, 25, 26, 27, 28, 29, 30, 31, 32, 33, 34, 35] rfl rfl (by decide) (by decide) hk1 hFc hP1 hD1
  clear hFc hP1 hD1 hz1 hk1 hPc hDc
  generalize H1 = H at hP hS ⊢
  refine W.widen (k := 59) (n := 5610) (Nat.le_of_ble_eq_true rfl) (Nat.le_of_ble_eq_true rfl) ?_
  refine lv_astore_n (lv' := [(2, .ref qm), (1, .ref qx), (0, .ref b)]) hx hb dL_law_15 rfl hl (by decide) rfl (fun ls hl => ?_)
  refine lv_iconst (v := 0) hx hb dL_law_16 (by decide) ?_
  refine lv_istore_n (lv' := [(3, .int 0), (2, .ref qm), (1, .ref qx), (0, .ref b)]) hx hb dL_law_17 rfl hl (by decide) rfl (fun ls hl => ?_)
  obtain ⟨gX, egX⟩ : ∃ g : Gx, g = (D, uX, cI, cJ, cZ, yt) := ⟨_, rfl⟩
  obtain ⟨gM, egM⟩ : ∃ g : Gx, g = (D, uM, cI, cJ, cZ, yt) := ⟨_, rfl⟩
  have hPX : va_P gX.1 vwCl (wsX gX σX0) H := by rw [egX]; exact hP.sub [0, 1, 2, 3, 4, 5, 6, 7, 8, 9, 10, 11, 12, 13, 14, 15, 16, 17, 18, 19, 20, 21, 22, 23, 24, 25, 26, 27, 28, 29, 30, 31, 32, 33, 34, 35] rfl
  have hPM : va_P gX.1 vwCl (wsM gM σM0) H := by rw [egX, egM]; exact hP.sub [36, 37, 38, 39, 40, 41, 42, 43, 44, 45, 46, 47, 48, 49, 50, 51, 52, 53, 54, 55, 56, 57, 58] rfl
  rw [← egX, ← egM] at hD
  have hl2 : lv_has ls 4 [(0, .ref b), (1, .ref (gX.2.1 0)), (2, .ref (gM.2.1 0)), (3, .int 0)] := by
    rw [egX, egM]
    show lv_has ls 4 [(0, .ref b), (1, .ref (uX 0)), (2, .ref (uM 0)), (3, .int 0)]
    rw [eX, eM]
    exact lv_sub hl [3, 2, 1, 0] rfl
  have ok : Okl (p, l, e, room_1, s, m, #[Value.ref b], below, meth, c, lw_Z below #[Value.ref b] s, A) gX gM b L xs := by
    refine ⟨⟨hx, hb, hml, hown, htsG, by rw [egX]; exact hK, hA, hlocks⟩, (split_of hD).1, (split_of hD).2, apart_of hD, by rw [egX, egM], by rw [egX, egM], ?_, rfl, hX, hbl, hnA b hbl⟩
    rw [egX]
    exact ⟨hN, hZ, hT⟩
  refine law_loop ok hL hs ?_ (L + 1) 0 0 σX0 σM0 (Nat.zero_le L) (by omega) nI_0.symm h00 H locs ls hl2 hPX hPM hS
  intro x3 a1 b1 H locs Ls h hP hM hS
  refine lv_iconst (v := 1) hx hb dL_law_686 (by decide) ?_
  refine va_forget (fun q hq => by have := hS.2.2 q hq; rw [show bA (p, l, e, room_1, s, m, #[Value.ref b], below, meth, c, lw_Z below #[Value.ref b] s, A) = A from rfl, eA] at this; exact this) ?_
  exact lw_ret hx hb hr hlocks dL_law_687
