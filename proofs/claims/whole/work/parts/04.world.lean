/-! worlds whose cells are fixed: contracts that carry a state of numbers -/
abbrev Gx : Type := va_G × (Nat → Nat) × ClassId × ClassId × ClassId × Nat
abbrev SS : Type := (Nat → Int32) × (Nat → Nat → Int32) × (Nat → Nat → Int64)
def gI (σ : SS) (k : Nat) : Int32 := σ.1 k
def gA (σ : SS) (k : Nat) : Nat → Int32 := σ.2.1 k
def gL (σ : SS) (k : Nat) : Nat → Int64 := σ.2.2 k
def sI (σ : SS) (k : Nat) (v : Int32) : SS := (fun j => if j = k then v else σ.1 j, σ.2)
def sA (σ : SS) (k : Nat) (f : Nat → Int32) : SS := (σ.1, fun j => if j = k then f else σ.2.1 j, σ.2.2)
def sL (σ : SS) (k : Nat) (f : Nat → Int64) : SS := (σ.1, σ.2.1, fun j => if j = k then f else σ.2.2 j)
abbrev tysG (g : Gx) : List (ClassId × FieldType) := [(g.2.2.1, .int), (g.2.2.2.1, .long), (g.2.2.2.2.1, .boolean)]
abbrev Wf : Type := Gx → SS → va_W
def wA (w : Wf) (g : Gx) (sz : Nat) : Nat → Prop := fun q => (∃ (σ : SS) (k : Nat) (e : va_E), (w g σ)[k]? = some (q, e)) ∨ sz ≤ q
/-- the addresses hang on no number -/
def wFix (w : Wf) : Prop := ∀ (g : Gx) (σ σ' : SS), (w g σ).map Prod.fst = (w g σ').map Prod.fst
theorem map_fst_at {a b : va_W} (h : a.map Prod.fst = b.map Prod.fst) {k q : Nat} {e : va_E} (hk : a[k]? = some (q, e)) : ∃ e', b[k]? = some (q, e') := by
  have h1 : (a.map Prod.fst)[k]? = some q := by rw [List.getElem?_map, hk]; rfl
  rw [h, List.getElem?_map] at h1
  cases hb : b[k]? with
  | none => rw [hb] at h1; cases h1
  | some x =>
    rw [hb] at h1
    obtain ⟨x1, x2⟩ := x
    have e1 : x1 = q := Option.some.inj h1
    subst e1
    exact ⟨x2, rfl⟩
theorem va_D.fix {A : Nat → Prop} {a b : va_W} (h : a.map Prod.fst = b.map Prod.fst) (hD : va_D A a) : va_D A b := by
  refine ⟨fun i j p q hi hj hpq => ?_, fun k q hk => ?_⟩
  · obtain ⟨p1, p2⟩ := p
    obtain ⟨q1, q2⟩ := q
    obtain ⟨e1, h1⟩ := map_fst_at h.symm hi
    obtain ⟨e2, h2⟩ := map_fst_at h.symm hj
    exact hD.1 i j _ _ h1 h2 hpq
  · obtain ⟨q1, q2⟩ := q
    obtain ⟨e1, h1⟩ := map_fst_at h.symm hk
    exact hD.2 k (q1, e1) h1
/-- the words of private members of nest mates -/
def isNest (w : Cond) : Bool := match w with | .methodLinkNest _ _ _ _ => true | .fieldLinkNest _ _ _ _ _ _ => true | _ => false
def nestW : List Cond := lw_tbl.filter isNest
def NwG (U : State) : Prop := ∀ w ∈ nestW, va_Nw w U
theorem nest_in {w : Cond} (i : Nat) (h : lw_tbl[i]? = some w) (hg : isNest w = true) : w ∈ nestW := List.mem_filter.mpr ⟨List.mem_of_getElem? h, hg⟩
theorem NwG.warm {s U : State} (hW : s.WarmedH U.vm) (h : NwG s) : NwG U := by
  intro w hw
  have h1 := h w hw
  have h2 := (List.mem_filter.mp hw).2
  cases w with
  | methodLinkNest a i x b => exact va_Nw.warmM hW h1
  | fieldLinkNest a i b n d c => exact va_Nw.warmF hW h1
  | _ => cases h2
theorem NwG.same {s U : State} (hW : s.vm = U.vm) (h : NwG s) : NwG U := by
  intro w hw
  have h1 := h w hw
  have h2 := (List.mem_filter.mp hw).2
  cases w with
  | methodLinkNest a i x b => exact va_Nw.same rfl hW h1
  | fieldLinkNest a i b n d c => exact va_Nw.same rfl hW h1
  | _ => cases h2
def yesT (j : Nat) : Int64 := match j with
  | 0 => -6148914691236517206 | 1 => -3689348814741910324 | 2 => -1085102592571150096 | 3 => -71777214294589696 | 4 => -281470681808896 | _ => -4294967296
/-- what stands beside a world: the nest's words, the static table -/
def Exg (g : Gx) (A : Nat → Prop) (U : State) (H : Heap) : Prop := NwG U ∧ va_Z "ContractDesk" "YES_TO" "[J" (.ref g.2.2.2.2.2) A U H ∧ va_T .long g.2.2.2.2.2 6 (fun j => .long (yesT j)) A U H
theorem Exg.same {g : Gx} {A : Nat → Prop} {u U : State} {H : Heap} (h : u.vm = U.vm) (hE : Exg g A u H) : Exg g A U H :=
  have ha : u.vm.Alike U.vm := by rw [h]; exact Vm.Alike.refl _
  ⟨hE.1.same h, hE.2.1.moved ha, hE.2.2.moved ha⟩
theorem Exg.warm {g : Gx} {A : Nat → Prop} {s U : State} {H : Heap} (h : s.WarmedH U.vm) (hE : Exg g A s H) : Exg g A U H := ⟨hE.1.warm h, hE.2.1.moved h.alike, hE.2.2.moved h.alike⟩
theorem Exg.kept {g : Gx} {A : Nat → Prop} {U : State} {H H1 : Heap} (hE : Exg g A U H) (hq : ∀ a : Nat, a < H.size → ¬ A a → H1[a]? = H[a]?) : Exg g A U H1 := ⟨hE.1, hE.2.1.kept hq, hE.2.2.kept hq⟩
theorem Exg.narrow {g : Gx} {A B : Nat → Prop} {U : State} {H : Heap} (hE : Exg g A U H) (hAB : ∀ q, B q → A q) : Exg g B U H := ⟨hE.1, hE.2.1.narrow hAB, hE.2.2.narrow hAB⟩
def InW (w : Wf) (g : Gx) (σ : SS) (sz : Nat) (U : State) : Prop :=
  U.heap.size = sz ∧ va_P g.1 vwCl (w g σ) U.heap ∧ va_K g.1 vwCl (tysG g) U ∧ va_D (fun _ => True) (w g σ) ∧ Exg g (wA w g sz) U U.heap
/-- the end of a method: its answer, the world, what isn't its own stays -/
def xQ (w : Wf) (g : Gx) (r : Option Value) (σ : SS) (A : Nat → Prop) : Array Value → State → Outcome → State → Prop := fun _ st oc t => oc = .returned r ∧ va_P g.1 vwCl (w g σ) t.heap ∧ va_F A st t
def Mcw (w : Wf) (y : MethodName) (cc : ByteArray) (nL : Nat) (ret : Option FieldType) (rm : Room) (av : Gx → List Value) (σ : SS) (r : Gx → Option Value) (σ' : SS) : Prop :=
  ∀ (l : Launch) (g : Gx) (sz : Nat), Met l y (Cond.code y cc nL ret :: wsG) rm (va_Pc (av g) (InW w g σ sz)) (xQ w g (r g) σ' (wA w g sz)) 0 0 (wA w g sz)
/-- what a walk in a world stands on -/
def Okw (w : Wf) (X : Bx) (g : Gx) (cc : ByteArray) (nL : Nat) (own : String) (ret : Option FieldType) (rm : Room) (r : Gx → Option Value) (σ' : SS) : Prop :=
  Okx X g.1 cc nL own (tysG g) ∧ (∀ σ, va_D (bA X) (w g σ)) ∧ bA X = wA w g (bS X).heap.size ∧ Exg g (bA X) (bS X) (bS X).heap ∧ (bMe X).sig.returnType = ret ∧ X.2.2.2.1 = rm ∧ bQ X = MQ X.2.2.2.2.2.2.2.1 (xQ w g (r g) σ' (bA X)) (bAr X) (bS X) 0 0 (bA X)
theorem InW.blind {w : Wf} {g : Gx} {σ : SS} {sz : Nat} {av : List Value} : FrameBlind (va_Pc av (InW w g σ sz)) := by
  intro a U fr mk h
  obtain ⟨h0, h1, h2, h3, h4, h5⟩ := h
  exact ⟨h0, h1, h2, va_K.moved (u := U) (U := U.calling fr mk a) (Vm.Alike.refl U.vm) h3, h4, h5.same (u := U) (U := U.calling fr mk a) rfl⟩
theorem w_enter {w : Wf} {y : MethodName} {cc : ByteArray} {nL : Nat} {ret : Option FieldType} {rm : Room} {av : Gx → List Value} {σ σ' : SS} {r : Gx → Option Value} (hfix : wFix w) (hy : plainName y.cls = true) (hlen : ∀ g, (lg_sl (av g)).length ≤ nL)
    (body : ∀ (X : Bx) (g : Gx), Okw w X g cc nL y.cls ret rm r σ' → Vx X g.1 nL (w g σ) 0 (lv_args 0 (av g)) []) : Mcw w y cc nL ret rm av σ r σ' := by
  intro l g sz
  refine Met.ofW (cc := cc) (maxL := nL) (ret := ret) hy rfl ?_
  intro p e s m args below meth c s₁ B hml hv
  obtain ⟨rfl, hsz, hP, hK, hD, hE⟩ := hv
  subst hsz
  have hts := atoms_spec (ws := Cond.code y cc nL ret :: wsG) B.pre
  have hAw : ∀ σ1, va_D (wA w g s.heap.size) (w g σ1) := fun σ1 => (hD.fix (hfix g σ σ1)).weaken (fun k q hk _ => Or.inl ⟨σ1, k, q.2, hk⟩)
  have ok : Okw w (p, l, e, rm, s, m, (av g).toArray, below, meth, c, MQ below (xQ w g (r g) σ' (wA w g s.heap.size)) (av g).toArray s 0 0 (wA w g s.heap.size), wA w g s.heap.size) g cc nL y.cls ret rm r σ' :=
    ⟨⟨B.exec, B.bytes, hml, findClass_of_methodNamed B.named, fun w hw => hts w (List.mem_cons_of_mem _ hw), hK, fun q h => Or.inr h, B.notSynchronized⟩, hAw, rfl, hE, B.returns, rfl, rfl⟩
  have hb := body _ g ok s.heap [] _ (lv_entry (av g) (n := nL) (hlen g)) hP va_S.rf
  rw [lg_entry_eq]
  exact hb
section WX
variable {w : Wf} {X : Bx} {g : Gx} {cc : ByteArray} {nL : Nat} {own : String} {rm : Room} {ret : Option FieldType} {r : Gx → Option Value} {σ σ' : SS} {pc : Nat} {ls : List (Nat × Value)} {st : List Value}
theorem w_iret {v : Int32} (hX : Okw w X g cc nL own (some .int) rm r σ') (hr : r g = some (.int v)) (hd : decode cc pc = .ok (.ireturn, 1)) : Vx X g.1 nL (w g σ') pc ls [.int v] := by
  obtain ⟨hx, hD, hA, hE, hrt, hrm, hq⟩ := hX
  intro H locs Ls h hP hS
  rw [hq]
  exact W.iret hx.1 hx.2.1 hrt (fun t ht hW => ⟨by rw [hr], by rw [ht]; exact hP, hS.F ht⟩) hS.2.2 hd hx.2.2.2.2.2.2.2
def isb (v : Int32) : Bool := decide (vp_nar .boolean v = v)
theorem isb_nar {v : Int32} (h : isb v = true) : narrow .boolean (.int v) = .int v := by
  have h1 : vp_nar .boolean v = v := of_decide_eq_true h
  unfold vp_nar at h1
  cases hn : narrow .boolean (.int v) with
  | int y => rw [hn] at h1; exact congrArg Value.int h1
  | _ => simp [narrow] at hn
theorem w_zret {v : Int32} (hX : Okw w X g cc nL own (some .boolean) rm r σ') (hr : r g = some (.int v)) (hv : isb v = true) (hd : decode cc pc = .ok (.ireturn, 1)) : Vx X g.1 nL (w g σ') pc ls [.int v] := by
  obtain ⟨hx, hD, hA, hE, hrt, hrm, hq⟩ := hX
  intro H locs Ls h hP hS
  rw [hq]
  exact W.zret hx.1 hx.2.1 hrt (isb_nar hv) (fun t ht hW => ⟨by rw [hr], by rw [ht]; exact hP, hS.F ht⟩) hS.2.2 hd hx.2.2.2.2.2.2.2
theorem w_lret {v : Int64} (hX : Okw w X g cc nL own (some .long) rm r σ') (hr : r g = some (.long v)) (hd : decode cc pc = .ok (.lreturn, 1)) : Vx X g.1 nL (w g σ') pc ls [.long v] := by
  obtain ⟨hx, hD, hA, hE, hrt, hrm, hq⟩ := hX
  intro H locs Ls h hP hS
  rw [hq]
  exact W.lret hx.1 hx.2.1 hrt (fun t ht hW => ⟨by rw [hr], by rw [ht]; exact hP, hS.F ht⟩) hS.2.2 hd hx.2.2.2.2.2.2.2
theorem w_vret (hX : Okw w X g cc nL own none rm r σ') (hr : r g = none) (hd : decode cc pc = .ok (.return_, 1)) : Vx X g.1 nL (w g σ') pc ls [] := by
  obtain ⟨hx, hD, hA, hE, hrt, hrm, hq⟩ := hX
  intro H locs Ls h hP hS
  rw [hq]
  exact W.vret hx.1 hx.2.1 hrt (fun t ht hW => ⟨by rw [hr], by rw [ht]; exact hP, hS.F ht⟩) hS.2.2 hd hx.2.2.2.2.2.2.2
theorem w_aret {a : Nat} {C : String} (hX : Okw w X g cc nL own (some (.object C)) rm r σ') (hr : r g = some (.ref a)) (hd : decode cc pc = .ok (.areturn, 1)) : Vx X g.1 nL (w g σ') pc ls [.ref a] := by
  obtain ⟨hx, hD, hA, hE, hrt, hrm, hq⟩ := hX
  intro H locs Ls h hP hS
  rw [hq]
  exact W.aret hx.1 hx.2.1 hrt (Or.inl ⟨C, rfl⟩) (Or.inr ⟨a, rfl⟩) (fun t ht hW => ⟨by rw [hr], by rw [ht]; exact hP, hS.F ht⟩) hS.2.2 hd hx.2.2.2.2.2.2.2
theorem w_gets (hX : Okw w X g cc nL own ret rm r σ') {i : Nat} {ws : va_W} (hw : Cond.fieldLink own i "ContractDesk" "YES_TO" "[J" ∈ wsG) (hd : decode cc pc = .ok (.getstatic i, 3)) (k : Vx X g.1 nL ws (pc + 3) ls (.ref g.2.2.2.2.2 :: st)) : Vx X g.1 nL ws pc ls st :=
  fun H locs Ls h hP hS => va_gets hX.1.1 hX.1.2.1 hX.2.2.2.1.2.1 hS hX.1.2.2.2.1 (hX.1.2.2.2.2.1 _ hw) (fun _ h => h) hd (k H locs Ls h hP hS)
theorem w_getsN (hX : Okw w X g cc nL own ret rm r σ') {i : Nat} {ws : va_W} {host : String} (hw : Cond.fieldLinkNest own i "ContractDesk" "YES_TO" "[J" host ∈ nestW) (hd : decode cc pc = .ok (.getstatic i, 3)) (k : Vx X g.1 nL ws (pc + 3) ls (.ref g.2.2.2.2.2 :: st)) : Vx X g.1 nL ws pc ls st :=
  fun H locs Ls h hP hS => va_getsN hX.1.1 hX.1.2.1 hX.2.2.2.1.2.1 hS hX.1.2.2.2.1 (va_Nw.use rfl (hX.2.2.2.1.1 _ hw)) (fun _ h => h) hd (k H locs Ls h hP hS)
theorem w_tl (hX : Okw w X g cc nL own ret rm r σ') {i : Int32} {ws : va_W} (hin : inb i 6 = true) (hd : decode cc pc = .ok (.laload, 1)) (k : Vx X g.1 nL ws (pc + 1) ls (.long (yesT i.toNatClampNeg) :: st)) : Vx X g.1 nL ws pc ls (.int i :: .ref g.2.2.2.2.2 :: st) :=
  fun H locs Ls h hP hS => va_tl hX.1.1 hX.1.2.1 hX.2.2.2.1.2.2 hS (inb_in hin) rfl hd (k H locs Ls h hP hS)
/-- a callee's words and names -/
def CeB (y : MethodName) (bytes : ByteArray) (maxL : Nat) (rt : Option FieldType) (n : Nat) : Prop :=
  Cond.code y bytes maxL rt ∈ wsG ∧ Cond.initialized y.cls ∈ wsG ∧ (y.cls ≠ "java/lang/invoke/MethodHandle" ∧ y.cls ≠ "java/lang/invoke/VarHandle" ∧ (parseMethodDescriptor y.desc).map (fun d => d.parameters.length) = some n)
def CeV (y : MethodName) (bytes : ByteArray) (maxL : Nat) (rt : Option FieldType) (n : Nat) : Prop := CeB y bytes maxL rt n ∧ Cond.instanceMethod y ∈ wsG ∧ Cond.selects y.cls y y ∈ wsG
def CeS (y : MethodName) (bytes : ByteArray) (maxL : Nat) (rt : Option FieldType) (n : Nat) : Prop := CeB y bytes maxL rt n ∧ Cond.static y ∈ wsG
theorem w_goes (hX : Okw w X g cc nL own ret rm r σ') {H : Heap} {locs : List Loc} {Ls : Array Slot} {st0 : List Value} {rr : Option Value} {σ1 : SS} {A1 : Nat → Prop} {a : Array Value} (hA : ∀ q, A1 q → bA X q)
    (hr : va_Run X.1 X.2.1 X.2.2.1 X.2.2.2.1 (bS X) (bM X) (bAr X) X.2.2.2.2.2.2.2.1 (bMe X) (bC X) H locs 0 0 0 0 (F0 (bM X) pc Ls st0) st (xQ w g rr σ1 A1 a) A1)
    (hl : lv_has Ls nL ls) (hS : va_S (bA X) (bS X).heap H locs) (k : Vx X g.1 nL (w g σ1) (pc + 3) ls (rr.toList ++ st)) :
    W X.1 X.2.1 X.2.2.1 X.2.2.2.1 (bS X) (bM X) (bAr X) X.2.2.2.2.2.2.2.1 (bMe X) (bC X) H locs 0 0 (bQ X) (F0 (bM X) pc Ls st0) := by
  intro T hT Y
  obtain ⟨v, st₀, t, T', L, h0, Y', hL, e1, e2, ⟨hv, hP1, hz, hk⟩, go⟩ := hr T hT Y
  cases hv
  rw [h0] at hz hk
  have hS1 : va_S (bA X) (bS X).heap T'.heap (locs ++ L) := ⟨Nat.le_trans hS.1 (by rw [e1]; exact hz), fun q h1 h2 => by rw [e1, hk q (Nat.lt_of_lt_of_le h1 hS.1) (fun z => h2 (hA q z))]; exact hS.2.1 q h1 h2, fun q hq => by
      rcases List.mem_append.mp hq with h | h
      · exact hS.2.2 q h
      · exact hA _ (hL q h)⟩
  obtain ⟨t2, a1, b1⟩ := k T'.heap (locs ++ L) Ls hl (by rw [e1]; exact hP1) hS1 T' rfl Y'
  exact ⟨t2, go t2 a1, b1⟩
theorem w_in (hX : Okw w X g cc nL own ret rm r σ') {H : Heap} {locs : List Loc} (hP : va_P g.1 vwCl (w g σ) H) (hS : va_S (bA X) (bS X).heap H locs) : (∀ q, wA w g H.size q → bA X q) ∧ ∀ U : State, U.heap = H → (bS X).WarmedH U.vm → InW w g σ H.size U := by
  obtain ⟨hx, hD, hA, hE, hrt, hrm, hq⟩ := hX
  have hsub : ∀ q, wA w g H.size q → bA X q := by
    intro q h
    rw [hA]
    rcases h with h | h
    · exact Or.inl h
    · exact Or.inr (Nat.le_trans hS.1 h)
  refine ⟨hsub, fun U hU hW => ⟨by rw [hU], by rw [hU]; exact hP, va_K.moved hW.alike hx.2.2.2.2.2.1, (hD σ).weaken (fun _ _ _ _ => trivial), ?_⟩⟩
  rw [hU]
  exact ((hE.kept (fun a h1 h2 => hS.2.1 a h1 h2)).narrow hsub).warm hW
theorem w_callB (hX : Okw w X g cc nL own ret rm r σ') {y : MethodName} {bytes : ByteArray} {maxL n i : Nat} {rt : Option FieldType} {rm1 : Room} (hC : CeB y bytes maxL rt n) (hlk : Cond.methodLink own i y ∈ wsG) (h0 : rm1.cells = 0 ∧ rm1.slots = 0) (hR : rm1.frames + 1 ≤ rm.frames ∧ 8 + (maxL + 11) + rm1.locals ≤ rm.locals) :
    CallB X.2.2.2.1 (bS X) (bAr X) own i y bytes maxL rt (Cond.code y bytes maxL rt :: wsG) rm1 0 0 n := by
  obtain ⟨hx, hD, hA, hE, hrt, hrm, hq⟩ := hX
  rw [hrm]
  exact callB_of n hx.2.2.2.2.1 (goodC hC.1) rfl h0.1 h0.2 (hx.2.2.2.2.1 _ hC.2.1) (hx.2.2.2.2.1 _ hlk) hC.2.2 hR
theorem w_callV (hX : Okw w X g cc nL own ret rm r σ') {y : MethodName} {bytes : ByteArray} {maxL n i b ci q0 : Nat} {rt : Option FieldType} {rm1 : Room} {av : Gx → List Value} {rr : Gx → Option Value} {σ1 : SS} {As st0 fs : List Value} {q : vw_C} (hM : Mcw w y bytes maxL rt rm1 av σ rr σ1) (hC : CeV y bytes maxL rt n) (hlk : Cond.methodLink own i y ∈ wsG) (h0 : rm1.cells = 0 ∧ rm1.slots = 0) (hR : rm1.frames + 1 ≤ rm.frames ∧ 8 + (maxL + 11) + rm1.locals ≤ rm.locals)
    (hav : av g = .ref b :: As) (hn : As.length = n) (hcl : vwCl[ci]? = some q) (hq : q.1 = y.cls) (hb : (w g σ)[q0]? = some (b, .inr (ci, fs))) (hst : As.reverse ++ .ref b :: st = st0) (hW : (st.map fun v => v.category).sum ≤ 8) (hd : decode cc pc = .ok (.invokevirtual i, 3)) (k : Vx X g.1 nL (w g σ1) (pc + 3) ls ((rr g).toList ++ st)) : Vx X g.1 nL (w g σ) pc ls st0 := by
  intro H locs Ls h hP hS
  obtain ⟨hsub, hin⟩ := w_in hX hP hS
  subst hst
  have hx := hX.1
  refine w_goes hX hsub (va_runV (C := y.cls) (As := As) (rest := st) (b := b) (Ts := wsG) ⟨hx.1, hx.2.1, hx.2.2.1, hx.2.2.2.1, hx.2.2.2.2.1⟩ (hM X.2.1 g H.size) ⟨w_callB hX hC.1 hlk h0 hR, hx.2.2.2.2.1 _ hC.2.1, hx.2.2.2.2.1 _ hC.2.2⟩ ⟨InW.blind, ?_, fun U hU hW => ⟨by rw [hav], hin U hU hW⟩⟩ rfl hn h.1 rfl (lv_room hW) hd ⟨Nat.zero_le _, Nat.zero_le _⟩) h hS k
  rw [← hq]
  exact va_recv hx.2.2.2.2.2.1 hP hcl hb
theorem w_callS (hX : Okw w X g cc nL own ret rm r σ') {y : MethodName} {bytes : ByteArray} {maxL n i : Nat} {rt : Option FieldType} {rm1 : Room} {av : Gx → List Value} {rr : Gx → Option Value} {σ1 : SS} {As st0 : List Value} (hM : Mcw w y bytes maxL rt rm1 av σ rr σ1) (hC : CeS y bytes maxL rt n) (hlk : Cond.methodLink own i y ∈ wsG) (h0 : rm1.cells = 0 ∧ rm1.slots = 0) (hR : rm1.frames + 1 ≤ rm.frames ∧ 8 + (maxL + 11) + rm1.locals ≤ rm.locals)
    (hav : av g = As) (hn : As.length = n) (hst : As.reverse ++ st = st0) (hW : (st.map fun v => v.category).sum ≤ 8) (hd : decode cc pc = .ok (.invokestatic i, 3)) (k : Vx X g.1 nL (w g σ1) (pc + 3) ls ((rr g).toList ++ st)) : Vx X g.1 nL (w g σ) pc ls st0 := by
  intro H locs Ls h hP hS
  obtain ⟨hsub, hin⟩ := w_in hX hP hS
  subst hst
  have hx := hX.1
  exact w_goes hX hsub (va_runS (As := As) (rest := st) (Ts := wsG) ⟨hx.1, hx.2.1, hx.2.2.1, hx.2.2.2.1, hx.2.2.2.2.1⟩ (hM X.2.1 g H.size) ⟨w_callB hX hC.1 hlk h0 hR, hx.2.2.2.2.1 _ hC.2⟩ ⟨InW.blind, fun U hU hW => ⟨by rw [hav], hin U hU hW⟩⟩ rfl hn h.1 rfl (lv_room hW) hd ⟨Nat.zero_le _, Nat.zero_le _⟩) h hS k
theorem w_callSN (hX : Okw w X g cc nL own ret rm r σ') {y : MethodName} {bytes : ByteArray} {maxL n i : Nat} {host : String} {rt : Option FieldType} {rm1 : Room} {av : Gx → List Value} {rr : Gx → Option Value} {σ1 : SS} {As st0 : List Value} (hM : Mcw w y bytes maxL rt rm1 av σ rr σ1) (hC : CeS y bytes maxL rt n) (hlk : Cond.methodLinkNest own i y host ∈ nestW) (h0 : rm1.cells = 0 ∧ rm1.slots = 0) (hR : rm1.frames + 1 ≤ rm.frames ∧ 8 + (maxL + 11) + rm1.locals ≤ rm.locals)
    (hav : av g = As) (hn : As.length = n) (hst : As.reverse ++ st = st0) (hW : (st.map fun v => v.category).sum ≤ 8) (hd : decode cc pc = .ok (.invokestatic i, 3)) (k : Vx X g.1 nL (w g σ1) (pc + 3) ls ((rr g).toList ++ st)) : Vx X g.1 nL (w g σ) pc ls st0 := by
  intro H locs Ls h hP hS
  obtain ⟨hsub, hin⟩ := w_in hX hP hS
  subst hst
  have hx := hX.1
  have hcn : va_CN X.2.2.2.1 (bS X) (bAr X) own i y host bytes maxL rt (Cond.code y bytes maxL rt :: wsG) rm1 0 0 n := by
    rw [hX.2.2.2.2.2.1]
    exact va_cnB n hx.2.2.2.2.1 (goodC hC.1.1) rfl h0.1 h0.2 (hX.2.2.2.1.1 _ hlk) (hx.2.2.2.2.1 _ hC.1.2.1) hC.1.2.2 hR
  exact w_goes hX hsub (va_runSN (As := As) (rest := st) (Ts := wsG) ⟨hx.1, hx.2.1, hx.2.2.1, hx.2.2.2.1, hx.2.2.2.2.1⟩ (hM X.2.1 g H.size) ⟨hcn, hx.2.2.2.2.1 _ hC.2, trivial⟩ ⟨InW.blind, fun U hU hW => ⟨by rw [hav], hin U hU hW⟩⟩ rfl hn h.1 rfl (lv_room hW) hd ⟨Nat.zero_le _, Nat.zero_le _⟩) h hS k
end WX
/-! the walk's functions: guards, calls -/
def bd {α β : Type} (x : α) (f : α → β) : β := f x
theorem bd_h {α β : Type} {x : α} {f : α → β} {r : β} (h : bd x f = r) : f x = r := h
section WR
variable {w : Wf} {X : Bx} {g : Gx} {cc : ByteArray} {nL : Nat} {own : String} {rm : Room} {σ σ' : SS} {pc : Nat} {ls : List (Nat × Value)} {st : List Value}
theorem w_iretP {v r : Int32} (hX : Okw w X g cc nL own (some .int) rm (fun _ => some (.int r)) σ) (hf : some v = some r) (hd : decode cc pc = .ok (.ireturn, 1)) : Vx X g.1 nL (w g σ) pc ls [.int v] := by
  cases hf; exact w_iret hX rfl hd
theorem w_iretE {v r : Int32} (hX : Okw w X g cc nL own (some .int) rm (fun _ => some (.int r)) σ') (hf : some (v, σ) = some (r, σ')) (hd : decode cc pc = .ok (.ireturn, 1)) : Vx X g.1 nL (w g σ) pc ls [.int v] := by
  cases hf; exact w_iret hX rfl hd
theorem w_zretP {v r : Int32} (hX : Okw w X g cc nL own (some .boolean) rm (fun _ => some (.int r)) σ) (hf : some v = some r) (hb : isb v = true) (hd : decode cc pc = .ok (.ireturn, 1)) : Vx X g.1 nL (w g σ) pc ls [.int v] := by
  cases hf; exact w_zret hX rfl hb hd
theorem w_zretE {v r : Int32} (hX : Okw w X g cc nL own (some .boolean) rm (fun _ => some (.int r)) σ') (hf : some (v, σ) = some (r, σ')) (hb : isb v = true) (hd : decode cc pc = .ok (.ireturn, 1)) : Vx X g.1 nL (w g σ) pc ls [.int v] := by
  cases hf; exact w_zret hX rfl hb hd
theorem w_lretP {v r : Int64} (hX : Okw w X g cc nL own (some .long) rm (fun _ => some (.long r)) σ) (hf : some v = some r) (hd : decode cc pc = .ok (.lreturn, 1)) : Vx X g.1 nL (w g σ) pc ls [.long v] := by
  cases hf; exact w_lret hX rfl hd
theorem w_vretE (hX : Okw w X g cc nL own none rm (fun _ => none) σ') (hf : some σ = some σ') (hd : decode cc pc = .ok (.return_, 1)) : Vx X g.1 nL (w g σ) pc ls [] := by
  cases hf; exact w_vret hX rfl hd
theorem w_aretE {C : String} {k : Nat} (hX : Okw w X g cc nL own (some (.object C)) rm (fun g => some (.ref (g.2.1 k))) σ') (hf : some σ = some σ') (hd : decode cc pc = .ok (.areturn, 1)) : Vx X g.1 nL (w g σ) pc ls [.ref (g.2.1 k)] := by
  cases hf; exact w_aret hX rfl hd
theorem vx_tabK {D : va_G} {tys : List (ClassId × FieldType)} {ws : va_W} (hX : Okx X D cc nL own tys) {dflt lo hi : Int} {offs : Array Int} {len : Nat} {x : Int32} {off : Int} {tgt : Nat} (kv : Int32) (hk : x = kv) (hd : decode cc pc = .ok (.tableswitch dflt lo hi offs, len)) (h1 : ¬ kv.toInt < lo) (h2 : ¬ hi < kv.toInt) (ho : offs[(kv.toInt - lo).toNat]? = some off) (ht : (pc : Int) + off = (tgt : Int)) (k : Vx X D nL ws tgt ls st) : Vx X D nL ws pc ls (.int x :: st) := by
  subst hk; exact vx_tabIn hX hd h1 h2 ho ht k
end WR
def gd {α : Type} (b : Bool) (x : Option α) : Option α := match b with
  | true => x
  | false => none
theorem gd_some {α : Type} {b : Bool} {x : Option α} {r : α} (h : gd b x = some r) : b = true ∧ x = some r := by
  cases b with
  | true => exact ⟨rfl, h⟩
  | false => cases h
def ob {α β : Type} (x : Option α) (f : α → Option β) : Option β := match x with
  | some a => f a
  | none => none
theorem ob_some {α β : Type} {x : Option α} {f : α → Option β} {r : β} (h : ob x f = some r) : ∃ a, x = some a ∧ f a = some r := by
  cases x with
  | some a => exact ⟨a, rfl, h⟩
  | none => cases h
