/-! the words that all contracts are proved over; the bundle of a method's walk; one row an instruction -/
def wsG : List Cond := lw_tbl.filter goodWord
theorem inG {w : Cond} (i : Nat) (h : lw_tbl[i]? = some w) (hg : goodWord w = true) : w ∈ wsG := List.mem_filter.mpr ⟨List.mem_of_getElem? h, hg⟩
theorem inGs (ws : List Cond) (ps : List Nat) (hp : ws = ps.filterMap (fun i => lw_tbl[i]?)) (hg : ws.all goodWord = true) : ∀ w ∈ ws, w ∈ wsG := by
  intro w hw
  refine List.mem_filter.mpr ⟨?_, List.all_eq_true.mp hg w hw⟩
  rw [hp] at hw
  obtain ⟨i, -, hi⟩ := List.mem_filterMap.mp hw
  exact List.mem_of_getElem? hi
theorem goodC {y : MethodName} {c : ByteArray} {n : Nat} {r : Option FieldType} (h : Cond.code y c n r ∈ wsG) : GoodIn wsG (Cond.code y c n r :: wsG) := by
  intro w hw
  have hm : w ∈ wsG := by
    rcases List.mem_cons.mp hw with e | e
    · rw [e]; exact h
    · exact e
  exact ⟨hm, good_of_word (List.mem_filter.mp hm).2⟩
abbrev Bx : Type := Program × Launch × Env × Room × State × MethodId × Array Value × List Frame × Method × Code × (State → Prop) × (Nat → Prop)
abbrev bS (X : Bx) : State := X.2.2.2.2.1
abbrev bM (X : Bx) : MethodId := X.2.2.2.2.2.1
abbrev bAr (X : Bx) : Array Value := X.2.2.2.2.2.2.1
abbrev bMe (X : Bx) : Method := X.2.2.2.2.2.2.2.2.1
abbrev bC (X : Bx) : Code := X.2.2.2.2.2.2.2.2.2.1
abbrev bQ (X : Bx) : State → Prop := X.2.2.2.2.2.2.2.2.2.2.1
abbrev bA (X : Bx) : Nat → Prop := X.2.2.2.2.2.2.2.2.2.2.2
def Vx (X : Bx) (D : va_G) (nL : Nat) (ws : va_W) (pc : Nat) (ls : List (Nat × Value)) (st : List Value) : Prop :=
  ∀ (H : Heap) (locs : List Loc) (Ls : Array Slot), lv_has Ls nL ls → va_P D vwCl ws H → va_S (bA X) (bS X).heap H locs →
    W X.1 X.2.1 X.2.2.1 X.2.2.2.1 (bS X) (bM X) (bAr X) X.2.2.2.2.2.2.2.1 (bMe X) (bC X) H locs 0 0 (bQ X) (F0 (bM X) pc Ls st)
/-- what a walk stands on: the machine, the code, the words -/
def Okx (X : Bx) (D : va_G) (cc : ByteArray) (nL : Nat) (own : String) (tys : List (ClassId × FieldType)) : Prop :=
  X.1.tables.exec = Jvm.exec ∧ (bC X).code = cc ∧ (bC X).maxLocals = nL ∧ (bS X).vm.findClass own = some (bM X).cls ∧ (∀ w ∈ wsG, w.before (bAr X) (bS X) = true) ∧ va_K D vwCl tys (bS X) ∧ (∀ q, (bS X).heap.size ≤ q → (bA X) q) ∧ (bMe X).locks = false
section VX
variable {X : Bx} {D : va_G} {cc : ByteArray} {nL : Nat} {own : String} {tys : List (ClassId × FieldType)} {ws : va_W} {pc : Nat} {ls : List (Nat × Value)} {st : List Value}
theorem mem_of_lookup {l : List (Nat × Value)} {i : Nat} {v : Value} (h : l.lookup i = some v) : (i, v) ∈ l := by
  induction l with
  | nil => cases h
  | cons a l ih =>
    obtain ⟨j, w⟩ := a
    rw [List.lookup_cons] at h
    by_cases hj : (i == j) = true
    · rw [hj] at h
      have e : i = j := by simpa using hj
      cases h
      rw [e]
      exact List.mem_cons_self
    · have hj : (i == j) = false := by simpa using hj
      rw [hj] at h
      exact List.mem_cons_of_mem _ (ih h)
theorem vx_sub {ls' : List (Nat × Value)} (ks : List Nat) (hl : lv_pick ls ks = ls') (k : Vx X D nL ws pc ls' st) : Vx X D nL ws pc ls st :=
  fun H locs Ls h hP hS => k H locs Ls (lv_sub h ks hl) hP hS
theorem vx_iconst (hX : Okx X D cc nL own tys) {n : Int} {v : Int32} (hd : decode cc pc = .ok (.iconst n, 1)) (hv : Int32.ofInt n = v) (k : Vx X D nL ws (pc + 1) ls (.int v :: st)) : Vx X D nL ws pc ls st :=
  fun H locs Ls h hP hS => lv_iconst hX.1 hX.2.1 hd hv (k H locs Ls h hP hS)
theorem vx_bipush (hX : Okx X D cc nL own tys) {n : Int} {v : Int32} (hd : decode cc pc = .ok (.bipush n, 2)) (hv : (Int8.ofInt n).toInt32 = v) (k : Vx X D nL ws (pc + 2) ls (.int v :: st)) : Vx X D nL ws pc ls st :=
  fun H locs Ls h hP hS => lv_bipush hX.1 hX.2.1 hd hv (k H locs Ls h hP hS)
theorem vx_sipush (hX : Okx X D cc nL own tys) {n : Int} {v : Int32} (hd : decode cc pc = .ok (.sipush n, 3)) (hv : (Int16.ofInt n).toInt32 = v) (k : Vx X D nL ws (pc + 3) ls (.int v :: st)) : Vx X D nL ws pc ls st :=
  fun H locs Ls h hP hS => lv_sipush hX.1 hX.2.1 hd hv (k H locs Ls h hP hS)
theorem vx_lconst (hX : Okx X D cc nL own tys) {n : Fin 2} {v : Int64} (hd : decode cc pc = .ok (.lconst n, 1)) (hv : Int64.ofNat (n : Nat) = v) (k : Vx X D nL ws (pc + 1) ls (.long v :: st)) : Vx X D nL ws pc ls st :=
  fun H locs Ls h hP hS => lv_lconst hX.1 hX.2.1 hd hv (k H locs Ls h hP hS)
theorem vx_ldc (hX : Okx X D cc nL own tys) {i : Nat} {v : Int32} (hw : Cond.constant own i v ∈ wsG) (hd : decode cc pc = .ok (.ldc i, 2)) (k : Vx X D nL ws (pc + 2) ls (.int v :: st)) : Vx X D nL ws pc ls st :=
  fun H locs Ls h hP hS => lv_ldc hX.1 hX.2.1 hX.2.2.2.1 (hX.2.2.2.2.1 _ hw) hd (k H locs Ls h hP hS)
theorem vx_ldcw (hX : Okx X D cc nL own tys) {i : Nat} {v : Int32} (hw : Cond.constant own i v ∈ wsG) (hd : decode cc pc = .ok (.ldc_w i, 3)) (k : Vx X D nL ws (pc + 3) ls (.int v :: st)) : Vx X D nL ws pc ls st :=
  fun H locs Ls h hP hS => lv_ldcw hX.1 hX.2.1 hX.2.2.2.1 (hX.2.2.2.2.1 _ hw) hd (k H locs Ls h hP hS)
theorem vx_ldc2 (hX : Okx X D cc nL own tys) {i : Nat} {v : Int64} (hw : Cond.constantLong own i v ∈ wsG) (hd : decode cc pc = .ok (.ldc2_w i, 3)) (k : Vx X D nL ws (pc + 3) ls (.long v :: st)) : Vx X D nL ws pc ls st :=
  fun H locs Ls h hP hS => lv_ldc2 hX.1 hX.2.1 hX.2.2.2.1 (hX.2.2.2.2.1 _ hw) hd (k H locs Ls h hP hS)
theorem vx_iload_n (hX : Okx X D cc nL own tys) {j : Fin 4} {x : Int32} (hd : decode cc pc = .ok (.iload_n j, 1)) (hl : ls.lookup (j : Nat) = some (.int x)) (k : Vx X D nL ws (pc + 1) ls (.int x :: st)) : Vx X D nL ws pc ls st :=
  fun H locs Ls h hP hS => lv_iload_n hX.1 hX.2.1 hd rfl (h.2.2 _ (mem_of_lookup hl)) (k H locs Ls h hP hS)
theorem vx_iload (hX : Okx X D cc nL own tys) {j : Nat} {x : Int32} (hd : decode cc pc = .ok (.iload j, 2)) (hl : ls.lookup j = some (.int x)) (k : Vx X D nL ws (pc + 2) ls (.int x :: st)) : Vx X D nL ws pc ls st :=
  fun H locs Ls h hP hS => lv_iload hX.1 hX.2.1 hd (h.2.2 _ (mem_of_lookup hl)) (k H locs Ls h hP hS)
theorem vx_lload_n (hX : Okx X D cc nL own tys) {j : Fin 4} {x : Int64} (hd : decode cc pc = .ok (.lload_n j, 1)) (hl : ls.lookup (j : Nat) = some (.long x)) (k : Vx X D nL ws (pc + 1) ls (.long x :: st)) : Vx X D nL ws pc ls st :=
  fun H locs Ls h hP hS => lv_lload_n hX.1 hX.2.1 hd rfl (h.2.2 _ (mem_of_lookup hl)) (k H locs Ls h hP hS)
theorem vx_lload (hX : Okx X D cc nL own tys) {j : Nat} {x : Int64} (hd : decode cc pc = .ok (.lload j, 2)) (hl : ls.lookup j = some (.long x)) (k : Vx X D nL ws (pc + 2) ls (.long x :: st)) : Vx X D nL ws pc ls st :=
  fun H locs Ls h hP hS => lv_lload hX.1 hX.2.1 hd (h.2.2 _ (mem_of_lookup hl)) (k H locs Ls h hP hS)
theorem vx_aload_n (hX : Okx X D cc nL own tys) {j : Fin 4} {x : Nat} (hd : decode cc pc = .ok (.aload_n j, 1)) (hl : ls.lookup (j : Nat) = some (.ref x)) (k : Vx X D nL ws (pc + 1) ls (.ref x :: st)) : Vx X D nL ws pc ls st :=
  fun H locs Ls h hP hS => lv_aload_n hX.1 hX.2.1 hd rfl (h.2.2 _ (mem_of_lookup hl)) (k H locs Ls h hP hS)
theorem vx_istore_n (hX : Okx X D cc nL own tys) {j : Fin 4} {x : Int32} {ls' : List (Nat × Value)} (hd : decode cc pc = .ok (.istore_n j, 1)) (hn : (j : Nat) < nL) (hl : ((j : Nat), Value.int x) :: ls.filter (fun q => !(q.1 == (j : Nat)) && !(q.1 + 1 == (j : Nat) && q.2.category == 2)) = ls') (k : Vx X D nL ws (pc + 1) ls' st) : Vx X D nL ws pc ls (.int x :: st) :=
  fun H locs Ls h hP hS => lv_istore_n hX.1 hX.2.1 hd rfl h hn hl (fun Ls' h' => k H locs Ls' h' hP hS)
theorem vx_istore (hX : Okx X D cc nL own tys) {j : Nat} {x : Int32} {ls' : List (Nat × Value)} (hd : decode cc pc = .ok (.istore j, 2)) (hn : j < nL) (hl : (j, Value.int x) :: ls.filter (fun q => !(q.1 == j) && !(q.1 + 1 == j && q.2.category == 2)) = ls') (k : Vx X D nL ws (pc + 2) ls' st) : Vx X D nL ws pc ls (.int x :: st) :=
  fun H locs Ls h hP hS => lv_istore hX.1 hX.2.1 hd h hn hl (fun Ls' h' => k H locs Ls' h' hP hS)
theorem vx_lstore_n (hX : Okx X D cc nL own tys) {j : Fin 4} {x : Int64} {ls' : List (Nat × Value)} (hd : decode cc pc = .ok (.lstore_n j, 1)) (hn : (j : Nat) + 1 < nL) (hl : ((j : Nat), Value.long x) :: ls.filter (fun q => !(q.1 == (j : Nat)) && (!(q.1 == (j : Nat) + 1) && !(q.1 + 1 == (j : Nat) && q.2.category == 2))) = ls') (k : Vx X D nL ws (pc + 1) ls' st) : Vx X D nL ws pc ls (.long x :: st) :=
  fun H locs Ls h hP hS => lv_lstore_n hX.1 hX.2.1 hd rfl h hn hl (fun Ls' h' => k H locs Ls' h' hP hS)
theorem vx_lstore (hX : Okx X D cc nL own tys) {j : Nat} {x : Int64} {ls' : List (Nat × Value)} (hd : decode cc pc = .ok (.lstore j, 2)) (hn : j + 1 < nL) (hl : (j, Value.long x) :: ls.filter (fun q => !(q.1 == j) && (!(q.1 == j + 1) && !(q.1 + 1 == j && q.2.category == 2))) = ls') (k : Vx X D nL ws (pc + 2) ls' st) : Vx X D nL ws pc ls (.long x :: st) :=
  fun H locs Ls h hP hS => lv_lstore hX.1 hX.2.1 hd h hn hl (fun Ls' h' => k H locs Ls' h' hP hS)
theorem vx_iinc (hX : Okx X D cc nL own tys) {j q : Nat} {n : Int} {x v : Int32} {ls' : List (Nat × Value)} (hd : decode cc pc = .ok (.iinc j n, 3)) (hq : ls[q]? = some (j, .int x)) (hv : x + Int32.ofInt n = v) (hn : j < nL) (hl : (j, Value.int v) :: ls.filter (fun q => !(q.1 == j) && !(q.1 + 1 == j && q.2.category == 2)) = ls') (k : Vx X D nL ws (pc + 3) ls' st) : Vx X D nL ws pc ls st :=
  fun H locs Ls h hP hS => lv_iinc hX.1 hX.2.1 hd h hq hv hn hl (fun Ls' h' => k H locs Ls' h' hP hS)
theorem vx_goto (hX : Okx X D cc nL own tys) {off : Int} {tgt : Nat} (hd : decode cc pc = .ok (.goto off, 3)) (ht : (pc : Int) + off = (tgt : Int)) (k : Vx X D nL ws tgt ls st) : Vx X D nL ws pc ls st :=
  fun H locs Ls h hP hS => lv_goto hX.1 hX.2.1 hd ht (k H locs Ls h hP hS)
theorem vx_iadd (hX : Okx X D cc nL own tys) {x y : Int32} (hd : decode cc pc = .ok (.iadd, 1)) (k : Vx X D nL ws (pc + 1) ls (.int (x + y) :: st)) : Vx X D nL ws pc ls (.int y :: .int x :: st) :=
  fun H locs Ls h hP hS => lv_iadd hX.1 hX.2.1 hd (k H locs Ls h hP hS)
theorem vx_isub (hX : Okx X D cc nL own tys) {x y : Int32} (hd : decode cc pc = .ok (.isub, 1)) (k : Vx X D nL ws (pc + 1) ls (.int (x - y) :: st)) : Vx X D nL ws pc ls (.int y :: .int x :: st) :=
  fun H locs Ls h hP hS => lv_isub hX.1 hX.2.1 hd (k H locs Ls h hP hS)
theorem vx_imul (hX : Okx X D cc nL own tys) {x y : Int32} (hd : decode cc pc = .ok (.imul, 1)) (k : Vx X D nL ws (pc + 1) ls (.int (x * y) :: st)) : Vx X D nL ws pc ls (.int y :: .int x :: st) :=
  fun H locs Ls h hP hS => lv_imul hX.1 hX.2.1 hd (k H locs Ls h hP hS)
theorem vx_iand (hX : Okx X D cc nL own tys) {x y : Int32} (hd : decode cc pc = .ok (.iand, 1)) (k : Vx X D nL ws (pc + 1) ls (.int (x &&& y) :: st)) : Vx X D nL ws pc ls (.int y :: .int x :: st) :=
  fun H locs Ls h hP hS => lv_iand hX.1 hX.2.1 hd (k H locs Ls h hP hS)
theorem vx_ior (hX : Okx X D cc nL own tys) {x y : Int32} (hd : decode cc pc = .ok (.ior, 1)) (k : Vx X D nL ws (pc + 1) ls (.int (x ||| y) :: st)) : Vx X D nL ws pc ls (.int y :: .int x :: st) :=
  fun H locs Ls h hP hS => lv_ior hX.1 hX.2.1 hd (k H locs Ls h hP hS)
theorem vx_ixor (hX : Okx X D cc nL own tys) {x y : Int32} (hd : decode cc pc = .ok (.ixor, 1)) (k : Vx X D nL ws (pc + 1) ls (.int (x ^^^ y) :: st)) : Vx X D nL ws pc ls (.int y :: .int x :: st) :=
  fun H locs Ls h hP hS => lv_ixor hX.1 hX.2.1 hd (k H locs Ls h hP hS)
theorem vx_ladd (hX : Okx X D cc nL own tys) {x y : Int64} (hd : decode cc pc = .ok (.ladd, 1)) (k : Vx X D nL ws (pc + 1) ls (.long (x + y) :: st)) : Vx X D nL ws pc ls (.long y :: .long x :: st) :=
  fun H locs Ls h hP hS => lv_ladd hX.1 hX.2.1 hd (k H locs Ls h hP hS)
theorem vx_lsub (hX : Okx X D cc nL own tys) {x y : Int64} (hd : decode cc pc = .ok (.lsub, 1)) (k : Vx X D nL ws (pc + 1) ls (.long (x - y) :: st)) : Vx X D nL ws pc ls (.long y :: .long x :: st) :=
  fun H locs Ls h hP hS => lv_lsub hX.1 hX.2.1 hd (k H locs Ls h hP hS)
theorem vx_lmul (hX : Okx X D cc nL own tys) {x y : Int64} (hd : decode cc pc = .ok (.lmul, 1)) (k : Vx X D nL ws (pc + 1) ls (.long (x * y) :: st)) : Vx X D nL ws pc ls (.long y :: .long x :: st) :=
  fun H locs Ls h hP hS => lv_lmul hX.1 hX.2.1 hd (k H locs Ls h hP hS)
theorem vx_land (hX : Okx X D cc nL own tys) {x y : Int64} (hd : decode cc pc = .ok (.land, 1)) (k : Vx X D nL ws (pc + 1) ls (.long (x &&& y) :: st)) : Vx X D nL ws pc ls (.long y :: .long x :: st) :=
  fun H locs Ls h hP hS => lv_land hX.1 hX.2.1 hd (k H locs Ls h hP hS)
theorem vx_lor (hX : Okx X D cc nL own tys) {x y : Int64} (hd : decode cc pc = .ok (.lor, 1)) (k : Vx X D nL ws (pc + 1) ls (.long (x ||| y) :: st)) : Vx X D nL ws pc ls (.long y :: .long x :: st) :=
  fun H locs Ls h hP hS => lv_lor hX.1 hX.2.1 hd (k H locs Ls h hP hS)
theorem vx_lxor (hX : Okx X D cc nL own tys) {x y : Int64} (hd : decode cc pc = .ok (.lxor, 1)) (k : Vx X D nL ws (pc + 1) ls (.long (x ^^^ y) :: st)) : Vx X D nL ws pc ls (.long y :: .long x :: st) :=
  fun H locs Ls h hP hS => lv_lxor hX.1 hX.2.1 hd (k H locs Ls h hP hS)
theorem vx_if_eq (hX : Okx X D cc nL own tys) {x : Int32} {off : Int} {tgt : Nat} (hd : decode cc pc = .ok (.ifCond .eq off, 3)) (ht : (pc : Int) + off = (tgt : Int)) (kt : x = 0 → Vx X D nL ws tgt ls st) (kf : ¬ x = 0 → Vx X D nL ws (pc + 3) ls st) : Vx X D nL ws pc ls (.int x :: st) :=
  fun H locs Ls h hP hS => lv_if_eq hX.1 hX.2.1 hd ht (fun q => kt q H locs Ls h hP hS) (fun q => kf q H locs Ls h hP hS)
theorem vx_icmp_eq (hX : Okx X D cc nL own tys) {x y : Int32} {off : Int} {tgt : Nat} (hd : decode cc pc = .ok (.if_icmp .eq off, 3)) (ht : (pc : Int) + off = (tgt : Int)) (kt : x = y → Vx X D nL ws tgt ls st) (kf : ¬ x = y → Vx X D nL ws (pc + 3) ls st) : Vx X D nL ws pc ls (.int y :: .int x :: st) :=
  fun H locs Ls h hP hS => lv_icmp_eq hX.1 hX.2.1 hd ht (fun q => kt q H locs Ls h hP hS) (fun q => kf q H locs Ls h hP hS)
theorem vx_if_ne (hX : Okx X D cc nL own tys) {x : Int32} {off : Int} {tgt : Nat} (hd : decode cc pc = .ok (.ifCond .ne off, 3)) (ht : (pc : Int) + off = (tgt : Int)) (kt : ¬ x = 0 → Vx X D nL ws tgt ls st) (kf : x = 0 → Vx X D nL ws (pc + 3) ls st) : Vx X D nL ws pc ls (.int x :: st) :=
  fun H locs Ls h hP hS => lv_if_ne hX.1 hX.2.1 hd ht (fun q => kt q H locs Ls h hP hS) (fun q => kf q H locs Ls h hP hS)
theorem vx_icmp_ne (hX : Okx X D cc nL own tys) {x y : Int32} {off : Int} {tgt : Nat} (hd : decode cc pc = .ok (.if_icmp .ne off, 3)) (ht : (pc : Int) + off = (tgt : Int)) (kt : ¬ x = y → Vx X D nL ws tgt ls st) (kf : x = y → Vx X D nL ws (pc + 3) ls st) : Vx X D nL ws pc ls (.int y :: .int x :: st) :=
  fun H locs Ls h hP hS => lv_icmp_ne hX.1 hX.2.1 hd ht (fun q => kt q H locs Ls h hP hS) (fun q => kf q H locs Ls h hP hS)
theorem vx_if_lt (hX : Okx X D cc nL own tys) {x : Int32} {off : Int} {tgt : Nat} (hd : decode cc pc = .ok (.ifCond .lt off, 3)) (ht : (pc : Int) + off = (tgt : Int)) (kt : x < 0 → Vx X D nL ws tgt ls st) (kf : ¬ x < 0 → Vx X D nL ws (pc + 3) ls st) : Vx X D nL ws pc ls (.int x :: st) :=
  fun H locs Ls h hP hS => lv_if_lt hX.1 hX.2.1 hd ht (fun q => kt q H locs Ls h hP hS) (fun q => kf q H locs Ls h hP hS)
theorem vx_icmp_lt (hX : Okx X D cc nL own tys) {x y : Int32} {off : Int} {tgt : Nat} (hd : decode cc pc = .ok (.if_icmp .lt off, 3)) (ht : (pc : Int) + off = (tgt : Int)) (kt : x < y → Vx X D nL ws tgt ls st) (kf : ¬ x < y → Vx X D nL ws (pc + 3) ls st) : Vx X D nL ws pc ls (.int y :: .int x :: st) :=
  fun H locs Ls h hP hS => lv_icmp_lt hX.1 hX.2.1 hd ht (fun q => kt q H locs Ls h hP hS) (fun q => kf q H locs Ls h hP hS)
theorem vx_if_ge (hX : Okx X D cc nL own tys) {x : Int32} {off : Int} {tgt : Nat} (hd : decode cc pc = .ok (.ifCond .ge off, 3)) (ht : (pc : Int) + off = (tgt : Int)) (kt : 0 ≤ x → Vx X D nL ws tgt ls st) (kf : ¬ 0 ≤ x → Vx X D nL ws (pc + 3) ls st) : Vx X D nL ws pc ls (.int x :: st) :=
  fun H locs Ls h hP hS => lv_if_ge hX.1 hX.2.1 hd ht (fun q => kt q H locs Ls h hP hS) (fun q => kf q H locs Ls h hP hS)
theorem vx_icmp_ge (hX : Okx X D cc nL own tys) {x y : Int32} {off : Int} {tgt : Nat} (hd : decode cc pc = .ok (.if_icmp .ge off, 3)) (ht : (pc : Int) + off = (tgt : Int)) (kt : y ≤ x → Vx X D nL ws tgt ls st) (kf : ¬ y ≤ x → Vx X D nL ws (pc + 3) ls st) : Vx X D nL ws pc ls (.int y :: .int x :: st) :=
  fun H locs Ls h hP hS => lv_icmp_ge hX.1 hX.2.1 hd ht (fun q => kt q H locs Ls h hP hS) (fun q => kf q H locs Ls h hP hS)
theorem vx_if_gt (hX : Okx X D cc nL own tys) {x : Int32} {off : Int} {tgt : Nat} (hd : decode cc pc = .ok (.ifCond .gt off, 3)) (ht : (pc : Int) + off = (tgt : Int)) (kt : 0 < x → Vx X D nL ws tgt ls st) (kf : ¬ 0 < x → Vx X D nL ws (pc + 3) ls st) : Vx X D nL ws pc ls (.int x :: st) :=
  fun H locs Ls h hP hS => lv_if_gt hX.1 hX.2.1 hd ht (fun q => kt q H locs Ls h hP hS) (fun q => kf q H locs Ls h hP hS)
theorem vx_icmp_gt (hX : Okx X D cc nL own tys) {x y : Int32} {off : Int} {tgt : Nat} (hd : decode cc pc = .ok (.if_icmp .gt off, 3)) (ht : (pc : Int) + off = (tgt : Int)) (kt : y < x → Vx X D nL ws tgt ls st) (kf : ¬ y < x → Vx X D nL ws (pc + 3) ls st) : Vx X D nL ws pc ls (.int y :: .int x :: st) :=
  fun H locs Ls h hP hS => lv_icmp_gt hX.1 hX.2.1 hd ht (fun q => kt q H locs Ls h hP hS) (fun q => kf q H locs Ls h hP hS)
theorem vx_if_le (hX : Okx X D cc nL own tys) {x : Int32} {off : Int} {tgt : Nat} (hd : decode cc pc = .ok (.ifCond .le off, 3)) (ht : (pc : Int) + off = (tgt : Int)) (kt : x ≤ 0 → Vx X D nL ws tgt ls st) (kf : ¬ x ≤ 0 → Vx X D nL ws (pc + 3) ls st) : Vx X D nL ws pc ls (.int x :: st) :=
  fun H locs Ls h hP hS => lv_if_le hX.1 hX.2.1 hd ht (fun q => kt q H locs Ls h hP hS) (fun q => kf q H locs Ls h hP hS)
theorem vx_icmp_le (hX : Okx X D cc nL own tys) {x y : Int32} {off : Int} {tgt : Nat} (hd : decode cc pc = .ok (.if_icmp .le off, 3)) (ht : (pc : Int) + off = (tgt : Int)) (kt : x ≤ y → Vx X D nL ws tgt ls st) (kf : ¬ x ≤ y → Vx X D nL ws (pc + 3) ls st) : Vx X D nL ws pc ls (.int y :: .int x :: st) :=
  fun H locs Ls h hP hS => lv_icmp_le hX.1 hX.2.1 hd ht (fun q => kt q H locs Ls h hP hS) (fun q => kf q H locs Ls h hP hS)
def jushr (x y : Int32) : Int32 := (x.toUInt32 >>> (y.toUInt32 &&& Int32.toUInt32 31)).toInt32
def jshl (x y : Int32) : Int32 := x <<< (y &&& 31)
def jshr (x y : Int32) : Int32 := x >>> (y &&& 31)
def jlushr (x : Int64) (y : Int32) : Int64 := (x.toUInt64 >>> (y.toInt64.toUInt64 &&& Int64.toUInt64 63)).toInt64
def jrem (x y : Int32) : Int32 := x - x / y * y
def jlrem (x y : Int64) : Int64 := x - x / y * y
theorem vx_ishl (hX : Okx X D cc nL own tys) {x y : Int32} (hd : decode cc pc = .ok (.ishl, 1)) (k : Vx X D nL ws (pc + 1) ls (.int (jshl x y) :: st)) : Vx X D nL ws pc ls (.int y :: .int x :: st) :=
  fun H locs Ls h hP hS => lv_ishl hX.1 hX.2.1 hd (k H locs Ls h hP hS)
theorem vx_ishr (hX : Okx X D cc nL own tys) {x y : Int32} (hd : decode cc pc = .ok (.ishr, 1)) (k : Vx X D nL ws (pc + 1) ls (.int (jshr x y) :: st)) : Vx X D nL ws pc ls (.int y :: .int x :: st) :=
  fun H locs Ls h hP hS => lv_ishr hX.1 hX.2.1 hd (k H locs Ls h hP hS)
theorem vx_iushr (hX : Okx X D cc nL own tys) {x y : Int32} (hd : decode cc pc = .ok (.iushr, 1)) (k : Vx X D nL ws (pc + 1) ls (.int (jushr x y) :: st)) : Vx X D nL ws pc ls (.int y :: .int x :: st) :=
  fun H locs Ls h hP hS => lv_iushr hX.1 hX.2.1 hd rfl (k H locs Ls h hP hS)
theorem vx_lushr (hX : Okx X D cc nL own tys) {x : Int64} {y : Int32} (hd : decode cc pc = .ok (.lushr, 1)) (k : Vx X D nL ws (pc + 1) ls (.long (jlushr x y) :: st)) : Vx X D nL ws pc ls (.int y :: .long x :: st) :=
  fun H locs Ls h hP hS => lv_lushr hX.1 hX.2.1 hd rfl (k H locs Ls h hP hS)
theorem vx_idiv (hX : Okx X D cc nL own tys) {x y : Int32} (hd : decode cc pc = .ok (.idiv, 1)) (hn : ¬ y = 0) (k : Vx X D nL ws (pc + 1) ls (.int (x / y) :: st)) : Vx X D nL ws pc ls (.int y :: .int x :: st) :=
  fun H locs Ls h hP hS => lv_idiv hX.1 hX.2.1 hd hn (k H locs Ls h hP hS)
theorem vx_irem (hX : Okx X D cc nL own tys) {x y : Int32} (hd : decode cc pc = .ok (.irem, 1)) (hn : ¬ y = 0) (k : Vx X D nL ws (pc + 1) ls (.int (jrem x y) :: st)) : Vx X D nL ws pc ls (.int y :: .int x :: st) :=
  fun H locs Ls h hP hS => lv_irem hX.1 hX.2.1 hd hn (k H locs Ls h hP hS)
theorem vx_lrem (hX : Okx X D cc nL own tys) {x y : Int64} (hd : decode cc pc = .ok (.lrem, 1)) (hn : ¬ y = 0) (k : Vx X D nL ws (pc + 1) ls (.long (jlrem x y) :: st)) : Vx X D nL ws pc ls (.long y :: .long x :: st) :=
  fun H locs Ls h hP hS => lv_lrem hX.1 hX.2.1 hd hn (k H locs Ls h hP hS)
theorem vx_i2l (hX : Okx X D cc nL own tys) {x : Int32} (hd : decode cc pc = .ok (.i2l, 1)) (k : Vx X D nL ws (pc + 1) ls (.long x.toInt64 :: st)) : Vx X D nL ws pc ls (.int x :: st) :=
  fun H locs Ls h hP hS => lv_i2l hX.1 hX.2.1 hd rfl (k H locs Ls h hP hS)
theorem vx_l2i (hX : Okx X D cc nL own tys) {x : Int64} (hd : decode cc pc = .ok (.l2i, 1)) (k : Vx X D nL ws (pc + 1) ls (.int x.toInt32 :: st)) : Vx X D nL ws pc ls (.long x :: st) :=
  fun H locs Ls h hP hS => lv_l2i hX.1 hX.2.1 hd rfl (k H locs Ls h hP hS)
theorem vx_lcmp (hX : Okx X D cc nL own tys) {x y : Int64} (hd : decode cc pc = .ok (.lcmp, 1)) (k : Vx X D nL ws (pc + 1) ls (.int (lg_cmp x y) :: st)) : Vx X D nL ws pc ls (.long y :: .long x :: st) :=
  fun H locs Ls h hP hS => W.lcmp hX.1 hX.2.1 hd (k H locs Ls h hP hS)
theorem vx_dup (hX : Okx X D cc nL own tys) {v : Value} (hd : decode cc pc = .ok (.dup, 1)) (hv : v.category = 1) (k : Vx X D nL ws (pc + 1) ls (v :: v :: st)) : Vx X D nL ws pc ls (v :: st) :=
  fun H locs Ls h hP hS => lv_dup hX.1 hX.2.1 hd hv (k H locs Ls h hP hS)
theorem vx_dup2 (hX : Okx X D cc nL own tys) {v w : Value} (hd : decode cc pc = .ok (.dup2, 1)) (hv : v.category = 1) (hw : w.category = 1) (k : Vx X D nL ws (pc + 1) ls (v :: w :: v :: w :: st)) : Vx X D nL ws pc ls (v :: w :: st) :=
  fun H locs Ls h hP hS => lv_dup2_11 hX.1 hX.2.1 hd hv hw (k H locs Ls h hP hS)
theorem vx_pop (hX : Okx X D cc nL own tys) {v : Value} (hd : decode cc pc = .ok (.pop, 1)) (hv : v.category = 1) (k : Vx X D nL ws (pc + 1) ls st) : Vx X D nL ws pc ls (v :: st) :=
  fun H locs Ls h hP hS => lv_pop hX.1 hX.2.1 hd hv (k H locs Ls h hP hS)
theorem vx_tabIn (hX : Okx X D cc nL own tys) {dflt lo hi : Int} {offs : Array Int} {len : Nat} {x : Int32} {off : Int} {tgt : Nat} (hd : decode cc pc = .ok (.tableswitch dflt lo hi offs, len)) (h1 : ¬ x.toInt < lo) (h2 : ¬ hi < x.toInt) (ho : offs[(x.toInt - lo).toNat]? = some off) (ht : (pc : Int) + off = (tgt : Int)) (k : Vx X D nL ws tgt ls st) : Vx X D nL ws pc ls (.int x :: st) :=
  fun H locs Ls h hP hS => lv_tableIn hX.1 hX.2.1 hd h1 h2 ho ht (k H locs Ls h hP hS)
theorem vx_tabOut (hX : Okx X D cc nL own tys) {dflt lo hi : Int} {offs : Array Int} {len : Nat} {x : Int32} {tgt : Nat} (hd : decode cc pc = .ok (.tableswitch dflt lo hi offs, len)) (h1 : x.toInt < lo ∨ hi < x.toInt) (ht : (pc : Int) + dflt = (tgt : Int)) (k : Vx X D nL ws tgt ls st) : Vx X D nL ws pc ls (.int x :: st) :=
  fun H locs Ls h hP hS => lv_tableOut hX.1 hX.2.1 hd h1 ht (k H locs Ls h hP hS)
theorem vx_lookup (hX : Okx X D cc nL own tys) {dflt : Int} {ps : Array (Int × Int)} {len : Nat} {x : Int32} {off : Int} {tgt : Nat} (hd : decode cc pc = .ok (.lookupswitch dflt ps, len)) (hp : (ps.toList.zip (ps.toList.drop 1)).all (fun (a, next) => a.1 < next.1) = true) (ho : Op.lookupswitch.offset ps.toList dflt x.toInt = off) (ht : (pc : Int) + off = (tgt : Int)) (k : Vx X D nL ws tgt ls st) : Vx X D nL ws pc ls (.int x :: st) :=
  fun H locs Ls h hP hS => lv_lookup hX.1 hX.2.1 hd hp ho ht (k H locs Ls h hP hS)
/-- an index in its row -/
def inb (i : Int32) (n : Nat) : Bool := decide (¬ (i < 0 ∨ n ≤ i.toNatClampNeg))
theorem inb_in {i : Int32} {n : Nat} (h : inb i n = true) : vp_in i n := show ¬ (i < 0 ∨ n ≤ i.toNatClampNeg) from of_decide_eq_true h
theorem vx_get (hX : Okx X D cc nL own tys) {a : Nat} {C : String} {T : u_T} {N ci i : Nat} {fs : List Value} {v : Value} (q0 : Nat) (he : ws[q0]? = some (a, .inr (ci, fs))) (hc : vwCl[ci]? = some (C, T, N)) (hin : ∀ w ∈ u_ws C T N, w ∈ wsG) (j : Nat) (hj : j < N) (hv : fs[j]? = some v) (hw : Cond.fieldLink own i (T j).1 (T j).2.1 (T j).2.2.1 ∈ wsG) (hd : decode cc pc = .ok (.getfield i, 3)) (k : Vx X D nL ws (pc + 3) ls (v :: st)) : Vx X D nL ws pc ls (.ref a :: st) :=
  fun H locs Ls h hP hS => va_get (D := D) (cl := vwCl) (tys := tys) hX.1 hX.2.1 hX.2.2.2.2.1 hin hX.2.2.2.1 hX.2.2.2.2.2.1 hP q0 he hc j hj (hX.2.2.2.2.1 _ hw) (fun _ h => h) hv hd (k H locs Ls h hP hS)
theorem vx_put (hX : Okx X D cc nL own tys) {a : Nat} {C : String} {T : u_T} {N ci i : Nat} {fs : List Value} {x : Int32} {ws' : va_W} (q0 : Nat) (he : ws[q0]? = some (a, .inr (ci, fs))) (hc : vwCl[ci]? = some (C, T, N)) (hin : ∀ w ∈ u_ws C T N, w ∈ wsG) (ty0 : Nat → FieldType) (hty : ∀ k, k < N → parseFieldDescriptor (T k).2.2.1 = some (ty0 k)) (hnm : ∀ a, a < N → ∀ b, b < N → a ≠ b → (T a).2.1 ≠ (T b).2.1) (hD : va_D (bA X) ws) (j : Nat) (hj : j < N) (hl : j < fs.length) (hfin : (T j).2.2.2 = false) (hty1 : parseFieldDescriptor (T j).2.2.1 = some .int) (hw : Cond.fieldLink own i (T j).1 (T j).2.1 (T j).2.2.1 ∈ wsG) (hd : decode cc pc = .ok (.putfield i, 3)) (hs : ws.set q0 (a, .inr (ci, fs.set j (.int x))) = ws') (k : Vx X D nL ws' (pc + 3) ls st) : Vx X D nL ws pc ls (.int x :: .ref a :: st) :=
  fun H locs Ls h hP hS => va_put (D := D) (cl := vwCl) (tys := tys) hX.1 hX.2.1 hX.2.2.2.2.1 hin ty0 hty hnm hX.2.2.2.1 hX.2.2.2.2.2.1 hP hD hS q0 he hc j hj (hX.2.2.2.2.1 _ hw) (fun _ h => h) hfin hty1 rfl rfl hl hd (fun H1 locs1 hP1 _ hS1 => k H1 locs1 Ls h (hs ▸ hP1) hS1)
theorem vx_iald (hX : Okx X D cc nL own tys) {a : Nat} {cA : ClassId} {n : Nat} {f : Nat → Int32} {i : Int32} (q0 t0 : Nat) (ha : ws[q0]? = some (a, .inl (cA, n, .inl f))) (ht : tys[t0]? = some (cA, .int)) (hin : inb i n = true) (hd : decode cc pc = .ok (.iaload, 1)) (k : Vx X D nL ws (pc + 1) ls (.int (f i.toNatClampNeg) :: st)) : Vx X D nL ws pc ls (.int i :: .ref a :: st) :=
  fun H locs Ls h hP hS => va_iald hX.1 hX.2.1 hX.2.2.2.2.2.1 hP q0 t0 ha ht (inb_in hin) hd (k H locs Ls h hP hS)
theorem vx_zald (hX : Okx X D cc nL own tys) {a : Nat} {cA : ClassId} {n : Nat} {f : Nat → Int32} {i : Int32} (q0 t0 : Nat) (ha : ws[q0]? = some (a, .inl (cA, n, .inl f))) (ht : tys[t0]? = some (cA, .boolean)) (hin : inb i n = true) (hd : decode cc pc = .ok (.baload, 1)) (k : Vx X D nL ws (pc + 1) ls (.int (f i.toNatClampNeg) :: st)) : Vx X D nL ws pc ls (.int i :: .ref a :: st) :=
  fun H locs Ls h hP hS => va_zald hX.1 hX.2.1 hX.2.2.2.2.2.1 hP q0 t0 ha ht (inb_in hin) hd (k H locs Ls h hP hS)
theorem vx_lald (hX : Okx X D cc nL own tys) {a : Nat} {cA : ClassId} {n : Nat} {f : Nat → Int64} {i : Int32} (q0 t0 : Nat) (ha : ws[q0]? = some (a, .inl (cA, n, .inr (.inl f)))) (ht : tys[t0]? = some (cA, .long)) (hin : inb i n = true) (hd : decode cc pc = .ok (.laload, 1)) (k : Vx X D nL ws (pc + 1) ls (.long (f i.toNatClampNeg) :: st)) : Vx X D nL ws pc ls (.int i :: .ref a :: st) :=
  fun H locs Ls h hP hS => va_lald hX.1 hX.2.1 hX.2.2.2.2.2.1 hP q0 t0 ha ht (inb_in hin) hd (k H locs Ls h hP hS)
theorem vx_iast (hX : Okx X D cc nL own tys) {a : Nat} {cA : ClassId} {n : Nat} {f : Nat → Int32} {i x : Int32} {ws' : va_W} (hD : va_D (bA X) ws) (q0 t0 : Nat) (ha : ws[q0]? = some (a, .inl (cA, n, .inl f))) (ht : tys[t0]? = some (cA, .int)) (hin : inb i n = true) (hd : decode cc pc = .ok (.iastore, 1)) (hs : ws.set q0 (a, .inl (cA, n, .inl (upd f i.toNatClampNeg x))) = ws') (k : Vx X D nL ws' (pc + 1) ls st) : Vx X D nL ws pc ls (.int x :: .int i :: .ref a :: st) :=
  fun H locs Ls h hP hS => va_iast hX.1 hX.2.1 hX.2.2.2.2.2.1 hP hD hS q0 t0 ha ht (inb_in hin) hd (fun H1 locs1 hP1 _ hS1 => k H1 locs1 Ls h (hs ▸ hP1) hS1)
theorem vx_zast (hX : Okx X D cc nL own tys) {a : Nat} {cA : ClassId} {n : Nat} {f : Nat → Int32} {i x : Int32} {ws' : va_W} (hD : va_D (bA X) ws) (q0 t0 : Nat) (ha : ws[q0]? = some (a, .inl (cA, n, .inl f))) (ht : tys[t0]? = some (cA, .boolean)) (hin : inb i n = true) (hn : vp_nar .boolean x = x) (hd : decode cc pc = .ok (.bastore, 1)) (hs : ws.set q0 (a, .inl (cA, n, .inl (upd f i.toNatClampNeg x))) = ws') (k : Vx X D nL ws' (pc + 1) ls st) : Vx X D nL ws pc ls (.int x :: .int i :: .ref a :: st) :=
  fun H locs Ls h hP hS => va_zast hX.1 hX.2.1 hX.2.2.2.2.2.1 hP hD hS q0 t0 ha ht (inb_in hin) hd (fun H1 locs1 hP1 _ hS1 => k H1 locs1 Ls h (by rw [hn] at hP1; exact hs ▸ hP1) hS1)
theorem vx_last (hX : Okx X D cc nL own tys) {a : Nat} {cA : ClassId} {n : Nat} {f : Nat → Int64} {i : Int32} {x : Int64} {ws' : va_W} (hD : va_D (bA X) ws) (q0 t0 : Nat) (ha : ws[q0]? = some (a, .inl (cA, n, .inr (.inl f)))) (ht : tys[t0]? = some (cA, .long)) (hin : inb i n = true) (hd : decode cc pc = .ok (.lastore, 1)) (hs : ws.set q0 (a, .inl (cA, n, .inr (.inl (vp_updL f i.toNatClampNeg x)))) = ws') (k : Vx X D nL ws' (pc + 1) ls st) : Vx X D nL ws pc ls (.long x :: .int i :: .ref a :: st) :=
  fun H locs Ls h hP hS => va_last hX.1 hX.2.1 hX.2.2.2.2.2.1 hP hD hS q0 t0 ha ht (inb_in hin) hd (fun H1 locs1 hP1 _ hS1 => k H1 locs1 Ls h (hs ▸ hP1) hS1)
/-- System.arraycopy of ints, of longs: constants for places and length, tested by a program -/
def cpOk (sp dp n : Int32) (n0 n1 : Nat) : Bool := decide (¬ sp < 0) && decide (¬ dp < 0) && decide (¬ n < 0) && decide (sp.toNatClampNeg + n.toNatClampNeg ≤ n0) && decide (dp.toNatClampNeg + n.toNatClampNeg ≤ n1)
theorem vx_copyi (hX : Okx X D cc nL own tys) {a a0 : Nat} {cA : ClassId} {n0 n1 : Nat} {f f1 : Nat → Int32} {sp dp n : Int32} {i : Nat} {ws' : va_W} (hD : va_D (bA X) ws) (q0 q1 t0 : Nat) (ha0 : ws[q0]? = some (a0, .inl (cA, n0, .inl f))) (ha1 : ws[q1]? = some (a, .inl (cA, n1, .inl f1))) (ht : tys[t0]? = some (cA, .int)) (hok : cpOk sp dp n n0 n1 = true) (w1 : Cond.methodLink own i arraycopyName ∈ wsG) (w2 : Cond.native arraycopyName ∈ wsG) (w3 : Cond.static arraycopyName ∈ wsG) (w4 : Cond.initialized "java/lang/System" ∈ wsG) (hR : 1 ≤ X.2.2.2.1.frames ∧ (st.map fun v => v.category).sum + 18 ≤ X.2.2.2.1.locals) (hd : decode cc pc = .ok (.invokestatic i, 3)) (hs : ws.set q1 (a, .inl (cA, n1, .inl (va_cpy f f1 sp.toNatClampNeg dp.toNatClampNeg n.toNatClampNeg))) = ws') (k : Vx X D nL ws' (pc + 3) ls st) : Vx X D nL ws pc ls (.int n :: .int dp :: .ref a :: .int sp :: .ref a0 :: st) := by
  simp only [cpOk, Bool.and_eq_true, decide_eq_true_eq] at hok
  obtain ⟨⟨⟨⟨h1, h2⟩, h3⟩, h4⟩, h5⟩ := hok
  intro H locs Ls h hP hS
  exact va_copyi hX.1 hX.2.1 (hX.2.2.1.trans h.1.symm) hX.2.2.2.1 (hX.2.2.2.2.1 _ w1) (hX.2.2.2.2.1 _ w2) (hX.2.2.2.2.1 _ w3) (hX.2.2.2.2.1 _ w4) hX.2.2.2.2.2.1 hP hD hS q0 q1 t0 t0 ha0 ha1 ht ht rfl h1 h2 h3 h4 h5 (fun _ _ => rfl) hR.1 hR.2 hd (fun H1 locs1 hP1 _ hS1 => k H1 locs1 Ls h (hs ▸ hP1) hS1)
theorem vx_copyl (hX : Okx X D cc nL own tys) {a a0 : Nat} {cA : ClassId} {n0 n1 : Nat} {f f1 : Nat → Int64} {sp dp n : Int32} {i : Nat} {ws' : va_W} (hD : va_D (bA X) ws) (q0 q1 t0 : Nat) (ha0 : ws[q0]? = some (a0, .inl (cA, n0, .inr (.inl f)))) (ha1 : ws[q1]? = some (a, .inl (cA, n1, .inr (.inl f1)))) (ht : tys[t0]? = some (cA, .long)) (hok : cpOk sp dp n n0 n1 = true) (w1 : Cond.methodLink own i arraycopyName ∈ wsG) (w2 : Cond.native arraycopyName ∈ wsG) (w3 : Cond.static arraycopyName ∈ wsG) (w4 : Cond.initialized "java/lang/System" ∈ wsG) (hR : 1 ≤ X.2.2.2.1.frames ∧ (st.map fun v => v.category).sum + 18 ≤ X.2.2.2.1.locals) (hd : decode cc pc = .ok (.invokestatic i, 3)) (hs : ws.set q1 (a, .inl (cA, n1, .inr (.inl (va_cpy f f1 sp.toNatClampNeg dp.toNatClampNeg n.toNatClampNeg)))) = ws') (k : Vx X D nL ws' (pc + 3) ls st) : Vx X D nL ws pc ls (.int n :: .int dp :: .ref a :: .int sp :: .ref a0 :: st) := by
  simp only [cpOk, Bool.and_eq_true, decide_eq_true_eq] at hok
  obtain ⟨⟨⟨⟨h1, h2⟩, h3⟩, h4⟩, h5⟩ := hok
  intro H locs Ls h hP hS
  exact va_copyl hX.1 hX.2.1 (hX.2.2.1.trans h.1.symm) hX.2.2.2.1 (hX.2.2.2.2.1 _ w1) (hX.2.2.2.2.1 _ w2) (hX.2.2.2.2.1 _ w3) (hX.2.2.2.2.1 _ w4) hX.2.2.2.2.2.1 hP hD hS q0 q1 t0 t0 ha0 ha1 ht ht rfl h1 h2 h3 h4 h5 (fun _ _ => rfl) hR.1 hR.2 hd (fun H1 locs1 hP1 _ hS1 => k H1 locs1 Ls h (hs ▸ hP1) hS1)
end VX
