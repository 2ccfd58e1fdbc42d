theorem q_w125 : Cond.classLink "TallyCourt$Debts" 18 "[[I" ∈ lw_tbl := q_in_tbl (i := 125) (by decide +kernel)
theorem q_w126 : Cond.arrayOver (.array .int) ∈ lw_tbl := q_in_tbl (i := 126) (by decide +kernel)
theorem q_e2 : "[" ++ (FieldType.array FieldType.int).toString = "[[I" := by decide +kernel
theorem q_e1 : (FieldType.array FieldType.int).toString = "[" ++ FieldType.int.toString := by decide +kernel
/-- the class of a grid of ints, and that of its rows, as the tables' word tells them -/
theorem q_over2 {args : Array Value} {U : State} (w : (Cond.arrayOver (.array .int)).before args U = true) : ∃ (cG cR : ClassId) (kG : Class), U.vm.findClass "[[I" = some cG ∧ U.vm.findClass (FieldType.array .int).toString = some cR ∧ U.vm.classes[cG]? = some kG ∧ kG.kind = .array cR (.array .int) := by
  simp only [Cond.before, Cond.holds, Cond.value, beq_iff_eq] at w
  obtain ⟨cR, wR, w⟩ := Option.bind_eq_some_iff.mp w
  obtain ⟨cG, wi, w⟩ := Option.bind_eq_some_iff.mp w
  obtain ⟨kG, wk, w⟩ := Option.map_eq_some_iff.mp w
  have z := (Array.findIdx?_eq_some_iff_getElem.mp wi).2.1
  rw [(Array.getElem?_eq_some_iff.mp wk).2] at z
  refine ⟨cG, cR, kG, ?_, wR, wk, ?_⟩
  · split at w
    · rw [Bool.and_eq_true, decide_eq_true_eq, decide_eq_true_eq, q_e2] at w
      exact w.2
    · cases w
  · revert w z
    cases kG.kind <;> intro w z
    all_goals first
      | (rw [Bool.and_eq_true, decide_eq_true_eq] at w; rw [w.1, eq_of_beq z])
      | cases w
/-- a row of a grid -/
def q_rw (cR : ClassId) (M : Nat) : Cell := arrV cR M (fun _ => .int 0)
/-- the grid itself, its first i rows hung in -/
def q_ou (cG : ClassId) (N at9 i : Nat) : Cell := arrV cG N (fun j => va_rf (if j < i then some (at9 + 1 + j) else none))
/-- the state with the grid and its first i rows -/
def q_gd (cG cR : ClassId) (N M : Nat) (U : State) : Nat → State
  | 0 => U.pushCell (q_ou cG N U.heap.size 0)
  | i + 1 => ((q_gd cG cR N M U i).pushCell (q_rw cR M)).setCell U.heap.size (q_ou cG N U.heap.size (i + 1))
theorem q_ou_put (cG : ClassId) (N at9 i : Nat) : (q_ou cG N at9 i).setSlot i (.ref (at9 + 1 + i)) = q_ou cG N at9 (i + 1) := by
  unfold q_ou
  rw [arrV_store]
  refine congrArg (arrV cG N) (funext fun j => ?_)
  show (if j = i then Value.ref (at9 + 1 + i) else va_rf (if j < i then some (at9 + 1 + j) else none)) = va_rf (if j < i + 1 then some (at9 + 1 + j) else none)
  rcases Nat.lt_trichotomy j i with y | y | y
  · rw [if_neg (by omega), if_pos y, if_pos (by omega)]
  · rw [if_pos y, if_pos (by omega), y]
    rfl
  · rw [if_neg (by omega), if_neg (by omega), if_neg (by omega)]
section QG
variable {cG cR : ClassId} {N M : Nat} {U : State}
theorem q_gd_vm : ∀ i : Nat, (q_gd cG cR N M U i).vm = U.vm
  | 0 => rfl
  | i + 1 => q_gd_vm i
theorem q_gd_tj : ∀ i : Nat, (q_gd cG cR N M U i).topJava? = U.topJava?
  | 0 => rfl
  | i + 1 => q_gd_tj i
theorem q_gd_top {g : JFrame} : ∀ i : Nat, q_gd cG cR N M (U.setTop g) i = (q_gd cG cR N M U i).setTop g
  | 0 => rfl
  | i + 1 => by
    show ((q_gd cG cR N M (U.setTop g) i).pushCell (q_rw cR M)).setCell U.heap.size (q_ou cG N U.heap.size (i + 1)) = _
    rw [q_gd_top i]
    rfl
theorem q_gd_used : ∀ i : Nat, (q_gd cG cR N M U i).slotsUsed = U.slotsUsed + N + i * M
  | 0 => by
    show U.slotsUsed + (q_ou cG N U.heap.size 0).slots.size = _
    unfold q_ou
    rw [arrV_size, Nat.zero_mul]
    rfl
  | i + 1 => by
    show (q_gd cG cR N M U i).slotsUsed + (q_rw cR M).slots.size = _
    unfold q_rw
    rw [q_gd_used i, arrV_size, Nat.succ_mul]
    omega
/-- what the heap holds then: as many cells more, the old ones as they were, the grid, its rows -/
theorem q_gd_heap : ∀ i : Nat, (q_gd cG cR N M U i).heap.size = U.heap.size + 1 + i ∧ (∀ x : Nat, x < U.heap.size → (q_gd cG cR N M U i).heap[x]? = U.heap[x]?) ∧ (q_gd cG cR N M U i).heap[U.heap.size]? = some (q_ou cG N U.heap.size i) ∧ ∀ j : Nat, j < i → (q_gd cG cR N M U i).heap[U.heap.size + 1 + j]? = some (q_rw cR M)
  | 0 => by
    refine ⟨Array.size_push .., fun x hx => ?_, ?_, fun j hj => absurd hj (Nat.not_lt_zero j)⟩
    · show (U.heap.push _)[x]? = _
      rw [Array.getElem?_push, if_neg (by omega)]
    · show (U.heap.push _)[U.heap.size]? = _
      rw [Array.getElem?_push, if_pos rfl]
  | i + 1 => by
    obtain ⟨y1, y2, y3, y4⟩ := q_gd_heap i
    have z : ∀ x : Nat, (q_gd cG cR N M U (i + 1)).heap[x]? = if U.heap.size = x then some (q_ou cG N U.heap.size (i + 1)) else if x = U.heap.size + 1 + i then some (q_rw cR M) else (q_gd cG cR N M U i).heap[x]? := fun x => by
      show (((q_gd cG cR N M U i).heap.push (q_rw cR M)).setIfInBounds U.heap.size (q_ou cG N U.heap.size (i + 1)))[x]? = _
      rw [Array.getElem?_setIfInBounds, Array.getElem?_push, Array.size_push, y1]
      by_cases hx : U.heap.size = x
      · rw [if_pos hx, if_pos hx, if_pos (by omega)]
      · rw [if_neg hx, if_neg hx]
    refine ⟨?_, fun x hx => ?_, ?_, fun j hj => ?_⟩
    · show (((q_gd cG cR N M U i).heap.push (q_rw cR M)).setIfInBounds U.heap.size (q_ou cG N U.heap.size (i + 1))).size = _
      rw [Array.size_setIfInBounds, Array.size_push, y1]
      rfl
    · rw [z, if_neg (by omega), if_neg (by omega), y2 x hx]
    · rw [z, if_pos rfl]
    · rw [z, if_neg (by omega)]
      by_cases hx : j = i
      · rw [if_pos (by rw [hx])]
      · rw [if_neg (by omega), y4 j (by omega)]
end QG
section QW
variable {e : Env} {E : CtlPost} {d : Bool} {acts : List Action} {U : State} {cG cR cI : ClassId} {kG kR : Class} {n k : Int32}
/-- one row is made -/
theorem q_mkR {Q : Addr → Pre} (h0 : ¬ k < 0) (hR : U.vm.classes[cR]? = some kR) (tR : kR.kind = .array cI .int) (l1 : ¬ k.toNatClampNeg > e.platform.arrayLengthLimit) (l2 : ¬ k.toNatClampNeg * 4 > e.platform.maxHeapBytes) (r1 : U.heap.size < e.platform.maxCells) (r2 : U.slotsUsed + k.toNatClampNeg ≤ e.platform.maxSlots) (hq : ∀ acts', Q U.heap.size d acts' (U.pushCell (q_rw cR k.toNatClampNeg))) : wp (multianewarray.make cR [k]) Q E e d acts U := by
  rw [multianewarray.make]
  simp only [wp_bind', W.ite, h0, if_false, wp_pure', W.theClass]
  refine ⟨kR, hR, ?_⟩
  rw [tR]
  refine W.newArray_of hR tR l1 l2 r1 r2 rfl (fun acts' => ?_)
  have y := hq acts'
  unfold q_rw at y
  rw [← arrV_new] at y
  exact y
/-- the rows are made and hung in, one after the other -/
theorem q_lpG {Q : Addr → Pre} {N : Nat} (h0 : ¬ k < 0) (hG : U.vm.classes[cG]? = some kG) (tG : kG.kind = .array cR (.array .int)) (hR : U.vm.classes[cR]? = some kR) (tR : kR.kind = .array cI .int) (l2 : k.toNatClampNeg ≤ 100000) (la : e.platform.arrayLengthLimit = 2147483645) (lb : e.platform.maxHeapBytes = 536870912) (r1 : U.heap.size + (1 + N) ≤ e.platform.maxCells) (r2 : U.slotsUsed + (N + N * k.toNatClampNeg) ≤ e.platform.maxSlots) (hq : ∀ d' acts', Q U.heap.size d' acts' (q_gd cG cR N k.toNatClampNeg U N)) :
    wp (do
      for i in [0:N] do
        writeLoc U.heap.size i (.ref (← multianewarray.make cR [k]))
      Pure.pure U.heap.size) Q E e d acts (q_gd cG cR N k.toNatClampNeg U 0) := by
  simp only [wp_bind', wp_pure']
  rw [Std.Legacy.Range.forIn_eq_forIn_range']
  refine wp_forIn_inv (fun (todo : List Nat) (V : State) => ∃ i, i ≤ N ∧ todo = List.range' i (N - i) ∧ V = q_gd cG cR N k.toNatClampNeg U i) _ _ ⟨0, Nat.zero_le N, ?_, rfl⟩ (fun x todo V d' acts' Q' hV hk => ?_) (fun V d' acts' hV => ?_)
  · show List.range' 0 ((N - 0 + 1 - 1) / 1) 1 = _
    rw [Nat.div_one]
    rfl
  · obtain ⟨i, hi, hl, rfl⟩ := hV
    cases hr : N - i with
    | zero => rw [hr] at hl; cases hl
    | succ r =>
      rw [hr, List.range'_succ] at hl
      injection hl with hx hl
      have hx := hx.symm
      subst hx
      obtain ⟨y1, -, y3, -⟩ := q_gd_heap (cG := cG) (cR := cR) (N := N) (M := k.toNatClampNeg) (U := U) i
      have y5 := q_gd_vm (cG := cG) (cR := cR) (N := N) (M := k.toNatClampNeg) (U := U) i
      have y6 := q_gd_used (cG := cG) (cR := cR) (N := N) (M := k.toNatClampNeg) (U := U) i
      have y7 : (i + 1) * k.toNatClampNeg ≤ N * k.toNatClampNeg := Nat.mul_le_mul_right _ (by omega)
      rw [Nat.succ_mul] at y7
      simp only [wp_bind', wp_pure', W.writeLoc]
      refine q_mkR h0 (by rw [y5]; exact hR) tR (by rw [la]; omega) (by rw [lb]; omega) (by rw [y1]; omega) (by rw [y6]; omega) (fun acts9 => ?_)
      refine ⟨q_ou cG N U.heap.size i, ?_, Jvm.VmData.noConfusion, ?_, ?_, ?_⟩
      · show ((q_gd cG cR N k.toNatClampNeg U i).heap.push _)[U.heap.size]? = _
        rw [Array.getElem?_push, if_neg (by omega), y3]
      · show i < (q_ou cG N U.heap.size i).slots.size
        unfold q_ou
        rw [arrV_size]
        omega
      · have hG9 : ((q_gd cG cR N k.toNatClampNeg U i).pushCell (q_rw cR k.toNatClampNeg)).vm.classes[cG]? = some kG := by
          show (q_gd cG cR N k.toNatClampNeg U i).vm.classes[cG]? = _
          rw [y5]
          exact hG
        show State.fitsSlot _ cG .none i _ = true
        simp only [State.fitsSlot, State.slotType?, hG9, tG, Option.bind_eq_bind, Option.bind_some]
        rfl
      · rw [y1, q_ou_put]
        exact hk _ _ _ ⟨i + 1, by omega, by rw [hl, show N - (i + 1) = r by omega], rfl⟩
  · obtain ⟨i, hi, hl, rfl⟩ := hV
    have hN : i = N := by
      have := congrArg List.length hl
      rw [List.length_range'] at this
      have : 0 = N - i := this
      omega
    subst hN
    exact hq _ _
/-- the grid is made, row by row -/
theorem q_mkG {Q : Addr → Pre} (h1 : ¬ n < 0) (h0 : ¬ k < 0) (hG : U.vm.classes[cG]? = some kG) (tG : kG.kind = .array cR (.array .int)) (hR : U.vm.classes[cR]? = some kR) (tR : kR.kind = .array cI .int) (l1 : n.toNatClampNeg ≤ 100000) (l2 : k.toNatClampNeg ≤ 100000) (la : e.platform.arrayLengthLimit = 2147483645) (lb : e.platform.maxHeapBytes = 536870912) (r1 : U.heap.size + (1 + n.toNatClampNeg) ≤ e.platform.maxCells) (r2 : U.slotsUsed + (n.toNatClampNeg + n.toNatClampNeg * k.toNatClampNeg) ≤ e.platform.maxSlots) (hq : ∀ d' acts', Q U.heap.size d' acts' (q_gd cG cR n.toNatClampNeg k.toNatClampNeg U n.toNatClampNeg)) : wp (multianewarray.make cG [n, k]) Q E e d acts U := by
  rw [multianewarray.make]
  simp only [wp_bind', W.ite, h1, if_false, wp_pure', W.theClass]
  refine ⟨kG, hG, ?_⟩
  rw [tG]
  simp only [wp_bind']
  refine W.newArray_of hG tG (by rw [la]; omega) (by rw [lb]; show ¬ n.toNatClampNeg * 4 > _; omega) (by omega) (by omega) rfl (fun acts9 => ?_)
  have z : List.find? (fun x : Int32 => decide (x < 0)) [k] = none := by
    rw [List.find?_cons, decide_eq_false h0]
    rfl
  have y : (U.pushCell { cls := cG, slots := Array.replicate n.toNatClampNeg Value.null }) = q_gd cG cR n.toNatClampNeg k.toNatClampNeg U 0 := by
    show U.pushCell _ = U.pushCell (q_ou cG n.toNatClampNeg U.heap.size 0)
    rw [arrV_new]
    rfl
  rw [y, z]
  refine (W.ite _ _ _).mpr ?_
  split
  · exact q_lpG h0 hG tG hR tR l2 la lb r1 r2 hq
  · exact q_lpG h0 hG tG hR tR l2 la lb r1 r2 hq
/-- the instruction, from the words on the stack to the grid's address there -/
theorem q_semG {Q : Unit → Pre} {g : JFrame} {vm9 : Vm} {ix : Nat} {rest : List Value} (ht : U.topJava?.isSome) (hg : (Jvm.resolveClass g.method.cls ix).Gives e.toSetting U.vm (.ok cG) vm9) (hr : vm9.classReady g.method.cls ix cG) (hz : vm9.classes.size ≤ U.vm.classes.size) (hst : g.stack = .int k :: .int n :: rest) (h1 : ¬ n < 0) (h0 : ¬ k < 0) (hG : vm9.classes[cG]? = some kG) (tG : kG.kind = .array cR (.array .int)) (hR : vm9.classes[cR]? = some kR) (tR : kR.kind = .array cI .int) (l1 : n.toNatClampNeg ≤ 100000) (l2 : k.toNatClampNeg ≤ 100000) (la : e.platform.arrayLengthLimit = 2147483645) (lb : e.platform.maxHeapBytes = 536870912) (r1 : U.heap.size + (1 + n.toNatClampNeg) ≤ e.platform.maxCells) (r2 : U.slotsUsed + (n.toNatClampNeg + n.toNatClampNeg * k.toNatClampNeg) ≤ e.platform.maxSlots) (hq : ∀ acts', Q () true acts' ((q_gd cG cR n.toNatClampNeg k.toNatClampNeg (U.setVm vm9) n.toNatClampNeg).setTop { g with stack := .ref U.heap.size :: rest })) : wp (multianewarray.sem ix 2) Q E e d acts (U.setTop g) := by
  unfold multianewarray.sem
  simp only [wp_bind']
  rw [W.resolveClassAt_transfer (s := U.setTop g) (State.method?_setTop g ht) hg hr hz]
  show wp (Jvm.resolveClassAt ix) _ _ _ _ _ ((U.setVm vm9).setTop g)
  rw [W.resolveClassAt_ready (s := (U.setVm vm9).setTop g) (State.method?_setTop (s := U.setVm vm9) g ht) hr]
  rw [wp_bind']
  show wp (Jvm.popN [Value.int n, Value.int k].length) _ _ _ _ _ ((U.setVm vm9).setTop g)
  rw [popN_top (s := U.setVm vm9) ht hst]
  simp only [List.mapM_cons, List.mapM_nil, wp_bind', wp_pure']
  refine q_mkG (U := (U.setVm vm9).setTop { g with stack := rest }) h1 h0 hG tG hR tR l1 l2 la lb r1 r2 (fun d' acts' => ?_)
  rw [q_gd_top]
  simp only [wp_bind', W.mark, W.pushRef]
  refine ⟨_, State.topJava?_setTop' _ (by rw [q_gd_tj]; exact ht), ?_⟩
  rw [State.setTop_setTop]
  exact hq acts'
end QW
theorem q_slo_rep (e : q_S) : ∀ n : Nat, q_slo (List.replicate n e) = n * q_sz e
  | 0 => by simp [q_slo]
  | n + 1 => by
    have h := q_slo_rep e n
    rw [List.replicate_succ, show (e :: List.replicate n e) = [e] ++ List.replicate n e from rfl, q_slo_app, h, Nat.succ_mul]
    show ([q_sz e] : List Nat).sum + _ = _
    simp only [List.sum_cons, List.sum_nil]
    omega
section QS
variable {p : Program} {l : Launch} {e : Env} {R : Room} {s : State} {m : MethodId} {args : Array Value} {below : List Frame} {meth : Method} {c : Code} {Q : State → Prop}
variable {D : va_G} {cs : Nat → ClassId} {base b n0 s0 : Nat} {X : q_X} {k pc pc' : Nat} {pl pl' : q_L} {st st' : List q_V} {h h' : q_H}
theorem q_gd_st {cG cR : ClassId} {N M : Nat} {T : State} {locs : List Loc} {cells slots : Nat} (Xs : Stand p l e R s m args below meth c T locs cells slots) : ∀ i : Nat, ∃ J : List Loc, (∀ x ∈ J, s.heap.size ≤ x.base) ∧ Stand p l e R s m args below meth c (q_gd cG cR N M T i) (locs ++ J) (cells + 1 + i) (slots + N + i * M)
  | 0 => by
    have y := Xs.pushed (q_ou cG N T.heap.size 0)
    rw [show (q_ou cG N T.heap.size 0).slots.size = N from arrV_size _ _ _] at y
    refine ⟨[], (fun x hx => absurd hx List.not_mem_nil), ?_⟩
    rw [List.append_nil, Nat.zero_mul]
    exact y
  | i + 1 => by
    obtain ⟨J, hJ, y⟩ := q_gd_st (cG := cG) (cR := cR) (N := N) (M := M) Xs i
    obtain ⟨y1, -, y3, -⟩ := q_gd_heap (cG := cG) (cR := cR) (N := N) (M := M) (U := T) i
    have y := y.pushed (q_rw cR M)
    rw [show (q_rw cR M).slots.size = M from arrV_size _ _ _] at y
    have y := y.stored (a := T.heap.size) (cell := q_ou cG N T.heap.size i) (by
      show ((q_gd cG cR N M T i).heap.push _)[T.heap.size]? = _
      rw [Array.getElem?_push, if_neg (by omega), y3]) i (.ref (T.heap.size + 1 + i))
    rw [q_ou_put, List.append_assoc] at y
    refine ⟨J ++ [⟨T.heap.size, i⟩], fun x hx => ?_, ?_⟩
    · rcases List.mem_append.mp hx with z | z
      · exact hJ x z
      · rw [List.mem_singleton.mp z]
        exact Xs.heapGrown
    · rw [Nat.succ_mul, ← Nat.add_assoc, ← Nat.add_assoc]
      exact y
/-- a grid of ints, by the machine's own instruction -/
theorem q_mla {T : State} {locs : List Loc} {cells slots ix : Nat} {own : String} {g : JFrame} {n k : Int32} {rest : List Value} (Xs : Stand p l e R s m args below meth c T locs cells slots) (hx : p.tables.exec = Jvm.exec) (hown : s.vm.findClass own = some m.cls) (w1 : (Cond.classLink own ix "[[I").before args s = true) (w2 : (Cond.arrayOver (.array .int)).before args s = true) (w3 : (Cond.arrayClass .int).before args s = true) (hm : g.method = m) (hd : decode c.code g.pc = .ok (.multianewarray ix 2, 4)) (hst : g.stack = .int k :: .int n :: rest) (h1 : ¬ n < 0) (h0 : ¬ k < 0) (l1 : n.toNatClampNeg ≤ 100000) (l2 : k.toNatClampNeg ≤ 100000) (r1 : cells + (1 + n.toNatClampNeg) ≤ R.cells) (r2 : slots + (n.toNatClampNeg + n.toNatClampNeg * k.toNatClampNeg) ≤ R.slots) :
    ∃ (vm9 : Vm) (cG cR : ClassId), s.vm.findClass "[[I" = some cG ∧ s.vm.findClass ("[" ++ FieldType.int.toString) = some cR ∧ Stand p l e R s m args below meth c (q_gd cG cR n.toNatClampNeg k.toNatClampNeg (T.setVm vm9) n.toNatClampNeg) locs (cells + 1 + n.toNatClampNeg) (slots + n.toNatClampNeg + n.toNatClampNeg * k.toNatClampNeg) ∧
      ∀ t, Steps p.tables e below ((q_gd cG cR n.toNatClampNeg k.toNatClampNeg (T.setVm vm9) n.toNatClampNeg).setTop { g with pc := g.pc + 4, stack := .ref T.heap.size :: rest }) t → Steps p.tables e below (T.setTop g) t := by
  subst hm
  obtain ⟨cG, cR, kG, fG, fR, hG, tG⟩ := q_over2 w2
  obtain ⟨cR9, kR, cI, fR9, hR, tR⟩ := Cond.arrayClass_spec w3
  obtain ⟨cG9, fG9, hl⟩ := Cond.classLink_spec hown w1 e.platform (by rw [Xs.admits.platform])
  rw [q_e1] at fR
  obtain rfl : cR9 = cR := Option.some.inj (fR9.symm.trans fR)
  obtain rfl : cG9 = cG := Option.some.inj (fG9.symm.trans fG)
  obtain ⟨z1, z2, z3⟩ := State.classEntry (e := e) Xs.warmed hl
  have z4 : (T.vm.noted g.method.cls ix (.cls cG9)).classes.size ≤ T.vm.classes.size := Nat.le_of_eq (Vm.size_noted ..)
  generalize T.vm.noted g.method.cls ix (.cls cG9) = vm9 at z1 z2 z3 z4
  obtain ⟨kG9, hG9, eG⟩ := z2.alike.2.2 _ _ hG
  obtain ⟨kR9, hR9, eR⟩ := z2.alike.2.2 _ _ hR
  obtain ⟨J, hJ, y⟩ := q_gd_st (cG := cG9) (cR := cR9) (N := n.toNatClampNeg) (M := k.toNatClampNeg) (Xs.noted z2) n.toNatClampNeg
  obtain ⟨y1, y2⟩ := Xs.roomAbove r1 r2
  refine ⟨vm9, cG9, cR9, fG, fR, y.dropFresh hJ, fun t ht => ?_⟩
  jvm_step Xs.here [hx, hd]
  refine q_semG Xs.here.top z1 z3 z4 hst h1 h0 hG9 (by rw [eG]; exact tG) hR9 (by rw [eR]; exact tR) l1 l2 (Launch.admits_arrayLengthLimit Xs.admits) (Launch.admits_maxHeapBytes Xs.admits) y1 y2 (fun acts9 => ?_)
  have tj : (q_gd cG9 cR9 n.toNatClampNeg k.toNatClampNeg (T.setVm vm9) n.toNatClampNeg).topJava?.isSome := by
    rw [q_gd_tj]
    exact Xs.here.top
  intro acts8
  simpa [jvm, tj] using ht
theorem q_s_nwm (C0 : q_Cx D cs base b n0 X k p s m args meth c) (hdg : decode (q_by k) pc = .ok (.multianewarray 18 2, 4)) (hcx : q_cx k = 2) (hRc : h'.1.length ≤ R.cells + n0) (hRs : q_slo h'.1 ≤ R.slots + s0) (hs : q_nwm pc pl st h = some (pc', pl', st', h')) (g : q_G p l e R s m args below meth c Q D cs base b n0 s0 pc' pl' st' h') : q_G p l e R s m args below meth c Q D cs base b n0 s0 pc pl st h := by
  intro ls H locs cells slots hD hc hz
  refine q_W_sz C0 hD hc (fun hsz => ?_)
  unfold q_nwm at hs
  split at hs
  · rename_i kk n st2
    cases hb : (decide (¬ n < 0) && decide (¬ kk < 0) && Nat.ble n.toNatClampNeg 1000 && Nat.ble kk.toNatClampNeg 1000) with
    | false => rw [hb] at hs; cases hs
    | true =>
      rw [hb] at hs
      simp only [Bool.and_eq_true, decide_eq_true_eq] at hb
      obtain ⟨⟨⟨b1, b2⟩, b3⟩, b4⟩ := hb
      have b3 := Nat.le_of_ble_eq_true b3
      have b4 := Nat.le_of_ble_eq_true b4
      generalize hN : n.toNatClampNeg = N at *
      generalize hM : kk.toNatClampNeg = M at *
      generalize hoo : (.inr (.inr (3, (List.range N).map (fun i => some (h.1.length + 1 + i)))) : q_S) = oo at *
      have hs : some (pc + 4, pl, (.inr (.inl (some h.1.length)) : q_V) :: st2, (h.1 ++ (oo :: List.replicate N (.inr (.inl (0, M)) : q_S)), q_zr h.2 h.1.length (N + 1))) = some (pc', pl', st', h') := hs
      injection hs with hs
      injection hs with a1 hs
      injection hs with a2 hs
      injection hs with a3 a4
      subst a1; subst a2; subst a3; subst a4
      have hozs : q_sz oo = N := by
        rw [← hoo]
        show ((List.range N).map (fun i => some (h.1.length + 1 + i))).length = N
        rw [List.length_map, List.length_range]
      have hlen : (h.1 ++ (oo :: List.replicate N (.inr (.inl (0, M)) : q_S))).length = h.1.length + 1 + N := by
        rw [List.length_append, List.length_cons, List.length_replicate]
        omega
      have hslo : q_slo (h.1 ++ (oo :: List.replicate N (.inr (.inl (0, M)) : q_S))) = q_slo h.1 + (N + N * M) := by
        rw [q_slo_app, show (oo :: List.replicate N (.inr (.inl (0, M)) : q_S)) = [oo] ++ List.replicate N (.inr (.inl (0, M)) : q_S) from rfl, q_slo_app, q_slo_rep]
        show q_slo h.1 + (([q_sz oo] : List Nat).sum + N * M) = _
        rw [hozs]
        simp only [List.sum_cons, List.sum_nil]
        omega
      have hRc : (h.1 ++ (oo :: List.replicate N (.inr (.inl (0, M)) : q_S))).length ≤ R.cells + n0 := hRc
      have hRs : q_slo (h.1 ++ (oo :: List.replicate N (.inr (.inl (0, M)) : q_S))) ≤ R.slots + s0 := hRs
      rw [hlen] at hRc
      rw [hslo] at hRs
      have hown := C0.2.2.2.1
      rw [hcx] at hown
      have hown : s.vm.findClass "TallyCourt$Debts" = some m.cls := hown
      intro T hT Xs
      obtain ⟨vm9, cG, cR, fG, fR, X', step⟩ := q_mla (g := F0 m pc ls (.int kk :: .int n :: st2.map (q_ev base b))) Xs C0.1 hown (C0.2.2.2.2.1 _ q_w125) (C0.2.2.2.2.1 _ q_w126) (C0.2.2.2.2.1 _ q_w39) rfl (by rw [C0.2.1]; exact hdg) rfl b1 b2 (by omega) (by omega) (by rw [hN]; omega) (by rw [hN, hM]; omega)
      rw [hN, hM] at X' step
      rw [← q_e2] at fG
      obtain rfl : cG = cs 3 := q_cs_eq C0.2.2.2.2.2.1 (kd := 3) (ty := .array .int) rfl fG
      obtain rfl : cR = cs 0 := q_cs_eq C0.2.2.2.2.2.1 (kd := 0) (ty := .int) rfl fR
      obtain ⟨f1, hold, f2, hrow⟩ := q_gd_heap (cG := cs 3) (cR := cs 0) (N := N) (M := M) (U := T.setVm vm9) N
      rw [show (T.setVm vm9).heap = H from hT] at f1 hold f2 hrow
      generalize q_gd (cs 3) (cs 0) N M (T.setVm vm9) N = F at X' step f1 hold f2 hrow
      have hP1 : va_P D q_cl (q_wl cs base (h.1 ++ (oo :: List.replicate N (.inr (.inl (0, M)) : q_S))) (q_zr h.2 h.1.length (N + 1))) F.heap := by
        intro k9 x hx
        rw [q_wl_get] at hx
        by_cases h9 : k9 < h.1.length
        · rw [List.getElem?_append_left h9, q_zr_lt h9] at hx
          have hx2 : (q_wl cs base h.1 h.2)[k9]? = some x := by rw [q_wl_get]; exact hx
          exact (hD.1 k9 x hx2).kept (hold _ ((hD.1 k9 x hx2).lt))
        · rw [List.getElem?_append_right (by omega)] at hx
          by_cases h8 : k9 = h.1.length
          · subst h8
            rw [Nat.sub_self] at hx
            cases hx
            rw [← hoo]
            show F.heap[base + h.1.length]? = some (vp_cell (cs 3) (((List.range N).map (fun i => some (h.1.length + 1 + i))).length, .inr (.inr (.inr (.inr (fun j => (((List.range N).map (fun i => some (h.1.length + 1 + i))).getD j none).map (fun k => base + k)))))))
            rw [← hsz, f2, vp_cell_q, List.length_map, List.length_range]
            unfold q_ou
            refine congrArg some (congrArg (arrV (cs 3) N) (funext fun j => congrArg va_rf ?_))
            rw [List.getD_eq_getElem?_getD, List.getElem?_map]
            by_cases hj : j < N
            · rw [if_pos hj, List.getElem?_range hj]
              show some (H.size + 1 + j) = some (base + (h.1.length + 1 + j))
              rw [hsz]
              congr 1
              omega
            · rw [if_neg hj, List.getElem?_eq_none (by rw [List.length_range]; omega)]
              rfl
          · rw [show k9 - h.1.length = (k9 - h.1.length - 1) + 1 by omega, List.getElem?_cons_succ, List.getElem?_replicate] at hx
            by_cases h7 : k9 - h.1.length - 1 < N
            · rw [if_pos h7] at hx
              cases hx
              rw [q_zr_in (by omega) (by omega)]
              show F.heap[base + k9]? = some (vp_cell (cs 0) (M, .inl (fun _ => 0)))
              have := hrow _ h7
              rw [show H.size + 1 + (k9 - h.1.length - 1) = base + k9 by omega] at this
              rw [this]
              rfl
            · rw [if_neg h7] at hx
              cases hx
      have hS1 : va_S (q_A base) s.heap F.heap locs := ⟨Nat.le_trans hD.2.1.1 (by rw [f1]; omega), fun x h1 h2 => (hold x (Nat.lt_of_lt_of_le h1 hD.2.1.1)).trans (hD.2.1.2.1 x h1 h2), hD.2.1.2.2⟩
      obtain ⟨t, a1, b9⟩ := g ls F.heap locs (cells + 1 + N) (slots + N + N * M) ⟨hP1, hS1, hD.2.2⟩ (by show _ = (h.1 ++ (oo :: List.replicate N (.inr (.inl (0, M)) : q_S))).length; rw [hlen]; omega) (by show _ = q_slo (h.1 ++ (oo :: List.replicate N (.inr (.inl (0, M)) : q_S))); rw [hslo]; omega) F rfl X'
      refine ⟨t, step t ?_, b9⟩
      have e9 : T.heap.size = base + h.1.length := by rw [hT, hsz]
      rw [e9]
      exact a1
  · cases hs
end QS
