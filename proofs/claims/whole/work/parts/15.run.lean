def q_rm (d mc ms : Nat) : Room := { frames := d + 2, cells := mc, slots := ms, locals := 64 * (d + 1) }
/-- the words that do not keep by themselves -/
def q_x1 : Cond := .arrayOver (.object "TallyCourt$Piece")
def q_x2 : Cond := .arrayOver (.array .int)
def q_x3 : Cond := .methodLinkNest "TallyCourt$Measures" 19 ⟨"TallyCourt", "within", "(III)Z"⟩ "TallyCourt"
def q_x4 : Cond := .methodLinkNest "TallyCourt$Measures" 23 ⟨"TallyCourt", "quotient", "(II)I"⟩ "TallyCourt"
def q_x5 : Cond := .methodLinkNest "TallyCourt$Board" 30 ⟨"TallyCourt", "quotient", "(II)I"⟩ "TallyCourt"
def q_pv (w : Cond) : Bool := match w with
  | .privateMethod _ => true
  | _ => false
theorem q_split : ∀ w ∈ lw_tbl, goodWord w = true ∨ q_pv w = true ∨ w = q_x1 ∨ w = q_x2 ∨ w = q_x3 ∨ w = q_x4 ∨ w = q_x5 := by decide +kernel
theorem q_xin : q_x1 ∈ lw_tbl ∧ q_x2 ∈ lw_tbl ∧ q_x3 ∈ lw_tbl ∧ q_x4 ∈ lw_tbl ∧ q_x5 ∈ lw_tbl := ⟨q_in_tbl (i := 23) (by decide +kernel), q_in_tbl (i := 126) (by decide +kernel), q_in_tbl (i := 272) (by decide +kernel), q_in_tbl (i := 410) (by decide +kernel), q_in_tbl (i := 645) (by decide +kernel)⟩
def q_xt (a : Array Value) (U : State) : Prop := q_x1.before a U = true ∧ q_x2.before a U = true ∧ q_x3.before a U = true ∧ q_x4.before a U = true ∧ q_x5.before a U = true ∧ ∀ y, Cond.privateMethod y ∈ lw_tbl → (Cond.privateMethod y).before a U = true
theorem q_xt_of {a : Array Value} {U : State} (h : ∀ w ∈ lw_tbl, w.before a U = true) : q_xt a U := ⟨h _ q_xin.1, h _ q_xin.2.1, h _ q_xin.2.2.1, h _ q_xin.2.2.2.1, h _ q_xin.2.2.2.2, fun y hy => h _ hy⟩
theorem q_ao_mv {ty : FieldType} {a a2 : Array Value} {s U : State} (hW : s.vm.Alike U.vm) (h : (Cond.arrayOver ty).before a s = true) : (Cond.arrayOver ty).before a2 U = true := by
  have e := Cond.arrayOver_setVmC (args := a) (s := s) hW ty
  rw [h] at e
  exact e
theorem q_xt_mv {a a2 : Array Value} {s U : State} (hW : s.WarmedH U.vm) (h : q_xt a s) : q_xt a2 U := ⟨q_ao_mv hW.alike h.1, q_ao_mv hW.alike h.2.1, va_Nw.use rfl (va_Nw.warmM hW (va_Nw.of rfl h.2.2.1)), va_Nw.use rfl (va_Nw.warmM hW (va_Nw.of rfl h.2.2.2.1)), va_Nw.use rfl (va_Nw.warmM hW (va_Nw.of rfl h.2.2.2.2.1)), fun y hy => Cond.privateMethod_warm hW (h.2.2.2.2.2 y hy)⟩
theorem q_xt_sm {a a2 : Array Value} {s U : State} (hv : s.vm = U.vm) (h : q_xt a s) : q_xt a2 U := ⟨q_ao_mv (hv ▸ Vm.Alike.refl s.vm) h.1, q_ao_mv (hv ▸ Vm.Alike.refl s.vm) h.2.1, va_Nw.use rfl (va_Nw.same rfl hv (va_Nw.of rfl h.2.2.1)), va_Nw.use rfl (va_Nw.same rfl hv (va_Nw.of rfl h.2.2.2.1)), va_Nw.use rfl (va_Nw.same rfl hv (va_Nw.of rfl h.2.2.2.2.1)), fun y hy => va_Nw.use rfl (va_Nw.same rfl hv (va_Nw.of rfl (h.2.2.2.2.2 y hy)))⟩
def q_Wd (D : va_G) (cs : Nat → ClassId) (base : Nat) (h : q_H) (U : State) : Prop := U.heap.size = base + h.1.length ∧ va_P D q_cl (q_wl cs base h.1 h.2) U.heap ∧ va_K D q_cl (q_tys cs) U ∧ q_xt #[] U
def q_Qc (D : va_G) (cs : Nat → ClassId) (base : Nat) (r : Option Int32) (h : q_H) : Array Value → State → Outcome → State → Prop := match r with
  | some v => va_Qi (S := Unit) (fun x _ => x = v) (fun _ t => q_Wd D cs base h t) (q_A base)
  | none => va_Qv (S := Unit) (fun _ => True) (fun _ t => q_Wd D cs base h t) (q_A base)
def q_ws (f : Nat) : List Cond := Cond.code (q_nm f) (q_by f) (q_mL f) (q_rt f) :: lw_tbl.filter goodWord
def q_Met (l : Launch) (D : va_G) (cs : Nat → ClassId) (base d f : Nat) (as : List q_V) (h : q_H) (r : Option Int32) (h' : q_H) : Prop :=
  Met l (q_nm f) (q_ws f) (q_rm d (h'.1.length - h.1.length) (q_slo h'.1 - q_slo h.1)) (va_Pc (as.map (q_ev base 0)) (q_Wd D cs base h)) (q_Qc D cs base r h') (h'.1.length - h.1.length) (q_slo h'.1 - q_slo h.1) (q_A base)
theorem q_cin {f : Nat} (h0 : 0 < f) (hf : f < 182) : Cond.code (q_nm f) (q_by f) (q_mL f) (q_rt f) ∈ lw_tbl := q_in_tbl (q_mok_all f h0 hf).1
theorem q_good {f : Nat} (h0 : 0 < f) (hf : f < 182) : GoodIn lw_tbl (q_ws f) := by
  intro w hw
  rcases List.mem_cons.mp hw with rfl | hw
  · exact ⟨q_cin h0 hf, good_of_word rfl⟩
  · obtain ⟨h1, h2⟩ := List.mem_filter.mp hw
    exact ⟨h1, good_of_word h2⟩
theorem q_hts {f : Nat} {a : Array Value} {U : State} (h : ∀ w ∈ q_ws f, w.before a U = true) (hx : q_xt #[] U) : ∀ w ∈ lw_tbl, w.before a U = true := by
  intro w hw
  obtain ⟨x1, x2, x3, x4, x5, x6⟩ := q_xt_sm (a2 := a) (U := U) rfl hx
  rcases q_split w hw with g | g | rfl | rfl | rfl | rfl | rfl
  · exact h w (List.mem_cons_of_mem _ (List.mem_filter.mpr ⟨hw, g⟩))
  · cases w with
    | privateMethod y => exact x6 y hw
    | _ => cases g
  · exact x1
  · exact x2
  · exact x3
  · exact x4
  · exact x5
theorem q_blind {D : va_G} {cs : Nat → ClassId} {base : Nat} {h : q_H} {vs : List Value} : FrameBlind (va_Pc vs (q_Wd D cs base h)) := by
  intro a U g mk q
  obtain ⟨q0, q1, q2, q3, q4⟩ := q
  exact ⟨q0, q1, q2, va_K.moved (u := U) (U := U.calling g mk a) (Vm.Alike.refl U.vm) q3, q_xt_sm (s := U) (U := U.calling g mk a) rfl q4⟩
theorem q_ev_ns {base b b2 : Nat} {as : List q_V} (h : q_ns as = true) : as.map (q_ev base b) = as.map (q_ev base b2) := by
  apply List.map_congr_left
  intro v hv
  have := List.all_eq_true.mp h v hv
  rcases v with x | r | u
  · rfl
  · rfl
  · cases this
def q_psh (r : Option Int32) (rest : List q_V) : List q_V := match r with
  | some v => .inl v :: rest
  | none => rest
section QR
variable {p : Program} {l : Launch} {e : Env} {R : Room} {s : State} {m : MethodId} {args : Array Value} {below : List Frame} {meth : Method} {c : Code} {Q : State → Prop}
variable {D : va_G} {cs : Nat → ClassId} {base b n0 s0 : Nat} {X : q_X} {k pc pc' : Nat} {pl pl' : q_L} {st st' : List q_V} {h h' : q_H}
/-- behind a call -/
theorem q_aft (C0 : q_Cx D cs base b n0 X k p s m args meth c) {H : Heap} {ls : Array Slot} {locs : List Loc} {cells slots : Nat} {r1 : Option Int32} {h1 : q_H} {st0 : List Value} {rest : List q_V} {a : Array Value} (hD : q_Dy D cs base b s h pl ls H locs) (hc : cells + n0 = h.1.length) (hz : slots + s0 = q_slo h.1) (hmo : q_mo h h1) (hr : va_Run p l e R s m args below meth c H locs cells slots (h1.1.length - h.1.length) (q_slo h1.1 - q_slo h.1) (F0 m pc ls st0) (rest.map (q_ev base b)) (q_Qc D cs base r1 h1 a) (q_A base)) (g : q_G p l e R s m args below meth c Q D cs base b n0 s0 (pc + 3) pl (q_psh r1 rest) h1) : W p l e R s m args below meth c H locs cells slots Q (F0 m pc ls st0) := by
  have m1 := hmo.1
  have m2 := hmo.2
  cases r1 with
  | some v =>
    refine va_calli (post := fun x (_ : Unit) => x = v) (B := fun _ t => q_Wd D cs base h1 t) (A1 := q_A base) (a := a) hr hD.2.1 (fun _ _ q => q) (fun _ q => q) (fun x u t H1 locs1 ht hvm hx hB hz1 hk1 hS1 => ?_)
    subst hx
    obtain ⟨-, hP1, -, -⟩ := hB
    rw [ht] at hP1
    exact g ls H1 locs1 _ _ ⟨hP1, hS1, hD.2.2⟩ (by omega) (by omega)
  | none =>
    refine va_callv (post := fun (_ : Unit) => True) (B := fun _ t => q_Wd D cs base h1 t) (A1 := q_A base) (a := a) hr hD.2.1 (fun _ _ q => q) (fun _ q => q) (fun u t H1 locs1 ht hvm hx hB hz1 hk1 hS1 => ?_)
    obtain ⟨-, hP1, -, -⟩ := hB
    rw [ht] at hP1
    exact g ls H1 locs1 _ _ ⟨hP1, hS1, hD.2.2⟩ (by omega) (by omega)
theorem q_ml {i f : Nat} (C0 : q_Cx D cs base b n0 X k p s m args meth c) (hok : q_ML.any (fun q => Nat.beq q.1 (q_cx k) && Nat.beq q.2.1 i && Nat.beq q.2.2.1 f) = true) : (Cond.methodLink (q_cn (q_cx k)) i (q_nm f)).before args s = true := by
  obtain ⟨q, hq, hf⟩ := q_any hok
  simp only [Bool.and_eq_true] at hf
  have e1 := Nat.eq_of_beq_eq_true hf.1.1
  have e2 := Nat.eq_of_beq_eq_true hf.1.2
  have e3 := Nat.eq_of_beq_eq_true hf.2
  have := q_in_tbl (q_ML_ok q hq)
  rw [e1, e2, e3] at this
  exact C0.2.2.2.2.1 _ this
theorem q_nl {i f : Nat} (C0 : q_Cx D cs base b n0 X k p s m args meth c) (hok : q_NL.any (fun q => Nat.beq q.1 (q_cx k) && Nat.beq q.2.1 i && Nat.beq q.2.2.1 f) = true) : (Cond.methodLinkNest (q_cn (q_cx k)) i (q_nm f) "TallyCourt").before args s = true := by
  obtain ⟨q, hq, hf⟩ := q_any hok
  simp only [Bool.and_eq_true] at hf
  have e1 := Nat.eq_of_beq_eq_true hf.1.1
  have e2 := Nat.eq_of_beq_eq_true hf.1.2
  have e3 := Nat.eq_of_beq_eq_true hf.2
  have := q_in_tbl (q_NL_ok q hq)
  rw [e1, e2, e3] at this
  exact C0.2.2.2.2.1 _ this
theorem q_st_arg {f : Nat} (hn : q_na f ≤ st.length) : st = (q_arg f st).reverse ++ st.drop (q_na f) ∧ (q_arg f st).length = q_na f := by
  unfold q_arg
  constructor
  · rw [List.reverse_reverse, List.take_append_drop]
  · rw [List.length_reverse, List.length_take]
    omega
/-- ONE CALL -/
theorem q_call (C0 : q_Cx D cs base b n0 X k p s m args meth c) (hpl : pl.length = q_mL k) {e9 : q_E} (he : q_cd k pc = some e9) (hkd : q_kd e9 = 1) (hokc : q_okc e9.2.1 st h = true) {d : Nat} {r1 : Option Int32} {h1 : q_H} (hmo : q_mo h h1) (hRc : h1.1.length ≤ R.cells + n0) (hRs : q_slo h1.1 ≤ R.slots + s0) (hRf : d + 3 ≤ R.frames) (hRl : 64 * (d + 2) ≤ R.locals) (hM : q_Met l D cs base d e9.2.1 (q_arg e9.2.1 st) h r1 h1) (g : q_G p l e R s m args below meth c Q D cs base b n0 s0 (pc + 3) pl (q_psh r1 (st.drop (q_na e9.2.1))) h1) : q_G p l e R s m args below meth c Q D cs base b n0 s0 pc pl st h := by
  intro ls H locs cells slots hD hc hz
  refine q_W_sz C0 hD hc (fun hsz => ?_)
  have hok := q_eok_all C0.2.2.2.2.2.2.2.2.2 he
  obtain ⟨ins, f, b9, cc⟩ := e9
  unfold q_eok at hok
  rw [Bool.and_eq_true] at hok
  obtain ⟨hdg, hok⟩ := hok
  have hdg := of_decide_eq_true hdg
  dsimp only at hdg hok hokc hM g
  unfold q_okc at hokc
  simp only [Bool.and_eq_true] at hokc
  obtain ⟨⟨⟨k1, k2⟩, k3⟩, k4⟩ := hokc
  have k1 := Nat.le_of_ble_eq_true k1
  have k2 := Nat.le_of_ble_eq_true k2
  obtain ⟨hst, hal⟩ := q_st_arg (st := st) (f := f) k1
  have hsum : 2 * (F0 m pc ls (st.map (q_ev base b))).monitorRoom + (((st.drop (q_na f)).map (q_ev base b)).map fun v => v.category).sum ≤ 8 := by
    show 2 * 0 + _ ≤ 8
    have := q_cats (base := base) (b := b) k2
    omega
  generalize has : q_arg f st = as at *
  generalize hre : st.drop (q_na f) = rest at *
  have hmap : as.map (q_ev base b) = as.map (q_ev base 0) := q_ev_ns k3
  have hst2 : st.map (q_ev base b) = (as.map (q_ev base 0)).reverse ++ rest.map (q_ev base b) := by
    rw [hst, List.map_append, List.map_reverse, hmap]
  have m1 := hmo.1
  have m2 := hmo.2
  have hsize : (F0 m pc ls (st.map (q_ev base b))).locals.size = q_mL k := hD.2.2.1.trans hpl
  have hroom : cells + (h1.1.length - h.1.length) ≤ R.cells ∧ slots + (q_slo h1.1 - q_slo h.1) ≤ R.slots := ⟨by omega, by omega⟩
  have hFix : CallFix p m c (q_by k) (q_mL k) s args lw_tbl (q_cn (q_cx k)) := ⟨C0.1, C0.2.1, C0.2.2.1, C0.2.2.2.1, C0.2.2.2.2.1⟩
  have hWd : ∀ U : State, U.heap = H → s.WarmedH U.vm → q_Wd D cs base h U := fun U hU hW => ⟨by rw [hU]; exact hsz, by rw [hU]; exact hD.1, va_K.moved hW.alike C0.2.2.2.2.2.1, q_xt_mv hW (q_xt_of C0.2.2.2.2.1)⟩
  have fact : ∀ (h0 : 0 < f) (hf : f < 182), q_mok f := fun h0 hf => q_mok_all f h0 hf
  have hCB : ∀ (h0 : 0 < f) (hf : f < 182) (i : Nat), (Cond.methodLink (q_cn (q_cx k)) i (q_nm f)).before args s = true → CallB R s args (q_cn (q_cx k)) i (q_nm f) (q_by f) (q_mL f) (q_rt f) (q_ws f) (q_rm d (h1.1.length - h.1.length) (q_slo h1.1 - q_slo h.1)) (h1.1.length - h.1.length) (q_slo h1.1 - q_slo h.1) (q_na f - (bif q_stt f then 0 else 1)) := by
    intro h0 hf i hl
    obtain ⟨f1, f2, f3, f4, f5, f6, f7, f8, f9, f10, f11⟩ := fact h0 hf
    have hini : (Cond.initialized (q_nm f).cls).before args s = true := by rw [f4]; exact C0.2.2.2.2.1 _ (q_in_tbl f3)
    exact callB_of _ C0.2.2.2.2.1 (q_good h0 hf) rfl rfl rfl hini hl ⟨f11.1, f11.2, f6⟩ ⟨by show d + 2 + 1 ≤ _; omega, by show 8 + (q_mL f + 11) + 64 * (d + 1) ≤ _; omega⟩
  cases ins with
  | invokevirtual i =>
    simp only [Bool.and_eq_true] at hok
    obtain ⟨⟨⟨⟨o1, o2⟩, o3⟩, o4⟩, o5⟩ := hok
    have h0 : 0 < f := by simpa [Nat.blt_eq] using o2
    have hf : f < 182 := by simpa [Nat.blt_eq] using o3
    have hstt : q_stt f = false := by simpa using o4
    have hnm : ¬ (q_nm f).name = "<init>" := by simpa using o5
    obtain ⟨f1, f2, f3, f4, f5, f6, f7, f8, f9, f10, f11⟩ := fact h0 hf
    unfold q_rc at k4
    rw [hstt, Bool.false_or] at k4
    rcases as with _ | ⟨x | ⟨_ | r⟩ | u, as2⟩
    · cases k4
    · cases k4
    · cases k4
    · dsimp only at k4
      cases hr : h.1[r]? with
      | none => rw [hr] at k4; cases k4
      | some e8 =>
        rw [hr] at k4
        rcases e8 with ⟨ci, sl⟩ | e8
        · have hci : ci = q_cx f := Nat.eq_of_beq_eq_true k4
          subst hci
          have hci10 : q_cx f < 10 := (f9 hstt).2
          have hsel : (Cond.selects (q_nm f).cls (q_nm f) (q_nm f)).before args s = true := by
            rcases f10 with q | q | q
            · rw [hstt] at q; cases q
            · exact absurd q hnm
            · exact C0.2.2.2.2.1 _ (List.mem_of_getElem? q)
          have hins : (Cond.instanceMethod (q_nm f)).before args s = true := by
            rw [hstt] at f2
            exact C0.2.2.2.2.1 _ (q_in_tbl f2)
          have hcb := hCB h0 hf i (q_ml C0 o1)
          rw [hstt] at hcb
          have hrec := va_recv C0.2.2.2.2.2.1 hD.1 (q_clget (q_cx f) hci10) (q_wl_at (m := h.2) hr)
          refine q_aft C0 hD hc hz hmo (va_runV (C := (q_nm f).cls) (As := as2.map (q_ev base 0)) (b := base + r) hFix hM ⟨hcb, hins, hsel⟩ ⟨q_blind, by rw [f4]; exact hrec, fun U hU hW => ⟨rfl, hWd U hU hW⟩⟩ rfl (by rw [List.length_map]; rw [List.length_cons] at hal; show _ = q_na f - 1; omega) hsize (by rw [show (F0 m pc ls (st.map (q_ev base b))).stack = st.map (q_ev base b) from rfl, hst2]; rw [List.map_cons, List.reverse_cons, List.append_assoc]; rfl) hsum hdg hroom) g
        · cases k4
    · cases k4
  | invokespecial i =>
    unfold q_kd at hkd
    dsimp only at hkd
    cases ha : Nat.beq f 998 with
    | true => rw [ha] at hkd; cases hkd
    | false =>
      rw [ha] at hok
      have hok : (q_ML.any (fun q => Nat.beq q.1 (q_cx k) && Nat.beq q.2.1 i && Nat.beq q.2.2.1 f) && Nat.blt 0 f && Nat.blt f 182 && !(q_stt f) && decide ((q_nm f).name = "<init>") && (q_rt f).isNone) = true := hok
      simp only [Bool.and_eq_true, decide_eq_true_eq] at hok
      obtain ⟨⟨⟨⟨⟨o1, o2⟩, o3⟩, o4⟩, o5⟩, o6⟩ := hok
      have h0 : 0 < f := by simpa [Nat.blt_eq] using o2
      have hf : f < 182 := by simpa [Nat.blt_eq] using o3
      have hstt : q_stt f = false := by simpa using o4
      have hrt : q_rt f = none := by simpa using o6
      obtain ⟨f1, f2, f3, f4, f5, f6, f7, f8, f9, f10, f11⟩ := fact h0 hf
      unfold q_rc at k4
      rw [hstt, Bool.false_or] at k4
      have hins : (Cond.instanceMethod (q_nm f)).before args s = true := by
        rw [hstt] at f2
        exact C0.2.2.2.2.1 _ (q_in_tbl f2)
      have hcb := hCB h0 hf i (q_ml C0 o1)
      rw [hstt, hrt] at hcb
      rcases as with _ | ⟨x | ⟨_ | r⟩ | u, as2⟩
      · cases k4
      · cases k4
      · cases k4
      · exact q_aft C0 hD hc hz hmo (va_runI (As := as2.map (q_ev base 0)) (b := base + r) hFix hM ⟨hcb, o5, hins⟩ ⟨q_blind, fun U hU hW => ⟨rfl, hWd U hU hW⟩⟩ rfl (by rw [List.length_map]; rw [List.length_cons] at hal; show _ = q_na f - 1; omega) hsize (by rw [show (F0 m pc ls (st.map (q_ev base b))).stack = st.map (q_ev base b) from rfl, hst2]; rw [List.map_cons, List.reverse_cons, List.append_assoc]; rfl) hsum hdg hroom) g
      · cases k4
  | invokestatic i =>
    unfold q_kd at hkd
    dsimp only at hkd
    cases ha : Nat.ble 995 f with
    | true => rw [ha] at hkd; cases hkd
    | false =>
      have ha2 : Nat.beq f 999 = false := by
        cases hb : Nat.beq f 999 with
        | false => rfl
        | true =>
          have := Nat.eq_of_beq_eq_true hb
          subst this
          cases ha
      rw [ha, ha2] at hok
      have hok : (q_stt f && Nat.blt 0 f && Nat.blt f 182 && (bif Nat.beq b9 0 then q_ML.any (fun q => Nat.beq q.1 (q_cx k) && Nat.beq q.2.1 i && Nat.beq q.2.2.1 f) else q_NL.any (fun q => Nat.beq q.1 (q_cx k) && Nat.beq q.2.1 i && Nat.beq q.2.2.1 f))) = true := hok
      simp only [Bool.and_eq_true] at hok
      obtain ⟨⟨⟨hstt, o2⟩, o3⟩, o4⟩ := hok
      have h0 : 0 < f := by simpa [Nat.blt_eq] using o2
      have hf : f < 182 := by simpa [Nat.blt_eq] using o3
      obtain ⟨f1, f2, f3, f4, f5, f6, f7, f8, f9, f10, f11⟩ := fact h0 hf
      have hsta : (Cond.static (q_nm f)).before args s = true := by
        rw [hstt] at f2
        exact C0.2.2.2.2.1 _ (q_in_tbl f2)
      cases hb : Nat.beq b9 0 with
      | true =>
        rw [hb] at o4
        have hcb := hCB h0 hf i (q_ml C0 o4)
        rw [hstt] at hcb
        exact q_aft C0 hD hc hz hmo (va_runS (As := as.map (q_ev base 0)) hFix hM ⟨hcb, hsta⟩ ⟨q_blind, fun U hU hW => ⟨rfl, hWd U hU hW⟩⟩ rfl (by rw [List.length_map, hal]; rfl) hsize (by rw [show (F0 m pc ls (st.map (q_ev base b))).stack = st.map (q_ev base b) from rfl, hst2]) hsum hdg hroom) g
      | false =>
        rw [hb] at o4
        have hl := q_nl C0 o4
        have hini : (Cond.initialized (q_nm f).cls).before args s = true := by rw [f4]; exact C0.2.2.2.2.1 _ (q_in_tbl f3)
        rw [hstt] at f6
        have hcn := va_cnB (R := R) (own := q_cn (q_cx k)) (host := "TallyCourt") (index := i) (rm := q_rm d (h1.1.length - h.1.length) (q_slo h1.1 - q_slo h.1)) (mc := h1.1.length - h.1.length) (ms := q_slo h1.1 - q_slo h.1) (q_na f - 0) C0.2.2.2.2.1 (q_good h0 hf) (ws := q_ws f) rfl rfl rfl (va_Nw.of rfl hl) hini ⟨f11.1, f11.2, f6⟩ ⟨by show d + 2 + 1 ≤ _; omega, by show 8 + (q_mL f + 11) + 64 * (d + 1) ≤ _; omega⟩
        exact q_aft C0 hD hc hz hmo (va_runSN (As := as.map (q_ev base 0)) hFix hM ⟨hcn, hsta, trivial⟩ ⟨q_blind, fun U hU hW => ⟨rfl, hWd U hU hW⟩⟩ rfl (by rw [List.length_map, hal]; rfl) hsize (by rw [show (F0 m pc ls (st.map (q_ev base b))).stack = st.map (q_ev base b) from rfl, hst2]) hsum hdg hroom) g
  | _ => cases hkd
end QR
