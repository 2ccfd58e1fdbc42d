/-! each step of the pure machine is one of the machine -/
def q_Cx (D : va_G) (cs : Nat → ClassId) (base b n0 : Nat) (X : q_X) (k : Nat) (p : Program) (s : State) (m : MethodId) (args : Array Value) (meth : Method) (c : Code) : Prop :=
  p.tables.exec = Jvm.exec ∧ c.code = q_by k ∧ c.maxLocals = q_mL k ∧ s.vm.findClass (q_cn (q_cx k)) = some m.cls ∧ (∀ w ∈ lw_tbl, w.before args s = true) ∧ va_K D q_cl (q_tys cs) s ∧ (k = 0 ∨ meth.name = (q_nm k).name) ∧ s.heap.size = base + n0 ∧ (∀ (L : Nat) (xs : Nat → Int32), X = some (L, xs) → va_X b L xs s s.heap ∧ b < base) ∧ k < 182
def q_Dy (D : va_G) (cs : Nat → ClassId) (base b : Nat) (s : State) (h : q_H) (pl : q_L) (ls : Array Slot) (H : Heap) (locs : List Loc) : Prop :=
  va_P D q_cl (q_wl cs base h.1 h.2) H ∧ va_S (q_A base) s.heap H locs ∧ q_LR base b ls pl
/-- the machine, wherever it stands as the pure machine does, comes to Q -/
def q_G (p : Program) (l : Launch) (e : Env) (R : Room) (s : State) (m : MethodId) (args : Array Value) (below : List Frame) (meth : Method) (c : Code) (Q : State → Prop) (D : va_G) (cs : Nat → ClassId) (base b n0 s0 : Nat) (pc : Nat) (pl : q_L) (st : List q_V) (h : q_H) : Prop :=
  ∀ (ls : Array Slot) (H : Heap) (locs : List Loc) (cells slots : Nat), q_Dy D cs base b s h pl ls H locs → cells + n0 = h.1.length → slots + s0 = q_slo h.1 → W p l e R s m args below meth c H locs cells slots Q (F0 m pc ls (st.map (q_ev base b)))
theorem q_tg_ok {pc : Nat} {off : Int} (h : q_tok pc off = true) : (pc : Int) + off = (q_tg pc off : Int) := by
  have h1 : 0 ≤ (pc : Int) + off := of_decide_eq_true h
  unfold q_tg
  omega
theorem q_in_vp {i : Int32} {n : Nat} (h : q_in i n = true) : vp_in i n := of_decide_eq_true (p := ¬ (i < 0 ∨ n ≤ i.toNatClampNeg)) h
theorem q_fs_get {base : Nat} {sl : List (Option (Option Nat))} {f : Nat → Int32} {j : Nat} : (q_fs base sl f)[j]? = (sl[j]?).map (fun s => match s with | none => .int (f j) | some r => q_ad base r) := by
  unfold q_fs
  rw [List.getElem?_mapIdx]
  rfl
theorem q_fs_len {base : Nat} {sl : List (Option (Option Nat))} {f : Nat → Int32} : (q_fs base sl f).length = sl.length := by unfold q_fs; rw [List.length_mapIdx]
theorem q_fs_up {base : Nat} {sl : List (Option (Option Nat))} {f : Nat → Int32} {j : Nat} {x : Int32} (h : sl[j]? = some none) : q_fs base sl (upd f j x) = (q_fs base sl f).set j (.int x) := by
  apply List.ext_getElem?
  intro i
  rw [List.getElem?_set, q_fs_get, q_fs_get, q_fs_len]
  have hl : j < sl.length := (List.getElem?_eq_some_iff.mp h).1
  by_cases hi : j = i
  · subst hi
    rw [if_pos rfl, if_pos hl, h]
    simp [upd]
  · rw [if_neg hi]
    have : upd f j x i = f i := by unfold upd; rw [if_neg (fun q => hi q.symm)]
    rw [this]
theorem q_fs_ur {base : Nat} {sl : List (Option (Option Nat))} {f : Nat → Int32} {j : Nat} {v : Option Nat} : q_fs base (sl.set j (some v)) f = (q_fs base sl f).set j (q_ad base v) := by
  apply List.ext_getElem?
  intro i
  rw [List.getElem?_set, q_fs_get, q_fs_get, q_fs_len, List.getElem?_set]
  by_cases hi : j = i
  · subst hi
    by_cases hl : j < sl.length
    · rw [if_pos rfl, if_pos rfl, if_pos hl, if_pos hl]; rfl
    · rw [if_pos rfl, if_pos rfl, if_neg hl, if_neg hl]; rfl
  · rw [if_neg hi, if_neg hi]
section QS
variable {p : Program} {l : Launch} {e : Env} {R : Room} {s : State} {m : MethodId} {args : Array Value} {below : List Frame} {meth : Method} {c : Code} {Q : State → Prop}
variable {D : va_G} {cs : Nat → ClassId} {base b n0 s0 : Nat} {X : q_X} {k pc pc' : Nat} {pl pl' : q_L} {st st' : List q_V} {h h' : q_H}
theorem q_s_ild (C0 : q_Cx D cs base b n0 X k p s m args meth c) {i : Nat} (hdg : decode (q_by k) pc = .ok (.iload i, 2)) (hs : q_ild pc 2 i pl st h = some (pc', pl', st', h')) (g : q_G p l e R s m args below meth c Q D cs base b n0 s0 pc' pl' st' h') : q_G p l e R s m args below meth c Q D cs base b n0 s0 pc pl st h := by
  intro ls H locs cells slots hD hc hz
  unfold q_ild at hs
  split at hs
  · rename_i x hx
    cases hs
    exact lv_iload C0.1 C0.2.1 hdg (hD.2.2.2.2 _ _ hx) (g ls H locs cells slots hD hc hz)
  · cases hs
theorem q_s_ildn (C0 : q_Cx D cs base b n0 X k p s m args meth c) {i : Fin 4} (hdg : decode (q_by k) pc = .ok (.iload_n i, 1)) (hs : q_ild pc 1 i.val pl st h = some (pc', pl', st', h')) (g : q_G p l e R s m args below meth c Q D cs base b n0 s0 pc' pl' st' h') : q_G p l e R s m args below meth c Q D cs base b n0 s0 pc pl st h := by
  intro ls H locs cells slots hD hc hz
  unfold q_ild at hs
  split at hs
  · rename_i x hx
    cases hs
    exact lv_iload_n C0.1 C0.2.1 hdg rfl (hD.2.2.2.2 _ _ hx) (g ls H locs cells slots hD hc hz)
  · cases hs
theorem q_s_ald (C0 : q_Cx D cs base b n0 X k p s m args meth c) {i : Nat} (hdg : decode (q_by k) pc = .ok (.aload i, 2)) (hs : q_ald pc 2 i pl st h = some (pc', pl', st', h')) (g : q_G p l e R s m args below meth c Q D cs base b n0 s0 pc' pl' st' h') : q_G p l e R s m args below meth c Q D cs base b n0 s0 pc pl st h := by
  intro ls H locs cells slots hD hc hz
  unfold q_ald at hs
  split at hs
  · rename_i x hx
    cases hs
    exact lv_aload C0.1 C0.2.1 hdg (hD.2.2.2.2 _ _ hx) (g ls H locs cells slots hD hc hz)
  · rename_i x hx
    cases hs
    exact lv_aload C0.1 C0.2.1 hdg (hD.2.2.2.2 _ _ hx) (g ls H locs cells slots hD hc hz)
  · cases hs
theorem q_s_aldn (C0 : q_Cx D cs base b n0 X k p s m args meth c) {i : Fin 4} (hdg : decode (q_by k) pc = .ok (.aload_n i, 1)) (hs : q_ald pc 1 i.val pl st h = some (pc', pl', st', h')) (g : q_G p l e R s m args below meth c Q D cs base b n0 s0 pc' pl' st' h') : q_G p l e R s m args below meth c Q D cs base b n0 s0 pc pl st h := by
  intro ls H locs cells slots hD hc hz
  unfold q_ald at hs
  split at hs
  · rename_i x hx
    cases hs
    exact lv_aload_n C0.1 C0.2.1 hdg rfl (hD.2.2.2.2 _ _ hx) (g ls H locs cells slots hD hc hz)
  · rename_i x hx
    cases hs
    exact lv_aload_n C0.1 C0.2.1 hdg rfl (hD.2.2.2.2 _ _ hx) (g ls H locs cells slots hD hc hz)
  · cases hs
theorem q_s_ist (C0 : q_Cx D cs base b n0 X k p s m args meth c) {i : Nat} (hdg : decode (q_by k) pc = .ok (.istore i, 2)) (hs : q_ist pc 2 i pl st h = some (pc', pl', st', h')) (g : q_G p l e R s m args below meth c Q D cs base b n0 s0 pc' pl' st' h') : q_G p l e R s m args below meth c Q D cs base b n0 s0 pc pl st h := by
  intro ls H locs cells slots hD hc hz
  unfold q_ist at hs
  split at hs
  · rename_i x st2
    cases hb : Nat.blt i pl.length with
    | false => rw [hb] at hs; cases hs
    | true =>
      rw [hb] at hs
      cases hs
      have hi : i < pl.length := by simpa [Nat.blt_eq] using hb
      exact lv_istore C0.1 C0.2.1 hdg hD.2.2.has hi rfl (fun ls' hl => g ls' H locs cells slots ⟨hD.1, hD.2.1, q_LR.put hl⟩ hc hz)
  · cases hs
theorem q_s_istn (C0 : q_Cx D cs base b n0 X k p s m args meth c) {i : Fin 4} (hdg : decode (q_by k) pc = .ok (.istore_n i, 1)) (hs : q_ist pc 1 i.val pl st h = some (pc', pl', st', h')) (g : q_G p l e R s m args below meth c Q D cs base b n0 s0 pc' pl' st' h') : q_G p l e R s m args below meth c Q D cs base b n0 s0 pc pl st h := by
  intro ls H locs cells slots hD hc hz
  unfold q_ist at hs
  split at hs
  · rename_i x st2
    cases hb : Nat.blt i.val pl.length with
    | false => rw [hb] at hs; cases hs
    | true =>
      rw [hb] at hs
      cases hs
      have hi : i.val < pl.length := by simpa [Nat.blt_eq] using hb
      exact lv_istore_n C0.1 C0.2.1 hdg rfl hD.2.2.has hi rfl (fun ls' hl => g ls' H locs cells slots ⟨hD.1, hD.2.1, q_LR.put hl⟩ hc hz)
  · cases hs
theorem q_s_ast (C0 : q_Cx D cs base b n0 X k p s m args meth c) {i : Nat} (hdg : decode (q_by k) pc = .ok (.astore i, 2)) (hs : q_ast pc 2 i pl st h = some (pc', pl', st', h')) (g : q_G p l e R s m args below meth c Q D cs base b n0 s0 pc' pl' st' h') : q_G p l e R s m args below meth c Q D cs base b n0 s0 pc pl st h := by
  intro ls H locs cells slots hD hc hz
  unfold q_ast at hs
  split at hs
  · rename_i x st2
    cases hb : Nat.blt i pl.length with
    | false => rw [hb] at hs; cases hs
    | true =>
      rw [hb] at hs
      cases hs
      have hi : i < pl.length := by simpa [Nat.blt_eq] using hb
      exact lv_astore C0.1 C0.2.1 hdg hD.2.2.has hi rfl (fun ls' hl => g ls' H locs cells slots ⟨hD.1, hD.2.1, q_LR.put (w := .inr (.inl (some x))) hl⟩ hc hz)
  · cases hs
theorem q_s_astn (C0 : q_Cx D cs base b n0 X k p s m args meth c) {i : Fin 4} (hdg : decode (q_by k) pc = .ok (.astore_n i, 1)) (hs : q_ast pc 1 i.val pl st h = some (pc', pl', st', h')) (g : q_G p l e R s m args below meth c Q D cs base b n0 s0 pc' pl' st' h') : q_G p l e R s m args below meth c Q D cs base b n0 s0 pc pl st h := by
  intro ls H locs cells slots hD hc hz
  unfold q_ast at hs
  split at hs
  · rename_i x st2
    cases hb : Nat.blt i.val pl.length with
    | false => rw [hb] at hs; cases hs
    | true =>
      rw [hb] at hs
      cases hs
      have hi : i.val < pl.length := by simpa [Nat.blt_eq] using hb
      exact lv_astore_n C0.1 C0.2.1 hdg rfl hD.2.2.has hi rfl (fun ls' hl => g ls' H locs cells slots ⟨hD.1, hD.2.1, q_LR.put (w := .inr (.inl (some x))) hl⟩ hc hz)
  · cases hs
theorem q_s_rd (C0 : q_Cx D cs base b n0 X k p s m args meth c) (hdg : decode (q_by k) pc = .ok (.iaload, 1)) (hs : q_rd X 0 pc pl st h = some (pc', pl', st', h')) (g : q_G p l e R s m args below meth c Q D cs base b n0 s0 pc' pl' st' h') : q_G p l e R s m args below meth c Q D cs base b n0 s0 pc pl st h := by
  intro ls H locs cells slots hD hc hz
  unfold q_rd at hs
  split at hs
  · rename_i i r st2
    split at hs
    · rename_i kd n hr
      cases hb : (Nat.beq kd 0 && q_in i n) with
      | false => rw [hb] at hs; cases hs
      | true =>
        rw [hb] at hs
        cases hs
        rw [Bool.and_eq_true] at hb
        obtain rfl := Nat.eq_of_beq_eq_true hb.1
        exact va_iald C0.1 C0.2.1 C0.2.2.2.2.2.1 hD.1 r 0 (q_wl_at hr) rfl (q_in_vp hb.2) hdg (g ls H locs cells slots hD hc hz)
    · cases hs
  · rename_i i u st2
    split at hs
    · rename_i n xs
      cases hb : (Nat.beq 0 0 && q_in i n) with
      | false => rw [hb] at hs; cases hs
      | true =>
        rw [hb] at hs
        cases hs
        rw [Bool.and_eq_true] at hb
        obtain ⟨hX, hbb⟩ := C0.2.2.2.2.2.2.2.2.1 n xs rfl
        exact va_sld C0.1 C0.2.1 hX (by have := C0.2.2.2.2.2.2.2.1; omega) (Nat.not_le.mpr hbb) hD.2.1 (q_in_vp hb.2) hdg (g ls H locs cells slots hD hc hz)
    · cases hs
  · cases hs
theorem q_s_rz (C0 : q_Cx D cs base b n0 X k p s m args meth c) (hdg : decode (q_by k) pc = .ok (.baload, 1)) (hs : q_rd none 1 pc pl st h = some (pc', pl', st', h')) (g : q_G p l e R s m args below meth c Q D cs base b n0 s0 pc' pl' st' h') : q_G p l e R s m args below meth c Q D cs base b n0 s0 pc pl st h := by
  intro ls H locs cells slots hD hc hz
  unfold q_rd at hs
  split at hs
  · rename_i i r st2
    split at hs
    · rename_i kd n hr
      cases hb : (Nat.beq kd 1 && q_in i n) with
      | false => rw [hb] at hs; cases hs
      | true =>
        rw [hb] at hs
        cases hs
        rw [Bool.and_eq_true] at hb
        obtain rfl := Nat.eq_of_beq_eq_true hb.1
        exact va_zald C0.1 C0.2.1 C0.2.2.2.2.2.1 hD.1 r 1 (q_wl_at hr) rfl (q_in_vp hb.2) hdg (g ls H locs cells slots hD hc hz)
    · cases hs
  · cases hs
  · cases hs
theorem q_s_wr (C0 : q_Cx D cs base b n0 X k p s m args meth c) (hdg : decode (q_by k) pc = .ok (.iastore, 1)) (hs : q_wr 0 pc pl st h = some (pc', pl', st', h')) (g : q_G p l e R s m args below meth c Q D cs base b n0 s0 pc' pl' st' h') : q_G p l e R s m args below meth c Q D cs base b n0 s0 pc pl st h := by
  intro ls H locs cells slots hD hc hz
  unfold q_wr at hs
  split at hs
  · rename_i x i r st2
    split at hs
    · rename_i kd n hr
      cases hb : (Nat.beq kd 0 && q_in i n && (Nat.beq 0 0 || decide (x = 0) || decide (x = 1))) with
      | false => rw [hb] at hs; cases hs
      | true =>
        rw [hb] at hs
        cases hs
        rw [Bool.and_eq_true, Bool.and_eq_true] at hb
        obtain rfl := Nat.eq_of_beq_eq_true hb.1.1
        refine va_iast C0.1 C0.2.1 C0.2.2.2.2.2.1 hD.1 q_wl_D hD.2.1 r 0 (q_wl_at hr) rfl (q_in_vp hb.1.2) hdg (fun H1 locs1 hP hDD hS => ?_)
        refine g ls H1 locs1 cells slots ⟨?_, hS, hD.2.2⟩ hc hz
        have e := q_wl_set (cs := cs) (base := base) (m := h.2) (m' := q_up h.2 r i.toNatClampNeg x) (e' := .inr (.inl (0, n))) hr (fun j hj => q_up_ne hj)
        rw [q_set_self hr, q_up_eq] at e
        show va_P D q_cl (q_wl cs base h.1 (q_up h.2 r i.toNatClampNeg x)) H1
        rw [← e]
        exact hP
    · cases hs
  · cases hs
theorem q_s_wz (C0 : q_Cx D cs base b n0 X k p s m args meth c) (hdg : decode (q_by k) pc = .ok (.bastore, 1)) (hs : q_wr 1 pc pl st h = some (pc', pl', st', h')) (g : q_G p l e R s m args below meth c Q D cs base b n0 s0 pc' pl' st' h') : q_G p l e R s m args below meth c Q D cs base b n0 s0 pc pl st h := by
  intro ls H locs cells slots hD hc hz
  unfold q_wr at hs
  split at hs
  · rename_i x i r st2
    split at hs
    · rename_i kd n hr
      cases hb : (Nat.beq kd 1 && q_in i n && (Nat.beq 1 0 || decide (x = 0) || decide (x = 1))) with
      | false => rw [hb] at hs; cases hs
      | true =>
        rw [hb] at hs
        cases hs
        rw [Bool.and_eq_true, Bool.and_eq_true] at hb
        obtain rfl := Nat.eq_of_beq_eq_true hb.1.1
        have hx : vp_nar .boolean x = x := by
          have h2 : x = 0 ∨ x = 1 := by simpa using hb.2
          rcases h2 with rfl | rfl <;> decide +kernel
        refine va_zast C0.1 C0.2.1 C0.2.2.2.2.2.1 hD.1 q_wl_D hD.2.1 r 1 (q_wl_at hr) rfl (q_in_vp hb.1.2) hdg (fun H1 locs1 hP hDD hS => ?_)
        refine g ls H1 locs1 cells slots ⟨?_, hS, hD.2.2⟩ hc hz
        have e := q_wl_set (cs := cs) (base := base) (m := h.2) (m' := q_up h.2 r i.toNatClampNeg x) (e' := .inr (.inl (1, n))) hr (fun j hj => q_up_ne hj)
        rw [q_set_self hr, q_up_eq] at e
        show va_P D q_cl (q_wl cs base h.1 (q_up h.2 r i.toNatClampNeg x)) H1
        rw [← e]
        rw [hx] at hP
        exact hP
    · cases hs
  · cases hs
theorem q_s_ard (C0 : q_Cx D cs base b n0 X k p s m args meth c) (hdg : decode (q_by k) pc = .ok (.aaload, 1)) (hs : q_ard pc pl st h = some (pc', pl', st', h')) (g : q_G p l e R s m args below meth c Q D cs base b n0 s0 pc' pl' st' h') : q_G p l e R s m args below meth c Q D cs base b n0 s0 pc pl st h := by
  intro ls H locs cells slots hD hc hz
  unfold q_ard at hs
  split at hs
  · rename_i i r st2
    split at hs
    · rename_i kd els hr
      cases hb : ((Nat.beq kd 2 || Nat.beq kd 3) && q_in i els.length) with
      | false => rw [hb] at hs; cases hs
      | true =>
        rw [hb] at hs
        cases hs
        rw [Bool.and_eq_true, Bool.or_eq_true] at hb
        have hin := q_in_vp hb.2
        have hlt : i.toNatClampNeg < els.length := Nat.not_le.mp fun q => hin (Or.inr q)
        have hcell := hD.1 r _ (q_wl_at hr)
        have hA : ∃ ty : FieldType, ArrOfT s (cs kd) ty ∧ ty.isReference = true := by
          rcases hb.1 with q | q
          · obtain rfl := Nat.eq_of_beq_eq_true q
            exact ⟨_, (C0.2.2.2.2.2.1.2 2 _ rfl).1, rfl⟩
          · obtain rfl := Nat.eq_of_beq_eq_true q
            exact ⟨_, (C0.2.2.2.2.2.1.2 3 _ rfl).1, rfl⟩
        obtain ⟨ty, hA, hty⟩ := hA
        exact W.aald (v := va_rf ((els.getD i.toNatClampNeg none).map (fun k => base + k))) (ty := ty) C0.1 C0.2.1 hcell (hA els.length (fun j => va_rf ((els.getD j none).map (fun k => base + k)))) hty (fun q => by cases q) (by show ¬ (i < 0 ∨ (arrV _ _ _).slots.size ≤ _); rw [arrV_size]; exact hin) (by show (arrV _ _ _).slots[_]? = _; rw [arrV_read _ _ hlt]) rfl rfl hdg (g ls H locs cells slots hD hc hz)
    · cases hs
  · cases hs
theorem q_getD_set {els : List (Option Nat)} {i j : Nat} {v : Option Nat} (hi : i < els.length) : (els.set i v).getD j none = if j = i then v else els.getD j none := by
  rw [List.getD_eq_getElem?_getD, List.getD_eq_getElem?_getD, List.getElem?_set]
  by_cases h : i = j
  · subst h
    simp [hi]
  · simp [h, show ¬ j = i from fun q => h q.symm]
theorem q_s_awr (C0 : q_Cx D cs base b n0 X k p s m args meth c) (hdg : decode (q_by k) pc = .ok (.aastore, 1)) (hs : q_awr pc pl st h = some (pc', pl', st', h')) (g : q_G p l e R s m args below meth c Q D cs base b n0 s0 pc' pl' st' h') : q_G p l e R s m args below meth c Q D cs base b n0 s0 pc pl st h := by
  intro ls H locs cells slots hD hc hz
  unfold q_awr at hs
  split at hs
  · rename_i v i r st2
    split at hs
    · rename_i kd els ci sl hr hv
      cases hb : (Nat.beq kd 2 && Nat.beq ci 6 && q_in i els.length) with
      | false => rw [hb] at hs; cases hs
      | true =>
        rw [hb] at hs
        cases hs
        rw [Bool.and_eq_true, Bool.and_eq_true] at hb
        obtain rfl := Nat.eq_of_beq_eq_true hb.1.1
        obtain rfl := Nat.eq_of_beq_eq_true hb.1.2
        have hin := q_in_vp hb.2
        have hlt : i.toNatClampNeg < els.length := Nat.not_le.mp fun q => hin (Or.inr q)
        refine va_astq C0.1 C0.2.1 C0.2.2.2.2.2.1 hD.1 q_wl_D hD.2.1 r 2 v 6 (q_wl_at hr) rfl (q_wl_at hv) (q_clget 6 (by decide)) hin hdg (fun H1 locs1 hP hDD hS => ?_)
        have hz2 : q_sz (Sum.inr (Sum.inr (2, els.set i.toNatClampNeg (some v))) : q_S) = q_sz (Sum.inr (Sum.inr (2, els)) : q_S) := List.length_set
        refine g ls H1 locs1 cells slots ⟨?_, hS, hD.2.2⟩ (by rw [hc]; exact (List.length_set).symm) (by rw [hz]; exact (q_slo_set hr hz2).symm)
        have e := q_wl_set (cs := cs) (base := base) (m := h.2) (m' := h.2) (e' := .inr (.inr (2, els.set i.toNatClampNeg (some v)))) hr (fun j hj => rfl)
        show va_P D q_cl (q_wl cs base (h.1.set r (.inr (.inr (2, els.set i.toNatClampNeg (some v))))) h.2) H1
        rw [← e]
        have e2 : q_ent cs base (.inr (.inr (2, els.set i.toNatClampNeg (some v)))) (h.2 r) = .inl (cs 2, els.length, .inr (.inr (.inr (.inr (va_up (fun j => (els.getD j none).map (fun k => base + k)) i.toNatClampNeg (some (base + v))))))) := by
          show (.inl (cs 2, (els.set i.toNatClampNeg (some v)).length, .inr (.inr (.inr (.inr (fun j => ((els.set i.toNatClampNeg (some v)).getD j none).map (fun k => base + k)))))) : va_E) = _
          rw [List.length_set]
          congr 7
          funext j
          rw [q_getD_set hlt]
          unfold va_up
          by_cases hj : j = i.toNatClampNeg
          · rw [if_pos hj, if_pos hj]; rfl
          · rw [if_neg hj, if_neg hj]
        rw [e2]
        exact hP
    · cases hs
  · cases hs
theorem q_s_aln (C0 : q_Cx D cs base b n0 X k p s m args meth c) (hdg : decode (q_by k) pc = .ok (.arraylength, 1)) (hs : q_aln X pc pl st h = some (pc', pl', st', h')) (g : q_G p l e R s m args below meth c Q D cs base b n0 s0 pc' pl' st' h') : q_G p l e R s m args below meth c Q D cs base b n0 s0 pc pl st h := by
  intro ls H locs cells slots hD hc hz
  unfold q_aln at hs
  split at hs
  · rename_i r st2
    split at hs
    · rename_i kd n hr
      cases hb : Nat.ble kd 1 with
      | false => rw [hb] at hs; cases hs
      | true =>
        rw [hb] at hs
        cases hs
        have hk2 : kd ≤ 1 := Nat.le_of_ble_eq_true hb
        have ht : ∃ ty : FieldType, (q_tys cs)[kd]? = some (cs kd, ty) := by
          rcases (by omega : kd = 0 ∨ kd = 1) with rfl | rfl
          · exact ⟨_, rfl⟩
          · exact ⟨_, rfl⟩
        obtain ⟨ty, ht⟩ := ht
        exact va_alen C0.1 C0.2.1 C0.2.2.2.2.2.1 hD.1 r kd (q_wl_at hr) ht rfl hdg (g ls H locs cells slots hD hc hz)
    · cases hs
  · rename_i u st2
    split at hs
    · rename_i n xs
      cases hs
      obtain ⟨hX, hbb⟩ := C0.2.2.2.2.2.2.2.2.1 n xs rfl
      exact va_slen C0.1 C0.2.1 hX (by have := C0.2.2.2.2.2.2.2.1; omega) (Nat.not_le.mpr hbb) hD.2.1 hdg (g ls H locs cells slots hD hc hz)
    · cases hs
  · cases hs
end QS
