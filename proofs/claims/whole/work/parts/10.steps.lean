theorem q_mem_tbl {w : Cond} (h : w ∈ tables_1) : w ∈ lw_tbl := List.mem_append_right _ h
theorem q_w39 : Cond.arrayClass .int ∈ lw_tbl := q_in_tbl (i := 39) (by decide +kernel)
theorem q_w814 : Cond.arrayClass .boolean ∈ lw_tbl := q_in_tbl (i := 814) (by decide +kernel)
theorem q_w23 : Cond.arrayOver (.object "TallyCourt$Piece") ∈ lw_tbl := q_in_tbl (i := 23) (by decide +kernel)
theorem q_bytes {n : Nat} (h : n ≤ 100000) : n * 4 ≤ 536870912 := by omega
theorem q_bytesI {n : Nat} (h : n ≤ 100000) : n * componentBytes (newarray.typeOf .int) ≤ 536870912 := q_bytes h
theorem q_bytesZ {n : Nat} (h : n ≤ 100000) : n * componentBytes (newarray.typeOf .boolean) ≤ 536870912 := by
  have : componentBytes (newarray.typeOf .boolean) = 1 := by decide
  rw [this]
  omega
section QS
variable {p : Program} {l : Launch} {e : Env} {R : Room} {s : State} {m : MethodId} {args : Array Value} {below : List Frame} {meth : Method} {c : Code} {Q : State → Prop}
variable {D : va_G} {cs : Nat → ClassId} {base b n0 s0 : Nat} {X : q_X} {k pc pc' : Nat} {pl pl' : q_L} {st st' : List q_V} {h h' : q_H}
theorem q_W_sz (C0 : q_Cx D cs base b n0 X k p s m args meth c) {H : Heap} {ls : Array Slot} {locs : List Loc} {cells slots : Nat} {g : JFrame} (hD : q_Dy D cs base b s h pl ls H locs) (hc : cells + n0 = h.1.length) (kk : H.size = base + h.1.length → W p l e R s m args below meth c H locs cells slots Q g) : W p l e R s m args below meth c H locs cells slots Q g := fun T hT Xs => kk (q_hsz C0 hT Xs hD hc) T hT Xs
/-- a heap with one cell more -/
theorem q_grow1 {H H1 : Heap} {h : q_H} {e9 : q_S} {locs : List Loc} (hP : va_P D q_cl (q_wl cs base h.1 h.2) H) (hS : va_S (q_A base) s.heap H locs) (hsz : H.size = base + h.1.length) (z1 : H1.size = H.size + 1) (o1 : ∀ q, q < H.size → H1[q]? = H[q]?) (hat : va_at D q_cl (base + h.1.length, q_ent cs base e9 (fun _ => 0)) H1) : va_P D q_cl (q_wl cs base (h.1 ++ [e9]) (q_zr h.2 h.1.length 1)) H1 ∧ va_S (q_A base) s.heap H1 locs := by
  constructor
  · rw [q_wl_app (m := h.2) (fun j hj => q_zr_lt hj)]
    refine (hP.kept (fun k9 x hx => o1 x.1 ((hP k9 x hx).lt))).app (fun k9 x hx => ?_)
    have hk : k9 < 1 := (List.getElem?_eq_some_iff.mp hx).1
    rw [show k9 = 0 by omega] at hx
    cases hx
    show va_at D q_cl (base + (h.1.length + 0), q_ent cs base e9 (q_zr h.2 h.1.length 1 (h.1.length + 0))) H1
    rw [q_zr_in (by omega) (by omega)]
    exact hat
  · exact ⟨Nat.le_trans hS.1 (by omega), fun x h1 h2 => (o1 x (Nat.lt_of_lt_of_le h1 hS.1)).trans (hS.2.1 x h1 h2), hS.2.2⟩
theorem q_df_len (ci : Nat) : (q_df ci).length = q_nf ci := by unfold q_df; rw [List.length_map, List.length_range]
theorem q_df_get {ci j : Nat} (hj : j < q_nf ci) : (q_df ci)[j]? = some (bif q_isI ci j then none else some none) := by
  unfold q_df
  rw [List.getElem?_map, List.getElem?_range hj]
  rfl
theorem q_df_val : ∀ ci, ci < 10 → ∀ j, j < q_nf ci → defaultValue (q_ty ci j) = (match (bif q_isI ci j then none else some none : Option (Option Nat)) with | none => Value.int 0 | some _ => Value.null) := by decide +kernel
theorem q_s_new (C0 : q_Cx D cs base b n0 X k p s m args meth c) {i a : Nat} (hdg : decode (q_by k) pc = .ok (.new i, 3)) (hck : q_CK.any (fun q => Nat.beq q.1 (q_cx k) && Nat.beq q.2.1 i && Nat.beq q.2.2.1 a) = true) (ha : a < 10) (hRc : h'.1.length ≤ R.cells + n0) (hRs : q_slo h'.1 ≤ R.slots + s0) (hs : q_nwo a pc pl st h = some (pc', pl', st', h')) (g : q_G p l e R s m args below meth c Q D cs base b n0 s0 pc' pl' st' h') : q_G p l e R s m args below meth c Q D cs base b n0 s0 pc pl st h := by
  intro ls H locs cells slots hD hc hz
  refine q_W_sz C0 hD hc (fun hsz => ?_)
  have hcl : (Cond.classLink (q_cn (q_cx k)) i (q_cn a)).before args s = true := by
    obtain ⟨q, hq, hf⟩ := q_any hck
    simp only [Bool.and_eq_true] at hf
    have e1 := Nat.eq_of_beq_eq_true hf.1.1
    have e2 := Nat.eq_of_beq_eq_true hf.1.2
    have e3 := Nat.eq_of_beq_eq_true hf.2
    have := q_in_tbl (q_CK_ok q hq)
    rw [e1, e2, e3] at this
    exact C0.2.2.2.2.1 _ this
  have i1 := C0.2.2.2.2.1 _ (q_mem_tbl (q_inst a ha).1)
  have i2 := C0.2.2.2.2.1 _ (q_mem_tbl (q_inst a ha).2)
  have hKn := C0.2.2.2.2.2.1.1 a _ (q_clget a ha)
  unfold q_nwo at hs
  cases hs
  have hlen : (h.1 ++ [(.inl (a, q_df a) : q_S)]).length = h.1.length + 1 := by rw [List.length_append]; rfl
  have hslo : q_slo (h.1 ++ [(.inl (a, q_df a) : q_S)]) = q_slo h.1 + q_nf a := by
    rw [q_slo_app]
    show q_slo h.1 + ([q_sz (.inl (a, q_df a))] : List Nat).sum = _
    have : q_sz (.inl (a, q_df a) : q_S) = q_nf a := q_df_len a
    rw [this]
    simp
  have hRc : (h.1 ++ [(.inl (a, q_df a) : q_S)]).length ≤ R.cells + n0 := hRc
  have hRs : q_slo (h.1 ++ [(.inl (a, q_df a) : q_S)]) ≤ R.slots + s0 := hRs
  rw [hlen] at hRc
  rw [hslo] at hRs
  refine W.newcK C0.1 C0.2.1 C0.2.2.2.1 hcl i1 i2 rfl hdg (by omega) (by omega) hKn.2.1 rfl (fun H1 kC hkC e1 z1 o1 => ?_)
  have hat : va_at D q_cl (base + h.1.length, q_ent cs base (.inl (a, q_df a)) (fun _ => 0)) H1 := by
    refine ⟨_, q_clget a ha, ?_⟩
    rw [← hsz]
    refine (u_born (q_ty a) C0.2.2.2.2.1 (q_lays a ha) hKn hkC e1 (q_clok1 a ha).1).to (fun j hj => ?_)
    have hj : j < q_nf a := hj
    show _ = (q_fs base (q_df a) (fun _ => 0)).getD j .null
    rw [List.getD_eq_getElem?_getD, q_fs_get, q_df_get hj, q_df_val a ha j hj]
    cases q_isI a j <;> rfl
  obtain ⟨hP1, hS1⟩ := q_grow1 hD.1 hD.2.1 hsz z1 o1 hat
  have := g ls H1 locs (cells + 1) (slots + q_nf a) ⟨hP1, hS1, hD.2.2⟩ (by show _ = (h.1 ++ [(.inl (a, q_df a) : q_S)]).length; rw [hlen]; omega) (by show _ = q_slo (h.1 ++ [(.inl (a, q_df a) : q_S)]); rw [hslo]; omega)
  have e9 : q_ev base b (.inr (.inl (some h.1.length))) = .ref H.size := by rw [hsz]; rfl
  rw [List.map_cons, e9] at this
  exact this
/-- the class of the int arrays is the one that the tables name -/
theorem q_cs_eq (hK : va_K D q_cl (q_tys cs) s) {kd : Nat} {ty : FieldType} {cA : ClassId} (ht : (q_tys cs)[kd]? = some (cs kd, ty)) (hty : va_RA s cA ty) : cA = cs kd := by
  have h2 := (hK.2 kd _ ht).2
  cases ty with
  | object C =>
    obtain ⟨_, _, _, _, _, a1⟩ := hty
    obtain ⟨_, _, _, _, _, a2⟩ := h2
    exact Option.some.inj (a1.symm.trans a2)
  | _ =>
    have a1 : s.vm.findClass _ = some cA := hty
    have a2 : s.vm.findClass _ = some (cs kd) := h2
    exact Option.some.inj (a1.symm.trans a2)
theorem q_s_nwa (C0 : q_Cx D cs base b n0 X k p s m args meth c) {at9 : ArrayType} {kd : Nat} (hat9 : (at9 = .int ∧ kd = 0) ∨ (at9 = .boolean ∧ kd = 1)) (hdg : decode (q_by k) pc = .ok (.newarray at9, 2)) (hRc : h'.1.length ≤ R.cells + n0) (hRs : q_slo h'.1 ≤ R.slots + s0) (hs : q_nwa kd pc pl st h = some (pc', pl', st', h')) (g : q_G p l e R s m args below meth c Q D cs base b n0 s0 pc' pl' st' h') : q_G p l e R s m args below meth c Q D cs base b n0 s0 pc pl st h := by
  intro ls H locs cells slots hD hc hz
  refine q_W_sz C0 hD hc (fun hsz => ?_)
  unfold q_nwa at hs
  split at hs
  · rename_i n st2
    cases hb : (decide (¬ n < 0) && Nat.ble n.toNatClampNeg 100000) with
    | false => rw [hb] at hs; cases hs
    | true =>
      rw [hb] at hs
      rw [Bool.and_eq_true, decide_eq_true_eq] at hb
      have hle := Nat.le_of_ble_eq_true hb.2
      have hs : some (pc + 2, pl, (.inr (.inl (some h.1.length)) : q_V) :: st2, (h.1 ++ [(.inr (.inl (kd, n.toNatClampNeg)) : q_S)], q_zr h.2 h.1.length 1)) = some (pc', pl', st', h') := hs
      injection hs with hs
      injection hs with a1 hs
      injection hs with a2 hs
      injection hs with a3 a4
      subst a1; subst a2; subst a3; subst a4
      have hlen : (h.1 ++ [(.inr (.inl (kd, n.toNatClampNeg)) : q_S)]).length = h.1.length + 1 := by rw [List.length_append]; rfl
      have hslo : q_slo (h.1 ++ [(.inr (.inl (kd, n.toNatClampNeg)) : q_S)]) = q_slo h.1 + n.toNatClampNeg := by
        rw [q_slo_app]
        show q_slo h.1 + ([n.toNatClampNeg] : List Nat).sum = _
        simp
      have hRc : (h.1 ++ [(.inr (.inl (kd, n.toNatClampNeg)) : q_S)]).length ≤ R.cells + n0 := hRc
      have hRs : q_slo (h.1 ++ [(.inr (.inl (kd, n.toNatClampNeg)) : q_S)]) ≤ R.slots + s0 := hRs
      rw [hlen] at hRc
      rw [hslo] at hRs
      have fin : ∀ (H1 : Heap) (cA : ClassId), va_at D q_cl (base + h.1.length, q_ent cs base (.inr (.inl (kd, n.toNatClampNeg))) (fun _ => 0)) H1 → H1.size = H.size + 1 → (∀ q, q < H.size → H1[q]? = H[q]?) → W p l e R s m args below meth c H1 locs (cells + 1) (slots + n.toNatClampNeg) Q (F0 m (pc + 2) ls (.ref H.size :: st2.map (q_ev base b))) := by
        intro H1 cA hat z1 o1
        obtain ⟨hP1, hS1⟩ := q_grow1 hD.1 hD.2.1 hsz z1 o1 hat
        have := g ls H1 locs (cells + 1) (slots + n.toNatClampNeg) ⟨hP1, hS1, hD.2.2⟩ (by show _ = (h.1 ++ [(.inr (.inl (kd, n.toNatClampNeg)) : q_S)]).length; rw [hlen]; omega) (by show _ = q_slo (h.1 ++ [(.inr (.inl (kd, n.toNatClampNeg)) : q_S)]); rw [hslo]; omega)
        have e9 : q_ev base b (.inr (.inl (some h.1.length))) = .ref H.size := by rw [hsz]; rfl
        rw [List.map_cons, e9] at this
        exact this
      rcases hat9 with ⟨rfl, rfl⟩ | ⟨rfl, rfl⟩
      · refine va_newaK (atype := .int) C0.1 C0.2.1 (C0.2.2.2.2.1 _ q_w39) rfl hdg rfl hb.1 rfl (q_bytesI hle) (by omega) (by omega) rfl (fun H1 cA e1 z1 o1 _ hN => fin H1 cA ?_ z1 o1)
        have hcs : cA = cs 0 := q_cs_eq C0.2.2.2.2.2.1 (kd := 0) (ty := .int) rfl hN
        show H1[base + h.1.length]? = some (vp_cell (cs 0) (n.toNatClampNeg, .inl (fun _ => 0)))
        rw [← hsz, e1, hcs]
        rfl
      · refine va_newaK (atype := .boolean) C0.1 C0.2.1 (C0.2.2.2.2.1 _ q_w814) rfl hdg rfl hb.1 rfl (q_bytesZ hle) (by omega) (by omega) rfl (fun H1 cA e1 z1 o1 _ hN => fin H1 cA ?_ z1 o1)
        have hcs : cA = cs 1 := q_cs_eq C0.2.2.2.2.2.1 (kd := 1) (ty := .boolean) rfl hN
        show H1[base + h.1.length]? = some (vp_cell (cs 1) (n.toNatClampNeg, .inl (fun _ => 0)))
        rw [← hsz, e1, hcs]
        rfl
  · cases hs
/-- a cell laid behind a heap: how long the heap is then, what stands at its end, what stands ahead of that -/
theorem q_put (U : Heap) (x : Cell) : ∃ V : Heap, U.push x = V ∧ V.size = U.size + 1 ∧ V[U.size]? = some x ∧ ∀ q : Nat, q < U.size → V[q]? = U[q]? := by
  refine ⟨_, rfl, Array.size_push x, ?_, fun q hq => ?_⟩
  · exact Array.getElem?_push_size
  · exact (Array.getElem?_push_lt hq).trans (Array.getElem?_eq_getElem hq).symm
theorem q_s_nwq (C0 : q_Cx D cs base b n0 X k p s m args meth c) {i : Nat} (hdg : decode (q_by k) pc = .ok (.anewarray i, 3)) (hck : q_CK.any (fun q => Nat.beq q.1 (q_cx k) && Nat.beq q.2.1 i && Nat.beq q.2.2.1 6) = true) (hRc : h'.1.length ≤ R.cells + n0) (hRs : q_slo h'.1 ≤ R.slots + s0) (hs : q_nwq pc pl st h = some (pc', pl', st', h')) (g : q_G p l e R s m args below meth c Q D cs base b n0 s0 pc' pl' st' h') : q_G p l e R s m args below meth c Q D cs base b n0 s0 pc pl st h := by
  intro ls H locs cells slots hD hc hz
  refine q_W_sz C0 hD hc (fun hsz => ?_)
  have hcl : (Cond.classLink (q_cn (q_cx k)) i "TallyCourt$Piece").before args s = true := by
    obtain ⟨q, hq, hf⟩ := q_any hck
    simp only [Bool.and_eq_true] at hf
    have e1 := Nat.eq_of_beq_eq_true hf.1.1
    have e2 := Nat.eq_of_beq_eq_true hf.1.2
    have e3 := Nat.eq_of_beq_eq_true hf.2
    have := q_in_tbl (q_CK_ok q hq)
    rw [e1, e2, e3] at this
    exact C0.2.2.2.2.1 _ this
  unfold q_nwq at hs
  split at hs
  · rename_i n st2
    cases hb : (decide (¬ n < 0) && Nat.ble n.toNatClampNeg 100000) with
    | false => rw [hb] at hs; cases hs
    | true =>
      rw [hb] at hs
      rw [Bool.and_eq_true, decide_eq_true_eq] at hb
      have hle := Nat.le_of_ble_eq_true hb.2
      have hs : some (pc + 3, pl, (.inr (.inl (some h.1.length)) : q_V) :: st2, (h.1 ++ [(.inr (.inr (2, List.replicate n.toNatClampNeg none)) : q_S)], q_zr h.2 h.1.length 1)) = some (pc', pl', st', h') := hs
      injection hs with hs
      injection hs with a1 hs
      injection hs with a2 hs
      injection hs with a3 a4
      subst a1; subst a2; subst a3; subst a4
      generalize hee : (.inr (.inr (2, List.replicate n.toNatClampNeg none)) : q_S) = ee at *
      have hesz : q_sz ee = n.toNatClampNeg := by rw [← hee]; exact List.length_replicate
      have hlen : (h.1 ++ [ee]).length = h.1.length + 1 := by rw [List.length_append]; rfl
      have hslo : q_slo (h.1 ++ [ee]) = q_slo h.1 + n.toNatClampNeg := by
        rw [q_slo_app]
        show q_slo h.1 + ([q_sz ee] : List Nat).sum = _
        rw [hesz]
        simp
      have hRc : (h.1 ++ [ee]).length ≤ R.cells + n0 := hRc
      have hRs : q_slo (h.1 ++ [ee]) ≤ R.slots + s0 := hRs
      rw [hlen] at hRc
      rw [hslo] at hRs
      refine W.anew C0.1 C0.2.1 C0.2.2.2.1 hcl (C0.2.2.2.2.1 _ q_w23) rfl hdg rfl hb.1 (q_bytes hle) (by omega) (by omega) (fun cA kA comp f1 f2 f3 f4 => ?_)
      obtain ⟨H1, e0, z1, e1, o1⟩ := q_put H ({ cls := cA, slots := Array.replicate n.toNatClampNeg .null, vm := .none } : Cell)
      rw [arrV_new] at e1
      rw [e0]
      have hcs : cA = cs 2 := q_cs_eq C0.2.2.2.2.2.1 (kd := 2) (ty := .object "TallyCourt$Piece") rfl ⟨kA, comp, f2, f3, f4, f1⟩
      have hat : va_at D q_cl (base + h.1.length, q_ent cs base ee (fun _ => 0)) H1 := by
        rw [← hee]
        show H1[base + h.1.length]? = some (vp_cell (cs 2) ((List.replicate n.toNatClampNeg none).length, .inr (.inr (.inr (.inr (fun j => ((List.replicate n.toNatClampNeg (none : Option Nat)).getD j none).map (fun k => base + k)))))))
        rw [← hsz, e1, hcs, vp_cell_q, List.length_replicate]
        have e7 : ∀ j, (List.replicate n.toNatClampNeg (none : Option Nat)).getD j none = none := by
          intro j
          rw [List.getD_eq_getElem?_getD, List.getElem?_replicate]
          split <;> rfl
        simp only [e7]
        rfl
      obtain ⟨hP1, hS1⟩ := q_grow1 hD.1 hD.2.1 hsz z1 o1 hat
      have := g ls H1 locs (cells + 1) (slots + n.toNatClampNeg) ⟨hP1, hS1, hD.2.2⟩ (by show _ = (h.1 ++ [ee]).length; rw [hlen]; omega) (by show _ = q_slo (h.1 ++ [ee]); rw [hslo]; omega)
      have e9 : q_ev base b (.inr (.inl (some h.1.length))) = .ref H.size := by rw [hsz]; rfl
      rw [List.map_cons, e9] at this
      exact this
  · cases hs
end QS
