theorem q_w125 : Cond.classLink "TallyCourt$Debts" 18 "[[I" ∈ lw_tbl := q_in_tbl (i := 125) (by decide +kernel)
theorem q_w126 : Cond.arrayOver (.array .int) ∈ lw_tbl := q_in_tbl (i := 126) (by decide +kernel)
theorem q_e2 : "[" ++ (FieldType.array FieldType.int).toString = "[[I" := by decide +kernel
theorem q_e1 : (FieldType.array FieldType.int).toString = "[" ++ FieldType.int.toString := by decide +kernel
/-- the outer row of a grid, as far as it is filled: a plain array's cell .. -/
theorem q_outerA (c : ClassId) (N h0 : Nat) : ∀ i : Nat, ∃ a : Array Value, Jvm.Free.Multi.outerC c N h0 i = { cls := c, slots := a, vm := .none }
  | 0 => ⟨Array.replicate N .null, rfl⟩
  | i + 1 =>
    let ⟨a, e⟩ := q_outerA c N h0 i
    ⟨a.setIfInBounds i (.ref (h0 + 1 + i)), congrArg (fun w : Cell => w.setSlot i (.ref (h0 + 1 + i))) e⟩
/-- .. and what it holds, slot by slot -/
theorem q_outer (c : ClassId) (N h0 i : Nat) : Jvm.Free.Multi.outerC c N h0 i = arrV c N (fun j => va_rf (if j < i then some (h0 + 1 + j) else none)) := by
  have f := (Jvm.Free.Multi.outerC_facts c N h0 i).2.2
  have v := Jvm.Free.Multi.outerC_slot c N h0 i
  obtain ⟨a, e⟩ := q_outerA c N h0 i
  rw [e] at f ⊢
  simp only [e] at v
  have hw : a = (arrV c N (fun j => va_rf (if j < i then some (h0 + 1 + j) else none))).slots := by
    refine Array.ext_getElem? (fun j => ?_)
    rcases Nat.lt_or_ge j N with hj | hj
    · rw [v j hj, arrV_read c _ hj]
      cases Nat.decLt j i with
      | isTrue y => rw [if_pos y, if_pos y]; rfl
      | isFalse y => rw [if_neg y, if_neg y]; rfl
    · have f : a.size = N := f
      rw [Array.getElem?_eq_none (by omega), Array.getElem?_eq_none (by rw [arrV_size]; omega)]
  rw [hw]
  rfl
theorem q_slo_rep (e : q_S) : ∀ n : Nat, q_slo (List.replicate n e) = n * q_sz e
  | 0 => by simp [q_slo]
  | n + 1 => by
    have h := q_slo_rep e n
    rw [List.replicate_succ, show (e :: List.replicate n e) = [e] ++ List.replicate n e from rfl, q_slo_app, h, Nat.succ_mul]
    show ([q_sz e] : List Nat).sum + _ = _
    simp only [List.sum_cons, List.sum_nil]
    omega
section QS
variable {p : Program} {l : Launch} {e : Env} {R : Room} {s : State} {m : MethodId} {args : Array Value} {below : List Frame} {meth : Method} {c : Code} {Q : State → Prop}
variable {D : va_G} {cs : Nat → ClassId} {base b n0 s0 : Nat} {X : q_X} {k pc pc' : Nat} {pl pl' : q_L} {st st' : List q_V} {h h' : q_H}
theorem q_s_nwm (C0 : q_Cx D cs base b n0 X k p s m args meth c) (hdg : decode (q_by k) pc = .ok (.multianewarray 18 2, 4)) (hcx : q_cx k = 2) (hRc : h'.1.length ≤ R.cells + n0) (hRs : q_slo h'.1 ≤ R.slots + s0) (hs : q_nwm pc pl st h = some (pc', pl', st', h')) (g : q_G p l e R s m args below meth c Q D cs base b n0 s0 pc' pl' st' h') : q_G p l e R s m args below meth c Q D cs base b n0 s0 pc pl st h := by
  intro ls H locs cells slots hD hc hz
  refine q_W_sz C0 hD hc (fun hsz => ?_)
  unfold q_nwm at hs
  split at hs
  · rename_i kk n st2
    cases hb : (decide (¬ n < 0) && decide (¬ kk < 0) && Nat.ble n.toNatClampNeg 1000 && Nat.ble kk.toNatClampNeg 1000) with
    | false => rw [hb] at hs; cases hs
    | true =>
      rw [hb] at hs
      simp only [Bool.and_eq_true, decide_eq_true_eq] at hb
      obtain ⟨⟨⟨b1, b2⟩, b3⟩, b4⟩ := hb
      have b3 := Nat.le_of_ble_eq_true b3
      have b4 := Nat.le_of_ble_eq_true b4
      generalize hN : n.toNatClampNeg = N at *
      generalize hM : kk.toNatClampNeg = M at *
      generalize hoo : (.inr (.inr (3, (List.range N).map (fun i => some (h.1.length + 1 + i)))) : q_S) = oo at *
      have hs : some (pc + 4, pl, (.inr (.inl (some h.1.length)) : q_V) :: st2, (h.1 ++ (oo :: List.replicate N (.inr (.inl (0, M)) : q_S)), q_zr h.2 h.1.length (N + 1))) = some (pc', pl', st', h') := hs
      injection hs with hs
      injection hs with a1 hs
      injection hs with a2 hs
      injection hs with a3 a4
      subst a1; subst a2; subst a3; subst a4
      have hozs : q_sz oo = N := by
        rw [← hoo]
        show ((List.range N).map (fun i => some (h.1.length + 1 + i))).length = N
        rw [List.length_map, List.length_range]
      have hlen : (h.1 ++ (oo :: List.replicate N (.inr (.inl (0, M)) : q_S))).length = h.1.length + 1 + N := by
        rw [List.length_append, List.length_cons, List.length_replicate]
        omega
      have hslo : q_slo (h.1 ++ (oo :: List.replicate N (.inr (.inl (0, M)) : q_S))) = q_slo h.1 + (N + N * M) := by
        rw [q_slo_app, show (oo :: List.replicate N (.inr (.inl (0, M)) : q_S)) = [oo] ++ List.replicate N (.inr (.inl (0, M)) : q_S) from rfl, q_slo_app, q_slo_rep]
        show q_slo h.1 + (([q_sz oo] : List Nat).sum + N * M) = _
        rw [hozs]
        simp only [List.sum_cons, List.sum_nil]
        omega
      have hRc : (h.1 ++ (oo :: List.replicate N (.inr (.inl (0, M)) : q_S))).length ≤ R.cells + n0 := hRc
      have hRs : q_slo (h.1 ++ (oo :: List.replicate N (.inr (.inl (0, M)) : q_S))) ≤ R.slots + s0 := hRs
      rw [hlen] at hRc
      rw [hslo] at hRs
      have hown := C0.2.2.2.1
      rw [hcx] at hown
      have hown : s.vm.findClass "TallyCourt$Debts" = some m.cls := hown
      intro T hT Xs
      obtain ⟨vm₁, cA, comp, -, fA, fC, -, -, X', step⟩ := Xs.multianewarray2F (ty := .int) C0.1 hown (by rw [q_e2]; exact C0.2.2.2.2.1 _ q_w125) (C0.2.2.2.2.1 _ q_w126) (C0.2.2.2.2.1 _ q_w39) (g := F0 m pc ls (.int kk :: .int n :: st2.map (q_ev base b))) rfl (by rw [C0.2.1]; exact hdg) rfl b1 b2 (by omega) (by show _ * 4 ≤ _; omega) (by omega) rfl rfl (by rw [hN]; omega) (by rw [hN, hM]; omega)
      rw [hN, hM] at X' step
      generalize hF : Jvm.Free.Multi.fill (T.setVm vm₁) cA comp N M (defaultValue .int) N = F at X' step
      have hTh : (T.setVm vm₁).heap = H := hT
      obtain ⟨f1, f2, -, -⟩ := Jvm.Free.Multi.fill_facts (T.setVm vm₁) cA comp N M (defaultValue .int) N
      rw [hF, hTh] at f1 f2
      have hold : ∀ x : Nat, x < H.size → F.heap[x]? = H[x]? := fun x hx => by
        have := Jvm.Free.Multi.fill_old (T.setVm vm₁) cA comp N M (defaultValue .int) (a := x) (by rw [hTh]; exact hx) N
        rw [hF, hTh] at this
        exact this
      have hrow : ∀ j : Nat, j < N → F.heap[H.size + 1 + j]? = some (Jvm.Free.Multi.innerC comp M (defaultValue .int)) := fun j hj => by
        have := Jvm.Free.Multi.fill_inner (T.setVm vm₁) cA comp N M (defaultValue .int) N j hj
        rw [hF, hTh] at this
        exact this
      have hc3 : cA = cs 3 := q_cs_eq C0.2.2.2.2.2.1 (kd := 3) (ty := .array .int) rfl fA
      have hc0 : comp = cs 0 := q_cs_eq C0.2.2.2.2.2.1 (kd := 0) (ty := .int) rfl (by rw [q_e1] at fC; exact fC)
      subst hc3
      subst hc0
      have hP1 : va_P D q_cl (q_wl cs base (h.1 ++ (oo :: List.replicate N (.inr (.inl (0, M)) : q_S))) (q_zr h.2 h.1.length (N + 1))) F.heap := by
        intro k9 x hx
        rw [q_wl_get] at hx
        by_cases h9 : k9 < h.1.length
        · rw [List.getElem?_append_left h9, q_zr_lt h9] at hx
          have hx2 : (q_wl cs base h.1 h.2)[k9]? = some x := by rw [q_wl_get]; exact hx
          exact (hD.1 k9 x hx2).kept (hold _ ((hD.1 k9 x hx2).lt))
        · rw [List.getElem?_append_right (by omega)] at hx
          by_cases h8 : k9 = h.1.length
          · subst h8
            rw [Nat.sub_self] at hx
            cases hx
            rw [← hoo]
            show F.heap[base + h.1.length]? = some (vp_cell (cs 3) (((List.range N).map (fun i => some (h.1.length + 1 + i))).length, .inr (.inr (.inr (.inr (fun j => (((List.range N).map (fun i => some (h.1.length + 1 + i))).getD j none).map (fun k => base + k)))))))
            rw [← hsz, f2, q_outer, vp_cell_q, List.length_map, List.length_range]
            refine congrArg some (congrArg (arrV (cs 3) N) (funext fun j => congrArg va_rf ?_))
            rw [List.getD_eq_getElem?_getD, List.getElem?_map]
            by_cases hj : j < N
            · rw [if_pos hj, List.getElem?_range hj]
              show some (H.size + 1 + j) = some (base + (h.1.length + 1 + j))
              rw [hsz]
              congr 1
              omega
            · rw [if_neg hj, List.getElem?_eq_none (by rw [List.length_range]; omega)]
              rfl
          · rw [show k9 - h.1.length = (k9 - h.1.length - 1) + 1 by omega, List.getElem?_cons_succ, List.getElem?_replicate] at hx
            by_cases h7 : k9 - h.1.length - 1 < N
            · rw [if_pos h7] at hx
              cases hx
              rw [q_zr_in (by omega) (by omega)]
              show F.heap[base + k9]? = some (vp_cell (cs 0) (M, .inl (fun _ => 0)))
              have := hrow _ h7
              rw [show H.size + 1 + (k9 - h.1.length - 1) = base + k9 by omega] at this
              rw [this]
              unfold Jvm.Free.Multi.innerC
              rw [arrV_new]
              rfl
            · rw [if_neg h7] at hx
              cases hx
      have hS1 : va_S (q_A base) s.heap F.heap locs := ⟨Nat.le_trans hD.2.1.1 (by rw [f1]; omega), fun x h1 h2 => (hold x (Nat.lt_of_lt_of_le h1 hD.2.1.1)).trans (hD.2.1.2.1 x h1 h2), hD.2.1.2.2⟩
      obtain ⟨t, a1, b9⟩ := g ls F.heap locs (cells + 1 + N) (slots + N + N * M) ⟨hP1, hS1, hD.2.2⟩ (by show _ = (h.1 ++ (oo :: List.replicate N (.inr (.inl (0, M)) : q_S))).length; rw [hlen]; omega) (by show _ = q_slo (h.1 ++ (oo :: List.replicate N (.inr (.inl (0, M)) : q_S))); rw [hslo]; omega) F rfl X'
      refine ⟨t, step t ?_, b9⟩
      have e9 : T.heap.size = base + h.1.length := by rw [hT, hsz]
      rw [e9]
      exact a1
  · cases hs
end QS
