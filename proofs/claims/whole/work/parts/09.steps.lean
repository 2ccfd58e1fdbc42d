theorem q_cats_eq {base b : Nat} (st : List q_V) : ((st.map (q_ev base b)).map fun v => v.category).sum = st.length := by
  induction st with
  | nil => rfl
  | cons v t ih => simp only [List.map_cons, List.sum_cons, List.length_cons, q_ev_cat, ih]; omega
theorem q_cats {base b : Nat} {st : List q_V} (h : st.length ≤ 8) : ((st.map (q_ev base b)).map fun v => v.category).sum ≤ 8 := by
  rw [q_cats_eq]
  exact h
theorem q_init {k : Nat} {nm : String} (h : k = 0 ∨ nm = (q_nm k).name) (h2 : (q_nm k).name = "<init>") : nm = "<init>" := by
  rcases h with rfl | h
  · exact absurd h2 (by decide +kernel)
  · exact h.trans h2
section QS
variable {p : Program} {l : Launch} {e : Env} {R : Room} {s : State} {m : MethodId} {args : Array Value} {below : List Frame} {meth : Method} {c : Code} {Q : State → Prop}
variable {D : va_G} {cs : Nat → ClassId} {base b n0 s0 : Nat} {X : q_X} {k pc pc' : Nat} {pl pl' : q_L} {st st' : List q_V} {h h' : q_H}
/-- how far the heap goes -/
theorem q_hsz (C0 : q_Cx D cs base b n0 X k p s m args meth c) {T : State} {H : Heap} {ls : Array Slot} {locs : List Loc} {cells slots : Nat} (hT : T.heap = H) (Xs : Stand p l e R s m args below meth c T locs cells slots) (hD : q_Dy D cs base b s h pl ls H locs) (hc : cells + n0 = h.1.length) : H.size = base + h.1.length := by
  have h1 : T.heap.size ≤ s.heap.size + cells := Xs.same.2.2.1
  have h2 := C0.2.2.2.2.2.2.2.1
  have h3 := hD.2.1.1
  rw [hT] at h1
  rcases Nat.eq_zero_or_pos h.1.length with h0 | h0
  · omega
  · obtain ⟨e9, he9⟩ : ∃ e9, h.1[h.1.length - 1]? = some e9 := ⟨_, List.getElem?_eq_getElem (by omega)⟩
    have h5 : base + (h.1.length - 1) < H.size := (hD.1 _ _ (q_wl_at he9)).lt
    omega
theorem q_any {α : Type} {l : List α} {f : α → Bool} (h : l.any f = true) : ∃ x, x ∈ l ∧ f x = true := by
  rw [List.any_eq_true] at h
  exact h
theorem q_s_gf (C0 : q_Cx D cs base b n0 X k p s m args meth c) {i a j : Nat} (hdg : decode (q_by k) pc = .ok (.getfield i, 3)) (hfl : q_FL.any (fun q => Nat.beq q.1 (q_cx k) && Nat.beq q.2.1 i && Nat.beq q.2.2.1 a && Nat.beq q.2.2.2.1 j) = true) (ha : a < 10) (hs : q_gf a j pc pl st h = some (pc', pl', st', h')) (g : q_G p l e R s m args below meth c Q D cs base b n0 s0 pc' pl' st' h') : q_G p l e R s m args below meth c Q D cs base b n0 s0 pc pl st h := by
  intro ls H locs cells slots hD hc hz
  have hlink : (Cond.fieldLink (q_cn (q_cx k)) i (q_T a j).1 (q_T a j).2.1 (q_T a j).2.2.1).before args s = true := by
    obtain ⟨q, hq, hf⟩ := q_any hfl
    simp only [Bool.and_eq_true] at hf
    have e1 := Nat.eq_of_beq_eq_true hf.1.1.1
    have e2 := Nat.eq_of_beq_eq_true hf.1.1.2
    have e3 := Nat.eq_of_beq_eq_true hf.1.2
    have e4 := Nat.eq_of_beq_eq_true hf.2
    have := q_in_tbl (q_FL_ok q hq)
    rw [e1, e2, e3, e4] at this
    exact C0.2.2.2.2.1 _ this
  unfold q_gf at hs
  split at hs
  · rename_i r st2
    split at hs
    · rename_i ci sl hr
      cases hb : (Nat.beq ci a && Nat.blt j (q_nf a)) with
      | false => rw [hb] at hs; cases hs
      | true =>
        rw [hb] at hs
        rw [Bool.and_eq_true] at hb
        obtain rfl := Nat.eq_of_beq_eq_true hb.1
        have hj : j < q_nf ci := by simpa [Nat.blt_eq] using hb.2
        have key : ∀ v : Value, (q_fs base sl (h.2 r))[j]? = some v → W p l e R s m args below meth c H locs cells slots Q (F0 m (pc + 3) ls (v :: st2.map (q_ev base b))) → W p l e R s m args below meth c H locs cells slots Q (F0 m pc ls (.ref (base + r) :: st2.map (q_ev base b))) := fun v hv kk =>
          va_get C0.1 C0.2.1 C0.2.2.2.2.1 (q_lays ci ha) C0.2.2.2.1 C0.2.2.2.2.2.1 hD.1 r (q_wl_at hr) (q_clget ci ha) j hj hlink (fun x hx => hx) hv hdg kk
        dsimp only [cond_true] at hs
        split at hs
        · rename_i hv
          cases hs
          exact key _ (by rw [q_fs_get, hv]; rfl) (g ls H locs cells slots hD hc hz)
        · rename_i v hv
          cases hs
          exact key _ (by rw [q_fs_get, hv]; rfl) (g ls H locs cells slots hD hc hz)
        · cases hs
    · cases hs
  · cases hs
theorem q_fitr {ty : FieldType} (ht : ¬ ty = .int) {v : Option Nat} (hty : ty = .array .int ∨ ty = .array .boolean ∨ ty = .array (.array .int) ∨ (∃ C, ty = .object C) ∨ ∃ C, ty = .array (.object C)) : narrow ty (q_ad base v) = q_ad base v ∧ fits ty (q_ad base v) = true := by
  rcases hty with rfl | rfl | rfl | ⟨C, rfl⟩ | ⟨C, rfl⟩ <;> cases v <;> exact ⟨rfl, rfl⟩
theorem q_tys_ok : ∀ ci, ci < 10 → ∀ j, j < q_nf ci → q_isI ci j = false → (match q_ty ci j with | .array .int => true | .array .boolean => true | .array (.array .int) => true | .object _ => true | .array (.object _) => true | _ => false) = true := by decide +kernel
theorem q_s_pf (C0 : q_Cx D cs base b n0 X k p s m args meth c) {i a j : Nat} (hdg : decode (q_by k) pc = .ok (.putfield i, 3)) (hfl : q_FL.any (fun q => Nat.beq q.1 (q_cx k) && Nat.beq q.2.1 i && Nat.beq q.2.2.1 a && Nat.beq q.2.2.2.1 j) = true) (ha : a < 10) (hfin : (!(q_T a j).2.2.2 || (decide ((q_nm k).name = "<init>") && decide ((q_T a j).1 = q_cn (q_cx k)))) = true) (hs : q_pf a j pc pl st h = some (pc', pl', st', h')) (g : q_G p l e R s m args below meth c Q D cs base b n0 s0 pc' pl' st' h') : q_G p l e R s m args below meth c Q D cs base b n0 s0 pc pl st h := by
  intro ls H locs cells slots hD hc hz
  have hlink : (Cond.fieldLink (q_cn (q_cx k)) i (q_T a j).1 (q_T a j).2.1 (q_T a j).2.2.1).before args s = true := by
    obtain ⟨q, hq, hf⟩ := q_any hfl
    simp only [Bool.and_eq_true] at hf
    have e1 := Nat.eq_of_beq_eq_true hf.1.1.1
    have e2 := Nat.eq_of_beq_eq_true hf.1.1.2
    have e3 := Nat.eq_of_beq_eq_true hf.1.2
    have e4 := Nat.eq_of_beq_eq_true hf.2
    have := q_in_tbl (q_FL_ok q hq)
    rw [e1, e2, e3, e4] at this
    exact C0.2.2.2.2.1 _ this
  have key : ∀ (r : Nat) (sl : List (Option (Option Nat))) (v : Value), h.1[r]? = some (.inl (a, sl)) → j < q_nf a → j < sl.length → narrow (q_ty a j) v = v → fits (q_ty a j) v = true → ∀ st2 : List Value, (∀ (H1 : Heap) (locs1 : List Loc), va_P D q_cl ((q_wl cs base h.1 h.2).set r (base + r, .inr (a, (q_fs base sl (h.2 r)).set j v))) H1 → va_S (q_A base) s.heap H1 locs1 → W p l e R s m args below meth c H1 locs1 cells slots Q (F0 m (pc + 3) ls st2)) → W p l e R s m args below meth c H locs cells slots Q (F0 m pc ls (v :: .ref (base + r) :: st2)) := by
    intro r sl v hr hj hjl hn hfit st2 kk
    obtain ⟨c1, c2, -⟩ := q_clok1 a ha
    cases hF : (q_T a j).2.2.2 with
    | false => exact va_put C0.1 C0.2.1 C0.2.2.2.2.1 (q_lays a ha) (q_ty a) c1 c2 C0.2.2.2.1 C0.2.2.2.2.2.1 hD.1 q_wl_D hD.2.1 r (q_wl_at hr) (q_clget a ha) j hj hlink (fun x hx => hx) hF (c1 j hj) hn hfit (by show j < (q_fs base sl (h.2 r)).length; rw [q_fs_len]; exact hjl) hdg (fun H1 locs1 hP _ hS => kk H1 locs1 hP hS)
    | true =>
      rw [hF] at hfin
      simp only [Bool.not_true, Bool.false_or, Bool.and_eq_true, decide_eq_true_eq] at hfin
      exact va_putF C0.1 C0.2.1 C0.2.2.2.2.1 (q_lays a ha) (q_ty a) c1 c2 C0.2.2.2.1 C0.2.2.2.2.2.1 hD.1 q_wl_D hD.2.1 r (q_wl_at hr) (q_clget a ha) j hj hlink (fun x hx => hx) hF (q_init C0.2.2.2.2.2.2.1 hfin.1) hfin.2 (c1 j hj) hn hfit (by show j < (q_fs base sl (h.2 r)).length; rw [q_fs_len]; exact hjl) hdg (fun H1 locs1 hP _ hS => kk H1 locs1 hP hS)
  unfold q_pf at hs
  split at hs
  · rename_i x r st2
    split at hs
    · rename_i ci sl hr
      cases hb : (Nat.beq ci a && Nat.blt j (q_nf a) && q_isI a j) with
      | false => rw [hb] at hs; cases hs
      | true =>
        rw [hb] at hs
        rw [Bool.and_eq_true, Bool.and_eq_true] at hb
        obtain rfl := Nat.eq_of_beq_eq_true hb.1.1
        have hj : j < q_nf ci := by simpa [Nat.blt_eq] using hb.1.2
        have hty : q_ty ci j = .int := of_decide_eq_true hb.2
        dsimp only [cond_true] at hs
        split at hs
        · rename_i hv
          cases hs
          refine key r sl (.int x) hr hj (List.getElem?_eq_some_iff.mp hv).1 (by rw [hty]; rfl) (by rw [hty]; rfl) _ (fun H1 locs1 hP hS => ?_)
          refine g ls H1 locs1 cells slots ⟨?_, hS, hD.2.2⟩ hc hz
          have e9 := q_wl_set (cs := cs) (base := base) (m := h.2) (m' := q_up h.2 r j x) (e' := .inl (ci, sl)) hr (fun j hj => q_up_ne hj)
          rw [q_set_self hr, q_up_eq] at e9
          show va_P D q_cl (q_wl cs base h.1 (q_up h.2 r j x)) H1
          rw [← e9]
          show va_P D q_cl ((q_wl cs base h.1 h.2).set r (base + r, .inr (ci, q_fs base sl (upd (h.2 r) j x)))) H1
          rw [q_fs_up hv]
          exact hP
        · cases hs
    · cases hs
  · rename_i v r st2
    split at hs
    · rename_i ci sl hr
      cases hb : (Nat.beq ci a && Nat.blt j (q_nf a) && !(q_isI a j)) with
      | false => rw [hb] at hs; cases hs
      | true =>
        rw [hb] at hs
        rw [Bool.and_eq_true, Bool.and_eq_true] at hb
        obtain rfl := Nat.eq_of_beq_eq_true hb.1.1
        have hj : j < q_nf ci := by simpa [Nat.blt_eq] using hb.1.2
        have hI : q_isI ci j = false := by simpa using hb.2
        have hty : ¬ q_ty ci j = .int := of_decide_eq_false hI
        have hok := q_tys_ok ci ha j hj hI
        have hff : narrow (q_ty ci j) (q_ad base v) = q_ad base v ∧ fits (q_ty ci j) (q_ad base v) = true := by
          apply q_fitr hty
          revert hok
          generalize q_ty ci j = ty
          intro hok
          split at hok
          · exact Or.inl rfl
          · exact Or.inr (Or.inl rfl)
          · exact Or.inr (Or.inr (Or.inl rfl))
          · exact Or.inr (Or.inr (Or.inr (Or.inl ⟨_, rfl⟩)))
          · exact Or.inr (Or.inr (Or.inr (Or.inr ⟨_, rfl⟩)))
          · cases hok
        dsimp only [cond_true] at hs
        split at hs
        · rename_i v0 hv
          cases hs
          refine key r sl (q_ad base v) hr hj (List.getElem?_eq_some_iff.mp hv).1 hff.1 hff.2 _ (fun H1 locs1 hP hS => ?_)
          have hz2 : q_sz (Sum.inl (ci, sl.set j (some v)) : q_S) = q_sz (Sum.inl (ci, sl) : q_S) := List.length_set
          refine g ls H1 locs1 cells slots ⟨?_, hS, hD.2.2⟩ (by rw [hc]; exact (List.length_set).symm) (by rw [hz]; exact (q_slo_set hr hz2).symm)
          have e9 := q_wl_set (cs := cs) (base := base) (m := h.2) (m' := h.2) (e' := .inl (ci, sl.set j (some v))) hr (fun j hj => rfl)
          show va_P D q_cl (q_wl cs base (h.1.set r (.inl (ci, sl.set j (some v)))) h.2) H1
          rw [← e9]
          show va_P D q_cl ((q_wl cs base h.1 h.2).set r (base + r, .inr (ci, q_fs base (sl.set j (some v)) (h.2 r)))) H1
          rw [q_fs_ur]
          exact hP
        · cases hs
    · cases hs
  · cases hs
theorem q_s_acp (C0 : q_Cx D cs base b n0 X k p s m args meth c) {i : Nat} (hdg : decode (q_by k) pc = .ok (.invokestatic i, 3)) (hown : q_cx k = 6) (hi : i = 34) (hRf : 1 ≤ R.frames) (hRl : 64 ≤ R.locals) (hpl : pl.length = q_mL k) (hs : q_acp pc pl st h = some (pc', pl', st', h')) (g : q_G p l e R s m args below meth c Q D cs base b n0 s0 pc' pl' st' h') : q_G p l e R s m args below meth c Q D cs base b n0 s0 pc pl st h := by
  intro ls H locs cells slots hD hc hz
  unfold q_acp at hs
  split at hs
  · rename_i n dp d sp sr st2
    split at hs
    · rename_i ka na kb nb h1 h2
      cases hb : (Nat.beq ka 0 && Nat.beq kb 0 && decide (¬ sp < 0) && decide (¬ dp < 0) && decide (¬ n < 0) && Nat.ble (sp.toNatClampNeg + n.toNatClampNeg) na && Nat.ble (dp.toNatClampNeg + n.toNatClampNeg) nb && Nat.ble st2.length 8) with
      | false => rw [hb] at hs; cases hs
      | true =>
        rw [hb] at hs
        cases hs
        simp only [Bool.and_eq_true, decide_eq_true_eq] at hb
        obtain ⟨⟨⟨⟨⟨⟨⟨b1, b2⟩, b3⟩, b4⟩, b5⟩, b6⟩, b7⟩, b8⟩ := hb
        obtain rfl := Nat.eq_of_beq_eq_true b1
        obtain rfl := Nat.eq_of_beq_eq_true b2
        have hsum := q_cats (base := base) (b := b) (Nat.le_of_ble_eq_true b8)
        have T : ∀ (w : Cond) (i : Nat), tables_1[i]? = some w → w.before args s = true := fun w i hw => C0.2.2.2.2.1 _ (q_in_tbl hw)
        have hown2 := C0.2.2.2.1
        rw [hown] at hown2
        subst hi
        refine va_copyi (ty := .int) C0.1 C0.2.1 (C0.2.2.1.trans (hpl.symm.trans hD.2.2.1.symm)) hown2 (T _ 365 (by decide +kernel)) (T _ 367 (by decide +kernel)) (T _ 366 (by decide +kernel)) (T _ 13 (by decide +kernel)) C0.2.2.2.2.2.1 hD.1 q_wl_D hD.2.1 sr d 0 0 (q_wl_at h1) (q_wl_at h2) rfl rfl rfl b3 b4 b5 (Nat.le_of_ble_eq_true b6) (Nat.le_of_ble_eq_true b7) (fun i _ => rfl) hRf (Nat.le_trans (Nat.add_le_add_right hsum _) (Nat.le_trans (show 8 + (nativeFrameWords "java/lang/System" "arraycopy" 5 + 11) ≤ 64 by decide +kernel) hRl)) hdg (fun H1 locs1 hP _ hS => ?_)
        refine g ls H1 locs1 cells slots ⟨?_, hS, hD.2.2⟩ hc hz
        have e9 := q_wl_set (cs := cs) (base := base) (m := h.2) (m' := q_cpy h.2 sr sp.toNatClampNeg d dp.toNatClampNeg n.toNatClampNeg) (e' := .inr (.inl (0, nb))) h2 (fun j hj => q_cpy_ne hj)
        rw [q_set_self h2, q_cpy_eq] at e9
        show va_P D q_cl (q_wl cs base h.1 (q_cpy h.2 sr sp.toNatClampNeg d dp.toNatClampNeg n.toNatClampNeg)) H1
        rw [← e9]
        exact hP
    · cases hs
  · cases hs
end QS
