def q_fin (k : Nat) (pc : Nat) (r : Option Int32) : Prop := match r with
  | some v => decode (q_by k) pc = .ok (.ireturn, 1) ∧ q_ro k v = true
  | none => decode (q_by k) pc = .ok (.return_, 1) ∧ q_rt k = none
def q_RunA (l : Launch) (n : Nat) : Prop := ∀ (X : q_X) (d k pc : Nat) (pl : q_L) (st : List q_V) (h : q_H) (r : Option Int32) (h' : q_H), q_ex n X d k pc pl st h = some (r, h') → ∀ (D : va_G) (cs : Nat → ClassId) (base : Nat) (p : Program) (e : Env) (R : Room) (s : State) (m : MethodId) (args : Array Value) (below : List Frame) (meth : Method) (c : Code) (Q : State → Prop) (b n0 s0 : Nat),
  q_Cx D cs base b n0 X k p s m args meth c → pl.length = q_mL k → d + 2 ≤ R.frames → 64 * (d + 1) ≤ R.locals → h'.1.length ≤ R.cells + n0 → q_slo h'.1 ≤ R.slots + s0 → (∀ (pc' : Nat) (pl' : q_L), q_fin k pc' r → q_G p l e R s m args below meth c Q D cs base b n0 s0 pc' pl' (q_psh r []) h') → q_G p l e R s m args below meth c Q D cs base b n0 s0 pc pl st h
theorem q_lva {base b : Nat} : ∀ (as : List q_V) (j i : Nat) (v : q_V), as[i]? = some v → (j + i, q_ev base b v) ∈ lv_args j (as.map (q_ev base b)) := by
  intro as
  induction as with
  | nil => intro j i v h; simp at h
  | cons a t ih =>
    intro j i v h
    cases i with
    | zero =>
      have h : some a = some v := by simpa using h
      cases h
      exact List.mem_cons_self
    | succ i =>
      have h : t[i]? = some v := by simpa using h
      have h2 := ih (j + 1) i v h
      show (j + (i + 1), q_ev base b v) ∈ (j, q_ev base b a) :: lv_args (if (q_ev base b a).category = 2 then j + 2 else j + 1) (t.map (q_ev base b))
      rw [if_neg (by rw [q_ev_cat]; decide), show j + (i + 1) = j + 1 + i by omega]
      exact List.mem_cons_of_mem _ h2
theorem q_lgl {base b : Nat} (as : List q_V) : (lg_sl (as.map (q_ev base b))).length = as.length := by
  induction as with
  | nil => rfl
  | cons a t ih =>
    have e : lg_sl ((a :: t).map (q_ev base b)) = (if (q_ev base b a).category = 2 then [.val (q_ev base b a), .second] else [.val (q_ev base b a)]) ++ lg_sl (t.map (q_ev base b)) := rfl
    rw [e, if_neg (by rw [q_ev_cat]; decide), List.length_append, ih, List.length_cons, List.length_cons, List.length_nil]
    omega
theorem q_lg_en {as : List q_V} {n i : Nat} {v : q_V} (h : q_lg (as.map some ++ List.replicate n none) i = some v) : as[i]? = some v := by
  unfold q_lg at h
  rw [List.getD_eq_getElem?_getD] at h
  by_cases hi : i < as.length
  · rw [List.getElem?_append_left (by rw [List.length_map]; exact hi), List.getElem?_map, List.getElem?_eq_getElem hi] at h
    rw [List.getElem?_eq_getElem hi]
    exact h
  · rw [List.getElem?_append_right (by rw [List.length_map]; omega), List.getElem?_replicate] at h
    split at h <;> cases h
theorem q_ro_ty {k : Nat} {v : Int32} (h : q_ro k v = true) : ∃ ty : FieldType, q_rt k = some ty ∧ narrow ty (.int v) = .int v := by
  unfold q_ro at h
  split at h
  · rename_i e
    exact ⟨_, e, rfl⟩
  · rename_i e
    refine ⟨_, e, ?_⟩
    rw [Bool.or_eq_true, decide_eq_true_eq, decide_eq_true_eq] at h
    rcases h with rfl | rfl <;> decide +kernel
  · cases h
theorem q_met {l : Launch} {n : Nat} (hA : q_RunA l n) {d f : Nat} {as : List q_V} {h h' : q_H} {r : Option Int32} (h0 : 0 < f) (hf : f < 182) (hal : as.length = q_na f) (hex : q_ex n none d f 0 (q_en f as) [] h = some (r, h')) (D : va_G) (cs : Nat → ClassId) (base : Nat) : q_Met l D cs base d f as h r h' := by
  obtain ⟨f1, f2, f3, f4, f5, f6, f7, f8, f9, f10, f11⟩ := q_mok_all f h0 hf
  have hmo := q_m_ex _ _ _ _ _ _ _ _ _ _ hex
  have mo1 := hmo.1
  have mo2 := hmo.2
  unfold q_Met
  refine Met.ofW (cc := q_by f) (maxL := q_mL f) (ret := q_rt f) f5 rfl ?_
  intro p e s m args below meth c s₁ B hml hv
  obtain ⟨rfl, hsz, hP, hK, hxt⟩ := hv
  have hts := q_hts (f := f) (atoms_spec (ws := q_ws f) B.pre) hxt
  have hown : s.vm.findClass (q_nm f).cls = some m.cls := findClass_of_methodNamed B.named
  have hname := (name_of_methodNamed B.named B.method).1
  have C0 : q_Cx D cs base 0 h.1.length none f p s m (as.map (q_ev base 0)).toArray meth c := ⟨B.exec, B.bytes, hml, by rw [← f4]; exact hown, hts, hK, Or.inr hname, hsz, (fun _ _ q => by cases q), hf⟩
  have hl := lv_entry (as.map (q_ev base 0)) (n := q_mL f) (by rw [q_lgl, hal]; exact f8)
  rw [lg_entry_eq]
  generalize (lg_sl (as.map (q_ev base 0)) ++ List.replicate (q_mL f - (lg_sl (as.map (q_ev base 0))).length) Slot.unset).toArray = ls at hl ⊢
  have henl : (q_en f as).length = q_mL f := by
    unfold q_en
    rw [List.length_append, List.length_map, List.length_replicate]
    omega
  have hLR : q_LR base 0 ls (q_en f as) := by
    refine ⟨by rw [henl]; exact hl.1, hl.2.1, fun i v hv => ?_⟩
    have h2 := q_lva (base := base) (b := 0) as 0 i v (q_lg_en hv)
    rw [Nat.zero_add] at h2
    exact hl.2.2 _ h2
  refine hA none d f 0 (q_en f as) [] h r h' hex D cs base p e _ s m _ below meth c _ 0 h.1.length (q_slo h.1) C0 henl (Nat.le_refl _) (Nat.le_refl _) (by show _ ≤ (h'.1.length - h.1.length) + _; omega) (by show _ ≤ (q_slo h'.1 - q_slo h.1) + _; omega) (fun pc' pl' hfin => ?_) ls s.heap [] 0 0 ⟨hP, va_S.rf, hLR⟩ (by omega) (by omega)
  intro ls2 H locs cells slots hD hc hz
  refine q_W_sz C0 hD hc (fun hsz' => ?_)
  have e1 : cells = h'.1.length - h.1.length := by omega
  have e2 : slots = q_slo h'.1 - q_slo h.1 := by omega
  subst e1
  subst e2
  have hq : ∀ t : State, t.heap = H → s.WarmedH t.vm → q_Wd D cs base h' t := fun t ht hW => ⟨by rw [ht]; exact hsz', by rw [ht]; exact hD.1, va_K.moved hW.alike hK, q_xt_mv hW hxt⟩
  cases r with
  | some v =>
    obtain ⟨hdg, hro⟩ := hfin
    obtain ⟨ty, hty, hn⟩ := q_ro_ty hro
    exact W.zret (ty := ty) B.exec B.bytes (B.returns.trans hty) hn (fun t ht hW => ⟨⟨v, (), rfl, rfl, hq t ht hW⟩, hD.2.1.F ht⟩) hD.2.1.2.2 hdg B.notSynchronized
  | none =>
    exact W.vret B.exec B.bytes (B.returns.trans hfin.2) (fun t ht hW => ⟨⟨(), rfl, trivial, hq t ht hW⟩, hD.2.1.F ht⟩) hD.2.1.2.2 hfin.1 B.notSynchronized
theorem q_e_dec {k pc : Nat} {e : q_E} (hk : k < 182) (he : q_cd k pc = some e) : decode (q_by k) pc = .ok (e.1, q_len e.1 e.2.2.1) := by
  have hok := q_eok_all hk he
  unfold q_eok at hok
  rw [Bool.and_eq_true] at hok
  exact of_decide_eq_true hok.1
theorem q_e_ret {k pc : Nat} {e : q_E} (hk : k < 182) (he : q_cd k pc = some e) (hkd : q_kd e = 2) : decode (q_by k) pc = .ok (.ireturn, 1) := by
  have h := q_e_dec hk he
  obtain ⟨ins, a, b9, cc⟩ := e
  cases ins with
  | ireturn => exact h
  | invokespecial i => unfold q_kd at hkd; dsimp only at hkd; cases hb : Nat.beq a 998 <;> rw [hb] at hkd <;> cases hkd
  | invokestatic i => unfold q_kd at hkd; dsimp only at hkd; cases hb : Nat.ble 995 a <;> rw [hb] at hkd <;> cases hkd
  | _ => cases hkd
theorem q_e_vret {k pc : Nat} {e : q_E} (hk : k < 182) (he : q_cd k pc = some e) (h0 : q_kd e = 0 → False) (h1 : q_kd e = 1 → False) (h2 : q_kd e = 2 → False) : decode (q_by k) pc = .ok (.return_, 1) := by
  have h := q_e_dec hk he
  obtain ⟨ins, a, b9, cc⟩ := e
  cases ins with
  | return_ => exact h
  | ireturn => exact absurd rfl h2
  | invokevirtual i => exact absurd rfl h1
  | invokespecial i => exfalso; unfold q_kd at h0 h1; dsimp only at h0 h1; cases hb : Nat.beq a 998 <;> rw [hb] at h0 h1 <;> first | exact h0 rfl | exact h1 rfl
  | invokestatic i => exfalso; unfold q_kd at h0 h1; dsimp only at h0 h1; cases hb : Nat.ble 995 a <;> rw [hb] at h0 h1 <;> first | exact h0 rfl | exact h1 rfl
  | _ => exact absurd rfl h0
theorem q_e_call {k pc : Nat} {e : q_E} (hk : k < 182) (he : q_cd k pc = some e) (hkd : q_kd e = 1) : 0 < e.2.1 ∧ e.2.1 < 182 := by
  have hok := q_eok_all hk he
  unfold q_eok at hok
  rw [Bool.and_eq_true] at hok
  obtain ⟨-, hok⟩ := hok
  obtain ⟨ins, f, b9, cc⟩ := e
  dsimp only at hok ⊢
  cases ins with
  | invokevirtual i =>
    simp only [Bool.and_eq_true] at hok
    exact ⟨by simpa [Nat.blt_eq] using hok.1.1.1.2, by simpa [Nat.blt_eq] using hok.1.1.2⟩
  | invokespecial i =>
    unfold q_kd at hkd
    dsimp only at hkd
    cases ha : Nat.beq f 998 with
    | true => rw [ha] at hkd; cases hkd
    | false =>
      rw [ha] at hok
      have hok : (q_ML.any (fun q => Nat.beq q.1 (q_cx k) && Nat.beq q.2.1 i && Nat.beq q.2.2.1 f) && Nat.blt 0 f && Nat.blt f 182 && !(q_stt f) && decide ((q_nm f).name = "<init>") && (q_rt f).isNone) = true := hok
      simp only [Bool.and_eq_true] at hok
      exact ⟨by simpa [Nat.blt_eq] using hok.1.1.1.1.2, by simpa [Nat.blt_eq] using hok.1.1.1.2⟩
  | invokestatic i =>
    unfold q_kd at hkd
    dsimp only at hkd
    cases ha : Nat.ble 995 f with
    | true => rw [ha] at hkd; cases hkd
    | false =>
      have ha2 : Nat.beq f 999 = false := by
        cases hb : Nat.beq f 999 with
        | false => rfl
        | true =>
          have := Nat.eq_of_beq_eq_true hb
          subst this
          cases ha
      rw [ha, ha2] at hok
      have hok : (q_stt f && Nat.blt 0 f && Nat.blt f 182 && (bif Nat.beq b9 0 then q_ML.any (fun q => Nat.beq q.1 (q_cx k) && Nat.beq q.2.1 i && Nat.beq q.2.2.1 f) else q_NL.any (fun q => Nat.beq q.1 (q_cx k) && Nat.beq q.2.1 i && Nat.beq q.2.2.1 f))) = true := hok
      simp only [Bool.and_eq_true] at hok
      exact ⟨by simpa [Nat.blt_eq] using hok.1.1.2, by simpa [Nat.blt_eq] using hok.1.2⟩
  | _ => cases hkd
theorem q_okc_1 {f : Nat} {st : List q_V} {h : q_H} (hb : q_okc f st h = true) : (q_arg f st).length = q_na f := by
  unfold q_okc at hb
  simp only [Bool.and_eq_true] at hb
  exact (q_st_arg (Nat.le_of_ble_eq_true hb.1.1.1)).2
/-- WHAT THE PURE MACHINE ENDS WITH, THE MACHINE ENDS WITH -/
theorem q_run (l : Launch) : ∀ n : Nat, q_RunA l n := by
  intro n
  induction n with
  | zero => intro X d k pc pl st h r h' hs; cases hs
  | succ n ih =>
    intro X d k pc pl st h r h' hs D cs base p e R s m args below meth c Q b n0 s0 C0 hpl hRf hRl hRc hRs hend
    have hk := C0.2.2.2.2.2.2.2.2.2
    unfold q_ex at hs
    split at hs
    · cases hs
    · rename_i e9 he
      split at hs
      · rename_i hkd
        split at hs
        · rename_i pc1 pl1 st1 h1 hst
          have mo := q_m_ex _ _ _ _ _ _ _ _ _ _ hs
          have mo1 := mo.1
          have mo2 := mo.2
          exact q_stp C0 hpl (by omega) (by omega) (by omega) (by omega) he hkd hst (ih X d k pc1 pl1 st1 h1 r h' hs D cs base p e R s m args below meth c Q b n0 s0 C0 ((q_n_step hst).trans hpl) hRf hRl hRc hRs hend)
        · cases hs
      · rename_i hkd
        obtain ⟨g0, gf⟩ := q_e_call hk he hkd
        split at hs
        · cases hs
        · rename_i d1
          cases hb : q_okc e9.2.1 st h with
          | false => rw [hb] at hs; cases hs
          | true =>
            rw [hb] at hs
            dsimp only [cond_true] at hs
            split at hs
            · rename_i v h1 hcall
              have moA := q_m_ex _ _ _ _ _ _ _ _ _ _ hcall
              have mo := q_m_ex _ _ _ _ _ _ _ _ _ _ hs
              have mo1 := mo.1
              have mo2 := mo.2
              exact q_call C0 hpl he hkd hb moA (by omega) (by omega) (by omega) (by omega) (q_met ih g0 gf (q_okc_1 hb) hcall D cs base) (ih X (d1 + 1) k (pc + 3) pl _ h1 r h' hs D cs base p e R s m args below meth c Q b n0 s0 C0 hpl hRf hRl hRc hRs hend)
            · rename_i h1 hcall
              have moA := q_m_ex _ _ _ _ _ _ _ _ _ _ hcall
              have mo := q_m_ex _ _ _ _ _ _ _ _ _ _ hs
              have mo1 := mo.1
              have mo2 := mo.2
              exact q_call C0 hpl he hkd hb moA (by omega) (by omega) (by omega) (by omega) (q_met ih g0 gf (q_okc_1 hb) hcall D cs base) (ih X (d1 + 1) k (pc + 3) pl _ h1 r h' hs D cs base p e R s m args below meth c Q b n0 s0 C0 hpl hRf hRl hRc hRs hend)
            · cases hs
      · rename_i hkd
        split at hs
        · rename_i v
          cases hb : q_ro k v with
          | false => rw [hb] at hs; cases hs
          | true =>
            rw [hb] at hs
            cases hs
            exact hend pc pl ⟨q_e_ret hk he hkd, hb⟩
        · cases hs
      · rename_i k0 k1 k2
        split at hs
        · cases hb : (q_rt k).isNone with
          | false => rw [hb] at hs; cases hs
          | true =>
            rw [hb] at hs
            cases hs
            exact hend pc pl ⟨q_e_vret hk he k0 k1 k2, by simpa using hb⟩
        · cases hs
