/-- what is left: the pure machine's run of the law, for every script -/
def q_Law (L : Nat) (xs : Nat → Int32) : Prop := ∃ (n : Nat) (h' : q_H), q_ex n (some (L, xs)) 100 0 0 [some (.inr (.inr ())), none, none, none] [] ([], fun _ _ => 0) = some (some 1, h') ∧ h'.1.length ≤ 600000 ∧ q_slo h'.1 ≤ 7302250
theorem q_arr1 {s : State} {a : Array Value} {ty : FieldType} (h : (Cond.arrayClass ty).before a s = true) (hn : ∀ C, ty ≠ .object C) : ∃ cA : ClassId, ArrOfT s cA ty ∧ va_RA s cA ty := by
  obtain ⟨cA, k, comp, h1, h2, h3⟩ := Cond.arrayClass_spec h
  refine ⟨cA, fun n z => ⟨(fun q hq => by cases hq), k, h2, comp, h3⟩, ?_⟩
  cases ty with
  | object C => exact absurd rfl (hn C)
  | _ => exact h1
theorem q_arr2 {s : State} {a : Array Value} {C : String} (h : (Cond.arrayOver (.object C)).before a s = true) : ∃ cA : ClassId, ArrOfT s cA (.object C) ∧ va_RA s cA (.object C) := by
  obtain ⟨comp, cA, k, h1, -, h2, h3, h4⟩ := Cond.arrayOver_spec h
  exact ⟨cA, fun n z => ⟨(fun q hq => by cases hq), k, h2, comp, h3⟩, k, comp, h2, h3, h1, h4⟩
theorem q_arr3 {s : State} {a : Array Value} (h : (Cond.arrayOver (.array .int)).before a s = true) : ∃ cA : ClassId, ArrOfT s cA (.array .int) ∧ va_RA s cA (.array .int) := by
  obtain ⟨cG, cR, kG, fG, -, hG, tG⟩ := q_over2 h
  rw [← q_e2] at fG
  exact ⟨cG, fun n z => ⟨(fun q hq => by cases hq), kG, hG, cR, tG⟩, fG⟩
theorem q_world {s : State} {a : Array Value} (hts : ∀ w ∈ lw_tbl, w.before a s = true) : ∃ (D : va_G) (cs : Nat → ClassId), va_K D q_cl (q_tys cs) s := by
  have hex : ∀ ci : Nat, ∃ y : ClassId × (Nat → Nat), ci < 10 → u_Kn s (q_cn ci) (q_T ci) (q_nf ci) y.1 y.2 := by
    intro ci
    by_cases h : ci < 10
    · obtain ⟨cC, iS, hK⟩ := u_known (n := q_nf ci) hts (q_lays ci h) (hts _ (q_mem_tbl (q_inst ci h).1))
      exact ⟨(cC, iS), fun _ => hK⟩
    · exact ⟨(0, fun _ => 0), fun q => absurd q h⟩
  obtain ⟨f, hf⟩ := Classical.axiomOfChoice hex
  obtain ⟨x1, x2, -⟩ := q_xt_of hts
  obtain ⟨c0, a0, r0⟩ := q_arr1 (hts _ q_w39) (fun C q => by cases q)
  obtain ⟨c1, a1, r1⟩ := q_arr1 (hts _ q_w814) (fun C q => by cases q)
  obtain ⟨c2, a2, r2⟩ := q_arr2 x1
  obtain ⟨c3, a3, r3⟩ := q_arr3 x2
  refine ⟨(fun k => (f k).1, fun k => (f k).2), fun k => match k with | 0 => c0 | 1 => c1 | 2 => c2 | _ => c3, ?_, ?_⟩
  · intro k q hq
    have hk : k < 10 := (List.getElem?_eq_some_iff.mp hq).1
    rw [q_clget k hk] at hq
    cases hq
    exact hf k hk
  · intro k q hq
    have hk : k < 4 := (List.getElem?_eq_some_iff.mp hq).1
    rcases (by omega : k = 0 ∨ k = 1 ∨ k = 2 ∨ k = 3) with rfl | rfl | rfl | rfl
    · cases hq; exact ⟨a0, r0⟩
    · cases hq; exact ⟨a1, r1⟩
    · cases hq; exact ⟨a2, r2⟩
    · cases hq; exact ⟨a3, r3⟩
/-! THE CLAIM OUT OF ONE WALK OF THE LAW'S BODY. Your part is whole_start (and what it stands on); all else here is the same for every law, but numbers. -/
def R_law : String := "TallyCourtLaw"
def lw_P (b : Addr) (xs : List Int32) (args : Array Value) (s : State) : Prop := args = #[.ref b] ∧ s.IntsAt b xs ∧ xs.length ≤ 320 ∧ (Jvm.Cond.and given_1 narrow_1).before args s = true
def lw_Q (_ : Array Value) (s : State) (o : Outcome) (t : State) : Prop := o = .returned (some (.int 1)) ∧ Framed s o t [] 600000 7302250
def lw_Z (below : List Frame) (a : Array Value) (s : State) : State → Prop := fun t => ∃ o, t.status = .running ∧ Ended t below o ∧ lw_Q a s o t
/-- the law's own end, with 1 on the stack, nothing written that was there before, its room as the claim has it -/
theorem lw_ret {p : Program} {l : Launch} {e : Env} {s : State} {m : MethodId} {below : List Frame} {meth : Method} {c : Code} {b : Nat} (hx : p.tables.exec = Jvm.exec) (hb : c.code = code) (hr : meth.sig.returnType = ret) (hlocks : meth.locks = false) {pc : Nat} {H : Heap} {ls : Array Slot} (hdg : decode code pc = .ok (.ireturn, 1)) : W p l e room_1 s m #[Value.ref b] below meth c H [] 600000 7302250 (lw_Z below #[Value.ref b] s) (F0 m pc ls [.int 1]) := by
  intro T hT X
  obtain ⟨fs, hret, hrun, hended, hW, hframe⟩ := X.leave (v := some (.int 1)) (hlocks := hlocks) (fun h => by rw [hr] at h; cases h)
  have hmeth' : T.vm.method? m = some meth := X.method'
  refine ⟨T.setFrames fs, ?_, .returned (some (.int 1)), hrun, hended, rfl, ⟨_, rfl⟩, hW, hframe⟩
  jvm_step X.here [X.here.top, hx, hb, hdg, hmeth', hr, ret, narrow_b1]
  (try refine ⟨rfl, ?_⟩); (try refine ⟨rfl, ?_⟩)
  first | (intro acts; rw [hret _ acts rfl rfl rfl]) | rw [hret _ _ rfl rfl rfl]
  exact Steps.refl _
/-- what holds at the law's entry: the machine, the code, the tables' words (any of lw_tbl by 'hts w (by decide +kernel)'), the script of L ints xs at the cell b, what the Statement gives of the start (any of its parts by flat_of_before) -/
def lw_At (p : Program) (s : State) (m : MethodId) (meth : Method) (c : Code) (b L : Nat) (xs : Nat → Int32) : Prop :=
  p.tables.exec = Jvm.exec ∧ c.code = code ∧ meth.sig.returnType = ret ∧ c.maxLocals = 4 ∧ s.vm.findClass R_law = some m.cls ∧ (∀ w ∈ lw_tbl, w.before #[Value.ref b] s = true) ∧ va_X b L xs s s.heap ∧ b < s.heap.size ∧ meth.locks = false ∧ (Jvm.Cond.and given_1 narrow_1).before #[Value.ref b] s = true
theorem whole_of {p : Program} {e : Env} {s : State} {m : MethodId} {below : List Frame} {meth : Method} {c : Code} (l : Launch) {b L : Nat} {xs : Nat → Int32} (hQ : q_Law L xs) (C0 : lw_At p s m meth c b L xs) : W p l e room_1 s m #[Value.ref b] below meth c s.heap [] 0 0 (lw_Z below #[Value.ref b] s) (entryFrame m ([Value.ref b] : List Value).toArray 4) := by
  obtain ⟨hx, hb, hr, hml, hown, hts, hX, hbl, hlocks, hgv⟩ := id C0
  obtain ⟨D, cs, hK⟩ := q_world hts
  obtain ⟨n, h', hex, hc1, hs1⟩ := hQ
  have C1 : q_Cx D cs s.heap.size b 0 (some (L, xs)) 0 p s m #[Value.ref b] meth c := ⟨hx, hb, hml, hown, hts, hK, Or.inl rfl, (Nat.add_zero _).symm, (fun L2 xs2 q => by cases q; exact ⟨hX, hbl⟩), by decide⟩
  have hl := lv_entry ([Value.ref b]) (n := 4) (Nat.le_of_ble_eq_true rfl)
  rw [lg_entry_eq]
  generalize (lg_sl ([Value.ref b]) ++ List.replicate (4 - (lg_sl ([Value.ref b])).length) Slot.unset).toArray = ls at hl ⊢
  have hLR : q_LR s.heap.size b ls [some (.inr (.inr ())), none, none, none] := by
    refine ⟨hl.1, hl.2.1, fun i v hv => ?_⟩
    have h2 := q_lg_en (as := [.inr (.inr ())]) (n := 3) hv
    have h3 := q_lva (base := s.heap.size) (b := b) [.inr (.inr ())] 0 i v h2
    rw [Nat.zero_add] at h3
    exact hl.2.2 _ h3
  refine q_run l n (some (L, xs)) 100 0 0 _ [] ([], fun _ _ => 0) (some 1) h' hex D cs s.heap.size p e room_1 s m #[Value.ref b] below meth c _ b 0 0 C1 rfl (by decide) (by decide) hc1 hs1 (fun pc' pl' hfin => ?_) ls s.heap [] 0 0 ⟨(fun k q hk => by cases hk), va_S.rf, hLR⟩ rfl rfl
  intro ls2 H locs cells slots hD hc hz
  have hfin : decode code pc' = .ok (.ireturn, 1) ∧ _ := hfin
  refine va_forget (fun q hq => hD.2.1.2.2 q hq) ?_
  refine W.widen (k := 600000) (n := 7302250) (by omega) (by omega) ?_
  exact lw_ret hx hb hr hlocks hfin.1
