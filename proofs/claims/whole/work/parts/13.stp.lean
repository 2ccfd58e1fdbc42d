theorem q_w20 : Cond.instanceMethod objectInit ∈ lw_tbl := q_in_tbl (i := 20) (by decide +kernel)
theorem q_w21 : Cond.code objectInit ⟨#[0xb1]⟩ 1 none ∈ lw_tbl := q_in_tbl (i := 21) (by decide +kernel)
theorem q_w12 : Cond.initialized "java/lang/Math" ∈ lw_tbl := q_in_tbl (i := 12) (by decide +kernel)
theorem q_w348 : Cond.static Lib.Math.max.name ∈ lw_tbl := q_in_tbl (i := 348) (by decide +kernel)
theorem q_w349 : Cond.code Lib.Math.max.name Lib.Math.max.code 2 (some .int) ∈ lw_tbl := q_in_tbl (i := 349) (by decide +kernel)
theorem q_w414 : Cond.static Lib.Math.min.name ∈ lw_tbl := q_in_tbl (i := 414) (by decide +kernel)
theorem q_w415 : Cond.code Lib.Math.min.name Lib.Math.min.code 2 (some .int) ∈ lw_tbl := q_in_tbl (i := 415) (by decide +kernel)
theorem q_w433 : Cond.static Lib.Math.abs.name ∈ lw_tbl := q_in_tbl (i := 433) (by decide +kernel)
theorem q_w434 : Cond.code Lib.Math.abs.name Lib.Math.abs.code 1 (some .int) ∈ lw_tbl := q_in_tbl (i := 434) (by decide +kernel)
theorem q_arr_all {a : Array Int} {f : Int → Bool} (h : a.all f = true) {i : Nat} {x : Int} (hx : a[i]? = some x) : f x = true := by
  obtain ⟨hi, rfl⟩ := Array.getElem?_eq_some_iff.mp hx
  first
    | exact Array.all_eq_true.mp h i hi
    | (simp only [Array.all_eq_true] at h; exact h i hi)
    | (simp at h; exact h i hi)
section QS
variable {p : Program} {l : Launch} {e : Env} {R : Room} {s : State} {m : MethodId} {args : Array Value} {below : List Frame} {meth : Method} {c : Code} {Q : State → Prop}
variable {D : va_G} {cs : Nat → ClassId} {base b n0 s0 : Nat} {X : q_X} {k pc pc' : Nat} {pl pl' : q_L} {st st' : List q_V} {h h' : q_H}
theorem q_kc (C0 : q_Cx D cs base b n0 X k p s m args meth c) {i : Nat} {v : Int32} (hok : q_KC.any (fun q => Nat.beq q.1 (q_cx k) && Nat.beq q.2.1 i && decide (q.2.2.1 = v)) = true) : (Cond.constant (q_cn (q_cx k)) i v).before args s = true := by
  obtain ⟨q, hq, hf⟩ := q_any hok
  simp only [Bool.and_eq_true, decide_eq_true_eq] at hf
  have e1 := Nat.eq_of_beq_eq_true hf.1.1
  have e2 := Nat.eq_of_beq_eq_true hf.1.2
  have := q_in_tbl (q_KC_ok q hq)
  rw [e1, e2, hf.2] at this
  exact C0.2.2.2.2.1 _ this
theorem q_s_mx (C0 : q_Cx D cs base b n0 X k p s m args meth c) (hpl : pl.length = q_mL k) (hRf : 1 ≤ R.frames) (hRl : 64 ≤ R.locals) (hRc : h'.1.length ≤ R.cells + n0) (hRs : q_slo h'.1 ≤ R.slots + s0) {i a : Nat} (hdg : decode (q_by k) pc = .ok (.invokestatic i, 3)) (hok : q_MX.any (fun q => Nat.beq q.1 (q_cx k) && Nat.beq q.2.1 i && Nat.beq q.2.2.1 a) = true) (hs : q_mx a pc pl st h = some (pc', pl', st', h')) (g : q_G p l e R s m args below meth c Q D cs base b n0 s0 pc' pl' st' h') : q_G p l e R s m args below meth c Q D cs base b n0 s0 pc pl st h := by
  intro ls H locs cells slots hD hc hz
  have hlink : (Cond.methodLink (q_cn (q_cx k)) i (q_mxn a)).before args s = true := by
    obtain ⟨q, hq, hf⟩ := q_any hok
    simp only [Bool.and_eq_true] at hf
    have e1 := Nat.eq_of_beq_eq_true hf.1.1
    have e2 := Nat.eq_of_beq_eq_true hf.1.2
    have e3 := Nat.eq_of_beq_eq_true hf.2
    have := q_in_tbl (q_MX_ok q hq)
    rw [e1, e2, e3] at this
    exact C0.2.2.2.2.1 _ this
  have hml : c.maxLocals = ls.size := C0.2.2.1.trans (hpl.symm.trans hD.2.2.1.symm)
  have hW := fun w hw => C0.2.2.2.2.1 w hw
  have hmo := q_m_mx hs
  have hc1 : cells ≤ R.cells := by have := hmo.1; omega
  have hc2 : slots ≤ R.slots := by have := hmo.2; omega
  unfold q_mx at hs
  rcases q_bif hs with ⟨ha, hs⟩ | ⟨-, hs⟩
  · rw [Nat.eq_of_beq_eq_true ha] at hlink
    rcases st with _ | ⟨x | v, st2⟩
    · cases hs
    · dsimp only at hs
      cases hb : Nat.ble st2.length 8 with
      | false => rw [hb] at hs; cases hs
      | true =>
        rw [hb] at hs
        cases hs
        have hsum := q_cats (base := base) (b := b) (Nat.le_of_ble_eq_true hb)
        exact va_mabs C0.1 C0.2.1 hml C0.2.2.2.1 hlink (hW _ q_w433) (hW _ q_w12) (hW _ q_w434) hRf (by omega) hc1 hc2 hdg (g ls H locs cells slots hD hc hz)
    · cases hs
  · rcases q_bif hs with ⟨ha, hs⟩ | ⟨-, hs⟩
    · rw [Nat.eq_of_beq_eq_true ha] at hlink
      rcases st with _ | ⟨y | v, _ | ⟨x | v, st2⟩⟩
      · cases hs
      · cases hs
      · dsimp only at hs
        cases hb : Nat.ble st2.length 8 with
        | false => rw [hb] at hs; cases hs
        | true =>
          rw [hb] at hs
          cases hs
          have hsum := q_cats (base := base) (b := b) (Nat.le_of_ble_eq_true hb)
          exact va_mmax C0.1 C0.2.1 hml C0.2.2.2.1 hlink (hW _ q_w348) (hW _ q_w12) (hW _ q_w349) hRf (by omega) hc1 hc2 hdg (g ls H locs cells slots hD hc hz)
      · cases hs
      · cases hs
      · cases hs
      · cases hs
    · rcases q_bif hs with ⟨ha, hs⟩ | ⟨-, hs⟩
      · rw [Nat.eq_of_beq_eq_true ha] at hlink
        rcases st with _ | ⟨y | v, _ | ⟨x | v, st2⟩⟩
        · cases hs
        · cases hs
        · dsimp only at hs
          cases hb : Nat.ble st2.length 8 with
          | false => rw [hb] at hs; cases hs
          | true =>
            rw [hb] at hs
            cases hs
            have hsum := q_cats (base := base) (b := b) (Nat.le_of_ble_eq_true hb)
            exact va_mmin C0.1 C0.2.1 hml C0.2.2.2.1 hlink (hW _ q_w414) (hW _ q_w12) (hW _ q_w415) hRf (by omega) hc1 hc2 hdg (g ls H locs cells slots hD hc hz)
        · cases hs
        · cases hs
        · cases hs
        · cases hs
      · cases hs
theorem q_s_tsw (C0 : q_Cx D cs base b n0 X k p s m args meth c) {d lo hi : Int} {offs : Array Int} {len : Nat} (hdg : decode (q_by k) pc = .ok (.tableswitch d lo hi offs, len)) (hok : (q_tok pc d && offs.all (q_tok pc)) = true) (hs : q_tsw d lo hi offs pc pl st h = some (pc', pl', st', h')) (g : q_G p l e R s m args below meth c Q D cs base b n0 s0 pc' pl' st' h') : q_G p l e R s m args below meth c Q D cs base b n0 s0 pc pl st h := by
  intro ls H locs cells slots hD hc hz
  rw [Bool.and_eq_true] at hok
  unfold q_tsw at hs
  split at hs
  · rename_i x st2
    rcases q_bif hs with ⟨hb, hs⟩ | ⟨hb, hs⟩
    · cases hs
      rw [Bool.or_eq_true, decide_eq_true_eq, decide_eq_true_eq] at hb
      exact lv_tableOut C0.1 C0.2.1 hdg hb (q_tg_ok hok.1) (g ls H locs cells slots hD hc hz)
    · rw [Bool.or_eq_false_iff, decide_eq_false_iff_not, decide_eq_false_iff_not] at hb
      split at hs
      · rename_i off ho
        cases hs
        exact lv_tableIn C0.1 C0.2.1 hdg hb.1 hb.2 ho (q_tg_ok (q_arr_all hok.2 ho)) (g ls H locs cells slots hD hc hz)
      · cases hs
  · cases hs
theorem q_s_icmp (C0 : q_Cx D cs base b n0 X k p s m args meth c) {cd : Jvm.ClassFile.Cond} {off : Int} {x y : Int32} {st2 : List q_V} (hdg : decode (q_by k) pc = .ok (.if_icmp cd off, 3)) (hok : q_tok pc off = true) (g : q_G p l e R s m args below meth c Q D cs base b n0 s0 (bif q_cc cd x y then q_tg pc off else pc + 3) pl st2 h) : q_G p l e R s m args below meth c Q D cs base b n0 s0 pc pl (.inl y :: .inl x :: st2) h := by
  intro ls H locs cells slots hD hc hz
  have ht := q_tg_ok hok
  have kt : q_cc cd x y = true → W p l e R s m args below meth c H locs cells slots Q (F0 m (q_tg pc off) ls (st2.map (q_ev base b))) := fun q => by
    have := g ls H locs cells slots hD hc hz
    rw [q] at this
    exact this
  have kf : q_cc cd x y = false → W p l e R s m args below meth c H locs cells slots Q (F0 m (pc + 3) ls (st2.map (q_ev base b))) := fun q => by
    have := g ls H locs cells slots hD hc hz
    rw [q] at this
    exact this
  cases cd with
  | eq => exact lv_icmp_eq C0.1 C0.2.1 hdg ht (fun q => kt (decide_eq_true q)) (fun q => kf (decide_eq_false q))
  | ne => exact lv_icmp_ne C0.1 C0.2.1 hdg ht (fun q => kt (decide_eq_true q)) (fun q => kf (decide_eq_false (fun z => z q)))
  | lt => exact lv_icmp_lt C0.1 C0.2.1 hdg ht (fun q => kt (decide_eq_true q)) (fun q => kf (decide_eq_false q))
  | ge => exact lv_icmp_ge C0.1 C0.2.1 hdg ht (fun q => kt (decide_eq_true q)) (fun q => kf (decide_eq_false q))
  | gt => exact lv_icmp_gt C0.1 C0.2.1 hdg ht (fun q => kt (decide_eq_true q)) (fun q => kf (decide_eq_false q))
  | le => exact lv_icmp_le C0.1 C0.2.1 hdg ht (fun q => kt (decide_eq_true q)) (fun q => kf (decide_eq_false q))
theorem q_s_if (C0 : q_Cx D cs base b n0 X k p s m args meth c) {cd : Jvm.ClassFile.Cond} {off : Int} {x : Int32} {st2 : List q_V} (hdg : decode (q_by k) pc = .ok (.ifCond cd off, 3)) (hok : q_tok pc off = true) (g : q_G p l e R s m args below meth c Q D cs base b n0 s0 (bif q_cc cd x 0 then q_tg pc off else pc + 3) pl st2 h) : q_G p l e R s m args below meth c Q D cs base b n0 s0 pc pl (.inl x :: st2) h := by
  intro ls H locs cells slots hD hc hz
  have ht := q_tg_ok hok
  have kt : q_cc cd x 0 = true → W p l e R s m args below meth c H locs cells slots Q (F0 m (q_tg pc off) ls (st2.map (q_ev base b))) := fun q => by
    have := g ls H locs cells slots hD hc hz
    rw [q] at this
    exact this
  have kf : q_cc cd x 0 = false → W p l e R s m args below meth c H locs cells slots Q (F0 m (pc + 3) ls (st2.map (q_ev base b))) := fun q => by
    have := g ls H locs cells slots hD hc hz
    rw [q] at this
    exact this
  cases cd with
  | eq => exact lv_if_eq C0.1 C0.2.1 hdg ht (fun q => kt (decide_eq_true q)) (fun q => kf (decide_eq_false q))
  | ne => exact lv_if_ne C0.1 C0.2.1 hdg ht (fun q => kt (decide_eq_true q)) (fun q => kf (decide_eq_false (fun z => z q)))
  | lt => exact lv_if_lt C0.1 C0.2.1 hdg ht (fun q => kt (decide_eq_true q)) (fun q => kf (decide_eq_false q))
  | ge => exact lv_if_ge C0.1 C0.2.1 hdg ht (fun q => kt (decide_eq_true q)) (fun q => kf (decide_eq_false q))
  | gt => exact lv_if_gt C0.1 C0.2.1 hdg ht (fun q => kt (decide_eq_true q)) (fun q => kf (decide_eq_false q))
  | le => exact lv_if_le C0.1 C0.2.1 hdg ht (fun q => kt (decide_eq_true q)) (fun q => kf (decide_eq_false q))
/-- ONE STEP that is no call and no return -/
theorem q_stp (C0 : q_Cx D cs base b n0 X k p s m args meth c) (hpl : pl.length = q_mL k) (hRf : 1 ≤ R.frames) (hRl : 64 ≤ R.locals) (hRc : h'.1.length ≤ R.cells + n0) (hRs : q_slo h'.1 ≤ R.slots + s0) {e9 : q_E} (he : q_cd k pc = some e9) (hkd : q_kd e9 = 0) (hs : q_step X pc e9 pl st h = some (pc', pl', st', h')) (g : q_G p l e R s m args below meth c Q D cs base b n0 s0 pc' pl' st' h') : q_G p l e R s m args below meth c Q D cs base b n0 s0 pc pl st h := by
  have hok := q_eok_all C0.2.2.2.2.2.2.2.2.2 he
  obtain ⟨ins, a, b9, cc⟩ := e9
  unfold q_eok at hok
  rw [Bool.and_eq_true] at hok
  obtain ⟨hdg, hok⟩ := hok
  have hdg := of_decide_eq_true hdg
  dsimp only at hdg hok
  cases ins with
  | aload_n i => exact q_s_aldn C0 hdg hs g
  | aload i => exact q_s_ald C0 hdg hs g
  | iload_n i => exact q_s_ildn C0 hdg hs g
  | iload i => exact q_s_ild C0 hdg hs g
  | istore_n i => exact q_s_istn C0 hdg hs g
  | istore i => exact q_s_ist C0 hdg hs g
  | astore_n i => exact q_s_astn C0 hdg hs g
  | astore i => exact q_s_ast C0 hdg hs g
  | iconst n => cases hs; exact fun ls H locs cells slots hD hc hz => lv_iconst C0.1 C0.2.1 hdg (of_decide_eq_true hok) (g ls H locs cells slots hD hc hz)
  | bipush n => cases hs; exact fun ls H locs cells slots hD hc hz => lv_bipush C0.1 C0.2.1 hdg (of_decide_eq_true hok) (g ls H locs cells slots hD hc hz)
  | sipush n => cases hs; exact fun ls H locs cells slots hD hc hz => lv_sipush C0.1 C0.2.1 hdg (of_decide_eq_true hok) (g ls H locs cells slots hD hc hz)
  | ldc i => cases hs; exact fun ls H locs cells slots hD hc hz => lv_ldc C0.1 C0.2.1 C0.2.2.2.1 (q_kc C0 hok) hdg (g ls H locs cells slots hD hc hz)
  | ldc_w i => cases hs; exact fun ls H locs cells slots hD hc hz => lv_ldcw C0.1 C0.2.1 C0.2.2.2.1 (q_kc C0 hok) hdg (g ls H locs cells slots hD hc hz)
  | aconst_null => cases hs; exact fun ls H locs cells slots hD hc hz => lv_null C0.1 C0.2.1 hdg (g ls H locs cells slots hD hc hz)
  | iinc i n =>
    unfold q_step at hs
    dsimp only at hs
    split at hs
    · rename_i x hx
      rcases q_bif hs with ⟨hb, hs⟩ | ⟨-, hs⟩ <;> cases hs
      intro ls H locs cells slots hD hc hz
      have hi : i < pl.length := by simpa [Nat.blt_eq] using hb
      have hmem : (i, Value.int x) ∈ q_ll base b pl := q_ll_mem.mpr ⟨.inl x, hx, rfl⟩
      obtain ⟨k9, hk9⟩ := List.getElem?_of_mem hmem
      exact lv_iinc (v := x + cc) C0.1 C0.2.1 hdg hD.2.2.has hk9 (by rw [of_decide_eq_true hok]) hi rfl (fun ls' hl => g ls' H locs cells slots ⟨hD.1, hD.2.1, q_LR.put (w := .inl (x + cc)) hl⟩ hc hz)
    · cases hs
  | iadd =>
    unfold q_step at hs
    dsimp only at hs
    unfold q_bin at hs
    split at hs <;> cases hs
    exact fun ls H locs cells slots hD hc hz => lv_iadd C0.1 C0.2.1 hdg (g ls H locs cells slots hD hc hz)
  | isub =>
    unfold q_step at hs
    dsimp only at hs
    unfold q_bin at hs
    split at hs <;> cases hs
    exact fun ls H locs cells slots hD hc hz => lv_isub C0.1 C0.2.1 hdg (g ls H locs cells slots hD hc hz)
  | imul =>
    unfold q_step at hs
    dsimp only at hs
    unfold q_bin at hs
    split at hs <;> cases hs
    exact fun ls H locs cells slots hD hc hz => lv_imul C0.1 C0.2.1 hdg (g ls H locs cells slots hD hc hz)
  | iand =>
    unfold q_step at hs
    dsimp only at hs
    unfold q_bin at hs
    split at hs <;> cases hs
    exact fun ls H locs cells slots hD hc hz => lv_iand C0.1 C0.2.1 hdg (g ls H locs cells slots hD hc hz)
  | ior =>
    unfold q_step at hs
    dsimp only at hs
    unfold q_bin at hs
    split at hs <;> cases hs
    exact fun ls H locs cells slots hD hc hz => lv_ior C0.1 C0.2.1 hdg (g ls H locs cells slots hD hc hz)
  | ixor =>
    unfold q_step at hs
    dsimp only at hs
    unfold q_bin at hs
    split at hs <;> cases hs
    exact fun ls H locs cells slots hD hc hz => lv_ixor C0.1 C0.2.1 hdg (g ls H locs cells slots hD hc hz)
  | ishl =>
    unfold q_step at hs
    dsimp only at hs
    unfold q_bin at hs
    split at hs <;> cases hs
    exact fun ls H locs cells slots hD hc hz => lv_ishl C0.1 C0.2.1 hdg (g ls H locs cells slots hD hc hz)
  | ishr =>
    unfold q_step at hs
    dsimp only at hs
    unfold q_bin at hs
    split at hs <;> cases hs
    exact fun ls H locs cells slots hD hc hz => lv_ishr C0.1 C0.2.1 hdg (g ls H locs cells slots hD hc hz)
  | idiv =>
    unfold q_step at hs
    dsimp only at hs
    split at hs
    · rcases q_bif hs with ⟨-, hs⟩ | ⟨hb, hs⟩ <;> cases hs
      exact fun ls H locs cells slots hD hc hz => lv_idiv C0.1 C0.2.1 hdg (of_decide_eq_false hb) (g ls H locs cells slots hD hc hz)
    · cases hs
  | irem =>
    unfold q_step at hs
    dsimp only at hs
    split at hs
    · rcases q_bif hs with ⟨-, hs⟩ | ⟨hb, hs⟩ <;> cases hs
      exact fun ls H locs cells slots hD hc hz => lv_irem C0.1 C0.2.1 hdg (of_decide_eq_false hb) (g ls H locs cells slots hD hc hz)
    · cases hs
  | dup =>
    unfold q_step at hs
    dsimp only at hs
    split at hs <;> cases hs
    exact fun ls H locs cells slots hD hc hz => lv_dup C0.1 C0.2.1 hdg (q_ev_cat base b _) (g ls H locs cells slots hD hc hz)
  | dup2 =>
    unfold q_step at hs
    dsimp only at hs
    split at hs <;> cases hs
    exact fun ls H locs cells slots hD hc hz => lv_dup2_11 C0.1 C0.2.1 hdg (q_ev_cat base b _) (q_ev_cat base b _) (g ls H locs cells slots hD hc hz)
  | pop =>
    unfold q_step at hs
    dsimp only at hs
    split at hs <;> cases hs
    exact fun ls H locs cells slots hD hc hz => lv_pop C0.1 C0.2.1 hdg (q_ev_cat base b _) (g ls H locs cells slots hD hc hz)
  | if_icmp cd off =>
    unfold q_step at hs
    dsimp only at hs
    split at hs <;> cases hs
    exact q_s_icmp C0 hdg hok g
  | ifCond cd off =>
    unfold q_step at hs
    dsimp only at hs
    split at hs <;> cases hs
    exact q_s_if C0 hdg hok g
  | ifnonnull off =>
    unfold q_step at hs
    dsimp only at hs
    split at hs <;> cases hs
    · exact fun ls H locs cells slots hD hc hz => lv_ifnonnullN C0.1 C0.2.1 hdg (g ls H locs cells slots hD hc hz)
    · exact fun ls H locs cells slots hD hc hz => lv_ifnonnull C0.1 C0.2.1 hdg (q_tg_ok hok) (g ls H locs cells slots hD hc hz)
  | goto off => cases hs; exact fun ls H locs cells slots hD hc hz => lv_goto C0.1 C0.2.1 hdg (q_tg_ok hok) (g ls H locs cells slots hD hc hz)
  | tableswitch d lo hi offs => exact q_s_tsw C0 hdg hok hs g
  | arraylength => exact q_s_aln C0 hdg hs g
  | iaload => exact q_s_rd C0 hdg hs g
  | baload => exact q_s_rz C0 hdg hs g
  | iastore => exact q_s_wr C0 hdg hs g
  | bastore => exact q_s_wz C0 hdg hs g
  | aaload => exact q_s_ard C0 hdg hs g
  | aastore => exact q_s_awr C0 hdg hs g
  | newarray t =>
    cases t with
    | int => exact q_s_nwa C0 (Or.inl ⟨rfl, rfl⟩) hdg hRc hRs hs g
    | boolean => exact q_s_nwa C0 (Or.inr ⟨rfl, rfl⟩) hdg hRc hRs hs g
    | _ => cases hs
  | anewarray i => exact q_s_nwq C0 hdg hok hRc hRs hs g
  | multianewarray i j =>
    simp only [Bool.and_eq_true] at hok
    obtain rfl := Nat.eq_of_beq_eq_true hok.1.2
    obtain rfl := Nat.eq_of_beq_eq_true hok.2
    exact q_s_nwm C0 hdg (Nat.eq_of_beq_eq_true hok.1.1) hRc hRs hs g
  | new i =>
    rw [Bool.and_eq_true] at hok
    exact q_s_new C0 hdg hok.1 (by simpa [Nat.blt_eq] using hok.2) hRc hRs hs g
  | getfield i =>
    rw [Bool.and_eq_true] at hok
    exact q_s_gf C0 hdg hok.1 (by simpa [Nat.blt_eq] using hok.2) hs g
  | putfield i =>
    rw [Bool.and_eq_true, Bool.and_eq_true] at hok
    exact q_s_pf C0 hdg hok.1.1 (by simpa [Nat.blt_eq] using hok.1.2) hok.2 hs g
  | invokespecial i =>
    unfold q_step at hs
    dsimp only at hs
    rcases q_bif hs with ⟨ha, hs⟩ | ⟨-, hs⟩
    · rcases st with _ | ⟨x | ⟨_ | r⟩ | u, st2⟩
      · cases hs
      · cases hs
      · cases hs
      · have hs : (bif Nat.ble st2.length 8 then some (pc + 3, pl, st2, h) else none) = some (pc', pl', st', h') := hs
        cases hb : Nat.ble st2.length 8 with
        | false => rw [hb] at hs; cases hs
        | true =>
          rw [hb] at hs
          cases hs
          intro ls H locs cells slots hD hc hz
          rw [ha] at hok
          have hok : q_OI.any (fun q => Nat.beq q.1 (q_cx k) && Nat.beq q.2.1 i) = true := hok
          have hlink : (Cond.methodLink (q_cn (q_cx k)) i objectInit).before args s = true := by
            obtain ⟨q, hq, hf⟩ := q_any hok
            simp only [Bool.and_eq_true] at hf
            have e1 := Nat.eq_of_beq_eq_true hf.1
            have e2 := Nat.eq_of_beq_eq_true hf.2
            have := q_in_tbl (q_OI_ok q hq)
            rw [e1, e2] at this
            exact C0.2.2.2.2.1 _ this
          have hml : ls.size = c.maxLocals := (C0.2.2.1.trans (hpl.symm.trans hD.2.2.1.symm)).symm
          have hsum := q_cats (base := base) (b := b) (Nat.le_of_ble_eq_true hb)
          exact W.objInit (g := F0 m pc ls (.ref (base + r) :: st'.map (q_ev base b))) C0.1 C0.2.1 C0.2.2.2.1 hlink (C0.2.2.2.2.1 _ q_w20) (C0.2.2.2.2.1 _ q_w21) rfl hml rfl hdg hRf (by show 2 * 0 + _ + 12 ≤ _; omega) (g ls H locs cells slots hD hc hz)
      · cases hs
    · cases hs
  | invokestatic i =>
    unfold q_step at hs
    dsimp only at hs
    rcases q_bif hs with ⟨ha, hs⟩ | ⟨ha, hs⟩
    · rw [ha] at hok
      have hok : (Nat.beq (q_cx k) 6 && Nat.beq i 34) = true := hok
      rw [Bool.and_eq_true] at hok
      exact q_s_acp C0 hdg (Nat.eq_of_beq_eq_true hok.1) (Nat.eq_of_beq_eq_true hok.2) hRf hRl hpl hs g
    · rcases q_bif hs with ⟨hb, hs⟩ | ⟨-, hs⟩
      · rw [ha, hb] at hok
        have hok : (Nat.ble a 997 && q_MX.any (fun q => Nat.beq q.1 (q_cx k) && Nat.beq q.2.1 i && Nat.beq q.2.2.1 a)) = true := hok
        rw [Bool.and_eq_true] at hok
        exact q_s_mx C0 hpl hRf hRl hRc hRs hdg hok.2 hs g
      · cases hs
  | _ => cases hs
end QS
