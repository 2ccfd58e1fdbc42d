def q_tok (pc : Nat) (off : Int) : Bool := decide (0 ≤ (pc : Int) + off)
/-- an entry of the code tables says what the class files say -/
def q_eok (k pc : Nat) (e : q_E) : Bool := decide (decode (q_by k) pc = .ok (e.1, q_len e.1 e.2.2.1)) && (match e.1 with
  | .iconst n => decide (Int32.ofInt n = e.2.2.2)
  | .bipush n => decide ((Int8.ofInt n).toInt32 = e.2.2.2)
  | .sipush n => decide ((Int16.ofInt n).toInt32 = e.2.2.2)
  | .iinc _ n => decide (Int32.ofInt n = e.2.2.2)
  | .ldc i => q_KC.any (fun q => Nat.beq q.1 (q_cx k) && Nat.beq q.2.1 i && decide (q.2.2.1 = e.2.2.2))
  | .ldc_w i => q_KC.any (fun q => Nat.beq q.1 (q_cx k) && Nat.beq q.2.1 i && decide (q.2.2.1 = e.2.2.2))
  | .getfield i => q_FL.any (fun q => Nat.beq q.1 (q_cx k) && Nat.beq q.2.1 i && Nat.beq q.2.2.1 e.2.1 && Nat.beq q.2.2.2.1 e.2.2.1) && Nat.blt e.2.1 10
  | .putfield i => q_FL.any (fun q => Nat.beq q.1 (q_cx k) && Nat.beq q.2.1 i && Nat.beq q.2.2.1 e.2.1 && Nat.beq q.2.2.2.1 e.2.2.1) && Nat.blt e.2.1 10 && (!(q_T e.2.1 e.2.2.1).2.2.2 || (decide ((q_nm k).name = "<init>") && decide ((q_T e.2.1 e.2.2.1).1 = q_cn (q_cx k))))
  | .new i => q_CK.any (fun q => Nat.beq q.1 (q_cx k) && Nat.beq q.2.1 i && Nat.beq q.2.2.1 e.2.1) && Nat.blt e.2.1 10
  | .anewarray i => q_CK.any (fun q => Nat.beq q.1 (q_cx k) && Nat.beq q.2.1 i && Nat.beq q.2.2.1 6)
  | .multianewarray i n => Nat.beq (q_cx k) 2 && Nat.beq i 18 && Nat.beq n 2
  | .invokespecial i => bif Nat.beq e.2.1 998 then q_OI.any (fun q => Nat.beq q.1 (q_cx k) && Nat.beq q.2.1 i) else (q_ML.any (fun q => Nat.beq q.1 (q_cx k) && Nat.beq q.2.1 i && Nat.beq q.2.2.1 e.2.1) && Nat.blt 0 e.2.1 && Nat.blt e.2.1 182 && !(q_stt e.2.1) && decide ((q_nm e.2.1).name = "<init>") && (q_rt e.2.1).isNone)
  | .invokestatic i => bif Nat.beq e.2.1 999 then (Nat.beq (q_cx k) 6 && Nat.beq i 34) else bif Nat.ble 995 e.2.1 then (Nat.ble e.2.1 997 && q_MX.any (fun q => Nat.beq q.1 (q_cx k) && Nat.beq q.2.1 i && Nat.beq q.2.2.1 e.2.1)) else (q_stt e.2.1 && Nat.blt 0 e.2.1 && Nat.blt e.2.1 182 && (bif Nat.beq e.2.2.1 0 then q_ML.any (fun q => Nat.beq q.1 (q_cx k) && Nat.beq q.2.1 i && Nat.beq q.2.2.1 e.2.1) else q_NL.any (fun q => Nat.beq q.1 (q_cx k) && Nat.beq q.2.1 i && Nat.beq q.2.2.1 e.2.1)))
  | .invokevirtual i => q_ML.any (fun q => Nat.beq q.1 (q_cx k) && Nat.beq q.2.1 i && Nat.beq q.2.2.1 e.2.1) && Nat.blt 0 e.2.1 && Nat.blt e.2.1 182 && !(q_stt e.2.1) && !(decide ((q_nm e.2.1).name = "<init>"))
  | .goto off => q_tok pc off
  | .if_icmp _ off => q_tok pc off
  | .ifCond _ off => q_tok pc off
  | .ifnonnull off => q_tok pc off
  | .tableswitch d _ _ offs => q_tok pc d && offs.all (q_tok pc)
  | _ => true)
def q_ck (k pc : Nat) : Bool := match q_cdt k pc with
  | none => true
  | some e => q_eok k pc e
theorem q_ck0_0 : ∀ pc, pc < 90 → q_ck 0 (0 + pc) = true := by decide +kernel
theorem q_ck0_1 : ∀ pc, pc < 90 → q_ck 0 (90 + pc) = true := by decide +kernel
theorem q_ck0_2 : ∀ pc, pc < 90 → q_ck 0 (180 + pc) = true := by decide +kernel
theorem q_ck0_3 : ∀ pc, pc < 90 → q_ck 0 (270 + pc) = true := by decide +kernel
theorem q_ck0_4 : ∀ pc, pc < 90 → q_ck 0 (360 + pc) = true := by decide +kernel
theorem q_ck0_5 : ∀ pc, pc < 90 → q_ck 0 (450 + pc) = true := by decide +kernel
theorem q_ck0_6 : ∀ pc, pc < 90 → q_ck 0 (540 + pc) = true := by decide +kernel
theorem q_ck0_7 : ∀ pc, pc < 90 → q_ck 0 (630 + pc) = true := by decide +kernel
theorem q_ck0_8 : ∀ pc, pc < 90 → q_ck 0 (720 + pc) = true := by decide +kernel
theorem q_ck0_9 : ∀ pc, pc < 90 → q_ck 0 (810 + pc) = true := by decide +kernel
theorem q_ck0_10 : ∀ pc, pc < 90 → q_ck 0 (900 + pc) = true := by decide +kernel
theorem q_ck0_11 : ∀ pc, pc < 90 → q_ck 0 (990 + pc) = true := by decide +kernel
theorem q_ck0_12 : ∀ pc, pc < 90 → q_ck 0 (1080 + pc) = true := by decide +kernel
theorem q_ck0_13 : ∀ pc, pc < 90 → q_ck 0 (1170 + pc) = true := by decide +kernel
theorem q_ck_0 : ∀ k, k < 10 → ∀ pc, pc < q_cz (1 + k) → q_ck (1 + k) pc = true := by decide +kernel
theorem q_ck_1 : ∀ k, k < 10 → ∀ pc, pc < q_cz (11 + k) → q_ck (11 + k) pc = true := by decide +kernel
theorem q_ck_2 : ∀ k, k < 10 → ∀ pc, pc < q_cz (21 + k) → q_ck (21 + k) pc = true := by decide +kernel
theorem q_ck_3 : ∀ k, k < 10 → ∀ pc, pc < q_cz (31 + k) → q_ck (31 + k) pc = true := by decide +kernel
theorem q_ck_4 : ∀ k, k < 10 → ∀ pc, pc < q_cz (41 + k) → q_ck (41 + k) pc = true := by decide +kernel
theorem q_ck_5 : ∀ k, k < 10 → ∀ pc, pc < q_cz (51 + k) → q_ck (51 + k) pc = true := by decide +kernel
theorem q_ck_6 : ∀ k, k < 10 → ∀ pc, pc < q_cz (61 + k) → q_ck (61 + k) pc = true := by decide +kernel
theorem q_ck_7 : ∀ k, k < 10 → ∀ pc, pc < q_cz (71 + k) → q_ck (71 + k) pc = true := by decide +kernel
theorem q_ck_8 : ∀ k, k < 10 → ∀ pc, pc < q_cz (81 + k) → q_ck (81 + k) pc = true := by decide +kernel
theorem q_ck_9 : ∀ k, k < 10 → ∀ pc, pc < q_cz (91 + k) → q_ck (91 + k) pc = true := by decide +kernel
theorem q_ck_10 : ∀ k, k < 10 → ∀ pc, pc < q_cz (101 + k) → q_ck (101 + k) pc = true := by decide +kernel
theorem q_ck_11 : ∀ k, k < 10 → ∀ pc, pc < q_cz (111 + k) → q_ck (111 + k) pc = true := by decide +kernel
theorem q_ck_12 : ∀ k, k < 10 → ∀ pc, pc < q_cz (121 + k) → q_ck (121 + k) pc = true := by decide +kernel
theorem q_ck_13 : ∀ k, k < 10 → ∀ pc, pc < q_cz (131 + k) → q_ck (131 + k) pc = true := by decide +kernel
theorem q_ck_14 : ∀ k, k < 10 → ∀ pc, pc < q_cz (141 + k) → q_ck (141 + k) pc = true := by decide +kernel
theorem q_ck_15 : ∀ k, k < 10 → ∀ pc, pc < q_cz (151 + k) → q_ck (151 + k) pc = true := by decide +kernel
theorem q_ck_16 : ∀ k, k < 10 → ∀ pc, pc < q_cz (161 + k) → q_ck (161 + k) pc = true := by decide +kernel
theorem q_ck_17 : ∀ k, k < 10 → ∀ pc, pc < q_cz (171 + k) → q_ck (171 + k) pc = true := by decide +kernel
theorem q_ck_18 : ∀ k, k < 1 → ∀ pc, pc < q_cz (181 + k) → q_ck (181 + k) pc = true := by decide +kernel
theorem q_ck0_all (pc : Nat) (h : pc < q_cz 0) : q_ck 0 pc = true := by
  have h : pc < 1260 := Nat.lt_of_lt_of_le h (by decide +kernel)
  rcases (by omega : (0 ≤ pc ∧ pc < 90) ∨ (90 ≤ pc ∧ pc < 180) ∨ (180 ≤ pc ∧ pc < 270) ∨ (270 ≤ pc ∧ pc < 360) ∨ (360 ≤ pc ∧ pc < 450) ∨ (450 ≤ pc ∧ pc < 540) ∨ (540 ≤ pc ∧ pc < 630) ∨ (630 ≤ pc ∧ pc < 720) ∨ (720 ≤ pc ∧ pc < 810) ∨ (810 ≤ pc ∧ pc < 900) ∨ (900 ≤ pc ∧ pc < 990) ∨ (990 ≤ pc ∧ pc < 1080) ∨ (1080 ≤ pc ∧ pc < 1170) ∨ (1170 ≤ pc ∧ pc < 1260)) with g | g | g | g | g | g | g | g | g | g | g | g | g | g
  · have := q_ck0_0 (pc - 0) (by omega); rwa [show 0 + (pc - 0) = pc by omega] at this
  · have := q_ck0_1 (pc - 90) (by omega); rwa [show 90 + (pc - 90) = pc by omega] at this
  · have := q_ck0_2 (pc - 180) (by omega); rwa [show 180 + (pc - 180) = pc by omega] at this
  · have := q_ck0_3 (pc - 270) (by omega); rwa [show 270 + (pc - 270) = pc by omega] at this
  · have := q_ck0_4 (pc - 360) (by omega); rwa [show 360 + (pc - 360) = pc by omega] at this
  · have := q_ck0_5 (pc - 450) (by omega); rwa [show 450 + (pc - 450) = pc by omega] at this
  · have := q_ck0_6 (pc - 540) (by omega); rwa [show 540 + (pc - 540) = pc by omega] at this
  · have := q_ck0_7 (pc - 630) (by omega); rwa [show 630 + (pc - 630) = pc by omega] at this
  · have := q_ck0_8 (pc - 720) (by omega); rwa [show 720 + (pc - 720) = pc by omega] at this
  · have := q_ck0_9 (pc - 810) (by omega); rwa [show 810 + (pc - 810) = pc by omega] at this
  · have := q_ck0_10 (pc - 900) (by omega); rwa [show 900 + (pc - 900) = pc by omega] at this
  · have := q_ck0_11 (pc - 990) (by omega); rwa [show 990 + (pc - 990) = pc by omega] at this
  · have := q_ck0_12 (pc - 1080) (by omega); rwa [show 1080 + (pc - 1080) = pc by omega] at this
  · have := q_ck0_13 (pc - 1170) (by omega); rwa [show 1170 + (pc - 1170) = pc by omega] at this
theorem q_ck_all (k : Nat) (h : k < 182) (pc : Nat) (hp : pc < q_cz k) : q_ck k pc = true := by
  by_cases h0 : k = 0
  · subst h0; exact q_ck0_all pc hp
  rcases (by omega : (1 ≤ k ∧ k < 11) ∨ (11 ≤ k ∧ k < 21) ∨ (21 ≤ k ∧ k < 31) ∨ (31 ≤ k ∧ k < 41) ∨ (41 ≤ k ∧ k < 51) ∨ (51 ≤ k ∧ k < 61) ∨ (61 ≤ k ∧ k < 71) ∨ (71 ≤ k ∧ k < 81) ∨ (81 ≤ k ∧ k < 91) ∨ (91 ≤ k ∧ k < 101) ∨ (101 ≤ k ∧ k < 111) ∨ (111 ≤ k ∧ k < 121) ∨ (121 ≤ k ∧ k < 131) ∨ (131 ≤ k ∧ k < 141) ∨ (141 ≤ k ∧ k < 151) ∨ (151 ≤ k ∧ k < 161) ∨ (161 ≤ k ∧ k < 171) ∨ (171 ≤ k ∧ k < 181) ∨ (181 ≤ k ∧ k < 182)) with g | g | g | g | g | g | g | g | g | g | g | g | g | g | g | g | g | g | g
  · have := q_ck_0 (k - 1) (by omega) pc (by rwa [show 1 + (k - 1) = k by omega]); rwa [show 1 + (k - 1) = k by omega] at this
  · have := q_ck_1 (k - 11) (by omega) pc (by rwa [show 11 + (k - 11) = k by omega]); rwa [show 11 + (k - 11) = k by omega] at this
  · have := q_ck_2 (k - 21) (by omega) pc (by rwa [show 21 + (k - 21) = k by omega]); rwa [show 21 + (k - 21) = k by omega] at this
  · have := q_ck_3 (k - 31) (by omega) pc (by rwa [show 31 + (k - 31) = k by omega]); rwa [show 31 + (k - 31) = k by omega] at this
  · have := q_ck_4 (k - 41) (by omega) pc (by rwa [show 41 + (k - 41) = k by omega]); rwa [show 41 + (k - 41) = k by omega] at this
  · have := q_ck_5 (k - 51) (by omega) pc (by rwa [show 51 + (k - 51) = k by omega]); rwa [show 51 + (k - 51) = k by omega] at this
  · have := q_ck_6 (k - 61) (by omega) pc (by rwa [show 61 + (k - 61) = k by omega]); rwa [show 61 + (k - 61) = k by omega] at this
  · have := q_ck_7 (k - 71) (by omega) pc (by rwa [show 71 + (k - 71) = k by omega]); rwa [show 71 + (k - 71) = k by omega] at this
  · have := q_ck_8 (k - 81) (by omega) pc (by rwa [show 81 + (k - 81) = k by omega]); rwa [show 81 + (k - 81) = k by omega] at this
  · have := q_ck_9 (k - 91) (by omega) pc (by rwa [show 91 + (k - 91) = k by omega]); rwa [show 91 + (k - 91) = k by omega] at this
  · have := q_ck_10 (k - 101) (by omega) pc (by rwa [show 101 + (k - 101) = k by omega]); rwa [show 101 + (k - 101) = k by omega] at this
  · have := q_ck_11 (k - 111) (by omega) pc (by rwa [show 111 + (k - 111) = k by omega]); rwa [show 111 + (k - 111) = k by omega] at this
  · have := q_ck_12 (k - 121) (by omega) pc (by rwa [show 121 + (k - 121) = k by omega]); rwa [show 121 + (k - 121) = k by omega] at this
  · have := q_ck_13 (k - 131) (by omega) pc (by rwa [show 131 + (k - 131) = k by omega]); rwa [show 131 + (k - 131) = k by omega] at this
  · have := q_ck_14 (k - 141) (by omega) pc (by rwa [show 141 + (k - 141) = k by omega]); rwa [show 141 + (k - 141) = k by omega] at this
  · have := q_ck_15 (k - 151) (by omega) pc (by rwa [show 151 + (k - 151) = k by omega]); rwa [show 151 + (k - 151) = k by omega] at this
  · have := q_ck_16 (k - 161) (by omega) pc (by rwa [show 161 + (k - 161) = k by omega]); rwa [show 161 + (k - 161) = k by omega] at this
  · have := q_ck_17 (k - 171) (by omega) pc (by rwa [show 171 + (k - 171) = k by omega]); rwa [show 171 + (k - 171) = k by omega] at this
  · have := q_ck_18 (k - 181) (by omega) pc (by rwa [show 181 + (k - 181) = k by omega]); rwa [show 181 + (k - 181) = k by omega] at this
theorem q_eok_all {k pc : Nat} {e : q_E} (hk : k < 182) (h : q_cd k pc = some e) : q_eok k pc e = true := by
  unfold q_cd at h
  cases hb : Nat.blt pc (q_cz k) with
  | false => rw [hb] at h; cases h
  | true =>
    rw [hb] at h
    have h2 : q_cdt k pc = some e := h
    have := q_ck_all k hk pc (by simpa [Nat.blt_eq] using hb)
    unfold q_ck at this
    rw [h2] at this
    exact this
