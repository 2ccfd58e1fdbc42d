/-! a small pure machine for these methods: cells by number, what they are (q_S) and the ints in them (q_M) -/
abbrev q_V : Type := Int32 ⊕ (Option Nat ⊕ Unit)
abbrev q_S : Type := (Nat × List (Option (Option Nat))) ⊕ ((Nat × Nat) ⊕ (Nat × List (Option Nat)))
abbrev q_M : Type := Nat → Nat → Int32
abbrev q_H : Type := List q_S × q_M
abbrev q_L : Type := List (Option q_V)
abbrev q_X : Type := Option (Nat × (Nat → Int32))
def q_up (m : q_M) (k j : Nat) (v : Int32) : q_M := fun a b => if a = k then (if b = j then v else m a b) else m a b
/-- the cells from k on, n of them, hold zeros -/
def q_zr (m : q_M) (k n : Nat) : q_M := fun a b => if k ≤ a ∧ a < k + n then 0 else m a b
def q_cpy (m : q_M) (s sp d dp n : Nat) : q_M := fun a b => if a = d then (if dp ≤ b ∧ b < dp + n then m s (sp + (b - dp)) else m a b) else m a b
def q_tg (pc : Nat) (off : Int) : Nat := ((pc : Int) + off).toNat
def q_lg (ls : q_L) (i : Nat) : Option q_V := ls.getD i none
def q_cc (c : Jvm.ClassFile.Cond) (x y : Int32) : Bool := match c with
  | .eq => decide (x = y)
  | .ne => decide (¬ x = y)
  | .lt => decide (x < y)
  | .ge => decide (y ≤ x)
  | .gt => decide (y < x)
  | .le => decide (x ≤ y)
def q_in (i : Int32) (n : Nat) : Bool := decide (¬ (i < 0 ∨ n ≤ i.toNatClampNeg))
def q_isI (ci j : Nat) : Bool := decide (q_ty ci j = FieldType.int)
/-- a new object's slots -/
def q_df (ci : Nat) : List (Option (Option Nat)) := (List.range (q_nf ci)).map (fun j => bif q_isI ci j then none else some none)
def q_len (i : Instr) (b : Nat) : Nat := match i with
  | .aload _ => 2
  | .iload _ => 2
  | .istore _ => 2
  | .astore _ => 2
  | .bipush _ => 2
  | .ldc _ => 2
  | .newarray _ => 2
  | .sipush _ => 3
  | .ldc_w _ => 3
  | .iinc _ _ => 3
  | .goto _ => 3
  | .if_icmp _ _ => 3
  | .ifCond _ _ => 3
  | .ifnonnull _ => 3
  | .getfield _ => 3
  | .putfield _ => 3
  | .invokevirtual _ => 3
  | .invokespecial _ => 3
  | .invokestatic _ => 3
  | .new _ => 3
  | .anewarray _ => 3
  | .multianewarray _ _ => 4
  | .tableswitch _ _ _ _ => b
  | _ => 1
abbrev q_R : Type := Option (Nat × q_L × List q_V × q_H)
def q_ild (pc n : Nat) (i : Nat) (ls : q_L) (st : List q_V) (h : q_H) : q_R := match q_lg ls i with
  | some (.inl x) => some (pc + n, ls, .inl x :: st, h)
  | _ => none
def q_ald (pc n : Nat) (i : Nat) (ls : q_L) (st : List q_V) (h : q_H) : q_R := match q_lg ls i with
  | some (.inr (.inl (some r))) => some (pc + n, ls, .inr (.inl (some r)) :: st, h)
  | some (.inr (.inr u)) => some (pc + n, ls, .inr (.inr u) :: st, h)
  | _ => none
def q_ist (pc n : Nat) (i : Nat) (ls : q_L) (st : List q_V) (h : q_H) : q_R := match st with
  | .inl x :: st => bif Nat.blt i ls.length then some (pc + n, ls.set i (some (.inl x)), st, h) else none
  | _ => none
def q_ast (pc n : Nat) (i : Nat) (ls : q_L) (st : List q_V) (h : q_H) : q_R := match st with
  | .inr (.inl (some r)) :: st => bif Nat.blt i ls.length then some (pc + n, ls.set i (some (.inr (.inl (some r)))), st, h) else none
  | _ => none
def q_bin (f : Int32 → Int32 → Int32) (pc : Nat) (ls : q_L) (st : List q_V) (h : q_H) : q_R := match st with
  | .inl y :: .inl x :: st => some (pc + 1, ls, .inl (f x y) :: st, h)
  | _ => none
def q_rd (X : q_X) (kd : Nat) (pc : Nat) (ls : q_L) (st : List q_V) (h : q_H) : q_R := match st with
  | .inl i :: .inr (.inl (some r)) :: st => (match h.1[r]? with
    | some (.inr (.inl (k, n))) => bif Nat.beq k kd && q_in i n then some (pc + 1, ls, .inl (h.2 r i.toNatClampNeg) :: st, h) else none
    | _ => none)
  | .inl i :: .inr (.inr _) :: st => (match X with
    | some (n, xs) => bif Nat.beq kd 0 && q_in i n then some (pc + 1, ls, .inl (xs i.toNatClampNeg) :: st, h) else none
    | none => none)
  | _ => none
def q_wr (kd : Nat) (pc : Nat) (ls : q_L) (st : List q_V) (h : q_H) : q_R := match st with
  | .inl x :: .inl i :: .inr (.inl (some r)) :: st => (match h.1[r]? with
    | some (.inr (.inl (k, n))) => bif Nat.beq k kd && q_in i n && (Nat.beq kd 0 || decide (x = 0) || decide (x = 1)) then some (pc + 1, ls, st, (h.1, q_up h.2 r i.toNatClampNeg x)) else none
    | _ => none)
  | _ => none
def q_ard (pc : Nat) (ls : q_L) (st : List q_V) (h : q_H) : q_R := match st with
  | .inl i :: .inr (.inl (some r)) :: st => (match h.1[r]? with
    | some (.inr (.inr (k, els))) => bif (Nat.beq k 2 || Nat.beq k 3) && q_in i els.length then some (pc + 1, ls, .inr (.inl (els.getD i.toNatClampNeg none)) :: st, h) else none
    | _ => none)
  | _ => none
def q_awr (pc : Nat) (ls : q_L) (st : List q_V) (h : q_H) : q_R := match st with
  | .inr (.inl (some v)) :: .inl i :: .inr (.inl (some r)) :: st => (match h.1[r]?, h.1[v]? with
    | some (.inr (.inr (k, els))), some (.inl (ci, _)) => bif Nat.beq k 2 && Nat.beq ci 6 && q_in i els.length then some (pc + 1, ls, st, (h.1.set r (.inr (.inr (k, els.set i.toNatClampNeg (some v)))), h.2)) else none
    | _, _ => none)
  | _ => none
def q_aln (X : q_X) (pc : Nat) (ls : q_L) (st : List q_V) (h : q_H) : q_R := match st with
  | .inr (.inl (some r)) :: st => (match h.1[r]? with
    | some (.inr (.inl (k, n))) => bif Nat.ble k 1 then some (pc + 1, ls, .inl (Int32.ofNat n) :: st, h) else none
    | _ => none)
  | .inr (.inr _) :: st => (match X with
    | some (n, _) => some (pc + 1, ls, .inl (Int32.ofNat n) :: st, h)
    | none => none)
  | _ => none
def q_nwa (kd : Nat) (pc : Nat) (ls : q_L) (st : List q_V) (h : q_H) : q_R := match st with
  | .inl n :: st => bif decide (¬ n < 0) && Nat.ble n.toNatClampNeg 100000 then some (pc + 2, ls, .inr (.inl (some h.1.length)) :: st, (h.1 ++ [.inr (.inl (kd, n.toNatClampNeg))], q_zr h.2 h.1.length 1)) else none
  | _ => none
def q_nwq (pc : Nat) (ls : q_L) (st : List q_V) (h : q_H) : q_R := match st with
  | .inl n :: st => bif decide (¬ n < 0) && Nat.ble n.toNatClampNeg 100000 then some (pc + 3, ls, .inr (.inl (some h.1.length)) :: st, (h.1 ++ [.inr (.inr (2, List.replicate n.toNatClampNeg none))], q_zr h.2 h.1.length 1)) else none
  | _ => none
def q_nwm (pc : Nat) (ls : q_L) (st : List q_V) (h : q_H) : q_R := match st with
  | .inl k :: .inl n :: st => bif decide (¬ n < 0) && decide (¬ k < 0) && Nat.ble n.toNatClampNeg 1000 && Nat.ble k.toNatClampNeg 1000 then
      some (pc + 4, ls, .inr (.inl (some h.1.length)) :: st, (h.1 ++ (.inr (.inr (3, (List.range n.toNatClampNeg).map (fun i => some (h.1.length + 1 + i)))) :: List.replicate n.toNatClampNeg (.inr (.inl (0, k.toNatClampNeg)))), q_zr h.2 h.1.length (n.toNatClampNeg + 1))) else none
  | _ => none
def q_nwo (ci : Nat) (pc : Nat) (ls : q_L) (st : List q_V) (h : q_H) : q_R := some (pc + 3, ls, .inr (.inl (some h.1.length)) :: st, (h.1 ++ [.inl (ci, q_df ci)], q_zr h.2 h.1.length 1))
def q_gf (a b : Nat) (pc : Nat) (ls : q_L) (st : List q_V) (h : q_H) : q_R := match st with
  | .inr (.inl (some r)) :: st => (match h.1[r]? with
    | some (.inl (ci, sl)) => bif Nat.beq ci a && Nat.blt b (q_nf a) then (match sl[b]? with
      | some none => some (pc + 3, ls, .inl (h.2 r b) :: st, h)
      | some (some v) => some (pc + 3, ls, .inr (.inl v) :: st, h)
      | none => none) else none
    | _ => none)
  | _ => none
def q_pf (a b : Nat) (pc : Nat) (ls : q_L) (st : List q_V) (h : q_H) : q_R := match st with
  | .inl x :: .inr (.inl (some r)) :: st => (match h.1[r]? with
    | some (.inl (ci, sl)) => bif Nat.beq ci a && Nat.blt b (q_nf a) && q_isI a b then (match sl[b]? with
      | some none => some (pc + 3, ls, st, (h.1, q_up h.2 r b x))
      | _ => none) else none
    | _ => none)
  | .inr (.inl v) :: .inr (.inl (some r)) :: st => (match h.1[r]? with
    | some (.inl (ci, sl)) => bif Nat.beq ci a && Nat.blt b (q_nf a) && !(q_isI a b) then (match sl[b]? with
      | some (some _) => some (pc + 3, ls, st, (h.1.set r (.inl (ci, sl.set b (some v))), h.2))
      | _ => none) else none
    | _ => none)
  | _ => none
def q_acp (pc : Nat) (ls : q_L) (st : List q_V) (h : q_H) : q_R := match st with
  | .inl n :: .inl dp :: .inr (.inl (some d)) :: .inl sp :: .inr (.inl (some s)) :: st => (match h.1[s]?, h.1[d]? with
    | some (.inr (.inl (k0, n0))), some (.inr (.inl (k1, n1))) => bif Nat.beq k0 0 && Nat.beq k1 0 && decide (¬ sp < 0) && decide (¬ dp < 0) && decide (¬ n < 0) && Nat.ble (sp.toNatClampNeg + n.toNatClampNeg) n0 && Nat.ble (dp.toNatClampNeg + n.toNatClampNeg) n1 && Nat.ble st.length 8 then
        some (pc + 3, ls, st, (h.1, q_cpy h.2 s sp.toNatClampNeg d dp.toNatClampNeg n.toNatClampNeg)) else none
    | _, _ => none)
  | _ => none
def q_tsw (dflt lo hi : Int) (offs : Array Int) (pc : Nat) (ls : q_L) (st : List q_V) (h : q_H) : q_R := match st with
  | .inl x :: st => bif decide (x.toInt < lo) || decide (hi < x.toInt) then some (q_tg pc dflt, ls, st, h) else (match offs[(x.toInt - lo).toNat]? with
    | some off => some (q_tg pc off, ls, st, h)
    | none => none)
  | _ => none
def q_mx (a pc : Nat) (ls : q_L) (st : List q_V) (h : q_H) : q_R := bif Nat.beq a 997 then (match st with
    | .inl x :: st => bif Nat.ble st.length 8 then some (pc + 3, ls, .inl (if 0 ≤ x then x else 0 - x) :: st, h) else none
    | _ => none) else bif Nat.beq a 995 then (match st with
    | .inl y :: .inl x :: st => bif Nat.ble st.length 8 then some (pc + 3, ls, .inl (if x < y then y else x) :: st, h) else none
    | _ => none) else bif Nat.beq a 996 then (match st with
    | .inl y :: .inl x :: st => bif Nat.ble st.length 8 then some (pc + 3, ls, .inl (if y < x then y else x) :: st, h) else none
    | _ => none) else none
/-- one instruction that is neither a call nor a return -/
def q_step (X : q_X) (pc : Nat) (e : q_E) (ls : q_L) (st : List q_V) (h : q_H) : q_R := match e.1 with
  | .aload_n i => q_ald pc 1 i.val ls st h
  | .aload i => q_ald pc 2 i ls st h
  | .iload_n i => q_ild pc 1 i.val ls st h
  | .iload i => q_ild pc 2 i ls st h
  | .istore_n i => q_ist pc 1 i.val ls st h
  | .istore i => q_ist pc 2 i ls st h
  | .astore_n i => q_ast pc 1 i.val ls st h
  | .astore i => q_ast pc 2 i ls st h
  | .iconst _ => some (pc + 1, ls, .inl e.2.2.2 :: st, h)
  | .bipush _ => some (pc + 2, ls, .inl e.2.2.2 :: st, h)
  | .sipush _ => some (pc + 3, ls, .inl e.2.2.2 :: st, h)
  | .ldc _ => some (pc + 2, ls, .inl e.2.2.2 :: st, h)
  | .ldc_w _ => some (pc + 3, ls, .inl e.2.2.2 :: st, h)
  | .aconst_null => some (pc + 1, ls, .inr (.inl none) :: st, h)
  | .iinc i _ => (match q_lg ls i with
    | some (.inl x) => bif Nat.blt i ls.length then some (pc + 3, ls.set i (some (.inl (x + e.2.2.2))), st, h) else none
    | _ => none)
  | .iadd => q_bin (fun x y => x + y) pc ls st h
  | .isub => q_bin (fun x y => x - y) pc ls st h
  | .imul => q_bin (fun x y => x * y) pc ls st h
  | .iand => q_bin (fun x y => x &&& y) pc ls st h
  | .ior => q_bin (fun x y => x ||| y) pc ls st h
  | .ixor => q_bin (fun x y => x ^^^ y) pc ls st h
  | .ishl => q_bin (fun x y => x <<< (y &&& 31)) pc ls st h
  | .ishr => q_bin (fun x y => x >>> (y &&& 31)) pc ls st h
  | .idiv => (match st with
    | .inl y :: .inl x :: st => bif decide (y = 0) then none else some (pc + 1, ls, .inl (x / y) :: st, h)
    | _ => none)
  | .irem => (match st with
    | .inl y :: .inl x :: st => bif decide (y = 0) then none else some (pc + 1, ls, .inl (x - x / y * y) :: st, h)
    | _ => none)
  | .dup => (match st with
    | v :: st => some (pc + 1, ls, v :: v :: st, h)
    | _ => none)
  | .dup2 => (match st with
    | v :: w :: st => some (pc + 1, ls, v :: w :: v :: w :: st, h)
    | _ => none)
  | .pop => (match st with
    | _ :: st => some (pc + 1, ls, st, h)
    | _ => none)
  | .if_icmp c off => (match st with
    | .inl y :: .inl x :: st => some (bif q_cc c x y then q_tg pc off else pc + 3, ls, st, h)
    | _ => none)
  | .ifCond c off => (match st with
    | .inl x :: st => some (bif q_cc c x 0 then q_tg pc off else pc + 3, ls, st, h)
    | _ => none)
  | .ifnonnull off => (match st with
    | .inr (.inl none) :: st => some (pc + 3, ls, st, h)
    | .inr (.inl (some _)) :: st => some (q_tg pc off, ls, st, h)
    | _ => none)
  | .goto off => some (q_tg pc off, ls, st, h)
  | .tableswitch d lo hi offs => q_tsw d lo hi offs pc ls st h
  | .arraylength => q_aln X pc ls st h
  | .iaload => q_rd X 0 pc ls st h
  | .baload => q_rd none 1 pc ls st h
  | .iastore => q_wr 0 pc ls st h
  | .bastore => q_wr 1 pc ls st h
  | .aaload => q_ard pc ls st h
  | .aastore => q_awr pc ls st h
  | .newarray t => (match t with
    | .int => q_nwa 0 pc ls st h
    | .boolean => q_nwa 1 pc ls st h
    | _ => none)
  | .anewarray _ => q_nwq pc ls st h
  | .multianewarray _ _ => q_nwm pc ls st h
  | .new _ => q_nwo e.2.1 pc ls st h
  | .getfield _ => q_gf e.2.1 e.2.2.1 pc ls st h
  | .putfield _ => q_pf e.2.1 e.2.2.1 pc ls st h
  | .invokespecial _ => bif Nat.beq e.2.1 998 then (match st with
    | .inr (.inl (some _)) :: st => bif Nat.ble st.length 8 then some (pc + 3, ls, st, h) else none
    | _ => none) else none
  | .invokestatic _ => bif Nat.beq e.2.1 999 then q_acp pc ls st h else bif Nat.ble 995 e.2.1 then q_mx e.2.1 pc ls st h else none
  | _ => none
/-- 0 another instruction, 1 a call, 2 a return of an int, 3 a return of nothing -/
def q_kd (e : q_E) : Nat := match e.1 with
  | .invokevirtual _ => 1
  | .invokespecial _ => bif Nat.beq e.2.1 998 then 0 else 1
  | .invokestatic _ => bif Nat.ble 995 e.2.1 then 0 else 1
  | .ireturn => 2
  | .return_ => 3
  | _ => 0
/-- no script among them -/
def q_ns (vs : List q_V) : Bool := vs.all (fun v => match v with | .inr (.inr _) => false | _ => true)
/-- the receiver of a call: a cell of the callee's class -/
def q_rc (sh : List q_S) (f : Nat) (as : List q_V) : Bool := q_stt f || (match as with
  | .inr (.inl (some r)) :: _ => (match sh[r]? with
    | some (.inl (ci, _)) => Nat.beq ci (q_cx f)
    | _ => false)
  | _ => false)
def q_en (f : Nat) (as : List q_V) : q_L := as.map some ++ List.replicate (q_mL f - as.length) none
def q_ro (k : Nat) (v : Int32) : Bool := match q_rt k with
  | some .int => true
  | some .boolean => decide (v = 0) || decide (v = 1)
  | _ => false
/-- what is left of a call's stack, its arguments in order -/
def q_arg (f : Nat) (st : List q_V) : List q_V := (st.take (q_na f)).reverse
def q_okc (f : Nat) (st : List q_V) (h : q_H) : Bool := Nat.ble (q_na f) st.length && Nat.ble (st.drop (q_na f)).length 8 && q_ns (q_arg f st) && q_rc h.1 f (q_arg f st)
/-- n: how many steps at most; d: how deep calls may go; k: the method -/
def q_ex : Nat → q_X → Nat → Nat → Nat → q_L → List q_V → q_H → Option (Option Int32 × q_H)
  | 0, _, _, _, _, _, _, _ => none
  | n + 1, X, d, k, pc, ls, st, h => match q_cd k pc with
    | none => none
    | some e => match q_kd e with
      | 0 => (match q_step X pc e ls st h with
        | some (pc', ls', st', h') => q_ex n X d k pc' ls' st' h'
        | none => none)
      | 1 => (match d with
        | 0 => none
        | d' + 1 => bif q_okc e.2.1 st h then (match q_ex n none d' e.2.1 0 (q_en e.2.1 (q_arg e.2.1 st)) [] h with
          | some (some v, h') => q_ex n X (d' + 1) k (pc + 3) ls (.inl v :: st.drop (q_na e.2.1)) h'
          | some (none, h') => q_ex n X (d' + 1) k (pc + 3) ls (st.drop (q_na e.2.1)) h'
          | none => none) else none)
      | 2 => (match st with
        | [.inl v] => bif q_ro k v then some (some v, h) else none
        | _ => none)
      | _ => (match st with
        | [] => bif (q_rt k).isNone then some (none, h) else none
        | _ => none)
