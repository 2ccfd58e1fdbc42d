/-! pairing: bits, the search as a function -/
def p_bt (x : Int32) (f : Nat) : Bool := x.toBitVec.getLsbD f
def p_on (f : Nat) : Int32 := 1 <<< (nI f &&& 31)
theorem p_bt_and (x y : Int32) (f : Nat) : p_bt (x &&& y) f = (p_bt x f && p_bt y f) := by
  unfold p_bt
  rw [Int32.toBitVec_and, BitVec.getLsbD_and]
theorem p_bt_or (x y : Int32) (f : Nat) : p_bt (x ||| y) f = (p_bt x f || p_bt y f) := by
  unfold p_bt
  rw [Int32.toBitVec_or, BitVec.getLsbD_or]
theorem p_bt_m1 : ∀ f, f < 32 → p_bt (-1) f = true := by decide +kernel
theorem p_bt_not (x : Int32) (f : Nat) (hf : f < 32) : p_bt (x ^^^ -1) f = !p_bt x f := by
  have h := p_bt_m1 f hf
  unfold p_bt at h ⊢
  rw [Int32.toBitVec_xor, BitVec.getLsbD_xor, h, Bool.xor_true]
theorem p_bt_0 (f : Nat) : p_bt 0 f = false := by
  unfold p_bt
  show (0#32).getLsbD f = false
  rw [BitVec.getLsbD_zero]
theorem p_bt_hi (x : Int32) (f : Nat) (hf : 32 ≤ f) : p_bt x f = false := by
  unfold p_bt
  exact BitVec.getLsbD_of_ge _ _ hf
theorem p_on_1 : ∀ f, f < 30 → ∀ j, j < 32 → p_bt (p_on f) j = decide (j = f) := by decide +kernel
theorem p_bt_on (f j : Nat) (hf : f < 30) : p_bt (p_on f) j = decide (j = f) := by
  rcases Nat.lt_or_ge j 32 with h | h
  · exact p_on_1 f hf j h
  · rw [p_bt_hi _ _ h, decide_eq_false (by omega)]
theorem p_bx (x y : Int32) (h : ∀ f, f < 32 → p_bt x f = p_bt y f) : x = y := by
  apply Int32.toBitVec_inj.mp
  apply BitVec.eq_of_getLsbD_eq
  intro i hi
  exact h i hi
theorem p_ts (x : Int32) (f : Nat) (hf : f < 30) : (x &&& p_on f = 0) ↔ p_bt x f = false := by
  constructor
  · intro h
    have h2 := congrArg (fun z => p_bt z f) h
    have h2 : p_bt (x &&& p_on f) f = p_bt 0 f := h2
    rw [p_bt_and, p_bt_on f f hf, p_bt_0, decide_eq_true rfl, Bool.and_true] at h2
    exact h2
  · intro h
    refine p_bx _ _ (fun j hj => ?_)
    rw [p_bt_and, p_bt_on f j hf, p_bt_0]
    by_cases e : j = f
    · subst e; rw [h, Bool.false_and]
    · rw [decide_eq_false e, Bool.and_false]
theorem p_sh : ∀ f, f < 30 → ((nI f &&& 31).toBitVec.smod 32).toNat = f := by decide +kernel
theorem p_sr (x : Int32) (f : Nat) (hf : f < 30) (i : Nat) (hi : i + f < 32) : p_bt (x >>> (nI f &&& 31)) i = p_bt x (f + i) := by
  unfold p_bt
  rw [Int32.toBitVec_shiftRight, BitVec.sshiftRight', p_sh f hf, BitVec.getLsbD_sshiftRight]
  rw [if_pos (by omega)]
  rw [decide_eq_false (by omega), Bool.not_false, Bool.true_and]
theorem p_sl (x : Int32) (i : Nat) (hi : i < 32) : p_bt (x <<< (31 &&& 31 : Int32)) i = (decide (i = 31) && p_bt x 0) := by
  unfold p_bt
  rw [Int32.toBitVec_shiftLeft]
  have e : (((31 &&& 31 : Int32).toBitVec.smod 32)) = 31#32 := by decide
  show (x.toBitVec <<< (((31 &&& 31 : Int32).toBitVec.smod 32))).getLsbD i = _
  rw [e]
  show (x.toBitVec <<< 31).getLsbD i = _
  rw [BitVec.getLsbD_shiftLeft, decide_eq_true hi, Bool.true_and]
  by_cases c : i = 31
  · subst c; rfl
  · rw [decide_eq_false c, decide_eq_true (by omega : i < 31)]; rfl
theorem p_tm (x : Int32) (f : Nat) (hf : f < 30) : ((x >>> (nI f &&& 31)) <<< (31 &&& 31 : Int32) = 0) ↔ p_bt x f = false := by
  constructor
  · intro h
    have h2 : p_bt ((x >>> (nI f &&& 31)) <<< (31 &&& 31 : Int32)) 31 = p_bt 0 31 := congrArg (fun z => p_bt z 31) h
    rw [p_sl _ _ (by omega), p_sr _ _ hf 0 (by omega), p_bt_0, decide_eq_true rfl, Bool.true_and] at h2
    exact h2
  · intro h
    refine p_bx _ _ (fun j hj => ?_)
    rw [p_sl _ _ hj, p_sr _ _ hf 0 (by omega), p_bt_0, Nat.add_zero, h, Bool.and_false]
theorem p_bn (x a : Int32) (f : Nat) : p_bt (x &&& (a ^^^ -1)) f = (p_bt x f && !p_bt a f) := by
  rw [p_bt_and]
  rcases Nat.lt_or_ge f 32 with h | h
  · rw [p_bt_not _ _ h]
  · rw [p_bt_hi x f h, Bool.false_and, Bool.false_and]
/-- a search's outcome: found, the asked foils, the takers -/
abbrev p_z3 : Type := Bool × Int32 × (Nat → Int32)
def p_lp (x : Int32) (rc : Nat → Int32 → (Nat → Int32) → p_z3) (s : Nat) : Nat → Nat → Int32 → (Nat → Int32) → p_z3
  | 0, _, a, T => (false, a, T)
  | r + 1, f, a, T => if p_bt (x &&& (a ^^^ -1)) f = true then
      (if T f < 0 then (true, a ||| p_on f, upd T f (nI s))
        else if (rc (T f).toNatClampNeg (a ||| p_on f) T).1 = true then (true, (rc (T f).toNatClampNeg (a ||| p_on f) T).2.1, upd (rc (T f).toNatClampNeg (a ||| p_on f) T).2.2 f (nI s))
        else p_lp x rc s r (f + 1) (rc (T f).toNatClampNeg (a ||| p_on f) T).2.1 (rc (T f).toNatClampNeg (a ||| p_on f) T).2.2)
    else p_lp x rc s r (f + 1) a T
def p_tk (G : Nat → Int32) : Nat → Nat → Int32 → (Nat → Int32) → p_z3
  | 0, _, a, T => (false, a, T)
  | k + 1, s, a, T => p_lp (G s) (p_tk G k) s 30 0 a T
def p_okT (P : Nat) (T : Nat → Int32) : Prop := ∀ f, T f < 0 ∨ ∃ s, s < P ∧ T f = nI s
def p_sub (a a' : Int32) : Prop := ∀ f, p_bt a f = true → p_bt a' f = true
theorem p_sub_tr {a b c : Int32} (h1 : p_sub a b) (h2 : p_sub b c) : p_sub a c := fun f h => h2 f (h1 f h)
theorem p_sub_or (a x : Int32) : p_sub a (a ||| x) := fun f h => by rw [p_bt_or, h, Bool.true_or]
theorem p_okT_up {P s f : Nat} {T : Nat → Int32} (hT : p_okT P T) (hs : s < P) : p_okT P (upd T f (nI s)) := by
  intro g
  unfold upd
  by_cases e : g = f
  · rw [if_pos e]
    exact Or.inr ⟨s, hs, rfl⟩
  · rw [if_neg e]
    exact hT g
theorem p_lp_inv {P s : Nat} (hP : P ≤ 30) (hs : s < P) {x : Int32} {rc : Nat → Int32 → (Nat → Int32) → p_z3} (hr : ∀ t a T, t < P → p_okT P T → p_okT P (rc t a T).2.2 ∧ p_sub a (rc t a T).2.1) : ∀ r f a T, p_okT P T → p_okT P (p_lp x rc s r f a T).2.2 ∧ p_sub a (p_lp x rc s r f a T).2.1
  | 0, _, a, T, hT => ⟨hT, fun _ h => h⟩
  | r + 1, f, a, T, hT => by
    unfold p_lp
    by_cases c : p_bt (x &&& (a ^^^ -1)) f = true
    · rw [if_pos c]
      by_cases c2 : T f < 0
      · rw [if_pos c2]
        exact ⟨p_okT_up hT hs, p_sub_or _ _⟩
      · rw [if_neg c2]
        have h : (T f).toNatClampNeg < P := by
          rcases hT f with z | ⟨t, ht, e⟩
          · exact absurd z c2
          · rw [e, nI_clamp (by omega)]
            exact ht
        have h3 := hr (T f).toNatClampNeg (a ||| p_on f) T h hT
        by_cases c3 : (rc (T f).toNatClampNeg (a ||| p_on f) T).1 = true
        · rw [if_pos c3]
          exact ⟨p_okT_up h3.1 hs, p_sub_tr (p_sub_or _ _) h3.2⟩
        · rw [if_neg c3]
          have h4 := p_lp_inv (x := x) hP hs hr r (f + 1) (rc (T f).toNatClampNeg (a ||| p_on f) T).2.1 (rc (T f).toNatClampNeg (a ||| p_on f) T).2.2 h3.1
          exact ⟨h4.1, p_sub_tr (p_sub_tr (p_sub_or _ _) h3.2) h4.2⟩
    · rw [if_neg c]
      exact p_lp_inv hP hs hr r (f + 1) a T hT
theorem p_tk_inv {P : Nat} (hP : P ≤ 30) {G : Nat → Int32} : ∀ k t a T, t < P → p_okT P T → p_okT P (p_tk G k t a T).2.2 ∧ p_sub a (p_tk G k t a T).2.1
  | 0, _, _, _, _, hT => ⟨hT, fun _ h => h⟩
  | k + 1, t, a, T, ht, hT => p_lp_inv hP ht (p_tk_inv hP k) 30 0 a T hT
theorem p_lp_all {x : Int32} {rc : Nat → Int32 → (Nat → Int32) → p_z3} {s : Nat} : ∀ r f a T, (∀ g, f ≤ g → p_bt x g = true → p_bt a g = true) → p_lp x rc s r f a T = (false, a, T)
  | 0, _, _, _, _ => rfl
  | r + 1, f, a, T, h => by
    unfold p_lp
    rw [p_bn, if_neg (fun c => ?_)]
    · exact p_lp_all r (f + 1) a T (fun g hg => h g (by omega))
    · rw [Bool.and_eq_true] at c
      rw [h f (Nat.le_refl f) c.1] at c
      cases c.2
theorem p_tk_all {G : Nat → Int32} {s : Nat} {a : Int32} {T : Nat → Int32} (h : ∀ g, p_bt (G s) g = true → p_bt a g = true) : ∀ k, p_tk G k s a T = (false, a, T)
  | 0 => rfl
  | k + 1 => p_lp_all 30 0 a T (fun g _ => h g)
def p_ct (a : Int32) : Nat → Nat
  | 0 => 0
  | n + 1 => p_ct a n + (if p_bt a n = true then 0 else 1)
theorem p_ct_le (a : Int32) : ∀ n, p_ct a n ≤ n
  | 0 => Nat.le_refl 0
  | n + 1 => by
    have := p_ct_le a n
    unfold p_ct
    split <;> omega
theorem p_ct_mo {a a' : Int32} (h : p_sub a a') : ∀ n, p_ct a' n ≤ p_ct a n
  | 0 => Nat.le_refl 0
  | n + 1 => by
    have := p_ct_mo h n
    have h2 := h n
    unfold p_ct
    by_cases c : p_bt a n = true
    · rw [if_pos c, if_pos (h2 c)]
      omega
    · rw [if_neg c]
      split <;> omega
theorem p_ct_st {a a' : Int32} (h : p_sub a a') {f : Nat} (h1 : ¬ p_bt a f = true) (h2 : p_bt a' f = true) : ∀ n, f < n → p_ct a' n + 1 ≤ p_ct a n
  | 0, hf => absurd hf (by omega)
  | n + 1, hf => by
    unfold p_ct
    by_cases c : f = n
    · subst c
      have := p_ct_mo h f
      rw [if_pos h2, if_neg h1]
      omega
    · have := p_ct_st h h1 h2 n (by omega)
      have h3 := h n
      by_cases c : p_bt a n = true
      · rw [if_pos c, if_pos (h3 c)]
        omega
      · rw [if_neg c]
        split <;> omega
theorem p_ct_z {a : Int32} : ∀ n, p_ct a n = 0 → ∀ f, f < n → p_bt a f = true
  | 0, _, f, hf => absurd hf (by omega)
  | n + 1, h, f, hf => by
    unfold p_ct at h
    by_cases c : p_bt a n = true
    · by_cases e : f = n
      · rw [e]; exact c
      · exact p_ct_z n (by omega) f (by omega)
    · rw [if_neg c] at h
      omega
def p_mp (G : Nat → Int32) : Nat → Nat → (Nat → Int32) → Nat → Nat
  | 0, _, _, n => n
  | r + 1, i, T, n => p_mp G r (i + 1) (p_tk G 30 i 0 T).2.2 (if (p_tk G 30 i 0 T).1 = true then n + 1 else n)
theorem p_mp_le (G : Nat → Int32) : ∀ r i T n, p_mp G r i T n ≤ n + r
  | 0, _, _, n => Nat.le_refl n
  | r + 1, i, T, n => by
    have h := p_mp_le G r (i + 1) (p_tk G 30 i 0 T).2.2 (if (p_tk G 30 i 0 T).1 = true then n + 1 else n)
    unfold p_mp
    split at h <;> rename_i c
    · rw [if_pos c]; omega
    · rw [if_neg c]; omega
def p_lf (jn : Nat → Int32) (P i : Nat) (o : Int32) (l : Nat) : Nat → Nat → Option Nat
  | 0, _ => none
  | r + 1, f => if p_bt (jn i &&& o) f = true ∧ p_mp (fun s => jn s &&& (o &&& (p_on f ^^^ -1))) (P - (i + 1)) (i + 1) (fun _ => -1) 0 + 1 = l then some f else p_lf jn P i o l r (f + 1)
def p_ml (jn : Nat → Int32) (P : Nat) : Nat → Nat → Int32 → Nat → (Nat → Int32) → (Nat → Int32)
  | 0, _, _, _, O => O
  | r + 1, i, o, l, O => if l = 0 then O else match p_lf jn P i o l P 0 with
    | none => p_ml jn P r (i + 1) o l O
    | some f => p_ml jn P r (i + 1) (o &&& (p_on f ^^^ -1)) (l - 1) (upd (upd O i (nI f)) f (nI i))
