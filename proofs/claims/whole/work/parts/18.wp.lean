/-! weakest preconditions over the pure machine -/
abbrev q_Z : Type := Option (Option Int32 × q_H)
def q_ex1 (rc : q_X → Nat → Nat → Nat → q_L → List q_V → q_H → q_Z) (X : q_X) (d k pc : Nat) (ls : q_L) (st : List q_V) (h : q_H) : q_Z := match q_cd k pc with
    | none => none
    | some e => match q_kd e with
      | 0 => (match q_step X pc e ls st h with
        | some (pc', ls', st', h') => rc X d k pc' ls' st' h'
        | none => none)
      | 1 => (match d with
        | 0 => none
        | d' + 1 => bif q_okc e.2.1 st h then (match rc none d' e.2.1 0 (q_en e.2.1 (q_arg e.2.1 st)) [] h with
          | some (some v, h') => rc X (d' + 1) k (pc + 3) ls (.inl v :: st.drop (q_na e.2.1)) h'
          | some (none, h') => rc X (d' + 1) k (pc + 3) ls (st.drop (q_na e.2.1)) h'
          | none => none) else none)
      | 2 => (match st with
        | [.inl v] => bif q_ro k v then some (some v, h) else none
        | _ => none)
      | _ => (match st with
        | [] => bif (q_rt k).isNone then some (none, h) else none
        | _ => none)
theorem q_ex_s (n : Nat) (X : q_X) (d k pc : Nat) (ls : q_L) (st : List q_V) (h : q_H) : q_ex (n + 1) X d k pc ls st h = q_ex1 (q_ex n) X d k pc ls st h := rfl
theorem q_ex1_mono {rc rd : q_X → Nat → Nat → Nat → q_L → List q_V → q_H → q_Z} (hm : ∀ X d k pc ls st h z, rc X d k pc ls st h = some z → rd X d k pc ls st h = some z) {X : q_X} {d k pc : Nat} {ls : q_L} {st : List q_V} {h : q_H} {z : Option Int32 × q_H} (hs : q_ex1 rc X d k pc ls st h = some z) : q_ex1 rd X d k pc ls st h = some z := by
  unfold q_ex1 at hs ⊢
  cases hc : q_cd k pc with
  | none => rw [hc] at hs; cases hs
  | some e =>
    rw [hc] at hs
    dsimp only at hs ⊢
    generalize q_kd e = kd at hs ⊢
    match kd with
    | 0 =>
      try dsimp only at hs ⊢
      cases hst : q_step X pc e ls st h with
      | none => rw [hst] at hs; cases hs
      | some w =>
        rw [hst] at hs
        obtain ⟨pc1, ls1, st1, h1⟩ := w
        exact hm _ _ _ _ _ _ _ _ hs
    | 1 =>
      try dsimp only at hs ⊢
      cases d with
      | zero => cases hs
      | succ d1 =>
        try dsimp only at hs ⊢
        cases hb : q_okc e.2.1 st h with
        | false => rw [hb] at hs; cases hs
        | true =>
          rw [hb] at hs
          dsimp only [cond_true] at hs ⊢
          cases hr : rc none d1 e.2.1 0 (q_en e.2.1 (q_arg e.2.1 st)) [] h with
          | none => rw [hr] at hs; cases hs
          | some w =>
            rw [hr] at hs
            rw [hm _ _ _ _ _ _ _ _ hr]
            obtain ⟨r1, h1⟩ := w
            cases r1 with
            | none => exact hm _ _ _ _ _ _ _ _ hs
            | some v => exact hm _ _ _ _ _ _ _ _ hs
    | 2 => exact hs
    | kd + 3 => exact hs
theorem q_ex_m1 : ∀ (n : Nat) (X : q_X) (d k pc : Nat) (ls : q_L) (st : List q_V) (h : q_H) (z : Option Int32 × q_H), q_ex n X d k pc ls st h = some z → q_ex (n + 1) X d k pc ls st h = some z := by
  intro n
  induction n with
  | zero => intro X d k pc ls st h z hs; cases hs
  | succ n ih =>
    intro X d k pc ls st h z hs
    rw [q_ex_s] at hs
    rw [q_ex_s]
    exact q_ex1_mono ih hs
theorem q_ex_le {n n2 : Nat} (hn : n ≤ n2) {X : q_X} {d k pc : Nat} {ls : q_L} {st : List q_V} {h : q_H} {z : Option Int32 × q_H} (hs : q_ex n X d k pc ls st h = some z) : q_ex n2 X d k pc ls st h = some z := by
  induction hn with
  | refl => exact hs
  | step _ ih => exact q_ex_m1 _ _ _ _ _ _ _ _ _ ih
def q_WP (X : q_X) (d k pc : Nat) (pl : q_L) (st : List q_V) (h : q_H) (Q : Option Int32 → q_H → Prop) : Prop := ∃ (n : Nat) (r : Option Int32) (h' : q_H), q_ex n X d k pc pl st h = some (r, h') ∧ Q r h'
/-- a method from its start -/
def q_Wm (d f : Nat) (as : List q_V) (h : q_H) (Q : Option Int32 → q_H → Prop) : Prop := q_WP none d f 0 (q_en f as) [] h Q
def q_ccP (c : Jvm.ClassFile.Cond) (x y : Int32) : Prop := match c with
  | .eq => x = y
  | .ne => ¬ x = y
  | .lt => x < y
  | .ge => y ≤ x
  | .gt => y < x
  | .le => x ≤ y
theorem q_ccP_t {c : Jvm.ClassFile.Cond} {x y : Int32} (h : q_cc c x y = true) : q_ccP c x y := by cases c <;> simpa [q_cc, q_ccP] using h
theorem q_ccP_f {c : Jvm.ClassFile.Cond} {x y : Int32} (h : q_cc c x y = false) : ¬ q_ccP c x y := by cases c <;> simpa [q_cc, q_ccP] using h
section QW
variable {X : q_X} {d k pc pc' : Nat} {pl pl' : q_L} {st st' : List q_V} {h h' : q_H} {Q : Option Int32 → q_H → Prop} {e : q_E}
theorem q_wmono {Q2 : Option Int32 → q_H → Prop} (hq : ∀ r h1, Q r h1 → Q2 r h1) (g : q_WP X d k pc pl st h Q) : q_WP X d k pc pl st h Q2 := by
  obtain ⟨n, r, h9, a, b⟩ := g
  exact ⟨n, r, h9, a, hq r h9 b⟩
theorem q_wst (hc : q_cd k pc = some e) (hk : q_kd e = 0) (hs : q_step X pc e pl st h = some (pc', pl', st', h')) (g : q_WP X d k pc' pl' st' h' Q) : q_WP X d k pc pl st h Q := by
  obtain ⟨n, r, h9, a, b⟩ := g
  refine ⟨n + 1, r, h9, ?_, b⟩
  rw [q_ex_s]
  unfold q_ex1
  rw [hc]
  try dsimp only
  rw [hk]
  try dsimp only
  rw [hs]
  exact a
theorem q_wcl (hc : q_cd k pc = some e) (hk : q_kd e = 1) (ho : q_okc e.2.1 st h = true) (g : q_Wm d e.2.1 (q_arg e.2.1 st) h (fun r h1 => q_WP X (d + 1) k (pc + 3) pl (q_psh r (st.drop (q_na e.2.1))) h1 Q)) : q_WP X (d + 1) k pc pl st h Q := by
  obtain ⟨n1, r1, h1, a1, n2, r2, h2, a2, b2⟩ := g
  refine ⟨n1 + n2 + 1, r2, h2, ?_, b2⟩
  rw [q_ex_s]
  unfold q_ex1
  rw [hc]
  try dsimp only
  rw [hk]
  try dsimp only
  rw [ho, q_ex_le (Nat.le_add_right n1 n2) a1]
  cases r1 with
  | none => exact q_ex_le (Nat.le_add_left n2 n1) a2
  | some v => exact q_ex_le (Nat.le_add_left n2 n1) a2
theorem q_wrt {v : Int32} (hc : q_cd k pc = some e) (hk : q_kd e = 2) (hr : q_ro k v = true) (g : Q (some v) h) : q_WP X d k pc pl [.inl v] h Q := by
  refine ⟨1, some v, h, ?_, g⟩
  rw [q_ex_s]
  unfold q_ex1
  rw [hc]
  try dsimp only
  rw [hk]
  try dsimp only
  rw [hr]
  rfl
theorem q_wrv (hc : q_cd k pc = some e) (hk : q_kd e = 3) (hr : (q_rt k).isNone = true) (g : Q none h) : q_WP X d k pc pl [] h Q := by
  refine ⟨1, none, h, ?_, g⟩
  rw [q_ex_s]
  unfold q_ex1
  rw [hc]
  try dsimp only
  rw [hk]
  try dsimp only
  rw [hr]
  rfl
theorem q_wif {c : Jvm.ClassFile.Cond} {x y : Int32} {t f : Nat} (ht : q_ccP c x y → q_WP X d k t pl st h Q) (hf : ¬ q_ccP c x y → q_WP X d k f pl st h Q) : q_WP X d k (bif q_cc c x y then t else f) pl st h Q := by
  cases hb : q_cc c x y with
  | true => exact ht (q_ccP_t hb)
  | false => exact hf (q_ccP_f hb)
theorem q_in_nI {j n : Nat} (hj : j < n) (hn : n < 2 ^ 31) : q_in (nI j) n = true := decide_eq_true (nI_in hj hn)
/-- an int out of a row -/
theorem q_wrd {a b9 : Nat} {cc : Int32} {x : Int32} {r n : Nat} (j : Nat) (hx : x = nI j) (hj : j < n) (hc : q_cd k pc = some (.iaload, a, b9, cc)) (hr : h.1[r]? = some (.inr (.inl (0, n)))) (hn : n < 2 ^ 31) (g : q_WP X d k (pc + 1) pl (.inl (h.2 r j) :: st) h Q) : q_WP X d k pc pl (.inl x :: .inr (.inl (some r)) :: st) h Q := by
  subst hx
  refine q_wst hc rfl ?_ g
  show q_rd X 0 pc pl (.inl (nI j) :: .inr (.inl (some r)) :: st) h = _
  unfold q_rd
  try dsimp only
  rw [hr]
  try dsimp only
  rw [q_in_nI hj hn, nI_clamp (by omega)]
  rfl
/-- a boolean out of a row -/
theorem q_wrz {a b9 : Nat} {cc : Int32} {x : Int32} {r n : Nat} (j : Nat) (hx : x = nI j) (hj : j < n) (hc : q_cd k pc = some (.baload, a, b9, cc)) (hr : h.1[r]? = some (.inr (.inl (1, n)))) (hn : n < 2 ^ 31) (g : q_WP X d k (pc + 1) pl (.inl (h.2 r j) :: st) h Q) : q_WP X d k pc pl (.inl x :: .inr (.inl (some r)) :: st) h Q := by
  subst hx
  refine q_wst hc rfl ?_ g
  show q_rd none 1 pc pl (.inl (nI j) :: .inr (.inl (some r)) :: st) h = _
  unfold q_rd
  try dsimp only
  rw [hr]
  try dsimp only
  rw [q_in_nI hj hn, nI_clamp (by omega)]
  rfl
/-- an int out of the script -/
theorem q_wrs {a b9 : Nat} {cc : Int32} {x : Int32} {n : Nat} {xs : Nat → Int32} (j : Nat) (hx : x = nI j) (hj : j < n) (hc : q_cd k pc = some (.iaload, a, b9, cc)) (hn : n < 2 ^ 31) (g : q_WP (some (n, xs)) d k (pc + 1) pl (.inl (xs j) :: st) h Q) : q_WP (some (n, xs)) d k pc pl (.inl x :: .inr (.inr ()) :: st) h Q := by
  subst hx
  refine q_wst hc rfl ?_ g
  show q_rd (some (n, xs)) 0 pc pl (.inl (nI j) :: .inr (.inr ()) :: st) h = _
  unfold q_rd
  try dsimp only
  rw [q_in_nI hj hn, nI_clamp (by omega)]
  rfl
/-- an int into a row -/
theorem q_wwr {a b9 : Nat} {cc : Int32} {x v : Int32} {r n : Nat} (j : Nat) (hx : x = nI j) (hj : j < n) (hc : q_cd k pc = some (.iastore, a, b9, cc)) (hr : h.1[r]? = some (.inr (.inl (0, n)))) (hn : n < 2 ^ 31) (g : q_WP X d k (pc + 1) pl st (h.1, q_up h.2 r j v) Q) : q_WP X d k pc pl (.inl v :: .inl x :: .inr (.inl (some r)) :: st) h Q := by
  subst hx
  refine q_wst hc rfl ?_ g
  show q_wr 0 pc pl (.inl v :: .inl (nI j) :: .inr (.inl (some r)) :: st) h = _
  unfold q_wr
  try dsimp only
  rw [hr]
  try dsimp only
  rw [q_in_nI hj hn, nI_clamp (by omega)]
  rfl
theorem q_wwz {a b9 : Nat} {cc : Int32} {x v : Int32} {r n : Nat} (j : Nat) (hx : x = nI j) (hj : j < n) (hv : v = 0 ∨ v = 1) (hc : q_cd k pc = some (.bastore, a, b9, cc)) (hr : h.1[r]? = some (.inr (.inl (1, n)))) (hn : n < 2 ^ 31) (g : q_WP X d k (pc + 1) pl st (h.1, q_up h.2 r j v) Q) : q_WP X d k pc pl (.inl v :: .inl x :: .inr (.inl (some r)) :: st) h Q := by
  subst hx
  refine q_wst hc rfl ?_ g
  show q_wr 1 pc pl (.inl v :: .inl (nI j) :: .inr (.inl (some r)) :: st) h = _
  unfold q_wr
  try dsimp only
  rw [hr]
  try dsimp only
  rw [q_in_nI hj hn, nI_clamp (by omega)]
  rcases hv with rfl | rfl <;> rfl
/-- a reference out of a row -/
theorem q_wra {a b9 : Nat} {cc : Int32} {x : Int32} {r kd : Nat} {els : List (Option Nat)} (j v : Nat) (hx : x = nI j) (hj : j < els.length) (hv : els.getD j none = some v) (hc : q_cd k pc = some (.aaload, a, b9, cc)) (hr : h.1[r]? = some (.inr (.inr (kd, els)))) (hk : kd = 2 ∨ kd = 3) (hn : els.length < 2 ^ 31) (g : q_WP X d k (pc + 1) pl (.inr (.inl (some v)) :: st) h Q) : q_WP X d k pc pl (.inl x :: .inr (.inl (some r)) :: st) h Q := by
  subst hx
  refine q_wst hc rfl ?_ g
  show q_ard pc pl (.inl (nI j) :: .inr (.inl (some r)) :: st) h = _
  unfold q_ard
  try dsimp only
  rw [hr]
  try dsimp only
  rw [q_in_nI hj hn, nI_clamp (by omega), hv]
  rcases hk with rfl | rfl <;> rfl
end QW
