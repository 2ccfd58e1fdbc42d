/-! faults and values -/
def q_rn (w : Nat → Nat) : Nat → Nat
  | 0 => 1
  | i + 1 => if w (i + 1) = w i then q_rn w i + 1 else 1
def q_bad (w : Nat → Nat) (i : Nat) : Bool := decide (5 < w i) || (decide (0 < i) && decide (w (i - 1) < w i)) || decide (9 < q_rn w i)
def q_fg (a w : Nat → Nat) : Nat → Nat → Int32
  | 0, _ => -1
  | r + 1, i => bif q_bad w i then nI (a i) else q_fg a w r (i + 1)
theorem q_fg_b {a w : Nat → Nat} {r i : Nat} (h : q_bad w i = true) : q_fg a w (r + 1) i = nI (a i) := by
  unfold q_fg
  rw [h]
  rfl
theorem q_fg_n {a w : Nat → Nat} {r i : Nat} (h : q_bad w i = false) : q_fg a w (r + 1) i = q_fg a w r (i + 1) := by
  show (bif q_bad w i then nI (a i) else q_fg a w r (i + 1)) = _
  rw [h]
  rfl
theorem q_bad_t {w : Nat → Nat} {i : Nat} : q_bad w i = true ↔ 5 < w i ∨ (0 < i ∧ w (i - 1) < w i) ∨ 9 < q_rn w i := by
  unfold q_bad
  simp only [Bool.or_eq_true, Bool.and_eq_true, decide_eq_true_eq]
  constructor
  · rintro ((h | h) | h)
    · exact Or.inl h
    · exact Or.inr (Or.inl h)
    · exact Or.inr (Or.inr h)
  · rintro (h | h | h)
    · exact Or.inl (Or.inl h)
    · exact Or.inl (Or.inr h)
    · exact Or.inr h
theorem q_bad_f {w : Nat → Nat} {i : Nat} (h1 : ¬ 5 < w i) (h2 : ¬ (0 < i ∧ w (i - 1) < w i)) (h3 : ¬ 9 < q_rn w i) : q_bad w i = false := by
  cases h : q_bad w i with
  | false => rfl
  | true =>
    rcases q_bad_t.mp h with z | z | z
    · exact absurd z h1
    · exact absurd z h2
    · exact absurd z h3
theorem q_rn_le {w : Nat → Nat} : ∀ i, q_rn w i ≤ i + 1
  | 0 => Nat.le_refl _
  | i + 1 => by
    unfold q_rn
    have := q_rn_le (w := w) i
    split <;> omega
theorem t_fault (d : Nat) (b : Bool) (m : q_M) (a w : Nat → Nat) (n : Nat) (hn : n ≤ 20) (c1 : m 5 2 = nI n) (c2 : ∀ i, i < n → m 6 i = nI (a i) ∧ m 7 i = nI (w i)) (hw : ∀ i, i < n → w i ≤ 40) (Q : Option Int32 → q_H → Prop) (hQ : Q (some (q_fg a w n 0)) (q_hp b m)) : q_Wm d 11 [vr 5] (q_hp b m) Q := by
  have loop : ∀ (r i : Nat) (x y z : Int32), i + r = n → z = nI i → x = nI (if i = 0 then 5 else w (i - 1)) → y = nI (if i = 0 then 0 else q_rn w (i - 1)) → (0 < i → w (i - 1) ≤ 5) → q_fg a w r i = q_fg a w n 0 → q_WP none d 11 6 [some (vr 5), some (vi x), some (vi y), some (vi z)] [] (q_hp b m) Q := by
    intro r
    induction r with
    | zero =>
      intro i x y z hi hz hx hy h5 hq
      subst hz
      have hi : i = n := by omega
      subst hi
      repeat (refine q_wst rfl rfl rfl ?_)
      refine q_wif (fun _ => ?_) (fun c => absurd (by show m 5 2 ≤ nI i; rw [c1]; exact nI_le (Nat.le_refl _) (by omega)) c)
      repeat (refine q_wst rfl rfl rfl ?_)
      refine q_wrt rfl rfl rfl ?_
      rw [← hq] at hQ
      exact hQ
    | succ r ih =>
      intro i x y z hi hz hx hy h5 hq
      subst hz
      have hin : i < n := by omega
      have hi20 : i < 20 := by omega
      obtain ⟨e6, e7⟩ := c2 i hin
      have w40 := hw i hin
      have ha40 : (if i = 0 then 5 else w (i - 1)) ≤ 40 := by
        split
        · omega
        · exact hw _ (by omega)
      have hr40 : (if i = 0 then 0 else q_rn w (i - 1)) ≤ 40 := by
        split
        · omega
        · have := q_rn_le (w := w) (i - 1); omega
      have ret : q_bad w i = true → Q (some (m 6 i)) (q_hp b m) := fun hb => by
        rw [← hq, q_fg_b hb, ← e6] at hQ
        exact hQ
      repeat (refine q_wst rfl rfl rfl ?_)
      refine q_wif (fun c => absurd c (by show ¬ m 5 2 ≤ nI i; rw [c1]; exact nI_ge hin (by omega))) (fun _ => ?_)
      repeat (refine q_wst rfl rfl rfl ?_)
      refine q_wrd i rfl hi20 rfl (q_at7 b) (by decide) ?_
      repeat (refine q_wst rfl rfl rfl ?_)
      refine q_wif (fun c => ?_) (fun c => ?_)
      · have c : ¬ m 7 i = x := c
        rw [e7, hx] at c
        have c : w i ≠ (if i = 0 then 5 else w (i - 1)) := fun z => c (by rw [z])
        have hrn : q_rn w i = 1 := by
          cases i with
          | zero => rfl
          | succ i =>
            unfold q_rn
            rw [if_neg (by intro z; exact c (by rw [if_neg (by omega)]; exact z))]
        iterate 5 (refine q_wst rfl rfl rfl ?_)
        refine q_wrd i rfl hi20 rfl (q_at7 b) (by decide) ?_
        iterate 2 (refine q_wst rfl rfl rfl ?_)
        refine q_wif (fun c3 => ?_) (fun c3 => ?_)
        · have c3 : x < m 7 i := c3
          rw [e7, hx] at c3
          have c3 := (nI_ltI (by omega) (by omega)).mp c3
          repeat (refine q_wst rfl rfl rfl ?_)
          refine q_wrd i rfl hi20 rfl (q_at6 b) (by decide) ?_
          refine q_wrt rfl rfl rfl (ret (q_bad_t.mpr ?_))
          by_cases h0 : i = 0
          · rw [if_pos h0] at c3; exact Or.inl c3
          · rw [if_neg h0] at c3; exact Or.inr (Or.inl ⟨by omega, c3⟩)
        · have c3 : ¬ x < m 7 i := c3
          rw [e7, hx] at c3
          have c3 : ¬ (if i = 0 then 5 else w (i - 1)) < w i := fun z => c3 ((nI_ltI (by omega) (by omega)).mpr z)
          have hnb : w i ≤ 5 ∧ ¬ (0 < i ∧ w (i - 1) < w i) := by
            by_cases h0 : i = 0
            · rw [if_pos h0] at c3; exact ⟨by omega, fun z => by omega⟩
            · rw [if_neg h0] at c3
              have := h5 (by omega)
              exact ⟨by omega, fun z => c3 z.2⟩
          iterate 3 (refine q_wst rfl rfl rfl ?_)
          iterate 3 (refine q_wst rfl rfl rfl ?_)
          refine q_wrd i rfl hi20 rfl (q_at7 b) (by decide) ?_
          iterate 3 (refine q_wst rfl rfl rfl ?_)
          refine ih (i + 1) _ _ _ (by omega) (nI_1 i) ?_ ?_ (fun _ => hnb.1) ?_
          · show m 7 i = _
            rw [e7, if_neg (by omega)]
            rfl
          · rw [if_neg (by omega)]
            show _ = nI (q_rn w i)
            rw [hrn]
            rfl
          · rw [← q_fg_n (q_bad_f (by omega) hnb.2 (by rw [hrn]; omega))]
            exact hq
      · have c : m 7 i = x := Decidable.not_not.mp c
        rw [e7, hx] at c
        have c := q_nIle (by omega) (by omega) c
        have hrn : y + 1 = nI (q_rn w i) := by
          rw [hy, nI_1]
          cases i with
          | zero => rfl
          | succ i =>
            rw [if_neg (by omega)]
            show nI (q_rn w i + 1) = nI (if w (i + 1) = w i then q_rn w i + 1 else 1)
            rw [if_pos (by rw [if_neg (by omega)] at c; exact c)]
        have hr := q_rn_le (w := w) i
        iterate 8 (refine q_wst rfl rfl rfl ?_)
        refine q_wrd i rfl hi20 rfl (q_at7 b) (by decide) ?_
        iterate 2 (refine q_wst rfl rfl rfl ?_)
        refine q_wif (fun c3 => ?_) (fun c3 => ?_)
        · have c3 : x < m 7 i := c3
          rw [e7, hx] at c3
          have c3 := (nI_ltI (by omega) (by omega)).mp c3
          omega
        · have hnb : w i ≤ 5 ∧ ¬ (0 < i ∧ w (i - 1) < w i) := by
            by_cases h0 : i = 0
            · rw [if_pos h0] at c; exact ⟨by omega, fun z => by omega⟩
            · rw [if_neg h0] at c
              have := h5 (by omega)
              exact ⟨by omega, fun z => by omega⟩
          iterate 3 (refine q_wst rfl rfl rfl ?_)
          refine q_wif (fun c4 => ?_) (fun c4 => ?_)
          · have c4 : y + 1 ≤ 9 := c4
            rw [hrn] at c4
            have c4 := (nI_leI (b := 9) (by omega) (by omega)).mp c4
            iterate 3 (refine q_wst rfl rfl rfl ?_)
            refine q_wrd i rfl hi20 rfl (q_at7 b) (by decide) ?_
            iterate 3 (refine q_wst rfl rfl rfl ?_)
            refine ih (i + 1) _ _ _ (by omega) (nI_1 i) ?_ ?_ (fun _ => hnb.1) ?_
            · show m 7 i = _
              rw [e7, if_neg (by omega)]
              rfl
            · rw [if_neg (by omega)]
              exact hrn
            · rw [← q_fg_n (q_bad_f (by omega) hnb.2 (by omega))]
              exact hq
          · have c4 : ¬ y + 1 ≤ 9 := c4
            rw [hrn] at c4
            have c4 : ¬ q_rn w i ≤ 9 := fun z => c4 ((nI_leI (b := 9) (by omega) (by omega)).mpr z)
            repeat (refine q_wst rfl rfl rfl ?_)
            refine q_wrd i rfl hi20 rfl (q_at6 b) (by decide) ?_
            exact q_wrt rfl rfl rfl (ret (q_bad_t.mpr (Or.inr (Or.inr (by omega)))))
  unfold q_Wm
  iterate 6 (refine q_wst rfl rfl rfl ?_)
  exact loop n 0 _ _ _ (by omega) rfl rfl rfl (fun h => absurd h (by omega)) rfl
