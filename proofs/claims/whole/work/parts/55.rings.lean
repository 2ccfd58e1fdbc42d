/-! rings: the two searches as functions, and that they find the same -/
def updN (R : Nat → Nat) (a v : Nat) : Nat → Nat := fun i => if i = a then v else R i
theorem updN_eq (R : Nat → Nat) (a v : Nat) : updN R a v a = v := by unfold updN; rw [if_pos rfl]
theorem updN_ne {R : Nat → Nat} {a v i : Nat} (h : i ≠ a) : updN R a v i = R i := by unfold updN; rw [if_neg h]
/-- the first that is found -/
def p_fs {α : Type} (f : Nat → Option α) : Nat → Nat → Option α
  | 0, _ => none
  | r + 1, v => match f v with
    | some x => some x
    | none => p_fs f r (v + 1)
theorem p_fs_cg {α : Type} {f g : Nat → Option α} : ∀ r v, (∀ u, v ≤ u → u < v + r → f u = g u) → p_fs f r v = p_fs g r v
  | 0, _, _ => rfl
  | r + 1, v, h => by
    unfold p_fs
    rw [h v (Nat.le_refl v) (by omega), p_fs_cg r (v + 1) (fun u h1 h2 => h u (by omega) (by omega))]
theorem p_fs_skip {α : Type} {f : Nat → Option α} : ∀ n r v, (∀ u, v ≤ u → u < v + n → f u = none) → p_fs f (n + r) v = p_fs f r (v + n)
  | 0, r, v, _ => by rw [Nat.zero_add, Nat.add_zero]
  | n + 1, r, v, h => by
    rw [show n + 1 + r = (n + r) + 1 by omega]
    unfold p_fs
    rw [h v (Nat.le_refl v) (by omega)]
    show p_fs f (n + r) (v + 1) = _
    rw [p_fs_skip n r (v + 1) (fun u h1 h2 => h u (by omega) (by omega)), show v + 1 + n = v + (n + 1) by omega]
    cases r <;> rfl
theorem p_fs_cut {α : Type} {f : Nat → Option α} : ∀ n r v, (∀ u, v + n ≤ u → u < v + n + r → f u = none) → p_fs f (n + r) v = p_fs f n v
  | 0, r, v, h => by
    have := p_fs_skip (f := f) r 0 v (fun u h1 h2 => h u (by omega) (by omega))
    rw [Nat.zero_add]
    exact this
  | n + 1, r, v, h => by
    rw [show n + 1 + r = (n + r) + 1 by omega]
    unfold p_fs
    rw [p_fs_cut n r (v + 1) (fun u h1 h2 => h u (by omega) (by omega))]
theorem p_fs_some {α : Type} {f : Nat → Option α} {x : α} : ∀ r v, p_fs f r v = some x → ∃ u, v ≤ u ∧ u < v + r ∧ f u = some x
  | 0, _, h => by cases h
  | r + 1, v, h => by
    unfold p_fs at h
    cases hf : f v with
    | some y =>
      rw [hf] at h
      exact ⟨v, Nat.le_refl v, by omega, hf.trans h⟩
    | none =>
      rw [hf] at h
      obtain ⟨u, h1, h2, h3⟩ := p_fs_some r (v + 1) h
      exact ⟨u, by omega, by omega, h3⟩
theorem p_fs_none {α : Type} {f : Nat → Option α} : ∀ r v, p_fs f r v = none → ∀ u, v ≤ u → u < v + r → f u = none
  | 0, _, _, u, h1, h2 => absurd h2 (by omega)
  | r + 1, v, h, u, h1, h2 => by
    unfold p_fs at h
    cases hf : f v with
    | some y =>
      rw [hf] at h
      cases h
    | none =>
      rw [hf] at h
      by_cases e : u = v
      · rw [e]; exact hf
      · exact p_fs_none r (v + 1) h u (by omega) (by omega)
/-- the class's way on to a ring: k parties to find, a known -/
def p_gg (E : Nat → Nat → Bool) : Nat → Nat → (Nat → Nat) → Option (Nat → Nat)
  | 0, a, R => if E (R (a - 1)) (R 0) = true then some R else none
  | k + 1, a, R => p_fs (fun v => if E (R (a - 1)) v = true then p_gg E k (a + 1) (updN R a v) else none) (8 - (R 0 + 1)) (R 0 + 1)
def p_ok2 (E : Nat → Nat → Bool) (s a : Nat) (R : Nat → Nat) (v : Nat) : Bool := decide ((a = 0 ∨ (R 0 < v ∧ E (R (a - 1)) v = true)) ∧ (∀ i, i < a → 1 ≤ i → R i ≠ v) ∧ (a + 1 < s ∨ E v (R 0) = true))
/-- the reference's -/
def p_hh (E : Nat → Nat → Bool) (s : Nat) : Nat → Nat → (Nat → Nat) → Option (Nat → Nat)
  | 0, _, R => some R
  | k + 1, a, R => p_fs (fun v => if p_ok2 E s a R v = true then p_hh E s k (a + 1) (updN R a v) else none) 8 0
def p_wk (E : Nat → Nat → Bool) (s : Nat) (W : Nat → Nat) : Prop := W 0 + s ≤ 8 ∧ (∀ j, 1 ≤ j → j < s → W 0 < W j ∧ W j < 8 ∧ E (W (j - 1)) (W j) = true) ∧ E (W (s - 1)) (W 0) = true
def p_NS (E : Nat → Nat → Bool) (s : Nat) : Prop := ∀ t W, 2 ≤ t → t < s → ¬ p_wk E t W
theorem p_gg_some {E : Nat → Nat → Bool} {W : Nat → Nat} : ∀ k a R, 1 ≤ a → p_gg E k a R = some W → (∀ j, j < a → W j = R j) ∧ (∀ j, a ≤ j → j < a + k → R 0 < W j ∧ W j < 8 ∧ E (W (j - 1)) (W j) = true) ∧ E (W (a + k - 1)) (W 0) = true
  | 0, a, R, ha, h => by
    unfold p_gg at h
    by_cases c : E (R (a - 1)) (R 0) = true
    · rw [if_pos c] at h
      injection h with h
      subst h
      exact ⟨fun _ _ => rfl, fun j h1 h2 => absurd h2 (by omega), c⟩
    · rw [if_neg c] at h
      cases h
  | k + 1, a, R, ha, h => by
    unfold p_gg at h
    obtain ⟨v, h1, h2, h3⟩ := p_fs_some _ _ h
    by_cases c : E (R (a - 1)) v = true
    · rw [if_pos c] at h3
      obtain ⟨g1, g2, g3⟩ := p_gg_some k (a + 1) (updN R a v) (by omega) h3
      have e0 : updN R a v 0 = R 0 := updN_ne (by omega)
      have ea : W a = v := (g1 a (by omega)).trans (updN_eq R a v)
      refine ⟨fun j hj => (g1 j (by omega)).trans (updN_ne (by omega)), fun j z1 z2 => ?_, ?_⟩
      · by_cases e : j = a
        · subst e
          rw [ea, g1 (j - 1) (by omega), updN_ne (by omega)]
          exact ⟨by omega, by omega, c⟩
        · have := g2 j (by omega) (by omega)
          rw [e0] at this
          exact this
      · rw [show a + (k + 1) - 1 = a + 1 + k - 1 by omega]
        exact g3
    · rw [if_neg c] at h3
      cases h3
theorem p_gg_none {E : Nat → Nat → Bool} {W : Nat → Nat} : ∀ k a R, 1 ≤ a → p_gg E k a R = none → (∀ j, j < a → W j = R j) → (∀ j, a ≤ j → j < a + k → R 0 < W j ∧ W j < 8 ∧ E (W (j - 1)) (W j) = true) → ¬ E (W (a + k - 1)) (W 0) = true
  | 0, a, R, ha, h, h1, h2 => by
    unfold p_gg at h
    intro c
    rw [show a + 0 - 1 = a - 1 by omega, h1 (a - 1) (by omega), h1 0 (by omega)] at c
    rw [if_pos c] at h
    cases h
  | k + 1, a, R, ha, h, h1, h2 => by
    unfold p_gg at h
    obtain ⟨z1, z2, z3⟩ := h2 a (Nat.le_refl a) (by omega)
    have hn := p_fs_none _ _ h (W a) (by omega) (by omega)
    rw [h1 (a - 1) (by omega)] at z3
    have hn : (if E (R (a - 1)) (W a) = true then p_gg E k (a + 1) (updN R a (W a)) else none) = none := hn
    rw [if_pos z3] at hn
    have e0 : updN R a (W a) 0 = R 0 := updN_ne (by omega)
    rw [show a + (k + 1) - 1 = a + 1 + k - 1 by omega]
    refine p_gg_none k (a + 1) (updN R a (W a)) (by omega) hn (fun j hj => ?_) (fun j g1 g2 => ?_)
    · by_cases e : j = a
      · rw [e, updN_eq]
      · rw [updN_ne e]
        exact h1 j (by omega)
    · rw [e0]
      exact h2 j (by omega) (by omega)
theorem p_hg {E : Nat → Nat → Bool} {s : Nat} (hs : s ≤ 8) (hN : p_NS E s) : ∀ k a R, 1 ≤ a → a + (k + 1) = s → R 0 + s ≤ 8 → (∀ j, 1 ≤ j → j < a → R 0 < R j ∧ R j < 8 ∧ E (R (j - 1)) (R j) = true) → p_hh E s (k + 1) a R = p_gg E (k + 1) a R := by
  intro k
  induction k with
  | zero =>
    intro a R ha has h0 hp
    unfold p_hh p_gg
    rw [show 8 = (R 0 + 1) + (8 - (R 0 + 1)) by omega, p_fs_skip (R 0 + 1) (8 - (R 0 + 1)) 0 (fun u _ h2 => ?_), Nat.zero_add, show R 0 + 1 + (8 - (R 0 + 1)) - (R 0 + 1) = 8 - (R 0 + 1) by omega]
    · refine p_fs_cg _ _ (fun v h1 h2 => ?_)
      by_cases c : E (R (a - 1)) v = true
      · rw [if_pos c]
        unfold p_gg p_hh
        rw [show a + 1 - 1 = a by omega, updN_eq, updN_ne (show 0 ≠ a by omega)]
        by_cases c2 : E v (R 0) = true
        · rw [if_pos c2, if_pos]
          unfold p_ok2
          refine decide_eq_true ⟨Or.inr ⟨by omega, c⟩, fun i h3 h4 e => ?_, Or.inr c2⟩
          refine hN (i + 1) R (by omega) (by omega) ⟨by omega, fun j z1 z2 => hp j z1 (by omega), ?_⟩
          rw [show i + 1 - 1 = i by omega, e]
          exact c2
        · rw [if_neg c2, if_neg (fun z => ?_)]
          have z := (of_decide_eq_true z).2.2
          rcases z with z | z
          · omega
          · exact c2 z
      · rw [if_neg c, if_neg (fun z => ?_)]
        have z := (of_decide_eq_true z).1
        rcases z with z | z
        · omega
        · exact c z.2
    · rw [if_neg (fun z => ?_)]
      have z := (of_decide_eq_true z).1
      omega
  | succ k ih =>
    intro a R ha has h0 hp
    rw [show p_hh E s (k + 1 + 1) a R = p_fs (fun v => if p_ok2 E s a R v = true then p_hh E s (k + 1) (a + 1) (updN R a v) else none) 8 0 from rfl, show p_gg E (k + 1 + 1) a R = p_fs (fun v => if E (R (a - 1)) v = true then p_gg E (k + 1) (a + 1) (updN R a v) else none) (8 - (R 0 + 1)) (R 0 + 1) from rfl]
    rw [show 8 = (R 0 + 1) + (8 - (R 0 + 1)) by omega, p_fs_skip (R 0 + 1) (8 - (R 0 + 1)) 0 (fun u _ h2 => ?_), Nat.zero_add, show R 0 + 1 + (8 - (R 0 + 1)) - (R 0 + 1) = 8 - (R 0 + 1) by omega]
    · refine p_fs_cg _ _ (fun v h1 h2 => ?_)
      by_cases c : E (R (a - 1)) v = true
      · rw [if_pos c]
        have e0 : updN R a v 0 = R 0 := updN_ne (by omega)
        by_cases c2 : ∀ i, i < a → 1 ≤ i → R i ≠ v
        · rw [if_pos (show p_ok2 E s a R v = true from decide_eq_true ⟨Or.inr ⟨by omega, c⟩, c2, Or.inl (by omega)⟩)]
          refine ih (a + 1) (updN R a v) (by omega) (by omega) (by rw [e0]; exact h0) (fun j z1 z2 => ?_)
          rw [e0]
          by_cases e : j = a
          · subst e
            rw [updN_eq, updN_ne (by omega)]
            exact ⟨by omega, by omega, c⟩
          · rw [updN_ne e, updN_ne (by omega)]
            exact hp j z1 (by omega)
        · rw [if_neg (fun z => c2 (of_decide_eq_true z).2.1)]
          cases hx : p_gg E (k + 1) (a + 1) (updN R a v) with
          | none => rfl
          | some W =>
            exfalso
            obtain ⟨g1, g2, g3⟩ := p_gg_some (k + 1) (a + 1) (updN R a v) (by omega) hx
            refine c2 (fun i h3 h4 e => ?_)
            have w0 : W 0 = R 0 := (g1 0 (by omega)).trans e0
            have wa : W a = v := (g1 a (by omega)).trans (updN_eq R a v)
            have wj : ∀ j, j < a → W j = R j := fun j hj => (g1 j (by omega)).trans (updN_ne (by omega))
            refine hN (s - (a - i)) (fun j => if j ≤ i then W j else W (j + (a - i))) (by omega) (by omega) ⟨?_, fun j z1 z2 => ?_, ?_⟩
            · show (if 0 ≤ i then W 0 else W (0 + (a - i))) + (s - (a - i)) ≤ 8
              rw [if_pos (by omega), w0]
              omega
            · show (if 0 ≤ i then W 0 else W (0 + (a - i))) < (if j ≤ i then W j else W (j + (a - i))) ∧ (if j ≤ i then W j else W (j + (a - i))) < 8 ∧ E (if j - 1 ≤ i then W (j - 1) else W (j - 1 + (a - i))) (if j ≤ i then W j else W (j + (a - i))) = true
              rw [if_pos (by omega), w0]
              by_cases e1 : j ≤ i
              · rw [if_pos e1, if_pos (by omega), wj j (by omega), wj (j - 1) (by omega)]
                exact hp j z1 (by omega)
              · rw [if_neg e1]
                have q := g2 (j + (a - i)) (by omega) (by omega)
                rw [e0] at q
                refine ⟨q.1, q.2.1, ?_⟩
                by_cases e2 : j - 1 ≤ i
                · rw [if_pos e2, show j - 1 = i by omega, wj i h3, e, ← wa]
                  have q3 := q.2.2
                  rw [show j + (a - i) - 1 = a by omega] at q3
                  exact q3
                · rw [if_neg e2, show j - 1 + (a - i) = j + (a - i) - 1 by omega]
                  exact q.2.2
            · show E (if s - (a - i) - 1 ≤ i then W (s - (a - i) - 1) else W (s - (a - i) - 1 + (a - i))) (if 0 ≤ i then W 0 else W (0 + (a - i))) = true
              rw [if_neg (by omega), if_pos (by omega), show s - (a - i) - 1 + (a - i) = a + 1 + (k + 1) - 1 by omega]
              exact g3
      · rw [if_neg c, if_neg (fun z => ?_)]
        have z := (of_decide_eq_true z).1
        rcases z with z | z
        · omega
        · exact c z.2
    · rw [if_neg (fun z => ?_)]
      have z := (of_decide_eq_true z).1
      omega
def p_cn (q : Nat → Bool) : Nat → Nat
  | 0 => 0
  | n + 1 => p_cn q n + (if q n = true then 1 else 0)
theorem p_cn_x {q : Nat → Bool} {x : Nat} (h : ∀ v, q v = true → x < v) : ∀ n, p_cn q n ≤ n - (x + 1)
  | 0 => by
    unfold p_cn
    omega
  | n + 1 => by
    have := p_cn_x h n
    unfold p_cn
    by_cases c : q n = true
    · have := h n c
      rw [if_pos c]
      omega
    · rw [if_neg c]
      omega
theorem p_cn_mo {q q' : Nat → Bool} (h : ∀ v, q' v = true → q v = true) : ∀ n, p_cn q' n ≤ p_cn q n
  | 0 => Nat.le_refl 0
  | n + 1 => by
    have := p_cn_mo h n
    unfold p_cn
    by_cases c : q' n = true
    · rw [if_pos c, if_pos (h n c)]
      omega
    · rw [if_neg c]
      omega
theorem p_cn_st {q q' : Nat → Bool} (h : ∀ v, q' v = true → q v = true) {u : Nat} (h1 : q u = true) (h2 : ¬ q' u = true) : ∀ n, u < n → p_cn q' n + 1 ≤ p_cn q n
  | 0, hu => absurd hu (by omega)
  | n + 1, hu => by
    unfold p_cn
    by_cases e : u = n
    · subst e
      have := p_cn_mo h u
      rw [if_pos h1, if_neg h2]
      omega
    · have := p_cn_st h h1 h2 n (by omega)
      by_cases c : q' n = true
      · rw [if_pos c, if_pos (h n c)]
        omega
      · rw [if_neg c]
        omega
def p_av (R : Nat → Nat) (a v : Nat) : Bool := decide (R 0 < v ∧ ∀ i, i < a → 1 ≤ i → R i ≠ v)
theorem p_hh_few {E : Nat → Nat → Bool} {s : Nat} {W : Nat → Nat} : ∀ k a R, 1 ≤ a → p_hh E s k a R = some W → k ≤ p_cn (p_av R a) 8
  | 0, _, _, _, _ => Nat.zero_le _
  | k + 1, a, R, ha, h => by
    unfold p_hh at h
    obtain ⟨v, h1, h2, h3⟩ := p_fs_some _ _ h
    by_cases c : p_ok2 E s a R v = true
    · rw [if_pos c] at h3
      have g := p_hh_few k (a + 1) (updN R a v) (by omega) h3
      have z := of_decide_eq_true c
      have z1 : R 0 < v := by
        rcases z.1 with q | q
        · omega
        · exact q.1
      have e0 : updN R a v 0 = R 0 := updN_ne (by omega)
      have := p_cn_st (q := p_av R a) (q' := p_av (updN R a v) (a + 1)) (u := v) (fun u hu => ?_) (decide_eq_true ⟨z1, z.2.1⟩) (fun hu => ?_) 8 (by omega)
      · omega
      · have hu := of_decide_eq_true hu
        rw [e0] at hu
        refine decide_eq_true ⟨hu.1, fun i h4 h5 e => hu.2 i (by omega) h5 ?_⟩
        rw [updN_ne (by omega)]
        exact e
      · have hu := of_decide_eq_true hu
        exact hu.2 a (by omega) ha (updN_eq R a v)
    · rw [if_neg c] at h3
      cases h3
/-- a ring of s parties -/
def p_ss (E : Nat → Nat → Bool) (s : Nat) : Option (Nat → Nat) := p_fs (fun v => p_gg E (s - 1) 1 (updN (fun _ => 0) 0 v)) (9 - s) 0
theorem p_ss_hh {E : Nat → Nat → Bool} {s : Nat} (h2 : 2 ≤ s) (h8 : s ≤ 8) (hN : p_NS E s) : p_hh E s s 0 (fun _ => 0) = p_ss E s := by
  obtain ⟨k, rfl⟩ : ∃ k, s = k + 2 := ⟨s - 2, by omega⟩
  unfold p_ss
  show p_fs (fun v => if p_ok2 E (k + 2) 0 (fun _ => 0) v = true then p_hh E (k + 2) (k + 1) 1 (updN (fun _ => 0) 0 v) else none) 8 0 = p_fs (fun v => p_gg E (k + 1) 1 (updN (fun _ => 0) 0 v)) (9 - (k + 2)) 0
  have ok : ∀ v, p_ok2 E (k + 2) 0 (fun _ => 0) v = true := fun v => decide_eq_true ⟨Or.inl rfl, fun i h => absurd h (by omega), Or.inl (by omega)⟩
  rw [show 8 = (9 - (k + 2)) + (k + 1) by omega, p_fs_cut (9 - (k + 2)) (k + 1) 0 (fun u h3 h4 => ?_)]
  · refine p_fs_cg _ _ (fun v h3 h4 => ?_)
    rw [if_pos (ok v)]
    refine p_hg h8 hN k 1 _ (Nat.le_refl 1) (by omega) ?_ (fun j z1 z2 => absurd z2 (by omega))
    rw [updN_eq]
    omega
  · rw [if_pos (ok u)]
    cases hx : p_hh E (k + 2) (k + 1) 1 (updN (fun _ => 0) 0 u) with
    | none => rfl
    | some W =>
      have g := p_hh_few (k + 1) 1 _ (Nat.le_refl 1) hx
      have g2 := p_cn_x (q := p_av (updN (fun _ => 0) 0 u) 1) (x := u) (fun v hv => by
        have := (of_decide_eq_true hv).1
        rw [updN_eq] at this
        exact this) 8
      omega
theorem p_NS_s {E : Nat → Nat → Bool} {s : Nat} (h2 : 2 ≤ s) (hN : p_NS E s) (h : p_ss E s = none) : p_NS E (s + 1) := by
  intro t W ht h1 hW
  by_cases e : t = s
  · subst e
    obtain ⟨w1, w2, w3⟩ := hW
    have hn := p_fs_none _ _ h (W 0) (by omega) (by omega)
    refine p_gg_none (W := W) (t - 1) 1 _ (Nat.le_refl 1) hn (fun j hj => ?_) (fun j z1 z2 => ?_) ?_
    · rw [show j = 0 by omega, updN_eq]
    · rw [updN_eq]
      exact w2 j z1 (by omega)
    · rw [show 1 + (t - 1) - 1 = t - 1 by omega]
      exact w3
  · exact hN t W ht (by omega) hW
def p_rs (E : Nat → Nat → Bool) : Nat → Nat → Option (Nat × (Nat → Nat))
  | 0, _ => none
  | r + 1, s => match p_ss E s with
    | some W => some (s, W)
    | none => p_rs E r (s + 1)
theorem p_ss_rg {E : Nat → Nat → Bool} {s : Nat} {W : Nat → Nat} (h2 : 2 ≤ s) (h : p_ss E s = some W) : ∀ j, j < s → W j < 8 := by
  obtain ⟨v, h3, h4, h5⟩ := p_fs_some _ _ h
  obtain ⟨g1, g2, g3⟩ := p_gg_some (s - 1) 1 _ (Nat.le_refl 1) h5
  intro j hj
  by_cases e : j = 0
  · rw [e, g1 0 (by omega), updN_eq]
    omega
  · exact (g2 j (by omega) (by omega)).2.1
