/-! setting off: what is taken off which debt -/
theorem p_hh_ds {E : Nat → Nat → Bool} {s : Nat} {W : Nat → Nat} : ∀ k a R, p_hh E s k a R = some W → (∀ j, j < a → W j = R j) ∧ ∀ j, a ≤ j → j < a + k → (1 ≤ j → W 0 < W j) ∧ ∀ i, 1 ≤ i → i < j → W i ≠ W j
  | 0, a, R, h => by
    injection h with h
    subst h
    exact ⟨fun _ _ => rfl, fun j h1 h2 => absurd h2 (by omega)⟩
  | k + 1, a, R, h => by
    have h : p_fs (fun v => if p_ok2 E s a R v = true then p_hh E s k (a + 1) (updN R a v) else none) 8 0 = some W := h
    obtain ⟨v, h1, h2, h3⟩ := p_fs_some _ _ h
    by_cases c : p_ok2 E s a R v = true
    · have h3 : (if p_ok2 E s a R v = true then p_hh E s k (a + 1) (updN R a v) else none) = some W := h3
      rw [if_pos c] at h3
      obtain ⟨g1, g2⟩ := p_hh_ds k (a + 1) (updN R a v) h3
      have z := of_decide_eq_true c
      have ea : W a = v := (g1 a (by omega)).trans (updN_eq R a v)
      have el : ∀ j, j < a → W j = R j := fun j hj => (g1 j (by omega)).trans (updN_ne (by omega))
      refine ⟨el, fun j y1 y2 => ?_⟩
      by_cases e : j = a
      · subst e
        refine ⟨fun q => ?_, fun i q1 q2 q3 => ?_⟩
        · rw [ea, el 0 (by omega)]
          rcases z.1 with y | y
          · omega
          · exact y.1
        · rw [ea, el i q2] at q3
          exact z.2.1 i q2 q1 q3
      · exact g2 j (by omega) (by omega)
    · have h3 : (if p_ok2 E s a R v = true then p_hh E s k (a + 1) (updN R a v) else none) = some W := h3
      rw [if_neg c] at h3
      cases h3
theorem p_rs_ds {E : Nat → Nat → Bool} {s : Nat} {W : Nat → Nat} : ∀ r t, 2 ≤ t → t + r ≤ 9 → p_NS E t → p_rs E r t = some (s, W) → ∀ i j, i < j → j < s → W i ≠ W j
  | 0, _, _, _, _, h => by cases h
  | r + 1, t, h2, h9, hN, h => by
    rw [p_rs_s] at h
    cases hx : p_ss E t with
    | some W2 =>
      rw [hx] at h
      injection h with h
      injection h with e1 e2
      subst e1 e2
      rw [← p_ss_hh h2 (by omega) hN] at hx
      have g := (p_hh_ds _ _ _ hx).2
      intro i j h1 h3
      have gj := g j (Nat.zero_le j) (by omega)
      rcases Nat.eq_zero_or_pos i with z | z
      · rw [z]
        have := gj.1 (by omega)
        omega
      · exact gj.2 i z h1
    | none =>
      rw [hx] at h
      exact p_rs_ds r (t + 1) (by omega) (by omega) (p_NS_s h2 hN hx) h
theorem p_rs_E {E : Nat → Nat → Bool} {s : Nat} {W : Nat → Nat} : ∀ r t, 2 ≤ t → p_rs E r t = some (s, W) → ∀ i, i < s → E (W i) (W (p_nx s i)) = true
  | 0, _, _, h => by cases h
  | r + 1, t, h2, h => by
    rw [p_rs_s] at h
    cases hx : p_ss E t with
    | some W2 =>
      rw [hx] at h
      injection h with h
      injection h with e1 e2
      subst e1 e2
      obtain ⟨v, h3, h4, h5⟩ := p_fs_some _ _ hx
      obtain ⟨g1, g2, g3⟩ := p_gg_some (t - 1) 1 _ (Nat.le_refl 1) h5
      intro i hi
      unfold p_nx
      by_cases c : i + 1 < t
      · rw [if_pos c]
        have := (g2 (i + 1) (by omega) (by omega)).2.2
        rw [show i + 1 - 1 = i by omega] at this
        exact this
      · rw [if_neg c]
        rw [show 1 + (t - 1) - 1 = i by omega] at g3
        exact g3
    | none =>
      rw [hx] at h
      exact p_rs_E r (t + 1) (by omega) h
theorem p_mn_b {ow : Nat → Nat → Int32} {s : Nat} {W : Nat → Nat} {B : Nat} (hB : B < 2 ^ 31) (h : ∀ i, i < s → ∃ v, 0 < v ∧ v ≤ B ∧ ow (W i) (W (p_nx s i)) = nI v) (h0 : 0 < s) : ∃ A, 0 < A ∧ A ≤ B ∧ p_mn ow s W s = nI A := by
  have key : ∀ n, 0 < n → n ≤ s → ∃ A, 0 < A ∧ A ≤ B ∧ p_mn ow s W n = nI A := by
    intro n
    induction n with
    | zero => exact fun z => absurd z (by omega)
    | succ n ih =>
      intro _ hn
      obtain ⟨v, v0, vB, ev⟩ := h n (by omega)
      by_cases c : n = 0
      · subst c
        exact ⟨v, v0, vB, by rw [p_mn_1]; exact ev⟩
      · obtain ⟨A, A0, AB, eA⟩ := ih (by omega) (by omega)
        show ∃ A, 0 < A ∧ A ≤ B ∧ (if ow (W n) (W (p_nx s n)) < p_mn ow s W n then ow (W n) (W (p_nx s n)) else p_mn ow s W n) = nI A
        split
        · exact ⟨v, v0, vB, ev⟩
        · exact ⟨A, A0, AB, eA⟩
  exact key s h0 (Nat.le_refl s)
theorem p_os_b {P : Nat} {w : Nat → Nat} {b : Bool} {m : q_M} (hR : q_R0 P w b m) (a c : Nat) : ∀ n, ∃ v, v ≤ 2000000 * n ∧ p_os m P a c n = nI v
  | 0 => ⟨0, by omega, rfl⟩
  | n + 1 => by
    obtain ⟨v, hv, e⟩ := p_os_b hR a c n
    unfold p_os
    by_cases k : 0 < p_dv m P n ∧ m 103 (p_ob m P n) = nI a ∧ m 103 n = nI c
    · obtain ⟨u, hu, _, eu⟩ := p_dv_b hR n k.1
      rw [if_pos k, e, eu, nI_add]
      exact ⟨v + u, by omega, rfl⟩
    · rw [if_neg k]
      exact ⟨v, by omega, e⟩
/-- of an edge's debts: what is left to take off, which are taken, their rests -/
def p_lft (is : Nat → Nat → Bool) (vN : Nat → Nat) (A i : Nat) : Nat → Nat
  | 0 => A
  | n + 1 => if is i n = true then p_lft is vN A i n - vN n else p_lft is vN A i n
def p_sel (is : Nat → Nat → Bool) (vN : Nat → Nat) (A i n : Nat) : Bool := is i n && decide (0 < p_lft is vN A i n)
def p_rst (is : Nat → Nat → Bool) (vN : Nat → Nat) (A i n : Nat) : Nat := vN n - p_lft is vN A i n
def p_qq (is : Nat → Nat → Bool) (vN : Nat → Nat) (A i n : Nat) : Bool := p_sel is vN A i n && decide (¬ p_rst is vN A i n = 0)
def p_bs (q : Nat → Nat → Bool) (P : Nat) : Nat → Nat
  | 0 => 0
  | i + 1 => p_bs q P i + p_cn (q i) P
def p_an (q : Nat → Nat → Bool) : Nat → Nat → Bool
  | 0, _ => false
  | k + 1, n => p_an q k n || q k n
theorem p_an_t {q : Nat → Nat → Bool} {n : Nat} : ∀ k, p_an q k n = true → ∃ i, i < k ∧ q i n = true
  | 0, h => by cases h
  | k + 1, h => by
    unfold p_an at h
    rw [Bool.or_eq_true] at h
    rcases h with z | z
    · obtain ⟨i, hi, e⟩ := p_an_t k z
      exact ⟨i, by omega, e⟩
    · exact ⟨k, by omega, z⟩
theorem p_an_i {q : Nat → Nat → Bool} {n i : Nat} (h : q i n = true) : ∀ k, i < k → p_an q k n = true
  | 0, hi => absurd hi (by omega)
  | k + 1, hi => by
    unfold p_an
    by_cases e : i = k
    · rw [← e, h, Bool.or_true]
    · rw [p_an_i h k (by omega), Bool.true_or]
theorem p_cn_cg {q q' : Nat → Bool} : ∀ n, (∀ v, v < n → q v = q' v) → p_cn q n = p_cn q' n
  | 0, _ => rfl
  | n + 1, h => by
    unfold p_cn
    rw [h n (by omega), p_cn_cg n (fun v hv => h v (by omega))]
theorem p_cn_or {q q' : Nat → Bool} : ∀ n, (∀ v, v < n → ¬ (q v = true ∧ q' v = true)) → p_cn (fun v => q v || q' v) n = p_cn q n + p_cn q' n
  | 0, _ => rfl
  | n + 1, h => by
    have := p_cn_or n (fun v hv => h v (by omega))
    have hn := h n (by omega)
    show p_cn (fun v => q v || q' v) n + (if (q n || q' n) = true then 1 else 0) = (p_cn q n + (if q n = true then 1 else 0)) + (p_cn q' n + (if q' n = true then 1 else 0))
    rw [this]
    cases h1 : q n with
    | true =>
      cases h2 : q' n with
      | true => exact absurd ⟨h1, h2⟩ hn
      | false =>
        rw [Bool.or_false, if_pos rfl, if_neg (by decide)]
        omega
    | false =>
      rw [Bool.false_or, if_neg (show ¬ false = true by decide)]
      omega
theorem p_an_cn {q : Nat → Nat → Bool} {P : Nat} : ∀ k, (∀ i j n, i < j → j < k → n < P → ¬ (q i n = true ∧ q j n = true)) → p_cn (p_an q k) P = p_bs q P k
  | 0, _ => by
    have : ∀ n, p_cn (p_an q 0) n = 0 := by
      intro n
      induction n with
      | zero => rfl
      | succ n ih =>
        show p_cn (p_an q 0) n + 0 = 0
        rw [ih]
    exact this P
  | k + 1, h => by
    show p_cn (fun n => p_an q k n || q k n) P = p_bs q P k + p_cn (q k) P
    rw [p_cn_or P (fun v hv z => ?_), p_an_cn k (fun i j n h1 h2 h3 => h i j n h1 (by omega) h3)]
    obtain ⟨i, hi, e⟩ := p_an_t k z.1
    exact h i k v hi (by omega) hv ⟨e, z.2⟩
theorem p_cn_mn (q : Nat → Bool) : ∀ r n, p_cn q n ≤ p_cn q (n + r)
  | 0, n => Nat.le_refl _
  | r + 1, n => by
    have := p_cn_mn q r n
    show _ ≤ p_cn q (n + r) + _
    omega
theorem p_bs_mn (q : Nat → Nat → Bool) (P : Nat) : ∀ r i, p_bs q P i ≤ p_bs q P (i + r)
  | 0, i => Nat.le_refl _
  | r + 1, i => by
    have := p_bs_mn q P r i
    show _ ≤ p_bs q P (i + r) + _
    omega
/-- the deeds in their order, one after the other -/
def p_row {α : Type} (f : Nat → Nat → α → α) (q : Nat → Nat → Bool) (i : Nat) : Nat → α → α
  | 0, z => z
  | n + 1, z => if q i n = true then f i n (p_row f q i n z) else p_row f q i n z
def p_ev {α : Type} (f : Nat → Nat → α → α) (q : Nat → Nat → Bool) (P : Nat) : Nat → α → α
  | 0, z => z
  | i + 1, z => p_row f q i P (p_ev f q P i z)
def p_dd (m : q_M) (w : Nat → Nat) (P : Nat) (is : Nat → Nat → Bool) (vN : Nat → Nat) (A i n : Nat) (z : q_M × Nat) : q_M × Nat := (p_de z.1 w z.2 n (p_ob m P n) (p_rst is vN A i n) (m 104 (p_ob m P n)), p_dP z.2 (p_rst is vN A i n))
/-- the state before stock n of edge i -/
def p_st9 (m : q_M) (w : Nat → Nat) (P : Nat) (is : Nat → Nat → Bool) (vN : Nat → Nat) (A i n : Nat) : q_M × Nat := p_row (p_dd m w P is vN A) (p_sel is vN A) i n (p_ev (p_dd m w P is vN A) (p_sel is vN A) P i (m, P))
theorem p_st9_s (m : q_M) (w : Nat → Nat) (P : Nat) (is : Nat → Nat → Bool) (vN : Nat → Nat) (A i n : Nat) : p_st9 m w P is vN A i (n + 1) = if p_sel is vN A i n = true then p_dd m w P is vN A i n (p_st9 m w P is vN A i n) else p_st9 m w P is vN A i n := rfl
theorem p_st9_e (m : q_M) (w : Nat → Nat) (P : Nat) (is : Nat → Nat → Bool) (vN : Nat → Nat) (A i : Nat) : p_st9 m w P is vN A (i + 1) 0 = p_st9 m w P is vN A i P := rfl
theorem p_de_k {V : q_M} {w : Nat → Nat} {Q s f v : Nat} {du : Int32} (hQ : v = 0 ∨ Q + 2 ≤ 30) (hs : s < 30) (hf : f < 30) {t : Nat} (ht : t < Q) : p_de V w Q s f v du 103 t = V 103 t ∧ p_de V w Q s f v du 104 t = V 104 t := by
  have a1 : p_V1 V s f 103 = V 103 := by
    unfold p_V1 p_bu
    rw [q_up_ne (by omega), q_up_ne (by omega), q_up_ne (by omega), q_up_ne (by omega)]
  have a2 : p_V1 V s f 104 = V 104 := by
    unfold p_V1 p_bu
    rw [q_up_ne (by omega), q_up_ne (by omega), q_up_ne (by omega), q_up_ne (by omega)]
  unfold p_de
  by_cases c : v = 0
  · rw [if_pos c, a1, a2]
    exact ⟨rfl, rfl⟩
  · rw [if_neg c, p_ad_103 (by omega), p_ad_104 (by omega)]
    unfold p_V2
    rw [p_ad_103 (by omega), p_ad_104 (by omega), a1, a2]
    unfold upd
    rw [if_neg (by omega), if_neg (by omega), if_neg (by omega), if_neg (by omega)]
    exact ⟨rfl, rfl⟩
/-- what holds at each such state -/
def p_in9 (m : q_M) (w : Nat → Nat) (b : Bool) (P : Nat) (K : Nat) (z : q_M × Nat) : Prop := q_R0 z.2 w b z.1 ∧ q_r13 z.1 ∧ z.2 = P + 2 * K ∧ ∀ t, t < P → z.1 103 t = m 103 t ∧ z.1 104 t = m 104 t
theorem p_in9_s {m : q_M} {w : Nat → Nat} {b : Bool} {P : Nat} (hR : q_R0 P w b m) {is : Nat → Nat → Bool} {vN : Nat → Nat} {A s i n : Nat} (hn : n < P) (his : is i n = true → 0 < p_dv m P n) (hroom : P + 2 * p_bs (p_qq is vN A) P s ≤ 30) (hi : i < s) (z : q_M × Nat) (h : p_in9 m w b P (p_bs (p_qq is vN A) P i + p_cn (p_qq is vN A i) n) z) : p_in9 m w b P (p_bs (p_qq is vN A) P i + p_cn (p_qq is vN A i) (n + 1)) (if p_sel is vN A i n = true then p_dd m w P is vN A i n z else z) := by
  obtain ⟨h1, h2, h3, h4⟩ := h
  have hP := hR.1.1
  have eK : p_cn (p_qq is vN A i) (n + 1) = p_cn (p_qq is vN A i) n + (if p_qq is vN A i n = true then 1 else 0) := rfl
  have hle : p_bs (p_qq is vN A) P i + p_cn (p_qq is vN A i) (n + 1) ≤ p_bs (p_qq is vN A) P s := by
    have q1 := p_cn_mn (p_qq is vN A i) (P - (n + 1)) (n + 1)
    rw [show n + 1 + (P - (n + 1)) = P by omega] at q1
    have q2 := p_bs_mn (p_qq is vN A) P (s - (i + 1)) (i + 1)
    rw [show i + 1 + (s - (i + 1)) = s by omega] at q2
    have q3 : p_bs (p_qq is vN A) P (i + 1) = p_bs (p_qq is vN A) P i + p_cn (p_qq is vN A i) P := rfl
    omega
  by_cases c : p_sel is vN A i n = true
  · rw [if_pos c]
    have hd : 0 < p_dv m P n := by
      unfold p_sel at c
      rw [Bool.and_eq_true] at c
      exact his c.1
    have ho := p_ob_sp m P n hP (p_dv_pos hd).2.1
    have hdue := (hR.2.2.2.2.2.2.2.2.1 _ ho.1).2.2.2.2.1
    have hfit : p_rst is vN A i n = 0 ∨ z.2 + 2 ≤ 30 := by
      by_cases r0 : p_rst is vN A i n = 0
      · exact Or.inl r0
      · have : p_qq is vN A i n = true := by
          unfold p_qq
          rw [c, decide_eq_true r0]
          rfl
        rw [eK, if_pos this] at hle
        exact Or.inr (by omega)
    have hRR := p_de_RR (s := n) (f := p_ob m P n) (v := p_rst is vN A i n) (du := m 104 (p_ob m P n)) h1 h2 (by omega) (by omega) hfit hdue
    refine ⟨hRR.1, hRR.2, ?_, fun t ht => ?_⟩
    · show p_dP z.2 (p_rst is vN A i n) = _
      unfold p_dP
      rw [eK]
      by_cases r0 : p_rst is vN A i n = 0
      · rw [if_pos r0, if_neg]
        · omega
        · unfold p_qq
          rw [decide_eq_false (fun y => y r0), Bool.and_false]
          decide
      · rw [if_neg r0, if_pos]
        · omega
        · unfold p_qq
          rw [c, decide_eq_true r0]
          rfl
    · have := p_de_k (V := z.1) (w := w) (Q := z.2) (s := n) (f := p_ob m P n) (v := p_rst is vN A i n) (du := m 104 (p_ob m P n)) hfit (by omega) (by omega) (t := t) (by omega)
      exact ⟨this.1.trans (h4 t ht).1, this.2.trans (h4 t ht).2⟩
  · rw [if_neg c, eK, if_neg]
    · exact ⟨h1, h2, by omega, h4⟩
    · unfold p_qq
      rw [eq_false_of_ne_true c, Bool.false_and]
      decide
theorem p_in9_a {m : q_M} {w : Nat → Nat} {b : Bool} {P : Nat} (hR : q_R0 P w b m) (h13 : q_r13 m) {is : Nat → Nat → Bool} {vN : Nat → Nat} {A s : Nat} (his : ∀ i n, i < s → n < P → is i n = true → 0 < p_dv m P n) (hroom : P + 2 * p_bs (p_qq is vN A) P s ≤ 30) : ∀ i, i ≤ s → ∀ n, n ≤ P → (i = s → n = 0) → p_in9 m w b P (p_bs (p_qq is vN A) P i + p_cn (p_qq is vN A i) n) (p_st9 m w P is vN A i n) := by
  intro i
  induction i with
  | zero =>
    intro hi n
    induction n with
    | zero => exact fun _ _ => ⟨hR, h13, rfl, fun t _ => ⟨rfl, rfl⟩⟩
    | succ n ih =>
      intro hn hs
      rw [p_st9_s]
      exact p_in9_s hR (by omega) (his 0 n (by omega) (by omega)) hroom (by omega) _ (ih (by omega) (fun z => absurd (hs z) (by omega)))
  | succ i ihi =>
    intro hi n
    induction n with
    | zero =>
      intro _ _
      rw [p_st9_e]
      exact ihi (by omega) P (Nat.le_refl P) (fun z => absurd z (by omega))
    | succ n ih =>
      intro hn hs
      rw [p_st9_s]
      exact p_in9_s hR (by omega) (his (i + 1) n (by omega) (by omega)) hroom (by omega) _ (ih (by omega) (fun z => absurd (hs z) (by omega)))
