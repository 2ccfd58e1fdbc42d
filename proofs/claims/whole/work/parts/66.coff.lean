/-! setting off: the class -/
theorem t_isDebt0 (d : Nat) (b : Bool) (y : q_M) (n : Nat) (x1 x2 : Int32) (hn : n < 30) (h : y 19 n = 0) (Q : Option Int32 → q_H → Prop) (hQ : Q (some 0) (q_hp b y)) : q_Wm d 90 [vr 0, vi (nI n), vi x1, vi x2] (q_hp b y) Q := by
  unfold q_Wm
  iterate 4 (refine q_wst rfl rfl rfl ?_)
  refine q_wrd n rfl hn rfl (q_at19 b) (by decide) ?_
  iterate 1 (refine q_wst rfl rfl rfl ?_)
  refine q_wif (fun _ => ?_) (fun c => absurd (show y 19 n ≤ 0 by rw [h]; decide) c)
  iterate 1 (refine q_wst rfl rfl rfl ?_)
  exact q_wrt rfl rfl rfl hQ
theorem t_isDebt (d : Nat) (b : Bool) (m y : q_M) (P n : Nat) (x1 x2 : Int32) (hP : P ≤ 30) (hn : n < P) (h19 : y 19 n = p_dv m P n) (h9 : m 100 n = 1 → y 9 n = p_O m P n) (hh : ∀ q, q < P → y (37 + 2 * q) 4 = m 103 q) (Q : Option Int32 → q_H → Prop) (ht : 0 < p_dv m P n → m 103 (p_ob m P n) = x1 → m 103 n = x2 → Q (some 1) (q_hp b y)) (hf : ¬ (0 < p_dv m P n ∧ m 103 (p_ob m P n) = x1 ∧ m 103 n = x2) → Q (some 0) (q_hp b y)) : q_Wm (d + 1) 90 [vr 0, vi (nI n), vi x1, vi x2] (q_hp b y) Q := by
  have hn3 : n < 30 := by omega
  unfold q_Wm
  iterate 4 (refine q_wst rfl rfl rfl ?_)
  refine q_wrd n rfl hn3 rfl (q_at19 b) (by decide) ?_
  iterate 1 (refine q_wst rfl rfl rfl ?_)
  refine q_wif (fun c => ?_) (fun c => ?_)
  · have c : y 19 n ≤ 0 := c
    rw [h19] at c
    iterate 1 (refine q_wst rfl rfl rfl ?_)
    exact q_wrt rfl rfl rfl (hf (fun z => Int32.not_lt.mpr c z.1))
  · have c : ¬ y 19 n ≤ 0 := c
    rw [h19] at c
    have c := Int32.not_le.mp c
    have hpp := p_dv_pos c
    have ho := p_ob_sp m P n hP hpp.2.1
    iterate 2 (refine q_wst rfl rfl rfl ?_)
    refine q_wcl rfl rfl rfl ?_
    refine t_debtorOf _ b y n (p_ob m P n) hn3 (by omega) ((h9 hpp.1).trans ho.2) _ ?_
    iterate 2 (refine q_wst rfl rfl rfl ?_)
    refine q_wif (fun c2 => ?_) (fun c2 => ?_)
    · have c2 : ¬ y (37 + 2 * p_ob m P n) 4 = x1 := c2
      rw [hh _ ho.1] at c2
      iterate 1 (refine q_wst rfl rfl rfl ?_)
      exact q_wrt rfl rfl rfl (hf (fun z => c2 z.2.1))
    · have c2 : y (37 + 2 * p_ob m P n) 4 = x1 := Decidable.not_not.mp c2
      rw [hh _ ho.1] at c2
      iterate 3 (refine q_wst rfl rfl rfl ?_)
      refine q_wpc n rfl hn3 rfl ?_
      refine q_wgi rfl (q_atP b n hn3) rfl rfl ?_
      iterate 2 (refine q_wst rfl rfl rfl ?_)
      refine q_wif (fun c3 => ?_) (fun c3 => ?_)
      · have c3 : ¬ y (37 + 2 * n) 4 = x2 := c3
        rw [hh _ hn] at c3
        iterate 1 (refine q_wst rfl rfl rfl ?_)
        exact q_wrt rfl rfl rfl (hf (fun z => c3 z.2.2))
      · have c3 : y (37 + 2 * n) 4 = x2 := Decidable.not_not.mp c3
        rw [hh _ hn] at c3
        iterate 2 (refine q_wst rfl rfl rfl ?_)
        exact q_wrt rfl rfl rfl (ht c c2 c3)
/-- what is known of a ring's debts -/
def p_hy (m : q_M) (P s : Nat) (W : Nat → Nat) (is : Nat → Nat → Bool) (vN : Nat → Nat) (A : Nat) : Prop := (∀ n, n < P → p_dv m P n = nI (vN n) ∧ vN n ≤ 2000000) ∧ (∀ i n, i < s → n < P → (is i n = true ↔ 0 < p_dv m P n ∧ m 103 (p_ob m P n) = nI (W i) ∧ m 103 n = nI (W (p_nx s i)))) ∧ A ≤ 60000000
theorem p_lft_le (is : Nat → Nat → Bool) (vN : Nat → Nat) (A i : Nat) : ∀ n, p_lft is vN A i n ≤ A
  | 0 => Nat.le_refl _
  | n + 1 => by
    have := p_lft_le is vN A i n
    unfold p_lft
    split <;> omega
theorem t_plan (d : Nat) (b : Bool) (m y : q_M) (P s i : Nat) (W : Nat → Nat) (is : Nat → Nat → Bool) (vN : Nat → Nat) (A : Nat) (hP : P ≤ 30) (hi : i < s) (hy : p_hy m P s W is vN A) (h1 : y 0 1 = nI P) (hA : y 30 2 = nI A) (h19 : ∀ n, n < P → y 19 n = p_dv m P n) (h9 : ∀ n, n < P → m 100 n = 1 → y 9 n = p_O m P n) (hh : ∀ q, q < P → y (37 + 2 * q) 4 = m 103 q) (Q : Option Int32 → q_H → Prop) (hQ : ∀ y', (∀ c, c ≠ 20 → y' c = y c) → (∀ n, n < P → y' 20 n = if is i n = true then nI (p_rst is vN A i n) else y 20 n) → (∀ n, P ≤ n → y' 20 n = y 20 n) → Q none (q_hp b y')) : q_Wm (d + 2) 89 [vr 0, vi (nI (W i)), vi (nI (W (p_nx s i)))] (q_hp b y) Q := by
  obtain ⟨y1, y2, y3⟩ := hy
  have loop : ∀ (r n : Nat) (zl zn : Int32) (u : q_M) (o5 : Option q_V), n + r = P → zl = nI (p_lft is vN A i n) → zn = nI n → (∀ c, c ≠ 20 → u c = y c) → (∀ t, t < n → u 20 t = if is i t = true then nI (p_rst is vN A i t) else y 20 t) → (∀ t, n ≤ t → u 20 t = y 20 t) → q_WP none (d + 2) 89 11 [some (vr 0), some (vi (nI (W i))), some (vi (nI (W (p_nx s i)))), some (vi zl), some (vi zn), o5] [] (q_hp b u) Q := by
    intro r
    induction r with
    | zero =>
      intro n zl zn u o5 hn hl hz hc hd ho
      have hn : n = P := by omega
      subst hn hz
      iterate 4 (refine q_wst rfl rfl rfl ?_)
      refine q_wif (fun _ => ?_) (fun c => absurd (show u 0 1 ≤ nI n by rw [hc 0 (by decide), h1]; exact nI_le (Nat.le_refl n) (by omega)) c)
      exact q_wrv rfl rfl rfl (hQ u hc hd ho)
    | succ r ih =>
      intro n zl zn u o5 hn hl hz hc hd ho
      subst hz hl
      have hnP : n < P := by omega
      have hn3 : n < 30 := by omega
      have hle := p_lft_le is vN A i n
      have hv := y1 n hnP
      have hisn := y2 i n hi hnP
      iterate 4 (refine q_wst rfl rfl rfl ?_)
      refine q_wif (fun c => absurd (show u 0 1 ≤ nI n from c) (by rw [hc 0 (by decide), h1]; exact nI_ge (by omega) (by omega))) (fun _ => ?_)
      iterate 4 (refine q_wst rfl rfl rfl ?_)
      refine q_wcl rfl rfl rfl ?_
      refine t_isDebt _ b m u P n _ _ hP hnP (by rw [hc 19 (by decide)]; exact h19 n hnP) (fun z => by rw [hc 9 (by decide)]; exact h9 n hnP z) (fun q hq => by rw [hc _ (by omega)]; exact hh q hq) _ (fun g1 g2 g3 => ?_) (fun g => ?_)
      · have his : is i n = true := hisn.mpr ⟨g1, g2, g3⟩
        have e19 : u 19 n = nI (vN n) := by rw [hc 19 (by decide), h19 n hnP]; exact hv.1
        iterate 1 (refine q_wst rfl rfl rfl ?_)
        refine q_wif (fun c => absurd (show (1 : Int32) = 0 from c) (by decide)) (fun _ => ?_)
        iterate 5 (refine q_wst rfl rfl rfl ?_)
        refine q_wrd n rfl hn3 rfl (q_at19 b) (by decide) ?_
        show q_WP none (d + 2) 89 42 [some (vr 0), some (vi (nI (W i))), some (vi (nI (W (p_nx s i)))), some (vi (nI (p_lft is vN A i n))), some (vi (nI n)), o5] [vi (u 19 n), vi (nI (p_lft is vN A i n))] (q_hp b u) Q
        rw [e19]
        have emin : (if nI (vN n) < nI (p_lft is vN A i n) then nI (vN n) else nI (p_lft is vN A i n)) = nI (min (p_lft is vN A i n) (vN n)) := by
          by_cases c : nI (vN n) < nI (p_lft is vN A i n)
          · rw [if_pos c]
            have c := (nI_ltI (by omega) (by omega)).mp c
            rw [Nat.min_eq_right (by omega)]
          · rw [if_neg c]
            rw [nI_ltI (by omega) (by omega)] at c
            rw [Nat.min_eq_left (by omega)]
        iterate 1 (refine q_wst rfl rfl rfl ?_)
        show q_WP none (d + 2) 89 45 [some (vr 0), some (vi (nI (W i))), some (vi (nI (W (p_nx s i)))), some (vi (nI (p_lft is vN A i n))), some (vi (nI n)), o5] [vi (if nI (vN n) < nI (p_lft is vN A i n) then nI (vN n) else nI (p_lft is vN A i n))] (q_hp b u) Q
        rw [emin]
        iterate 9 (refine q_wst rfl rfl rfl ?_)
        refine q_wrd n rfl hn3 rfl (q_at19 b) (by decide) ?_
        iterate 2 (refine q_wst rfl rfl rfl ?_)
        refine q_wwr n rfl hn3 rfl (q_at20 b) (by decide) ?_
        iterate 6 (refine q_wst rfl rfl rfl ?_)
        have eu : ∀ t, q_up u 20 n (u 19 n - nI (min (p_lft is vN A i n) (vN n))) 20 t = if t = n then nI (p_rst is vN A i n) else u 20 t := fun t => by
          rw [q_up_eq, e19, pk_sub (Nat.min_le_right _ _)]
          unfold upd p_rst
          by_cases e : t = n
          · rw [if_pos e, if_pos e]
            congr 1
            omega
          · rw [if_neg e, if_neg e]
        refine ih (n + 1) _ _ (q_up u 20 n (u 19 n - nI (min (p_lft is vN A i n) (vN n)))) _ (by omega) ?_ (nI_1 n) (fun c z => (q_up_ne z).trans (hc c z)) (fun t ht => ?_) (fun t ht => ?_)
        · show nI (p_lft is vN A i n) - nI (min (p_lft is vN A i n) (vN n)) = nI (if is i n = true then p_lft is vN A i n - vN n else p_lft is vN A i n)
          rw [if_pos his, pk_sub (Nat.min_le_left _ _)]
          congr 1
          omega
        · rw [eu]
          by_cases e : t = n
          · rw [if_pos e, e, if_pos his]
          · rw [if_neg e]
            exact hd t (by omega)
        · rw [eu, if_neg (by omega)]
          exact ho t (by omega)
      · have his : ¬ is i n = true := fun z => g (hisn.mp z)
        iterate 1 (refine q_wst rfl rfl rfl ?_)
        refine q_wif (fun _ => ?_) (fun c => absurd rfl c)
        iterate 2 (refine q_wst rfl rfl rfl ?_)
        refine ih (n + 1) _ _ u _ (by omega) ?_ (nI_1 n) hc (fun t ht => ?_) (fun t ht => ho t (by omega))
        · show _ = nI (if is i n = true then p_lft is vN A i n - vN n else p_lft is vN A i n)
          rw [if_neg his]
        · by_cases e : t = n
          · rw [e, if_neg his]
            exact ho n (Nat.le_refl n)
          · exact hd t (by omega)
  unfold q_Wm
  iterate 6 (refine q_wst rfl rfl rfl ?_)
  show q_WP none (d + 2) 89 11 [some (vr 0), some (vi (nI (W i))), some (vi (nI (W (p_nx s i)))), some (vi (y 30 2)), some (vi 0), none] [] (q_hp b y) Q
  rw [hA]
  exact loop P 0 _ _ y _ (by omega) rfl rfl (fun _ _ => rfl) (fun t ht => absurd ht (by omega)) (fun _ _ => rfl)
/-- cut down: a rest that is neither nothing nor all -/
def p_ctd (rN vN : Nat → Nat) (n : Nat) : Bool := decide (0 < rN n ∧ rN n < vN n)
theorem t_isCut (d : Nat) (b : Bool) (y : q_M) (n r v : Nat) (hn : n < 30) (h20 : y 20 n = nI r) (h19 : y 19 n = nI v) (hr : r < 2 ^ 31) (hv : v < 2 ^ 31) (Q : Option Int32 → q_H → Prop) (ht : 0 < r → r < v → Q (some 1) (q_hp b y)) (hf : ¬ (0 < r ∧ r < v) → Q (some 0) (q_hp b y)) : q_Wm d 16 [vr 18, vi (nI n)] (q_hp b y) Q := by
  unfold q_Wm
  iterate 3 (refine q_wst rfl rfl rfl ?_)
  refine q_wrd n rfl hn rfl (q_at20 b) (by decide) ?_
  iterate 1 (refine q_wst rfl rfl rfl ?_)
  refine q_wif (fun c => ?_) (fun c => ?_)
  · have c : y 20 n ≤ nI 0 := c
    rw [h20, nI_leI hr (by omega)] at c
    iterate 1 (refine q_wst rfl rfl rfl ?_)
    exact q_wrt rfl rfl rfl (hf (by omega))
  · have c : ¬ y 20 n ≤ nI 0 := c
    rw [h20, nI_leI hr (by omega)] at c
    iterate 3 (refine q_wst rfl rfl rfl ?_)
    refine q_wrd n rfl hn rfl (q_at20 b) (by decide) ?_
    iterate 3 (refine q_wst rfl rfl rfl ?_)
    refine q_wrd n rfl hn rfl (q_at19 b) (by decide) ?_
    iterate 1 (refine q_wst rfl rfl rfl ?_)
    refine q_wif (fun c2 => ?_) (fun c2 => ?_)
    · have c2 : y 19 n ≤ y 20 n := c2
      rw [h20, h19, nI_leI hv hr] at c2
      iterate 1 (refine q_wst rfl rfl rfl ?_)
      exact q_wrt rfl rfl rfl (hf (by omega))
    · have c2 : ¬ y 19 n ≤ y 20 n := c2
      rw [h20, h19, nI_leI hv hr] at c2
      iterate 2 (refine q_wst rfl rfl rfl ?_)
      exact q_wrt rfl rfl rfl (ht (by omega) (by omega))
theorem t_allC (d : Nat) (b : Bool) (y : q_M) (P : Nat) (w rN vN : Nat → Nat) (hP : P ≤ 30) (h1 : y 0 1 = nI P) (h20 : ∀ n, n < P → y 20 n = nI (rN n) ∧ rN n ≤ 100000000) (h19 : ∀ n, n < P → y 19 n = nI (vN n) ∧ vN n ≤ 100000000) (hw : ∀ i, 1 ≤ i → i ≤ 5 → y 3 i = nI (w i) ∧ 0 < w i ∧ w i ≤ 100000) (Q : Option Int32 → q_H → Prop) (hb : (∃ n, n < P ∧ 0 < rN n ∧ rN n < vN n ∧ ¬ q_ko w (rN n) = true) → ∀ y', (∀ c, c ≠ 4 → y' c = y c) → Q (some 0) (q_hp b y')) (hk : (∀ n, n < P → 0 < rN n → rN n < vN n → q_ko w (rN n) = true) → ∀ y', (∀ c, c ≠ 4 → y' c = y c) → Q (some 1) (q_hp b y')) : q_Wm (d + 2) 91 [vr 0] (q_hp b y) Q := by
  have loop : ∀ (r n : Nat) (z : Int32) (u : q_M), n + r = P → z = nI n → (∀ c, c ≠ 4 → u c = y c) → (∀ t, t < n → 0 < rN t → rN t < vN t → q_ko w (rN t) = true) → q_WP none (d + 2) 91 2 [some (vr 0), some (vi z)] [] (q_hp b u) Q := by
    intro r
    induction r with
    | zero =>
      intro n z u hn hz hc hall
      have hn : n = P := by omega
      subst hn hz
      iterate 4 (refine q_wst rfl rfl rfl ?_)
      refine q_wif (fun _ => ?_) (fun c => absurd (show u 0 1 ≤ nI n by rw [hc 0 (by decide), h1]; exact nI_le (Nat.le_refl n) (by omega)) c)
      iterate 1 (refine q_wst rfl rfl rfl ?_)
      exact q_wrt rfl rfl rfl (hk hall u hc)
    | succ r ih =>
      intro n z u hn hz hc hall
      subst hz
      have hn3 : n < 30 := by omega
      have k20 := h20 n (by omega)
      have k19 := h19 n (by omega)
      iterate 4 (refine q_wst rfl rfl rfl ?_)
      refine q_wif (fun c => absurd (show u 0 1 ≤ nI n from c) (by rw [hc 0 (by decide), h1]; exact nI_ge (by omega) (by omega))) (fun _ => ?_)
      iterate 3 (refine q_wst rfl rfl rfl ?_)
      refine q_wcl rfl rfl rfl ?_
      refine t_isCut _ b u n (rN n) (vN n) hn3 (by rw [hc 20 (by decide)]; exact k20.1) (by rw [hc 19 (by decide)]; exact k19.1) (by omega) (by omega) _ (fun g1 g2 => ?_) (fun g => ?_)
      · iterate 1 (refine q_wst rfl rfl rfl ?_)
        refine q_wif (fun c => absurd (show (1 : Int32) = 0 from c) (by decide)) (fun _ => ?_)
        iterate 6 (refine q_wst rfl rfl rfl ?_)
        refine q_wrd n rfl hn3 rfl (q_at20 b) (by decide) ?_
        refine q_wcl rfl rfl rfl ?_
        show q_Wm (d + 1) 21 [vr 2, vi (u 20 n)] (q_hp b u) _
        rw [hc 20 (by decide), k20.1]
        refine t_compose _ b u w (rN n) k20.2 (fun i z1 z2 => by rw [hc 3 (by decide)]; exact hw i z1 z2) _ (fun u2 m1 m2 => ?_)
        have hc2 : ∀ c, c ≠ 4 → u2 c = y c := fun c z => (m1 c z).trans (hc c z)
        by_cases ko : q_ko w (rN n) = true
        · rw [if_pos ko]
          iterate 1 (refine q_wst rfl rfl rfl ?_)
          refine q_wif (fun _ => ?_) (fun c => absurd (show ¬ (1 : Int32) = 0 by decide) c)
          iterate 2 (refine q_wst rfl rfl rfl ?_)
          refine ih (n + 1) _ u2 (by omega) (nI_1 n) hc2 (fun t ht => ?_)
          by_cases e : t = n
          · rw [e]
            exact fun _ _ => ko
          · exact hall t (by omega)
        · rw [if_neg ko]
          iterate 1 (refine q_wst rfl rfl rfl ?_)
          refine q_wif (fun c => absurd rfl c) (fun _ => ?_)
          iterate 1 (refine q_wst rfl rfl rfl ?_)
          exact q_wrt rfl rfl rfl (hb ⟨n, by omega, g1, g2, ko⟩ u2 hc2)
      · iterate 1 (refine q_wst rfl rfl rfl ?_)
        refine q_wif (fun _ => ?_) (fun c => absurd rfl c)
        iterate 2 (refine q_wst rfl rfl rfl ?_)
        refine ih (n + 1) _ u (by omega) (nI_1 n) hc (fun t ht => ?_)
        by_cases e : t = n
        · rw [e]
          exact fun z1 z2 => absurd ⟨z1, z2⟩ g
        · exact hall t (by omega)
  unfold q_Wm
  iterate 2 (refine q_wst rfl rfl rfl ?_)
  exact loop P 0 _ y (by omega) rfl (fun _ _ => rfl) (fun t ht => absurd ht (by omega))
theorem t_cutD (d : Nat) (b : Bool) (y : q_M) (rN vN : Nat → Nat) (h20 : ∀ n, n < 30 → y 20 n = nI (rN n) ∧ rN n ≤ 100000000) (h19 : ∀ n, n < 30 → y 19 n = nI (vN n) ∧ vN n ≤ 100000000) (Q : Option Int32 → q_H → Prop) (hQ : Q (some (nI (p_cn (p_ctd rN vN) 30))) (q_hp b y)) : q_Wm (d + 1) 17 [vr 18] (q_hp b y) Q := by
  have loop : ∀ (r n : Nat) (z k : Int32), n + r = 30 → z = nI n → k = nI (p_cn (p_ctd rN vN) n) → q_WP none (d + 1) 17 4 [some (vr 18), some (vi k), some (vi z)] [] (q_hp b y) Q := by
    intro r
    induction r with
    | zero =>
      intro n z k hn hz hk
      have hn : n = 30 := by omega
      subst hn hz hk
      iterate 3 (refine q_wst rfl rfl rfl ?_)
      iterate 1 (refine q_wst rfl rfl rfl ?_)
      exact q_wrt rfl rfl rfl hQ
    | succ r ih =>
      intro n z k hn hz hk
      subst hz hk
      have hn3 : n < 30 := by omega
      have k20 := h20 n hn3
      have k19 := h19 n hn3
      have es : p_cn (p_ctd rN vN) (n + 1) = p_cn (p_ctd rN vN) n + (if p_ctd rN vN n = true then 1 else 0) := rfl
      iterate 3 (refine q_wst rfl rfl rfl ?_)
      refine q_wif (fun c => absurd c (nI_ge (b := 30) hn3 (by omega))) (fun _ => ?_)
      iterate 2 (refine q_wst rfl rfl rfl ?_)
      refine q_wcl rfl rfl rfl ?_
      refine t_isCut _ b y n (rN n) (vN n) hn3 k20.1 k19.1 (by omega) (by omega) _ (fun g1 g2 => ?_) (fun g => ?_)
      · iterate 1 (refine q_wst rfl rfl rfl ?_)
        refine q_wif (fun c => absurd (show (1 : Int32) = 0 from c) (by decide)) (fun _ => ?_)
        iterate 3 (refine q_wst rfl rfl rfl ?_)
        refine ih (n + 1) _ _ (by omega) (nI_1 n) ?_
        rw [es, if_pos (show p_ctd rN vN n = true from decide_eq_true ⟨g1, g2⟩)]
        exact nI_1 _
      · iterate 1 (refine q_wst rfl rfl rfl ?_)
        refine q_wif (fun _ => ?_) (fun c => absurd rfl c)
        iterate 2 (refine q_wst rfl rfl rfl ?_)
        refine ih (n + 1) _ _ (by omega) (nI_1 n) ?_
        rw [es, if_neg (show ¬ p_ctd rN vN n = true from fun z => g (of_decide_eq_true z)), Nat.add_zero]
  unfold q_Wm
  iterate 4 (refine q_wst rfl rfl rfl ?_)
  exact loop 30 0 _ _ rfl rfl rfl
theorem t_takeOff (d : Nat) (b : Bool) (m y : q_M) (P s i : Nat) (W w : Nat → Nat) (is : Nat → Nat → Bool) (vN : Nat → Nat) (A : Nat) (hP : P ≤ 30) (hi : i < s) (hy : p_hy m P s W is vN A) (hin : ∀ n, n ≤ P → p_in9 m w b P (p_bs (p_qq is vN A) P i + p_cn (p_qq is vN A i) n) (p_st9 m w P is vN A i n)) (hroom : ∀ n, n < P → p_qq is vN A i n = true → P + 2 * (p_bs (p_qq is vN A) P i + p_cn (p_qq is vN A i) n) + 2 ≤ 30) (hko : ∀ n, n < P → p_qq is vN A i n = true → q_ko w (p_rst is vN A i n) = true) (hcy : p_cy (p_st9 m w P is vN A i 0).1 y) (h19 : ∀ n, n < 30 → y 19 n = if n < P then p_dv m P n else 0) (h20 : ∀ n, n < P → is i n = true → y 20 n = nI (p_rst is vN A i n)) (h9 : ∀ n, n < P → m 100 n = 1 → y 9 n = p_O m P n) (Q : Option Int32 → q_H → Prop) (hQ : ∀ y', (∀ c, 5 ≤ c ∧ c ≤ 31 → y' c = y c) → (∀ c, 97 ≤ c → y' c = y c) → p_cy (p_st9 m w P is vN A i P).1 y' → Q none (q_hp b y')) : q_Wm (d + 4) 92 [vr 0, vi (nI (W i)), vi (nI (W (p_nx s i)))] (q_hp b y) Q := by
  obtain ⟨y1, y2, y3⟩ := hy
  have tail : ∀ (r n N : Nat) (z : Int32) (u : q_M), n + r = N → P ≤ n → N ≤ 30 → z = nI n → u 0 1 = nI N → (∀ c, 5 ≤ c ∧ c ≤ 31 → u c = y c) → Q none (q_hp b u) → q_WP none (d + 4) 92 2 [some (vr 0), some (vi (nI (W i))), some (vi (nI (W (p_nx s i)))), some (vi z)] [] (q_hp b u) Q := by
    intro r
    induction r with
    | zero =>
      intro n N z u hn hPn hN hz h1 hc hQu
      have hn : n = N := by omega
      subst hn hz
      iterate 4 (refine q_wst rfl rfl rfl ?_)
      refine q_wif (fun _ => ?_) (fun c => absurd (show u 0 1 ≤ nI n by rw [h1]; exact nI_le (Nat.le_refl n) (by omega)) c)
      exact q_wrv rfl rfl rfl hQu
    | succ r ih =>
      intro n N z u hn hPn hN hz h1 hc hQu
      subst hz
      iterate 4 (refine q_wst rfl rfl rfl ?_)
      refine q_wif (fun c => absurd (show u 0 1 ≤ nI n from c) (by rw [h1]; exact nI_ge (by omega) (by omega))) (fun _ => ?_)
      iterate 4 (refine q_wst rfl rfl rfl ?_)
      refine q_wcl rfl rfl rfl ?_
      refine t_isDebt0 _ b u n _ _ (by omega) (by rw [hc 19 (by omega), h19 n (by omega), if_neg (by omega)]) _ ?_
      iterate 1 (refine q_wst rfl rfl rfl ?_)
      refine q_wif (fun _ => ?_) (fun c => absurd rfl c)
      iterate 2 (refine q_wst rfl rfl rfl ?_)
      exact ih (n + 1) N _ u (by omega) (by omega) hN (nI_1 n) h1 hc hQu
  have loop : ∀ (r n : Nat) (z : Int32) (u : q_M), n + r = P → z = nI n → (∀ c, 5 ≤ c ∧ c ≤ 31 → u c = y c) → (∀ c, 97 ≤ c → u c = y c) → p_cy (p_st9 m w P is vN A i n).1 u → q_WP none (d + 4) 92 2 [some (vr 0), some (vi (nI (W i))), some (vi (nI (W (p_nx s i)))), some (vi z)] [] (q_hp b u) Q := by
    intro r
    induction r with
    | zero =>
      intro n z u hn hz hc hm hcy
      have hn : n = P := by omega
      subst hn
      obtain ⟨g1, g2, g3, g4⟩ := hin n (Nat.le_refl n)
      refine tail ((p_st9 m w n is vN A i n).2 - n) n (p_st9 m w n is vN A i n).2 z u (by omega) (Nat.le_refl n) g1.1.1 hz ?_ hc (hQ u hc hm hcy)
      rw [hcy.1 0 (by omega) rfl (fun p hp => by omega)]
      exact g1.1.2.1
    | succ r ih =>
      intro n z u hn hz hc hm hcy
      subst hz
      have hnP : n < P := by omega
      have hn3 : n < 30 := by omega
      obtain ⟨g1, g2, g3, g4⟩ := hin n (by omega)
      have est := p_st9_s m w P is vN A i n
      have hv := y1 n hnP
      have hisn := y2 i n hi hnP
      have hu1 : u 0 1 = nI (p_st9 m w P is vN A i n).2 := by
        rw [hcy.1 0 (by omega) rfl (fun p hp => by omega)]
        exact g1.1.2.1
      have hQ30 := g1.1.1
      have hhu : ∀ q, q < P → u (37 + 2 * q) 4 = m 103 q := fun q hq => by
        rw [hcy.1 _ (by omega) (q_mcP (by omega)).1 (fun p hp => by omega), (g1.2.2.2.2.2.2.2.1 q (by omega)).2.2.2.1]
        exact (g4 q hq).1
      have e19 : u 19 n = p_dv m P n := by rw [hc 19 (by omega), h19 n hn3, if_pos hnP]
      iterate 4 (refine q_wst rfl rfl rfl ?_)
      refine q_wif (fun c => absurd (show u 0 1 ≤ nI n from c) (by rw [hu1]; exact nI_ge (by omega) (by omega))) (fun _ => ?_)
      iterate 4 (refine q_wst rfl rfl rfl ?_)
      refine q_wcl rfl rfl rfl ?_
      refine t_isDebt _ b m u P n _ _ hP hnP e19 (fun z => by rw [hc 9 (by omega)]; exact h9 n hnP z) hhu _ (fun k1 k2 k3 => ?_) (fun k => ?_)
      · have his : is i n = true := hisn.mpr ⟨k1, k2, k3⟩
        have hpp := p_dv_pos k1
        have ho := p_ob_sp m P n hP hpp.2.1
        have hf3 : p_ob m P n < 30 := by omega
        have e20 : u 20 n = nI (p_rst is vN A i n) := by rw [hc 20 (by omega)]; exact h20 n hnP his
        have e9 : u 9 n = nI (p_ob m P n) := by rw [hc 9 (by omega), h9 n hnP hpp.1]; exact ho.2
        have hv0 : 0 < vN n := by
          rcases Nat.eq_zero_or_pos (vN n) with z | z
          · rw [hv.1, z] at k1
            exact absurd k1 (by decide)
          · exact z
        have hr8 : p_rst is vN A i n ≤ vN n := Nat.sub_le _ _
        iterate 1 (refine q_wst rfl rfl rfl ?_)
        refine q_wif (fun c => absurd (show (1 : Int32) = 0 from c) (by decide)) (fun _ => ?_)
        iterate 4 (refine q_wst rfl rfl rfl ?_)
        refine q_wrd n rfl hn3 rfl (q_at20 b) (by decide) ?_
        iterate 4 (refine q_wst rfl rfl rfl ?_)
        refine q_wrd n rfl hn3 rfl (q_at19 b) (by decide) ?_
        iterate 1 (refine q_wst rfl rfl rfl ?_)
        refine q_wif (fun c => ?_) (fun c => ?_)
        · have c : u 19 n ≤ u 20 n := c
          rw [e19, hv.1, e20, nI_leI (by omega) (by omega)] at c
          have hsel : ¬ p_sel is vN A i n = true := by
            unfold p_sel
            rw [his, Bool.true_and]
            intro z
            have z := of_decide_eq_true z
            unfold p_rst at c
            omega
          rw [if_neg hsel] at est
          iterate 2 (refine q_wst rfl rfl rfl ?_)
          exact ih (n + 1) _ u (by omega) (nI_1 n) hc hm (by rw [est]; exact hcy)
        · have c : ¬ u 19 n ≤ u 20 n := c
          rw [e19, hv.1, e20, nI_leI (by omega) (by omega)] at c
          have hsel : p_sel is vN A i n = true := by
            unfold p_sel
            rw [his, Bool.true_and]
            refine decide_eq_true ?_
            unfold p_rst at c
            omega
          rw [if_pos hsel] at est
          iterate 6 (refine q_wst rfl rfl rfl ?_)
          refine q_wrd n rfl hn3 rfl (q_at20 b) (by decide) ?_
          iterate 6 (refine q_wst rfl rfl rfl ?_)
          refine q_wrd n rfl hn3 rfl (q_at9 b) (by decide) ?_
          refine q_wpc (p_ob m P n) e9 hf3 rfl ?_
          refine q_wgi rfl (q_atP b _ hf3) rfl rfl ?_
          refine q_wcl rfl rfl rfl ?_
          have edue : u (37 + 2 * p_ob m P n) 5 = m 104 (p_ob m P n) := by
            rw [hcy.1 _ (by omega) (q_mcP (by omega)).1 (fun p hp => by omega), (g1.2.2.2.2.2.2.2.1 _ hf3).2.2.2.2.1 (by omega)]
            exact (g4 _ ho.1).2
          show q_Wm (d + 3) 93 [vr 0, vi (nI n), vi (u 20 n), vi (u (37 + 2 * p_ob m P n) 5)] (q_hp b u) _
          rw [e20, edue]
          refine t_leave d b (p_st9 m w P is vN A i n).1 u w (p_st9 m w P is vN A i n).2 n (p_ob m P n) (p_rst is vN A i n) (m 104 (p_ob m P n)) g1 hcy (by omega) (by omega) e9 (by omega) ?_ _ (fun u2 q1 q2 q3 => ?_)
          · by_cases r0 : p_rst is vN A i n = 0
            · exact Or.inl r0
            · have hqq : p_qq is vN A i n = true := by
                unfold p_qq
                rw [hsel, decide_eq_true r0]
                rfl
              have := hroom n hnP hqq
              exact Or.inr ⟨hko n hnP hqq, by omega⟩
          · iterate 2 (refine q_wst rfl rfl rfl ?_)
            refine ih (n + 1) _ u2 (by omega) (nI_1 n) (fun c z => (q1 c z).trans (hc c z)) (fun c z => (q2 c z).trans (hm c z)) ?_
            rw [est]
            exact q3
      · have his : ¬ is i n = true := fun z => k (hisn.mp z)
        have hsel : ¬ p_sel is vN A i n = true := by
          unfold p_sel
          rw [eq_false_of_ne_true his, Bool.false_and]
          decide
        rw [if_neg hsel] at est
        iterate 1 (refine q_wst rfl rfl rfl ?_)
        refine q_wif (fun _ => ?_) (fun c => absurd rfl c)
        iterate 2 (refine q_wst rfl rfl rfl ?_)
        exact ih (n + 1) _ u (by omega) (nI_1 n) hc hm (by rw [est]; exact hcy)
  unfold q_Wm
  iterate 2 (refine q_wst rfl rfl rfl ?_)
  exact loop P 0 _ y (by omega) rfl (fun _ _ => rfl) (fun _ _ => rfl) hcy
