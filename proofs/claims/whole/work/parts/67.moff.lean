/-! setting off: the reference -/
theorem p_lft_0 {is : Nat → Nat → Bool} {vN : Nat → Nat} {A i n : Nat} (h : p_lft is vN A i n = 0) : ∀ r, p_lft is vN A i (n + r) = 0
  | 0 => h
  | r + 1 => by
    have := p_lft_0 h r
    show (if is i (n + r) = true then p_lft is vN A i (n + r) - vN (n + r) else p_lft is vN A i (n + r)) = 0
    split <;> omega
theorem p_sel_0 {is : Nat → Nat → Bool} {vN : Nat → Nat} {A i n : Nat} (h : p_lft is vN A i n = 0) (r : Nat) : p_sel is vN A i (n + r) = false := by
  unfold p_sel
  rw [p_lft_0 h r, decide_eq_false (by omega), Bool.and_false]
theorem p_cn_0 {is : Nat → Nat → Bool} {vN : Nat → Nat} {A i n : Nat} (h : p_lft is vN A i n = 0) : ∀ r, p_cn (p_sel is vN A i) (n + r) = p_cn (p_sel is vN A i) n
  | 0 => rfl
  | r + 1 => by
    show p_cn (p_sel is vN A i) (n + r) + (if p_sel is vN A i (n + r) = true then 1 else 0) = _
    rw [p_sel_0 h r, if_neg (by decide), p_cn_0 h r]
    rfl
theorem p_cn_s (q : Nat → Bool) (n : Nat) : p_cn q (n + 1) = p_cn q n + (if q n = true then 1 else 0) := rfl
theorem t_wdeeds (d : Nat) (b : Bool) (m x : q_M) (P s i J0 : Nat) (W : Nat → Nat) (is : Nat → Nat → Bool) (vN : Nat → Nat) (A : Nat) (hP : P ≤ 30) (hi : i < s) (hy : p_hy m P s W is vN A) (hJ : J0 + p_cn (p_sel is vN A i) P ≤ 30) (h4 : x 97 4 = nI P) (h36 : x 97 36 = nI J0) (h103 : x 103 = m 103) (h119 : ∀ n, n < P → x 119 n = p_O m P n) (h121 : ∀ n, n < P → x 121 n = p_dv m P n) (Q : Option Int32 → q_H → Prop) (hQ : ∀ x', (∀ c, c ≠ 97 → c ≠ 124 → c ≠ 125 → x' c = x c) → (∀ j, j ≠ 36 → x' 97 j = x 97 j) → x' 97 36 = nI (J0 + p_cn (p_sel is vN A i) P) → (∀ j, j < J0 → x' 124 j = x 124 j ∧ x' 125 j = x 125 j) → (∀ n, n < P → p_sel is vN A i n = true → x' 124 (J0 + p_cn (p_sel is vN A i) n) = nI n ∧ x' 125 (J0 + p_cn (p_sel is vN A i) n) = nI (p_rst is vN A i n)) → Q none (q_hp b x')) : q_Wm d 160 [vr 97, vi (nI (W i)), vi (nI (W (p_nx s i))), vi (nI A)] (q_hp b x) Q := by
  obtain ⟨y1, y2, y3⟩ := hy
  have loop : ∀ (r n : Nat) (zl zn : Int32) (u : q_M) (o6 : Option q_V), n + r = P → zl = nI (p_lft is vN A i n) → zn = nI n → (∀ c, c ≠ 97 → c ≠ 124 → c ≠ 125 → u c = x c) → (∀ j, j ≠ 36 → u 97 j = x 97 j) → u 97 36 = nI (J0 + p_cn (p_sel is vN A i) n) → (∀ j, j < J0 → u 124 j = x 124 j ∧ u 125 j = x 125 j) → (∀ t, t < n → p_sel is vN A i t = true → u 124 (J0 + p_cn (p_sel is vN A i) t) = nI t ∧ u 125 (J0 + p_cn (p_sel is vN A i) t) = nI (p_rst is vN A i t)) → q_WP none d 160 6 [some (vr 97), some (vi (nI (W i))), some (vi (nI (W (p_nx s i)))), some (vi (nI A)), some (vi zl), some (vi zn), o6] [] (q_hp b u) Q := by
    intro r
    induction r with
    | zero =>
      intro n zl zn u o6 hn hl hz hc h97 hk ho hd
      have hn : n = P := by omega
      subst hn hz
      iterate 4 (refine q_wst rfl rfl rfl ?_)
      refine q_wif (fun _ => ?_) (fun c => absurd (show u 97 4 ≤ nI n by rw [h97 4 (by decide), h4]; exact nI_le (Nat.le_refl n) (by omega)) c)
      exact q_wrv rfl rfl rfl (hQ u hc h97 hk ho hd)
    | succ r ih =>
      intro n zl zn u o6 hn hl hz hc h97 hk ho hd
      subst hz hl
      have hnP : n < P := by omega
      have hn3 : n < 30 := by omega
      have hle := p_lft_le is vN A i n
      have hv := y1 n hnP
      have hisn := y2 i n hi hnP
      have e121 : u 121 n = nI (vN n) := by rw [hc 121 (by decide) (by decide) (by decide), h121 n hnP]; exact hv.1
      iterate 4 (refine q_wst rfl rfl rfl ?_)
      refine q_wif (fun c => absurd (show u 97 4 ≤ nI n from c) (by rw [h97 4 (by decide), h4]; exact nI_ge (by omega) (by omega))) (fun _ => ?_)
      iterate 2 (refine q_wst rfl rfl rfl ?_)
      refine q_wif (fun c => ?_) (fun c => ?_)
      · have c : nI (p_lft is vN A i n) ≤ nI 0 := c
        rw [nI_leI (by omega) (by omega)] at c
        have c : p_lft is vN A i n = 0 := by omega
        have e1 := p_cn_0 c (P - n)
        rw [show n + (P - n) = P by omega] at e1
        refine q_wrv rfl rfl rfl (hQ u hc h97 (by rw [e1]; exact hk) ho (fun t ht hs => ?_))
        by_cases z : t < n
        · exact hd t z hs
        · have := p_sel_0 c (t - n)
          rw [show n + (t - n) = t by omega, hs] at this
          cases this
      · have c : ¬ nI (p_lft is vN A i n) ≤ nI 0 := c
        rw [nI_leI (by omega) (by omega)] at c
        have skip : ¬ is i n = true → ∀ (o6 : Option q_V), q_WP none d 160 6 [some (vr 97), some (vi (nI (W i))), some (vi (nI (W (p_nx s i)))), some (vi (nI A)), some (vi (nI (p_lft is vN A i n))), some (vi (nI n + 1)), o6] [] (q_hp b u) Q := by
          intro h o6
          have hsel : ¬ p_sel is vN A i n = true := by
            unfold p_sel
            rw [eq_false_of_ne_true h, Bool.false_and]
            decide
          refine ih (n + 1) _ _ u _ (by omega) ?_ (nI_1 n) hc h97 ?_ ho (fun t ht hs => ?_)
          · show _ = nI (if is i n = true then p_lft is vN A i n - vN n else p_lft is vN A i n)
            rw [if_neg h]
          · rw [p_cn_s, if_neg hsel]
            exact hk
          · by_cases e : t = n
            · rw [e] at hs
              exact absurd hs hsel
            · exact hd t (by omega) hs
        iterate 3 (refine q_wst rfl rfl rfl ?_)
        refine q_wrd n rfl hn3 rfl (q_at121 b) (by decide) ?_
        iterate 1 (refine q_wst rfl rfl rfl ?_)
        refine q_wif (fun c1 => ?_) (fun c1 => ?_)
        · have c1 : u 121 n ≤ 0 := c1
          rw [e121, ← hv.1] at c1
          iterate 2 (refine q_wst rfl rfl rfl ?_)
          exact skip (fun z => Int32.not_lt.mpr c1 (hisn.mp z).1) _
        · have c1 : ¬ u 121 n ≤ 0 := c1
          rw [e121, ← hv.1] at c1
          have c1 := Int32.not_le.mp c1
          have hpp := p_dv_pos c1
          have hob := p_ob_sp m P n hP hpp.2.1
          iterate 5 (refine q_wst rfl rfl rfl ?_)
          refine q_wrd n rfl hn3 rfl (q_at119 b) (by decide) ?_
          refine q_wrd (p_ob m P n) (by show u 119 n = _; rw [hc 119 (by decide) (by decide) (by decide), h119 n hnP]; exact hob.2) (show p_ob m P n < 30 by omega) rfl (q_at103 b) (by decide) ?_
          iterate 2 (refine q_wst rfl rfl rfl ?_)
          refine q_wif (fun c2 => ?_) (fun c2 => ?_)
          · have c2 : ¬ u 103 (p_ob m P n) = nI (W i) := c2
            rw [hc 103 (by decide) (by decide) (by decide), h103] at c2
            iterate 2 (refine q_wst rfl rfl rfl ?_)
            exact skip (fun z => c2 (hisn.mp z).2.1) _
          · have c2 : u 103 (p_ob m P n) = nI (W i) := Decidable.not_not.mp c2
            rw [hc 103 (by decide) (by decide) (by decide), h103] at c2
            iterate 3 (refine q_wst rfl rfl rfl ?_)
            refine q_wrd n rfl hn3 rfl (q_at103 b) (by decide) ?_
            iterate 2 (refine q_wst rfl rfl rfl ?_)
            refine q_wif (fun c3 => ?_) (fun c3 => ?_)
            · have c3 : ¬ u 103 n = nI (W (p_nx s i)) := c3
              rw [hc 103 (by decide) (by decide) (by decide), h103] at c3
              iterate 2 (refine q_wst rfl rfl rfl ?_)
              exact skip (fun z => c3 (hisn.mp z).2.2) _
            · have c3 : u 103 n = nI (W (p_nx s i)) := Decidable.not_not.mp c3
              rw [hc 103 (by decide) (by decide) (by decide), h103] at c3
              have his : is i n = true := hisn.mpr ⟨c1, c2, c3⟩
              have hsel : p_sel is vN A i n = true := by
                unfold p_sel
                rw [his, Bool.true_and]
                exact decide_eq_true (by omega)
              have hJn : J0 + p_cn (p_sel is vN A i) n < 30 := by
                have q1 := p_cn_mn (p_sel is vN A i) (P - (n + 1)) (n + 1)
                rw [show n + 1 + (P - (n + 1)) = P by omega, p_cn_s, if_pos hsel] at q1
                omega
              iterate 4 (refine q_wst rfl rfl rfl ?_)
              refine q_wrd n rfl hn3 rfl (q_at121 b) (by decide) ?_
              show q_WP none d 160 66 [some (vr 97), some (vi (nI (W i))), some (vi (nI (W (p_nx s i)))), some (vi (nI A)), some (vi (nI (p_lft is vN A i n))), some (vi (nI n)), o6] [vi (u 121 n), vi (nI (p_lft is vN A i n))] (q_hp b u) Q
              rw [e121]
              have emin : (if nI (vN n) < nI (p_lft is vN A i n) then nI (vN n) else nI (p_lft is vN A i n)) = nI (min (p_lft is vN A i n) (vN n)) := by
                by_cases k : nI (vN n) < nI (p_lft is vN A i n)
                · rw [if_pos k]
                  have k := (nI_ltI (by omega) (by omega)).mp k
                  rw [Nat.min_eq_right (by omega)]
                · rw [if_neg k]
                  rw [nI_ltI (by omega) (by omega)] at k
                  rw [Nat.min_eq_left (by omega)]
              iterate 1 (refine q_wst rfl rfl rfl ?_)
              show q_WP none d 160 69 [some (vr 97), some (vi (nI (W i))), some (vi (nI (W (p_nx s i)))), some (vi (nI A)), some (vi (nI (p_lft is vN A i n))), some (vi (nI n)), o6] [vi (if nI (vN n) < nI (p_lft is vN A i n) then nI (vN n) else nI (p_lft is vN A i n))] (q_hp b u) Q
              rw [emin]
              iterate 6 (refine q_wst rfl rfl rfl ?_)
              refine q_wwr (J0 + p_cn (p_sel is vN A i) n) hk hJn rfl (q_at124 b) (by decide) ?_
              iterate 7 (refine q_wst rfl rfl rfl ?_)
              refine q_wrd n rfl hn3 rfl (q_at121 b) (by decide) ?_
              iterate 2 (refine q_wst rfl rfl rfl ?_)
              refine q_wwr (J0 + p_cn (p_sel is vN A i) n) (by exact hk) hJn rfl (q_at125 b) (by decide) ?_
              iterate 6 (refine q_wst rfl rfl rfl ?_)
              iterate 6 (refine q_wst rfl rfl rfl ?_)
              obtain ⟨u2, hu2⟩ : ∃ u2, u2 = q_up (q_up (q_up u 124 (J0 + p_cn (p_sel is vN A i) n) (nI n)) 125 (J0 + p_cn (p_sel is vN A i) n) (u 121 n - nI (min (p_lft is vN A i n) (vN n)))) 97 36 (u 97 36 + 1) := ⟨_, rfl⟩
              have k124 : ∀ j, u2 124 j = if j = J0 + p_cn (p_sel is vN A i) n then nI n else u 124 j := fun j => by
                rw [hu2, q_up_ne (by decide), q_up_ne (by decide), q_up_eq]
                unfold upd
                rfl
              have k125 : ∀ j, u2 125 j = if j = J0 + p_cn (p_sel is vN A i) n then nI (p_rst is vN A i n) else u 125 j := fun j => by
                rw [hu2, q_up_ne (by decide), q_up_eq, q_up_ne (by decide), e121, pk_sub (Nat.min_le_right _ _)]
                unfold upd p_rst
                by_cases e : j = J0 + p_cn (p_sel is vN A i) n
                · rw [if_pos e, if_pos e]
                  congr 1
                  omega
                · rw [if_neg e, if_neg e]
              refine q_wh (h' := q_hp b u2) (by subst hu2; rfl) ?_
              refine ih (n + 1) _ _ u2 _ (by omega) ?_ (nI_1 n) (fun c z1 z2 z3 => ?_) (fun j hj => ?_) ?_ (fun j hj => ?_) (fun t ht hs => ?_)
              · show nI (p_lft is vN A i n) - nI (min (p_lft is vN A i n) (vN n)) = nI (if is i n = true then p_lft is vN A i n - vN n else p_lft is vN A i n)
                rw [if_pos his, pk_sub (Nat.min_le_left _ _)]
                congr 1
                omega
              · rw [hu2, q_up_ne z1, q_up_ne z3, q_up_ne z2]
                exact hc c z1 z2 z3
              · rw [hu2, q_up_eq, q_up_ne (by decide), q_up_ne (by decide)]
                unfold upd
                rw [if_neg hj]
                exact h97 j hj
              · rw [hu2, q_up_eq, p_cn_s, if_pos hsel, hk, nI_1]
                unfold upd
                rw [if_pos rfl]
                rfl
              · rw [k124, k125, if_neg (by omega), if_neg (by omega)]
                exact ho j hj
              · by_cases e : t = n
                · rw [e, k124, k125, if_pos rfl, if_pos rfl]
                  exact ⟨rfl, rfl⟩
                · have q1 := p_cn_mn (p_sel is vN A i) (n - (t + 1)) (t + 1)
                  rw [show t + 1 + (n - (t + 1)) = n by omega, p_cn_s, if_pos hs] at q1
                  rw [k124, k125, if_neg (by omega), if_neg (by omega)]
                  exact hd t (by omega) hs
  unfold q_Wm
  iterate 4 (refine q_wst rfl rfl rfl ?_)
  exact loop P 0 _ _ x _ (by omega) rfl rfl (fun _ _ _ _ => rfl) (fun _ _ => rfl) h36 (fun _ _ => ⟨rfl, rfl⟩) (fun t ht => absurd ht (by omega))
/-- the deeds as written down -/
def p_wr (is : Nat → Nat → Bool) (vN : Nat → Nat) (A P s : Nat) (x : q_M) : Prop := x 97 36 = nI (p_bs (p_sel is vN A) P s) ∧ ∀ i n, i < s → n < P → p_sel is vN A i n = true → x 124 (p_bs (p_sel is vN A) P i + p_cn (p_sel is vN A i) n) = nI n ∧ x 125 (p_bs (p_sel is vN A) P i + p_cn (p_sel is vN A i) n) = nI (p_rst is vN A i n)
theorem p_J_lt {is : Nat → Nat → Bool} {vN : Nat → Nat} {A P s i n : Nat} (hi : i < s) (hn : n < P) (h : p_sel is vN A i n = true) : p_bs (p_sel is vN A) P i + p_cn (p_sel is vN A i) n < p_bs (p_sel is vN A) P s := by
  have q1 := p_cn_mn (p_sel is vN A i) (P - (n + 1)) (n + 1)
  rw [show n + 1 + (P - (n + 1)) = P by omega, p_cn_s, if_pos h] at q1
  have q2 := p_bs_mn (p_sel is vN A) P (s - (i + 1)) (i + 1)
  rw [show i + 1 + (s - (i + 1)) = s by omega] at q2
  have q3 : p_bs (p_sel is vN A) P (i + 1) = p_bs (p_sel is vN A) P i + p_cn (p_sel is vN A i) P := rfl
  omega
theorem t_mref (d : Nat) (b : Bool) (x : q_M) (w : Nat → Nat) (P s : Nat) (is : Nat → Nat → Bool) (vN : Nat → Nat) (A : Nat) (hP : P ≤ 30) (h30 : p_bs (p_sel is vN A) P s ≤ 30) (hK30 : p_bs (p_qq is vN A) P s ≤ 30) (h4 : x 97 4 = nI P) (hwr : p_wr is vN A P s x) (hv : ∀ n, n < P → vN n ≤ 2000000) (hw : ∀ i, 1 ≤ i → i ≤ 5 → x 98 i = nI (w i) ∧ 0 < w i ∧ w i ≤ 100000) (Q : Option Int32 → q_H → Prop) (hb : (∃ i n, i < s ∧ n < P ∧ p_qq is vN A i n = true ∧ ¬ q_ko w (p_rst is vN A i n) = true) → ∀ x', (∀ c, c ≠ 117 → x' c = x c) → Q (some (-1000000003)) (q_hp b x')) (hk : (∀ i n, i < s → n < P → p_qq is vN A i n = true → q_ko w (p_rst is vN A i n) = true) → ∀ x', (∀ c, c ≠ 117 → x' c = x c) → Q (some (if P + 2 * p_bs (p_qq is vN A) P s ≤ 30 then 0 else -1000000004)) (q_hp b x')) : q_Wm (d + 1) 161 [vr 97] (q_hp b x) Q := by
  have outer : ∀ (r1 i : Nat) (x1 : q_M), i + r1 = s → (∀ c, c ≠ 117 → x1 c = x c) → (∀ i' n, i' < i → n < P → p_qq is vN A i' n = true → q_ko w (p_rst is vN A i' n) = true) → q_WP none (d + 1) 161 4 [some (vr 97), some (vi (nI (p_bs (p_qq is vN A) P i))), some (vi (nI (p_bs (p_sel is vN A) P i)))] [] (q_hp b x1) Q := by
    intro r1
    induction r1 with
    | zero =>
      intro i x1 hi hc hall
      have hi : i = s := by omega
      subst hi
      have hk := hk hall x1 hc
      iterate 4 (refine q_wst rfl rfl rfl ?_)
      refine q_wif (fun _ => ?_) (fun c => absurd (show x1 97 36 ≤ nI (p_bs (p_sel is vN A) P i) by rw [hc 97 (by decide), hwr.1]; exact nI_le (Nat.le_refl _) (by omega)) c)
      iterate 8 (refine q_wst rfl rfl rfl ?_)
      refine q_wif (fun c => ?_) (fun c => ?_)
      · have c : x1 97 4 + nI 2 * nI (p_bs (p_qq is vN A) P i) ≤ nI 30 := c
        rw [hc 97 (by decide), h4, pk_mul, nI_add, nI_leI (by omega) (by omega)] at c
        rw [if_pos c] at hk
        iterate 1 (refine q_wst rfl rfl rfl ?_)
        exact q_wrt rfl rfl rfl hk
      · have c : ¬ x1 97 4 + nI 2 * nI (p_bs (p_qq is vN A) P i) ≤ nI 30 := c
        rw [hc 97 (by decide), h4, pk_mul, nI_add, nI_leI (by omega) (by omega)] at c
        rw [if_neg c] at hk
        iterate 2 (refine q_wst rfl rfl rfl ?_)
        exact q_wrt rfl rfl rfl hk
    | succ r1 ih =>
      intro i x1 hi hc hall
      have his : i < s := by omega
      have inner : ∀ (r n : Nat) (zk zj : Int32) (x1 : q_M), n + r = P → zk = nI (p_bs (p_qq is vN A) P i + p_cn (p_qq is vN A i) n) → zj = nI (p_bs (p_sel is vN A) P i + p_cn (p_sel is vN A i) n) → (∀ c, c ≠ 117 → x1 c = x c) → (∀ t, t < n → p_qq is vN A i t = true → q_ko w (p_rst is vN A i t) = true) → q_WP none (d + 1) 161 4 [some (vr 97), some (vi zk), some (vi zj)] [] (q_hp b x1) Q := by
        intro r
        induction r with
        | zero =>
          intro n zk zj x1 hn hzk hzj hc hrow
          have hn : n = P := by omega
          subst hn hzk hzj
          refine ih (i + 1) x1 (by omega) hc (fun i' t z1 z2 z3 => ?_)
          by_cases e : i' = i
          · rw [e] at z3 ⊢
            exact hrow t z2 z3
          · exact hall i' t (by omega) z2 z3
        | succ r ihr =>
          intro n zk zj x1 hn hzk hzj hc hrow
          have hnP : n < P := by omega
          by_cases hsel : p_sel is vN A i n = true
          · have hJ := p_J_lt his hnP hsel
            have e125 : x1 125 (p_bs (p_sel is vN A) P i + p_cn (p_sel is vN A i) n) = nI (p_rst is vN A i n) := by
              rw [hc 125 (by decide)]
              exact (hwr.2 i n his hnP hsel).2
            have hr8 : p_rst is vN A i n ≤ vN n := Nat.sub_le _ _
            have hv8 := hv n hnP
            have nxj : zj + 1 = nI (p_bs (p_sel is vN A) P i + p_cn (p_sel is vN A i) (n + 1)) := by
              rw [hzj, nI_1, p_cn_s, if_pos hsel]
              rfl
            subst hzj
            iterate 4 (refine q_wst rfl rfl rfl ?_)
            refine q_wif (fun c => absurd (show x1 97 36 ≤ nI (p_bs (p_sel is vN A) P i + p_cn (p_sel is vN A i) n) from c) (by rw [hc 97 (by decide), hwr.1]; exact nI_ge hJ (by omega))) (fun _ => ?_)
            iterate 3 (refine q_wst rfl rfl rfl ?_)
            refine q_wrd (p_bs (p_sel is vN A) P i + p_cn (p_sel is vN A i) n) rfl (show _ < 30 by omega) rfl (q_at125 b) (by decide) ?_
            iterate 1 (refine q_wst rfl rfl rfl ?_)
            refine q_wif (fun c => ?_) (fun c => ?_)
            · have c : x1 125 (p_bs (p_sel is vN A) P i + p_cn (p_sel is vN A i) n) ≤ nI 0 := c
              rw [e125, nI_leI (by omega) (by omega)] at c
              have hqq : ¬ p_qq is vN A i n = true := by
                unfold p_qq
                rw [decide_eq_false (fun z => z (by omega)), Bool.and_false]
                decide
              iterate 2 (refine q_wst rfl rfl rfl ?_)
              refine ihr (n + 1) _ _ x1 (by omega) ?_ nxj hc (fun t ht hq => ?_)
              · rw [hzk, p_cn_s, if_neg hqq]
                rfl
              · by_cases e : t = n
                · rw [e] at hq
                  exact absurd hq hqq
                · exact hrow t (by omega) hq
            · have c : ¬ x1 125 (p_bs (p_sel is vN A) P i + p_cn (p_sel is vN A i) n) ≤ nI 0 := c
              rw [e125, nI_leI (by omega) (by omega)] at c
              have hqq : p_qq is vN A i n = true := by
                unfold p_qq
                rw [hsel, decide_eq_true (show ¬ p_rst is vN A i n = 0 by omega)]
                rfl
              iterate 5 (refine q_wst rfl rfl rfl ?_)
              refine q_wrd (p_bs (p_sel is vN A) P i + p_cn (p_sel is vN A i) n) rfl (show _ < 30 by omega) rfl (q_at125 b) (by decide) ?_
              refine q_wcl rfl rfl rfl ?_
              show q_Wm d 135 [vr 97, vi (x1 125 (p_bs (p_sel is vN A) P i + p_cn (p_sel is vN A i) n))] (q_hp b x1) _
              rw [e125]
              refine t_mcompose _ b x1 w (p_rst is vN A i n) (by omega) (fun i h1 h2 => by rw [hc 98 (by decide)]; exact hw i h1 h2) _ (fun x2 g1 g2 => ?_)
              have hc2 : ∀ c, c ≠ 117 → x2 c = x c := fun c z => (g1 c z).trans (hc c z)
              iterate 1 (refine q_wst rfl rfl rfl ?_)
              by_cases ko : q_ko w (p_rst is vN A i n) = true
              · rw [if_pos ko]
                have hks : q_ks w (p_rst is vN A i n) 5 < 2 ^ 31 := by
                  have : ∀ k, q_ks w (p_rst is vN A i n) k ≤ 9 * k := by
                    intro k
                    induction k with
                    | zero => exact Nat.le_refl 0
                    | succ k ihk =>
                      show q_ks w (p_rst is vN A i n) k + q_kn w (p_rst is vN A i n) k ≤ _
                      have : q_kn w (p_rst is vN A i n) k ≤ 9 := Nat.min_le_left _ _
                      omega
                  have := this 5
                  omega
                refine q_wif (fun _ => ?_) (fun c => absurd (nI_pos' hks) c)
                iterate 2 (refine q_wst rfl rfl rfl ?_)
                refine ihr (n + 1) _ _ x2 (by omega) ?_ nxj hc2 (fun t ht hq => ?_)
                · show zk + 1 = _
                  rw [hzk, nI_1, p_cn_s, if_pos hqq]
                  rfl
                · by_cases e : t = n
                  · rw [e]
                    exact ko
                  · exact hrow t (by omega) hq
              · rw [if_neg ko]
                refine q_wif (fun c => absurd (show (0 : Int32) ≤ -1 from c) (by decide)) (fun _ => ?_)
                iterate 1 (refine q_wst rfl rfl rfl ?_)
                exact q_wrt rfl rfl rfl (hb ⟨i, n, his, hnP, hqq, ko⟩ x2 hc2)
          · have hqq : ¬ p_qq is vN A i n = true := by
              unfold p_qq
              rw [eq_false_of_ne_true hsel, Bool.false_and]
              decide
            refine ihr (n + 1) zk zj x1 (by omega) ?_ ?_ hc (fun t ht hq => ?_)
            · rw [hzk, p_cn_s, if_neg hqq]
              rfl
            · rw [hzj, p_cn_s, if_neg hsel]
              rfl
            · by_cases e : t = n
              · rw [e] at hq
                exact absurd hq hqq
              · exact hrow t (by omega) hq
      exact inner P 0 _ _ x1 (by omega) rfl rfl hc (fun t ht => absurd ht (by omega))
  unfold q_Wm
  iterate 4 (refine q_wst rfl rfl rfl ?_)
  exact outer s 0 x (by omega) (fun _ _ => rfl) (fun i' n z => absurd z (by omega))
