/-! obligation: pay -/
theorem p_vs_b {P : Nat} {w : Nat → Nat} {b : Bool} {m : q_M} (hR : q_R0 P w b m) (s : Nat) (h : 0 < p_vs m s) : ∃ v, v ≤ 2000000 ∧ p_vs m s = nI v := by
  unfold p_vs q_vl q_val at h ⊢
  obtain ⟨f1, f2⟩ := q_C_f (fun i => m 106 (40 * s + i))
  generalize (q_C (fun i => m 106 (40 * s + i)) 40).1 = n at *
  generalize (q_C (fun i => m 106 (40 * s + i)) 40).2.2.1 = a at *
  generalize (q_C (fun i => m 106 (40 * s + i)) 40).2.2.2 = wd at *
  by_cases c : q_fg a wd n 0 < 0
  · rw [if_pos c]
    obtain ⟨g1, g2⟩ := q_fg_neg (a := a) (w := wd) n 0 (fun j _ h2 => by have := (f2 j (by omega)).2.1; omega)
    have hb := g1 c
    have h5 : ∀ i, i < n → wd i ≤ 5 := by
      intro i hi
      rcases Nat.lt_or_ge 5 (wd i) with z | z
      · have := hb i (Nat.zero_le i) (by omega)
        rw [q_bad_t.mpr (Or.inl z)] at this
        cases this
      · exact z
    have hw := q_R_w hR
    have key : ∀ k, k ≤ n → ∃ v, v ≤ 100000 * k ∧ q_vs (m 98) wd k = nI v := by
      intro k
      induction k with
      | zero => exact fun _ => ⟨0, by omega, rfl⟩
      | succ k ih =>
        intro hk
        obtain ⟨v, hv, e⟩ := ih (by omega)
        have h1 := (f2 k (by omega)).2.2
        have q := hw (wd k) h1 (h5 k (by omega))
        refine ⟨v + w (wd k), by omega, ?_⟩
        show q_vs (m 98) wd k + m 98 (wd k) = _
        rw [e, q.2.1, nI_add]
    obtain ⟨v, hv, e⟩ := key n (Nat.le_refl n)
    exact ⟨v, by omega, e⟩
  · rw [if_neg c] at h
    exact absurd h (by decide)
theorem p_dv_b {P : Nat} {w : Nat → Nat} {b : Bool} {m : q_M} (hR : q_R0 P w b m) (s : Nat) (h : 0 < p_dv m P s) : ∃ v, v ≤ 2000000 ∧ 0 < v ∧ p_dv m P s = nI v := by
  have hp := p_dv_pos h
  rw [hp.2.2.2] at h ⊢
  obtain ⟨v, hv, e⟩ := p_vs_b hR s h
  refine ⟨v, hv, ?_, e⟩
  rcases Nat.eq_zero_or_pos v with z | z
  · rw [e, z] at h
    exact absurd h (by decide)
  · exact z
theorem p_clm_b {P : Nat} {w : Nat → Nat} {b : Bool} {m : q_M} (hR : q_R0 P w b m) (s : Nat) (hs : s < P) (h : 0 < p_dv m P s) : ∃ C, C ≤ 100000000 ∧ p_clm m P s = nI C := by
  obtain ⟨v, hv, v0, e⟩ := p_dv_b hR s h
  have ho := p_ob_sp m P s hR.1.1 (p_dv_pos h).2.1
  obtain ⟨D, hD, d1, d2⟩ := hR.2.2.1
  have hdue := (hR.2.2.2.2.2.2.2.2.1 _ ho.1).2.2.2.2.1
  have hL : ∃ L, L ≤ 10000 ∧ (if 0 < m 97 0 - m 104 (p_ob m P s) then m 97 0 - m 104 (p_ob m P s) else 0) = nI L := by
    by_cases c : 0 < m 97 0 - m 104 (p_ob m P s)
    · rw [if_pos c]
      obtain ⟨L, hL, eL⟩ := nI_of (x := m 97 0 - m 104 (p_ob m P s)) (fun z => Int32.lt_asymm c z)
      refine ⟨L, ?_, eL⟩
      have h1 : (m 97 0 - m 104 (p_ob m P s)).toInt = (L : Int) := by rw [eL]; exact nI_toInt hL
      rw [Int32.toInt_sub, d2, nI_toInt (by omega), Int.bmod_eq_of_le (by omega) (by omega)] at h1
      omega
    · rw [if_neg c]
      exact ⟨0, by omega, rfl⟩
  obtain ⟨L, hL, eL⟩ := hL
  have q1 : L / 30 ≤ 334 := by omega
  have q2 : v / 20 ≤ 100000 := by omega
  have q3 : L / 30 * (v / 20) ≤ 334 * 100000 := Nat.mul_le_mul q1 q2
  refine ⟨v + L / 30 * (v / 20), by omega, ?_⟩
  unfold p_clm
  rw [eL, e]
  show nI v + nI L / nI 30 * (nI v / nI 20) = _
  rw [pk_div (by omega) (by omega) (by omega), pk_div (by omega) (by omega) (by omega), pk_mul, nI_add]
/-- how many rests get a new pair -/
def p_rn (rs : Nat → Nat) : Nat → Nat
  | 0 => 0
  | n + 1 => if rs n = 0 then p_rn rs n else p_rn rs n + 1
theorem p_rn_le (rs : Nat → Nat) : ∀ n, p_rn rs n ≤ n
  | 0 => Nat.le_refl 0
  | n + 1 => by
    have := p_rn_le rs n
    unfold p_rn
    split <;> omega
theorem t_refusal (d : Nat) (b : Bool) (x : q_M) (w : Nat → Nat) (P n : Nat) (rs : Nat → Nat) (hP : P ≤ 30) (hn : n ≤ 30) (h4 : x 97 4 = nI P) (h36 : x 97 36 = nI n) (hr : ∀ i, i < n → rs i ≤ 100000000 ∧ x 125 i = nI (rs i)) (hw : ∀ i, 1 ≤ i → i ≤ 5 → x 98 i = nI (w i) ∧ 0 < w i ∧ w i ≤ 100000) (Q : Option Int32 → q_H → Prop) (h3 : (∃ i, i < n ∧ ¬ rs i = 0 ∧ ¬ q_ko w (rs i) = true) → ∀ x', (∀ c, c ≠ 117 → x' c = x c) → Q (some (-1000000003)) (q_hp b x')) (hk : (∀ i, i < n → rs i = 0 ∨ q_ko w (rs i) = true) → ∀ x', (∀ c, c ≠ 117 → x' c = x c) → Q (some (if P + 2 * p_rn rs n ≤ 30 then 0 else -1000000004)) (q_hp b x')) : q_Wm (d + 1) 161 [vr 97] (q_hp b x) Q := by
  have loop : ∀ (r i : Nat) (y z : Int32) (x1 : q_M), i + r = n → y = nI i → z = nI (p_rn rs i) → (∀ c, c ≠ 117 → x1 c = x c) → (∀ j, j < i → rs j = 0 ∨ q_ko w (rs j) = true) → q_WP none (d + 1) 161 4 [some (vr 97), some (vi z), some (vi y)] [] (q_hp b x1) Q := by
    intro r
    induction r with
    | zero =>
      intro i y z x1 hi hy hz hc hall
      have hi : i = n := by omega
      subst hi hy hz
      have hk := hk hall x1 hc
      have := p_rn_le rs i
      iterate 4 (refine q_wst rfl rfl rfl ?_)
      refine q_wif (fun _ => ?_) (fun c => absurd (show x1 97 36 ≤ nI i by rw [hc 97 (by decide), h36]; exact nI_le (Nat.le_refl i) (by omega)) c)
      iterate 8 (refine q_wst rfl rfl rfl ?_)
      refine q_wif (fun c => ?_) (fun c => ?_)
      · have c : x1 97 4 + nI 2 * nI (p_rn rs i) ≤ nI 30 := c
        rw [hc 97 (by decide), h4, pk_mul, nI_add, nI_leI (by omega) (by omega)] at c
        rw [if_pos c] at hk
        iterate 1 (refine q_wst rfl rfl rfl ?_)
        exact q_wrt rfl rfl rfl hk
      · have c : ¬ x1 97 4 + nI 2 * nI (p_rn rs i) ≤ nI 30 := c
        rw [hc 97 (by decide), h4, pk_mul, nI_add, nI_leI (by omega) (by omega)] at c
        rw [if_neg c] at hk
        iterate 2 (refine q_wst rfl rfl rfl ?_)
        exact q_wrt rfl rfl rfl hk
    | succ r ih =>
      intro i y z x1 hi hy hz hc hall
      subst hy hz
      have hi3 : i < 30 := by omega
      have hri := hr i (by omega)
      have e125 : x1 125 i = nI (rs i) := by rw [hc 125 (by decide)]; exact hri.2
      iterate 4 (refine q_wst rfl rfl rfl ?_)
      refine q_wif (fun c => absurd (show x1 97 36 ≤ nI i from c) (by rw [hc 97 (by decide), h36]; exact nI_ge (by omega) (by omega))) (fun _ => ?_)
      iterate 3 (refine q_wst rfl rfl rfl ?_)
      refine q_wrd i rfl hi3 rfl (q_at125 b) (by decide) ?_
      iterate 1 (refine q_wst rfl rfl rfl ?_)
      refine q_wif (fun c => ?_) (fun c => ?_)
      · have c : x1 125 i ≤ nI 0 := c
        rw [e125, nI_leI (by omega) (by omega)] at c
        iterate 2 (refine q_wst rfl rfl rfl ?_)
        refine ih (i + 1) _ _ x1 (by omega) (nI_1 i) ?_ hc (fun j hj => ?_)
        · show _ = nI (if rs i = 0 then p_rn rs i else p_rn rs i + 1)
          rw [if_pos (by omega)]
        · by_cases e : j = i
          · exact Or.inl (by rw [e]; omega)
          · exact hall j (by omega)
      · have c : ¬ x1 125 i ≤ nI 0 := c
        rw [e125, nI_leI (by omega) (by omega)] at c
        iterate 5 (refine q_wst rfl rfl rfl ?_)
        refine q_wrd i rfl hi3 rfl (q_at125 b) (by decide) ?_
        refine q_wcl rfl rfl rfl ?_
        show q_Wm d 135 [vr 97, vi (x1 125 i)] (q_hp b x1) _
        rw [e125]
        refine t_mcompose _ b x1 w (rs i) hri.1 (fun i h1 h2 => by rw [hc 98 (by decide)]; exact hw i h1 h2) _ (fun x2 g1 g2 => ?_)
        have hc2 : ∀ c, c ≠ 117 → x2 c = x c := fun c z => (g1 c z).trans (hc c z)
        iterate 1 (refine q_wst rfl rfl rfl ?_)
        by_cases ko : q_ko w (rs i) = true
        · rw [if_pos ko]
          have hks : q_ks w (rs i) 5 < 2 ^ 31 := by
            have : ∀ k, q_ks w (rs i) k ≤ 9 * k := by
              intro k
              induction k with
              | zero => exact Nat.le_refl 0
              | succ k ihk =>
                show q_ks w (rs i) k + q_kn w (rs i) k ≤ _
                have : q_kn w (rs i) k ≤ 9 := Nat.min_le_left _ _
                omega
            have := this 5
            omega
          refine q_wif (fun _ => ?_) (fun c => absurd (nI_pos' hks) c)
          iterate 2 (refine q_wst rfl rfl rfl ?_)
          refine ih (i + 1) _ _ x2 (by omega) (nI_1 i) ?_ hc2 (fun j hj => ?_)
          · show _ = nI (if rs i = 0 then p_rn rs i else p_rn rs i + 1)
            rw [if_neg (by omega)]
            exact nI_1 _
          · by_cases e : j = i
            · exact Or.inr (by rw [e]; exact ko)
            · exact hall j (by omega)
        · rw [if_neg ko]
          refine q_wif (fun c => absurd (show (0 : Int32) ≤ -1 from c) (by decide)) (fun _ => ?_)
          iterate 1 (refine q_wst rfl rfl rfl ?_)
          exact q_wrt rfl rfl rfl (h3 ⟨i, by omega, by omega, ko⟩ x2 hc2)
  unfold q_Wm
  iterate 4 (refine q_wst rfl rfl rfl ?_)
  exact loop n 0 _ _ x (by omega) rfl rfl (fun _ _ => rfl) (fun j hj => absurd hj (by omega))
/-- a purse on both sides -/
def p_pu (V : q_M) (a : Nat) (v : Int32) : q_M := q_up (q_up V 32 a v) 112 a v
theorem p_pu_o {V : q_M} {a c : Nat} {v : Int32} (h1 : c ≠ 32) (h2 : c ≠ 112) : p_pu V a v c = V c := by
  unfold p_pu
  rw [q_up_ne h2, q_up_ne h1]
theorem p_pu_RR {P : Nat} {w : Nat → Nat} {b : Bool} {V : q_M} {a : Nat} {v : Int32} (hR : q_R0 P w b V) (h13 : q_r13 V) : q_R0 P w b (p_pu V a v) ∧ q_r13 (p_pu V a v) := by
  have A : ∀ i, i ≠ 32 → i ≠ 112 → p_pu V a v i = V i := fun i h1 h2 => p_pu_o h1 h2
  obtain ⟨r1, r2, r3, r4, r5, r6, r7, r8, r9, r10, r11, r12, r14⟩ := hR
  refine ⟨⟨?_, ?_, ?_, ?_, ?_, ?_, ?_, ?_, ?_, ?_, ?_, ?_, ?_⟩, ?_⟩
  · unfold q_r1; rw [A 0 (by decide) (by decide), A 97 (by decide) (by decide)]; exact r1
  · unfold q_r2; rw [A 0 (by decide) (by decide), A 97 (by decide) (by decide)]; exact r2
  · unfold q_r3; rw [A 0 (by decide) (by decide), A 97 (by decide) (by decide)]; exact r3
  · unfold q_r4; rw [A 0 (by decide) (by decide), A 97 (by decide) (by decide), A 35 (by decide) (by decide), A 113 (by decide) (by decide)]; exact r4
  · unfold q_r5; rw [A 13 (by decide) (by decide), A 97 (by decide) (by decide), A 14 (by decide) (by decide), A 15 (by decide) (by decide), A 16 (by decide) (by decide), A 17 (by decide) (by decide), A 108 (by decide) (by decide), A 109 (by decide) (by decide), A 110 (by decide) (by decide), A 111 (by decide) (by decide)]; exact r5
  · unfold q_r6; rw [A 3 (by decide) (by decide), A 98 (by decide) (by decide)]; exact r6
  · unfold q_r7; rw [A 34 (by decide) (by decide), A 99 (by decide) (by decide)]; exact r7
  · intro p hp
    rw [A (37 + 2 * p) (by omega) (by omega), A (38 + 2 * p) (by omega) (by omega), A 100 (by decide) (by decide), A 101 (by decide) (by decide), A 102 (by decide) (by decide), A 103 (by decide) (by decide), A 104 (by decide) (by decide), A 105 (by decide) (by decide), A 106 (by decide) (by decide)]
    exact r8 p hp
  · unfold q_r9; rw [A 100 (by decide) (by decide), A 101 (by decide) (by decide), A 103 (by decide) (by decide), A 104 (by decide) (by decide), A 105 (by decide) (by decide), A 106 (by decide) (by decide)]; exact r9
  · unfold q_r10; rw [A 105 (by decide) (by decide), A 106 (by decide) (by decide)]; exact r10
  · unfold q_r11; rw [A 101 (by decide) (by decide), A 107 (by decide) (by decide)]; exact r11
  · intro i hi
    unfold p_pu
    rw [q_up_ne (show 32 ≠ 112 by decide), q_up_eq, q_up_eq, q_up_ne (show 112 ≠ 32 by decide)]
    unfold upd
    by_cases e : i = a
    · rw [if_pos e, if_pos e]
    · rw [if_neg e, if_neg e]
      exact r12 i hi
  · unfold q_r14; rw [A 33 (by decide) (by decide), A 127 (by decide) (by decide), A 126 (by decide) (by decide)]; exact r14
  · unfold q_r13; rw [A 36 (by decide) (by decide), A 114 (by decide) (by decide)]; exact h13
theorem p_cy_pu {V y : q_M} {a : Nat} {v : Int32} (h : p_cy V y) : p_cy (p_pu V a v) (q_up y 32 a v) := by
  refine ⟨fun c h1 h2 h3 => ?_, fun q i hq hi => ?_⟩
  · by_cases e : c = 32
    · subst e
      unfold p_pu
      rw [q_up_eq, q_up_ne (show 32 ≠ 112 by decide), q_up_eq, h.1 32 h1 h2 h3]
    · rw [q_up_ne e, p_pu_o e (by omega)]
      exact h.1 c h1 h2 h3
  · rw [q_up_ne (by omega), p_pu_o (by omega) (by omega)]
    exact h.2 q i hq hi
theorem p_my_pu {V x : q_M} {a : Nat} {v : Int32} (h : p_my V x) : p_my (p_pu V a v) (q_up x 112 a v) := by
  refine ⟨fun c h1 h2 => ?_, fun j hj => ?_, ?_⟩
  · by_cases e : c = 112
    · subst e
      unfold p_pu
      rw [q_up_eq, q_up_eq, q_up_ne (by decide), h.1 112 h1 h2]
    · rw [q_up_ne e, p_pu_o (by omega) e]
      exact h.1 c h1 h2
  · rw [q_up_ne (by decide), p_pu_o (by decide) (by decide)]
    exact h.2.1 j hj
  · rw [q_up_ne (by decide), p_pu_o (by decide) (by decide)]
    exact h.2.2
/-- the purses behind a payment -/
def p_Vp (V : q_M) (a c : Nat) (v : Int32) : q_M := p_pu (p_pu V a (V 32 a - v)) c (p_pu V a (V 32 a - v) 32 c + v)
theorem p_my_ag {V x : q_M} (h : p_my V x) : p_ag3 V x := ⟨⟨h.1 100 (by omega) (by omega), h.1 101 (by omega) (by omega), h.1 105 (by omega) (by omega), h.1 106 (by omega) (by omega), h.2.1 3 rfl⟩, h.1 103 (by omega) (by omega), h.1 98 (by omega) (by omega)⟩
