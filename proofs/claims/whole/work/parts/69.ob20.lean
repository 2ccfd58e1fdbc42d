/-! obligation: setOff (the class's run) -/
theorem p_cn_le (q : Nat → Bool) : ∀ n, p_cn q n ≤ n
  | 0 => Nat.le_refl 0
  | n + 1 => by
    have := p_cn_le q n
    rw [p_cn_s]
    split <;> omega
theorem p_cn_tl {q : Nat → Bool} {P : Nat} : ∀ r, (∀ v, P ≤ v → v < P + r → q v = false) → p_cn q (P + r) = p_cn q P
  | 0, _ => rfl
  | r + 1, h => by
    show p_cn q (P + r + 1) = _
    rw [p_cn_s, h (P + r) (by omega) (by omega), if_neg (by decide), p_cn_tl r (fun v z1 z2 => h v z1 (by omega))]
    rfl
theorem ob_setOff (_ : Unit) : q_Ob q_RR 88 159 [] := by
  intro b m hR
  obtain ⟨P, w, hR0, h13⟩ := id hR
  have r1 := hR0.1
  have hP := r1.1
  have r8 := hR0.2.2.2.2.2.2.2.1
  unfold q_Wm
  iterate 1 (refine q_wst rfl rfl rfl ?_)
  refine q_wcl rfl rfl rfl ?_
  refine t_readDebts 63 b m P w hR0 _ (fun m1 h1 => ?_)
  iterate 5 (refine q_wst rfl rfl rfl ?_)
  refine q_wcl rfl rfl rfl ?_
  refine t_seek 89 b m1 (fun a c => p_os m P a c P) h1.2.2.2.1 _ (fun m2 h2 => ?_)
  have h12 : p_cDR m m2 P := ⟨m1, h1, h2⟩
  have hc12 := p_cDR_c h12
  have h4 : m2 97 4 = nI P := by rw [hc12 97 (by omega)]; exact r1.2.2
  cases hx : p_rs (p_E (fun a c => p_os m P a c P)) 7 2 with
  | none =>
    have z1 := h2.2.1 hx
    iterate 4 (refine q_wst rfl rfl rfl ?_)
    refine q_wif (fun c => absurd z1 c) (fun _ => ?_)
    iterate 2 (refine q_wst rfl rfl rfl ?_)
    refine q_cf 2 rfl (by decide) rfl rfl rfl ⟨_, rfl, b, _, rfl, ?_⟩
    unfold q_Wm
    iterate 1 (refine q_wst rfl rfl rfl ?_)
    refine q_wcl rfl rfl rfl ?_
    refine t_mring 64 b m _ P hP (by exact h4) (p_ag3_f (p_cDR_ag h12)) _ (fun _ m3 h3 => ?_) (fun s W e => by rw [hx] at e; cases e)
    iterate 1 (refine q_wst rfl rfl rfl ?_)
    refine q_wif (fun c => absurd rfl c) (fun _ => ?_)
    iterate 2 (refine q_wst rfl rfl rfl ?_)
    exact q_mf 2 rfl (by decide) rfl rfl rfl ⟨rfl, b, _, rfl, q_RR_fnd hR (q_same_tr (p_cDR_f h12) (p_mR_same h3))⟩
  | some sW =>
    obtain ⟨s, W⟩ := sW
    have hr := p_rs_rg 7 2 (by omega) (by omega) hx
    have hds := p_rs_ds 7 2 (by omega) (by omega) (fun t W h1 h2 => absurd h2 (by omega)) hx
    have hE := p_rs_E 7 2 (by omega) hx
    obtain ⟨z1, z2, z3⟩ := h2.2.2 s W hx
    obtain ⟨A, A0, A6, eA⟩ := p_mn_b (ow := fun a c => p_os m P a c P) (s := s) (W := W) (B := 60000000) (by omega) (fun i hi => by
      obtain ⟨v, hv, e⟩ := p_os_b hR0 (W i) (W (p_nx s i)) P
      refine ⟨v, ?_, by omega, e⟩
      have q := of_decide_eq_true (hE i hi)
      have q : 0 < p_os m P (W i) (W (p_nx s i)) P := q
      rcases Nat.eq_zero_or_pos v with y | y
      · rw [e, y] at q
        exact absurd q (by decide)
      · exact y) (by omega)
    rw [eA] at z2
    obtain ⟨vN, hvN⟩ : ∃ vN : Nat → Nat, vN = fun n => (p_dv m P n).toNatClampNeg := ⟨_, rfl⟩
    have vfact : ∀ n, p_dv m P n = nI (vN n) ∧ vN n ≤ 2000000 := by
      intro n
      rw [hvN]
      show p_dv m P n = nI (p_dv m P n).toNatClampNeg ∧ (p_dv m P n).toNatClampNeg ≤ 2000000
      by_cases k : 0 < p_dv m P n
      · obtain ⟨v, hv, _, e⟩ := p_dv_b hR0 n k
        rw [e, nI_clamp (by omega)]
        exact ⟨rfl, hv⟩
      · rw [p_dv_n0 k]
        exact ⟨rfl, by decide⟩
    obtain ⟨is, his⟩ : ∃ is : Nat → Nat → Bool, is = fun i n => decide (0 < p_dv m P n ∧ m 103 (p_ob m P n) = nI (W i) ∧ m 103 n = nI (W (p_nx s i))) := ⟨_, rfl⟩
    have hy : p_hy m P s W is vN A := ⟨fun n _ => vfact n, fun i n _ _ => by rw [his]; exact decide_eq_true_iff, A6⟩
    have hnx : ∀ i, i < s → p_nx s i < s := fun i hi => by
      unfold p_nx
      split <;> omega
    have disj : ∀ i j n, i < j → j < s → n < P → ¬ (is i n = true ∧ is j n = true) := by
      intro i j n h1 h2 h3 h
      have a1 := (hy.2.1 i n (by omega) h3).mp h.1
      have a2 := (hy.2.1 j n h2 h3).mp h.2
      have e := a1.2.1.symm.trans a2.2.1
      have w1 := hr.2.2 i (by omega)
      have w2 := hr.2.2 j h2
      exact hds i j h1 h2 (q_nIle (by omega) (by omega) e)
    have sel_is : ∀ i n, p_sel is vN A i n = true → is i n = true ∧ 0 < p_lft is vN A i n := fun i n h => by
      unfold p_sel at h
      rw [Bool.and_eq_true] at h
      exact ⟨h.1, of_decide_eq_true h.2⟩
    have qq_sel : ∀ i n, p_qq is vN A i n = true → p_sel is vN A i n = true ∧ ¬ p_rst is vN A i n = 0 := fun i n h => by
      unfold p_qq at h
      rw [Bool.and_eq_true] at h
      exact ⟨h.1, of_decide_eq_true h.2⟩
    have bsel := p_an_cn (q := p_sel is vN A) (P := P) s (fun i j n h1 h2 h3 h => disj i j n h1 h2 h3 ⟨(sel_is i n h.1).1, (sel_is j n h.2).1⟩)
    have bqq := p_an_cn (q := p_qq is vN A) (P := P) s (fun i j n h1 h2 h3 h => disj i j n h1 h2 h3 ⟨(sel_is i n (qq_sel i n h.1).1).1, (sel_is j n (qq_sel j n h.2).1).1⟩)
    have h30 : p_bs (p_sel is vN A) P s ≤ 30 := by
      have := p_cn_le (p_an (p_sel is vN A) s) P
      omega
    have hK30 : p_bs (p_qq is vN A) P s ≤ 30 := by
      have := p_cn_le (p_an (p_qq is vN A) s) P
      omega
    have hisd : ∀ i n, i < s → n < P → is i n = true → 0 < p_dv m P n := fun i n z1 z2 z3 => ((hy.2.1 i n z1 z2).mp z3).1
    -- the class's cells before the plan
    have e0 : m2 0 1 = nI P := by rw [hc12 0 (by omega)]; exact r1.2.1
    have e19 : ∀ n, n < 30 → m2 19 n = if n < P then p_dv m P n else 0 := fun n hn => by
      rw [h2.1 19 (by decide) (by decide)]
      exact (h1.2.2.1 n hn).1
    have e20 : ∀ n, n < 30 → m2 20 n = if n < P then p_dv m P n else 0 := fun n hn => by
      rw [h2.1 20 (by decide) (by decide)]
      exact (h1.2.2.1 n hn).2
    have e9 : ∀ n, n < P → m 100 n = 1 → m2 9 n = p_O m P n := fun n hn k => by
      rw [h2.1 9 (by decide) (by decide)]
      exact (h1.2.1 n hn).1 k
    have eh : ∀ q, q < P → m2 (37 + 2 * q) 4 = m 103 q := fun q hq => by
      rw [hc12 _ (by omega)]
      exact (r8 q (by omega)).2.2.2.1
    have hcy2 : p_cy m m2 := p_cy_tr (p_cy_rf m) (fun c _ z => (p_cDR_same h12).1 c z)
    -- behind the plan
    have fin : ∀ (u : q_M) (o1 : Option q_V), (∀ c, c ≠ 20 → u c = m2 c) → (∀ n, n < P → (∀ i, i < s → is i n = true → u 20 n = nI (p_rst is vN A i n)) ∧ ((∀ i, i < s → ¬ is i n = true) → u 20 n = p_dv m P n)) → (∀ n, P ≤ n → n < 30 → u 20 n = 0) → q_WP none 99 88 74 [some (vr 0), o1] [] (q_hp b u) (q_Po q_RR 159 [vr 97]) := by
      intro u o1 hc hd hz
      obtain ⟨rN, hrN⟩ : ∃ rN : Nat → Nat, rN = fun n => (u 20 n).toNatClampNeg := ⟨_, rfl⟩
      obtain ⟨vM, hvM⟩ : ∃ vM : Nat → Nat, vM = fun n => (u 19 n).toNatClampNeg := ⟨_, rfl⟩
      have rst_le : ∀ i n, p_rst is vN A i n ≤ vN n := fun i n => Nat.sub_le _ _
      have F19 : ∀ n, n < 30 → u 19 n = nI (vM n) ∧ vM n ≤ 100000000 ∧ (n < P → vM n = vN n) ∧ (P ≤ n → vM n = 0) := by
        intro n hn
        rw [hvM]
        show u 19 n = nI (u 19 n).toNatClampNeg ∧ (u 19 n).toNatClampNeg ≤ 100000000 ∧ (n < P → (u 19 n).toNatClampNeg = vN n) ∧ (P ≤ n → (u 19 n).toNatClampNeg = 0)
        rw [hc 19 (by decide), e19 n hn]
        by_cases k : n < P
        · rw [if_pos k, (vfact n).1, nI_clamp (by have := (vfact n).2; omega)]
          have := (vfact n).2
          exact ⟨rfl, by omega, fun _ => rfl, fun z => absurd z (by omega)⟩
        · rw [if_neg k]
          exact ⟨rfl, by decide, fun z => absurd z k, fun _ => rfl⟩
      have F20 : ∀ n, n < 30 → u 20 n = nI (rN n) ∧ rN n ≤ 100000000 ∧ (n < P → (∀ i, i < s → is i n = true → rN n = p_rst is vN A i n) ∧ ((∀ i, i < s → ¬ is i n = true) → rN n = vN n)) ∧ (P ≤ n → rN n = 0) := by
        intro n hn
        rw [hrN]
        show u 20 n = nI (u 20 n).toNatClampNeg ∧ (u 20 n).toNatClampNeg ≤ 100000000 ∧ (n < P → (∀ i, i < s → is i n = true → (u 20 n).toNatClampNeg = p_rst is vN A i n) ∧ ((∀ i, i < s → ¬ is i n = true) → (u 20 n).toNatClampNeg = vN n)) ∧ (P ≤ n → (u 20 n).toNatClampNeg = 0)
        have hv := vfact n
        by_cases k : n < P
        · have hdn := hd n k
          by_cases ka : ∃ i, i < s ∧ is i n = true
          · obtain ⟨i, hi, hii⟩ := ka
            have hl := rst_le i n
            rw [hdn.1 i hi hii, nI_clamp (by omega)]
            refine ⟨rfl, by omega, fun _ => ⟨fun j hj hjj => ?_, fun z => absurd hii (z i hi)⟩, fun z => absurd z (by omega)⟩
            have e := (hdn.1 i hi hii).symm.trans (hdn.1 j hj hjj)
            have hl2 := rst_le j n
            exact q_nIle (by omega) (by omega) e
          · have kn : ∀ i, i < s → ¬ is i n = true := fun i hi z => ka ⟨i, hi, z⟩
            rw [hdn.2 kn, hv.1, nI_clamp (by omega)]
            exact ⟨rfl, by omega, fun _ => ⟨fun i hi z => absurd z (kn i hi), fun _ => rfl⟩, fun z => absurd z (by omega)⟩
        · rw [hz n (by omega) hn]
          exact ⟨rfl, by decide, fun z => absurd z k, fun _ => rfl⟩
      have cutq : ∀ i n, i < s → n < P → p_qq is vN A i n = true → 0 < rN n ∧ rN n < vM n ∧ rN n = p_rst is vN A i n := by
        intro i n hi hn hq
        have a1 := qq_sel i n hq
        have a2 := sel_is i n a1.1
        have a3 := ((F20 n (by omega)).2.2.1 hn).1 i hi a2.1
        have a4 := (F19 n (by omega)).2.2.1 hn
        have a5 := a1.2
        refine ⟨by omega, ?_, a3⟩
        rw [a3, a4]
        unfold p_rst at a5 ⊢
        omega
      have qcut : ∀ n, n < P → 0 < rN n → rN n < vM n → ∃ i, i < s ∧ p_qq is vN A i n = true ∧ rN n = p_rst is vN A i n := by
        intro n hn k1 k2
        have a3 := (F20 n (by omega)).2.2.1 hn
        have a4 := (F19 n (by omega)).2.2.1 hn
        by_cases ka : ∃ i, i < s ∧ is i n = true
        · obtain ⟨i, hi, hii⟩ := ka
          have a5 := a3.1 i hi hii
          refine ⟨i, hi, ?_, a5⟩
          rw [a5, a4] at k2
          unfold p_qq p_sel
          rw [hii, Bool.true_and, decide_eq_true (show 0 < p_lft is vN A i n by unfold p_rst at k2; omega), Bool.true_and]
          exact decide_eq_true (by omega)
        · have a5 := a3.2 (fun i hi z => ka ⟨i, hi, z⟩)
          omega
      have cnt : p_cn (p_ctd rN vM) 30 = p_bs (p_qq is vN A) P s := by
        rw [← bqq, ← p_cn_cg (q := p_ctd rN vM) P (fun n hn => ?_)]
        · have := p_cn_tl (q := p_ctd rN vM) (P := P) (30 - P) (fun n k1 k2 => ?_)
          · rw [show P + (30 - P) = 30 by omega] at this
            exact this
          · refine decide_eq_false (fun z => ?_)
            have := (F20 n (by omega)).2.2.2 k1
            omega
        · cases k : p_an (p_qq is vN A) s n with
          | true =>
            obtain ⟨i, hi, hq⟩ := p_an_t s k
            have a := cutq i n hi hn hq
            exact decide_eq_true ⟨a.1, a.2.1⟩
          | false =>
            refine decide_eq_false (fun z => ?_)
            obtain ⟨i, hi, hq, _⟩ := qcut n hn z.1 z.2
            rw [p_an_i hq s hi] at k
            cases k
      have hwt := q_R_w hR0
      have cu : ∀ c, 31 < c → u c = m c := fun c z => (hc c (by omega)).trans (hc12 c (by omega))
      have hmyu : ∀ (u2 : q_M), (∀ c, c ≠ 4 → u2 c = u c) → ∀ j x, p_my m u2 ∧ q_same (q_up m 36 j (m 36 j + 1)) (q_up u2 36 j (u2 36 j + 1)) ∧ p_my m (q_up u2 36 j x) := by
        intro u2 hm j x
        have q1 : ∀ c, 31 < c → u2 c = m c := fun c z => (hm c (by omega)).trans (cu c z)
        have q2 : q_same m u2 := by
          refine q_same_tr (p_cDR_same h12) ⟨fun c hc2 => (hm c (fun z => by rw [z] at hc2; cases hc2)).trans (hc c (fun z => by rw [z] at hc2; cases hc2)), fun j _ => by rw [hm 97 (by decide), hc 97 (by decide)], by rw [hm 126 (by decide), hc 126 (by decide)]⟩
        refine ⟨⟨fun c z1 z2 => q1 c (by omega), fun j _ => by rw [q1 97 (by omega)], by rw [q1 126 (by omega)]⟩, ?_, ⟨fun c z1 z2 => ?_, fun j _ => ?_, ?_⟩⟩
        · rw [q1 36 (by omega)]
          exact q_same_cg q2
        · rw [q_up_ne (by omega)]
          exact q1 c (by omega)
        · rw [q_up_ne (by decide), q1 97 (by omega)]
        · rw [q_up_ne (by decide), q1 126 (by omega)]
      iterate 1 (refine q_wst rfl rfl rfl ?_)
      refine q_wcl rfl rfl rfl ?_
      refine t_allC _ b u P w rN vM hP (by rw [hc 0 (by decide)]; exact e0) (fun n hn => ⟨(F20 n (by omega)).1, (F20 n (by omega)).2.1⟩) (fun n hn => ⟨(F19 n (by omega)).1, (F19 n (by omega)).2.1⟩) (fun i y1 y2 => by rw [hc 3 (by decide), hc12 3 (by omega)]; exact ⟨(hwt i y1 y2).1, (hwt i y1 y2).2.2.1, (hwt i y1 y2).2.2.2⟩) _ (fun hbad u2 k2 => ?_) (fun hok u2 k2 => ?_)
      · obtain ⟨n, hn, y1, y2, y3⟩ := hbad
        obtain ⟨i, hi, hq, er⟩ := qcut n hn y1 y2
        rw [er] at y3
        obtain ⟨q1, q2, q3⟩ := hmyu u2 k2 3 (u2 36 3 + 1)
        iterate 1 (refine q_wst rfl rfl rfl ?_)
        refine q_wif (fun c => absurd rfl c) (fun _ => ?_)
        iterate 2 (refine q_wst rfl rfl rfl ?_)
        refine q_cf 3 rfl (by decide) rfl rfl rfl ⟨_, rfl, b, _, rfl, ?_⟩
        exact t_moff b m _ w P s W is vN A hR0 h13 q3 hx eA hy h30 hK30 _ (fun _ x' hx' => ⟨rfl, b, _, rfl, q_RR_fnd hR (q_same_tr q2 hx')⟩) (fun hk _ => absurd (hk i n hi hn hq) y3) (fun hk _ => absurd (hk i n hi hn hq) y3)
      · have hok2 : ∀ i n, i < s → n < P → p_qq is vN A i n = true → q_ko w (p_rst is vN A i n) = true := by
          intro i n hi hn hq
          have a := cutq i n hi hn hq
          rw [← a.2.2]
          exact hok n hn a.1 a.2.1
        iterate 1 (refine q_wst rfl rfl rfl ?_)
        refine q_wif (fun _ => ?_) (fun c => absurd (show ¬ (1 : Int32) = 0 by decide) c)
        iterate 4 (refine q_wst rfl rfl rfl ?_)
        refine q_wcl rfl rfl rfl ?_
        refine t_cutD _ b u2 rN vM (fun n hn => by rw [k2 20 (by decide)]; exact ⟨(F20 n hn).1, (F20 n hn).2.1⟩) (fun n hn => by rw [k2 19 (by decide)]; exact ⟨(F19 n hn).1, (F19 n hn).2.1⟩) _ ?_
        rw [cnt]
        iterate 1 (refine q_wst rfl rfl rfl ?_)
        refine q_wcl rfl rfl rfl ?_
        show q_Wm 98 53 [vr 0, vi (nI 2 * nI (p_bs (p_qq is vN A) P s))] (q_hp b u2) _
        rw [pk_mul]
        refine t_hasRoom _ b u2 (P := P) (n := 2 * p_bs (p_qq is vN A) P s) hP (by omega) (by rw [k2 0 (by decide), hc 0 (by decide)]; exact e0) _ (fun hroom => ?_) (fun hroom => ?_)
        · have hin := p_in9_a (A := A) (vN := vN) hR0 h13 hisd hroom
          have tk : ∀ (r i : Nat) (y : Int32) (u3 : q_M), i + r = s → y = nI i → (∀ c, 5 ≤ c ∧ c ≤ 31 → u3 c = u2 c) → (∀ c, 97 ≤ c → u3 c = u2 c) → p_cy (p_st9 m w P is vN A i 0).1 u3 → q_WP none 99 88 111 [some (vr 0), some (vi y)] [] (q_hp b u3) (q_Po q_RR 159 [vr 97]) := by
            intro r
            induction r with
            | zero =>
              intro i y u3 hi hyy hf hm hcy
              have hi : i = s := by omega
              subst hi hyy
              have e30 : u3 30 1 = nI i := by rw [hf 30 (by omega), k2 30 (by decide), hc 30 (by decide)]; exact z1
              have e302 : u3 30 2 = nI A := by rw [hf 30 (by omega), k2 30 (by decide), hc 30 (by decide)]; exact z2
              iterate 5 (refine q_wst rfl rfl rfl ?_)
              refine q_wif (fun _ => ?_) (fun c => absurd (show u3 30 1 ≤ nI i by rw [e30]; exact nI_le (Nat.le_refl i) (by omega)) c)
              iterate 3 (refine q_wst rfl rfl rfl ?_)
              refine q_wrt rfl rfl rfl ⟨nI A, congrArg some e302, b, _, rfl, ?_⟩
              obtain ⟨q1, q2, q3⟩ := hmyu u2 k2 3 (u2 36 3 + 1)
              have my3 : p_my m u3 := ⟨fun c y1 y2 => (hm c (by omega)).trans (q1.1 c y1 y2), fun j hj => by rw [hm 97 (by omega)]; exact q1.2.1 j hj, by rw [hm 126 (by omega)]; exact q1.2.2⟩
              refine t_moff b m u3 w P i W is vN A hR0 h13 my3 hx eA hy h30 hK30 _ (fun hbad => ?_) (fun _ z => absurd z (by omega)) (fun _ _ x' j1 j2 => ?_)
              · obtain ⟨i', n, a1, a2, a3, a4⟩ := hbad
                exact absurd (hok2 i' n a1 a2 a3) a4
              · obtain ⟨g1, g2, g3, g4⟩ := hin i (Nat.le_refl i) 0 (by omega) (fun _ => rfl)
                exact ⟨rfl, b, _, rfl, p_fin g1 g2 (p_cy_tr hcy (fun c y1 _ => j1 c y1)) j2⟩
            | succ r ih =>
              intro i y u3 hi hyy hf hm hcy
              subst hyy
              have hi' : i < s := by omega
              have hfc : ∀ c, 5 ≤ c ∧ c ≤ 31 → c ≠ 20 → u3 c = m2 c := fun c y1 y2 => (hf c y1).trans ((k2 c (by omega)).trans (hc c y2))
              have e30 : u3 30 1 = nI s := by rw [hfc 30 (by omega) (by decide)]; exact z1
              have e31 : ∀ j, j < s → u3 31 j = nI (W j) := fun j hj => by rw [hfc 31 (by omega) (by decide)]; exact z3 j hj
              iterate 5 (refine q_wst rfl rfl rfl ?_)
              refine q_wif (fun c => absurd (show u3 30 1 ≤ nI i from c) (by rw [e30]; exact nI_ge (by omega) (by omega))) (fun _ => ?_)
              iterate 5 (refine q_wst rfl rfl rfl ?_)
              refine q_wrd i rfl (show i < 8 by omega) rfl (q_at31 b) (by decide) ?_
              iterate 3 (refine q_wst rfl rfl rfl ?_)
              refine q_wcl rfl rfl rfl ?_
              refine t_behind _ b u3 s i hr.2.1 hi' e30 _ ?_
              refine q_wcl rfl rfl rfl ?_
              show q_Wm 98 92 [vr 0, vi (u3 31 i), vi (u3 31 (p_nx s i))] (q_hp b u3) _
              rw [e31 i hi', e31 _ (hnx i hi')]
              refine t_takeOff 94 b m u3 P s i W w is vN A hP hi' hy (fun n hn => hin i (by omega) n hn (fun z => absurd z (by omega))) (fun n hn hq => ?_) (fun n hn hq => hok2 i n hi' hn hq) hcy (fun n hn => by rw [hfc 19 (by omega) (by decide)]; exact e19 n hn) (fun n hn hii => ?_) (fun n hn k => by rw [hfc 9 (by omega) (by decide)]; exact e9 n hn k) _ (fun u4 g1 g2 g3 => ?_)
              · have y1 := p_cn_mn (p_qq is vN A i) (P - (n + 1)) (n + 1)
                rw [show n + 1 + (P - (n + 1)) = P by omega, p_cn_s, if_pos hq] at y1
                have y2 := p_bs_mn (p_qq is vN A) P (s - (i + 1)) (i + 1)
                rw [show i + 1 + (s - (i + 1)) = s by omega] at y2
                have y3 : p_bs (p_qq is vN A) P (i + 1) = p_bs (p_qq is vN A) P i + p_cn (p_qq is vN A i) P := rfl
                omega
              · rw [hf 20 (by omega), k2 20 (by decide)]
                exact (hd n hn).1 i hi' hii
              · iterate 2 (refine q_wst rfl rfl rfl ?_)
                exact ih (i + 1) _ u4 (by omega) (nI_1 i) (fun c y => (g1 c y).trans (hf c y)) (fun c y => (g2 c y).trans (hm c y)) g3
          iterate 1 (refine q_wst rfl rfl rfl ?_)
          refine q_wif (fun _ => ?_) (fun c => absurd (show ¬ (1 : Int32) = 0 by decide) c)
          iterate 2 (refine q_wst rfl rfl rfl ?_)
          refine tk s 0 _ u2 (by omega) rfl (fun _ _ => rfl) (fun _ _ => rfl) ?_
          refine p_cy_tr hcy2 (fun c y1 y2 => ?_)
          rw [k2 c (fun z => by rw [z] at y2; cases y2), hc c (fun z => by rw [z] at y2; cases y2)]
        · obtain ⟨q1, q2, q3⟩ := hmyu u2 k2 4 (u2 36 4 + 1)
          iterate 1 (refine q_wst rfl rfl rfl ?_)
          refine q_wif (fun c => absurd rfl c) (fun _ => ?_)
          iterate 2 (refine q_wst rfl rfl rfl ?_)
          refine q_cf 4 rfl (by decide) rfl rfl rfl ⟨_, rfl, b, _, rfl, ?_⟩
          refine t_moff b m _ w P s W is vN A hR0 h13 q3 hx eA hy h30 hK30 _ (fun hbad => ?_) (fun _ _ x' hx' => ⟨rfl, b, _, rfl, q_RR_fnd hR (q_same_tr q2 hx')⟩) (fun _ z => absurd z (by omega))
          obtain ⟨i', n, a1, a2, a3, a4⟩ := hbad
          exact absurd (hok2 i' n a1 a2 a3) a4
    have pl : ∀ (r i : Nat) (y : Int32) (u : q_M), i + r = s → y = nI i → (∀ c, c ≠ 20 → u c = m2 c) → (∀ n, n < P → (∀ i', i' < i → is i' n = true → u 20 n = nI (p_rst is vN A i' n)) ∧ ((∀ i', i' < i → ¬ is i' n = true) → u 20 n = p_dv m P n)) → (∀ n, P ≤ n → n < 30 → u 20 n = 0) → q_WP none 99 88 36 [some (vr 0), some (vi y)] [] (q_hp b u) (q_Po q_RR 159 [vr 97]) := by
      intro r
      induction r with
      | zero =>
        intro i y u hi hyy hc hd hz
        have hi : i = s := by omega
        subst hi hyy
        iterate 5 (refine q_wst rfl rfl rfl ?_)
        refine q_wif (fun _ => ?_) (fun c => absurd (show u 30 1 ≤ nI i by rw [hc 30 (by decide), z1]; exact nI_le (Nat.le_refl i) (by omega)) c)
        exact fin u _ hc hd hz
      | succ r ih =>
        intro i y u hi hyy hc hd hz
        subst hyy
        have hi' : i < s := by omega
        have e30 : u 30 1 = nI s := by rw [hc 30 (by decide)]; exact z1
        have e31 : ∀ j, j < s → u 31 j = nI (W j) := fun j hj => by rw [hc 31 (by decide)]; exact z3 j hj
        iterate 5 (refine q_wst rfl rfl rfl ?_)
        refine q_wif (fun c => absurd (show u 30 1 ≤ nI i from c) (by rw [e30]; exact nI_ge (by omega) (by omega))) (fun _ => ?_)
        iterate 5 (refine q_wst rfl rfl rfl ?_)
        refine q_wrd i rfl (show i < 8 by omega) rfl (q_at31 b) (by decide) ?_
        iterate 3 (refine q_wst rfl rfl rfl ?_)
        refine q_wcl rfl rfl rfl ?_
        refine t_behind _ b u s i hr.2.1 hi' e30 _ ?_
        refine q_wcl rfl rfl rfl ?_
        show q_Wm 98 89 [vr 0, vi (u 31 i), vi (u 31 (p_nx s i))] (q_hp b u) _
        rw [e31 i hi', e31 _ (hnx i hi')]
        refine t_plan 96 b m u P s i W is vN A hP hi' hy (by rw [hc 0 (by decide)]; exact e0) (by rw [hc 30 (by decide)]; exact z2) (fun n hn => by rw [hc 19 (by decide), e19 n (by omega), if_pos hn]) (fun n hn k => by rw [hc 9 (by decide)]; exact e9 n hn k) (fun q hq => by rw [hc _ (by omega)]; exact eh q hq) _ (fun u2 g1 g2 g3 => ?_)
        iterate 2 (refine q_wst rfl rfl rfl ?_)
        refine ih (i + 1) _ u2 (by omega) (nI_1 i) (fun c y => (g1 c y).trans (hc c y)) (fun n hn => ⟨fun i' hi2 hii => ?_, fun hno => ?_⟩) (fun n y1 y2 => (g3 n y1).trans (hz n y1 y2))
        · rw [g2 n hn]
          by_cases e : i' = i
          · subst e
            rw [if_pos hii]
          · rw [if_neg (fun z => disj i' i n (by omega) hi' hn ⟨hii, z⟩)]
            exact (hd n hn).1 i' (by omega) hii
        · rw [g2 n hn, if_neg (hno i (by omega))]
          exact (hd n hn).2 (fun i' y => hno i' (by omega))
    iterate 4 (refine q_wst rfl rfl rfl ?_)
    refine q_wif (fun _ => ?_) (fun c => absurd (show m2 30 1 = 0 from Decidable.not_not.mp c) (by rw [z1]; exact nI_ne0 (by omega) (by omega)))
    iterate 2 (refine q_wst rfl rfl rfl ?_)
    exact pl s 0 _ m2 (by omega) rfl (fun _ _ => rfl) (fun n hn => ⟨fun i' h => absurd h (by omega), fun _ => by rw [e20 n (by omega), if_pos hn]⟩) (fun n y1 y2 => by rw [e20 n y2, if_neg (by omega)])
