/-! obligation: setOff -/
theorem t_mdl (b : Bool) (m x0 : q_M) (w : Nat → Nat) (P s : Nat) (is : Nat → Nat → Bool) (vN : Nat → Nat) (A : Nat) (hR : q_R0 P w b m) (h30 : p_bs (p_sel is vN A) P s ≤ 30) (hroom : P + 2 * p_bs (p_qq is vN A) P s ≤ 30) (hin : ∀ i, i ≤ s → ∀ n, n ≤ P → (i = s → n = 0) → p_in9 m w b P (p_bs (p_qq is vN A) P i + p_cn (p_qq is vN A i) n) (p_st9 m w P is vN A i n)) (his : ∀ i n, i < s → n < P → is i n = true → 0 < p_dv m P n) (hv : ∀ n, n < P → vN n ≤ 2000000) (hko : ∀ i n, i < s → n < P → p_qq is vN A i n = true → q_ko w (p_rst is vN A i n) = true) (hwr : p_wr is vN A P s x0) (h119 : ∀ n, n < P → x0 119 n = p_O m P n) (Q : Option Int32 → q_H → Prop) (hQ : ∀ x', (∀ c, c < 97 ∨ c = 127 → x' c = x0 c) → p_my (p_st9 m w P is vN A s 0).1 x' → Q (some (x0 97 34)) (q_hp b x')) : ∀ (r1 i : Nat) (x1 : q_M) (o1 : Option q_V), i + r1 = s → (∀ c, c < 97 ∨ 117 < c → x1 c = x0 c) → (∀ j, j ≠ 4 → x1 97 j = x0 97 j) → p_my (p_st9 m w P is vN A i 0).1 x1 → q_WP none 99 159 79 [some (vr 97), o1, some (vi (nI (p_bs (p_sel is vN A) P i)))] [] (q_hp b x1) Q := by
  have hP := hR.1.1
  intro r1
  induction r1 with
  | zero =>
    intro i x1 o1 hi hc h97 hmy
    have hi : i = s := by omega
    subst hi
    iterate 4 (refine q_wst rfl rfl rfl ?_)
    refine q_wif (fun _ => ?_) (fun c => absurd (show x1 97 36 ≤ nI (p_bs (p_sel is vN A) P i) by rw [h97 36 (by decide), hwr.1]; exact nI_le (Nat.le_refl _) (by omega)) c)
    iterate 2 (refine q_wst rfl rfl rfl ?_)
    refine q_wrt rfl rfl rfl ?_
    show Q (some (x1 97 34)) (q_hp b x1)
    rw [h97 34 (by decide)]
    exact hQ x1 (fun c z => hc c (by omega)) hmy
  | succ r1 ih =>
    intro i x1 o1 hi hc h97 hmy
    have hi : i < s := by omega
    have inner : ∀ (r n : Nat) (zj : Int32) (x1 : q_M), n + r = P → zj = nI (p_bs (p_sel is vN A) P i + p_cn (p_sel is vN A i) n) → (∀ c, c < 97 ∨ 117 < c → x1 c = x0 c) → (∀ j, j ≠ 4 → x1 97 j = x0 97 j) → p_my (p_st9 m w P is vN A i n).1 x1 → q_WP none 99 159 79 [some (vr 97), o1, some (vi zj)] [] (q_hp b x1) Q := by
      intro r
      induction r with
      | zero =>
        intro n zj x1 hn hzj hc h97 hmy
        have hn : n = P := by omega
        subst hn hzj
        exact ih (i + 1) x1 o1 (by omega) hc h97 hmy
      | succ r ihr =>
        intro n zj x1 hn hzj hc h97 hmy
        have hnP : n < P := by omega
        have est := p_st9_s m w P is vN A i n
        by_cases hsel : p_sel is vN A i n = true
        · rw [if_pos hsel] at est
          have hJ := p_J_lt hi hnP hsel
          have hq := hwr.2 i n hi hnP hsel
          have hisn : is i n = true := by
            unfold p_sel at hsel
            rw [Bool.and_eq_true] at hsel
            exact hsel.1
          have hd := his i n hi hnP hisn
          have ho := p_ob_sp m P n hP (p_dv_pos hd).2.1
          obtain ⟨g1, g2, g3, g4⟩ := hin i (by omega) n (by omega) (fun z => absurd z (by omega))
          have nxj : zj + 1 = nI (p_bs (p_sel is vN A) P i + p_cn (p_sel is vN A i) (n + 1)) := by
            rw [hzj, nI_1, p_cn_s, if_pos hsel]
            rfl
          have hr8 : p_rst is vN A i n ≤ vN n := Nat.sub_le _ _
          have hv8 := hv n hnP
          subst hzj
          have e124 : x1 124 (p_bs (p_sel is vN A) P i + p_cn (p_sel is vN A i) n) = nI n := by rw [hc 124 (by omega)]; exact hq.1
          have e125 : x1 125 (p_bs (p_sel is vN A) P i + p_cn (p_sel is vN A i) n) = nI (p_rst is vN A i n) := by rw [hc 125 (by omega)]; exact hq.2
          have e119 : x1 119 n = nI (p_ob m P n) := by rw [hc 119 (by omega), h119 n hnP]; exact ho.2
          have e104 : x1 104 (p_ob m P n) = m 104 (p_ob m P n) := by
            rw [hmy.1 104 (by omega) (by omega)]
            exact (g4 _ ho.1).2
          iterate 4 (refine q_wst rfl rfl rfl ?_)
          refine q_wif (fun c => absurd (show x1 97 36 ≤ nI (p_bs (p_sel is vN A) P i + p_cn (p_sel is vN A i) n) from c) (by rw [h97 36 (by decide), hwr.1]; exact nI_ge hJ (by omega))) (fun _ => ?_)
          iterate 4 (refine q_wst rfl rfl rfl ?_)
          refine q_wrd (p_bs (p_sel is vN A) P i + p_cn (p_sel is vN A i) n) rfl (show _ < 30 by omega) rfl (q_at124 b) (by decide) ?_
          iterate 3 (refine q_wst rfl rfl rfl ?_)
          refine q_wrd (p_bs (p_sel is vN A) P i + p_cn (p_sel is vN A i) n) rfl (show _ < 30 by omega) rfl (q_at125 b) (by decide) ?_
          iterate 7 (refine q_wst rfl rfl rfl ?_)
          refine q_wrd (p_bs (p_sel is vN A) P i + p_cn (p_sel is vN A i) n) rfl (show _ < 30 by omega) rfl (q_at124 b) (by decide) ?_
          refine q_wrd n e124 (show n < 30 by omega) rfl (q_at119 b) (by decide) ?_
          refine q_wrd (p_ob m P n) e119 (show p_ob m P n < 30 by omega) rfl (q_at104 b) (by decide) ?_
          refine q_wcl rfl rfl rfl ?_
          show q_Wm 98 162 [vr 97, vi (x1 124 (p_bs (p_sel is vN A) P i + p_cn (p_sel is vN A i) n)), vi (x1 125 (p_bs (p_sel is vN A) P i + p_cn (p_sel is vN A i) n)), vi (x1 104 (p_ob m P n))] (q_hp b x1) _
          rw [e124, e125, e104]
          refine t_deed 97 b (p_st9 m w P is vN A i n).1 x1 w (p_st9 m w P is vN A i n).2 n (p_ob m P n) (p_rst is vN A i n) (m 104 (p_ob m P n)) g1 hmy (by omega) (by omega) e119 (by omega) ?_ _ (fun x2 q1 q2 q3 => ?_)
          · by_cases r0 : p_rst is vN A i n = 0
            · exact Or.inl r0
            · have hqq : p_qq is vN A i n = true := by
                unfold p_qq
                rw [hsel, decide_eq_true r0]
                rfl
              refine Or.inr ⟨hko i n hi hnP hqq, ?_⟩
              have z1 := p_cn_mn (p_qq is vN A i) (P - (n + 1)) (n + 1)
              rw [show n + 1 + (P - (n + 1)) = P by omega, p_cn_s, if_pos hqq] at z1
              have z2 := p_bs_mn (p_qq is vN A) P (s - (i + 1)) (i + 1)
              rw [show i + 1 + (s - (i + 1)) = s by omega] at z2
              have z3 : p_bs (p_qq is vN A) P (i + 1) = p_bs (p_qq is vN A) P i + p_cn (p_qq is vN A i) P := rfl
              omega
          · iterate 2 (refine q_wst rfl rfl rfl ?_)
            refine ihr (n + 1) _ x2 (by omega) nxj (fun c z => (q1 c z).trans (hc c z)) (fun j hj => (q2 j hj).trans (h97 j hj)) ?_
            rw [est]
            exact q3
        · rw [if_neg hsel] at est
          refine ihr (n + 1) zj x1 (by omega) ?_ hc h97 (by rw [est]; exact hmy)
          rw [hzj, p_cn_s, if_neg hsel]
          rfl
    exact inner P 0 _ x1 (by omega) rfl hc h97 hmy
theorem t_moff (b : Bool) (m x : q_M) (w : Nat → Nat) (P s : Nat) (W : Nat → Nat) (is : Nat → Nat → Bool) (vN : Nat → Nat) (A : Nat) (hR : q_R0 P w b m) (h13 : q_r13 m) (hmy : p_my m x) (hrs : p_rs (p_E (fun a c => p_os m P a c P)) 7 2 = some (s, W)) (hA : p_mn (fun a c => p_os m P a c P) s W s = nI A) (hy : p_hy m P s W is vN A) (h30 : p_bs (p_sel is vN A) P s ≤ 30) (hK30 : p_bs (p_qq is vN A) P s ≤ 30) (Q : Option Int32 → q_H → Prop) (n3 : (∃ i n, i < s ∧ n < P ∧ p_qq is vN A i n = true ∧ ¬ q_ko w (p_rst is vN A i n) = true) → ∀ x', q_same x x' → Q (some (-1000000003)) (q_hp b (q_up x' 114 3 (x' 114 3 + 1)))) (n4 : (∀ i n, i < s → n < P → p_qq is vN A i n = true → q_ko w (p_rst is vN A i n) = true) → 30 < P + 2 * p_bs (p_qq is vN A) P s → ∀ x', q_same x x' → Q (some (-1000000004)) (q_hp b (q_up x' 114 4 (x' 114 4 + 1)))) (ns : (∀ i n, i < s → n < P → p_qq is vN A i n = true → q_ko w (p_rst is vN A i n) = true) → P + 2 * p_bs (p_qq is vN A) P s ≤ 30 → ∀ x', (∀ c, c < 97 ∨ c = 127 → x' c = x c) → p_my (p_st9 m w P is vN A s 0).1 x' → Q (some (nI A)) (q_hp b x')) : q_Wm 99 159 [vr 97] (q_hp b x) Q := by
  have hP := hR.1.1
  have h4 : x 97 4 = nI P := by rw [hmy.2.1 4 rfl]; exact hR.1.2.2
  have hag := p_my_ag hmy
  have hr := p_rs_rg 7 2 (by omega) (by omega) hrs
  have hisd : ∀ i n, i < s → n < P → is i n = true → 0 < p_dv m P n := fun i n z1 z2 z3 => ((hy.2.1 i n z1 z2).mp z3).1
  unfold q_Wm
  iterate 1 (refine q_wst rfl rfl rfl ?_)
  refine q_wcl rfl rfl rfl ?_
  refine t_mring 64 b m x P hP h4 hag _ (fun e => by rw [hrs] at e; cases e) (fun s' W' e m3 h3 g1 g2 g3 => ?_)
  rw [hrs] at e
  injection e with e
  injection e with e1 e2
  subst e1 e2
  rw [hA] at g2
  have hs3 := p_mR_same h3
  have q4 : m3 97 4 = nI P := (h3.2.1 4 (by decide) (by decide) (by decide) (by decide) (by decide)).trans h4
  have my3 : p_my m m3 := by
    refine ⟨fun c z1 z2 => (h3.1 c (by omega) (by omega)).trans (hmy.1 c z1 z2), fun j hj => (hs3.2.1 j hj).trans (hmy.2.1 j hj), (h3.1 126 (by decide) (by omega) ▸ hmy.2.2)⟩
  -- behind the writing of the deeds
  have fin : ∀ (u : q_M) (o1 o2 : Option q_V), (∀ c, c ≠ 97 → c ≠ 124 → c ≠ 125 → u c = m3 c) → (∀ j, j ≠ 36 → u 97 j = m3 97 j) → p_wr is vN A P s u → q_WP none 99 159 62 [some (vr 97), o1, o2] [] (q_hp b u) Q := by
    intro u o1 o2 hc h97 hwr
    have hwt := q_R_w hR
    have su : q_same m3 u := by
      refine ⟨fun c hc2 => hc c (fun z => by rw [z] at hc2; cases hc2) (fun z => by rw [z] at hc2; cases hc2) (fun z => by rw [z] at hc2; cases hc2), fun j hj => h97 j (fun z => by rw [z] at hj; cases hj), by rw [hc 126 (by decide) (by decide) (by decide)]⟩
    have myu : p_my m u := ⟨fun c z1 z2 => (hc c (by omega) (by omega) (by omega)).trans (my3.1 c z1 z2), fun j hj => (h97 j (fun z => by rw [z] at hj; cases hj)).trans (my3.2.1 j hj), by rw [hc 126 (by decide) (by decide) (by decide)]; exact my3.2.2⟩
    iterate 1 (refine q_wst rfl rfl rfl ?_)
    refine q_wcl rfl rfl rfl ?_
    refine t_mref _ b u w P s is vN A hP h30 hK30 (by rw [h97 4 (by decide)]; exact q4) hwr (fun n hn => (hy.1 n hn).2) (fun i z1 z2 => by rw [myu.1 98 (by omega) (by omega)]; exact ⟨(hwt i z1 z2).2.1, (hwt i z1 z2).2.2.1, (hwt i z1 z2).2.2.2⟩) _ (fun hbad u2 k2 => ?_) (fun hok u2 k2 => ?_)
    · have s2 : q_same u u2 := ⟨fun c hc => k2 c (fun z => by rw [z] at hc; cases hc), fun j _ => by rw [k2 97 (by decide)], by rw [k2 126 (by decide)]⟩
      iterate 3 (refine q_wst rfl rfl rfl ?_)
      refine q_wif (fun z => absurd (show (-1000000003 : Int32) = 0 from z) (by decide)) (fun _ => ?_)
      iterate 2 (refine q_wst rfl rfl rfl ?_)
      exact q_mf 3 rfl (by decide) rfl rfl rfl (n3 hbad u2 (q_same_tr hs3 (q_same_tr su s2)))
    · have s2 : q_same u u2 := ⟨fun c hc => k2 c (fun z => by rw [z] at hc; cases hc), fun j _ => by rw [k2 97 (by decide)], by rw [k2 126 (by decide)]⟩
      by_cases hroom : P + 2 * p_bs (p_qq is vN A) P s ≤ 30
      · rw [if_pos hroom]
        have hin := p_in9_a (A := A) (vN := vN) hR h13 hisd hroom
        iterate 3 (refine q_wst rfl rfl rfl ?_)
        refine q_wif (fun _ => ?_) (fun z => absurd rfl z)
        iterate 2 (refine q_wst rfl rfl rfl ?_)
        refine t_mdl b m u2 w P s is vN A hR h30 hroom hin hisd (fun n hn => (hy.1 n hn).2) hok ⟨by rw [k2 97 (by decide)]; exact hwr.1, fun i n z1 z2 z3 => by rw [k2 124 (by decide), k2 125 (by decide)]; exact hwr.2 i n z1 z2 z3⟩ (fun n hn => by rw [k2 119 (by decide), hc 119 (by decide) (by decide) (by decide)]; exact h3.2.2.1 n hn) Q (fun x' j1 j2 => ?_) s 0 u2 _ (by omega) (fun _ _ => rfl) (fun _ _ => rfl) ?_
        · rw [k2 97 (by decide), h97 34 (by decide), g2]
          refine ns hok hroom x' (fun c z => ?_) j2
          rw [j1 c z, k2 c (by omega), hc c (by omega) (by omega) (by omega)]
          exact h3.1 c (by omega) (by omega)
        · exact ⟨fun c z1 z2 => (k2 c (by omega)).trans (myu.1 c z1 z2), fun j hj => by rw [k2 97 (by decide)]; exact myu.2.1 j hj, by rw [k2 126 (by decide)]; exact myu.2.2⟩
      · rw [if_neg hroom]
        iterate 3 (refine q_wst rfl rfl rfl ?_)
        refine q_wif (fun z => absurd (show (-1000000004 : Int32) = 0 from z) (by decide)) (fun _ => ?_)
        iterate 2 (refine q_wst rfl rfl rfl ?_)
        exact q_mf 4 rfl (by decide) rfl rfl rfl (n4 hok (by omega) u2 (q_same_tr hs3 (q_same_tr su s2)))
  have wl : ∀ (r i : Nat) (y : Int32) (u : q_M) (o2 : Option q_V), i + r = s → y = nI i → (∀ c, c ≠ 97 → c ≠ 124 → c ≠ 125 → u c = m3 c) → (∀ j, j ≠ 36 → u 97 j = m3 97 j) → u 97 36 = nI (p_bs (p_sel is vN A) P i) → (∀ i' n, i' < i → n < P → p_sel is vN A i' n = true → u 124 (p_bs (p_sel is vN A) P i' + p_cn (p_sel is vN A i') n) = nI n ∧ u 125 (p_bs (p_sel is vN A) P i' + p_cn (p_sel is vN A i') n) = nI (p_rst is vN A i' n)) → q_WP none 99 159 21 [some (vr 97), some (vi y), o2] [] (q_hp b u) Q := by
    intro r
    induction r with
    | zero =>
      intro i y u o2 hi hy2 hc h97 h36 hd
      have hi : i = s := by omega
      subst hi hy2
      iterate 4 (refine q_wst rfl rfl rfl ?_)
      refine q_wif (fun _ => ?_) (fun c => absurd (show u 97 32 ≤ nI i by rw [h97 32 (by decide), g1]; exact nI_le (Nat.le_refl i) (by omega)) c)
      exact fin u _ _ hc h97 ⟨h36, hd⟩
    | succ r ih =>
      intro i y u o2 hi hy2 hc h97 h36 hd
      subst hy2
      have his : i < s := by omega
      have hx : p_nx s i < s := by
        unfold p_nx
        split <;> omega
      have e32 : u 97 32 = nI s := by rw [h97 32 (by decide)]; exact g1
      have e122 : ∀ j, j < s → u 122 j = nI (W j) := fun j hj => by rw [hc 122 (by decide) (by decide) (by decide)]; exact g3 j hj
      have hbi : p_bs (p_sel is vN A) P i + p_cn (p_sel is vN A i) P ≤ 30 := by
        have z2 := p_bs_mn (p_sel is vN A) P (s - (i + 1)) (i + 1)
        rw [show i + 1 + (s - (i + 1)) = s by omega] at z2
        have z3 : p_bs (p_sel is vN A) P (i + 1) = p_bs (p_sel is vN A) P i + p_cn (p_sel is vN A i) P := rfl
        omega
      iterate 4 (refine q_wst rfl rfl rfl ?_)
      refine q_wif (fun c => absurd (show u 97 32 ≤ nI i from c) (by rw [e32]; exact nI_ge (by omega) (by omega))) (fun _ => ?_)
      iterate 4 (refine q_wst rfl rfl rfl ?_)
      refine q_wrd i rfl (show i < 8 by omega) rfl (q_at122 b) (by decide) ?_
      iterate 7 (refine q_wst rfl rfl rfl ?_)
      refine q_wrm rfl (show ¬ u 97 32 = 0 by rw [e32]; exact nI_ne0 (by omega) (by omega)) ?_
      refine q_wrd (p_nx s i) (by show (nI i + 1) - (nI i + 1) / u 97 32 * u 97 32 = _; rw [e32]; exact p_rm s (by omega) i his) (by omega) rfl (q_at122 b) (by decide) ?_
      iterate 2 (refine q_wst rfl rfl rfl ?_)
      refine q_wcl rfl rfl rfl ?_
      show q_Wm 98 160 [vr 97, vi (u 122 i), vi (u 122 (p_nx s i)), vi (u 97 34)] (q_hp b u) _
      rw [e122 i his, e122 _ hx, h97 34 (by decide), g2]
      refine t_wdeeds _ b m u P s i (p_bs (p_sel is vN A) P i) W is vN A hP his hy hbi (by rw [h97 4 (by decide)]; exact q4) h36 (by rw [hc 103 (by decide) (by decide) (by decide)]; exact my3.1 103 (by omega) (by omega)) (fun n hn => by rw [hc 119 (by decide) (by decide) (by decide)]; exact h3.2.2.1 n hn) (fun n hn => by rw [hc 121 (by decide) (by decide) (by decide)]; exact h3.2.2.2 n hn) _ (fun u2 k1 k2 k3 k4 k5 => ?_)
      iterate 2 (refine q_wst rfl rfl rfl ?_)
      refine ih (i + 1) _ u2 _ (by omega) (nI_1 i) (fun c z1 z2 z3 => (k1 c z1 z2 z3).trans (hc c z1 z2 z3)) (fun j hj => (k2 j hj).trans (h97 j hj)) k3 (fun i' n z1 z2 z3 => ?_)
      by_cases e : i' = i
      · subst e
        exact k5 n z2 z3
      · have hlt := p_J_lt (show i' < i by omega) z2 z3
        rw [(k4 _ hlt).1, (k4 _ hlt).2]
        exact hd i' n (by omega) z2 z3
  iterate 1 (refine q_wst rfl rfl rfl ?_)
  refine q_wif (fun _ => ?_) (fun c => absurd (show ¬ (1 : Int32) = 0 by decide) c)
  iterate 3 (refine q_wst rfl rfl rfl ?_)
  iterate 2 (refine q_wst rfl rfl rfl ?_)
  refine wl s 0 _ (q_up m3 97 36 0) _ (by omega) rfl (fun c z1 _ _ => q_up_ne z1) (fun j hj => ?_) ?_ (fun i' n z => absurd z (by omega))
  · rw [q_up_eq]
    unfold upd
    rw [if_neg hj]
  · rw [q_up_eq]
    rfl
