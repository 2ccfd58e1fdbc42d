/-! obligation: pay (the two runs) -/
theorem t_mdue2 (d : Nat) (b : Bool) (m m2 : q_M) (P s : Nat) (hP : P ≤ 30) (hs : s < P) (hp : 0 < p_dv m P s) (e9 : m2 119 s = nI (p_ob m P s)) (e19 : m2 121 s = p_dv m P s) (e5 : m2 104 = m 104) (e7 : m2 97 0 = m 97 0) (Q : Option Int32 → q_H → Prop) (hQ : Q (some (p_clm m P s)) (q_hp b m2)) : q_Wm d 167 [vr 97, vi (nI s)] (q_hp b m2) Q := by
  have hs3 : s < 30 := by omega
  have ho := p_ob_sp m P s hP (p_dv_pos hp).2.1
  unfold q_Wm
  iterate 8 (refine q_wst rfl rfl rfl ?_)
  refine q_wrd s rfl hs3 rfl (q_at119 b) (by decide) ?_
  refine q_wrd (p_ob m P s) e9 (show p_ob m P s < 30 by omega) rfl (q_at104 b) (by decide) ?_
  iterate 6 (refine q_wst rfl rfl rfl ?_)
  refine q_wrd s rfl hs3 rfl (q_at121 b) (by decide) ?_
  iterate 2 (refine q_wst rfl rfl rfl ?_)
  refine q_wdv rfl (by decide) ?_
  iterate 3 (refine q_wst rfl rfl rfl ?_)
  refine q_wrd s rfl hs3 rfl (q_at121 b) (by decide) ?_
  iterate 1 (refine q_wst rfl rfl rfl ?_)
  refine q_wdv rfl (by decide) ?_
  iterate 2 (refine q_wst rfl rfl rfl ?_)
  refine q_wrt rfl rfl rfl ?_
  show Q (some (m2 121 s + (if 0 < m2 97 0 - m2 104 (p_ob m P s) then m2 97 0 - m2 104 (p_ob m P s) else 0) / 30 * (m2 121 s / 20))) (q_hp b m2)
  rw [e19, e5, e7]
  exact hQ
theorem p_Vp_RR {P : Nat} {w : Nat → Nat} {b : Bool} {V : q_M} {a c : Nat} {v : Int32} (hR : q_R0 P w b V) (h13 : q_r13 V) : q_R0 P w b (p_Vp V a c v) ∧ q_r13 (p_Vp V a c v) := by
  have h1 := p_pu_RR (a := a) (v := V 32 a - v) hR h13
  exact p_pu_RR h1.1 h1.2
theorem p_du {D : Nat} (hD : D ≤ 9999) : (if (9999 : Int32) < nI D + 30 then (9999 : Int32) else nI D + 30) = nI (min (D + 30) 9999) ∧ (if nI D + 30 < (9999 : Int32) then nI D + 30 else (9999 : Int32)) = nI (min (D + 30) 9999) := by
  have e : nI D + 30 = nI (D + 30) := nI_add D 30
  rw [e]
  constructor
  · by_cases c : (9999 : Int32) < nI (D + 30)
    · rw [if_pos c]
      have c := (nI_ltI (a := 9999) (by omega) (by omega)).mp c
      rw [Nat.min_eq_right (by omega)]
      rfl
    · rw [if_neg c]
      rw [Nat.min_eq_left]
      rcases Nat.lt_or_ge 9999 (D + 30) with z | z
      · exact absurd (nI_lt (a := 9999) z (by omega)) c
      · exact z
  · by_cases c : nI (D + 30) < (9999 : Int32)
    · rw [if_pos c]
      have c := (nI_ltI (b := 9999) (by omega) (by omega)).mp c
      rw [Nat.min_eq_left (by omega)]
    · rw [if_neg c]
      rw [Nat.min_eq_right]
      · rfl
      · rcases Nat.lt_or_ge (D + 30) 9999 with z | z
        · exact absurd (nI_lt (b := 9999) z (by omega)) c
        · exact z
theorem t_mpay (b : Bool) (m x : q_M) (P : Nat) (w : Nat → Nat) (s v C a c D : Nat) (hR : q_R0 P w b m) (h13 : q_r13 m) (hmy : p_my m x) (hs : s < P) (k1 : m 100 s = 1) (hdv : 0 < p_dv m P s) (hC : p_clm m P s = nI C) (hC8 : C ≤ 100000000) (hv1 : 1 ≤ v) (hv : v < 2 ^ 31) (ha : a < 8) (hc : c < 8) (ea : m 103 (p_ob m P s) = nI a) (ec : m 103 s = nI c) (hD : D ≤ 9999) (eD : m 97 0 = nI D) (Q : Option Int32 → q_H → Prop) (n3 : (C < v ∨ m 112 a < nI v ∨ (v < C ∧ ¬ q_ko w (C - v) = true)) → ∀ x', q_same x x' → Q (some (-1000000003)) (q_hp b (q_up x' 114 3 (x' 114 3 + 1)))) (n4 : v < C → ¬ m 112 a < nI v → q_ko w (C - v) = true → 28 < P → ∀ x', q_same x x' → Q (some (-1000000004)) (q_hp b (q_up x' 114 4 (x' 114 4 + 1)))) (ns : v ≤ C → ¬ m 112 a < nI v → (C - v = 0 ∨ (q_ko w (C - v) = true ∧ P + 2 ≤ 30)) → ∀ x', (∀ c, c < 97 ∨ c = 127 → x' c = x c) → p_my (p_de (p_Vp m a c (nI v)) w P s (p_ob m P s) (C - v) (nI (min (D + 30) 9999))) x' → Q (some (nI (C - v))) (q_hp b x')) : q_Wm 99 168 [vr 97, vi (nI s), vi (nI v)] (q_hp b x) Q := by
  have hP := hR.1.1
  have hs3 : s < 30 := by omega
  have h4 : x 97 4 = nI P := by rw [hmy.2.1 4 rfl]; exact hR.1.2.2
  have hpp := p_dv_pos hdv
  have ho := p_ob_sp m P s hP hpp.2.1
  have hf3 : p_ob m P s < 30 := by omega
  have hag := p_my_ag hmy
  unfold q_Wm
  iterate 2 (refine q_wst rfl rfl rfl ?_)
  refine q_wcl rfl rfl rfl ?_
  refine t_misPiece (P := P) _ b x _ hP h4 _ (fun _ _ _ => ?_) (fun hn => absurd rfl (hn s hs))
  iterate 1 (refine q_wst rfl rfl rfl ?_)
  refine q_wif (fun c => absurd (show (1 : Int32) = 0 from c) (by decide)) (fun _ => ?_)
  iterate 3 (refine q_wst rfl rfl rfl ?_)
  refine q_wif (fun _ => ?_) (fun c => absurd (nI_le (a := 1) hv1 hv) c)
  iterate 2 (refine q_wst rfl rfl rfl ?_)
  refine q_wcl rfl rfl rfl ?_
  refine t_noDebt 64 b m x P s hP hs h4 hag _ (fun z => absurd k1 z) (fun _ m2 h2 => ⟨fun z => absurd hdv (by rw [z]; decide), fun _ => ?_⟩)
  have e9 : m2 119 s = nI (p_ob m P s) := (h2.2.2.1 s hs).trans ho.2
  have q2 : ∀ c, 98 ≤ c → c ≤ 114 → m2 c = m c := fun c z1 z2 => (h2.1 c (by omega) (by omega)).trans (hmy.1 c z1 z2)
  have q97 : ∀ j, q_ms j = true → m2 97 j = m 97 j := fun j hj => by
    rw [← hmy.2.1 j hj]
    unfold q_ms at hj
    simp only [Bool.or_eq_true, decide_eq_true_eq] at hj
    exact h2.2.1 j (by omega) (by omega) (by omega)
  have hsm := p_mD_same h2
  iterate 3 (refine q_wst rfl rfl rfl ?_)
  refine q_wif (fun _ => ?_) (fun z => absurd rfl z)
  iterate 5 (refine q_wst rfl rfl rfl ?_)
  refine q_wrd s rfl hs3 rfl (q_at119 b) (by decide) ?_
  refine q_wrd (p_ob m P s) e9 hf3 rfl (q_at103 b) (by decide) ?_
  show q_WP none 99 168 47 [some (vr 97), some (vi (nI s)), some (vi (nI v)), some (vi 0), none] [vi (m2 103 (p_ob m P s))] (q_hp b m2) Q
  rw [q2 103 (by omega) (by omega), ea]
  iterate 4 (refine q_wst rfl rfl rfl ?_)
  refine q_wcl rfl rfl rfl ?_
  refine t_mdue2 _ b m m2 P s hP hs hdv e9 (h2.2.2.2 s hs) (q2 104 (by omega) (by omega)) (q97 0 rfl) _ ?_
  rw [hC]
  have lost : (C < v ∨ m 112 a < nI v ∨ (v < C ∧ ¬ q_ko w (C - v) = true)) → ∀ (o3 o4 : Option q_V), q_WP none 99 168 69 [some (vr 97), some (vi (nI s)), some (vi (nI v)), o3, o4] [] (q_hp b m2) Q := by
    intro h o3 o4
    iterate 2 (refine q_wst rfl rfl rfl ?_)
    exact q_mf 3 rfl (by decide) rfl rfl rfl (n3 h m2 hsm)
  iterate 1 (refine q_wst rfl rfl rfl ?_)
  refine q_wif (fun c1 => ?_) (fun c1 => ?_)
  · have c1 : nI C < nI v := c1
    exact lost (Or.inl ((nI_ltI (by omega) hv).mp c1)) _ _
  · have c1 : ¬ nI C < nI v := c1
    rw [nI_ltI (by omega) hv] at c1
    iterate 3 (refine q_wst rfl rfl rfl ?_)
    refine q_wrd a rfl ha rfl (q_at112 b) (by decide) ?_
    iterate 2 (refine q_wst rfl rfl rfl ?_)
    refine q_wif (fun c2 => ?_) (fun c2 => ?_)
    · have c2 : nI v ≤ m2 112 a := c2
      rw [q2 112 (by omega) (by omega)] at c2
      have c2 : ¬ m 112 a < nI v := Int32.not_lt.mpr c2
      iterate 3 (refine q_wst rfl rfl rfl ?_)
      iterate 4 (refine q_wst rfl rfl rfl ?_)
      refine q_wwr 0 rfl (by decide) rfl (q_at124 b) (by decide) ?_
      iterate 5 (refine q_wst rfl rfl rfl ?_)
      refine q_wcl rfl rfl rfl ?_
      refine t_mdue2 _ b m (q_up (q_up m2 97 36 1) 124 0 (nI s)) P s hP hs hdv e9 (h2.2.2.2 s hs) (q2 104 (by omega) (by omega)) (q97 0 rfl) _ ?_
      rw [hC]
      iterate 2 (refine q_wst rfl rfl rfl ?_)
      refine q_wwr 0 rfl (by decide) rfl (q_at125 b) (by decide) ?_
      iterate 1 (refine q_wst rfl rfl rfl ?_)
      refine q_wcl rfl rfl rfl ?_
      obtain ⟨x5, hx5⟩ : ∃ x5, x5 = q_up (q_up (q_up m2 97 36 1) 124 0 (nI s)) 125 0 (nI C - nI v) := ⟨_, rfl⟩
      show q_Wm 98 161 [vr 97] (q_hp b (q_up (q_up (q_up m2 97 36 1) 124 0 (nI s)) 125 0 (nI C - nI v))) _
      rw [← hx5]
      have k5 : ∀ c, c ≠ 97 → c ≠ 124 → c ≠ 125 → x5 c = m2 c := fun c z1 z2 z3 => by rw [hx5, q_up_ne z3, q_up_ne z2, q_up_ne z1]
      have k97 : ∀ j, j ≠ 36 → x5 97 j = m2 97 j := fun j hj => by
        rw [hx5, q_up_ne (by decide), q_up_ne (by decide), q_up_eq]
        unfold upd
        rw [if_neg hj]
      have k36 : x5 97 36 = nI 1 := by
        rw [hx5, q_up_ne (by decide), q_up_ne (by decide), q_up_eq]
        rfl
      have k125 : x5 125 0 = nI (C - v) := by
        rw [hx5, q_up_eq, pk_sub (by omega)]
        rfl
      have hs5 : q_same m2 x5 := by
        rw [hx5]
        exact q_same_up (q_same_up (q_same_up (q_same_rf m2) rfl (fun _ => rfl) (fun h => by cases h)) rfl (fun h => by cases h) (fun h => by cases h)) rfl (fun h => by cases h) (fun h => by cases h)
      have hwr := q_R_w hR
      refine t_refusal _ b x5 w P 1 (fun _ => C - v) hP (by omega) (by rw [k97 4 (by decide), q97 4 rfl]; exact hR.1.2.2) k36 (fun i hi => ?_) (fun i h1 h2 => by rw [k5 98 (by decide) (by decide) (by decide), q2 98 (by omega) (by omega)]; exact ⟨(hwr i h1 h2).2.1, (hwr i h1 h2).2.2.1, (hwr i h1 h2).2.2.2⟩) _ (fun hbad x6 g6 => ?_) (fun hok x6 g6 => ?_)
      · have : i = 0 := by omega
        rw [this]
        exact ⟨by omega, k125⟩
      · obtain ⟨i, hi, z1, z2⟩ := hbad
        have hs6 : q_same x5 x6 := ⟨fun c hc => g6 c (fun z => by rw [z] at hc; cases hc), fun j _ => by rw [g6 97 (by decide)], by rw [g6 126 (by decide)]⟩
        iterate 3 (refine q_wst rfl rfl rfl ?_)
        refine q_wif (fun z => absurd (show (-1000000003 : Int32) = 0 from z) (by decide)) (fun _ => ?_)
        iterate 2 (refine q_wst rfl rfl rfl ?_)
        exact q_mf 3 rfl (by decide) rfl rfl rfl (n3 (Or.inr (Or.inr ⟨by omega, z2⟩)) x6 (q_same_tr hsm (q_same_tr hs5 hs6)))
      · have hok := hok 0 (by omega)
        have hs6 : q_same x5 x6 := ⟨fun c hc => g6 c (fun z => by rw [z] at hc; cases hc), fun j _ => by rw [g6 97 (by decide)], by rw [g6 126 (by decide)]⟩
        have ern : p_rn (fun _ => C - v) 1 = if C - v = 0 then 0 else 1 := rfl
        rw [ern]
        by_cases hr : P + 2 * (if C - v = 0 then 0 else 1) ≤ 30
        · rw [if_pos hr]
          have hfit : C - v = 0 ∨ (q_ko w (C - v) = true ∧ P + 2 ≤ 30) := by
            rcases hok with z | z
            · exact Or.inl z
            · by_cases z2 : C - v = 0
              · exact Or.inl z2
              · rw [if_neg z2] at hr
                exact Or.inr ⟨z, by omega⟩
          have m6 : p_my m x6 := by
            refine ⟨fun c z1 z2 => ?_, fun j hj => ?_, ?_⟩
            · rw [g6 c (by omega), k5 c (by omega) (by omega) (by omega)]
              exact q2 c z1 z2
            · rw [g6 97 (by decide), k97 j (fun z => by rw [z] at hj; cases hj)]
              exact q97 j hj
            · rw [g6 126 (by decide), k5 126 (by decide) (by decide) (by decide), h2.1 126 (by decide) (by omega)]
              exact hmy.2.2
          have r12 := hR.2.2.2.2.2.2.2.2.2.2.2.1
          have hV1 := p_pu_RR (a := a) (v := m 32 a - nI v) hR h13
          have r12' := hV1.1.2.2.2.2.2.2.2.2.2.2.2.1
          have m7 : p_my (p_pu m a (m 32 a - nI v)) (q_up x6 112 a (m 32 a - nI v)) := p_my_pu m6
          have m8 : p_my (p_Vp m a c (nI v)) (q_up (q_up x6 112 a (m 32 a - nI v)) 112 c (p_pu m a (m 32 a - nI v) 32 c + nI v)) := p_my_pu m7
          iterate 3 (refine q_wst rfl rfl rfl ?_)
          refine q_wif (fun _ => ?_) (fun z => absurd rfl z)
          iterate 4 (refine q_wst rfl rfl rfl ?_)
          refine q_wrd a rfl ha rfl (q_at112 b) (by decide) ?_
          iterate 2 (refine q_wst rfl rfl rfl ?_)
          refine q_wwr a rfl ha rfl (q_at112 b) (by decide) ?_
          refine q_wh (h' := q_hp b (q_up x6 112 a (m 32 a - nI v))) (by
            show q_hp b (q_up x6 112 a (x6 112 a - nI v)) = _
            rw [m6.1 112 (by omega) (by omega), r12 a ha]) ?_
          have e103 : q_up x6 112 a (m 32 a - nI v) 103 s = nI c := by
            rw [q_up_ne (by decide), m6.1 103 (by omega) (by omega)]
            exact ec
          iterate 5 (refine q_wst rfl rfl rfl ?_)
          refine q_wrd s rfl hs3 rfl (q_at103 b) (by decide) ?_
          iterate 1 (refine q_wst rfl rfl rfl ?_)
          refine q_wrd c e103 hc rfl (q_at112 b) (by decide) ?_
          iterate 2 (refine q_wst rfl rfl rfl ?_)
          refine q_wwr c e103 hc rfl (q_at112 b) (by decide) ?_
          refine q_wh (h' := q_hp b (q_up (q_up x6 112 a (m 32 a - nI v)) 112 c (p_pu m a (m 32 a - nI v) 32 c + nI v))) (by
            show q_hp b (q_up (q_up x6 112 a (m 32 a - nI v)) 112 c (q_up x6 112 a (m 32 a - nI v) 112 c + nI v)) = _
            rw [m7.1 112 (by omega) (by omega), r12' c hc]) ?_
          obtain ⟨x8, hx8⟩ : ∃ x8, x8 = q_up (q_up x6 112 a (m 32 a - nI v)) 112 c (p_pu m a (m 32 a - nI v) 32 c + nI v) := ⟨_, rfl⟩
          rw [← hx8] at m8 ⊢
          have k8 : ∀ c, c ≠ 112 → x8 c = x6 c := fun c z => by rw [hx8, q_up_ne z, q_up_ne z]
          have e125 : x8 125 0 = nI (C - v) := by rw [k8 125 (by decide), g6 125 (by decide)]; exact k125
          have hR8 := p_Vp_RR (a := a) (c := c) (v := nI v) hR h13
          iterate 5 (refine q_wst rfl rfl rfl ?_)
          refine q_wrd 0 rfl (by decide) rfl (q_at125 b) (by decide) ?_
          iterate 6 (refine q_wst rfl rfl rfl ?_)
          refine q_wcl rfl rfl rfl ?_
          show q_Wm 98 162 [vr 97, vi (nI s), vi (x8 125 0), vi (if x8 97 0 + 30 < 9999 then x8 97 0 + 30 else 9999)] (q_hp b x8) _
          rw [e125, k8 97 (by decide), m6.2.1 0 rfl, eD, (p_du hD).2]
          refine t_deed _ b (p_Vp m a c (nI v)) x8 w P s (p_ob m P s) (C - v) _ hR8.1 m8 hs ho.1 (by rw [k8 119 (by decide), g6 119 (by decide), k5 119 (by decide) (by decide) (by decide)]; exact e9) (by omega) hfit _ (fun x9 g9 g97 hm9 => ?_)
          iterate 3 (refine q_wst rfl rfl rfl ?_)
          refine q_wrd 0 rfl (by decide) rfl (q_at125 b) (by decide) ?_
          refine q_wrt rfl rfl rfl ?_
          show Q (some (x9 125 0)) (q_hp b x9)
          rw [g9 125 (by omega), e125]
          refine ns (by omega) c2 hfit x9 (fun c z => ?_) hm9
          rw [g9 c (by omega), k8 c (by omega), g6 c (by omega), k5 c (by omega) (by omega) (by omega)]
          exact h2.1 c (by omega) (by omega)
        · rw [if_neg hr]
          have z0 : ¬ C - v = 0 := fun z => hr (by rw [if_pos z]; omega)
          rw [if_neg z0] at hr
          iterate 3 (refine q_wst rfl rfl rfl ?_)
          refine q_wif (fun z => absurd (show (-1000000004 : Int32) = 0 from z) (by decide)) (fun _ => ?_)
          iterate 2 (refine q_wst rfl rfl rfl ?_)
          exact q_mf 4 rfl (by decide) rfl rfl rfl (n4 (by omega) c2 (hok.resolve_left z0) (by omega) x6 (q_same_tr hsm (q_same_tr hs5 hs6)))
    · have c2 : ¬ nI v ≤ m2 112 a := c2
      rw [q2 112 (by omega) (by omega)] at c2
      exact lost (Or.inr (Or.inl (Int32.not_le.mp c2))) _ _
