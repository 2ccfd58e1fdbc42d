/-! obligation: ring -/
theorem p_os_xx (m : q_M) (P a : Nat) : ∀ n, p_os m P a a n = 0
  | 0 => rfl
  | n + 1 => by
    unfold p_os
    rw [if_neg (fun z => (p_dv_pos z.1).2.2.1 (z.2.2.trans z.2.1.symm))]
    exact p_os_xx m P a n
def p_mR (m x m' : q_M) (P : Nat) : Prop := (∀ c, c ≠ 97 → (c < 115 ∨ c = 117 ∨ 123 < c) → m' c = x c) ∧ (∀ j, j ≠ 22 → j ≠ 29 → j ≠ 30 → j ≠ 32 → j ≠ 34 → m' 97 j = x 97 j) ∧ (∀ p, p < P → m' 119 p = p_O m P p) ∧ (∀ s, s < P → m' 121 s = p_dv m P s)
theorem p_rm : ∀ s, s < 9 → ∀ i, i < s → (nI i + 1) - (nI i + 1) / nI s * nI s = nI (p_nx s i) := by decide +kernel
theorem t_mring (d : Nat) (b : Bool) (m x : q_M) (P : Nat) (hP : P ≤ 30) (h4 : x 97 4 = nI P) (hag : p_ag3 m x) (Q : Option Int32 → q_H → Prop) (hn : p_rs (p_E (fun a c => p_os m P a c P)) 7 2 = none → ∀ m', p_mR m x m' P → Q (some 0) (q_hp b m')) (hs : ∀ s W, p_rs (p_E (fun a c => p_os m P a c P)) 7 2 = some (s, W) → ∀ m', p_mR m x m' P → m' 97 32 = nI s → m' 97 34 = p_mn (fun a c => p_os m P a c P) s W s → (∀ j, j < s → m' 122 j = nI (W j)) → Q (some 1) (q_hp b m')) : q_Wm (d + 34) 155 [vr 97] (q_hp b x) Q := by
  obtain ⟨ow, how⟩ : ∃ ow : Nat → Nat → Int32, ow = fun a c => p_os m P a c P := ⟨_, rfl⟩
  rw [← how] at hn hs
  have amt : ∀ (s : Nat) (W : Nat → Nat) (r i : Nat) (y : Int32) (m1 : q_M) (o2 : Option q_V), 2 ≤ s → s ≤ 8 → (∀ j, j < s → W j < 8) → p_rs (p_E ow) 7 2 = some (s, W) → i + r = s → y = nI i → p_mR m x m1 P → m1 97 32 = nI s → m1 97 34 = p_mn ow s W i → (∀ j, j < s → m1 122 j = nI (W j)) → (∀ a c, a < 8 → c < 8 → m1 123 (8 * a + c) = ow a c) → q_WP none (d + 34) 155 115 [some (vr 97), some (vi y), o2] [] (q_hp b m1) Q := by
    intro s W r
    induction r with
    | zero =>
      intro i y m1 o2 hs2 hs8 hW hrs hi hy hR h32 h34 h122 h123
      have hi : i = s := by omega
      subst hi hy
      iterate 4 (refine q_wst rfl rfl rfl ?_)
      refine q_wif (fun _ => ?_) (fun c => absurd (show m1 97 32 ≤ nI i by rw [h32]; exact nI_le (Nat.le_refl i) (by omega)) c)
      iterate 1 (refine q_wst rfl rfl rfl ?_)
      exact q_wrt rfl rfl rfl (hs i W hrs m1 hR h32 h34 h122)
    | succ r ih =>
      intro i y m1 o2 hs2 hs8 hW hrs hi hy hR h32 h34 h122 h123
      subst hy
      have his : i < s := by omega
      have hx : p_nx s i < s := by
        unfold p_nx
        split <;> omega
      have w1 := hW i his
      have w2 := hW _ hx
      iterate 4 (refine q_wst rfl rfl rfl ?_)
      refine q_wif (fun c => absurd (show m1 97 32 ≤ nI i from c) (by rw [h32]; exact nI_ge (by omega) (by omega))) (fun _ => ?_)
      iterate 9 (refine q_wst rfl rfl rfl ?_)
      refine q_wrd i rfl (show i < 8 by omega) rfl (q_at122 b) (by decide) ?_
      iterate 8 (refine q_wst rfl rfl rfl ?_)
      refine q_wrm rfl (show ¬ m1 97 32 = 0 by rw [h32]; exact nI_ne0 (by omega) (by omega)) ?_
      refine q_wrd (p_nx s i) (by show (nI i + 1) - (nI i + 1) / m1 97 32 * m1 97 32 = _; rw [h32]; exact p_rm s (by omega) i his) (by omega) rfl (q_at122 b) (by decide) ?_
      iterate 1 (refine q_wst rfl rfl rfl ?_)
      refine q_wrd (8 * W i + W (p_nx s i)) (by show nI 8 * m1 122 i + m1 122 (p_nx s i) = _; rw [h122 i his, h122 _ hx, pk_mul, nI_add]) (by omega) rfl (q_at123 b) (by decide) ?_
      iterate 2 (refine q_wst rfl rfl rfl ?_)
      iterate 2 (refine q_wst rfl rfl rfl ?_)
      have e34 : (if m1 123 (8 * W i + W (p_nx s i)) < m1 97 34 then m1 123 (8 * W i + W (p_nx s i)) else m1 97 34) = p_mn ow s W (i + 1) := by
        rw [h123 _ _ w1 w2, h34]
        rfl
      refine ih (i + 1) _ (q_up m1 97 34 (if m1 123 (8 * W i + W (p_nx s i)) < m1 97 34 then m1 123 (8 * W i + W (p_nx s i)) else m1 97 34)) _ hs2 hs8 hW hrs (by omega) (nI_1 i) ⟨fun c z1 z2 => (q_up_ne z1).trans (hR.1 c z1 z2), fun j z1 z2 z3 z4 z5 => ?_, fun p hp => hR.2.2.1 p hp, fun t ht => hR.2.2.2 t ht⟩ h32 ?_ h122 h123
      · rw [q_up_eq]
        unfold upd
        rw [if_neg z5]
        exact hR.2.1 j z1 z2 z3 z4 z5
      · rw [q_up_eq]
        unfold upd
        rw [if_pos rfl]
        exact e34
  have sz : ∀ (r s : Nat) (m1 : q_M) (o1 o2 : Option q_V), s + r = 9 → 2 ≤ s → p_mR m x m1 P → m1 97 32 = nI s → (∀ a c, a < 8 → c < 8 → m1 123 (8 * a + c) = ow a c) → p_NS (p_E ow) s → p_rs (p_E ow) 7 2 = p_rs (p_E ow) r s → q_WP none (d + 34) 155 63 [some (vr 97), o1, o2] [] (q_hp b m1) Q := by
    intro r
    induction r with
    | zero =>
      intro s m1 o1 o2 hs9 hs2 hR h32 h123 hN e
      have hs9 : s = 9 := by omega
      subst hs9
      iterate 4 (refine q_wst rfl rfl rfl ?_)
      refine q_wif (fun _ => ?_) (fun c => absurd (show (8 : Int32) < m1 97 32 by rw [h32]; decide) c)
      iterate 4 (refine q_wst rfl rfl rfl ?_)
      refine q_wif (fun c => absurd (show m1 97 32 ≤ 8 from c) (by rw [h32]; decide)) (fun _ => ?_)
      iterate 1 (refine q_wst rfl rfl rfl ?_)
      exact q_wrt rfl rfl rfl (hn e m1 hR)
    | succ r ih =>
      intro s m1 o1 o2 hs9 hs2 hR h32 h123 hN e
      have hs8 : s ≤ 8 := by omega
      rw [p_rs_s _ r s] at e
      iterate 4 (refine q_wst rfl rfl rfl ?_)
      refine q_wif (fun c => absurd (show nI 8 < m1 97 32 from c) (by rw [h32]; exact nI_nlt (by omega) (by omega))) (fun _ => ?_)
      iterate 3 (refine q_wst rfl rfl rfl ?_)
      refine q_wcl rfl rfl rfl ?_
      show q_Wm (d + 33) 156 [vr 97, vi (m1 97 32)] (q_hp b m1) _
      rw [h32]
      refine t_fro (d + 31) b m1 ow s hs2 hs8 h123 _ (fun W m2 g1 g2 g3 => ?_) (fun m2 g1 g2 => ?_)
      · rw [p_ss_hh hs2 hs8 hN] at g1
        have hW := p_ss_rg hs2 g1
        rw [g1] at e
        have k32 : m2 97 32 = nI s := by rw [g2 97 (by decide)]; exact h32
        iterate 1 (refine q_wst rfl rfl rfl ?_)
        refine q_wif (fun _ => ?_) (fun c => absurd (show ¬ (1 : Int32) = 0 by decide) c)
        iterate 4 (refine q_wst rfl rfl rfl ?_)
        refine q_wif (fun _ => ?_) (fun c => absurd (show m2 97 32 ≤ nI 8 by rw [k32]; exact nI_le (by omega) (by omega)) c)
        iterate 3 (refine q_wst rfl rfl rfl ?_)
        iterate 2 (refine q_wst rfl rfl rfl ?_)
        refine amt s W s 0 _ (q_up m2 97 34 2147483647) _ hs2 hs8 hW e (by omega) rfl ⟨fun c z1 z2 => ?_, fun j z1 z2 z3 z4 z5 => ?_, fun p hp => ?_, fun t ht => ?_⟩ k32 rfl g3 (fun a c ha hc => ?_)
        · rw [q_up_ne z1, g2 c (by omega)]
          exact hR.1 c z1 z2
        · rw [q_up_eq]
          unfold upd
          rw [if_neg z5, g2 97 (by decide)]
          exact hR.2.1 j z1 z2 z3 z4 z5
        · rw [q_up_ne (by decide), g2 119 (by decide)]
          exact hR.2.2.1 p hp
        · rw [q_up_ne (by decide), g2 121 (by decide)]
          exact hR.2.2.2 t ht
        · rw [q_up_ne (by decide), g2 123 (by decide)]
          exact h123 a c ha hc
      · rw [p_ss_hh hs2 hs8 hN] at g1
        rw [g1] at e
        iterate 1 (refine q_wst rfl rfl rfl ?_)
        refine q_wif (fun c => absurd rfl c) (fun _ => ?_)
        iterate 6 (refine q_wst rfl rfl rfl ?_)
        iterate 1 (refine q_wst rfl rfl rfl ?_)
        have k32 : m2 97 32 = nI s := by rw [g2 97 (by decide)]; exact h32
        refine ih (s + 1) (q_up m2 97 32 (m2 97 32 + 1)) _ _ (by omega) (by omega) ⟨fun c z1 z2 => ?_, fun j z1 z2 z3 z4 z5 => ?_, fun p hp => ?_, fun t ht => ?_⟩ ?_ (fun a c ha hc => ?_) (p_NS_s hs2 hN g1) e
        · rw [q_up_ne z1, g2 c (by omega)]
          exact hR.1 c z1 z2
        · rw [q_up_eq]
          unfold upd
          rw [if_neg z4, g2 97 (by decide)]
          exact hR.2.1 j z1 z2 z3 z4 z5
        · rw [q_up_ne (by decide), g2 119 (by decide)]
          exact hR.2.2.1 p hp
        · rw [q_up_ne (by decide), g2 121 (by decide)]
          exact hR.2.2.2 t ht
        · rw [q_up_eq, k32, nI_1]
          rfl
        · rw [q_up_ne (by decide), g2 123 (by decide)]
          exact h123 a c ha hc
  have tab : ∀ (r i : Nat) (y : Int32) (m1 : q_M) (o2 : Option q_V), i + r = 8 → y = nI i → p_mR m x m1 P → (∀ a c, a < i → c < 8 → m1 123 (8 * a + c) = ow a c) → q_WP none (d + 34) 155 6 [some (vr 97), some (vi y), o2] [] (q_hp b m1) Q := by
    intro r
    induction r with
    | zero =>
      intro i y m1 o2 hi hy hR h123
      have hi : i = 8 := by omega
      subst hi hy
      iterate 3 (refine q_wst rfl rfl rfl ?_)
      iterate 3 (refine q_wst rfl rfl rfl ?_)
      refine sz 7 2 (q_up m1 97 32 2) _ _ rfl (by omega) ⟨fun c z1 z2 => (q_up_ne z1).trans (hR.1 c z1 z2), fun j z1 z2 z3 z4 z5 => ?_, fun p hp => hR.2.2.1 p hp, fun t ht => hR.2.2.2 t ht⟩ rfl (fun a c ha hc => h123 a c ha hc) (fun t W h1 h2 => absurd h2 (by omega)) rfl
      rw [q_up_eq]
      unfold upd
      rw [if_neg z4]
      exact hR.2.1 j z1 z2 z3 z4 z5
    | succ r ih =>
      intro i y m1 o2 hi hy hR h123
      subst hy
      have hi8 : i < 8 := by omega
      have row : ∀ (r2 j : Nat) (y : Int32) (m1 : q_M), j + r2 = 8 → y = nI j → p_mR m x m1 P → (∀ a c, a < i → c < 8 → m1 123 (8 * a + c) = ow a c) → (∀ c, c < j → m1 123 (8 * i + c) = ow i c) → q_WP none (d + 34) 155 14 [some (vr 97), some (vi (nI i)), some (vi y)] [] (q_hp b m1) Q := by
        intro r2
        induction r2 with
        | zero =>
          intro j y m1 hj hy hR h123 hrow
          have hj : j = 8 := by omega
          subst hj hy
          iterate 3 (refine q_wst rfl rfl rfl ?_)
          iterate 2 (refine q_wst rfl rfl rfl ?_)
          refine ih (i + 1) _ m1 _ (by omega) (nI_1 i) hR (fun a c ha hc => ?_)
          by_cases e : a = i
          · rw [e]
            exact hrow c hc
          · exact h123 a c (by omega) hc
        | succ r2 ih2 =>
          intro j y m1 hj hy hR h123 hrow
          subst hy
          have hj8 : j < 8 := by omega
          have nxt : ∀ v, v = ow i j → q_WP none (d + 34) 155 14 [some (vr 97), some (vi (nI i)), some (vi (nI j + 1))] [] (q_hp b (q_up m1 123 (8 * i + j) v)) Q := by
            intro v hv
            refine ih2 (j + 1) _ _ (by omega) (nI_1 j) ⟨fun c z1 z2 => (q_up_ne (by omega)).trans (hR.1 c z1 z2), fun k z1 z2 z3 z4 z5 => ?_, fun p hp => ?_, fun t ht => ?_⟩ (fun a c ha hc => ?_) (fun c hc => ?_)
            · rw [q_up_ne (by decide)]
              exact hR.2.1 k z1 z2 z3 z4 z5
            · rw [q_up_ne (by decide)]
              exact hR.2.2.1 p hp
            · rw [q_up_ne (by decide)]
              exact hR.2.2.2 t ht
            · rw [q_up_eq]
              unfold upd
              rw [if_neg (by omega)]
              exact h123 a c ha hc
            · rw [q_up_eq]
              unfold upd
              by_cases e : c = j
              · rw [e, if_pos rfl]
                exact hv
              · rw [if_neg (by omega)]
                exact hrow c (by omega)
          iterate 3 (refine q_wst rfl rfl rfl ?_)
          refine q_wif (fun c => absurd c (nI_ge (b := 8) hj8 (by omega))) (fun _ => ?_)
          iterate 10 (refine q_wst rfl rfl rfl ?_)
          refine q_wif (fun c => ?_) (fun c => ?_)
          · iterate 3 (refine q_wst rfl rfl rfl ?_)
            refine q_wcl rfl rfl rfl ?_
            refine t_mowed _ b m m1 P i j hP hi8 hj8 ((hR.2.1 4 (by decide) (by decide) (by decide) (by decide) (by decide)).trans h4) ((hR.1 103 (by decide) (by omega)).trans hag.2.1) hR.2.2.1 hR.2.2.2 _ ?_
            refine q_wwr (8 * i + j) (by show nI 8 * nI i + nI j = _; rw [pk_mul, nI_add]) (by omega) rfl (q_at123 b) (by decide) ?_
            iterate 2 (refine q_wst rfl rfl rfl ?_)
            exact nxt _ (by rw [how])
          · have c : nI i = nI j := Decidable.not_not.mp c
            have c : i = j := q_nIle (by omega) (by omega) c
            iterate 2 (refine q_wst rfl rfl rfl ?_)
            refine q_wwr (8 * i + j) (by show nI 8 * nI i + nI j = _; rw [pk_mul, nI_add]) (by omega) rfl (q_at123 b) (by decide) ?_
            iterate 2 (refine q_wst rfl rfl rfl ?_)
            refine nxt _ ?_
            rw [how, ← c]
            exact (p_os_xx m P i P).symm
      iterate 3 (refine q_wst rfl rfl rfl ?_)
      refine q_wif (fun c => absurd c (nI_ge (b := 8) hi8 (by omega))) (fun _ => ?_)
      iterate 2 (refine q_wst rfl rfl rfl ?_)
      exact row 8 0 _ m1 rfl rfl hR h123 (fun c hc => absurd hc (by omega))
  unfold q_Wm
  iterate 1 (refine q_wst rfl rfl rfl ?_)
  refine q_wcl rfl rfl rfl ?_
  refine t_mdebts d b m x P hP h4 hag _ (fun m2 h2 => ?_)
  iterate 2 (refine q_wst rfl rfl rfl ?_)
  exact tab 8 0 _ m2 _ rfl rfl ⟨fun c z1 z2 => h2.1 c z1 (by omega), fun j z1 z2 z3 _ _ => h2.2.1 j z1 z2 z3, h2.2.2.1, h2.2.2.2⟩ (fun a c ha => absurd ha (by omega))
theorem p_mR_same {m x m2 : q_M} {P : Nat} (h : p_mR m x m2 P) : q_same x m2 := by
  refine ⟨fun c hc => ?_, fun j hj => ?_, by rw [h.1 126 (by decide) (by omega)]⟩
  · unfold q_mc at hc
    simp only [Bool.or_eq_true, Bool.and_eq_true, decide_eq_true_eq] at hc
    exact h.1 c (by omega) (by omega)
  · unfold q_ms at hj
    simp only [Bool.or_eq_true, decide_eq_true_eq] at hj
    exact h.2.1 j (by omega) (by omega) (by omega) (by omega) (by omega)
/-- debts and ring in the class's cells -/
def p_cDR (m m' : q_M) (P : Nat) : Prop := ∃ m1, p_cD m m1 P ∧ p_cR (fun a c => p_os m P a c P) m1 m'
theorem p_cDR_c {m m' : q_M} {P : Nat} (h : p_cDR m m' P) : ∀ c, c < 5 ∨ (12 < c ∧ c < 18) ∨ 31 < c → m' c = m c := by
  obtain ⟨m1, h1, h2⟩ := h
  exact fun c hc => (h2.1 c (by omega) (by omega)).trans (h1.1 c (by omega))
theorem p_cDR_same {m x : q_M} {P : Nat} (h : p_cDR m x P) : q_same m x := by
  have hc := p_cDR_c h
  refine ⟨fun c hc2 => hc c ?_, fun j _ => by rw [hc 97 (by omega)], by rw [hc 126 (by omega)]⟩
  unfold q_mc at hc2
  simp only [Bool.or_eq_true, Bool.and_eq_true, decide_eq_true_eq] at hc2
  omega
theorem p_cDR_ag {m x : q_M} {P : Nat} (h : p_cDR m x P) : p_ag3 m x := by
  have hc := p_cDR_c h
  exact ⟨⟨hc 100 (by omega), hc 101 (by omega), hc 105 (by omega), hc 106 (by omega), by rw [hc 97 (by omega)]⟩, hc 103 (by omega), hc 98 (by omega)⟩
theorem p_cDR_f {m x : q_M} {P j : Nat} (h : p_cDR m x P) : q_same (q_up m 36 j (m 36 j + 1)) (q_up x 36 j (x 36 j + 1)) := by
  rw [p_cDR_c h 36 (by omega)]
  exact q_same_cg (p_cDR_same h)
theorem ob_ring (a1 : Int32) : q_Ob q_RR 87 154 [a1] := by
  intro b m hR
  obtain ⟨P, w, hR0, h13⟩ := id hR
  have r1 := hR0.1
  unfold q_Wm
  iterate 3 (refine q_wst rfl rfl rfl ?_)
  refine q_wif (fun ca => ?_) (fun ca => ?_)
  · have ca : -2 ≤ a1 := ca
    iterate 1 (refine q_wst rfl rfl rfl ?_)
    refine q_wcl rfl rfl rfl ?_
    refine t_readDebts 63 b m P w hR0 _ (fun m1 h1 => ?_)
    iterate 5 (refine q_wst rfl rfl rfl ?_)
    refine q_wcl rfl rfl rfl ?_
    refine t_seek 89 b m1 (fun a c => p_os m P a c P) h1.2.2.2.1 _ (fun m2 h2 => ?_)
    have h12 : p_cDR m m2 P := ⟨m1, h1, h2⟩
    have h4 : m2 97 4 = nI P := by rw [p_cDR_c h12 97 (by omega)]; exact r1.2.2
    have mod : ∀ (x : q_M) (Q : Option Int32 → q_H → Prop), x 97 4 = nI P → p_ag3 m x → (p_rs (p_E (fun a c => p_os m P a c P)) 7 2 = none → ∀ m', p_mR m x m' P → q_WP none 99 154 17 [some (vr 97), some (vi a1)] [vi 0] (q_hp b m') Q) → (∀ s W, p_rs (p_E (fun a c => p_os m P a c P)) 7 2 = some (s, W) → ∀ m', p_mR m x m' P → m' 97 32 = nI s → m' 97 34 = p_mn (fun a c => p_os m P a c P) s W s → (∀ j, j < s → m' 122 j = nI (W j)) → q_WP none 99 154 17 [some (vr 97), some (vi a1)] [vi 1] (q_hp b m') Q) → q_Wm 99 154 [vr 97, vi a1] (q_hp b x) Q := by
      intro x Q k4 kag kn ks
      unfold q_Wm
      iterate 3 (refine q_wst rfl rfl rfl ?_)
      refine q_wif (fun _ => ?_) (fun z => absurd ca z)
      iterate 1 (refine q_wst rfl rfl rfl ?_)
      refine q_wcl rfl rfl rfl ?_
      exact t_mring 64 b m x P r1.1 k4 kag _ kn ks
    have lost : (∀ Q, (∀ m', p_mR m (q_up m2 36 2 (m2 36 2 + 1)) m' P → q_WP none 99 154 28 [some (vr 97), some (vi a1)] [] (q_hp b m') Q) → q_Wm 99 154 [vr 97, vi a1] (q_hp b (q_up m2 36 2 (m2 36 2 + 1))) Q) → q_WP none 99 87 51 [some (vr 0), some (vi a1)] [] (q_hp b m2) (q_Po q_RR 154 [vr 97, vi a1]) := by
      intro K
      iterate 2 (refine q_wst rfl rfl rfl ?_)
      refine q_cf 2 rfl (by decide) rfl rfl rfl ⟨_, rfl, b, _, rfl, ?_⟩
      refine K _ (fun m3 h3 => ?_)
      iterate 2 (refine q_wst rfl rfl rfl ?_)
      exact q_mf 2 rfl (by decide) rfl rfl rfl ⟨rfl, b, _, rfl, q_RR_fnd hR (q_same_tr (p_cDR_f h12) (p_mR_same h3))⟩
    cases hx : p_rs (p_E (fun a c => p_os m P a c P)) 7 2 with
    | none =>
      have z1 := h2.2.1 hx
      iterate 4 (refine q_wst rfl rfl rfl ?_)
      refine q_wif (fun _ => ?_) (fun c => absurd z1 c)
      refine lost (fun Q K => mod _ Q h4 (p_ag3_f (p_cDR_ag h12)) (fun _ m3 h3 => ?_) (fun s W e => by rw [hx] at e; cases e))
      iterate 1 (refine q_wst rfl rfl rfl ?_)
      exact K m3 h3
    | some sW =>
      obtain ⟨s, W⟩ := sW
      have hr := p_rs_rg 7 2 (by omega) (by omega) hx
      obtain ⟨z1, z2, z3⟩ := h2.2.2 s W hx
      iterate 4 (refine q_wst rfl rfl rfl ?_)
      refine q_wif (fun c => absurd (show m2 30 1 = 0 from c) (by rw [z1]; exact nI_ne0 (by omega) (by omega))) (fun _ => ?_)
      iterate 5 (refine q_wst rfl rfl rfl ?_)
      refine q_wif (fun c => ?_) (fun c => ?_)
      · have c : a1 < m2 30 1 := c
        rw [z1] at c
        have modf : ∀ (Q : Option Int32 → q_H → Prop), (∀ m', p_mR m m2 m' P → m' 97 32 = nI s → m' 97 34 = p_mn (fun a c => p_os m P a c P) s W s → (∀ j, j < s → m' 122 j = nI (W j)) → q_WP none 99 154 35 [some (vr 97), some (vi a1)] [] (q_hp b m') Q) → q_Wm 99 154 [vr 97, vi a1] (q_hp b m2) Q := by
          intro Q K
          refine mod m2 Q h4 (p_cDR_ag h12) (fun e => by rw [hx] at e; cases e) (fun s' W' e m3 h3 g1 g2 g3 => ?_)
          rw [hx] at e
          injection e with e
          injection e with e1 e2
          subst e1 e2
          iterate 1 (refine q_wst rfl rfl rfl ?_)
          refine q_wif (fun c => absurd (show (1 : Int32) = 0 from c) (by decide)) (fun _ => ?_)
          iterate 4 (refine q_wst rfl rfl rfl ?_)
          refine q_wif (fun _ => K m3 h3 g1 g2 g3) (fun z => absurd (show a1 < m3 97 32 by rw [g1]; exact c) z)
        have fine : ∀ m', p_mR m m2 m' P → q_RR b m' := fun m' h => q_RR_same (q_same_tr (p_cDR_same h12) (p_mR_same h)) hR
        iterate 3 (refine q_wst rfl rfl rfl ?_)
        refine q_wif (fun c2 => ?_) (fun c2 => ?_)
        · have c2 : ¬ a1 = -2 := c2
          iterate 3 (refine q_wst rfl rfl rfl ?_)
          refine q_wif (fun c3 => ?_) (fun c3 => ?_)
          · have c3 : ¬ a1 = -1 := c3
            have c0 : ¬ a1 < 0 := by
              rw [Int32.lt_iff_toInt_lt]
              rw [Int32.le_iff_toInt_le] at ca
              have e0 : (0 : Int32).toInt = 0 := rfl
              have e1 : (-1 : Int32).toInt = -1 := rfl
              have e2 : (-2 : Int32).toInt = -2 := rfl
              have n1 : ¬ a1.toInt = -1 := fun z => c3 (Int32.toInt_inj.mp (z.trans e1.symm))
              have n2 : ¬ a1.toInt = -2 := fun z => c2 (Int32.toInt_inj.mp (z.trans e2.symm))
              omega
            obtain ⟨i, hi, e⟩ := nI_of c0
            subst e
            have his : i < s := (nI_ltI (by omega) (by omega)).mp c
            iterate 4 (refine q_wst rfl rfl rfl ?_)
            refine q_wrd i rfl (show i < 8 by omega) rfl (q_at31 b) (by decide) ?_
            refine q_wrt rfl rfl rfl ⟨nI (W i), congrArg some (z3 i his), b, _, rfl, ?_⟩
            refine modf _ (fun m3 h3 g1 g2 g3 => ?_)
            iterate 3 (refine q_wst rfl rfl rfl ?_)
            refine q_wif (fun _ => ?_) (fun z => absurd c2 z)
            iterate 3 (refine q_wst rfl rfl rfl ?_)
            refine q_wif (fun _ => ?_) (fun z => absurd c3 z)
            iterate 3 (refine q_wst rfl rfl rfl ?_)
            refine q_wrd i rfl (show i < 8 by omega) rfl (q_at122 b) (by decide) ?_
            exact q_wrt rfl rfl rfl ⟨congrArg some (g3 i his), b, _, rfl, fine m3 h3⟩
          · have c3 : a1 = -1 := Decidable.not_not.mp c3
            iterate 4 (refine q_wst rfl rfl rfl ?_)
            refine q_wrt rfl rfl rfl ⟨nI s, congrArg some z1, b, _, rfl, ?_⟩
            refine modf _ (fun m3 h3 g1 g2 g3 => ?_)
            iterate 3 (refine q_wst rfl rfl rfl ?_)
            refine q_wif (fun _ => ?_) (fun z => absurd c2 z)
            iterate 3 (refine q_wst rfl rfl rfl ?_)
            refine q_wif (fun z => absurd c3 z) (fun _ => ?_)
            iterate 3 (refine q_wst rfl rfl rfl ?_)
            exact q_wrt rfl rfl rfl ⟨congrArg some g1, b, _, rfl, fine m3 h3⟩
        · have c2 : a1 = -2 := Decidable.not_not.mp c2
          iterate 3 (refine q_wst rfl rfl rfl ?_)
          refine q_wrt rfl rfl rfl ⟨_, congrArg some z2, b, _, rfl, ?_⟩
          refine modf _ (fun m3 h3 g1 g2 g3 => ?_)
          iterate 3 (refine q_wst rfl rfl rfl ?_)
          refine q_wif (fun z => absurd c2 z) (fun _ => ?_)
          iterate 3 (refine q_wst rfl rfl rfl ?_)
          exact q_wrt rfl rfl rfl ⟨congrArg some g2, b, _, rfl, fine m3 h3⟩
      · have c : ¬ a1 < m2 30 1 := c
        rw [z1] at c
        refine lost (fun Q K => mod _ Q h4 (p_ag3_f (p_cDR_ag h12)) (fun e => by rw [hx] at e; cases e) (fun s' W' e m3 h3 g1 g2 g3 => ?_))
        rw [hx] at e
        injection e with e
        injection e with e1 e2
        subst e1 e2
        iterate 1 (refine q_wst rfl rfl rfl ?_)
        refine q_wif (fun c => absurd (show (1 : Int32) = 0 from c) (by decide)) (fun _ => ?_)
        iterate 4 (refine q_wst rfl rfl rfl ?_)
        refine q_wif (fun z => absurd (show a1 < m3 97 32 from z) (by rw [g1]; exact c)) (fun _ => K m3 h3)
  · have ca : ¬ -2 ≤ a1 := ca
    iterate 2 (refine q_wst rfl rfl rfl ?_)
    refine q_cf 1 rfl (by decide) rfl rfl rfl ⟨_, rfl, b, _, rfl, ?_⟩
    unfold q_Wm
    iterate 3 (refine q_wst rfl rfl rfl ?_)
    refine q_wif (fun z => absurd z ca) (fun _ => ?_)
    iterate 2 (refine q_wst rfl rfl rfl ?_)
    exact q_mf 1 rfl (by decide) rfl rfl rfl ⟨rfl, b, _, rfl, q_RR_fnd hR (q_same_rf _)⟩
