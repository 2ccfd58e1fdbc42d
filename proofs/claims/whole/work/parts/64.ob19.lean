theorem ob_pay (a1 a2 : Int32) : q_Ob q_RR 98 168 [a1, a2] := by
  intro b m hR
  obtain ⟨P, w, hR0, h13⟩ := id hR
  have r1 := hR0.1
  have hP := r1.1
  have r8 := hR0.2.2.2.2.2.2.2.1
  have r12 := hR0.2.2.2.2.2.2.2.2.2.2.2.1
  obtain ⟨D, hD, d1, d2⟩ := hR0.2.2.1
  unfold q_Wm
  iterate 2 (refine q_wst rfl rfl rfl ?_)
  refine q_wcl rfl rfl rfl ?_
  refine t_isPiece _ b m a1 r1.1 r1.2.1 _ (fun p hp e => ?_) (fun hn => ?_)
  · subst e
    have hp30 : p < 30 := Nat.lt_of_lt_of_le hp r1.1
    obtain ⟨b1, b2, b3, b4, b5, b6, b7⟩ := r8 p hp30
    iterate 1 (refine q_wst rfl rfl rfl ?_)
    refine q_wif (fun c => absurd (show (1 : Int32) = 0 from c) (by decide)) (fun _ => ?_)
    iterate 3 (refine q_wst rfl rfl rfl ?_)
    refine q_wif (fun c1 => ?_) (fun c1 => ?_)
    · have c1 : 1 ≤ a2 := c1
      have c0 : ¬ a2 < 0 := by
        rw [Int32.lt_iff_toInt_lt]
        rw [Int32.le_iff_toInt_le] at c1
        have e0 : (0 : Int32).toInt = 0 := rfl
        have e1 : (1 : Int32).toInt = 1 := rfl
        omega
      obtain ⟨v, hv, ev⟩ := nI_of c0
      subst ev
      have hv1 : 1 ≤ v := (nI_leI (a := 1) (by omega) hv).mp c1
      have mod : ∀ (x : q_M) (Q : Option Int32 → q_H → Prop), x 97 4 = nI P → q_WP none 99 168 20 [some (vr 97), some (vi (nI p)), some (vi (nI v)), none, none] [] (q_hp b x) Q → q_Wm 99 168 [vr 97, vi (nI p), vi (nI v)] (q_hp b x) Q := by
        intro x Q h4 K
        unfold q_Wm
        iterate 2 (refine q_wst rfl rfl rfl ?_)
        refine q_wcl rfl rfl rfl ?_
        refine t_misPiece (P := P) _ b x _ r1.1 h4 _ (fun _ _ _ => ?_) (fun hn => absurd rfl (hn p hp))
        iterate 1 (refine q_wst rfl rfl rfl ?_)
        refine q_wif (fun c => absurd (show (1 : Int32) = 0 from c) (by decide)) (fun _ => ?_)
        iterate 3 (refine q_wst rfl rfl rfl ?_)
        exact q_wif (fun _ => K) (fun c => absurd c1 c)
      iterate 3 (refine q_wst rfl rfl rfl ?_)
      refine q_wpc p rfl hp30 rfl ?_
      iterate 1 (refine q_wst rfl rfl rfl ?_)
      refine q_wcP p hp30 rfl rfl rfl rfl rfl ?_
      refine t_isA _ b m p hp30 _ _ (fun k1 => ?_) (fun k1 => ?_)
      · have k1 : m 100 p = 1 := by
          rw [b1] at k1
          rcases k1 with z | z | z
          · exact absurd z (by decide)
          · exact z
          · exact absurd z.1 (by decide)
        iterate 1 (refine q_wst rfl rfl rfl ?_)
        refine q_wif (fun _ => ?_) (fun c => absurd (show ¬ (1 : Int32) = 0 by decide) c)
        iterate 1 (refine q_wst rfl rfl rfl ?_)
        refine q_wcl rfl rfl rfl ?_
        refine t_readDebts 63 b m P w hR0 _ (fun m1 h1 => ?_)
        have h4 : m1 97 4 = nI P := by rw [h1.1 97 (by omega)]; exact r1.2.2
        have e19 : m1 19 p = p_dv m P p := by rw [(h1.2.2.1 p hp30).1, if_pos hp]
        iterate 4 (refine q_wst rfl rfl rfl ?_)
        refine q_wrd p rfl hp30 rfl (q_at19 b) (by decide) ?_
        iterate 1 (refine q_wst rfl rfl rfl ?_)
        refine q_wif (fun c => ?_) (fun c => ?_)
        · have c : ¬ m1 19 p = 0 := c
          rw [e19] at c
          have hdv : 0 < p_dv m P p := Decidable.by_contra (fun z => c (p_dv_n0 z))
          obtain ⟨C, hC8, hC⟩ := p_clm_b hR0 p hp hdv
          have hpp := p_dv_pos hdv
          have ho := p_ob_sp m P p hP hpp.2.1
          have hf3 : p_ob m P p < 30 := by omega
          have e9 : m1 9 p = nI (p_ob m P p) := ((h1.2.1 p hp).1 k1).trans ho.2
          obtain ⟨a, ha, ea⟩ := (hR0.2.2.2.2.2.2.2.2.1 _ ho.1).2.2.1
          obtain ⟨c, hc, ec⟩ := (hR0.2.2.2.2.2.2.2.2.1 _ hp).2.2.1
          iterate 2 (refine q_wst rfl rfl rfl ?_)
          refine q_wcl rfl rfl rfl ?_
          refine t_claim _ b m m1 P p w hR0 hp h1 hdv _ ?_
          rw [hC]
          iterate 5 (refine q_wst rfl rfl rfl ?_)
          refine q_wcl rfl rfl rfl ?_
          refine t_debtorOf _ b m1 p (p_ob m P p) hp30 hf3 e9 _ ?_
          have ed : m1 (37 + 2 * p_ob m P p) 4 = nI a := by
            rw [h1.1 _ (by omega), (r8 _ hf3).2.2.2.1]
            exact ea
          show q_WP none 99 98 73 [some (vr 0), some (vi (nI p)), some (vi (nI v)), some (vi (nI C - nI v)), none] [vi (m1 (37 + 2 * p_ob m P p) 4)] (q_hp b m1) _
          rw [ed]
          have hmy : ∀ (m2 : q_M), (∀ c, c ≠ 4 → m2 c = m1 c) → ∀ j x, p_my m m2 ∧ q_same (q_up m 36 j (m 36 j + 1)) (q_up m2 36 j (m2 36 j + 1)) ∧ p_my m (q_up m2 36 j x) := by
            intro m2 hm j x
            have q1 : ∀ c, 29 < c → m2 c = m c := fun c z => (hm c (by omega)).trans (h1.1 c (by omega))
            have q2 : q_same m m2 := by
              refine q_same_tr (p_cD_same h1) ⟨fun c hc => hm c (fun z => by rw [z] at hc; cases hc), fun j _ => by rw [hm 97 (by decide)], by rw [hm 126 (by decide)]⟩
            refine ⟨⟨fun c z1 z2 => q1 c (by omega), fun j _ => by rw [q1 97 (by omega)], by rw [q1 126 (by omega)]⟩, ?_, ⟨fun c z1 z2 => ?_, fun j _ => ?_, ?_⟩⟩
            · rw [q1 36 (by omega)]
              exact q_same_cg q2
            · rw [q_up_ne (by omega)]
              exact q1 c (by omega)
            · rw [q_up_ne (by decide), q1 97 (by omega)]
            · rw [q_up_ne (by decide), q1 126 (by omega)]
          have no3 : ∀ (m2 : q_M) (o3 o4 : Option q_V), (∀ c, c ≠ 4 → m2 c = m1 c) → (C < v ∨ m 112 a < nI v ∨ (v < C ∧ ¬ q_ko w (C - v) = true)) → q_WP none 99 98 105 [some (vr 0), some (vi (nI p)), some (vi (nI v)), o3, o4] [] (q_hp b m2) (q_Po q_RR 168 [vr 97, vi (nI p), vi (nI v)]) := by
            intro m2 o3 o4 hm h
            obtain ⟨q1, q2, q3⟩ := hmy m2 hm 3 (m2 36 3 + 1)
            iterate 2 (refine q_wst rfl rfl rfl ?_)
            refine q_cf 3 rfl (by decide) rfl rfl rfl ⟨_, rfl, b, _, rfl, ?_⟩
            refine t_mpay b m _ P w p v C a c D hR0 h13 q3 hp k1 hdv hC hC8 hv1 hv (by omega) (by omega) ea ec hD d2 _ (fun _ x' hx => ⟨rfl, b, _, rfl, q_RR_fnd hR (q_same_tr q2 hx)⟩) (fun z1 z2 z3 z4 => ?_) (fun z1 z2 z3 => ?_)
            · rcases h with z | z | z
              · omega
              · exact absurd z z2
              · exact absurd z3 z.2
            · rcases h with z | z | z
              · omega
              · exact absurd z z2
              · rcases z3 with y | y
                · omega
                · exact absurd y.1 z.2
          have no4 : ∀ (m2 : q_M) (o3 o4 : Option q_V), (∀ c, c ≠ 4 → m2 c = m1 c) → v < C → ¬ m 112 a < nI v → q_ko w (C - v) = true → 28 < P → q_WP none 99 98 123 [some (vr 0), some (vi (nI p)), some (vi (nI v)), o3, o4] [] (q_hp b m2) (q_Po q_RR 168 [vr 97, vi (nI p), vi (nI v)]) := by
            intro m2 o3 o4 hm y1 y2 y3 y4
            obtain ⟨q1, q2, q3⟩ := hmy m2 hm 4 (m2 36 4 + 1)
            iterate 2 (refine q_wst rfl rfl rfl ?_)
            refine q_cf 4 rfl (by decide) rfl rfl rfl ⟨_, rfl, b, _, rfl, ?_⟩
            refine t_mpay b m _ P w p v C a c D hR0 h13 q3 hp k1 hdv hC hC8 hv1 hv (by omega) (by omega) ea ec hD d2 _ (fun h => ?_) (fun _ _ _ _ x' hx => ⟨rfl, b, _, rfl, q_RR_fnd hR (q_same_tr q2 hx)⟩) (fun z1 z2 z3 => ?_)
            · rcases h with z | z | z
              · omega
              · exact absurd z y2
              · exact absurd y3 z.2
            · rcases z3 with y | y
              · omega
              · omega
          have pays : ∀ (m2 : q_M), (∀ c, c ≠ 4 → m2 c = m1 c) → v ≤ C → ¬ m 112 a < nI v → (C - v = 0 ∨ (q_ko w (C - v) = true ∧ P + 2 ≤ 30)) → q_WP none 99 98 129 [some (vr 0), some (vi (nI p)), some (vi (nI v)), some (vi (nI (C - v))), some (vi (nI a))] [] (q_hp b m2) (q_Po q_RR 168 [vr 97, vi (nI p), vi (nI v)]) := by
            intro m2 hm y1 y2 hfit
            obtain ⟨q1, q2, q3⟩ := hmy m2 hm 4 (m2 36 4 + 1)
            have hcy : p_cy m m2 := p_cy_tr (p_cy_rf m) (fun c z1 z2 => by
              rw [hm c (fun z => by rw [z] at z2; cases z2)]
              exact (p_cD_same h1).1 c z2)
            have c7 : p_cy (p_pu m a (m 32 a - nI v)) (q_up m2 32 a (m 32 a - nI v)) := p_cy_pu hcy
            have c8 : p_cy (p_Vp m a c (nI v)) (q_up (q_up m2 32 a (m 32 a - nI v)) 32 c (p_pu m a (m 32 a - nI v) 32 c + nI v)) := p_cy_pu c7
            have ep : (q_up m2 32 a (m 32 a - nI v)) (37 + 2 * p) 4 = nI c := by
              rw [q_up_ne (by omega), hm _ (by omega), h1.1 _ (by omega), b4]
              exact ec
            iterate 4 (refine q_wst rfl rfl rfl ?_)
            refine q_wrd a rfl (show a < 8 by omega) rfl (q_at32 b) (by decide) ?_
            iterate 2 (refine q_wst rfl rfl rfl ?_)
            refine q_wwr a rfl (show a < 8 by omega) rfl (q_at32 b) (by decide) ?_
            refine q_wh (h' := q_hp b (q_up m2 32 a (m 32 a - nI v))) (by
              show q_hp b (q_up m2 32 a (m2 32 a - nI v)) = _
              rw [hcy.1 32 (by omega) rfl (fun p hp => by omega)]) ?_
            iterate 5 (refine q_wst rfl rfl rfl ?_)
            refine q_wpc p rfl hp30 rfl ?_
            refine q_wgi rfl (q_atP b p hp30) rfl rfl ?_
            iterate 1 (refine q_wst rfl rfl rfl ?_)
            refine q_wrd c ep (show c < 8 by omega) rfl (q_at32 b) (by decide) ?_
            iterate 2 (refine q_wst rfl rfl rfl ?_)
            refine q_wwr c ep (show c < 8 by omega) rfl (q_at32 b) (by decide) ?_
            refine q_wh (h' := q_hp b (q_up (q_up m2 32 a (m 32 a - nI v)) 32 c (p_pu m a (m 32 a - nI v) 32 c + nI v))) (by
              show q_hp b (q_up (q_up m2 32 a (m 32 a - nI v)) 32 c (q_up m2 32 a (m 32 a - nI v) 32 c + nI v)) = _
              rw [c7.1 32 (by omega) rfl (fun p hp => by omega)]) ?_
            obtain ⟨y8, hy8⟩ : ∃ y8, y8 = q_up (q_up m2 32 a (m 32 a - nI v)) 32 c (p_pu m a (m 32 a - nI v) 32 c + nI v) := ⟨_, rfl⟩
            rw [← hy8] at c8 ⊢
            have k8 : ∀ c, c ≠ 32 → y8 c = m2 c := fun c z => by rw [hy8, q_up_ne z, q_up_ne z]
            have hR8 := p_Vp_RR (a := a) (c := c) (v := nI v) hR0 h13
            iterate 9 (refine q_wst rfl rfl rfl ?_)
            refine q_wcl rfl rfl rfl ?_
            show q_Wm 98 93 [vr 0, vi (nI p), vi (nI (C - v)), vi (if 9999 < y8 0 7 + 30 then 9999 else y8 0 7 + 30)] (q_hp b y8) _
            rw [k8 0 (by decide), hm 0 (by decide), h1.1 0 (by omega), d1, (p_du hD).1]
            refine t_leave _ b (p_Vp m a c (nI v)) y8 w P p (p_ob m P p) (C - v) _ hR8.1 c8 hp ho.1 (by rw [k8 9 (by decide), hm 9 (by decide)]; exact e9) (by omega) hfit _ (fun y9 g1 g2 g3 => ?_)
            iterate 1 (refine q_wst rfl rfl rfl ?_)
            refine q_wrt rfl rfl rfl ⟨nI (C - v), rfl, b, _, rfl, ?_⟩
            have my9 : p_my m y9 := by
              refine ⟨fun c z1 z2 => ?_, fun j hj => ?_, ?_⟩
              · rw [g2 c (by omega), k8 c (by omega)]
                exact q1.1 c z1 z2
              · rw [g2 97 (by omega), k8 97 (by omega)]
                exact q1.2.1 j hj
              · rw [g2 126 (by omega), k8 126 (by omega)]
                exact q1.2.2
            refine t_mpay b m y9 P w p v C a c D hR0 h13 my9 hp k1 hdv hC hC8 hv1 hv (by omega) (by omega) ea ec hD d2 _ (fun h => ?_) (fun z1 z2 z3 z4 => ?_) (fun z1 z2 z3 x' hx1 hx2 => ?_)
            · rcases h with z | z | z
              · omega
              · exact absurd z y2
              · rcases hfit with y | y
                · omega
                · exact absurd y.1 z.2
            · rcases hfit with y | y
              · omega
              · omega
            · have hdu : -1 ≤ (nI (min (D + 30) 9999)).toInt ∧ (nI (min (D + 30) 9999)).toInt ≤ 9999 := by
                rw [nI_toInt (by omega)]
                omega
              have hRR := p_de_RR (s := p) (f := p_ob m P p) (v := C - v) (du := nI (min (D + 30) 9999)) hR8.1 hR8.2 hp ho.1 (by rcases hfit with y | y; exact Or.inl y; exact Or.inr y.2) hdu
              exact ⟨rfl, b, _, rfl, p_fin hRR.1 hRR.2 (p_cy_tr g3 (fun c z1 _ => hx1 c z1)) hx2⟩
          iterate 3 (refine q_wst rfl rfl rfl ?_)
          refine q_wif (fun c2 => ?_) (fun c2 => ?_)
          · have c2 : nI C - nI v < 0 := c2
            refine no3 m1 _ _ (fun _ _ => rfl) (Or.inl ?_)
            rcases Nat.lt_or_ge C v with z | z
            · exact z
            · rw [pk_sub z] at c2
              exact absurd c2 (nI_pos (by omega))
          · have c2 : ¬ nI C - nI v < 0 := c2
            have hvC : v ≤ C := by
              rcases Nat.lt_or_ge C v with z | z
              · exfalso
                apply c2
                rw [Int32.lt_iff_toInt_lt, Int32.toInt_sub, nI_toInt (by omega), nI_toInt hv, Int.bmod_eq_of_le (by omega) (by omega)]
                show (C : Int) - v < 0
                omega
              · exact z
            rw [pk_sub hvC]
            iterate 3 (refine q_wst rfl rfl rfl ?_)
            refine q_wrd a rfl (show a < 8 by omega) rfl (q_at32 b) (by decide) ?_
            iterate 2 (refine q_wst rfl rfl rfl ?_)
            refine q_wif (fun c3 => ?_) (fun c3 => ?_)
            · have c3 : m1 32 a < nI v := c3
              rw [h1.1 32 (by omega), r12 a (by omega)] at c3
              exact no3 m1 _ _ (fun _ _ => rfl) (Or.inr (Or.inl c3))
            · have c3 : ¬ m1 32 a < nI v := c3
              rw [h1.1 32 (by omega), r12 a (by omega)] at c3
              iterate 2 (refine q_wst rfl rfl rfl ?_)
              refine q_wif (fun c4 => ?_) (fun c4 => ?_)
              · have c4 : nI (C - v) ≤ nI 0 := c4
                rw [nI_leI (by omega) (by omega)] at c4
                iterate 2 (refine q_wst rfl rfl rfl ?_)
                refine q_wif (fun _ => ?_) (fun z => absurd (show nI (C - v) ≤ nI 0 from nI_le c4 (by omega)) z)
                exact pays m1 (fun _ _ => rfl) hvC c3 (Or.inl (by omega))
              · have c4 : ¬ nI (C - v) ≤ nI 0 := c4
                rw [nI_leI (by omega) (by omega)] at c4
                have hwr := q_R_w hR0
                iterate 3 (refine q_wst rfl rfl rfl ?_)
                refine q_wcl rfl rfl rfl ?_
                refine t_compose _ b m1 w (C - v) (by omega) (fun i z1 z2 => by rw [h1.1 3 (by omega)]; exact ⟨(hwr i z1 z2).1, (hwr i z1 z2).2.2.1, (hwr i z1 z2).2.2.2⟩) _ (fun m2 g1 g2 => ?_)
                by_cases ko : q_ko w (C - v) = true
                · rw [if_pos ko]
                  iterate 1 (refine q_wst rfl rfl rfl ?_)
                  refine q_wif (fun _ => ?_) (fun c => absurd (show ¬ (1 : Int32) = 0 by decide) c)
                  iterate 2 (refine q_wst rfl rfl rfl ?_)
                  refine q_wif (fun z => absurd ((nI_leI (b := 0) (by omega) (by omega)).mp z) c4) (fun _ => ?_)
                  iterate 2 (refine q_wst rfl rfl rfl ?_)
                  refine q_wcl rfl rfl rfl ?_
                  refine t_hasRoom _ b m2 (P := P) (n := 2) hP (by omega) (by rw [g1 0 (by decide), h1.1 0 (by omega)]; exact r1.2.1) _ (fun hr => ?_) (fun hr => ?_)
                  · iterate 1 (refine q_wst rfl rfl rfl ?_)
                    refine q_wif (fun _ => ?_) (fun c => absurd (show ¬ (1 : Int32) = 0 by decide) c)
                    exact pays m2 g1 hvC c3 (Or.inr ⟨ko, hr⟩)
                  · iterate 1 (refine q_wst rfl rfl rfl ?_)
                    refine q_wif (fun c => absurd rfl c) (fun _ => ?_)
                    exact no4 m2 _ _ g1 (by omega) c3 ko (by omega)
                · rw [if_neg ko]
                  iterate 1 (refine q_wst rfl rfl rfl ?_)
                  refine q_wif (fun c => absurd rfl c) (fun _ => ?_)
                  exact no3 m2 _ _ g1 (Or.inr (Or.inr ⟨by omega, ko⟩))
        · have c : m1 19 p = 0 := Decidable.not_not.mp c
          rw [e19] at c
          iterate 2 (refine q_wst rfl rfl rfl ?_)
          refine q_cf 2 rfl (by decide) rfl rfl rfl ⟨_, rfl, b, _, rfl, ?_⟩
          refine mod _ _ h4 ?_
          iterate 2 (refine q_wst rfl rfl rfl ?_)
          refine q_wcl rfl rfl rfl ?_
          refine t_noDebt 64 b m _ P p r1.1 hp (by exact h4) (p_ag3_f (p_cD_ag h1)) _ (fun z => absurd k1 z) (fun _ m2 h2 => ⟨fun _ => ?_, fun z => absurd z (by rw [c]; decide)⟩)
          iterate 3 (refine q_wst rfl rfl rfl ?_)
          refine q_wif (fun z => absurd (show (-1000000002 : Int32) = 0 from z) (by decide)) (fun _ => ?_)
          iterate 2 (refine q_wst rfl rfl rfl ?_)
          exact q_mf 2 rfl (by decide) rfl rfl rfl ⟨rfl, b, _, rfl, q_RR_fnd hR (q_same_tr (p_cD_f h1) (p_mD_same h2))⟩
      · have k1 : ¬ m 100 p = 1 := fun z => k1 (by
          rw [b1]
          exact Or.inr (Or.inl z))
        iterate 1 (refine q_wst rfl rfl rfl ?_)
        refine q_wif (fun c => absurd rfl c) (fun _ => ?_)
        iterate 2 (refine q_wst rfl rfl rfl ?_)
        refine q_cf 5 rfl (by decide) rfl rfl rfl ⟨_, rfl, b, _, rfl, ?_⟩
        refine mod _ _ r1.2.2 ?_
        iterate 2 (refine q_wst rfl rfl rfl ?_)
        refine q_wcl rfl rfl rfl ?_
        refine t_noDebt 64 b m _ P p r1.1 hp (by exact r1.2.2) (p_ag3_f ⟨⟨rfl, rfl, rfl, rfl, rfl⟩, rfl, rfl⟩) _ (fun _ => ?_) (fun z => absurd z k1)
        iterate 3 (refine q_wst rfl rfl rfl ?_)
        refine q_wif (fun z => absurd (show (-1000000005 : Int32) = 0 from z) (by decide)) (fun _ => ?_)
        iterate 2 (refine q_wst rfl rfl rfl ?_)
        exact q_mf 5 rfl (by decide) rfl rfl rfl ⟨rfl, b, _, rfl, q_RR_fnd hR (q_same_rf _)⟩
    · have c1 : ¬ 1 ≤ a2 := c1
      iterate 2 (refine q_wst rfl rfl rfl ?_)
      refine q_cf 1 rfl (by decide) rfl rfl rfl ⟨_, rfl, b, _, rfl, ?_⟩
      unfold q_Wm
      iterate 2 (refine q_wst rfl rfl rfl ?_)
      refine q_wcl rfl rfl rfl ?_
      refine t_misPiece (P := P) _ b _ _ r1.1 (by exact r1.2.2) _ (fun _ _ _ => ?_) (fun hn => absurd rfl (hn p hp))
      iterate 1 (refine q_wst rfl rfl rfl ?_)
      refine q_wif (fun c => absurd (show (1 : Int32) = 0 from c) (by decide)) (fun _ => ?_)
      iterate 3 (refine q_wst rfl rfl rfl ?_)
      refine q_wif (fun c => absurd c c1) (fun _ => ?_)
      iterate 2 (refine q_wst rfl rfl rfl ?_)
      exact q_mf 1 rfl (by decide) rfl rfl rfl ⟨rfl, b, _, rfl, q_RR_fnd hR (q_same_rf _)⟩
  · iterate 1 (refine q_wst rfl rfl rfl ?_)
    refine q_wif (fun _ => ?_) (fun c => absurd rfl c)
    iterate 2 (refine q_wst rfl rfl rfl ?_)
    refine q_cf 1 rfl (by decide) rfl rfl rfl ⟨_, rfl, b, _, rfl, ?_⟩
    unfold q_Wm
    iterate 2 (refine q_wst rfl rfl rfl ?_)
    refine q_wcl rfl rfl rfl ?_
    refine t_misPiece (P := P) _ b _ _ r1.1 (by exact r1.2.2) _ (fun q hq e => absurd e (hn q hq)) (fun _ => ?_)
    iterate 1 (refine q_wst rfl rfl rfl ?_)
    refine q_wif (fun _ => ?_) (fun c => absurd rfl c)
    iterate 2 (refine q_wst rfl rfl rfl ?_)
    exact q_mf 1 rfl (by decide) rfl rfl rfl ⟨rfl, b, _, rfl, q_RR_fnd hR (q_same_rf _)⟩
