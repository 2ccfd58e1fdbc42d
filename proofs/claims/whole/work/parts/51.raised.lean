/-! obligation: raised -/
theorem t_mraised (b : Bool) (m x : q_M) (P p : Nat) (hP : P ≤ 30) (hp : p < P) (hk : m 100 p = 1) (hag : p_ag m x) (h4 : x 97 4 = nI P) (V : Int32) (hV : V = if m 105 p = 0 ∧ p_O m P p < 0 then p_sgn m p (p_O m P) (q_C (fun i => m 106 (40 * p + i)) 40).2.2.1 (q_C (fun i => m 106 (40 * p + i)) 40).2.2.2 (q_C (fun i => m 106 (40 * p + i)) 40).1 P 0 else -1) (Q : Option Int32 → q_H → Prop) (hQ : ∀ m3, q_same x m3 → (0 ≤ V → Q (some V) (q_hp b m3)) ∧ (¬ 0 ≤ V → Q (some (-1000000002)) (q_hp b (q_up m3 114 2 (m3 114 2 + 1))))) : q_Wm 99 145 [vr 97, vi (nI p)] (q_hp b x) Q := by
  have hp30 : p < 30 := by omega
  unfold q_Wm
  iterate 2 (refine q_wst rfl rfl rfl ?_)
  refine q_wcl rfl rfl rfl ?_
  refine t_misPiece (P := P) _ b x _ hP h4 _ (fun _ _ _ => ?_) (fun hn => absurd rfl (hn p hp))
  iterate 4 (refine q_wst rfl rfl rfl ?_)
  refine q_wrd p rfl hp30 rfl (q_at100 b) (by decide) ?_
  iterate 2 (refine q_wst rfl rfl rfl ?_)
  refine q_wif (fun _ => ?_) (fun z => absurd (show x 100 p = 1 by rw [hag.1]; exact hk) z)
  iterate 1 (refine q_wst rfl rfl rfl ?_)
  refine q_wcl rfl rfl rfl ?_
  refine t_mfind 66 b x P hP h4 _ (fun m2 h2 => ?_)
  iterate 2 (refine q_wst rfl rfl rfl ?_)
  refine q_wcl rfl rfl rfl ?_
  refine t_mread2 _ b m2 p hp30 _ (fun m3 hs ho hc => ?_)
  have hQ := hQ m3 (q_same_tr (p_mP_same h2) hs)
  have e106 : m2 106 = m 106 := (h2.1 106 (by decide) (by omega)).trans hag.2.2.2.1
  rw [e106] at hc
  obtain ⟨f1, f2⟩ := q_C_f (fun i => m 106 (40 * p + i))
  obtain ⟨c1, c2⟩ := hc
  have g4 : m3 97 4 = nI P := by rw [ho.2 4 (by decide), h2.2.1 4 (by decide) (by decide)]; exact h4
  have g119 : ∀ f, f < P → m3 119 f = p_O m P f := fun f hf => by rw [ho.1 119 (by decide) (by decide) (by decide), h2.2.2.2 f hf, p_O_cg hag]
  have hx : ∀ c, c ≠ 97 → c < 115 → m3 c = x c := fun c z1 z2 => (ho.1 c z1 (by omega) (by omega)).trans (h2.1 c z1 (by omega))
  have g100 : m3 100 = m 100 := (hx 100 (by decide) (by decide)).trans hag.1
  have g101 : m3 101 = m 101 := (hx 101 (by decide) (by decide)).trans hag.2.1
  have g105 : m3 105 = m 105 := (hx 105 (by decide) (by decide)).trans hag.2.2.1
  have g106 : m3 106 = m 106 := (hx 106 (by decide) (by decide)).trans hag.2.2.2.1
  have g3 : m3 97 3 = m 97 3 := by rw [ho.2 3 (by decide), h2.2.1 3 (by decide) (by decide)]; exact hag.2.2.2.2
  generalize (q_C (fun i => m 106 (40 * p + i)) 40).1 = n at *
  generalize (q_C (fun i => m 106 (40 * p + i)) 40).2.2.1 = a at *
  generalize (q_C (fun i => m 106 (40 * p + i)) 40).2.2.2 = w at *
  have lost : ∀ (o2 o3 o4 : Option q_V), V = -1 → q_WP none 99 145 187 [some (vr 97), some (vi (nI p)), o2, o3, o4] [] (q_hp b m3) Q := by
    intro o2 o3 o4 e
    iterate 2 (refine q_wst rfl rfl rfl ?_)
    refine q_wcl rfl rfl rfl ?_
    refine t_mfinding _ b _ 2 _ (by decide) (by rfl) _ ?_
    exact q_wrt rfl rfl rfl (hQ.2 (by rw [e]; decide))
  have none1 : V = -1 → ∀ (o4 : Option q_V), q_WP none 99 145 67 [some (vr 97), some (vi (nI p)), some (vi 0), some (vi 0), o4] [] (q_hp b m3) Q := by
    intro e o4
    iterate 4 (refine q_wst rfl rfl rfl ?_)
    refine q_wif (fun _ => lost _ _ _ e) (fun _ => ?_)
    iterate 2 (refine q_wst rfl rfl rfl ?_)
    exact lost _ _ _ e
  iterate 3 (refine q_wst rfl rfl rfl ?_)
  refine q_wrd p rfl hp30 rfl (q_at105 b) (by decide) ?_
  iterate 1 (refine q_wst rfl rfl rfl ?_)
  refine q_wif (fun c => ?_) (fun c => ?_)
  · have c : ¬ m3 105 p = 0 := c
    rw [g105] at c
    rw [if_neg (fun z => c z.1)] at hV
    iterate 4 (refine q_wst rfl rfl rfl ?_)
    exact none1 hV _
  · have c : m3 105 p = 0 := Decidable.not_not.mp c
    rw [g105] at c
    iterate 3 (refine q_wst rfl rfl rfl ?_)
    refine q_wrd p rfl hp30 rfl (q_at119 b) (by decide) ?_
    iterate 1 (refine q_wst rfl rfl rfl ?_)
    refine q_wif (fun c3 => ?_) (fun c3 => ?_)
    · have c3 : 0 ≤ m3 119 p := c3
      rw [g119 p hp] at c3
      rw [if_neg (fun z => Int32.not_lt.mpr c3 z.2)] at hV
      iterate 4 (refine q_wst rfl rfl rfl ?_)
      exact none1 hV _
    · have c3 : ¬ 0 ≤ m3 119 p := c3
      rw [g119 p hp] at c3
      rw [if_pos ⟨c, Int32.not_le.mp c3⟩] at hV
      have loop : ∀ (r f : Nat) (y : Int32) (o4 : Option q_V), f + r = P → y = nI f → V = p_sgn m p (p_O m P) a w n r f → q_WP none 99 145 67 [some (vr 97), some (vi (nI p)), some (vi 1), some (vi y), o4] [] (q_hp b m3) Q := by
        intro r
        induction r with
        | zero =>
          intro f y o4 hf hy e
          have hf : f = P := by omega
          subst hf hy
          iterate 4 (refine q_wst rfl rfl rfl ?_)
          refine q_wif (fun _ => ?_) (fun c => absurd (show m3 97 4 ≤ nI f by rw [g4]; exact nI_le (Nat.le_refl f) (by omega)) c)
          exact lost _ _ _ e
        | succ r ih =>
          intro f y o4 hf hy e
          subst hy
          have hf3 : f < 30 := by omega
          have hfP : f < P := by omega
          unfold p_sgn at e
          iterate 4 (refine q_wst rfl rfl rfl ?_)
          refine q_wif (fun c => absurd (show m3 97 4 ≤ nI f from c) (by rw [g4]; exact nI_ge (by omega) (by omega))) (fun _ => ?_)
          iterate 2 (refine q_wst rfl rfl rfl ?_)
          iterate 3 (refine q_wst rfl rfl rfl ?_)
          refine q_wrd f rfl hf3 rfl (q_at100 b) (by decide) ?_
          iterate 2 (refine q_wst rfl rfl rfl ?_)
          refine q_wif (fun d1 => ?_) (fun d1 => ?_)
          · have d1 : ¬ m3 100 f = 2 := d1
            rw [g100] at d1
            rw [if_neg (fun z => d1 z.1)] at e
            iterate 2 (refine q_wst rfl rfl rfl ?_)
            exact ih (f + 1) _ _ (by omega) (nI_1 f) e
          · have d1 : m3 100 f = 2 := Decidable.not_not.mp d1
            rw [g100] at d1
            iterate 3 (refine q_wst rfl rfl rfl ?_)
            refine q_wrd f rfl hf3 rfl (q_at105 b) (by decide) ?_
            iterate 1 (refine q_wst rfl rfl rfl ?_)
            refine q_wif (fun d2 => ?_) (fun d2 => ?_)
            · have d2 : ¬ m3 105 f = 0 := d2
              rw [g105] at d2
              rw [if_neg (fun z => d2 z.2.1)] at e
              iterate 2 (refine q_wst rfl rfl rfl ?_)
              exact ih (f + 1) _ _ (by omega) (nI_1 f) e
            · have d2 : m3 105 f = 0 := Decidable.not_not.mp d2
              rw [g105] at d2
              iterate 3 (refine q_wst rfl rfl rfl ?_)
              refine q_wrd f rfl hf3 rfl (q_at119 b) (by decide) ?_
              iterate 1 (refine q_wst rfl rfl rfl ?_)
              refine q_wif (fun d3 => ?_) (fun d3 => ?_)
              · have d3 : 0 ≤ m3 119 f := d3
                rw [g119 f hfP] at d3
                rw [if_neg (fun z => Int32.not_lt.mpr d3 z.2.2)] at e
                iterate 2 (refine q_wst rfl rfl rfl ?_)
                exact ih (f + 1) _ _ (by omega) (nI_1 f) e
              · have d3 : ¬ 0 ≤ m3 119 f := d3
                rw [g119 f hfP] at d3
                rw [if_pos ⟨d1, d2, Int32.not_le.mp d3⟩] at e
                iterate 3 (refine q_wst rfl rfl rfl ?_)
                refine q_wrd f rfl hf3 rfl (q_at101 b) (by decide) ?_
                iterate 3 (refine q_wst rfl rfl rfl ?_)
                refine q_wrd p rfl hp30 rfl (q_at101 b) (by decide) ?_
                iterate 1 (refine q_wst rfl rfl rfl ?_)
                refine q_wif (fun d4 => ?_) (fun d4 => ?_)
                · have d4 : m3 101 f = m3 101 p := d4
                  rw [g101] at d4
                  have inner : ∀ (r2 k : Nat) (y : Int32), k + r2 = n → y = nI k → p_sk m p f a w n 0 = p_sk m p f a w r2 k → q_WP none 99 145 128 [some (vr 97), some (vi (nI p)), some (vi 1), some (vi (nI f)), some (vi y)] [] (q_hp b m3) Q := by
                    intro r2
                    induction r2 with
                    | zero =>
                      intro k y hk hy e2
                      have hk : k = n := by omega
                      subst hk hy
                      rw [e2] at e
                      iterate 4 (refine q_wst rfl rfl rfl ?_)
                      refine q_wif (fun _ => ?_) (fun c => absurd (show m3 97 22 ≤ nI k by rw [c1]; exact nI_le (Nat.le_refl k) (by omega)) c)
                      iterate 2 (refine q_wst rfl rfl rfl ?_)
                      exact ih (f + 1) _ _ (by omega) (nI_1 f) e
                    | succ r2 ih2 =>
                      intro k y hk hy e2
                      subst hy
                      have hkn : k < n := by omega
                      have e6 := (c2 k hkn).1
                      have e7 := (c2 k hkn).2
                      have hw := f2 k hkn
                      rw [p_sk_s] at e2
                      iterate 4 (refine q_wst rfl rfl rfl ?_)
                      refine q_wif (fun c => absurd (show m3 97 22 ≤ nI k from c) (by rw [c1]; exact nI_ge (by omega) (by omega))) (fun _ => ?_)
                      iterate 6 (refine q_wst rfl rfl rfl ?_)
                      refine q_wrd k rfl (show k < 40 by omega) rfl (q_at115 b) (by decide) ?_
                      iterate 3 (refine q_wst rfl rfl rfl ?_)
                      refine q_wrd k rfl (show k < 40 by omega) rfl (q_at116 b) (by decide) ?_
                      refine q_wcl rfl rfl rfl ?_
                      show q_Wm 98 138 [vr 97, vi (nI p), vi (nI f), vi (m3 115 k), vi (m3 116 k)] (q_hp b m3) _
                      rw [e6, e7]
                      refine t_mfa _ b m3 p f (a k) (w k) hp30 hf3 (by omega) (by omega) _ ?_
                      show q_WP none 99 145 157 [some (vr 97), some (vi (nI p)), some (vi 1), some (vi (nI f)), some (vi (nI k))] [vi (p_fa (fun i => m3 106 (40 * p + i)) (fun i => m3 106 (40 * f + i)) (m3 97 3) (a k) (a k + w k) 40 0)] (q_hp b m3) Q
                      rw [g106, g3]
                      iterate 2 (refine q_wst rfl rfl rfl ?_)
                      refine q_wif (fun d5 => ?_) (fun d5 => ?_)
                      · have d5 : ¬ p_fa (fun i => m 106 (40 * p + i)) (fun i => m 106 (40 * f + i)) (m 97 3) (a k) (a k + w k) 40 0 = 40 := d5
                        rw [if_neg (fun z => d5 z.2)] at e2
                        iterate 2 (refine q_wst rfl rfl rfl ?_)
                        exact ih2 (k + 1) _ (by omega) (nI_1 k) e2
                      · have d5 : p_fa (fun i => m 106 (40 * p + i)) (fun i => m 106 (40 * f + i)) (m 97 3) (a k) (a k + w k) 40 0 = 40 := Decidable.not_not.mp d5
                        rw [if_pos ⟨d4.symm, d5⟩] at e2
                        rw [e2] at e
                        iterate 6 (refine q_wst rfl rfl rfl ?_)
                        refine q_wrd k rfl (show k < 40 by omega) rfl (q_at115 b) (by decide) ?_
                        iterate 1 (refine q_wst rfl rfl rfl ?_)
                        refine q_wrt rfl rfl rfl ?_
                        show Q (some (nI 100 * nI f + m3 115 k)) (q_hp b m3)
                        have e9 : V = nI (100 * f + a k) := e
                        rw [e6, pk_mul, nI_add, ← e9]
                        exact hQ.1 (by rw [e9]; exact nI_pos' (by omega))
                  iterate 2 (refine q_wst rfl rfl rfl ?_)
                  exact inner n 0 _ (by omega) rfl rfl
                · have d4 : ¬ m3 101 f = m3 101 p := d4
                  rw [g101] at d4
                  rw [p_sk_no (fun z => d4 z.symm) n 0] at e
                  iterate 3 (refine q_wst rfl rfl rfl ?_)
                  exact ih (f + 1) _ _ (by omega) (nI_1 f) e
      iterate 5 (refine q_wst rfl rfl rfl ?_)
      exact loop P 0 _ _ (by omega) rfl hV
theorem ob_raised (a1 : Int32) : q_Ob q_RR 77 145 [a1] := by
  intro b m hR
  obtain ⟨P, w, hR0, h13⟩ := id hR
  have r1 := hR0.1
  obtain ⟨S, hS, s1, s2⟩ := hR0.2.1
  have r8 := hR0.2.2.2.2.2.2.2.1
  unfold q_Wm
  iterate 2 (refine q_wst rfl rfl rfl ?_)
  refine q_wcl rfl rfl rfl ?_
  refine t_isPiece _ b m a1 r1.1 r1.2.1 _ (fun p hp e => ?_) (fun hn => ?_)
  · subst e
    have hp30 : p < 30 := Nat.lt_of_lt_of_le hp r1.1
    obtain ⟨b1, b2, b3, b4, b5, b6, b7⟩ := r8 p hp30
    iterate 4 (refine q_wst rfl rfl rfl ?_)
    refine q_wpc p rfl hp30 rfl ?_
    iterate 1 (refine q_wst rfl rfl rfl ?_)
    refine q_wcP p hp30 rfl rfl rfl rfl rfl ?_
    refine t_isA _ b m p hp30 _ _ (fun k1 => ?_) (fun k1 => ?_)
    · have k1 : m 100 p = 1 := by
        rw [b1] at k1
        rcases k1 with z | z | z
        · exact absurd z (by decide)
        · exact z
        · exact absurd z.1 (by decide)
      iterate 1 (refine q_wst rfl rfl rfl ?_)
      refine q_wif (fun _ => ?_) (fun c => absurd (show ¬ (1 : Int32) = 0 by decide) c)
      iterate 1 (refine q_wst rfl rfl rfl ?_)
      refine q_wcl rfl rfl rfl ?_
      refine t_pairUp 64 b m P r1.1 r1.2.1 r8 (s1.trans s2.symm) _ (fun m1 h1 => ?_)
      have hext : q_C (fun i => m 106 (40 * p + i)) 40 = q_C (m (38 + 2 * p)) 40 := q_C_ext 40 (fun i hi => (b7 i hi).symm)
      obtain ⟨V, hV⟩ : ∃ V, V = if m 105 p = 0 ∧ p_O m P p < 0 then p_sgn m p (p_O m P) (q_C (fun i => m 106 (40 * p + i)) 40).2.2.1 (q_C (fun i => m 106 (40 * p + i)) 40).2.2.2 (q_C (fun i => m 106 (40 * p + i)) 40).1 P 0 else -1 := ⟨_, rfl⟩
      have fin : ∀ (mx : q_M) (o2 : Option q_V), (∀ c, c < 5 ∨ 12 < c → mx c = m c) → q_WP none 99 77 70 [some (vr 0), some (vi (nI p)), o2] [vi V] (q_hp b mx) (q_Po q_RR 145 [vr 97, vi (nI p)]) := by
        intro mx o2 hm
        have hag : p_ag m mx := ⟨hm 100 (by omega), hm 101 (by omega), hm 105 (by omega), hm 106 (by omega), by rw [hm 97 (by omega)]⟩
        have h4 : mx 97 4 = nI P := by rw [hm 97 (by omega)]; exact r1.2.2
        have hsm : q_same m mx := by
          refine ⟨fun c hc => hm c ?_, fun j _ => by rw [hm 97 (by omega)], by rw [hm 126 (by omega)]⟩
          unfold q_mc at hc
          simp only [Bool.or_eq_true, Bool.and_eq_true, decide_eq_true_eq] at hc
          omega
        iterate 3 (refine q_wst rfl rfl rfl ?_)
        refine q_wif (fun c => ?_) (fun c => ?_)
        · have c : 0 ≤ V := c
          iterate 1 (refine q_wst rfl rfl rfl ?_)
          refine q_wrt rfl rfl rfl ⟨V, rfl, b, _, rfl, ?_⟩
          exact t_mraised b m mx P p r1.1 hp k1 hag h4 V hV _ (fun m3 h3 => ⟨fun _ => ⟨rfl, b, _, rfl, q_RR_same (q_same_tr hsm h3) hR⟩, fun z => absurd c z⟩)
        · have c : ¬ 0 ≤ V := c
          iterate 2 (refine q_wst rfl rfl rfl ?_)
          refine q_wcl rfl rfl rfl ?_
          refine t_finding _ b mx 2 (by decide) _ ?_
          iterate 1 (refine q_wst rfl rfl rfl ?_)
          refine q_wrt rfl rfl rfl ⟨_, rfl, b, _, rfl, ?_⟩
          refine t_mraised b m _ P p r1.1 hp k1 (p_ag_f hag) (by exact h4) V hV _ (fun m3 h3 => ⟨fun z => absurd z c, fun _ => ⟨rfl, b, _, rfl, q_RR_fnd hR (q_same_tr ?_ h3)⟩⟩)
          rw [hm 36 (by omega)]
          exact q_same_cg hsm
      have h1c : ∀ c, c < 5 ∨ 12 < c → m1 c = m c := fun c z => h1.1 c (by omega)
      iterate 3 (refine q_wst rfl rfl rfl ?_)
      refine q_wpc p rfl hp30 rfl ?_
      refine q_wgi rfl (q_atP b p hp30) rfl rfl ?_
      iterate 1 (refine q_wst rfl rfl rfl ?_)
      refine q_wif (fun c => ?_) (fun c => ?_)
      · have c : ¬ m1 (37 + 2 * p) 6 = 0 := c
        rw [h1.1 _ (by omega), b6] at c
        rw [if_neg (fun z => c z.1)] at hV
        subst hV
        iterate 1 (refine q_wst rfl rfl rfl ?_)
        exact fin m1 _ h1c
      · have c : m1 (37 + 2 * p) 6 = 0 := Decidable.not_not.mp c
        rw [h1.1 _ (by omega), b6] at c
        iterate 4 (refine q_wst rfl rfl rfl ?_)
        refine q_wrd p rfl hp30 rfl (q_at9 b) (by decide) ?_
        iterate 1 (refine q_wst rfl rfl rfl ?_)
        refine q_wif (fun c2 => ?_) (fun c2 => ?_)
        · have c2 : 0 ≤ m1 9 p := c2
          rw [(h1.2.2 p hp).1 k1] at c2
          rw [if_neg (fun z => Int32.not_lt.mpr c2 z.2)] at hV
          subst hV
          iterate 1 (refine q_wst rfl rfl rfl ?_)
          exact fin m1 _ h1c
        · have c2 : ¬ 0 ≤ m1 9 p := c2
          rw [(h1.2.2 p hp).1 k1] at c2
          rw [if_pos ⟨c, Int32.not_le.mp c2⟩, hext] at hV
          iterate 2 (refine q_wst rfl rfl rfl ?_)
          refine q_wcl rfl rfl rfl ?_
          refine t_sign _ b m m1 P p r1.1 hp r1.2.1 r8 (s1.trans s2.symm) h1 _ (fun m2 hm2 => ?_)
          rw [← hV]
          iterate 1 (refine q_wst rfl rfl rfl ?_)
          exact fin m2 _ (fun c z => (hm2 c (by omega)).trans (h1c c z))
    · have k1 : ¬ m 100 p = 1 := fun z => k1 (by
        rw [b1]
        exact Or.inr (Or.inl z))
      iterate 1 (refine q_wst rfl rfl rfl ?_)
      refine q_wif (fun c => absurd rfl c) (fun _ => ?_)
      iterate 2 (refine q_wst rfl rfl rfl ?_)
      refine q_cf 5 rfl (by decide) rfl rfl rfl ⟨_, rfl, b, _, rfl, ?_⟩
      unfold q_Wm
      iterate 2 (refine q_wst rfl rfl rfl ?_)
      refine q_wcl rfl rfl rfl ?_
      refine t_misPiece (P := P) _ b _ _ r1.1 (by exact r1.2.2) _ (fun _ _ _ => ?_) (fun hn => absurd rfl (hn p hp))
      iterate 4 (refine q_wst rfl rfl rfl ?_)
      refine q_wrd p rfl hp30 rfl (q_at100 b) (by decide) ?_
      iterate 2 (refine q_wst rfl rfl rfl ?_)
      refine q_wif (fun z => absurd z k1) (fun _ => ?_)
      iterate 2 (refine q_wst rfl rfl rfl ?_)
      exact q_mf 5 rfl (by decide) rfl rfl rfl ⟨rfl, b, _, rfl, q_RR_fnd hR (q_same_rf _)⟩
  · repeat (refine q_wst rfl rfl rfl ?_)
    refine q_cf 1 rfl (by decide) rfl rfl rfl ⟨_, rfl, b, _, rfl, ?_⟩
    unfold q_Wm
    repeat (refine q_wst rfl rfl rfl ?_)
    refine q_wcl rfl rfl rfl ?_
    refine t_misPiece (P := P) _ b _ _ r1.1 (by exact r1.2.2) _ (fun q hq e => absurd e (hn q hq)) (fun _ => ?_)
    repeat (refine q_wst rfl rfl rfl ?_)
    exact q_mf 1 rfl (by decide) rfl rfl rfl ⟨rfl, b, _, rfl, q_RR_fnd hR (q_same_rf _)⟩
