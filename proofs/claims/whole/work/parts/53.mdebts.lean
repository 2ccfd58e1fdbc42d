/-! the reference's debts; obligations: owes, net -/
def p_mD (m x m2 : q_M) (P : Nat) : Prop := (∀ c, c ≠ 97 → (c < 115 ∨ c = 117 ∨ 121 < c) → m2 c = x c) ∧ (∀ j, j ≠ 22 → j ≠ 29 → j ≠ 30 → m2 97 j = x 97 j) ∧ (∀ p, p < P → m2 119 p = p_O m P p) ∧ (∀ s, s < P → m2 121 s = p_dv m P s)
theorem t_mdebts (d : Nat) (b : Bool) (m x : q_M) (P : Nat) (hP : P ≤ 30) (h4 : x 97 4 = nI P) (hag : p_ag3 m x) (Q : Option Int32 → q_H → Prop) (hQ : ∀ m2, p_mD m x m2 P → Q none (q_hp b m2)) : q_Wm (d + 33) 151 [vr 97] (q_hp b x) Q := by
  have loop : ∀ (r s : Nat) (y : Int32) (m1 : q_M) (o2 : Option q_V), s + r = P → y = nI s → (∀ c, c ≠ 97 → (c < 115 ∨ c = 117 ∨ 121 < c) → m1 c = x c) → (∀ j, j ≠ 22 → j ≠ 29 → j ≠ 30 → m1 97 j = x 97 j) → (∀ p, p < P → m1 119 p = p_O m P p) → (∀ t, t < s → m1 121 t = p_dv m P t) → q_WP none (d + 33) 151 6 [some (vr 97), some (vi y), o2] [] (q_hp b m1) Q := by
    intro r
    induction r with
    | zero =>
      intro s y m1 o2 hs hy h1 h2 h3 h5
      have hs : s = P := by omega
      subst hs hy
      have hb4 : m1 97 4 = nI s := (h2 4 (by decide) (by decide) (by decide)).trans h4
      iterate 4 (refine q_wst rfl rfl rfl ?_)
      refine q_wif (fun _ => ?_) (fun c => absurd (show m1 97 4 ≤ nI s by rw [hb4]; exact nI_le (Nat.le_refl s) (by omega)) c)
      exact q_wrv rfl rfl rfl (hQ m1 ⟨h1, h2, h3, h5⟩)
    | succ r ih =>
      intro s y m1 o2 hs hy h1 h2 h3 h5
      subst hy
      have hsP : s < P := by omega
      have hs3 : s < 30 := by omega
      have hb4 : m1 97 4 = nI P := (h2 4 (by decide) (by decide) (by decide)).trans h4
      have e100 : m1 100 = m 100 := (h1 100 (by decide) (by omega)).trans hag.1.1
      have e103 : m1 103 = m 103 := (h1 103 (by decide) (by omega)).trans hag.2.1
      have go : ∀ (m2 : q_M) (o2 : Option q_V) (v : Int32), (∀ c, c ≠ 97 → (c < 115 ∨ c = 117 ∨ 118 ≤ c) → m2 c = m1 c) → (∀ j, j ≠ 22 → m2 97 j = m1 97 j) → v = p_dv m P s → q_WP none (d + 33) 151 6 [some (vr 97), some (vi (nI s + 1)), o2] [] (q_hp b (q_up m2 121 s v)) Q := by
        intro m2 o2 v g1 g2 e
        refine ih (s + 1) _ _ _ (by omega) (nI_1 s) (fun c z1 z2 => ?_) (fun j z1 z2 z3 => ?_) (fun p hp => ?_) (fun t ht => ?_)
        · rw [q_up_ne (by omega), g1 c z1 (by omega)]
          exact h1 c z1 z2
        · rw [q_up_ne (by decide), g2 j z1]
          exact h2 j z1 z2 z3
        · rw [q_up_ne (by decide), g1 119 (by decide) (by omega)]
          exact h3 p hp
        · rw [q_up_eq]
          unfold upd
          by_cases e1 : t = s
          · rw [if_pos e1, e1]
            exact e
          · rw [if_neg e1, g1 121 (by decide) (by omega)]
            exact h5 t (by omega)
      have skip : p_dv m P s = 0 → q_WP none (d + 33) 151 57 [some (vr 97), some (vi (nI s)), o2] [] (q_hp b m1) Q := by
        intro e
        iterate 8 (refine q_wst rfl rfl rfl ?_)
        refine q_wwr s rfl hs3 rfl (q_at121 b) (by decide) ?_
        iterate 2 (refine q_wst rfl rfl rfl ?_)
        exact go m1 _ 0 (fun _ _ _ => rfl) (fun _ _ => rfl) e.symm
      iterate 4 (refine q_wst rfl rfl rfl ?_)
      refine q_wif (fun c => absurd (show m1 97 4 ≤ nI s from c) (by rw [hb4]; exact nI_ge (by omega) (by omega))) (fun _ => ?_)
      iterate 3 (refine q_wst rfl rfl rfl ?_)
      refine q_wrd s rfl hs3 rfl (q_at100 b) (by decide) ?_
      iterate 2 (refine q_wst rfl rfl rfl ?_)
      refine q_wif (fun c => ?_) (fun c => ?_)
      · have c : ¬ m1 100 s = 1 := c
        rw [e100] at c
        exact skip (p_dv_no (fun z => c z.1))
      · have c : m1 100 s = 1 := Decidable.not_not.mp c
        rw [e100] at c
        iterate 3 (refine q_wst rfl rfl rfl ?_)
        refine q_wrd s rfl hs3 rfl (q_at119 b) (by decide) ?_
        iterate 1 (refine q_wst rfl rfl rfl ?_)
        refine q_wif (fun c2 => ?_) (fun c2 => ?_)
        · have c2 : m1 119 s < 0 := c2
          rw [h3 s hsP] at c2
          exact skip (p_dv_no (fun z => z.2 c2))
        · have c2 : ¬ m1 119 s < 0 := c2
          rw [h3 s hsP] at c2
          have ho := p_ob_sp m P s hP c2
          iterate 3 (refine q_wst rfl rfl rfl ?_)
          refine q_wrd s rfl hs3 rfl (q_at103 b) (by decide) ?_
          iterate 5 (refine q_wst rfl rfl rfl ?_)
          refine q_wrd s rfl hs3 rfl (q_at119 b) (by decide) ?_
          refine q_wrd (p_ob m P s) ((h3 s hsP).trans ho.2) (show p_ob m P s < 30 by omega) rfl (q_at103 b) (by decide) ?_
          iterate 1 (refine q_wst rfl rfl rfl ?_)
          refine q_wif (fun c3 => ?_) (fun c3 => ?_)
          · have c3 : m1 103 s = m1 103 (p_ob m P s) := c3
            rw [e103] at c3
            refine skip ?_
            unfold p_dv
            rw [if_neg (fun z => z.2.2 c3)]
          · have c3 : ¬ m1 103 s = m1 103 (p_ob m P s) := c3
            rw [e103] at c3
            iterate 8 (refine q_wst rfl rfl rfl ?_)
            iterate 3 (refine q_wst rfl rfl rfl ?_)
            refine q_wcl rfl rfl rfl ?_
            refine t_mvalue2 _ b m1 s hs3 _ (fun m2 hsm hfr hcx => ?_)
            have ev : q_vl (m1 98) (fun i => m1 106 (40 * s + i)) = p_vs m s := by
              unfold p_vs
              rw [h1 98 (by decide) (by omega), h1 106 (by decide) (by omega), hag.2.2, hag.1.2.2.2.1]
            rw [ev]
            iterate 2 (refine q_wst rfl rfl rfl ?_)
            refine q_wwr s rfl hs3 rfl (q_at121 b) (by decide) ?_
            iterate 2 (refine q_wst rfl rfl rfl ?_)
            refine go m2 _ _ (fun c z1 z2 => hfr.1 c z1 (by omega) (by omega)) (fun j z => hfr.2 j z) ?_
            unfold p_dv
            exact (if_pos ⟨c, c2, c3⟩).symm
  unfold q_Wm
  iterate 1 (refine q_wst rfl rfl rfl ?_)
  refine q_wcl rfl rfl rfl ?_
  refine t_mfind d b x P hP h4 _ (fun m1 h1 => ?_)
  iterate 2 (refine q_wst rfl rfl rfl ?_)
  exact loop P 0 _ m1 _ (by omega) rfl (fun c z1 z2 => h1.1 c z1 (by omega)) (fun j z1 z2 z3 => h1.2.1 j z2 z3) (fun p hp => by rw [h1.2.2.2 p hp, p_O_cg hag.1]) (fun t ht => absurd ht (by omega))
theorem t_mowed (d : Nat) (b : Bool) (m m2 : q_M) (P a c : Nat) (hP : P ≤ 30) (ha : a < 8) (hc : c < 8) (h4 : m2 97 4 = nI P) (h103 : m2 103 = m 103) (h119 : ∀ p, p < P → m2 119 p = p_O m P p) (h121 : ∀ s, s < P → m2 121 s = p_dv m P s) (Q : Option Int32 → q_H → Prop) (hQ : Q (some (p_os m P a c P)) (q_hp b m2)) : q_Wm d 152 [vr 97, vi (nI a), vi (nI c)] (q_hp b m2) Q := by
  have loop : ∀ (r s : Nat) (y z : Int32), s + r = P → y = nI s → z = p_os m P a c s → q_WP none d 152 5 [some (vr 97), some (vi (nI a)), some (vi (nI c)), some (vi z), some (vi y)] [] (q_hp b m2) Q := by
    intro r
    induction r with
    | zero =>
      intro s y z hs hy hz
      have hs : s = P := by omega
      subst hs hy hz
      iterate 4 (refine q_wst rfl rfl rfl ?_)
      refine q_wif (fun _ => ?_) (fun c => absurd (show m2 97 4 ≤ nI s by rw [h4]; exact nI_le (Nat.le_refl s) (by omega)) c)
      repeat (refine q_wst rfl rfl rfl ?_)
      exact q_wrt rfl rfl rfl hQ
    | succ r ih =>
      intro s y z hs hy hz
      subst hy
      have hsP : s < P := by omega
      have hs3 : s < 30 := by omega
      have ez : ∀ v, v = (if 0 < p_dv m P s ∧ m 103 (p_ob m P s) = nI a ∧ m 103 s = nI c then p_os m P a c s + p_dv m P s else p_os m P a c s) → q_WP none d 152 5 [some (vr 97), some (vi (nI a)), some (vi (nI c)), some (vi v), some (vi (nI s + 1))] [] (q_hp b m2) Q := by
        intro v e
        exact ih (s + 1) _ _ (by omega) (nI_1 s) e
      iterate 4 (refine q_wst rfl rfl rfl ?_)
      refine q_wif (fun c => absurd (show m2 97 4 ≤ nI s from c) (by rw [h4]; exact nI_ge (by omega) (by omega))) (fun _ => ?_)
      iterate 4 (refine q_wst rfl rfl rfl ?_)
      refine q_wrd s rfl hs3 rfl (q_at121 b) (by decide) ?_
      iterate 1 (refine q_wst rfl rfl rfl ?_)
      refine q_wif (fun c1 => ?_) (fun c1 => ?_)
      · have c1 : m2 121 s ≤ 0 := c1
        rw [h121 s hsP] at c1
        iterate 5 (refine q_wst rfl rfl rfl ?_)
        refine ez _ ?_
        rw [if_neg (fun z => Int32.not_lt.mpr c1 z.1)]
        exact (Int32.add_zero _).trans hz
      · have c1 : ¬ m2 121 s ≤ 0 := c1
        rw [h121 s hsP] at c1
        have c1 := Int32.not_le.mp c1
        have ho := p_ob_sp m P s hP (p_dv_pos c1).2.1
        iterate 5 (refine q_wst rfl rfl rfl ?_)
        refine q_wrd s rfl hs3 rfl (q_at119 b) (by decide) ?_
        refine q_wrd (p_ob m P s) ((h119 s hsP).trans ho.2) (show p_ob m P s < 30 by omega) rfl (q_at103 b) (by decide) ?_
        iterate 2 (refine q_wst rfl rfl rfl ?_)
        refine q_wif (fun c2 => ?_) (fun c2 => ?_)
        · have c2 : ¬ m2 103 (p_ob m P s) = nI a := c2
          rw [h103] at c2
          iterate 5 (refine q_wst rfl rfl rfl ?_)
          refine ez _ ?_
          rw [if_neg (fun z => c2 z.2.1)]
          exact (Int32.add_zero _).trans hz
        · have c2 : m2 103 (p_ob m P s) = nI a := Decidable.not_not.mp c2
          rw [h103] at c2
          iterate 3 (refine q_wst rfl rfl rfl ?_)
          refine q_wrd s rfl hs3 rfl (q_at103 b) (by decide) ?_
          iterate 2 (refine q_wst rfl rfl rfl ?_)
          refine q_wif (fun c3 => ?_) (fun c3 => ?_)
          · have c3 : ¬ m2 103 s = nI c := c3
            rw [h103] at c3
            iterate 5 (refine q_wst rfl rfl rfl ?_)
            refine ez _ ?_
            rw [if_neg (fun z => c3 z.2.2)]
            exact (Int32.add_zero _).trans hz
          · have c3 : m2 103 s = nI c := Decidable.not_not.mp c3
            rw [h103] at c3
            iterate 3 (refine q_wst rfl rfl rfl ?_)
            refine q_wrd s rfl hs3 rfl (q_at121 b) (by decide) ?_
            iterate 5 (refine q_wst rfl rfl rfl ?_)
            refine ez _ ?_
            rw [if_pos ⟨c1, c2, c3⟩]
            show z + m2 121 s = _
            rw [h121 s hsP, hz]
  unfold q_Wm
  iterate 4 (refine q_wst rfl rfl rfl ?_)
  exact loop P 0 _ _ (by omega) rfl rfl
theorem p_cD_same {m x : q_M} {P : Nat} (h : p_cD m x P) : q_same m x := by
  refine ⟨fun c hc => h.1 c ?_, fun j _ => by rw [h.1 97 (by omega)], by rw [h.1 126 (by omega)]⟩
  unfold q_mc at hc
  simp only [Bool.or_eq_true, Bool.and_eq_true, decide_eq_true_eq] at hc
  omega
theorem p_cD_ag {m x : q_M} {P : Nat} (h : p_cD m x P) : p_ag3 m x := ⟨⟨h.1 100 (by omega), h.1 101 (by omega), h.1 105 (by omega), h.1 106 (by omega), by rw [h.1 97 (by omega)]⟩, h.1 103 (by omega), h.1 98 (by omega)⟩
theorem p_cD_f {m x : q_M} {P j : Nat} (h : p_cD m x P) : q_same (q_up m 36 j (m 36 j + 1)) (q_up x 36 j (x 36 j + 1)) := by
  rw [h.1 36 (by omega)]
  exact q_same_cg (p_cD_same h)
theorem p_ag3_f {m x : q_M} {j : Nat} {v : Int32} (h : p_ag3 m x) : p_ag3 m (q_up x 36 j v) := ⟨p_ag_f h.1, (q_up_ne (by decide)).trans h.2.1, (q_up_ne (by decide)).trans h.2.2⟩
theorem p_mD_same {m x m2 : q_M} {P : Nat} (h : p_mD m x m2 P) : q_same x m2 := by
  refine ⟨fun c hc => ?_, fun j hj => ?_, by rw [h.1 126 (by decide) (by omega)]⟩
  · unfold q_mc at hc
    simp only [Bool.or_eq_true, Bool.and_eq_true, decide_eq_true_eq] at hc
    exact h.1 c (by omega) (by omega)
  · unfold q_ms at hj
    simp only [Bool.or_eq_true, decide_eq_true_eq] at hj
    exact h.2.1 j (by omega) (by omega) (by omega)
theorem p_pty {x : Int32} (h : 0 ≤ x ∧ x ≤ 7) : ∃ a, a < 8 ∧ x = nI a := by
  obtain ⟨a, ha, e⟩ := nI_of2 (M := 7) (n := 7) rfl (Int32.not_lt.mpr h.1) h.2
  exact ⟨a, by omega, e⟩
theorem p_npty (a : Nat) (ha : a < 8) : 0 ≤ nI a ∧ nI a ≤ 7 := ⟨nI_pos' (by omega), nI_le (b := 7) (by omega) (by omega)⟩
theorem ob_owes (a1 a2 : Int32) : q_Ob q_RR 83 150 [a1, a2] := by
  intro b m hR
  obtain ⟨P, w, hR0, h13⟩ := id hR
  have r1 := hR0.1
  unfold q_Wm
  iterate 1 (refine q_wst rfl rfl rfl ?_)
  refine q_wcl rfl rfl rfl ?_
  refine t_isParty _ _ _ _ (fun g1 g2 => ?_) (fun g => ?_)
  · iterate 1 (refine q_wst rfl rfl rfl ?_)
    refine q_wif (fun c => absurd (show (1 : Int32) = 0 from c) (by decide)) (fun _ => ?_)
    iterate 1 (refine q_wst rfl rfl rfl ?_)
    refine q_wcl rfl rfl rfl ?_
    refine t_isParty _ _ _ _ (fun g3 g4 => ?_) (fun g => ?_)
    · iterate 1 (refine q_wst rfl rfl rfl ?_)
      refine q_wif (fun c => absurd (show (1 : Int32) = 0 from c) (by decide)) (fun _ => ?_)
      obtain ⟨a, ha, ea⟩ := p_pty ⟨g1, g2⟩
      obtain ⟨c, hc, ec⟩ := p_pty ⟨g3, g4⟩
      subst ea ec
      iterate 3 (refine q_wst rfl rfl rfl ?_)
      refine q_wif (fun c1 => ?_) (fun c1 => ?_)
      · iterate 1 (refine q_wst rfl rfl rfl ?_)
        refine q_wcl rfl rfl rfl ?_
        refine t_readDebts 63 b m P w hR0 _ (fun m1 h1 => ?_)
        iterate 4 (refine q_wst rfl rfl rfl ?_)
        refine q_wra (els := q_rws) a (22 + a) rfl ha (q_rwsg a ha) rfl (q_at21 b) (Or.inr rfl) (by decide) ?_
        iterate 1 (refine q_wst rfl rfl rfl ?_)
        refine q_wrd c rfl hc rfl (q_atR b a ha) (by decide) ?_
        refine q_wrt rfl rfl rfl ⟨p_os m P a c P, congrArg some (h1.2.2.2.1 a c ha hc), b, _, rfl, ?_⟩
        unfold q_Wm
        iterate 1 (refine q_wst rfl rfl rfl ?_)
        refine q_wcl rfl rfl rfl ?_
        refine t_misParty _ _ _ _ (fun _ _ => ?_) (fun g => absurd ⟨g1, g2⟩ g)
        iterate 1 (refine q_wst rfl rfl rfl ?_)
        refine q_wif (fun c => absurd (show (1 : Int32) = 0 from c) (by decide)) (fun _ => ?_)
        iterate 1 (refine q_wst rfl rfl rfl ?_)
        refine q_wcl rfl rfl rfl ?_
        refine t_misParty _ _ _ _ (fun _ _ => ?_) (fun g => absurd ⟨g3, g4⟩ g)
        iterate 1 (refine q_wst rfl rfl rfl ?_)
        refine q_wif (fun c => absurd (show (1 : Int32) = 0 from c) (by decide)) (fun _ => ?_)
        iterate 3 (refine q_wst rfl rfl rfl ?_)
        refine q_wif (fun _ => ?_) (fun z => absurd c1 z)
        iterate 1 (refine q_wst rfl rfl rfl ?_)
        refine q_wcl rfl rfl rfl ?_
        refine t_mdebts 65 b m m1 P r1.1 (by rw [h1.1 97 (by omega)]; exact r1.2.2) (p_cD_ag h1) _ (fun m2 h2 => ?_)
        iterate 3 (refine q_wst rfl rfl rfl ?_)
        refine q_wcl rfl rfl rfl ?_
        refine t_mowed _ b m m2 P a c r1.1 ha hc (by rw [h2.2.1 4 (by decide) (by decide) (by decide), h1.1 97 (by omega)]; exact r1.2.2) ((h2.1 103 (by decide) (by omega)).trans (h1.1 103 (by omega))) h2.2.2.1 h2.2.2.2 _ ?_
        exact q_wrt rfl rfl rfl ⟨rfl, b, _, rfl, q_RR_same (q_same_tr (p_cD_same h1) (p_mD_same h2)) hR⟩
      · iterate 2 (refine q_wst rfl rfl rfl ?_)
        refine q_cf 1 rfl (by decide) rfl rfl rfl ⟨_, rfl, b, _, rfl, ?_⟩
        unfold q_Wm
        iterate 1 (refine q_wst rfl rfl rfl ?_)
        refine q_wcl rfl rfl rfl ?_
        refine t_misParty _ _ _ _ (fun _ _ => ?_) (fun g => absurd ⟨g1, g2⟩ g)
        iterate 1 (refine q_wst rfl rfl rfl ?_)
        refine q_wif (fun c => absurd (show (1 : Int32) = 0 from c) (by decide)) (fun _ => ?_)
        iterate 1 (refine q_wst rfl rfl rfl ?_)
        refine q_wcl rfl rfl rfl ?_
        refine t_misParty _ _ _ _ (fun _ _ => ?_) (fun g => absurd ⟨g3, g4⟩ g)
        iterate 1 (refine q_wst rfl rfl rfl ?_)
        refine q_wif (fun c => absurd (show (1 : Int32) = 0 from c) (by decide)) (fun _ => ?_)
        iterate 3 (refine q_wst rfl rfl rfl ?_)
        refine q_wif (fun z => absurd z c1) (fun _ => ?_)
        iterate 2 (refine q_wst rfl rfl rfl ?_)
        exact q_mf 1 rfl (by decide) rfl rfl rfl ⟨rfl, b, _, rfl, q_RR_fnd hR (q_same_rf _)⟩
    · iterate 1 (refine q_wst rfl rfl rfl ?_)
      refine q_wif (fun _ => ?_) (fun c => absurd rfl c)
      iterate 2 (refine q_wst rfl rfl rfl ?_)
      refine q_cf 1 rfl (by decide) rfl rfl rfl ⟨_, rfl, b, _, rfl, ?_⟩
      unfold q_Wm
      iterate 1 (refine q_wst rfl rfl rfl ?_)
      refine q_wcl rfl rfl rfl ?_
      refine t_misParty _ _ _ _ (fun _ _ => ?_) (fun g => absurd ⟨g1, g2⟩ g)
      iterate 1 (refine q_wst rfl rfl rfl ?_)
      refine q_wif (fun c => absurd (show (1 : Int32) = 0 from c) (by decide)) (fun _ => ?_)
      iterate 1 (refine q_wst rfl rfl rfl ?_)
      refine q_wcl rfl rfl rfl ?_
      refine t_misParty _ _ _ _ (fun z1 z2 => absurd ⟨z1, z2⟩ g) (fun _ => ?_)
      iterate 1 (refine q_wst rfl rfl rfl ?_)
      refine q_wif (fun _ => ?_) (fun c => absurd rfl c)
      iterate 2 (refine q_wst rfl rfl rfl ?_)
      exact q_mf 1 rfl (by decide) rfl rfl rfl ⟨rfl, b, _, rfl, q_RR_fnd hR (q_same_rf _)⟩
  · iterate 1 (refine q_wst rfl rfl rfl ?_)
    refine q_wif (fun _ => ?_) (fun c => absurd rfl c)
    iterate 2 (refine q_wst rfl rfl rfl ?_)
    refine q_cf 1 rfl (by decide) rfl rfl rfl ⟨_, rfl, b, _, rfl, ?_⟩
    unfold q_Wm
    iterate 1 (refine q_wst rfl rfl rfl ?_)
    refine q_wcl rfl rfl rfl ?_
    refine t_misParty _ _ _ _ (fun z1 z2 => absurd ⟨z1, z2⟩ g) (fun _ => ?_)
    iterate 1 (refine q_wst rfl rfl rfl ?_)
    refine q_wif (fun _ => ?_) (fun c => absurd rfl c)
    iterate 2 (refine q_wst rfl rfl rfl ?_)
    exact q_mf 1 rfl (by decide) rfl rfl rfl ⟨rfl, b, _, rfl, q_RR_fnd hR (q_same_rf _)⟩
def p_nt (m : q_M) (P a : Nat) : Nat → Int32
  | 0 => 0
  | n + 1 => p_nt m P a n + (p_os m P n a P - p_os m P a n P)
theorem t_netOf (d : Nat) (b : Bool) (m m1 : q_M) (P a : Nat) (ha : a < 8) (h : ∀ a c, a < 8 → c < 8 → m1 (22 + a) c = p_os m P a c P) (Q : Option Int32 → q_H → Prop) (hQ : Q (some (p_nt m P a 8)) (q_hp b m1)) : q_Wm d 15 [vr 18, vi (nI a)] (q_hp b m1) Q := by
  have loop : ∀ (r i : Nat) (y z : Int32), i + r = 8 → y = nI i → z = p_nt m P a i → q_WP none d 15 4 [some (vr 18), some (vi (nI a)), some (vi z), some (vi y)] [] (q_hp b m1) Q := by
    intro r
    induction r with
    | zero =>
      intro i y z hi hy hz
      have hi : i = 8 := by omega
      subst hi hy hz
      repeat (refine q_wst rfl rfl rfl ?_)
      exact q_wrt rfl rfl rfl hQ
    | succ r ih =>
      intro i y z hi hy hz
      subst hy
      have hi8 : i < 8 := by omega
      iterate 3 (refine q_wst rfl rfl rfl ?_)
      refine q_wif (fun c => absurd c (nI_ge (b := 8) hi8 (by omega))) (fun _ => ?_)
      iterate 4 (refine q_wst rfl rfl rfl ?_)
      refine q_wra (els := q_rws) i (22 + i) rfl hi8 (q_rwsg i hi8) rfl (q_at21 b) (Or.inr rfl) (by decide) ?_
      iterate 1 (refine q_wst rfl rfl rfl ?_)
      refine q_wrd a rfl ha rfl (q_atR b i hi8) (by decide) ?_
      iterate 3 (refine q_wst rfl rfl rfl ?_)
      refine q_wra (els := q_rws) a (22 + a) rfl ha (q_rwsg a ha) rfl (q_at21 b) (Or.inr rfl) (by decide) ?_
      iterate 1 (refine q_wst rfl rfl rfl ?_)
      refine q_wrd i rfl hi8 rfl (q_atR b a ha) (by decide) ?_
      iterate 5 (refine q_wst rfl rfl rfl ?_)
      refine ih (i + 1) _ _ (by omega) (nI_1 i) ?_
      show z + (m1 (22 + i) a - m1 (22 + a) i) = p_nt m P a i + (p_os m P i a P - p_os m P a i P)
      rw [h i a hi8 ha, h a i ha hi8, hz]
  unfold q_Wm
  iterate 4 (refine q_wst rfl rfl rfl ?_)
  exact loop 8 0 _ _ rfl rfl rfl
theorem ob_net (a1 : Int32) : q_Ob q_RR 86 153 [a1] := by
  intro b m hR
  obtain ⟨P, w, hR0, h13⟩ := id hR
  have r1 := hR0.1
  unfold q_Wm
  iterate 1 (refine q_wst rfl rfl rfl ?_)
  refine q_wcl rfl rfl rfl ?_
  refine t_isParty _ _ _ _ (fun g1 g2 => ?_) (fun g => ?_)
  · obtain ⟨a, ha, ea⟩ := p_pty ⟨g1, g2⟩
    subst ea
    iterate 1 (refine q_wst rfl rfl rfl ?_)
    refine q_wif (fun _ => ?_) (fun c => absurd (show ¬ (1 : Int32) = 0 by decide) c)
    iterate 1 (refine q_wst rfl rfl rfl ?_)
    refine q_wcl rfl rfl rfl ?_
    refine t_readDebts 63 b m P w hR0 _ (fun m1 h1 => ?_)
    iterate 3 (refine q_wst rfl rfl rfl ?_)
    refine q_wcl rfl rfl rfl ?_
    refine t_netOf _ b m m1 P a ha h1.2.2.2.1 _ ?_
    refine q_wrt rfl rfl rfl ⟨p_nt m P a 8, rfl, b, _, rfl, ?_⟩
    unfold q_Wm
    iterate 1 (refine q_wst rfl rfl rfl ?_)
    refine q_wcl rfl rfl rfl ?_
    refine t_misParty _ _ _ _ (fun _ _ => ?_) (fun g => absurd ⟨g1, g2⟩ g)
    iterate 1 (refine q_wst rfl rfl rfl ?_)
    refine q_wif (fun _ => ?_) (fun c => absurd (show ¬ (1 : Int32) = 0 by decide) c)
    iterate 1 (refine q_wst rfl rfl rfl ?_)
    refine q_wcl rfl rfl rfl ?_
    refine t_mdebts 65 b m m1 P r1.1 (by rw [h1.1 97 (by omega)]; exact r1.2.2) (p_cD_ag h1) _ (fun m2 h2 => ?_)
    have k4 : m2 97 4 = nI P := by rw [h2.2.1 4 (by decide) (by decide) (by decide), h1.1 97 (by omega)]; exact r1.2.2
    have k103 : m2 103 = m 103 := (h2.1 103 (by decide) (by omega)).trans (h1.1 103 (by omega))
    have loop : ∀ (r i : Nat) (y z : Int32), i + r = 8 → y = nI i → z = p_nt m P a i → q_WP none 99 153 22 [some (vr 97), some (vi (nI a)), some (vi z), some (vi y)] [] (q_hp b m2) (fun r' h' => r' = some (p_nt m P a 8) ∧ h' = q_hp b m2) := by
      intro r
      induction r with
      | zero =>
        intro i y z hi hy hz
        have hi : i = 8 := by omega
        subst hi hy hz
        repeat (refine q_wst rfl rfl rfl ?_)
        exact q_wrt rfl rfl rfl ⟨rfl, rfl⟩
      | succ r ih =>
        intro i y z hi hy hz
        subst hy
        have hi8 : i < 8 := by omega
        iterate 3 (refine q_wst rfl rfl rfl ?_)
        refine q_wif (fun c => absurd c (nI_ge (b := 8) hi8 (by omega))) (fun _ => ?_)
        iterate 4 (refine q_wst rfl rfl rfl ?_)
        refine q_wif (fun c => ?_) (fun c => ?_)
        · iterate 3 (refine q_wst rfl rfl rfl ?_)
          refine q_wcl rfl rfl rfl ?_
          refine t_mowed _ b m m2 P i a r1.1 hi8 ha k4 k103 h2.2.2.1 h2.2.2.2 _ ?_
          iterate 3 (refine q_wst rfl rfl rfl ?_)
          refine q_wcl rfl rfl rfl ?_
          refine t_mowed _ b m m2 P a i r1.1 ha hi8 k4 k103 h2.2.2.1 h2.2.2.2 _ ?_
          iterate 5 (refine q_wst rfl rfl rfl ?_)
          refine ih (i + 1) _ _ (by omega) (nI_1 i) ?_
          show z + (p_os m P i a P - p_os m P a i P) = p_nt m P a i + (p_os m P i a P - p_os m P a i P)
          rw [hz]
        · have c : nI i = nI a := Decidable.not_not.mp c
          have c : i = a := q_nIle (by omega) (by omega) c
          subst c
          iterate 6 (refine q_wst rfl rfl rfl ?_)
          refine ih (i + 1) _ _ (by omega) (nI_1 i) ?_
          show z + 0 = p_nt m P i i + (p_os m P i i P - p_os m P i i P)
          rw [hz, Int32.sub_self]
    iterate 4 (refine q_wst rfl rfl rfl ?_)
    refine q_wmono ?_ (loop 8 0 _ _ rfl rfl rfl)
    rintro r' h' ⟨rfl, rfl⟩
    exact ⟨rfl, b, _, rfl, q_RR_same (q_same_tr (p_cD_same h1) (p_mD_same h2)) hR⟩
  · iterate 1 (refine q_wst rfl rfl rfl ?_)
    refine q_wif (fun c => absurd rfl c) (fun _ => ?_)
    iterate 2 (refine q_wst rfl rfl rfl ?_)
    refine q_cf 1 rfl (by decide) rfl rfl rfl ⟨_, rfl, b, _, rfl, ?_⟩
    unfold q_Wm
    iterate 1 (refine q_wst rfl rfl rfl ?_)
    refine q_wcl rfl rfl rfl ?_
    refine t_misParty _ _ _ _ (fun z1 z2 => absurd ⟨z1, z2⟩ g) (fun _ => ?_)
    iterate 1 (refine q_wst rfl rfl rfl ?_)
    refine q_wif (fun c => absurd rfl c) (fun _ => ?_)
    iterate 2 (refine q_wst rfl rfl rfl ?_)
    exact q_mf 1 rfl (by decide) rfl rfl rfl ⟨rfl, b, _, rfl, q_RR_fnd hR (q_same_rf _)⟩
