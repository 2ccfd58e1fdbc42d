/-! obligations: toPay, count, check -/
def p_clm (m : q_M) (P s : Nat) : Int32 := p_dv m P s + (if 0 < m 97 0 - m 104 (p_ob m P s) then m 97 0 - m 104 (p_ob m P s) else 0) / 30 * (p_dv m P s / 20)
theorem t_claim (d : Nat) (b : Bool) (m m1 : q_M) (P s : Nat) (w : Nat → Nat) (hR : q_R0 P w b m) (hs : s < P) (h1 : p_cD m m1 P) (hp : 0 < p_dv m P s) (Q : Option Int32 → q_H → Prop) (hQ : Q (some (p_clm m P s)) (q_hp b m1)) : q_Wm (d + 1) 97 [vr 0, vi (nI s)] (q_hp b m1) Q := by
  have hP := hR.1.1
  obtain ⟨D, hD, d1, d2⟩ := hR.2.2.1
  have r8 := hR.2.2.2.2.2.2.2.1
  have hs3 : s < 30 := by omega
  have hpp := p_dv_pos hp
  have ho := p_ob_sp m P s hP hpp.2.1
  have e9 : m1 9 s = nI (p_ob m P s) := ((h1.2.1 s hs).1 hpp.1).trans ho.2
  have e19 : m1 19 s = p_dv m P s := by rw [(h1.2.2.1 s hs3).1, if_pos hs]
  have e5 : m1 (37 + 2 * p_ob m P s) 5 = m 104 (p_ob m P s) := by
    rw [h1.1 _ (by omega)]
    exact (r8 _ (by omega)).2.2.2.2.1 ho.1
  have e7 : m1 0 7 = m 97 0 := by rw [h1.1 0 (by omega), d1, d2]
  unfold q_Wm
  iterate 4 (refine q_wst rfl rfl rfl ?_)
  refine q_wrd s rfl hs3 rfl (q_at19 b) (by decide) ?_
  iterate 10 (refine q_wst rfl rfl rfl ?_)
  refine q_wrd s rfl hs3 rfl (q_at9 b) (by decide) ?_
  refine q_wpc (p_ob m P s) e9 (by omega) rfl ?_
  refine q_wgi rfl (q_atP b _ (by omega)) rfl rfl ?_
  iterate 6 (refine q_wst rfl rfl rfl ?_)
  refine q_wcl rfl rfl rfl ?_
  refine t_quot _ _ _ _ _ (by decide) ?_
  iterate 2 (refine q_wst rfl rfl rfl ?_)
  refine q_wcl rfl rfl rfl ?_
  refine t_quot _ _ _ _ _ (by decide) ?_
  iterate 2 (refine q_wst rfl rfl rfl ?_)
  refine q_wrt rfl rfl rfl ?_
  show Q (some (m1 19 s + (if 0 < m1 0 7 - m1 (37 + 2 * p_ob m P s) 5 then m1 0 7 - m1 (37 + 2 * p_ob m P s) 5 else 0) / 30 * (m1 19 s / 20))) (q_hp b m1)
  rw [e19, e5, e7]
  exact hQ
theorem t_mdue (d : Nat) (b : Bool) (m x m2 : q_M) (P s : Nat) (hP : P ≤ 30) (hs : s < P) (h2 : p_mD m x m2 P) (h104 : x 104 = m 104) (h0 : x 97 0 = m 97 0) (hp : 0 < p_dv m P s) (Q : Option Int32 → q_H → Prop) (hQ : Q (some (p_clm m P s)) (q_hp b m2)) : q_Wm d 167 [vr 97, vi (nI s)] (q_hp b m2) Q := by
  have hs3 : s < 30 := by omega
  have hpp := p_dv_pos hp
  have ho := p_ob_sp m P s hP hpp.2.1
  have e9 : m2 119 s = nI (p_ob m P s) := (h2.2.2.1 s hs).trans ho.2
  have e19 : m2 121 s = p_dv m P s := h2.2.2.2 s hs
  have e5 : m2 104 (p_ob m P s) = m 104 (p_ob m P s) := by rw [h2.1 104 (by decide) (by omega), h104]
  have e7 : m2 97 0 = m 97 0 := by rw [h2.2.1 0 (by decide) (by decide) (by decide), h0]
  unfold q_Wm
  iterate 8 (refine q_wst rfl rfl rfl ?_)
  refine q_wrd s rfl hs3 rfl (q_at119 b) (by decide) ?_
  refine q_wrd (p_ob m P s) e9 (show p_ob m P s < 30 by omega) rfl (q_at104 b) (by decide) ?_
  iterate 6 (refine q_wst rfl rfl rfl ?_)
  refine q_wrd s rfl hs3 rfl (q_at121 b) (by decide) ?_
  iterate 2 (refine q_wst rfl rfl rfl ?_)
  refine q_wdv rfl (by decide) ?_
  iterate 3 (refine q_wst rfl rfl rfl ?_)
  refine q_wrd s rfl hs3 rfl (q_at121 b) (by decide) ?_
  iterate 1 (refine q_wst rfl rfl rfl ?_)
  refine q_wdv rfl (by decide) ?_
  iterate 2 (refine q_wst rfl rfl rfl ?_)
  refine q_wrt rfl rfl rfl ?_
  show Q (some (m2 121 s + (if 0 < m2 97 0 - m2 104 (p_ob m P s) then m2 97 0 - m2 104 (p_ob m P s) else 0) / 30 * (m2 121 s / 20))) (q_hp b m2)
  rw [e19, e5, e7]
  exact hQ
theorem t_noDebt (d : Nat) (b : Bool) (m x : q_M) (P s : Nat) (hP : P ≤ 30) (hs : s < P) (h4 : x 97 4 = nI P) (hag : p_ag3 m x) (Q : Option Int32 → q_H → Prop) (hk0 : ¬ m 100 s = 1 → Q (some (-1000000005)) (q_hp b x)) (hk1 : m 100 s = 1 → ∀ m2, p_mD m x m2 P → (p_dv m P s = 0 → Q (some (-1000000002)) (q_hp b m2)) ∧ (0 < p_dv m P s → Q (some 0) (q_hp b m2))) : q_Wm (d + 34) 166 [vr 97, vi (nI s)] (q_hp b x) Q := by
  have hs3 : s < 30 := by omega
  unfold q_Wm
  iterate 3 (refine q_wst rfl rfl rfl ?_)
  refine q_wrd s rfl hs3 rfl (q_at100 b) (by decide) ?_
  iterate 2 (refine q_wst rfl rfl rfl ?_)
  refine q_wif (fun c => ?_) (fun c => ?_)
  · have c : x 100 s = 1 := c
    rw [hag.1.1] at c
    iterate 1 (refine q_wst rfl rfl rfl ?_)
    refine q_wcl rfl rfl rfl ?_
    refine t_mdebts d b m x P hP h4 hag _ (fun m2 h2 => ?_)
    have hk := hk1 c m2 h2
    iterate 3 (refine q_wst rfl rfl rfl ?_)
    refine q_wrd s rfl hs3 rfl (q_at121 b) (by decide) ?_
    iterate 1 (refine q_wst rfl rfl rfl ?_)
    refine q_wif (fun c2 => ?_) (fun c2 => ?_)
    · have c2 : ¬ m2 121 s = 0 := c2
      rw [h2.2.2.2 s hs] at c2
      iterate 1 (refine q_wst rfl rfl rfl ?_)
      exact q_wrt rfl rfl rfl (hk.2 (Decidable.by_contra (fun z => c2 (p_dv_n0 z))))
    · have c2 : m2 121 s = 0 := Decidable.not_not.mp c2
      rw [h2.2.2.2 s hs] at c2
      iterate 2 (refine q_wst rfl rfl rfl ?_)
      exact q_wrt rfl rfl rfl (hk.1 c2)
  · have c : ¬ x 100 s = 1 := c
    rw [hag.1.1] at c
    iterate 1 (refine q_wst rfl rfl rfl ?_)
    exact q_wrt rfl rfl rfl (hk0 c)
theorem ob_toPay (a1 : Int32) : q_Ob q_RR 96 165 [a1] := by
  intro b m hR
  obtain ⟨P, w, hR0, h13⟩ := id hR
  have r1 := hR0.1
  have r8 := hR0.2.2.2.2.2.2.2.1
  unfold q_Wm
  iterate 2 (refine q_wst rfl rfl rfl ?_)
  refine q_wcl rfl rfl rfl ?_
  refine t_isPiece _ b m a1 r1.1 r1.2.1 _ (fun p hp e => ?_) (fun hn => ?_)
  · subst e
    have hp30 : p < 30 := Nat.lt_of_lt_of_le hp r1.1
    obtain ⟨b1, b2, b3, b4, b5, b6, b7⟩ := r8 p hp30
    have mod : ∀ (x : q_M) (Q : Option Int32 → q_H → Prop), x 97 4 = nI P → q_WP none 99 165 15 [some (vr 97), some (vi (nI p)), none] [] (q_hp b x) Q → q_Wm 99 165 [vr 97, vi (nI p)] (q_hp b x) Q := by
      intro x Q h4 K
      unfold q_Wm
      iterate 2 (refine q_wst rfl rfl rfl ?_)
      refine q_wcl rfl rfl rfl ?_
      refine t_misPiece (P := P) _ b x _ r1.1 h4 _ (fun _ _ _ => ?_) (fun hn => absurd rfl (hn p hp))
      iterate 1 (refine q_wst rfl rfl rfl ?_)
      exact K
    iterate 4 (refine q_wst rfl rfl rfl ?_)
    refine q_wpc p rfl hp30 rfl ?_
    iterate 1 (refine q_wst rfl rfl rfl ?_)
    refine q_wcP p hp30 rfl rfl rfl rfl rfl ?_
    refine t_isA _ b m p hp30 _ _ (fun k1 => ?_) (fun k1 => ?_)
    · have k1 : m 100 p = 1 := by
        rw [b1] at k1
        rcases k1 with z | z | z
        · exact absurd z (by decide)
        · exact z
        · exact absurd z.1 (by decide)
      iterate 1 (refine q_wst rfl rfl rfl ?_)
      refine q_wif (fun _ => ?_) (fun c => absurd (show ¬ (1 : Int32) = 0 by decide) c)
      iterate 1 (refine q_wst rfl rfl rfl ?_)
      refine q_wcl rfl rfl rfl ?_
      refine t_readDebts 63 b m P w hR0 _ (fun m1 h1 => ?_)
      have h4 : m1 97 4 = nI P := by rw [h1.1 97 (by omega)]; exact r1.2.2
      have e19 : m1 19 p = p_dv m P p := by rw [(h1.2.2.1 p hp30).1, if_pos hp]
      iterate 4 (refine q_wst rfl rfl rfl ?_)
      refine q_wrd p rfl hp30 rfl (q_at19 b) (by decide) ?_
      iterate 1 (refine q_wst rfl rfl rfl ?_)
      refine q_wif (fun c => ?_) (fun c => ?_)
      · have c : ¬ m1 19 p = 0 := c
        rw [e19] at c
        have c : 0 < p_dv m P p := Decidable.by_contra (fun z => c (p_dv_n0 z))
        iterate 2 (refine q_wst rfl rfl rfl ?_)
        refine q_wcl rfl rfl rfl ?_
        refine t_claim _ b m m1 P p w hR0 hp h1 c _ ?_
        refine q_wrt rfl rfl rfl ⟨p_clm m P p, rfl, b, _, rfl, ?_⟩
        refine mod m1 _ h4 ?_
        iterate 2 (refine q_wst rfl rfl rfl ?_)
        refine q_wcl rfl rfl rfl ?_
        refine t_noDebt 64 b m m1 P p r1.1 hp h4 (p_cD_ag h1) _ (fun z => absurd k1 z) (fun _ m2 h2 => ⟨fun z => absurd c (by rw [z]; decide), fun _ => ?_⟩)
        iterate 3 (refine q_wst rfl rfl rfl ?_)
        refine q_wif (fun _ => ?_) (fun z => absurd rfl z)
        iterate 2 (refine q_wst rfl rfl rfl ?_)
        refine q_wcl rfl rfl rfl ?_
        refine t_mdue _ b m m1 m2 P p r1.1 hp h2 (h1.1 104 (by omega)) (by rw [h1.1 97 (by omega)]) c _ ?_
        exact q_wrt rfl rfl rfl ⟨rfl, b, _, rfl, q_RR_same (q_same_tr (p_cD_same h1) (p_mD_same h2)) hR⟩
      · have c : m1 19 p = 0 := Decidable.not_not.mp c
        rw [e19] at c
        iterate 2 (refine q_wst rfl rfl rfl ?_)
        refine q_wcl rfl rfl rfl ?_
        refine t_finding _ b m1 2 (by decide) _ ?_
        iterate 1 (refine q_wst rfl rfl rfl ?_)
        refine q_wrt rfl rfl rfl ⟨_, rfl, b, _, rfl, ?_⟩
        refine mod _ _ h4 ?_
        iterate 2 (refine q_wst rfl rfl rfl ?_)
        refine q_wcl rfl rfl rfl ?_
        refine t_noDebt 64 b m _ P p r1.1 hp (by exact h4) (p_ag3_f (p_cD_ag h1)) _ (fun z => absurd k1 z) (fun _ m2 h2 => ⟨fun _ => ?_, fun z => absurd z (by rw [c]; decide)⟩)
        iterate 3 (refine q_wst rfl rfl rfl ?_)
        refine q_wif (fun z => absurd (show (-1000000002 : Int32) = 0 from z) (by decide)) (fun _ => ?_)
        iterate 2 (refine q_wst rfl rfl rfl ?_)
        refine q_wcl rfl rfl rfl ?_
        refine t_mfinding _ b _ 2 _ (by decide) (by rfl) _ ?_
        iterate 1 (refine q_wst rfl rfl rfl ?_)
        exact q_wrt rfl rfl rfl ⟨rfl, b, _, rfl, q_RR_fnd hR (q_same_tr (p_cD_f h1) (p_mD_same h2))⟩
    · have k1 : ¬ m 100 p = 1 := fun z => k1 (by
        rw [b1]
        exact Or.inr (Or.inl z))
      iterate 1 (refine q_wst rfl rfl rfl ?_)
      refine q_wif (fun c => absurd rfl c) (fun _ => ?_)
      iterate 2 (refine q_wst rfl rfl rfl ?_)
      refine q_cf 5 rfl (by decide) rfl rfl rfl ⟨_, rfl, b, _, rfl, ?_⟩
      refine mod _ _ r1.2.2 ?_
      iterate 2 (refine q_wst rfl rfl rfl ?_)
      refine q_wcl rfl rfl rfl ?_
      refine t_noDebt 64 b m _ P p r1.1 hp (by exact r1.2.2) (p_ag3_f ⟨⟨rfl, rfl, rfl, rfl, rfl⟩, rfl, rfl⟩) _ (fun _ => ?_) (fun z => absurd z k1)
      iterate 3 (refine q_wst rfl rfl rfl ?_)
      refine q_wif (fun z => absurd (show (-1000000005 : Int32) = 0 from z) (by decide)) (fun _ => ?_)
      iterate 2 (refine q_wst rfl rfl rfl ?_)
      refine q_wcl rfl rfl rfl ?_
      refine t_mfinding _ b _ 5 _ (by decide) (by rfl) _ ?_
      iterate 1 (refine q_wst rfl rfl rfl ?_)
      exact q_wrt rfl rfl rfl ⟨rfl, b, _, rfl, q_RR_fnd hR (q_same_rf _)⟩
  · repeat (refine q_wst rfl rfl rfl ?_)
    refine q_cf 1 rfl (by decide) rfl rfl rfl ⟨_, rfl, b, _, rfl, ?_⟩
    unfold q_Wm
    repeat (refine q_wst rfl rfl rfl ?_)
    refine q_wcl rfl rfl rfl ?_
    refine t_misPiece (P := P) _ b _ _ r1.1 (by exact r1.2.2) _ (fun q hq e => absurd e (hn q hq)) (fun _ => ?_)
    repeat (refine q_wst rfl rfl rfl ?_)
    exact q_mf 1 rfl (by decide) rfl rfl rfl ⟨rfl, b, _, rfl, q_RR_fnd hR (q_same_rf _)⟩
/-- how many pieces are in a state -/
def p_cs (m : q_M) (v : Int32) : Nat → Nat
  | 0 => 0
  | n + 1 => if m 105 n = v then p_cs m v n + 1 else p_cs m v n
theorem t_cstate (d : Nat) (b : Bool) (m : q_M) (P : Nat) (v : Int32) (hP : P ≤ 30) (h1 : m 0 1 = nI P) (h8 : q_r8 P m) (Q : Option Int32 → q_H → Prop) (hQ : Q (some (nI (p_cs m v P))) (q_hp b m)) : q_Wm d 108 [vr 0, vi v] (q_hp b m) Q := by
  have loop : ∀ (r s : Nat) (y z : Int32), s + r = P → y = nI s → z = nI (p_cs m v s) → q_WP none d 108 4 [some (vr 0), some (vi v), some (vi z), some (vi y)] [] (q_hp b m) Q := by
    intro r
    induction r with
    | zero =>
      intro s y z hs hy hz
      have hs : s = P := by omega
      subst hs hy hz
      iterate 4 (refine q_wst rfl rfl rfl ?_)
      refine q_wif (fun _ => ?_) (fun c => absurd (show m 0 1 ≤ nI s by rw [h1]; exact nI_le (Nat.le_refl s) (by omega)) c)
      repeat (refine q_wst rfl rfl rfl ?_)
      exact q_wrt rfl rfl rfl hQ
    | succ r ih =>
      intro s y z hs hy hz
      subst hy hz
      have hs3 : s < 30 := by omega
      iterate 4 (refine q_wst rfl rfl rfl ?_)
      refine q_wif (fun c => absurd (show m 0 1 ≤ nI s from c) (by rw [h1]; exact nI_ge (by omega) (by omega))) (fun _ => ?_)
      iterate 3 (refine q_wst rfl rfl rfl ?_)
      refine q_wpc s rfl hs3 rfl ?_
      refine q_wgi rfl (q_atP b s hs3) rfl rfl ?_
      iterate 2 (refine q_wst rfl rfl rfl ?_)
      refine q_wif (fun c => ?_) (fun c => ?_)
      · have c : ¬ m (37 + 2 * s) 6 = v := c
        rw [(h8 s hs3).2.2.2.2.2.1] at c
        iterate 2 (refine q_wst rfl rfl rfl ?_)
        refine ih (s + 1) _ _ (by omega) (nI_1 s) ?_
        show _ = nI (if m 105 s = v then p_cs m v s + 1 else p_cs m v s)
        rw [if_neg c]
      · have c : m (37 + 2 * s) 6 = v := Decidable.not_not.mp c
        rw [(h8 s hs3).2.2.2.2.2.1] at c
        iterate 3 (refine q_wst rfl rfl rfl ?_)
        refine ih (s + 1) _ _ (by omega) (nI_1 s) ?_
        show _ = nI (if m 105 s = v then p_cs m v s + 1 else p_cs m v s)
        rw [if_pos c]
        exact nI_1 _
  unfold q_Wm
  iterate 4 (refine q_wst rfl rfl rfl ?_)
  exact loop P 0 _ _ (by omega) rfl rfl
theorem t_mcstate (d : Nat) (b : Bool) (m : q_M) (P : Nat) (v : Int32) (hP : P ≤ 30) (h4 : m 97 4 = nI P) (Q : Option Int32 → q_H → Prop) (hQ : Q (some (nI (p_cs m v P))) (q_hp b m)) : q_Wm d 178 [vr 97, vi v] (q_hp b m) Q := by
  have loop : ∀ (r s : Nat) (y z : Int32), s + r = P → y = nI s → z = nI (p_cs m v s) → q_WP none d 178 4 [some (vr 97), some (vi v), some (vi z), some (vi y)] [] (q_hp b m) Q := by
    intro r
    induction r with
    | zero =>
      intro s y z hs hy hz
      have hs : s = P := by omega
      subst hs hy hz
      iterate 4 (refine q_wst rfl rfl rfl ?_)
      refine q_wif (fun _ => ?_) (fun c => absurd (show m 97 4 ≤ nI s by rw [h4]; exact nI_le (Nat.le_refl s) (by omega)) c)
      repeat (refine q_wst rfl rfl rfl ?_)
      exact q_wrt rfl rfl rfl hQ
    | succ r ih =>
      intro s y z hs hy hz
      subst hy hz
      have hs3 : s < 30 := by omega
      iterate 4 (refine q_wst rfl rfl rfl ?_)
      refine q_wif (fun c => absurd (show m 97 4 ≤ nI s from c) (by rw [h4]; exact nI_ge (by omega) (by omega))) (fun _ => ?_)
      iterate 4 (refine q_wst rfl rfl rfl ?_)
      refine q_wrd s rfl hs3 rfl (q_at105 b) (by decide) ?_
      iterate 2 (refine q_wst rfl rfl rfl ?_)
      refine q_wif (fun c => ?_) (fun c => ?_)
      · have c : ¬ m 105 s = v := c
        iterate 5 (refine q_wst rfl rfl rfl ?_)
        refine ih (s + 1) _ _ (by omega) (nI_1 s) ?_
        show _ = nI (if m 105 s = v then p_cs m v s + 1 else p_cs m v s)
        rw [if_neg c]
        exact Int32.add_zero _
      · have c : m 105 s = v := Decidable.not_not.mp c
        iterate 6 (refine q_wst rfl rfl rfl ?_)
        refine ih (s + 1) _ _ (by omega) (nI_1 s) ?_
        show _ = nI (if m 105 s = v then p_cs m v s + 1 else p_cs m v s)
        rw [if_pos c]
        exact nI_1 _
  unfold q_Wm
  iterate 4 (refine q_wst rfl rfl rfl ?_)
  exact loop P 0 _ _ (by omega) rfl rfl
theorem t_mdn (d : Nat) (b : Bool) (m x : q_M) (P : Nat) (hP : P ≤ 30) (h4 : x 97 4 = nI P) (hag : p_ag3 m x) (Q : Option Int32 → q_H → Prop) (hQ : ∀ m2, p_mD m x m2 P → Q (some (nI (p_dn m P P))) (q_hp b m2)) : q_Wm (d + 34) 179 [vr 97] (q_hp b x) Q := by
  unfold q_Wm
  iterate 1 (refine q_wst rfl rfl rfl ?_)
  refine q_wcl rfl rfl rfl ?_
  refine t_mdebts d b m x P hP h4 hag _ (fun m2 h2 => ?_)
  have k4 : m2 97 4 = nI P := (h2.2.1 4 (by decide) (by decide) (by decide)).trans h4
  have loop : ∀ (r s : Nat) (y z : Int32), s + r = P → y = nI s → z = nI (p_dn m P s) → q_WP none (d + 34) 179 8 [some (vr 97), some (vi z), some (vi y)] [] (q_hp b m2) Q := by
    intro r
    induction r with
    | zero =>
      intro s y z hs hy hz
      have hs : s = P := by omega
      subst hs hy hz
      iterate 4 (refine q_wst rfl rfl rfl ?_)
      refine q_wif (fun _ => ?_) (fun c => absurd (show m2 97 4 ≤ nI s by rw [k4]; exact nI_le (Nat.le_refl s) (by omega)) c)
      repeat (refine q_wst rfl rfl rfl ?_)
      exact q_wrt rfl rfl rfl (hQ m2 h2)
    | succ r ih =>
      intro s y z hs hy hz
      subst hy hz
      have hs3 : s < 30 := by omega
      iterate 4 (refine q_wst rfl rfl rfl ?_)
      refine q_wif (fun c => absurd (show m2 97 4 ≤ nI s from c) (by rw [k4]; exact nI_ge (by omega) (by omega))) (fun _ => ?_)
      iterate 4 (refine q_wst rfl rfl rfl ?_)
      refine q_wrd s rfl hs3 rfl (q_at121 b) (by decide) ?_
      iterate 1 (refine q_wst rfl rfl rfl ?_)
      refine q_wif (fun c => ?_) (fun c => ?_)
      · have c : m2 121 s ≤ 0 := c
        rw [h2.2.2.2 s (by omega)] at c
        iterate 5 (refine q_wst rfl rfl rfl ?_)
        refine ih (s + 1) _ _ (by omega) (nI_1 s) ?_
        show _ = nI (if 0 < p_dv m P s then p_dn m P s + 1 else p_dn m P s)
        rw [if_neg (Int32.not_lt.mpr c)]
        exact Int32.add_zero _
      · have c : ¬ m2 121 s ≤ 0 := c
        rw [h2.2.2.2 s (by omega)] at c
        iterate 6 (refine q_wst rfl rfl rfl ?_)
        refine ih (s + 1) _ _ (by omega) (nI_1 s) ?_
        show _ = nI (if 0 < p_dv m P s then p_dn m P s + 1 else p_dn m P s)
        rw [if_pos (Int32.not_le.mp c)]
        exact nI_1 _
  iterate 4 (refine q_wst rfl rfl rfl ?_)
  exact loop P 0 _ _ (by omega) rfl rfl
theorem ob_count (a1 : Int32) : q_Ob q_RR 107 177 [a1] := by
  intro b m hR
  obtain ⟨P, w, hR0, h13⟩ := id hR
  have r1 := hR0.1
  obtain ⟨D, hD, d1, d2⟩ := hR0.2.2.1
  obtain ⟨T, hT, t1, t2, t3⟩ := hR0.2.2.2.1
  obtain ⟨G, hG, g1, g2, g3⟩ := hR0.2.2.2.2.1
  have r8 := hR0.2.2.2.2.2.2.2.1
  have cst : ∀ (v : Int32) (Q : Option Int32 → q_H → Prop), Q (some (nI (p_cs m v P))) (q_hp b m) → q_Wm 98 108 [vr 0, vi v] (q_hp b m) Q := fun v Q hQ => t_cstate _ b m P v r1.1 r1.2.1 r8 Q hQ
  have mcst : ∀ (v : Int32) (Q : Option Int32 → q_H → Prop), Q (some (nI (p_cs m v P))) (q_hp b m) → q_Wm 98 178 [vr 97, vi v] (q_hp b m) Q := fun v Q hQ => t_mcstate _ b m P v r1.1 r1.2.2 Q hQ
  unfold q_Wm
  by_cases ha : 0 ≤ a1 ∧ a1 ≤ 7
  · obtain ⟨j, hj, e⟩ := p_pty ha
    subst e
    rcases (by omega : j = 0 ∨ j = 1 ∨ j = 2 ∨ j = 3 ∨ j = 4 ∨ j = 5 ∨ j = 6 ∨ j = 7) with rfl | rfl | rfl | rfl | rfl | rfl | rfl | rfl
    · repeat (refine q_wst rfl rfl rfl ?_)
      refine q_wrt rfl rfl rfl ⟨nI P, congrArg some r1.2.1, b, _, rfl, ?_⟩
      unfold q_Wm
      repeat (refine q_wst rfl rfl rfl ?_)
      exact q_wrt rfl rfl rfl ⟨congrArg some r1.2.2, b, _, rfl, hR⟩
    · repeat (refine q_wst rfl rfl rfl ?_)
      refine q_wcl rfl rfl rfl ?_
      refine cst _ _ ?_
      refine q_wrt rfl rfl rfl ⟨_, rfl, b, _, rfl, ?_⟩
      unfold q_Wm
      repeat (refine q_wst rfl rfl rfl ?_)
      refine q_wcl rfl rfl rfl ?_
      refine mcst _ _ ?_
      exact q_wrt rfl rfl rfl ⟨rfl, b, _, rfl, hR⟩
    · repeat (refine q_wst rfl rfl rfl ?_)
      refine q_wcl rfl rfl rfl ?_
      refine cst _ _ ?_
      refine q_wrt rfl rfl rfl ⟨_, rfl, b, _, rfl, ?_⟩
      unfold q_Wm
      repeat (refine q_wst rfl rfl rfl ?_)
      refine q_wcl rfl rfl rfl ?_
      refine mcst _ _ ?_
      exact q_wrt rfl rfl rfl ⟨rfl, b, _, rfl, hR⟩
    · repeat (refine q_wst rfl rfl rfl ?_)
      refine q_wcl rfl rfl rfl ?_
      refine cst _ _ ?_
      refine q_wrt rfl rfl rfl ⟨_, rfl, b, _, rfl, ?_⟩
      unfold q_Wm
      repeat (refine q_wst rfl rfl rfl ?_)
      refine q_wcl rfl rfl rfl ?_
      refine mcst _ _ ?_
      exact q_wrt rfl rfl rfl ⟨rfl, b, _, rfl, hR⟩
    · repeat (refine q_wst rfl rfl rfl ?_)
      refine q_wrt rfl rfl rfl ⟨nI G, congrArg some g1, b, _, rfl, ?_⟩
      unfold q_Wm
      repeat (refine q_wst rfl rfl rfl ?_)
      exact q_wrt rfl rfl rfl ⟨congrArg some g2, b, _, rfl, hR⟩
    · repeat (refine q_wst rfl rfl rfl ?_)
      refine q_wrt rfl rfl rfl ⟨nI D, congrArg some d1, b, _, rfl, ?_⟩
      unfold q_Wm
      repeat (refine q_wst rfl rfl rfl ?_)
      exact q_wrt rfl rfl rfl ⟨congrArg some d2, b, _, rfl, hR⟩
    · repeat (refine q_wst rfl rfl rfl ?_)
      refine q_wrt rfl rfl rfl ⟨nI T, congrArg some t1, b, _, rfl, ?_⟩
      unfold q_Wm
      repeat (refine q_wst rfl rfl rfl ?_)
      exact q_wrt rfl rfl rfl ⟨congrArg some t2, b, _, rfl, hR⟩
    · repeat (refine q_wst rfl rfl rfl ?_)
      refine q_wcl rfl rfl rfl ?_
      refine t_readDebts 63 b m P w hR0 _ (fun m1 h1 => ?_)
      iterate 3 (refine q_wst rfl rfl rfl ?_)
      refine q_wrt rfl rfl rfl ⟨nI (p_dn m P P), congrArg some h1.2.2.2.2, b, _, rfl, ?_⟩
      unfold q_Wm
      repeat (refine q_wst rfl rfl rfl ?_)
      refine q_wcl rfl rfl rfl ?_
      refine t_mdn 64 b m m1 P r1.1 (by rw [h1.1 97 (by omega)]; exact r1.2.2) (p_cD_ag h1) _ (fun m2 h2 => ?_)
      exact q_wrt rfl rfl rfl ⟨rfl, b, _, rfl, q_RR_same (q_same_tr (p_cD_same h1) (p_mD_same h2)) hR⟩
  · have hout : a1.toInt < 0 ∨ 7 < a1.toInt := by
      rw [Int32.le_iff_toInt_le, Int32.le_iff_toInt_le] at ha
      have e0 : (0 : Int32).toInt = 0 := rfl
      have e7 : (7 : Int32).toInt = 7 := rfl
      omega
    iterate 1 (refine q_wst rfl rfl rfl ?_)
    refine q_wto rfl hout ?_
    iterate 2 (refine q_wst rfl rfl rfl ?_)
    refine q_cf 1 rfl (by decide) rfl rfl rfl ⟨_, rfl, b, _, rfl, ?_⟩
    unfold q_Wm
    iterate 1 (refine q_wst rfl rfl rfl ?_)
    refine q_wto rfl hout ?_
    iterate 2 (refine q_wst rfl rfl rfl ?_)
    exact q_mf 1 rfl (by decide) rfl rfl rfl ⟨rfl, b, _, rfl, q_RR_fnd hR (q_same_rf _)⟩
/-- what check answers -/
def p_ck (O kd tl : Nat → Int32) (T : Nat) : Nat → Nat → Nat → Int32
  | 0, _, i => if T ≤ i then 0 else 99
  | r + 1, s, i => if kd s = 1 ∧ ¬ O s < 0 then (if T ≤ i ∨ ¬ tl i = O s then nI (1 + i) else p_ck O kd tl T r (s + 1) (i + 1)) else p_ck O kd tl T r (s + 1) i
theorem p_ck_cg {O kd tl tm : Nat → Int32} {T : Nat} (h : ∀ i, i < T → tl i = tm i) : ∀ r s i, p_ck O kd tl T r s i = p_ck O kd tm T r s i
  | 0, _, _ => rfl
  | r + 1, s, i => by
    unfold p_ck
    rw [p_ck_cg h r (s + 1) (i + 1), p_ck_cg h r (s + 1) i]
    by_cases c : T ≤ i
    · rw [if_pos (Or.inl c), if_pos (Or.inl c)]
    · rw [h i (by omega)]
theorem ob_check (_ : Unit) : q_Ob q_RR 106 176 [] := by
  intro b m hR
  obtain ⟨P, w, hR0, h13⟩ := id hR
  have r1 := hR0.1
  have hP := r1.1
  obtain ⟨S, hS, s1, s2⟩ := hR0.2.1
  obtain ⟨T, hT, t1, t2, t3⟩ := hR0.2.2.2.1
  have r8 := hR0.2.2.2.2.2.2.2.1
  unfold q_Wm
  iterate 1 (refine q_wst rfl rfl rfl ?_)
  refine q_wcl rfl rfl rfl ?_
  refine t_pairUp 64 b m P r1.1 r1.2.1 r8 (s1.trans s2.symm) _ (fun m1 h1 => ?_)
  have e13 : m1 0 13 = nI T := by rw [h1.1 0 (by omega)]; exact t1
  have hb1 : m1 0 1 = nI P := by rw [h1.1 0 (by omega)]; exact r1.2.1
  have h35 : m1 35 = m 35 := h1.1 35 (by omega)
  -- the class's walk
  have loop : ∀ (r s i : Nat) (y z : Int32) (o4 : Option q_V) (Q : Option Int32 → q_H → Prop), s + r = P → i ≤ s → y = nI s → z = nI i → Q (some (p_ck (p_O m P) (m 100) (m 35) T r s i)) (q_hp b (q_up m1 0 13 0)) → q_WP none 99 106 18 [some (vr 0), some (vi (nI T)), some (vi z), some (vi y), o4] [] (q_hp b (q_up m1 0 13 0)) Q := by
    intro r
    induction r with
    | zero =>
      intro s i y z o4 Q hs his hy hz hQ
      have hs : s = P := by omega
      subst hs hy hz
      unfold p_ck at hQ
      iterate 4 (refine q_wst rfl rfl rfl ?_)
      refine q_wif (fun _ => ?_) (fun c => absurd (show m1 0 1 ≤ nI s by rw [hb1]; exact nI_le (Nat.le_refl s) (by omega)) c)
      iterate 3 (refine q_wst rfl rfl rfl ?_)
      refine q_wif (fun c => ?_) (fun c => ?_)
      · have c := (nI_leI (by omega) (by omega)).mp c
        rw [if_pos c] at hQ
        iterate 1 (refine q_wst rfl rfl rfl ?_)
        exact q_wrt rfl rfl rfl hQ
      · rw [if_neg (fun z => c (nI_le z (by omega)))] at hQ
        iterate 2 (refine q_wst rfl rfl rfl ?_)
        exact q_wrt rfl rfl rfl hQ
    | succ r ih =>
      intro s i y z o4 Q hs his hy hz hQ
      subst hy hz
      have hsP : s < P := by omega
      have hs3 : s < 30 := by omega
      unfold p_ck at hQ
      iterate 4 (refine q_wst rfl rfl rfl ?_)
      refine q_wif (fun c => absurd (show m1 0 1 ≤ nI s from c) (by rw [hb1]; exact nI_ge (by omega) (by omega))) (fun _ => ?_)
      iterate 4 (refine q_wst rfl rfl rfl ?_)
      refine q_wrd s rfl hs3 rfl (q_at9 b) (by decide) ?_
      iterate 3 (refine q_wst rfl rfl rfl ?_)
      refine q_wif (fun c => ?_) (fun c => ?_)
      · have c : 0 ≤ m1 9 s := c
        have k1 : m 100 s = 1 := by
          rcases Decidable.em (m 100 s = 1) with z | z
          · exact z
          · rw [((h1.2.2 s hsP).2 z).2] at c
            exact absurd c (by decide)
        have e9 := (h1.2.2 s hsP).1 k1
        rw [e9] at c
        rw [if_pos ⟨k1, Int32.not_lt.mpr c⟩] at hQ
        iterate 3 (refine q_wst rfl rfl rfl ?_)
        refine q_wif (fun c2 => ?_) (fun c2 => ?_)
        · have c2 := (nI_leI (by omega) (by omega)).mp c2
          rw [if_pos (Or.inl c2)] at hQ
          iterate 3 (refine q_wst rfl rfl rfl ?_)
          refine q_wrt rfl rfl rfl ?_
          show Q (some (nI 1 + nI i)) _
          rw [nI_add]
          exact hQ
        · have c2 : i < T := by
            rcases Nat.lt_or_ge i T with z | z
            · exact z
            · exact absurd (nI_le z (by omega)) c2
          iterate 3 (refine q_wst rfl rfl rfl ?_)
          refine q_wrd i rfl (show i < 30 by omega) rfl (q_at35 b) (by decide) ?_
          iterate 2 (refine q_wst rfl rfl rfl ?_)
          refine q_wif (fun c3 => ?_) (fun c3 => ?_)
          · have c3 : m1 35 i = m1 9 s := c3
            rw [h35, e9] at c3
            rw [if_neg (fun z => by rcases z with z | z; exact absurd z (by omega); exact z c3)] at hQ
            iterate 3 (refine q_wst rfl rfl rfl ?_)
            exact ih (s + 1) (i + 1) _ _ _ Q (by omega) (by omega) (nI_1 s) (nI_1 i) hQ
          · have c3 : ¬ m1 35 i = m1 9 s := c3
            rw [h35, e9] at c3
            rw [if_pos (Or.inr c3)] at hQ
            iterate 3 (refine q_wst rfl rfl rfl ?_)
            refine q_wrt rfl rfl rfl ?_
            show Q (some (nI 1 + nI i)) _
            rw [nI_add]
            exact hQ
      · have c : ¬ 0 ≤ m1 9 s := c
        rw [if_neg (fun z => c (by rw [(h1.2.2 s hsP).1 z.1]; exact Int32.not_lt.mp z.2))] at hQ
        iterate 3 (refine q_wst rfl rfl rfl ?_)
        exact ih (s + 1) i _ _ _ Q (by omega) (by omega) (nI_1 s) rfl hQ
  -- the reference's walk
  have model : q_Wm 99 176 [vr 97] (q_hp b (q_up m1 0 13 0)) (fun r' h' => r' = some (p_ck (p_O m P) (m 100) (m 35) T P 0 0) ∧ ∃ bb mm, h' = q_hp bb mm ∧ q_RR bb mm) := by
    unfold q_Wm
    iterate 6 (refine q_wst rfl rfl rfl ?_)
    iterate 1 (refine q_wst rfl rfl rfl ?_)
    refine q_wcl rfl rfl rfl ?_
    have hag : p_ag m (q_up (q_up m1 0 13 0) 97 19 0) := by
      refine ⟨?_, ?_, ?_, ?_, ?_⟩
      · rw [q_up_ne (by decide), q_up_ne (by decide)]; exact h1.1 100 (by omega)
      · rw [q_up_ne (by decide), q_up_ne (by decide)]; exact h1.1 101 (by omega)
      · rw [q_up_ne (by decide), q_up_ne (by decide)]; exact h1.1 105 (by omega)
      · rw [q_up_ne (by decide), q_up_ne (by decide)]; exact h1.1 106 (by omega)
      · show m1 97 3 = m 97 3
        rw [h1.1 97 (by omega)]
    have k4 : q_up (q_up m1 0 13 0) 97 19 0 97 4 = nI P := by
      show m1 97 4 = nI P
      rw [h1.1 97 (by omega)]
      exact r1.2.2
    refine t_mfind 66 b (q_up (q_up m1 0 13 0) 97 19 0) P r1.1 k4 _ (fun m2 h2 => ?_)
    have z4 : m2 97 4 = nI P := (h2.2.1 4 (by decide) (by decide)).trans k4
    have z100 : m2 100 = m 100 := (h2.1 100 (by decide) (by omega)).trans hag.1
    have z113 : m2 113 = m 113 := by
      rw [h2.1 113 (by decide) (by omega), q_up_ne (by decide), q_up_ne (by decide)]
      exact h1.1 113 (by omega)
    have zO : ∀ p, p < P → m2 119 p = p_O m P p := fun p hp => by rw [h2.2.2.2 p hp, p_O_cg hag]
    have e19 : q_up m1 0 13 0 97 19 = nI T := by
      show m1 97 19 = nI T
      rw [h1.1 97 (by omega)]
      exact t2
    have hsm : q_same (q_up (q_up m 0 13 0) 97 19 0) m2 := by
      refine q_same_tr ?_ (p_mP_same h2)
      exact q_same_cg (q_same_cg (p_cP_same h1))
    have hRR : q_RR b m2 := by
      refine q_RR_same hsm ?_
      obtain ⟨q1, q2, q3, q4, q5, q6, q7, q8, q9, q10, q11, q12, q14⟩ := hR0
      refine ⟨P, w, ⟨q1, q2, q3, ⟨0, by omega, rfl, rfl, fun i hi => absurd hi (by omega)⟩, q5, q6, q7, q_r8_ag (fun c hc => ?_) q8, q9, q10, q11, q12, q14⟩, h13⟩
      rw [q_up_ne (by omega), q_up_ne (by omega)]
    have mloop : ∀ (r s i : Nat) (y z : Int32), s + r = P → i ≤ s → y = nI s → z = nI i → q_WP none 99 176 18 [some (vr 97), some (vi (nI T)), some (vi z), some (vi y)] [] (q_hp b m2) (fun r' h' => r' = some (p_ck (p_O m P) (m 100) (m 113) T r s i) ∧ h' = q_hp b m2) := by
      intro r
      induction r with
      | zero =>
        intro s i y z hs his hy hz
        have hs : s = P := by omega
        subst hs hy hz
        iterate 4 (refine q_wst rfl rfl rfl ?_)
        refine q_wif (fun _ => ?_) (fun c => absurd (show m2 97 4 ≤ nI s by rw [z4]; exact nI_le (Nat.le_refl s) (by omega)) c)
        iterate 3 (refine q_wst rfl rfl rfl ?_)
        refine q_wif (fun c => ?_) (fun c => ?_)
        · have c := (nI_leI (by omega) (by omega)).mp c
          iterate 1 (refine q_wst rfl rfl rfl ?_)
          refine q_wrt rfl rfl rfl ⟨?_, rfl⟩
          unfold p_ck
          rw [if_pos c]
        · iterate 2 (refine q_wst rfl rfl rfl ?_)
          refine q_wrt rfl rfl rfl ⟨?_, rfl⟩
          unfold p_ck
          rw [if_neg (fun z => c (nI_le z (by omega)))]
      | succ r ih =>
        intro s i y z hs his hy hz
        subst hy hz
        have hsP : s < P := by omega
        have hs3 : s < 30 := by omega
        unfold p_ck
        iterate 4 (refine q_wst rfl rfl rfl ?_)
        refine q_wif (fun c => absurd (show m2 97 4 ≤ nI s from c) (by rw [z4]; exact nI_ge (by omega) (by omega))) (fun _ => ?_)
        iterate 3 (refine q_wst rfl rfl rfl ?_)
        refine q_wrd s rfl hs3 rfl (q_at100 b) (by decide) ?_
        iterate 2 (refine q_wst rfl rfl rfl ?_)
        refine q_wif (fun c => ?_) (fun c => ?_)
        · have c : ¬ m2 100 s = 1 := c
          rw [z100] at c
          iterate 2 (refine q_wst rfl rfl rfl ?_)
          refine q_wmono ?_ (ih (s + 1) i _ _ (by omega) (by omega) (nI_1 s) rfl)
          rintro r' h' ⟨e1, e2⟩
          rw [if_neg (fun z => c z.1)]
          exact ⟨e1, e2⟩
        · have c : m2 100 s = 1 := Decidable.not_not.mp c
          rw [z100] at c
          iterate 3 (refine q_wst rfl rfl rfl ?_)
          refine q_wrd s rfl hs3 rfl (q_at119 b) (by decide) ?_
          iterate 1 (refine q_wst rfl rfl rfl ?_)
          refine q_wif (fun c2 => ?_) (fun c2 => ?_)
          · have c2 : m2 119 s < 0 := c2
            rw [zO s hsP] at c2
            iterate 2 (refine q_wst rfl rfl rfl ?_)
            refine q_wmono ?_ (ih (s + 1) i _ _ (by omega) (by omega) (nI_1 s) rfl)
            rintro r' h' ⟨e1, e2⟩
            rw [if_neg (fun z => z.2 c2)]
            exact ⟨e1, e2⟩
          · have c2 : ¬ m2 119 s < 0 := c2
            rw [zO s hsP] at c2
            iterate 3 (refine q_wst rfl rfl rfl ?_)
            refine q_wif (fun c3 => ?_) (fun c3 => ?_)
            · have c3 := (nI_leI (by omega) (by omega)).mp c3
              iterate 3 (refine q_wst rfl rfl rfl ?_)
              refine q_wrt rfl rfl rfl ⟨?_, rfl⟩
              rw [if_pos ⟨c, c2⟩, if_pos (Or.inl c3)]
              show some (nI 1 + nI i) = _
              rw [nI_add]
            · have c3 : i < T := by
                rcases Nat.lt_or_ge i T with z | z
                · exact z
                · exact absurd (nI_le z (by omega)) c3
              iterate 3 (refine q_wst rfl rfl rfl ?_)
              refine q_wrd i rfl (show i < 30 by omega) rfl (q_at113 b) (by decide) ?_
              iterate 3 (refine q_wst rfl rfl rfl ?_)
              refine q_wrd s rfl hs3 rfl (q_at119 b) (by decide) ?_
              iterate 1 (refine q_wst rfl rfl rfl ?_)
              refine q_wif (fun c4 => ?_) (fun c4 => ?_)
              · have c4 : m2 113 i = m2 119 s := c4
                rw [z113, zO s hsP] at c4
                iterate 3 (refine q_wst rfl rfl rfl ?_)
                refine q_wmono ?_ (ih (s + 1) (i + 1) _ _ (by omega) (by omega) (nI_1 s) (nI_1 i))
                rintro r' h' ⟨e1, e2⟩
                rw [if_pos ⟨c, c2⟩, if_neg (fun z => by rcases z with z | z; exact absurd z (by omega); exact z c4)]
                exact ⟨e1, e2⟩
              · have c4 : ¬ m2 113 i = m2 119 s := c4
                rw [z113, zO s hsP] at c4
                iterate 3 (refine q_wst rfl rfl rfl ?_)
                refine q_wrt rfl rfl rfl ⟨?_, rfl⟩
                rw [if_pos ⟨c, c2⟩, if_pos (Or.inr c4)]
                show some (nI 1 + nI i) = _
                rw [nI_add]
    iterate 4 (refine q_wst rfl rfl rfl ?_)
    show q_WP none 99 176 18 [some (vr 97), some (vi (q_up m1 0 13 0 97 19)), some (vi 0), some (vi 0)] [] (q_hp b m2) _
    rw [e19]
    refine q_wmono ?_ (mloop P 0 0 _ _ (by omega) (by omega) rfl rfl)
    rintro r' h' ⟨e1, e2⟩
    exact ⟨by rw [e1, p_ck_cg (fun i hi => (t3 i hi).symm)], b, m2, e2, hRR⟩
  iterate 6 (refine q_wst rfl rfl rfl ?_)
  iterate 4 (refine q_wst rfl rfl rfl ?_)
  show q_WP none 99 106 18 [some (vr 0), some (vi (m1 0 13)), some (vi 0), some (vi 0), none] [] (q_hp b (q_up m1 0 13 0)) _
  rw [e13]
  refine loop P 0 0 _ _ _ _ (by omega) (by omega) rfl rfl ⟨_, rfl, b, _, rfl, ?_⟩
  refine q_wmono ?_ model
  rintro r' h' ⟨e1, e2⟩
  exact ⟨e1, e2⟩
