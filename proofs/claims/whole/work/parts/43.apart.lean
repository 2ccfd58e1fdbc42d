/-! where two profiles part; obligation: apart -/
def p_ab (x : Int32) : Int32 := if 0 ≤ x then x else 0 - x
def p_fa (d1 d2 : Nat → Int32) (sl : Int32) (lo hi : Nat) : Nat → Nat → Int32
  | 0, _ => 40
  | r + 1, i => if p_ab ((if lo ≤ i ∧ i < hi then 0 else d1 i) - d2 i) ≤ sl then p_fa d1 d2 sl lo hi r (i + 1) else nI i
theorem p_fa_eq {d1 d2 e1 e2 : Nat → Int32} {sl : Int32} {lo hi : Nat} : ∀ r i, i + r ≤ 40 → (∀ j, j < 40 → d1 j = e1 j ∧ d2 j = e2 j) → p_fa d1 d2 sl lo hi r i = p_fa e1 e2 sl lo hi r i
  | 0, _, _, _ => rfl
  | r + 1, i, hi, h => by
    unfold p_fa
    rw [p_fa_eq r (i + 1) (by omega) h, (h i (by omega)).1, (h i (by omega)).2]
theorem p_fa_rg {d1 d2 : Nat → Int32} {sl : Int32} {lo hi : Nat} : ∀ r i, i + r ≤ 40 → ∃ j, j ≤ 40 ∧ p_fa d1 d2 sl lo hi r i = nI j
  | 0, _, _ => ⟨40, Nat.le_refl 40, rfl⟩
  | r + 1, i, h40 => by
    unfold p_fa
    by_cases c : p_ab ((if lo ≤ i ∧ i < hi then 0 else d1 i) - d2 i) ≤ sl
    · rw [if_pos c]
      exact p_fa_rg r (i + 1) (by omega)
    · rw [if_neg c]
      exact ⟨i, by omega, rfl⟩
theorem t_fa (d : Nat) (b : Bool) (m : q_M) (p q lo hi : Nat) (sl : Int32) (hp : p < 30) (hq : q < 30) (hlo : lo ≤ 100) (hhi : hi ≤ 100) (Q : Option Int32 → q_H → Prop) (hQ : Q (some (p_fa (m (38 + 2 * p)) (m (38 + 2 * q)) sl lo hi 40 0)) (q_hp b m)) : q_Wm d 39 [vr (37 + 2 * p), vr (37 + 2 * q), vi sl, vi (nI lo), vi (nI hi)] (q_hp b m) Q := by
  have loop : ∀ (r i : Nat) (y : Int32) (o6 o7 : Option q_V), i + r = 40 → y = nI i → Q (some (p_fa (m (38 + 2 * p)) (m (38 + 2 * q)) sl lo hi r i)) (q_hp b m) → q_WP none d 39 3 [some (vr (37 + 2 * p)), some (vr (37 + 2 * q)), some (vi sl), some (vi (nI lo)), some (vi (nI hi)), some (vi y), o6, o7] [] (q_hp b m) Q := by
    intro r
    induction r with
    | zero =>
      intro i y o6 o7 hi40 hy hQ
      have hi40 : i = 40 := by omega
      subst hi40 hy
      repeat (refine q_wst rfl rfl rfl ?_)
      exact q_wrt rfl rfl rfl hQ
    | succ r ih =>
      intro i y o6 o7 hi40 hy hQ
      subst hy
      have hi4 : i < 40 := by omega
      have fin : ∀ (v : Int32) (o6 : Option q_V), v = (if lo ≤ i ∧ i < hi then 0 else m (38 + 2 * p) i) → q_WP none d 39 46 [some (vr (37 + 2 * p)), some (vr (37 + 2 * q)), some (vi sl), some (vi (nI lo)), some (vi (nI hi)), some (vi (nI i)), o6, o7] [vi v] (q_hp b m) Q := by
        intro v o6 hv
        unfold p_fa at hQ
        rw [← hv] at hQ
        iterate 3 (refine q_wst rfl rfl rfl ?_)
        refine q_wgr rfl (q_atP b q hq) rfl rfl ?_
        iterate 1 (refine q_wst rfl rfl rfl ?_)
        refine q_wrd i rfl hi4 rfl (q_atD b q hq) (by decide) ?_
        iterate 4 (refine q_wst rfl rfl rfl ?_)
        refine q_wif (fun c => ?_) (fun c => ?_)
        · have c : p_ab (v - m (38 + 2 * q) i) ≤ sl := c
          rw [if_pos c] at hQ
          iterate 2 (refine q_wst rfl rfl rfl ?_)
          exact ih (i + 1) _ _ _ (by omega) (nI_1 i) hQ
        · have c : ¬ p_ab (v - m (38 + 2 * q) i) ≤ sl := c
          rw [if_neg c] at hQ
          repeat (refine q_wst rfl rfl rfl ?_)
          exact q_wrt rfl rfl rfl hQ
      iterate 3 (refine q_wst rfl rfl rfl ?_)
      refine q_wif (fun c => absurd c (nI_ge (b := 40) hi4 (by omega))) (fun _ => ?_)
      iterate 3 (refine q_wst rfl rfl rfl ?_)
      refine q_wif (fun c => ?_) (fun c => ?_)
      · have c := (nI_ltI (by omega) (by omega)).mp c
        iterate 5 (refine q_wst rfl rfl rfl ?_)
        refine q_wgr rfl (q_atP b p hp) rfl rfl ?_
        iterate 1 (refine q_wst rfl rfl rfl ?_)
        refine q_wrd i rfl hi4 rfl (q_atD b p hp) (by decide) ?_
        exact fin _ _ (by rw [if_neg (by omega)])
      · have c : lo ≤ i := by
          rcases Nat.lt_or_ge i lo with z | z
          · exact absurd (nI_lt z (by omega)) c
          · exact z
        iterate 3 (refine q_wst rfl rfl rfl ?_)
        refine q_wif (fun c2 => ?_) (fun c2 => ?_)
        · have c2 := (nI_leI (by omega) (by omega)).mp c2
          iterate 5 (refine q_wst rfl rfl rfl ?_)
          refine q_wgr rfl (q_atP b p hp) rfl rfl ?_
          iterate 1 (refine q_wst rfl rfl rfl ?_)
          refine q_wrd i rfl hi4 rfl (q_atD b p hp) (by decide) ?_
          exact fin _ _ (by rw [if_neg (by omega)])
        · have c2 : i < hi := by
            rcases Nat.lt_or_ge i hi with z | z
            · exact z
            · exact absurd (nI_le z (by omega)) c2
          iterate 7 (refine q_wst rfl rfl rfl ?_)
          exact fin _ _ (by rw [if_pos ⟨c, c2⟩])
  unfold q_Wm
  iterate 2 (refine q_wst rfl rfl rfl ?_)
  exact loop 40 0 _ _ _ rfl rfl hQ
theorem t_mfa (d : Nat) (b : Bool) (m : q_M) (p q lo wd : Nat) (hp : p < 30) (hq : q < 30) (hlo : lo ≤ 50) (hwd : wd ≤ 50) (Q : Option Int32 → q_H → Prop) (hQ : Q (some (p_fa (fun i => m 106 (40 * p + i)) (fun i => m 106 (40 * q + i)) (m 97 3) lo (lo + wd) 40 0)) (q_hp b m)) : q_Wm d 138 [vr 97, vi (nI p), vi (nI q), vi (nI lo), vi (nI wd)] (q_hp b m) Q := by
  have loop : ∀ (r i : Nat) (y : Int32) (o6 : Option q_V), i + r = 40 → y = nI i → Q (some (p_fa (fun i => m 106 (40 * p + i)) (fun i => m 106 (40 * q + i)) (m 97 3) lo (lo + wd) r i)) (q_hp b m) → q_WP none d 138 3 [some (vr 97), some (vi (nI p)), some (vi (nI q)), some (vi (nI lo)), some (vi (nI wd)), some (vi y), o6] [] (q_hp b m) Q := by
    intro r
    induction r with
    | zero =>
      intro i y o6 hi40 hy hQ
      have hi40 : i = 40 := by omega
      subst hi40 hy
      repeat (refine q_wst rfl rfl rfl ?_)
      exact q_wrt rfl rfl rfl hQ
    | succ r ih =>
      intro i y o6 hi40 hy hQ
      subst hy
      have hi4 : i < 40 := by omega
      have fin : ∀ (v : Int32), v = (if lo ≤ i ∧ i < lo + wd then 0 else m 106 (40 * p + i)) → q_WP none d 138 41 [some (vr 97), some (vi (nI p)), some (vi (nI q)), some (vi (nI lo)), some (vi (nI wd)), some (vi (nI i)), o6] [vi v] (q_hp b m) Q := by
        intro v hv
        unfold p_fa at hQ
        rw [← hv] at hQ
        iterate 9 (refine q_wst rfl rfl rfl ?_)
        refine q_wrd (40 * q + i) (by show nI 40 * nI q + nI i = _; rw [pk_mul, nI_add]) (by omega) rfl (q_at106 b) (by decide) ?_
        iterate 5 (refine q_wst rfl rfl rfl ?_)
        refine q_wif (fun c => ?_) (fun c => ?_)
        · have c : p_ab (v - m 106 (40 * q + i)) ≤ m 97 3 := c
          rw [if_pos c] at hQ
          iterate 2 (refine q_wst rfl rfl rfl ?_)
          exact ih (i + 1) _ _ (by omega) (nI_1 i) hQ
        · have c : ¬ p_ab (v - m 106 (40 * q + i)) ≤ m 97 3 := c
          rw [if_neg c] at hQ
          repeat (refine q_wst rfl rfl rfl ?_)
          exact q_wrt rfl rfl rfl hQ
      iterate 3 (refine q_wst rfl rfl rfl ?_)
      refine q_wif (fun c => absurd c (nI_ge (b := 40) hi4 (by omega))) (fun _ => ?_)
      iterate 3 (refine q_wst rfl rfl rfl ?_)
      refine q_wif (fun c => ?_) (fun c => ?_)
      · have c := (nI_ltI (by omega) (by omega)).mp c
        iterate 7 (refine q_wst rfl rfl rfl ?_)
        refine q_wrd (40 * p + i) (by show nI 40 * nI p + nI i = _; rw [pk_mul, nI_add]) (by omega) rfl (q_at106 b) (by decide) ?_
        exact fin _ (by rw [if_neg (by omega)])
      · have c : lo ≤ i := by
          rcases Nat.lt_or_ge i lo with z | z
          · exact absurd (nI_lt z (by omega)) c
          · exact z
        iterate 5 (refine q_wst rfl rfl rfl ?_)
        refine q_wif (fun c2 => ?_) (fun c2 => ?_)
        · have c2 : nI lo + nI wd ≤ nI i := c2
          rw [nI_add] at c2
          have c2 := (nI_leI (by omega) (by omega)).mp c2
          iterate 7 (refine q_wst rfl rfl rfl ?_)
          refine q_wrd (40 * p + i) (by show nI 40 * nI p + nI i = _; rw [pk_mul, nI_add]) (by omega) rfl (q_at106 b) (by decide) ?_
          exact fin _ (by rw [if_neg (by omega)])
        · have c2 : ¬ nI lo + nI wd ≤ nI i := c2
          rw [nI_add] at c2
          have c2 : i < lo + wd := by
            rcases Nat.lt_or_ge i (lo + wd) with z | z
            · exact z
            · exact absurd (nI_le z (by omega)) c2
          iterate 2 (refine q_wst rfl rfl rfl ?_)
          exact fin _ (by rw [if_pos ⟨c, c2⟩])
  unfold q_Wm
  iterate 2 (refine q_wst rfl rfl rfl ?_)
  exact loop 40 0 _ _ rfl rfl hQ
theorem ob_apart (a1 a2 : Int32) : q_Ob q_RR 73 137 [a1, a2] := by
  intro b m hR
  obtain ⟨P, w, hR0, h13⟩ := id hR
  have r1 := hR0.1
  obtain ⟨S, hS, s1, s2⟩ := hR0.2.1
  unfold q_Wm
  repeat (refine q_wst rfl rfl rfl ?_)
  refine q_wcl rfl rfl rfl ?_
  refine t_isPiece _ b m a1 r1.1 r1.2.1 _ (fun p hp e => ?_) (fun hn => ?_)
  · subst e
    have hp30 : p < 30 := Nat.lt_of_lt_of_le hp r1.1
    obtain ⟨b1, b2, b3, b4, b5, b6, b7⟩ := hR0.2.2.2.2.2.2.2.1 p hp30
    repeat (refine q_wst rfl rfl rfl ?_)
    refine q_wcl rfl rfl rfl ?_
    refine t_isPiece _ b m a2 r1.1 r1.2.1 _ (fun q hq e => ?_) (fun hn => ?_)
    · subst e
      have hq30 : q < 30 := Nat.lt_of_lt_of_le hq r1.1
      obtain ⟨c1, c2, c3, c4, c5, c6, c7⟩ := hR0.2.2.2.2.2.2.2.1 q hq30
      have mod : ∀ (m1 : q_M) (Q : Option Int32 → q_H → Prop), m1 97 = m 97 → q_WP none 99 137 23 [some (vr 97), some (vi (nI p)), some (vi (nI q)), none] [] (q_hp b m1) Q → q_Wm 99 137 [vr 97, vi (nI p), vi (nI q)] (q_hp b m1) Q := by
        intro m1 Q h97 K
        unfold q_Wm
        repeat (refine q_wst rfl rfl rfl ?_)
        refine q_wcl rfl rfl rfl ?_
        refine t_misPiece (P := P) _ b _ _ r1.1 (by rw [h97]; exact r1.2.2) _ (fun _ _ _ => ?_) (fun hn => absurd rfl (hn p hp))
        repeat (refine q_wst rfl rfl rfl ?_)
        refine q_wcl rfl rfl rfl ?_
        refine t_misPiece (P := P) _ b _ _ r1.1 (by rw [h97]; exact r1.2.2) _ (fun _ _ _ => ?_) (fun hn => absurd rfl (hn q hq))
        iterate 1 (refine q_wst rfl rfl rfl ?_)
        exact K
      repeat (refine q_wst rfl rfl rfl ?_)
      refine q_wpc p rfl hp30 rfl ?_
      repeat (refine q_wst rfl rfl rfl ?_)
      refine q_wpc q rfl hq30 rfl ?_
      repeat (refine q_wst rfl rfl rfl ?_)
      refine q_wcP p hp30 rfl rfl rfl rfl rfl ?_
      refine t_isA _ b m p hp30 _ _ (fun k1 => ?_) (fun k1 => ?_)
      · have k1 : m 100 p = 1 := by
          rw [b1] at k1
          rcases k1 with z | z | z
          · exact absurd z (by decide)
          · exact z
          · exact absurd z.1 (by decide)
        repeat (refine q_wst rfl rfl rfl ?_)
        refine q_wcP q hq30 rfl rfl rfl rfl rfl ?_
        refine t_isA _ b m q hq30 _ _ (fun k2 => ?_) (fun k2 => ?_)
        · have k2 : m 100 q = 2 ∨ m 100 q = 3 := by
            rw [c1] at k2
            rcases k2 with z | z | z
            · exact absurd z (by decide)
            · exact Or.inl z
            · exact Or.inr z.2
          repeat (refine q_wst rfl rfl rfl ?_)
          refine q_wcP p hp30 rfl rfl rfl rfl rfl ?_
          refine t_fa _ b m p q 0 0 _ hp30 hq30 (by decide) (by decide) _ ?_
          have ee : p_fa (m (38 + 2 * p)) (m (38 + 2 * q)) (m 0 5) 0 0 40 0 = p_fa (fun i => m 106 (40 * p + i)) (fun i => m 106 (40 * q + i)) (m 97 3) 0 0 40 0 := by
            rw [s1, s2]
            exact p_fa_eq 40 0 (by decide) (fun j hj => ⟨b7 j hj, c7 j hj⟩)
          show q_WP none 99 73 72 [some (vr 0), some (vi (nI p)), some (vi (nI q)), some (vr (37 + 2 * p)), some (vr (37 + 2 * q)), none] [vi (p_fa (m (38 + 2 * p)) (m (38 + 2 * q)) (m 0 5) 0 0 40 0)] (q_hp b m) _
          rw [ee]
          obtain ⟨j, hj, ej⟩ := p_fa_rg (d1 := fun i => m 106 (40 * p + i)) (d2 := fun i => m 106 (40 * q + i)) (sl := m 97 3) (lo := 0) (hi := 0) 40 0 (by decide)
          have modf : ∀ (Q : Option Int32 → q_H → Prop), q_WP none 99 137 56 [some (vr 97), some (vi (nI p)), some (vi (nI q)), none] [vi (nI j)] (q_hp b m) Q → q_Wm 99 137 [vr 97, vi (nI p), vi (nI q)] (q_hp b m) Q := by
            intro Q K
            refine mod m Q rfl ?_
            repeat (refine q_wst rfl rfl rfl ?_)
            refine q_wrd p rfl hp30 rfl (q_at100 b) (by decide) ?_
            repeat (refine q_wst rfl rfl rfl ?_)
            refine q_wif (fun z => absurd k1 z) (fun _ => ?_)
            repeat (refine q_wst rfl rfl rfl ?_)
            refine q_wcl rfl rfl rfl ?_
            refine t_isFoil _ b _ q hq30 _ (fun _ => ?_) (fun z => absurd k2 z)
            repeat (refine q_wst rfl rfl rfl ?_)
            refine q_wcl rfl rfl rfl ?_
            refine t_mfa _ b m p q 0 0 hp30 hq30 (by decide) (by decide) _ ?_
            show q_WP none 99 137 56 _ [vi (p_fa (fun i => m 106 (40 * p + i)) (fun i => m 106 (40 * q + i)) (m 97 3) 0 0 40 0)] (q_hp b m) Q
            rw [ej]
            exact K
          rw [ej]
          repeat (refine q_wst rfl rfl rfl ?_)
          refine q_wif (fun f1 => ?_) (fun f1 => ?_)
          · have f1 : ¬ nI j = nI 40 := f1
            have f1 : j < 40 := by
              rcases Nat.lt_or_ge j 40 with z | z
              · exact z
              · exact absurd (congrArg nI (by omega : j = 40)) f1
            repeat (refine q_wst rfl rfl rfl ?_)
            refine q_wrt rfl rfl rfl ⟨_, rfl, b, _, rfl, ?_⟩
            refine modf _ ?_
            repeat (refine q_wst rfl rfl rfl ?_)
            refine q_wif (fun _ => ?_) (fun z => absurd (nI_lt (b := 40) f1 (by omega)) z)
            repeat (refine q_wst rfl rfl rfl ?_)
            exact q_wrt rfl rfl rfl ⟨rfl, b, _, rfl, hR⟩
          · have f1 : nI j = nI 40 := Decidable.not_not.mp f1
            have f1 : j = 40 := q_nIle (by omega) (by omega) f1
            subst f1
            repeat (refine q_wst rfl rfl rfl ?_)
            refine q_wgi rfl (q_atP b p hp30) rfl rfl ?_
            repeat (refine q_wst rfl rfl rfl ?_)
            refine q_wgi rfl (q_atP b q hq30) rfl rfl ?_
            repeat (refine q_wst rfl rfl rfl ?_)
            refine q_wif (fun g1 => ?_) (fun g1 => ?_)
            · have g1 : m (37 + 2 * p) 2 = m (37 + 2 * q) 2 := g1
              rw [b2, c2] at g1
              repeat (refine q_wst rfl rfl rfl ?_)
              refine q_wrt rfl rfl rfl ⟨_, rfl, b, _, rfl, ?_⟩
              refine modf _ ?_
              repeat (refine q_wst rfl rfl rfl ?_)
              refine q_wrd p rfl hp30 rfl (q_at101 b) (by decide) ?_
              repeat (refine q_wst rfl rfl rfl ?_)
              refine q_wrd q rfl hq30 rfl (q_at101 b) (by decide) ?_
              repeat (refine q_wst rfl rfl rfl ?_)
              refine q_wif (fun z => absurd g1 z) (fun _ => ?_)
              repeat (refine q_wst rfl rfl rfl ?_)
              exact q_wrt rfl rfl rfl ⟨rfl, b, _, rfl, hR⟩
            · have g1 : ¬ m (37 + 2 * p) 2 = m (37 + 2 * q) 2 := g1
              rw [b2, c2] at g1
              repeat (refine q_wst rfl rfl rfl ?_)
              refine q_wrt rfl rfl rfl ⟨_, rfl, b, _, rfl, ?_⟩
              refine modf _ ?_
              repeat (refine q_wst rfl rfl rfl ?_)
              refine q_wrd p rfl hp30 rfl (q_at101 b) (by decide) ?_
              repeat (refine q_wst rfl rfl rfl ?_)
              refine q_wrd q rfl hq30 rfl (q_at101 b) (by decide) ?_
              repeat (refine q_wst rfl rfl rfl ?_)
              refine q_wif (fun _ => ?_) (fun z => absurd g1 z)
              repeat (refine q_wst rfl rfl rfl ?_)
              exact q_wrt rfl rfl rfl ⟨rfl, b, _, rfl, hR⟩
        · have k2 : ¬ (m 100 q = 2 ∨ m 100 q = 3) := fun z => k2 (by
            rw [c1]
            rcases z with z | z
            · exact Or.inr (Or.inl z)
            · exact Or.inr (Or.inr ⟨rfl, z⟩))
          repeat (refine q_wst rfl rfl rfl ?_)
          refine q_cf 5 rfl (by decide) rfl rfl rfl ⟨_, rfl, b, _, rfl, ?_⟩
          refine mod _ _ rfl ?_
          repeat (refine q_wst rfl rfl rfl ?_)
          refine q_wrd p rfl hp30 rfl (q_at100 b) (by decide) ?_
          repeat (refine q_wst rfl rfl rfl ?_)
          refine q_wif (fun z => absurd k1 z) (fun _ => ?_)
          repeat (refine q_wst rfl rfl rfl ?_)
          refine q_wcl rfl rfl rfl ?_
          refine t_isFoil _ b _ q hq30 _ (fun z => absurd z k2) (fun _ => ?_)
          repeat (refine q_wst rfl rfl rfl ?_)
          exact q_mf 5 rfl (by decide) rfl rfl rfl ⟨rfl, b, _, rfl, q_RR_fnd hR (q_same_rf _)⟩
      · have k1 : ¬ m 100 p = 1 := fun z => k1 (by
          rw [b1]
          exact Or.inr (Or.inl z))
        repeat (refine q_wst rfl rfl rfl ?_)
        refine q_cf 5 rfl (by decide) rfl rfl rfl ⟨_, rfl, b, _, rfl, ?_⟩
        refine mod _ _ rfl ?_
        repeat (refine q_wst rfl rfl rfl ?_)
        refine q_wrd p rfl hp30 rfl (q_at100 b) (by decide) ?_
        repeat (refine q_wst rfl rfl rfl ?_)
        refine q_wif (fun _ => ?_) (fun z => absurd k1 z)
        repeat (refine q_wst rfl rfl rfl ?_)
        exact q_mf 5 rfl (by decide) rfl rfl rfl ⟨rfl, b, _, rfl, q_RR_fnd hR (q_same_rf _)⟩
    · repeat (refine q_wst rfl rfl rfl ?_)
      refine q_cf 1 rfl (by decide) rfl rfl rfl ⟨_, rfl, b, _, rfl, ?_⟩
      unfold q_Wm
      repeat (refine q_wst rfl rfl rfl ?_)
      refine q_wcl rfl rfl rfl ?_
      refine t_misPiece (P := P) _ b _ _ r1.1 (by exact r1.2.2) _ (fun q hq e => ?_) (fun hn => absurd rfl (hn p hp))
      repeat (refine q_wst rfl rfl rfl ?_)
      refine q_wcl rfl rfl rfl ?_
      refine t_misPiece (P := P) _ b _ _ r1.1 (by exact r1.2.2) _ (fun q hq e => absurd e (hn q hq)) (fun _ => ?_)
      repeat (refine q_wst rfl rfl rfl ?_)
      exact q_mf 1 rfl (by decide) rfl rfl rfl ⟨rfl, b, _, rfl, q_RR_fnd hR (q_same_rf _)⟩
  · repeat (refine q_wst rfl rfl rfl ?_)
    refine q_cf 1 rfl (by decide) rfl rfl rfl ⟨_, rfl, b, _, rfl, ?_⟩
    unfold q_Wm
    repeat (refine q_wst rfl rfl rfl ?_)
    refine q_wcl rfl rfl rfl ?_
    refine t_misPiece (P := P) _ b _ _ r1.1 (by exact r1.2.2) _ (fun q hq e => absurd e (hn q hq)) (fun _ => ?_)
    repeat (refine q_wst rfl rfl rfl ?_)
    exact q_mf 1 rfl (by decide) rfl rfl rfl ⟨rfl, b, _, rfl, q_RR_fnd hR (q_same_rf _)⟩
