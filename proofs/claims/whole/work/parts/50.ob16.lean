/-! obligations: pairs, other, raised -/
def p_ag (m x : q_M) : Prop := x 100 = m 100 ∧ x 101 = m 101 ∧ x 105 = m 105 ∧ x 106 = m 106 ∧ x 97 3 = m 97 3
theorem p_jb_cg {m x : q_M} (h : p_ag m x) : p_jb x = p_jb m := by
  funext i f
  unfold p_jb
  rw [h.1, h.2.1, h.2.2.1, h.2.2.2.1, h.2.2.2.2]
theorem p_jr_cg {m x : q_M} (h : p_ag m x) (i : Nat) : ∀ r f v, p_jr x i r f v = p_jr m i r f v
  | 0, _, _ => rfl
  | r + 1, f, v => by
    unfold p_jr
    rw [p_jb_cg h, p_jr_cg h i r (f + 1)]
theorem p_J_cg {m x : q_M} (h : p_ag m x) (P : Nat) : p_J x P = p_J m P := by
  funext i
  unfold p_J
  rw [p_jr_cg h, h.1, h.2.2.1]
theorem p_N_cg {m x : q_M} (h : p_ag m x) (P : Nat) : p_N x P = p_N m P := by
  unfold p_N
  rw [p_J_cg h]
theorem p_O_cg {m x : q_M} (h : p_ag m x) (P : Nat) : p_O x P = p_O m P := by
  unfold p_O
  rw [p_J_cg h, p_N_cg h]
theorem p_cP_ag {m x : q_M} {P : Nat} (h : p_cP m x P) : p_ag m x := ⟨h.1 100 (by omega), h.1 101 (by omega), h.1 105 (by omega), h.1 106 (by omega), by rw [h.1 97 (by omega)]⟩
theorem p_cP_same {m x : q_M} {P : Nat} (h : p_cP m x P) : q_same m x := by
  refine ⟨fun c hc => h.1 c ?_, fun j _ => by rw [h.1 97 (by omega)], by rw [h.1 126 (by omega)]⟩
  unfold q_mc at hc
  simp only [Bool.or_eq_true, Bool.and_eq_true, decide_eq_true_eq] at hc
  omega
theorem p_mP_same {m x : q_M} {P : Nat} (h : p_mP m x P) : q_same m x := by
  refine ⟨fun c hc => ?_, fun j hj => ?_, by rw [h.1 126 (by decide) (by omega)]⟩
  · unfold q_mc at hc
    simp only [Bool.or_eq_true, Bool.and_eq_true, decide_eq_true_eq] at hc
    exact h.1 c (by omega) (by omega)
  · unfold q_ms at hj
    simp only [Bool.or_eq_true, decide_eq_true_eq] at hj
    exact h.2.1 j (by omega) (by omega)
theorem p_cP_f {m x : q_M} {P j : Nat} (h : p_cP m x P) : q_same (q_up m 36 j (m 36 j + 1)) (q_up x 36 j (x 36 j + 1)) := by
  rw [h.1 36 (by omega)]
  exact q_same_cg (p_cP_same h)
theorem p_ag_f {m x : q_M} {j : Nat} {v : Int32} (h : p_ag m x) : p_ag m (q_up x 36 j v) := by
  unfold p_ag
  rw [q_up_ne (show 100 ≠ 36 by decide), q_up_ne (show 101 ≠ 36 by decide), q_up_ne (show 105 ≠ 36 by decide), q_up_ne (show 106 ≠ 36 by decide), q_up_ne (show 97 ≠ 36 by decide)]
  exact h
theorem ob_pairs (_ : Unit) : q_Ob q_RR 74 139 [] := by
  intro b m hR
  obtain ⟨P, w, hR0, h13⟩ := id hR
  have r1 := hR0.1
  obtain ⟨S, hS, s1, s2⟩ := hR0.2.1
  have r8 := hR0.2.2.2.2.2.2.2.1
  unfold q_Wm
  iterate 1 (refine q_wst rfl rfl rfl ?_)
  refine q_wcl rfl rfl rfl ?_
  refine t_pairUp 64 b m P r1.1 r1.2.1 r8 (s1.trans s2.symm) _ (fun m1 h1 => ?_)
  iterate 3 (refine q_wst rfl rfl rfl ?_)
  refine q_wrt rfl rfl rfl ⟨nI (p_N m P), congrArg some h1.2.1, b, _, rfl, ?_⟩
  unfold q_Wm
  iterate 1 (refine q_wst rfl rfl rfl ?_)
  refine q_wcl rfl rfl rfl ?_
  refine t_mfind 66 b m1 P r1.1 (by rw [h1.1 97 (by omega)]; exact r1.2.2) _ (fun m2 h2 => ?_)
  iterate 2 (refine q_wst rfl rfl rfl ?_)
  refine q_wrt rfl rfl rfl ⟨?_, b, _, rfl, q_RR_same (q_same_tr (p_cP_same h1) (p_mP_same h2)) hR⟩
  show some (m2 97 30) = some (nI (p_N m P))
  rw [h2.2.2.1, p_N_cg (p_cP_ag h1)]
theorem ob_other (a1 : Int32) : q_Ob q_RR 76 144 [a1] := by
  intro b m hR
  obtain ⟨P, w, hR0, h13⟩ := id hR
  have r1 := hR0.1
  obtain ⟨S, hS, s1, s2⟩ := hR0.2.1
  have r8 := hR0.2.2.2.2.2.2.2.1
  unfold q_Wm
  iterate 2 (refine q_wst rfl rfl rfl ?_)
  refine q_wcl rfl rfl rfl ?_
  refine t_isPiece _ b m a1 r1.1 r1.2.1 _ (fun p hp e => ?_) (fun hn => ?_)
  · subst e
    have hp30 : p < 30 := Nat.lt_of_lt_of_le hp r1.1
    obtain ⟨b1, b2, b3, b4, b5, b6, b7⟩ := r8 p hp30
    have mod : ∀ (x : q_M) (Q : Option Int32 → q_H → Prop), x 97 4 = nI P → x 100 = m 100 → ¬ m 100 p = 0 → q_WP none 99 144 31 [some (vr 97), some (vi (nI p))] [] (q_hp b x) Q → q_Wm 99 144 [vr 97, vi (nI p)] (q_hp b x) Q := by
      intro x Q h4 h100 hk K
      unfold q_Wm
      iterate 2 (refine q_wst rfl rfl rfl ?_)
      refine q_wcl rfl rfl rfl ?_
      refine t_misPiece (P := P) _ b x _ r1.1 h4 _ (fun _ _ _ => ?_) (fun hn => absurd rfl (hn p hp))
      iterate 4 (refine q_wst rfl rfl rfl ?_)
      refine q_wrd p rfl hp30 rfl (q_at100 b) (by decide) ?_
      iterate 1 (refine q_wst rfl rfl rfl ?_)
      refine q_wif (fun _ => K) (fun z => absurd (show x 100 p = 0 from Decidable.not_not.mp z) (by rw [h100]; exact hk))
    iterate 4 (refine q_wst rfl rfl rfl ?_)
    refine q_wpc p rfl hp30 rfl ?_
    refine q_wgi rfl (q_atP b p hp30) rfl rfl ?_
    iterate 1 (refine q_wst rfl rfl rfl ?_)
    refine q_wif (fun k0 => ?_) (fun k0 => ?_)
    · have k0 : ¬ m (37 + 2 * p) 1 = 0 := k0
      rw [b1] at k0
      iterate 1 (refine q_wst rfl rfl rfl ?_)
      refine q_wcl rfl rfl rfl ?_
      refine t_pairUp 64 b m P r1.1 r1.2.1 r8 (s1.trans s2.symm) _ (fun m1 h1 => ?_)
      have hag := p_cP_ag h1
      have h4 : m1 97 4 = nI P := by rw [h1.1 97 (by omega)]; exact r1.2.2
      have h100 : m1 100 = m 100 := h1.1 100 (by omega)
      have fin : ∀ v, v = p_O m P p → q_WP none 99 76 70 [some (vr 0), some (vi (nI p)), none] [vi v] (q_hp b m1) (q_Po q_RR 144 [vr 97, vi (nI p)]) := by
        intro v hv
        iterate 3 (refine q_wst rfl rfl rfl ?_)
        refine q_wif (fun c => ?_) (fun c => ?_)
        · have c : 0 ≤ v := c
          iterate 1 (refine q_wst rfl rfl rfl ?_)
          refine q_wrt rfl rfl rfl ⟨v, rfl, b, _, rfl, ?_⟩
          refine mod m1 _ h4 h100 k0 ?_
          iterate 1 (refine q_wst rfl rfl rfl ?_)
          refine q_wcl rfl rfl rfl ?_
          refine t_mfind 66 b m1 P r1.1 h4 _ (fun m2 h2 => ?_)
          have eO : m2 119 p = v := by rw [h2.2.2.2 p hp, p_O_cg hag, hv]
          iterate 3 (refine q_wst rfl rfl rfl ?_)
          refine q_wrd p rfl hp30 rfl (q_at119 b) (by decide) ?_
          iterate 1 (refine q_wst rfl rfl rfl ?_)
          refine q_wif (fun _ => ?_) (fun z => absurd (show 0 ≤ m2 119 p by rw [eO]; exact c) z)
          iterate 3 (refine q_wst rfl rfl rfl ?_)
          refine q_wrd p rfl hp30 rfl (q_at119 b) (by decide) ?_
          refine q_wrt rfl rfl rfl ⟨?_, b, _, rfl, q_RR_same (q_same_tr (p_cP_same h1) (p_mP_same h2)) hR⟩
          show some (m2 119 p) = some v
          rw [eO]
        · have c : ¬ 0 ≤ v := c
          iterate 2 (refine q_wst rfl rfl rfl ?_)
          refine q_wcl rfl rfl rfl ?_
          refine t_finding _ b m1 2 (by decide) _ ?_
          iterate 1 (refine q_wst rfl rfl rfl ?_)
          refine q_wrt rfl rfl rfl ⟨_, rfl, b, _, rfl, ?_⟩
          refine mod _ _ h4 h100 k0 ?_
          iterate 1 (refine q_wst rfl rfl rfl ?_)
          refine q_wcl rfl rfl rfl ?_
          refine t_mfind 66 b _ P r1.1 (by exact h4) _ (fun m2 h2 => ?_)
          have eO : m2 119 p = v := by rw [h2.2.2.2 p hp, p_O_cg (p_ag_f hag), hv]
          iterate 3 (refine q_wst rfl rfl rfl ?_)
          refine q_wrd p rfl hp30 rfl (q_at119 b) (by decide) ?_
          iterate 1 (refine q_wst rfl rfl rfl ?_)
          refine q_wif (fun z => absurd (show 0 ≤ m2 119 p from z) (by rw [eO]; exact c)) (fun _ => ?_)
          iterate 2 (refine q_wst rfl rfl rfl ?_)
          refine q_wcl rfl rfl rfl ?_
          refine t_mfinding _ b _ 2 _ (by decide) (by rfl) _ ?_
          iterate 1 (refine q_wst rfl rfl rfl ?_)
          exact q_wrt rfl rfl rfl ⟨rfl, b, _, rfl, q_RR_fnd hR (q_same_tr (p_cP_f h1) (p_mP_same h2))⟩
      have hpc : m1 (37 + 2 * p) = m (37 + 2 * p) := h1.1 _ (by omega)
      iterate 3 (refine q_wst rfl rfl rfl ?_)
      refine q_wpc p rfl hp30 rfl ?_
      iterate 1 (refine q_wst rfl rfl rfl ?_)
      refine q_wcP p hp30 rfl rfl rfl rfl rfl ?_
      refine t_isA _ b m1 p hp30 _ _ (fun k1 => ?_) (fun k1 => ?_)
      · have k1 : m 100 p = 1 := by
          rw [hpc, b1] at k1
          rcases k1 with z | z | z
          · exact absurd z (by decide)
          · exact z
          · exact absurd z.1 (by decide)
        iterate 5 (refine q_wst rfl rfl rfl ?_)
        refine q_wrd p rfl hp30 rfl (q_at9 b) (by decide) ?_
        iterate 1 (refine q_wst rfl rfl rfl ?_)
        exact fin _ ((h1.2.2 p hp).1 k1)
      · have k1 : ¬ m 100 p = 1 := fun z => k1 (by
          rw [hpc, b1]
          exact Or.inr (Or.inl z))
        iterate 5 (refine q_wst rfl rfl rfl ?_)
        refine q_wrd p rfl hp30 rfl (q_at10 b) (by decide) ?_
        exact fin _ ((h1.2.2 p hp).2 k1).1
    · have k0 : m (37 + 2 * p) 1 = 0 := Decidable.not_not.mp k0
      rw [b1] at k0
      iterate 2 (refine q_wst rfl rfl rfl ?_)
      refine q_cf 5 rfl (by decide) rfl rfl rfl ⟨_, rfl, b, _, rfl, ?_⟩
      unfold q_Wm
      iterate 2 (refine q_wst rfl rfl rfl ?_)
      refine q_wcl rfl rfl rfl ?_
      refine t_misPiece (P := P) _ b _ _ r1.1 (by exact r1.2.2) _ (fun _ _ _ => ?_) (fun hn => absurd rfl (hn p hp))
      iterate 4 (refine q_wst rfl rfl rfl ?_)
      refine q_wrd p rfl hp30 rfl (q_at100 b) (by decide) ?_
      iterate 1 (refine q_wst rfl rfl rfl ?_)
      refine q_wif (fun z => absurd k0 z) (fun _ => ?_)
      iterate 2 (refine q_wst rfl rfl rfl ?_)
      exact q_mf 5 rfl (by decide) rfl rfl rfl ⟨rfl, b, _, rfl, q_RR_fnd hR (q_same_rf _)⟩
  · repeat (refine q_wst rfl rfl rfl ?_)
    refine q_cf 1 rfl (by decide) rfl rfl rfl ⟨_, rfl, b, _, rfl, ?_⟩
    unfold q_Wm
    repeat (refine q_wst rfl rfl rfl ?_)
    refine q_wcl rfl rfl rfl ?_
    refine t_misPiece (P := P) _ b _ _ r1.1 (by exact r1.2.2) _ (fun q hq e => absurd e (hn q hq)) (fun _ => ?_)
    repeat (refine q_wst rfl rfl rfl ?_)
    exact q_mf 1 rfl (by decide) rfl rfl rfl ⟨rfl, b, _, rfl, q_RR_fnd hR (q_same_rf _)⟩
/-- raising: at which cut foil f and stock p part alone -/
def p_sk (m : q_M) (p f : Nat) (a w : Nat → Nat) : Nat → Nat → Option Nat
  | 0, _ => none
  | r + 1, k => if m 101 p = m 101 f ∧ p_fa (fun x => m 106 (40 * p + x)) (fun x => m 106 (40 * f + x)) (m 97 3) (a k) (a k + w k) 40 0 = 40 then some (a k) else p_sk m p f a w r (k + 1)
def p_sgn (m : q_M) (p : Nat) (O : Nat → Int32) (a w : Nat → Nat) (n : Nat) : Nat → Nat → Int32
  | 0, _ => -1
  | r + 1, f => if m 100 f = 2 ∧ m 105 f = 0 ∧ O f < 0 then (match p_sk m p f a w n 0 with
      | some x => nI (100 * f + x)
      | none => p_sgn m p O a w n r (f + 1)) else p_sgn m p O a w n r (f + 1)
theorem p_sk_s (m : q_M) (p f : Nat) (a w : Nat → Nat) (r k : Nat) : p_sk m p f a w (r + 1) k = if m 101 p = m 101 f ∧ p_fa (fun x => m 106 (40 * p + x)) (fun x => m 106 (40 * f + x)) (m 97 3) (a k) (a k + w k) 40 0 = 40 then some (a k) else p_sk m p f a w r (k + 1) := rfl
theorem p_sk_no {m : q_M} {p f : Nat} {a w : Nat → Nat} (h : ¬ m 101 p = m 101 f) : ∀ r k, p_sk m p f a w r k = none
  | 0, _ => rfl
  | r + 1, k => by
    unfold p_sk
    rw [if_neg (fun z => h z.1)]
    exact p_sk_no h r (k + 1)
theorem p_sk_cg {m x : q_M} {p f : Nat} {a w : Nat → Nat} (h : p_ag m x) : ∀ r k, p_sk x p f a w r k = p_sk m p f a w r k
  | 0, _ => rfl
  | r + 1, k => by
    unfold p_sk
    rw [p_sk_cg h r (k + 1), h.2.1, h.2.2.2.1, h.2.2.2.2]
theorem p_sgn_cg {m x : q_M} {p : Nat} {O : Nat → Int32} {a w : Nat → Nat} {n : Nat} (h : p_ag m x) : ∀ r f, p_sgn x p O a w n r f = p_sgn m p O a w n r f
  | 0, _ => rfl
  | r + 1, f => by
    unfold p_sgn
    rw [p_sgn_cg h r (f + 1), p_sk_cg h, h.1, h.2.2.1]
theorem t_sign (d : Nat) (b : Bool) (m m1 : q_M) (P p : Nat) (hP : P ≤ 30) (hp : p < P) (h1 : m 0 1 = nI P) (h8 : q_r8 P m) (hsl : m 0 5 = m 97 3) (hc1 : p_cP m m1 P) (Q : Option Int32 → q_H → Prop) (hQ : ∀ m2, (∀ c, c < 5 ∨ 7 < c → m2 c = m1 c) → Q (some (p_sgn m p (p_O m P) (q_C (m (38 + 2 * p)) 40).2.2.1 (q_C (m (38 + 2 * p)) 40).2.2.2 (q_C (m (38 + 2 * p)) 40).1 P 0)) (q_hp b m2)) : q_Wm (d + 2) 78 [vr 0, vi (nI p)] (q_hp b m1) Q := by
  have hp30 : p < 30 := by omega
  obtain ⟨p1, p2, p3, p4, p5, p6, p7⟩ := h8 p hp30
  unfold q_Wm
  iterate 5 (refine q_wst rfl rfl rfl ?_)
  refine q_wpc p rfl hp30 rfl ?_
  refine q_wcl rfl rfl rfl ?_
  refine t_read2 _ b m1 p hp30 _ (fun m2 hs ho hc => ?_)
  have hQ := hQ m2 ho
  rw [hc1.1 (38 + 2 * p) (by omega)] at hc
  obtain ⟨f1, f2⟩ := q_C_f (m (38 + 2 * p))
  obtain ⟨c1, c2⟩ := hc
  have hm2 : ∀ c, c < 5 ∨ 12 < c → m2 c = m c := fun c z => (ho c (by omega)).trans (hc1.1 c (by omega))
  have hst : ∀ f, f < P → m 100 f = 2 → m2 10 f = p_O m P f := fun f hf k => by
    rw [ho 10 (by omega)]
    exact ((hc1.2.2 f hf).2 (by rw [k]; decide)).1
  generalize (q_C (m (38 + 2 * p)) 40).1 = n at *
  generalize (q_C (m (38 + 2 * p)) 40).2.2.1 = a at *
  generalize (q_C (m (38 + 2 * p)) 40).2.2.2 = w at *
  have hb1 : m2 0 1 = nI P := by rw [hm2 0 (by omega)]; exact h1
  have loop : ∀ (r f : Nat) (y : Int32) (o3 o4 : Option q_V), f + r = P → y = nI f → Q (some (p_sgn m p (p_O m P) a w n r f)) (q_hp b m2) → q_WP none (d + 2) 78 15 [some (vr 0), some (vi (nI p)), some (vi y), o3, o4] [] (q_hp b m2) Q := by
    intro r
    induction r with
    | zero =>
      intro f y o3 o4 hf hy hQ
      have hf : f = P := by omega
      subst hf hy
      iterate 4 (refine q_wst rfl rfl rfl ?_)
      refine q_wif (fun _ => ?_) (fun c => absurd (show m2 0 1 ≤ nI f by rw [hb1]; exact nI_le (Nat.le_refl f) (by omega)) c)
      repeat (refine q_wst rfl rfl rfl ?_)
      exact q_wrt rfl rfl rfl hQ
    | succ r ih =>
      intro f y o3 o4 hf hy hQ
      subst hy
      have hf3 : f < 30 := by omega
      have hfP : f < P := by omega
      obtain ⟨b1, b2, b3, b4, b5, b6, b7⟩ := h8 f hf3
      have hpf : m2 (37 + 2 * f) = m (37 + 2 * f) := hm2 _ (by omega)
      unfold p_sgn at hQ
      iterate 4 (refine q_wst rfl rfl rfl ?_)
      refine q_wif (fun c => absurd (show m2 0 1 ≤ nI f from c) (by rw [hb1]; exact nI_ge (by omega) (by omega))) (fun _ => ?_)
      iterate 3 (refine q_wst rfl rfl rfl ?_)
      refine q_wpc f rfl hf3 rfl ?_
      iterate 1 (refine q_wst rfl rfl rfl ?_)
      refine q_wcP f hf3 rfl rfl rfl rfl rfl ?_
      refine t_canPair _ b m2 f hf3 2 _ (fun g1 g2 => ?_) (fun g => ?_)
      · rw [hpf, b1] at g1
        rw [hpf, b6] at g2
        iterate 1 (refine q_wst rfl rfl rfl ?_)
        refine q_wif (fun c => absurd (show (1 : Int32) = 0 from c) (by decide)) (fun _ => ?_)
        iterate 4 (refine q_wst rfl rfl rfl ?_)
        refine q_wrd f rfl hf3 rfl (q_at10 b) (by decide) ?_
        iterate 1 (refine q_wst rfl rfl rfl ?_)
        refine q_wif (fun c => ?_) (fun c => ?_)
        · have c : m2 10 f < 0 := c
          rw [hst f hfP g1] at c
          rw [if_pos ⟨g1, g2, c⟩] at hQ
          have inner : ∀ (r2 k : Nat) (y : Int32) (o4 : Option q_V), k + r2 = n → y = nI k → p_sk m p f a w n 0 = p_sk m p f a w r2 k → q_WP none (d + 2) 78 53 [some (vr 0), some (vi (nI p)), some (vi (nI f)), some (vi y), o4] [] (q_hp b m2) Q := by
            intro r2
            induction r2 with
            | zero =>
              intro k y o4 hk hy e
              have hk : k = n := by omega
              subst hk hy
              rw [e] at hQ
              iterate 5 (refine q_wst rfl rfl rfl ?_)
              refine q_wif (fun _ => ?_) (fun c => absurd (show m2 5 2 ≤ nI k by rw [c1]; exact nI_le (Nat.le_refl k) (by omega)) c)
              iterate 2 (refine q_wst rfl rfl rfl ?_)
              exact ih (f + 1) _ _ _ (by omega) (nI_1 f) hQ
            | succ r2 ih2 =>
              intro k y o4 hk hy e
              subst hy
              have hkn : k < n := by omega
              have e6 := (c2 k hkn).1
              have e7 := (c2 k hkn).2
              have hw := f2 k hkn
              rw [p_sk_s] at e
              iterate 5 (refine q_wst rfl rfl rfl ?_)
              refine q_wif (fun c => absurd (show m2 5 2 ≤ nI k from c) (by rw [c1]; exact nI_ge (by omega) (by omega))) (fun _ => ?_)
              iterate 4 (refine q_wst rfl rfl rfl ?_)
              refine q_wrd k rfl (show k < 20 by omega) rfl (q_at6 b) (by decide) ?_
              show q_WP none (d + 2) 78 73 [some (vr 0), some (vi (nI p)), some (vi (nI f)), some (vi (nI k)), o4] [vi (m2 6 k)] (q_hp b m2) Q
              rw [e6]
              iterate 4 (refine q_wst rfl rfl rfl ?_)
              refine q_wpc p rfl hp30 rfl ?_
              iterate 3 (refine q_wst rfl rfl rfl ?_)
              refine q_wpc f rfl hf3 rfl ?_
              iterate 8 (refine q_wst rfl rfl rfl ?_)
              refine q_wrd k rfl (show k < 20 by omega) rfl (q_at7 b) (by decide) ?_
              iterate 1 (refine q_wst rfl rfl rfl ?_)
              refine q_wcP p hp30 rfl rfl rfl rfl rfl ?_
              show q_Wm (d + 1) 41 [vr (37 + 2 * p), vr (37 + 2 * f), vi (m2 0 5), vi (nI (a k)), vi (nI (a k) + m2 7 k)] (q_hp b m2) _
              rw [e7, nI_add]
              have eq1 : (m2 (37 + 2 * p) 2 = m2 (37 + 2 * f) 2 ∧ p_fa (m2 (38 + 2 * p)) (m2 (38 + 2 * f)) (m2 0 5) (a k) (a k + w k) 40 0 = 40) ↔ (m 101 p = m 101 f ∧ p_fa (fun x => m 106 (40 * p + x)) (fun x => m 106 (40 * f + x)) (m 97 3) (a k) (a k + w k) 40 0 = 40) := by
                rw [hpf, hm2 (37 + 2 * p) (by omega), hm2 (38 + 2 * p) (by omega), hm2 (38 + 2 * f) (by omega), hm2 0 (by omega), p2, b2, hsl, p_fa_eq (d1 := m (38 + 2 * p)) (d2 := m (38 + 2 * f)) 40 0 (by decide) (fun j hj => ⟨p7 j hj, b7 j hj⟩)]
              refine t_joins _ b m2 p f (a k) (a k + w k) _ hp30 hf3 (by omega) (by omega) _ (fun g3 g4 => ?_) (fun g => ?_)
              · rw [if_pos (eq1.mp ⟨g3, g4⟩)] at e
                rw [e] at hQ
                iterate 1 (refine q_wst rfl rfl rfl ?_)
                refine q_wif (fun c => absurd (show (1 : Int32) = 0 from c) (by decide)) (fun _ => ?_)
                iterate 5 (refine q_wst rfl rfl rfl ?_)
                refine q_wrt rfl rfl rfl ?_
                show Q (some (nI 100 * nI f + nI (a k))) (q_hp b m2)
                rw [pk_mul, nI_add]
                exact hQ
              · rw [if_neg (fun z => g (eq1.mpr z))] at e
                iterate 1 (refine q_wst rfl rfl rfl ?_)
                refine q_wif (fun _ => ?_) (fun c => absurd rfl c)
                iterate 2 (refine q_wst rfl rfl rfl ?_)
                exact ih2 (k + 1) _ _ (by omega) (nI_1 k) e
          iterate 2 (refine q_wst rfl rfl rfl ?_)
          exact inner n 0 _ _ (by omega) rfl rfl
        · have c : ¬ m2 10 f < 0 := c
          rw [hst f hfP g1] at c
          rw [if_neg (fun z => c z.2.2)] at hQ
          iterate 3 (refine q_wst rfl rfl rfl ?_)
          exact ih (f + 1) _ _ _ (by omega) (nI_1 f) hQ
      · rw [hpf, b1, b6] at g
        rw [if_neg (fun z => g ⟨z.1, z.2.1⟩)] at hQ
        iterate 1 (refine q_wst rfl rfl rfl ?_)
        refine q_wif (fun _ => ?_) (fun c => absurd rfl c)
        iterate 2 (refine q_wst rfl rfl rfl ?_)
        exact ih (f + 1) _ _ _ (by omega) (nI_1 f) hQ
  iterate 2 (refine q_wst rfl rfl rfl ?_)
  exact loop P 0 _ _ _ (by omega) rfl hQ
