/-! rings: the class -/
def p_E (ow : Nat → Nat → Int32) (x y : Nat) : Bool := decide (0 < ow x y)
theorem p_E_t {ow : Nat → Nat → Int32} {x y : Nat} (h : ¬ ow x y ≤ 0) : p_E ow x y = true := decide_eq_true (Int32.not_le.mp h)
theorem p_E_f {ow : Nat → Nat → Int32} {x y : Nat} (h : ow x y ≤ 0) : ¬ p_E ow x y = true := fun z => Int32.not_lt.mpr h (of_decide_eq_true z)
theorem p_gg_s (E : Nat → Nat → Bool) (k a : Nat) (R : Nat → Nat) : p_gg E (k + 1) a R = p_fs (fun v => if E (R (a - 1)) v = true then p_gg E k (a + 1) (updN R a v) else none) (8 - (R 0 + 1)) (R 0 + 1) := rfl
theorem p_fs_s {α : Type} (f : Nat → Option α) (r v : Nat) : p_fs f (r + 1) v = match f v with
    | some x => some x
    | none => p_fs f r (v + 1) := rfl
theorem nI_m1 (a : Nat) (h : 1 ≤ a) : nI a - 1 = nI (a - 1) := by
  obtain ⟨b, rfl⟩ : ∃ b, a = b + 1 := ⟨a - 1, by omega⟩
  exact nI_pred b
theorem t_gr (b : Bool) (ow : Nat → Nat → Int32) (s : Nat) (hs8 : s ≤ 8) : ∀ (k d a : Nat) (R : Nat → Nat) (m : q_M) (Q : Option Int32 → q_H → Prop), a + k = s → 1 ≤ a → (∀ j, j < a → R j < 8 ∧ m 31 j = nI (R j)) → (∀ x y, x < 8 → y < 8 → m (22 + x) y = ow x y) → (∀ W m', p_gg (p_E ow) k a R = some W → (∀ c, c ≠ 31 → m' c = m c) → (∀ j, j < s → m' 31 j = nI (W j)) → Q (some 1) (q_hp b m')) → (∀ m', p_gg (p_E ow) k a R = none → (∀ c, c ≠ 31 → m' c = m c) → (∀ j, j < a → m' 31 j = nI (R j)) → Q (some 0) (q_hp b m')) → q_Wm (d + k) 44 [vr 31, vr 21, vi (nI s), vi (nI a)] (q_hp b m) Q := by
  intro k
  induction k with
  | zero =>
    intro d a R m Q has ha hR hO h1 h0
    have has : a = s := by omega
    subst has
    have hl := hR (a - 1) (by omega)
    have hr := hR 0 (by omega)
    unfold q_Wm
    iterate 4 (refine q_wst rfl rfl rfl ?_)
    refine q_wrd (a - 1) (by show nI a - 1 = _; exact nI_m1 a ha) (by omega) rfl (q_at31 b) (by decide) ?_
    show q_WP none d 44 5 [some (vr 31), some (vr 21), some (vi (nI a)), some (vi (nI a)), none, none] [vi (m 31 (a - 1))] (q_hp b m) Q
    rw [hl.2]
    iterate 4 (refine q_wst rfl rfl rfl ?_)
    refine q_wif (fun c => absurd c (nI_nlt (Nat.le_refl a) (by omega))) (fun _ => ?_)
    iterate 2 (refine q_wst rfl rfl rfl ?_)
    refine q_wra (els := q_rws) (R (a - 1)) (22 + R (a - 1)) rfl hl.1 (q_rwsg _ hl.1) rfl (q_at21 b) (Or.inr rfl) (by decide) ?_
    iterate 2 (refine q_wst rfl rfl rfl ?_)
    refine q_wrd 0 rfl (by decide) rfl (q_at31 b) (by decide) ?_
    refine q_wrd (R 0) hr.2 hr.1 rfl (q_atR b _ hl.1) (by decide) ?_
    iterate 1 (refine q_wst rfl rfl rfl ?_)
    refine q_wif (fun c => ?_) (fun c => ?_)
    · have c : m (22 + R (a - 1)) (R 0) ≤ 0 := c
      rw [hO _ _ hl.1 hr.1] at c
      iterate 1 (refine q_wst rfl rfl rfl ?_)
      refine q_wrt rfl rfl rfl (h0 m ?_ (fun _ _ => rfl) (fun j hj => (hR j hj).2))
      unfold p_gg
      rw [if_neg (p_E_f c)]
    · have c : ¬ m (22 + R (a - 1)) (R 0) ≤ 0 := c
      rw [hO _ _ hl.1 hr.1] at c
      iterate 2 (refine q_wst rfl rfl rfl ?_)
      refine q_wrt rfl rfl rfl (h1 R m ?_ (fun _ _ => rfl) (fun j hj => (hR j hj).2))
      unfold p_gg
      rw [if_pos (p_E_t c)]
  | succ k ih =>
    intro d a R m Q has ha hR hO h1 h0
    have hl := hR (a - 1) (by omega)
    have hr := hR 0 (by omega)
    have loop : ∀ (r v : Nat) (y : Int32) (m1 : q_M), v + r = 8 → y = nI v → (∀ c, c ≠ 31 → m1 c = m c) → (∀ j, j < a → m1 31 j = nI (R j)) → p_gg (p_E ow) (k + 1) a R = p_fs (fun v => if p_E ow (R (a - 1)) v = true then p_gg (p_E ow) k (a + 1) (updN R a v) else none) r v → q_WP none (d + (k + 1)) 44 36 [some (vr 31), some (vr 21), some (vi (nI s)), some (vi (nI a)), some (vi (nI (R (a - 1)))), some (vi y)] [] (q_hp b m1) Q := by
      intro r
      induction r with
      | zero =>
        intro v y m1 hv hy hc hj e
        have hv : v = 8 := by omega
        subst hv hy
        iterate 3 (refine q_wst rfl rfl rfl ?_)
        iterate 1 (refine q_wst rfl rfl rfl ?_)
        exact q_wrt rfl rfl rfl (h0 m1 e hc hj)
      | succ r ihr =>
        intro v y m1 hv hy hc hj e
        subst hy
        have hv8 : v < 8 := by omega
        rw [p_fs_s] at e
        iterate 3 (refine q_wst rfl rfl rfl ?_)
        refine q_wif (fun c => absurd c (nI_ge (b := 8) hv8 (by omega))) (fun _ => ?_)
        iterate 2 (refine q_wst rfl rfl rfl ?_)
        refine q_wra (els := q_rws) (R (a - 1)) (22 + R (a - 1)) rfl hl.1 (q_rwsg _ hl.1) rfl (q_at21 b) (Or.inr rfl) (by decide) ?_
        iterate 1 (refine q_wst rfl rfl rfl ?_)
        refine q_wrd v rfl hv8 rfl (q_atR b _ hl.1) (by decide) ?_
        iterate 1 (refine q_wst rfl rfl rfl ?_)
        refine q_wif (fun c => ?_) (fun c => ?_)
        · have c : m1 (22 + R (a - 1)) v ≤ 0 := c
          rw [hc _ (by omega), hO _ _ hl.1 hv8] at c
          rw [if_neg (p_E_f c)] at e
          iterate 2 (refine q_wst rfl rfl rfl ?_)
          exact ihr (v + 1) _ m1 (by omega) (nI_1 v) hc hj e
        · have c : ¬ m1 (22 + R (a - 1)) v ≤ 0 := c
          rw [hc _ (by omega), hO _ _ hl.1 hv8] at c
          rw [if_pos (p_E_t c)] at e
          iterate 3 (refine q_wst rfl rfl rfl ?_)
          refine q_wwr a rfl (show a < 8 by omega) rfl (q_at31 b) (by decide) ?_
          iterate 6 (refine q_wst rfl rfl rfl ?_)
          refine q_wcl rfl rfl rfl ?_
          show q_Wm (d + k) 44 [vr 31, vr 21, vi (nI s), vi (nI a + 1)] (q_hp b (q_up m1 31 a (nI v))) _
          rw [nI_1]
          have e31 : ∀ j, q_up m1 31 a (nI v) 31 j = if j = a then nI v else m1 31 j := fun j => by
            rw [q_up_eq]
            unfold upd
            rfl
          refine ih d (a + 1) (updN R a v) _ _ (by omega) (by omega) (fun j hj2 => ?_) (fun x y hx hy => ?_) (fun W m2 g1 g2 g3 => ?_) (fun m2 g1 g2 g3 => ?_)
          · rw [e31]
            by_cases z : j = a
            · rw [if_pos z, z, updN_eq]
              exact ⟨hv8, rfl⟩
            · rw [if_neg z, updN_ne z]
              exact ⟨(hR j (by omega)).1, hj j (by omega)⟩
          · rw [q_up_ne (by omega), hc _ (by omega)]
            exact hO x y hx hy
          · rw [g1] at e
            iterate 1 (refine q_wst rfl rfl rfl ?_)
            refine q_wif (fun c => absurd (show (1 : Int32) = 0 from c) (by decide)) (fun _ => ?_)
            iterate 1 (refine q_wst rfl rfl rfl ?_)
            exact q_wrt rfl rfl rfl (h1 W m2 e (fun c hc2 => (g2 c hc2).trans ((q_up_ne hc2).trans (hc c hc2))) g3)
          · rw [g1] at e
            iterate 1 (refine q_wst rfl rfl rfl ?_)
            refine q_wif (fun _ => ?_) (fun c => absurd rfl c)
            iterate 2 (refine q_wst rfl rfl rfl ?_)
            refine ihr (v + 1) _ m2 (by omega) (nI_1 v) (fun c hc2 => (g2 c hc2).trans ((q_up_ne hc2).trans (hc c hc2))) (fun j hj2 => ?_) e
            rw [g3 j (by omega), updN_ne (by omega)]
    unfold q_Wm
    iterate 4 (refine q_wst rfl rfl rfl ?_)
    refine q_wrd (a - 1) (by show nI a - 1 = _; exact nI_m1 a ha) (by omega) rfl (q_at31 b) (by decide) ?_
    show q_WP none (d + (k + 1)) 44 5 [some (vr 31), some (vr 21), some (vi (nI s)), some (vi (nI a)), none, none] [vi (m 31 (a - 1))] (q_hp b m) Q
    rw [hl.2]
    iterate 4 (refine q_wst rfl rfl rfl ?_)
    refine q_wif (fun _ => ?_) (fun c => absurd (nI_lt (by omega) (by omega)) c)
    iterate 2 (refine q_wst rfl rfl rfl ?_)
    refine q_wrd 0 rfl (by decide) rfl (q_at31 b) (by decide) ?_
    show q_WP none (d + (k + 1)) 44 32 [some (vr 31), some (vr 21), some (vi (nI s)), some (vi (nI a)), some (vi (nI (R (a - 1)))), none] [vi (m 31 0)] (q_hp b m) Q
    rw [hr.2]
    iterate 3 (refine q_wst rfl rfl rfl ?_)
    exact loop (8 - (R 0 + 1)) (R 0 + 1) _ m (by omega) (nI_1 _) (fun _ _ => rfl) (fun j hj => (hR j hj).2) (p_gg_s _ _ _ _)
/-- who stands behind the i-th of a ring -/
def p_nx (s i : Nat) : Nat := if i + 1 < s then i + 1 else 0
theorem t_behind (d : Nat) (b : Bool) (m : q_M) (s i : Nat) (hs : s ≤ 8) (hi : i < s) (h1 : m 30 1 = nI s) (Q : Option Int32 → q_H → Prop) (hQ : Q (some (m 31 (p_nx s i))) (q_hp b m)) : q_Wm d 46 [vr 30, vi (nI i)] (q_hp b m) Q := by
  unfold q_Wm
  iterate 8 (refine q_wst rfl rfl rfl ?_)
  unfold p_nx at hQ
  refine q_wif (fun c => ?_) (fun c => ?_)
  · have c : m 30 1 ≤ nI i + 1 := c
    rw [h1, nI_1] at c
    have c := (nI_leI (by omega) (by omega)).mp c
    rw [if_neg (by omega)] at hQ
    iterate 1 (refine q_wst rfl rfl rfl ?_)
    refine q_wrd 0 rfl (by decide) rfl (q_at31 b) (by decide) ?_
    exact q_wrt rfl rfl rfl hQ
  · have c : ¬ m 30 1 ≤ nI i + 1 := c
    rw [h1, nI_1] at c
    have c : i + 1 < s := by
      rcases Nat.lt_or_ge (i + 1) s with z | z
      · exact z
      · exact absurd (nI_le z (by omega)) c
    rw [if_pos c] at hQ
    iterate 4 (refine q_wst rfl rfl rfl ?_)
    refine q_wrd (i + 1) (nI_1 i) (by omega) rfl (q_at31 b) (by decide) ?_
    exact q_wrt rfl rfl rfl hQ
/-- the least that is owed round a ring -/
def p_mn (ow : Nat → Nat → Int32) (s : Nat) (W : Nat → Nat) : Nat → Int32
  | 0 => 2147483647
  | n + 1 => if ow (W n) (W (p_nx s n)) < p_mn ow s W n then ow (W n) (W (p_nx s n)) else p_mn ow s W n
theorem p_mn_1 (ow : Nat → Nat → Int32) (s : Nat) (W : Nat → Nat) : p_mn ow s W 1 = ow (W 0) (W (p_nx s 0)) := by
  show (if ow (W 0) (W (p_nx s 0)) < 2147483647 then ow (W 0) (W (p_nx s 0)) else 2147483647) = _
  generalize ow (W 0) (W (p_nx s 0)) = v
  by_cases c : v < 2147483647
  · rw [if_pos c]
  · rw [if_neg c]
    rw [Int32.lt_iff_toInt_lt] at c
    have e : (2147483647 : Int32).toInt = 2147483647 := rfl
    have := v.toInt_lt
    exact Int32.toInt_inj.mp (by omega)
theorem t_least (d : Nat) (b : Bool) (m : q_M) (ow : Nat → Nat → Int32) (s : Nat) (W : Nat → Nat) (hs : s ≤ 8) (h1 : m 30 1 = nI s) (hW : ∀ j, j < s → W j < 8 ∧ m 31 j = nI (W j)) (hO : ∀ x y, x < 8 → y < 8 → m (22 + x) y = ow x y) (Q : Option Int32 → q_H → Prop) (hQ : ∀ v, (0 < s → v = p_mn ow s W s) → Q (some v) (q_hp b m)) : q_Wm (d + 1) 45 [vr 30, vr 21] (q_hp b m) Q := by
  have loop : ∀ (r i : Nat) (y z : Int32) (o4 : Option q_V), i + r = s → y = nI i → (0 < i → z = p_mn ow s W i) → q_WP none (d + 1) 45 4 [some (vr 30), some (vr 21), some (vi z), some (vi y), o4] [] (q_hp b m) Q := by
    intro r
    induction r with
    | zero =>
      intro i y z o4 hi hy hz
      have hi : i = s := by omega
      subst hi hy
      iterate 4 (refine q_wst rfl rfl rfl ?_)
      refine q_wif (fun _ => ?_) (fun c => absurd (show m 30 1 ≤ nI i by rw [h1]; exact nI_le (Nat.le_refl i) (by omega)) c)
      iterate 1 (refine q_wst rfl rfl rfl ?_)
      exact q_wrt rfl rfl rfl (hQ z hz)
    | succ r ih =>
      intro i y z o4 hi hy hz
      subst hy
      have hi8 : i < s := by omega
      have hx : p_nx s i < s := by
        unfold p_nx
        split <;> omega
      have w1 := hW i hi8
      have w2 := hW _ hx
      iterate 4 (refine q_wst rfl rfl rfl ?_)
      refine q_wif (fun c => absurd (show m 30 1 ≤ nI i from c) (by rw [h1]; exact nI_ge (by omega) (by omega))) (fun _ => ?_)
      iterate 4 (refine q_wst rfl rfl rfl ?_)
      refine q_wrd i rfl (show i < 8 by omega) rfl (q_at31 b) (by decide) ?_
      refine q_wra (els := q_rws) (W i) (22 + W i) w1.2 w1.1 (q_rwsg _ w1.1) rfl (q_at21 b) (Or.inr rfl) (by decide) ?_
      iterate 2 (refine q_wst rfl rfl rfl ?_)
      refine q_wcl rfl rfl rfl ?_
      refine t_behind _ b m s i hs hi8 h1 _ ?_
      refine q_wrd (W (p_nx s i)) w2.2 w2.1 rfl (q_atR b _ w1.1) (by decide) ?_
      show q_WP none (d + 1) 45 26 [some (vr 30), some (vr 21), some (vi z), some (vi (nI i)), o4] [vi (m (22 + W i) (W (p_nx s i)))] (q_hp b m) Q
      rw [hO _ _ w1.1 w2.1]
      iterate 3 (refine q_wst rfl rfl rfl ?_)
      refine q_wif (fun c => ?_) (fun c => ?_)
      · have i0 : 0 < i := by
          rcases Nat.eq_zero_or_pos i with z | z
          · exact absurd (congrArg nI z) c
          · exact z
        have hz := hz i0
        iterate 6 (refine q_wst rfl rfl rfl ?_)
        refine ih (i + 1) _ _ _ (by omega) (nI_1 i) (fun _ => ?_)
        show (if ow (W i) (W (p_nx s i)) < z then ow (W i) (W (p_nx s i)) else z) = _
        rw [hz]
        rfl
      · have c : nI i = nI 0 := Decidable.not_not.mp c
        have c : i = 0 := q_nIle (by omega) (by omega) c
        subst c
        iterate 5 (refine q_wst rfl rfl rfl ?_)
        refine ih 1 _ _ _ (by omega) (nI_1 0) (fun _ => ?_)
        exact (p_mn_1 ow s W).symm
  unfold q_Wm
  iterate 4 (refine q_wst rfl rfl rfl ?_)
  exact loop s 0 _ _ _ (by omega) rfl (fun z => absurd z (by omega))
/-- the class's cells hold the ring -/
def p_cR (ow : Nat → Nat → Int32) (m m' : q_M) : Prop := (∀ c, c ≠ 30 → c ≠ 31 → m' c = m c) ∧ (p_rs (p_E ow) 7 2 = none → m' 30 1 = 0) ∧ (∀ s W, p_rs (p_E ow) 7 2 = some (s, W) → m' 30 1 = nI s ∧ m' 30 2 = p_mn ow s W s ∧ ∀ j, j < s → m' 31 j = nI (W j))
theorem p_rs_s (E : Nat → Nat → Bool) (r s : Nat) : p_rs E (r + 1) s = match p_ss E s with
    | some W => some (s, W)
    | none => p_rs E r (s + 1) := rfl
theorem p_rs_rg {E : Nat → Nat → Bool} {s : Nat} {W : Nat → Nat} : ∀ r t, 2 ≤ t → t + r ≤ 9 → p_rs E r t = some (s, W) → 2 ≤ s ∧ s ≤ 8 ∧ ∀ j, j < s → W j < 8
  | 0, _, _, _, h => by cases h
  | r + 1, t, h2, h9, h => by
    rw [p_rs_s] at h
    cases hx : p_ss E t with
    | some W2 =>
      rw [hx] at h
      injection h with h
      injection h with e1 e2
      subst e1 e2
      exact ⟨h2, by omega, p_ss_rg h2 hx⟩
    | none =>
      rw [hx] at h
      exact p_rs_rg r (t + 1) (by omega) (by omega) h
theorem t_seek (d : Nat) (b : Bool) (m : q_M) (ow : Nat → Nat → Int32) (hO : ∀ x y, x < 8 → y < 8 → m (22 + x) y = ow x y) (Q : Option Int32 → q_H → Prop) (hQ : ∀ m', p_cR ow m m' → Q none (q_hp b m')) : q_Wm (d + 9) 43 [vr 30, vr 21] (q_hp b m) Q := by
  have fin : ∀ (m1 : q_M) (o2 o3 : Option q_V), (∀ c, c ≠ 30 → c ≠ 31 → m1 c = m c) → (p_rs (p_E ow) 7 2 = none → m1 30 1 = 0) → (∀ s W, p_rs (p_E ow) 7 2 = some (s, W) → m1 30 1 = nI s ∧ ∀ j, j < s → m1 31 j = nI (W j)) → q_WP none (d + 9) 43 74 [some (vr 30), some (vr 21), o2, o3] [] (q_hp b m1) Q := by
    intro m1 o2 o3 hc hn hs
    iterate 3 (refine q_wst rfl rfl rfl ?_)
    refine q_wcl rfl rfl rfl ?_
    have key : ∀ (Q2 : Option Int32 → q_H → Prop), (∀ v, (∀ s W, p_rs (p_E ow) 7 2 = some (s, W) → v = p_mn ow s W s) → Q2 (some v) (q_hp b m1)) → q_Wm (d + 8) 45 [vr 30, vr 21] (q_hp b m1) Q2 := by
      intro Q2 hQ2
      have hO1 : ∀ x y, x < 8 → y < 8 → m1 (22 + x) y = ow x y := fun x y hx hy => by
        rw [hc _ (by omega) (by omega)]
        exact hO x y hx hy
      cases hx : p_rs (p_E ow) 7 2 with
      | none =>
        refine t_least (d + 7) b m1 ow 0 (fun _ => 0) (by omega) (hn hx) (fun j hj => absurd hj (by omega)) hO1 Q2 (fun v _ => hQ2 v (fun s W e => ?_))
        rw [hx] at e
        cases e
      | some sW =>
        obtain ⟨s, W⟩ := sW
        have hr := p_rs_rg 7 2 (by omega) (by omega) hx
        have h2 := hs s W hx
        refine t_least (d + 7) b m1 ow s W hr.2.1 h2.1 (fun j hj => ⟨hr.2.2 j hj, h2.2 j hj⟩) hO1 Q2 (fun v hv => hQ2 v (fun s' W' e => ?_))
        rw [hx] at e
        injection e with e
        injection e with e1 e2
        subst e1 e2
        exact hv (by omega)
    refine key _ (fun v hv => ?_)
    iterate 1 (refine q_wst rfl rfl rfl ?_)
    refine q_wrv rfl rfl rfl (hQ _ ⟨fun c h1 h2 => (q_up_ne h1).trans (hc c h1 h2), fun e => ?_, fun s W e => ?_⟩)
    · show m1 30 1 = 0
      exact hn e
    · have := hs s W e
      refine ⟨this.1, ?_, fun j hj => this.2 j hj⟩
      show v = _
      exact hv s W e
  have outer : ∀ (r s : Nat) (y : Int32) (m1 : q_M) (o3 : Option q_V), s + r = 9 → 2 ≤ s → y = nI s → (∀ c, c ≠ 30 → c ≠ 31 → m1 c = m c) → m1 30 1 = 0 → p_rs (p_E ow) 7 2 = p_rs (p_E ow) r s → q_WP none (d + 9) 43 7 [some (vr 30), some (vr 21), some (vi y), o3] [] (q_hp b m1) Q := by
    intro r
    induction r with
    | zero =>
      intro s y m1 o3 hs h2 hy hc h1 e
      have hs : s = 9 := by omega
      subst hs hy
      iterate 3 (refine q_wst rfl rfl rfl ?_)
      exact fin m1 _ _ hc (fun _ => h1) (fun s W e2 => by rw [e] at e2; cases e2)
    | succ r ih =>
      intro s y m1 o3 hs h2 hy hc h1 e
      subst hy
      rw [p_rs_s _ r s] at e
      have found : ∀ (W : Nat → Nat) (m2 : q_M) (o3 : Option q_V), p_ss (p_E ow) s = some W → (∀ c, c ≠ 30 → c ≠ 31 → m2 c = m c) → m2 30 1 = nI s → (∀ j, j < s → m2 31 j = nI (W j)) → q_WP none (d + 9) 43 68 [some (vr 30), some (vr 21), some (vi (nI s)), o3] [] (q_hp b m2) Q := by
        intro W m2 o3 hx hc2 g1 g2
        rw [hx] at e
        have f : ∀ (o2 o3 : Option q_V), q_WP none (d + 9) 43 74 [some (vr 30), some (vr 21), o2, o3] [] (q_hp b m2) Q := fun o2 o3 => fin m2 o2 o3 hc2 (fun z => by rw [e] at z; cases z) (fun s' W' z => by
          rw [e] at z
          injection z with z
          injection z with e1 e2
          subst e1 e2
          exact ⟨g1, g2⟩)
        iterate 2 (refine q_wst rfl rfl rfl ?_)
        iterate 3 (refine q_wst rfl rfl rfl ?_)
        refine q_wif (fun _ => f _ _) (fun _ => ?_)
        iterate 3 (refine q_wst rfl rfl rfl ?_)
        refine q_wif (fun _ => f _ _) (fun c => ?_)
        have c : m2 30 1 = 0 := Decidable.not_not.mp c
        rw [g1] at c
        exact absurd c (nI_ne0 (by omega) (by omega))
      have inner : ∀ (r2 v : Nat) (y : Int32) (m1 : q_M), v + r2 = 9 - s → y = nI v → (∀ c, c ≠ 30 → c ≠ 31 → m1 c = m c) → m1 30 1 = 0 → p_ss (p_E ow) s = p_fs (fun v => p_gg (p_E ow) (s - 1) 1 (updN (fun _ => 0) 0 v)) r2 v → q_WP none (d + 9) 43 22 [some (vr 30), some (vr 21), some (vi (nI s)), some (vi y)] [] (q_hp b m1) Q := by
        intro r2
        induction r2 with
        | zero =>
          intro v y m1 hv hy hc h1 e2
          subst hy
          have e2 : p_ss (p_E ow) s = none := e2
          rw [e2] at e
          iterate 5 (refine q_wst rfl rfl rfl ?_)
          refine q_wif (fun _ => ?_) (fun c => absurd (show nI 8 - nI s < nI v from ?_) c)
          · iterate 2 (refine q_wst rfl rfl rfl ?_)
            exact ih (s + 1) _ m1 _ (by omega) (by omega) (nI_1 s) hc h1 e
          · rw [pk_sub (by omega)]
            exact nI_lt (by omega) (by omega)
        | succ r2 ih2 =>
          intro v y m1 hv hy hc h1 e2
          subst hy
          rw [p_fs_s] at e2
          iterate 5 (refine q_wst rfl rfl rfl ?_)
          refine q_wif (fun c => absurd (show nI 8 - nI s < nI v from c) ?_) (fun _ => ?_)
          · rw [pk_sub (by omega)]
            exact nI_nlt (by omega) (by omega)
          · iterate 3 (refine q_wst rfl rfl rfl ?_)
            refine q_wif (fun c => absurd h1 c) (fun _ => ?_)
            iterate 4 (refine q_wst rfl rfl rfl ?_)
            refine q_wwr 0 rfl (by decide) rfl (q_at31 b) (by decide) ?_
            iterate 5 (refine q_wst rfl rfl rfl ?_)
            refine q_wcl rfl rfl rfl ?_
            have e31 : q_up m1 31 0 (nI v) 31 0 = nI v := by
              rw [q_up_eq]
              unfold upd
              rfl
            have key : ∀ (Q2 : Option Int32 → q_H → Prop), (∀ W m', p_gg (p_E ow) (s - 1) 1 (updN (fun _ => 0) 0 v) = some W → (∀ c, c ≠ 31 → m' c = q_up m1 31 0 (nI v) c) → (∀ j, j < s → m' 31 j = nI (W j)) → Q2 (some 1) (q_hp b m')) → (∀ m', p_gg (p_E ow) (s - 1) 1 (updN (fun _ => 0) 0 v) = none → (∀ c, c ≠ 31 → m' c = q_up m1 31 0 (nI v) c) → Q2 (some 0) (q_hp b m')) → q_Wm (d + 8) 44 [vr 31, vr 21, vi (nI s), vi (nI 1)] (q_hp b (q_up m1 31 0 (nI v))) Q2 := by
              intro Q2 k1 k0
              rw [show d + 8 = (d + 9 - s) + (s - 1) by omega]
              refine t_gr b ow s (by omega) (s - 1) (d + 9 - s) 1 (updN (fun _ => 0) 0 v) _ Q2 (by omega) (Nat.le_refl 1) (fun j hj => ?_) (fun x y hx hy => ?_) k1 (fun m' g1 g2 _ => k0 m' g1 g2)
              · have : j = 0 := by omega
                subst this
                rw [updN_eq, e31]
                exact ⟨by omega, rfl⟩
              · rw [q_up_ne (by omega), hc _ (by omega) (by omega)]
                exact hO x y hx hy
            refine key _ (fun W m2 g1 g2 g3 => ?_) (fun m2 g1 g2 => ?_)
            · rw [g1] at e2
              have fd : ∀ (o3 : Option q_V), q_WP none (d + 9) 43 68 [some (vr 30), some (vr 21), some (vi (nI s)), o3] [] (q_hp b (q_up m2 30 1 (nI s))) Q := fun o3 => found W _ o3 e2 (fun c z1 z2 => by rw [q_up_ne z1, g2 c z2, q_up_ne z2]; exact hc c z1 z2) (by rw [q_up_eq]; rfl) (fun j hj => by rw [q_up_ne (by decide)]; exact g3 j hj)
              iterate 1 (refine q_wst rfl rfl rfl ?_)
              refine q_wif (fun c => absurd (show (1 : Int32) = 0 from c) (by decide)) (fun _ => ?_)
              iterate 3 (refine q_wst rfl rfl rfl ?_)
              iterate 2 (refine q_wst rfl rfl rfl ?_)
              iterate 5 (refine q_wst rfl rfl rfl ?_)
              refine q_wif (fun _ => fd _) (fun _ => ?_)
              iterate 3 (refine q_wst rfl rfl rfl ?_)
              refine q_wif (fun _ => fd _) (fun c => ?_)
              have c : nI s = 0 := Decidable.not_not.mp c
              exact absurd c (nI_ne0 (by omega) (by omega))
            · rw [g1] at e2
              iterate 1 (refine q_wst rfl rfl rfl ?_)
              refine q_wif (fun _ => ?_) (fun c => absurd rfl c)
              iterate 2 (refine q_wst rfl rfl rfl ?_)
              refine ih2 (v + 1) _ m2 (by omega) (nI_1 v) (fun c z1 z2 => by rw [g2 c z2, q_up_ne z2]; exact hc c z1 z2) ?_ e2
              rw [g2 30 (by decide), q_up_ne (by decide)]
              exact h1
      iterate 3 (refine q_wst rfl rfl rfl ?_)
      refine q_wif (fun c => absurd (show nI 8 < nI s from c) (nI_nlt (by omega) (by omega))) (fun _ => ?_)
      iterate 3 (refine q_wst rfl rfl rfl ?_)
      refine q_wif (fun c => absurd h1 c) (fun _ => ?_)
      iterate 2 (refine q_wst rfl rfl rfl ?_)
      exact inner (9 - s) 0 _ m1 (by omega) rfl hc h1 rfl
  unfold q_Wm
  iterate 3 (refine q_wst rfl rfl rfl ?_)
  iterate 2 (refine q_wst rfl rfl rfl ?_)
  exact outer 7 2 _ _ _ rfl (by omega) rfl (fun c z1 _ => q_up_ne z1) rfl rfl
