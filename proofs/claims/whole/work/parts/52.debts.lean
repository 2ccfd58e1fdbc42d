/-! debts -/
theorem p_ml_rg {jn : Nat → Int32} {P : Nat} : ∀ r i o l O, i + r ≤ P → (∀ p, O p < 0 ∨ ∃ f, f < P ∧ O p = nI f) → ∀ p, p_ml jn P r i o l O p < 0 ∨ ∃ f, f < P ∧ p_ml jn P r i o l O p = nI f
  | 0, _, _, _, _, _, h => h
  | r + 1, i, o, l, O, hi, h => by
    unfold p_ml
    by_cases c : l = 0
    · rw [if_pos c]
      exact h
    · rw [if_neg c]
      cases hx : p_lf jn P i o l P 0 with
      | none => exact p_ml_rg r (i + 1) o l O (by omega) h
      | some f =>
        have hf := (p_lf_sp P 0 hx).1
        refine p_ml_rg r (i + 1) _ _ _ (by omega) (fun p => ?_)
        unfold upd
        by_cases e1 : p = f
        · rw [if_pos e1]
          exact Or.inr ⟨i, by omega, rfl⟩
        · rw [if_neg e1]
          by_cases e2 : p = i
          · rw [if_pos e2]
            exact Or.inr ⟨f, by omega, rfl⟩
          · rw [if_neg e2]
            exact h p
theorem p_O_rg (m : q_M) (P : Nat) : ∀ p, p_O m P p < 0 ∨ ∃ f, f < P ∧ p_O m P p = nI f := p_ml_rg P 0 _ _ _ (by omega) (fun _ => Or.inl (show (-1 : Int32) < 0 by decide))
/-- the other part of p -/
def p_ob (m : q_M) (P p : Nat) : Nat := (p_O m P p).toNatClampNeg
theorem p_ob_sp (m : q_M) (P p : Nat) (hP : P ≤ 30) (h : ¬ p_O m P p < 0) : p_ob m P p < P ∧ p_O m P p = nI (p_ob m P p) := by
  rcases p_O_rg m P p with z | ⟨f, hf, e⟩
  · exact absurd z h
  · unfold p_ob
    rw [e, nI_clamp (by omega)]
    exact ⟨hf, rfl⟩
def p_vs (m : q_M) (s : Nat) : Int32 := q_vl (m 98) (fun i => m 106 (40 * s + i))
def p_dv (m : q_M) (P s : Nat) : Int32 := if m 100 s = 1 ∧ ¬ p_O m P s < 0 ∧ ¬ m 103 s = m 103 (p_ob m P s) then (if 0 < p_vs m s then p_vs m s else 0) else 0
def p_os (m : q_M) (P a c : Nat) : Nat → Int32
  | 0 => 0
  | n + 1 => if 0 < p_dv m P n ∧ m 103 (p_ob m P n) = nI a ∧ m 103 n = nI c then p_os m P a c n + p_dv m P n else p_os m P a c n
def p_dn (m : q_M) (P : Nat) : Nat → Nat
  | 0 => 0
  | n + 1 => if 0 < p_dv m P n then p_dn m P n + 1 else p_dn m P n
theorem p_dv_no {m : q_M} {P s : Nat} (h : ¬ (m 100 s = 1 ∧ ¬ p_O m P s < 0)) : p_dv m P s = 0 := by
  unfold p_dv
  rw [if_neg (fun z => h ⟨z.1, z.2.1⟩)]
theorem p_dv_pos {m : q_M} {P s : Nat} (h : 0 < p_dv m P s) : m 100 s = 1 ∧ ¬ p_O m P s < 0 ∧ ¬ m 103 s = m 103 (p_ob m P s) ∧ p_dv m P s = p_vs m s := by
  unfold p_dv at h ⊢
  by_cases c : m 100 s = 1 ∧ ¬ p_O m P s < 0 ∧ ¬ m 103 s = m 103 (p_ob m P s)
  · rw [if_pos c] at h ⊢
    by_cases c2 : 0 < p_vs m s
    · rw [if_pos c2]
      exact ⟨c.1, c.2.1, c.2.2, rfl⟩
    · rw [if_neg c2] at h
      exact absurd h (by decide)
  · rw [if_neg c] at h
    exact absurd h (by decide)
theorem p_dv_n0 {m : q_M} {P s : Nat} (h : ¬ 0 < p_dv m P s) : p_dv m P s = 0 := by
  unfold p_dv at h ⊢
  by_cases c : m 100 s = 1 ∧ ¬ p_O m P s < 0 ∧ ¬ m 103 s = m 103 (p_ob m P s)
  · rw [if_pos c] at h ⊢
    by_cases c2 : 0 < p_vs m s
    · rw [if_pos c2] at h
      exact absurd c2 h
    · rw [if_neg c2]
  · rw [if_neg c]
def p_ag3 (m x : q_M) : Prop := p_ag m x ∧ x 103 = m 103 ∧ x 98 = m 98
theorem p_dv_cg {m x : q_M} (h : p_ag3 m x) (P : Nat) : p_dv x P = p_dv m P := by
  funext s
  unfold p_dv p_vs p_ob
  rw [p_O_cg h.1, h.2.1, h.2.2, h.1.1, h.1.2.2.2.1]
theorem p_ob_cg {m x : q_M} (h : p_ag m x) (P : Nat) : p_ob x P = p_ob m P := by
  funext s
  unfold p_ob
  rw [p_O_cg h]
theorem t_dadd (d : Nat) (b : Bool) (m : q_M) (s a c : Nat) (v : Int32) (hs : s < 30) (ha : a < 8) (hc : c < 8) (Q : Option Int32 → q_H → Prop) (hQ : Q none (q_hp b (q_up (q_up (q_up (q_up m 19 s v) 20 s v) (22 + a) c (m (22 + a) c + v)) 18 3 (m 18 3 + 1)))) : q_Wm d 14 [vr 18, vi (nI s), vi (nI a), vi (nI c), vi v] (q_hp b m) Q := by
  unfold q_Wm
  iterate 4 (refine q_wst rfl rfl rfl ?_)
  refine q_wwr s rfl hs rfl (q_at19 b) (by decide) ?_
  iterate 4 (refine q_wst rfl rfl rfl ?_)
  refine q_wwr s rfl hs rfl (q_at20 b) (by decide) ?_
  iterate 3 (refine q_wst rfl rfl rfl ?_)
  refine q_wra (els := q_rws) a (22 + a) rfl ha (q_rwsg a ha) rfl (q_at21 b) (Or.inr rfl) (by decide) ?_
  iterate 2 (refine q_wst rfl rfl rfl ?_)
  refine q_wrd c rfl hc rfl (q_atR b a ha) (by decide) ?_
  iterate 2 (refine q_wst rfl rfl rfl ?_)
  refine q_wwr c rfl hc rfl (q_atR b a ha) (by decide) ?_
  have e1 : q_up (q_up m 19 s v) 20 s v (22 + a) c = m (22 + a) c := by rw [q_up_ne (by omega), q_up_ne (by omega)]
  show q_WP none d 14 29 _ [] (q_hp b (q_up (q_up (q_up m 19 s v) 20 s v) (22 + a) c (q_up (q_up m 19 s v) 20 s v (22 + a) c + v))) Q
  rw [e1]
  have e2 : q_up (q_up (q_up m 19 s v) 20 s v) (22 + a) c (m (22 + a) c + v) 18 3 = m 18 3 := by rw [q_up_ne (by omega), q_up_ne (by omega), q_up_ne (by omega)]
  rw [← e2] at hQ
  iterate 6 (refine q_wst rfl rfl rfl ?_)
  exact q_wrv rfl rfl rfl hQ
theorem t_clearAll (d : Nat) (b : Bool) (m : q_M) (Q : Option Int32 → q_H → Prop) (hQ : ∀ m', (∀ c, c < 18 ∨ 29 < c → m' c = m c) → m' 18 3 = 0 → (∀ j, j < 30 → m' 19 j = 0 ∧ m' 20 j = 0) → (∀ a c, a < 8 → c < 8 → m' (22 + a) c = 0) → Q none (q_hp b m')) : q_Wm (d + 1) 13 [vr 18] (q_hp b m) Q := by
  have loop : ∀ (r i : Nat) (y : Int32) (m1 : q_M), i + r = 8 → y = nI i → (∀ c, c < 18 ∨ 29 < c → m1 c = m c) → m1 18 3 = 0 → (∀ j, j < 30 → m1 19 j = 0 ∧ m1 20 j = 0) → (∀ a c, a < i → c < 8 → m1 (22 + a) c = 0) → q_WP none (d + 1) 13 23 [some (vr 18), some (vi y)] [] (q_hp b m1) Q := by
    intro r
    induction r with
    | zero =>
      intro i y m1 hi hy h1 h2 h3 h4
      have hi : i = 8 := by omega
      subst hi hy
      iterate 3 (refine q_wst rfl rfl rfl ?_)
      exact q_wrv rfl rfl rfl (hQ m1 h1 h2 h3 h4)
    | succ r ih =>
      intro i y m1 hi hy h1 h2 h3 h4
      subst hy
      have hi8 : i < 8 := by omega
      iterate 3 (refine q_wst rfl rfl rfl ?_)
      refine q_wif (fun c => absurd c (nI_ge (b := 8) hi8 (by omega))) (fun _ => ?_)
      iterate 3 (refine q_wst rfl rfl rfl ?_)
      refine q_wra (els := q_rws) i (22 + i) rfl hi8 (q_rwsg i hi8) rfl (q_at21 b) (Or.inr rfl) (by decide) ?_
      iterate 1 (refine q_wst rfl rfl rfl ?_)
      refine q_wcl rfl rfl rfl ?_
      refine t_fill _ b m1 (22 + i) 8 0 (q_atR b i hi8) (by decide) _ ?_
      iterate 2 (refine q_wst rfl rfl rfl ?_)
      have fl : ∀ c, c ≠ 22 + i → p_fl m1 (22 + i) 8 0 c = m1 c := fun c hc => by
        funext j
        unfold p_fl
        rw [if_neg hc]
      refine ih (i + 1) _ _ (by omega) (nI_1 i) (fun c hc => (fl c (by omega)).trans (h1 c hc)) ?_ (fun j hj => ?_) (fun a c ha hc => ?_)
      · rw [fl 18 (by omega)]
        exact h2
      · rw [fl 19 (by omega), fl 20 (by omega)]
        exact h3 j hj
      · by_cases e : a = i
        · subst e
          unfold p_fl
          rw [if_pos rfl, if_pos hc]
        · rw [fl (22 + a) (by omega)]
          exact h4 a c (by omega) hc
  unfold q_Wm
  iterate 3 (refine q_wst rfl rfl rfl ?_)
  iterate 3 (refine q_wst rfl rfl rfl ?_)
  refine q_wcl rfl rfl rfl ?_
  refine t_fill _ b _ 19 30 0 (q_at19 b) (by decide) _ ?_
  iterate 3 (refine q_wst rfl rfl rfl ?_)
  refine q_wcl rfl rfl rfl ?_
  refine t_fill _ b _ 20 30 0 (q_at20 b) (by decide) _ ?_
  iterate 2 (refine q_wst rfl rfl rfl ?_)
  refine loop 8 0 _ _ rfl rfl (fun c hc => ?_) ?_ (fun j hj => ?_) (fun a c ha => absurd ha (by omega))
  · funext j
    show p_fl (p_fl (q_up m 18 3 0) 19 30 0) 20 30 0 c j = m c j
    unfold p_fl
    rw [if_neg (by omega), if_neg (by omega), q_up_ne (by omega)]
  · rfl
  · show p_fl (p_fl (q_up m 18 3 0) 19 30 0) 20 30 0 19 j = 0 ∧ p_fl (p_fl (q_up m 18 3 0) 19 30 0) 20 30 0 20 j = 0
    unfold p_fl
    rw [if_neg (by decide), if_pos rfl, if_pos hj, if_pos rfl, if_pos hj]
    exact ⟨rfl, rfl⟩
def p_cD (m m' : q_M) (P : Nat) : Prop := (∀ c, c < 5 ∨ (12 < c ∧ c < 18) ∨ 29 < c → m' c = m c) ∧ (∀ p, p < P → (m 100 p = 1 → m' 9 p = p_O m P p) ∧ (m 100 p ≠ 1 → m' 9 p = -1)) ∧ (∀ s, s < 30 → m' 19 s = (if s < P then p_dv m P s else 0) ∧ m' 20 s = (if s < P then p_dv m P s else 0)) ∧ (∀ a c, a < 8 → c < 8 → m' (22 + a) c = p_os m P a c P) ∧ m' 18 3 = nI (p_dn m P P)
theorem t_debtorOf (d : Nat) (b : Bool) (m : q_M) (s f : Nat) (hs : s < 30) (hf : f < 30) (h9 : m 9 s = nI f) (Q : Option Int32 → q_H → Prop) (hQ : Q (some (m (37 + 2 * f) 4)) (q_hp b m)) : q_Wm d 85 [vr 0, vi (nI s)] (q_hp b m) Q := by
  unfold q_Wm
  iterate 6 (refine q_wst rfl rfl rfl ?_)
  refine q_wrd s rfl hs rfl (q_at9 b) (by decide) ?_
  refine q_wpc f h9 hf rfl ?_
  refine q_wgi rfl (q_atP b f hf) rfl rfl ?_
  exact q_wrt rfl rfl rfl hQ
theorem t_readDebts (d : Nat) (b : Bool) (m : q_M) (P : Nat) (w : Nat → Nat) (hR : q_R0 P w b m) (Q : Option Int32 → q_H → Prop) (hQ : ∀ m', p_cD m m' P → Q none (q_hp b m')) : q_Wm (d + 35) 84 [vr 0] (q_hp b m) Q := by
  have r1 := hR.1
  have hP := r1.1
  obtain ⟨S, hS, s1, s2⟩ := hR.2.1
  have r8 := hR.2.2.2.2.2.2.2.1
  have r9 := hR.2.2.2.2.2.2.2.2.1
  have loop : ∀ (r s : Nat) (y : Int32) (m1 : q_M) (o2 o3 : Option q_V), s + r = P → y = nI s → (∀ c, c < 5 ∨ (12 < c ∧ c < 18) ∨ 29 < c → m1 c = m c) → (∀ p, p < P → (m 100 p = 1 → m1 9 p = p_O m P p) ∧ (m 100 p ≠ 1 → m1 9 p = -1)) → (∀ t, t < 30 → m1 19 t = (if t < s then p_dv m P t else 0) ∧ m1 20 t = (if t < s then p_dv m P t else 0)) → (∀ a c, a < 8 → c < 8 → m1 (22 + a) c = p_os m P a c s) → m1 18 3 = nI (p_dn m P s) → q_WP none (d + 35) 84 13 [some (vr 0), some (vi y), o2, o3] [] (q_hp b m1) Q := by
    intro r
    induction r with
    | zero =>
      intro s y m1 o2 o3 hs hy h1 h2 h3 h4 h5
      have hs : s = P := by omega
      subst hs hy
      have hb1 : m1 0 1 = nI s := by rw [h1 0 (by omega)]; exact r1.2.1
      iterate 4 (refine q_wst rfl rfl rfl ?_)
      refine q_wif (fun _ => ?_) (fun c => absurd (show m1 0 1 ≤ nI s by rw [hb1]; exact nI_le (Nat.le_refl s) (by omega)) c)
      exact q_wrv rfl rfl rfl (hQ m1 ⟨h1, h2, h3, h4, h5⟩)
    | succ r ih =>
      intro s y m1 o2 o3 hs hy h1 h2 h3 h4 h5
      subst hy
      have hsP : s < P := by omega
      have hs3 : s < 30 := by omega
      have hb1 : m1 0 1 = nI P := by rw [h1 0 (by omega)]; exact r1.2.1
      have skip : ∀ (m2 : q_M) (o2 o3 : Option q_V), (∀ c, c < 5 ∨ 7 < c → m2 c = m1 c) → p_dv m P s = 0 → q_WP none (d + 35) 84 13 [some (vr 0), some (vi (nI s + 1)), o2, o3] [] (q_hp b m2) Q := by
        intro m2 o2 o3 hm e
        refine ih (s + 1) _ m2 _ _ (by omega) (nI_1 s) (fun c hc => (hm c (by omega)).trans (h1 c hc)) (fun p hp => by rw [hm 9 (by omega)]; exact h2 p hp) (fun t ht => ?_) (fun a c ha hc => ?_) ?_
        · rw [hm 19 (by omega), hm 20 (by omega)]
          by_cases e1 : t = s
          · subst e1
            have := h3 t ht
            rw [if_neg (by omega)] at this
            rw [if_pos (by omega), e]
            exact this
          · have := h3 t ht
            by_cases e2 : t < s
            · rw [if_pos e2] at this
              rw [if_pos (by omega)]
              exact this
            · rw [if_neg e2] at this
              rw [if_neg (by omega)]
              exact this
        · rw [hm (22 + a) (by omega), h4 a c ha hc]
          unfold p_os
          rw [if_neg (fun z => by rw [e] at z; exact absurd z.1 (by decide))]
          cases s <;> rfl
        · rw [hm 18 (by omega), h5]
          show _ = nI (if 0 < p_dv m P s then p_dn m P s + 1 else p_dn m P s)
          rw [if_neg (by rw [e]; decide)]
      iterate 4 (refine q_wst rfl rfl rfl ?_)
      refine q_wif (fun c => absurd (show m1 0 1 ≤ nI s from c) (by rw [hb1]; exact nI_ge (by omega) (by omega))) (fun _ => ?_)
      iterate 4 (refine q_wst rfl rfl rfl ?_)
      refine q_wrd s rfl hs3 rfl (q_at9 b) (by decide) ?_
      iterate 1 (refine q_wst rfl rfl rfl ?_)
      refine q_wif (fun c => ?_) (fun c => ?_)
      · have c : 0 ≤ m1 9 s := c
        have k1 : m 100 s = 1 := by
          rcases Decidable.em (m 100 s = 1) with z | z
          · exact z
          · rw [(h2 s hsP).2 z] at c
            exact absurd c (by decide)
        have e9 := (h2 s hsP).1 k1
        rw [e9] at c
        have ho := p_ob_sp m P s hP (Int32.not_lt.mpr c)
        have hf3 : p_ob m P s < 30 := by omega
        iterate 2 (refine q_wst rfl rfl rfl ?_)
        refine q_wcl rfl rfl rfl ?_
        refine t_valueOf2 _ b m1 s hs3 _ (fun m2 hsm hm hcx => ?_)
        have ev : q_vl (m1 3) (m1 (38 + 2 * s)) = p_vs m s := by
          rw [h1 3 (by omega), h1 (38 + 2 * s) (by omega)]
          exact q_R_vl hR hs3
        rw [ev]
        iterate 3 (refine q_wst rfl rfl rfl ?_)
        refine q_wcl rfl rfl rfl ?_
        refine t_debtorOf _ b m2 s (p_ob m P s) hs3 hf3 (by rw [hm 9 (by omega), e9]; exact ho.2) _ ?_
        have ed : m2 (37 + 2 * p_ob m P s) 4 = m 103 (p_ob m P s) := by
          rw [hm _ (by omega), h1 _ (by omega)]
          exact (r8 _ hf3).2.2.2.1
        have eh : m2 (37 + 2 * s) 4 = m 103 s := by
          rw [hm _ (by omega), h1 _ (by omega)]
          exact (r8 _ hs3).2.2.2.1
        show q_WP none (d + 35) 84 47 [some (vr 0), some (vi (nI s)), some (vi (p_vs m s)), o3] [vi (m2 (37 + 2 * p_ob m P s) 4)] (q_hp b m2) Q
        rw [ed]
        iterate 3 (refine q_wst rfl rfl rfl ?_)
        refine q_wif (fun c2 => ?_) (fun c2 => ?_)
        · have c2 : p_vs m s ≤ 0 := c2
          iterate 2 (refine q_wst rfl rfl rfl ?_)
          refine skip m2 _ _ hm ?_
          unfold p_dv
          rw [if_neg (Int32.not_lt.mpr c2)]
          split <;> rfl
        · have c2 : ¬ p_vs m s ≤ 0 := c2
          iterate 4 (refine q_wst rfl rfl rfl ?_)
          refine q_wpc s rfl hs3 rfl ?_
          refine q_wgi rfl (q_atP b s hs3) rfl rfl ?_
          iterate 1 (refine q_wst rfl rfl rfl ?_)
          refine q_wif (fun c3 => ?_) (fun c3 => ?_)
          · have c3 : m 103 (p_ob m P s) = m2 (37 + 2 * s) 4 := c3
            rw [eh] at c3
            iterate 2 (refine q_wst rfl rfl rfl ?_)
            refine skip m2 _ _ hm ?_
            unfold p_dv
            rw [if_neg (fun z => z.2.2 c3.symm)]
          · have c3 : ¬ m 103 (p_ob m P s) = m2 (37 + 2 * s) 4 := c3
            rw [eh] at c3
            have edv : p_dv m P s = p_vs m s := by
              unfold p_dv
              rw [if_pos ⟨k1, Int32.not_lt.mpr c, fun z => c3 z.symm⟩, if_pos (Int32.not_le.mp c2)]
            have hpos : 0 < p_dv m P s := by rw [edv]; exact Int32.not_le.mp c2
            obtain ⟨a, ha, ea⟩ := (r9 _ ho.1).2.2.1
            obtain ⟨c, hc, ec⟩ := (r9 _ hsP).2.2.1
            iterate 7 (refine q_wst rfl rfl rfl ?_)
            refine q_wpc s rfl hs3 rfl ?_
            refine q_wgi rfl (q_atP b s hs3) rfl rfl ?_
            iterate 1 (refine q_wst rfl rfl rfl ?_)
            refine q_wcl rfl rfl rfl ?_
            show q_Wm (d + 34) 14 [vr 18, vi (nI s), vi (m 103 (p_ob m P s)), vi (m2 (37 + 2 * s) 4), vi (p_vs m s)] (q_hp b m2) _
            rw [eh, ea, ec]
            refine t_dadd _ b m2 s a c (p_vs m s) hs3 (by omega) (by omega) _ ?_
            iterate 2 (refine q_wst rfl rfl rfl ?_)
            refine ih (s + 1) _ _ _ _ (by omega) (nI_1 s) (fun c hc => ?_) (fun p hp => ?_) (fun t ht => ?_) (fun a' c' ha' hc' => ?_) ?_
            · rw [q_up_ne (by omega), q_up_ne (by omega), q_up_ne (by omega), q_up_ne (by omega), hm c (by omega)]
              exact h1 c hc
            · rw [q_up_ne (by omega), q_up_ne (by omega), q_up_ne (by omega), q_up_ne (by omega), hm 9 (by omega)]
              exact h2 p hp
            · rw [q_up_ne (show 19 ≠ 18 by omega), q_up_ne (show 20 ≠ 18 by omega), q_up_ne (show 19 ≠ 22 + a by omega), q_up_ne (show 20 ≠ 22 + a by omega), q_up_ne (show 19 ≠ 20 by omega), q_up_eq, q_up_eq, q_up_ne (show 20 ≠ 19 by omega), hm 19 (by omega), hm 20 (by omega)]
              have := h3 t ht
              unfold upd
              by_cases e1 : t = s
              · subst e1
                rw [if_pos rfl, if_pos (by omega), edv, if_pos rfl]
                exact ⟨rfl, rfl⟩
              · rw [if_neg e1, if_neg e1]
                by_cases e2 : t < s
                · rw [if_pos e2] at this
                  rw [if_pos (by omega)]
                  exact this
                · rw [if_neg e2] at this
                  rw [if_neg (by omega)]
                  exact this
            · show q_up _ 18 3 _ (22 + a') c' = (if 0 < p_dv m P s ∧ m 103 (p_ob m P s) = nI a' ∧ m 103 s = nI c' then p_os m P a' c' s + p_dv m P s else p_os m P a' c' s)
              rw [q_up_ne (by omega)]
              by_cases e1 : a' = a
              · subst e1
                rw [q_up_eq, q_up_ne (by omega), q_up_ne (by omega), hm _ (by omega)]
                unfold upd
                by_cases e2 : c' = c
                · subst e2
                  rw [if_pos rfl, if_pos ⟨hpos, ea, ec⟩, h4 a' c' ha' hc', edv]
                · rw [if_neg e2, if_neg (fun z => e2 (q_nIle (by omega) (by omega) (z.2.2.symm.trans ec)))]
                  exact h4 a' c' ha' hc'
              · rw [q_up_ne (by omega), q_up_ne (by omega), q_up_ne (by omega), hm _ (by omega), if_neg (fun z => e1 (q_nIle (by omega) (by omega) (z.2.1.symm.trans ea)))]
                exact h4 a' c' ha' hc'
            · rw [q_up_eq, hm 18 (by omega), h5]
              show nI (p_dn m P s) + 1 = nI (if 0 < p_dv m P s then p_dn m P s + 1 else p_dn m P s)
              rw [if_pos hpos, nI_1]
      · have c : ¬ 0 ≤ m1 9 s := c
        iterate 3 (refine q_wst rfl rfl rfl ?_)
        refine skip m1 _ _ (fun _ _ => rfl) (p_dv_no (fun z => ?_))
        rw [(h2 s hsP).1 z.1] at c
        exact z.2 (Int32.not_le.mp c)
  unfold q_Wm
  iterate 1 (refine q_wst rfl rfl rfl ?_)
  refine q_wcl rfl rfl rfl ?_
  refine t_pairUp d b m P hP r1.2.1 r8 (s1.trans s2.symm) _ (fun m1 h1 => ?_)
  iterate 2 (refine q_wst rfl rfl rfl ?_)
  refine q_wcl rfl rfl rfl ?_
  refine t_clearAll _ b m1 _ (fun m2 g1 g2 g3 g4 => ?_)
  iterate 2 (refine q_wst rfl rfl rfl ?_)
  refine loop P 0 _ m2 _ _ (by omega) rfl (fun c hc => (g1 c (by omega)).trans (h1.1 c (by omega))) (fun p hp => ?_) (fun t ht => ?_) (fun a c ha hc => g4 a c ha hc) g2
  · rw [g1 9 (by omega)]
    exact ⟨(h1.2.2 p hp).1, fun z => ((h1.2.2 p hp).2 z).2⟩
  · rw [if_neg (by omega)]
    exact g3 t ht
