/-! pairing: which pieces join; the class's match -/
theorem t_canPair (d : Nat) (b : Bool) (m : q_M) (p : Nat) (hp : p < 30) (kd : Int32) (Q : Option Int32 → q_H → Prop) (ht : m (37 + 2 * p) 1 = kd → m (37 + 2 * p) 6 = 0 → Q (some 1) (q_hp b m)) (hf : ¬ (m (37 + 2 * p) 1 = kd ∧ m (37 + 2 * p) 6 = 0) → Q (some 0) (q_hp b m)) : q_Wm d 40 [vr (37 + 2 * p), vi kd] (q_hp b m) Q := by
  unfold q_Wm
  iterate 1 (refine q_wst rfl rfl rfl ?_)
  refine q_wgi rfl (q_atP b p hp) rfl rfl ?_
  iterate 2 (refine q_wst rfl rfl rfl ?_)
  refine q_wif (fun c => ?_) (fun c => ?_)
  · have c : ¬ m (37 + 2 * p) 1 = kd := c
    repeat (refine q_wst rfl rfl rfl ?_)
    exact q_wrt rfl rfl rfl (hf (fun z => c z.1))
  · have c : m (37 + 2 * p) 1 = kd := Decidable.not_not.mp c
    iterate 1 (refine q_wst rfl rfl rfl ?_)
    refine q_wgi rfl (q_atP b p hp) rfl rfl ?_
    iterate 1 (refine q_wst rfl rfl rfl ?_)
    refine q_wif (fun c2 => ?_) (fun c2 => ?_)
    · have c2 : ¬ m (37 + 2 * p) 6 = 0 := c2
      repeat (refine q_wst rfl rfl rfl ?_)
      exact q_wrt rfl rfl rfl (hf (fun z => c2 z.2))
    · have c2 : m (37 + 2 * p) 6 = 0 := Decidable.not_not.mp c2
      repeat (refine q_wst rfl rfl rfl ?_)
      exact q_wrt rfl rfl rfl (ht c c2)
theorem t_joins (d : Nat) (b : Bool) (m : q_M) (p q lo hi : Nat) (sl : Int32) (hp : p < 30) (hq : q < 30) (hlo : lo ≤ 100) (hhi : hi ≤ 100) (Q : Option Int32 → q_H → Prop) (ht : m (37 + 2 * p) 2 = m (37 + 2 * q) 2 → p_fa (m (38 + 2 * p)) (m (38 + 2 * q)) sl lo hi 40 0 = 40 → Q (some 1) (q_hp b m)) (hf : ¬ (m (37 + 2 * p) 2 = m (37 + 2 * q) 2 ∧ p_fa (m (38 + 2 * p)) (m (38 + 2 * q)) sl lo hi 40 0 = 40) → Q (some 0) (q_hp b m)) : q_Wm (d + 1) 41 [vr (37 + 2 * p), vr (37 + 2 * q), vi sl, vi (nI lo), vi (nI hi)] (q_hp b m) Q := by
  unfold q_Wm
  iterate 1 (refine q_wst rfl rfl rfl ?_)
  refine q_wgi rfl (q_atP b p hp) rfl rfl ?_
  iterate 1 (refine q_wst rfl rfl rfl ?_)
  refine q_wgi rfl (q_atP b q hq) rfl rfl ?_
  iterate 1 (refine q_wst rfl rfl rfl ?_)
  refine q_wif (fun c => ?_) (fun c => ?_)
  · have c : ¬ m (37 + 2 * p) 2 = m (37 + 2 * q) 2 := c
    repeat (refine q_wst rfl rfl rfl ?_)
    exact q_wrt rfl rfl rfl (hf (fun z => c z.1))
  · have c : m (37 + 2 * p) 2 = m (37 + 2 * q) 2 := Decidable.not_not.mp c
    iterate 5 (refine q_wst rfl rfl rfl ?_)
    refine q_wcP p hp rfl rfl rfl rfl rfl ?_
    refine t_fa _ b m p q lo hi sl hp hq hlo hhi _ ?_
    iterate 2 (refine q_wst rfl rfl rfl ?_)
    refine q_wif (fun c2 => ?_) (fun c2 => ?_)
    · have c2 : ¬ p_fa (m (38 + 2 * p)) (m (38 + 2 * q)) sl lo hi 40 0 = 40 := c2
      repeat (refine q_wst rfl rfl rfl ?_)
      exact q_wrt rfl rfl rfl (hf (fun z => c2 z.2))
    · have c2 : p_fa (m (38 + 2 * p)) (m (38 + 2 * q)) sl lo hi 40 0 = 40 := Decidable.not_not.mp c2
      repeat (refine q_wst rfl rfl rfl ?_)
      exact q_wrt rfl rfl rfl (ht c c2)
/-- foil f joins stock i -/
def p_jb (m : q_M) (i f : Nat) : Bool := decide (m 100 f = 2 ∧ m 105 f = 0 ∧ m 101 i = m 101 f ∧ p_fa (fun x => m 106 (40 * i + x)) (fun x => m 106 (40 * f + x)) (m 97 3) 0 0 40 0 = 40)
def p_jr (m : q_M) (i : Nat) : Nat → Nat → Int32 → Int32
  | 0, _, x => x
  | r + 1, f, x => p_jr m i r (f + 1) (if p_jb m i f = true then x ||| p_on f else x)
def p_J (m : q_M) (P i : Nat) : Int32 := if m 100 i = 1 ∧ m 105 i = 0 then p_jr m i P 0 0 else 0
theorem p_jr_bt (m : q_M) (i g : Nat) : ∀ r f x, f + r ≤ 30 → p_bt (p_jr m i r f x) g = true → p_bt x g = true ∨ (g < f + r ∧ p_jb m i g = true)
  | 0, _, _, _, h => Or.inl h
  | r + 1, f, x, hr, h => by
    unfold p_jr at h
    rcases p_jr_bt m i g r (f + 1) _ (by omega) h with z | z
    · by_cases c : p_jb m i f = true
      · rw [if_pos c, p_bt_or, p_bt_on f g (by omega), Bool.or_eq_true] at z
        rcases z with z | z
        · exact Or.inl z
        · have z := of_decide_eq_true z
          subst z
          exact Or.inr ⟨by omega, c⟩
      · rw [if_neg c] at z
        exact Or.inl z
    · exact Or.inr ⟨by omega, z.2⟩
theorem p_J_bt {m : q_M} {P i g : Nat} (hP : P ≤ 30) (h : p_bt (p_J m P i) g = true) : g < P ∧ m 100 i = 1 ∧ m 100 g = 2 ∧ p_jb m i g = true ∧ m 105 i = 0 := by
  unfold p_J at h
  by_cases c : m 100 i = 1 ∧ m 105 i = 0
  · rw [if_pos c] at h
    rcases p_jr_bt m i g P 0 0 (by omega) h with z | z
    · rw [p_bt_0] at z
      cases z
    · have z2 := z.2
      unfold p_jb at z2
      exact ⟨by omega, c.1, (of_decide_eq_true z2).1, z.2, c.2⟩
  · rw [if_neg c, p_bt_0] at h
    cases h
theorem p_jb_c {P : Nat} {m m1 : q_M} (h8 : q_r8 P m) (hsl : m 0 5 = m 97 3) (hm : ∀ c, c ≠ 11 → m1 c = m c) {i f : Nat} (hi : i < 30) (hf : f < 30) : p_jb m i f = decide (m1 (37 + 2 * f) 1 = 2 ∧ m1 (37 + 2 * f) 6 = 0 ∧ m1 (37 + 2 * i) 2 = m1 (37 + 2 * f) 2 ∧ p_fa (m1 (38 + 2 * i)) (m1 (38 + 2 * f)) (m 0 5) 0 0 40 0 = 40) := by
  obtain ⟨b1, b2, b3, b4, b5, b6, b7⟩ := h8 i hi
  obtain ⟨c1, c2, c3, c4, c5, c6, c7⟩ := h8 f hf
  unfold p_jb
  rw [hm (37 + 2 * i) (by omega), hm (37 + 2 * f) (by omega), hm (38 + 2 * i) (by omega), hm (38 + 2 * f) (by omega), b2, c1, c2, c6, hsl, p_fa_eq (d1 := m (38 + 2 * i)) (d2 := m (38 + 2 * f)) 40 0 (by decide) (fun j hj => ⟨b7 j hj, c7 j hj⟩)]
theorem t_readJoins (d : Nat) (b : Bool) (m : q_M) (P : Nat) (hP : P ≤ 30) (h8 : q_r8 P m) (hsl : m 0 5 = m 97 3) (Q : Option Int32 → q_H → Prop) (hQ : ∀ m', (∀ c, c ≠ 11 → m' c = m c) → (∀ s, s < P → m' 11 s = p_J m P s) → Q none (q_hp b m')) : q_Wm (d + 2) 26 [vr 8, vr 1, vi (nI P), vi (m 0 5)] (q_hp b m) Q := by
  have loop : ∀ (r i : Nat) (y : Int32) (m1 : q_M) (o5 : Option q_V), i + r = P → y = nI i → (∀ c, c ≠ 11 → m1 c = m c) → (∀ s, s < 30 → m1 11 s = if s < i then p_J m P s else 0) → q_WP none (d + 2) 26 11 [some (vr 8), some (vr 1), some (vi (nI P)), some (vi (m 0 5)), some (vi y), o5] [] (q_hp b m1) Q := by
    intro r
    induction r with
    | zero =>
      intro i y m1 o5 hi hy hm hj
      have hi : i = P := by omega
      subst hi hy
      iterate 3 (refine q_wst rfl rfl rfl ?_)
      refine q_wif (fun _ => ?_) (fun c => absurd (nI_le (Nat.le_refl i) (by omega)) c)
      exact q_wrv rfl rfl rfl (hQ m1 hm (fun s hs => by rw [hj s (by omega), if_pos hs]))
    | succ r ih =>
      intro i y m1 o5 hi hy hm hj
      subst hy
      have hi3 : i < 30 := by omega
      obtain ⟨b1, b2, b3, b4, b5, b6, b7⟩ := h8 i hi3
      iterate 3 (refine q_wst rfl rfl rfl ?_)
      refine q_wif (fun c => absurd c (nI_ge (by omega) (by omega))) (fun _ => ?_)
      iterate 2 (refine q_wst rfl rfl rfl ?_)
      refine q_wpc i rfl hi3 rfl ?_
      iterate 1 (refine q_wst rfl rfl rfl ?_)
      refine q_wcP i hi3 rfl rfl rfl rfl rfl ?_
      refine t_canPair _ b m1 i hi3 1 _ (fun k1 k2 => ?_) (fun k => ?_)
      · rw [hm (37 + 2 * i) (by omega), b1] at k1
        rw [hm (37 + 2 * i) (by omega), b6] at k2
        have inner : ∀ (r2 f : Nat) (y x : Int32) (m1 : q_M), f + r2 = P → y = nI f → (∀ c, c ≠ 11 → m1 c = m c) → (∀ s, s < 30 → s ≠ i → m1 11 s = if s < i then p_J m P s else 0) → m1 11 i = x → p_jr m i r2 f x = p_J m P i → q_WP none (d + 2) 26 34 [some (vr 8), some (vr 1), some (vi (nI P)), some (vi (m 0 5)), some (vi (nI i)), some (vi y)] [] (q_hp b m1) Q := by
          intro r2
          induction r2 with
          | zero =>
            intro f y x m1 hf hy hm hj hx hJ
            have hf : f = P := by omega
            subst hf hy
            iterate 3 (refine q_wst rfl rfl rfl ?_)
            refine q_wif (fun _ => ?_) (fun c => absurd (nI_le (Nat.le_refl f) (by omega)) c)
            iterate 2 (refine q_wst rfl rfl rfl ?_)
            refine ih (i + 1) _ m1 _ (by omega) (nI_1 i) hm (fun s hs => ?_)
            by_cases e : s = i
            · subst e
              rw [hx, if_pos (by omega)]
              exact hJ
            · rw [hj s hs e]
              by_cases e2 : s < i
              · rw [if_pos e2, if_pos (by omega)]
              · rw [if_neg e2, if_neg (by omega)]
          | succ r2 ih2 =>
            intro f y x m1 hf hy hm hj hx hJ
            subst hy
            have hf3 : f < 30 := by omega
            unfold p_jr at hJ
            rw [p_jb_c h8 hsl hm hi3 hf3] at hJ
            iterate 3 (refine q_wst rfl rfl rfl ?_)
            refine q_wif (fun c => absurd c (nI_ge (by omega) (by omega))) (fun _ => ?_)
            iterate 2 (refine q_wst rfl rfl rfl ?_)
            refine q_wpc f rfl hf3 rfl ?_
            iterate 1 (refine q_wst rfl rfl rfl ?_)
            refine q_wcP f hf3 rfl rfl rfl rfl rfl ?_
            refine t_canPair _ b m1 f hf3 2 _ (fun g1 g2 => ?_) (fun g => ?_)
            · iterate 1 (refine q_wst rfl rfl rfl ?_)
              refine q_wif (fun c => absurd (show (1 : Int32) = 0 from c) (by decide)) (fun _ => ?_)
              iterate 2 (refine q_wst rfl rfl rfl ?_)
              refine q_wpc i rfl hi3 rfl ?_
              iterate 2 (refine q_wst rfl rfl rfl ?_)
              refine q_wpc f rfl hf3 rfl ?_
              iterate 3 (refine q_wst rfl rfl rfl ?_)
              refine q_wcP i hi3 rfl rfl rfl rfl rfl ?_
              refine t_joins _ b m1 i f 0 0 _ hi3 hf3 (by decide) (by decide) _ (fun g3 g4 => ?_) (fun g => ?_)
              · rw [if_pos (decide_eq_true ⟨g1, g2, g3, g4⟩)] at hJ
                iterate 1 (refine q_wst rfl rfl rfl ?_)
                refine q_wif (fun c => absurd (show (1 : Int32) = 0 from c) (by decide)) (fun _ => ?_)
                iterate 4 (refine q_wst rfl rfl rfl ?_)
                refine q_wrd i rfl hi3 rfl (q_at11 b) (by decide) ?_
                iterate 4 (refine q_wst rfl rfl rfl ?_)
                refine q_wwr i rfl hi3 rfl (q_at11 b) (by decide) ?_
                iterate 2 (refine q_wst rfl rfl rfl ?_)
                refine ih2 (f + 1) _ (x ||| p_on f) _ (by omega) (nI_1 f) (fun c hc => (q_up_ne hc).trans (hm c hc)) (fun s hs e => ?_) ?_ hJ
                · show q_up m1 11 i _ 11 s = _
                  rw [q_up_eq]
                  unfold upd
                  rw [if_neg e]
                  exact hj s hs e
                · show q_up m1 11 i (m1 11 i ||| p_on f) 11 i = _
                  rw [q_up_eq, hx]
                  unfold upd
                  rw [if_pos rfl]
              · rw [if_neg (fun z => g ⟨(of_decide_eq_true z).2.2.1, (of_decide_eq_true z).2.2.2⟩)] at hJ
                iterate 1 (refine q_wst rfl rfl rfl ?_)
                refine q_wif (fun _ => ?_) (fun c => absurd rfl c)
                iterate 2 (refine q_wst rfl rfl rfl ?_)
                exact ih2 (f + 1) _ x m1 (by omega) (nI_1 f) hm hj hx hJ
            · rw [if_neg (fun z => g ⟨(of_decide_eq_true z).1, (of_decide_eq_true z).2.1⟩)] at hJ
              iterate 1 (refine q_wst rfl rfl rfl ?_)
              refine q_wif (fun _ => ?_) (fun c => absurd rfl c)
              iterate 2 (refine q_wst rfl rfl rfl ?_)
              exact ih2 (f + 1) _ x m1 (by omega) (nI_1 f) hm hj hx hJ
        iterate 1 (refine q_wst rfl rfl rfl ?_)
        refine q_wif (fun _ => ?_) (fun c => absurd (show ¬ (1 : Int32) = 0 by decide) c)
        iterate 2 (refine q_wst rfl rfl rfl ?_)
        refine inner P 0 _ 0 m1 (by omega) rfl hm (fun s hs _ => hj s hs) ?_ ?_
        · rw [hj i hi3, if_neg (by omega)]
        · unfold p_J
          rw [if_pos ⟨k1, k2⟩]
      · rw [hm (37 + 2 * i) (by omega), b1, b6] at k
        iterate 1 (refine q_wst rfl rfl rfl ?_)
        refine q_wif (fun c => absurd rfl c) (fun _ => ?_)
        iterate 3 (refine q_wst rfl rfl rfl ?_)
        refine ih (i + 1) _ m1 _ (by omega) (nI_1 i) hm (fun s hs => ?_)
        rw [hj s hs]
        by_cases e : s = i
        · subst e
          rw [if_neg (by omega), if_pos (by omega)]
          unfold p_J
          rw [if_neg k]
        · by_cases e2 : s < i
          · rw [if_pos e2, if_pos (by omega)]
          · rw [if_neg e2, if_neg (by omega)]
  unfold q_Wm
  iterate 3 (refine q_wst rfl rfl rfl ?_)
  refine q_wcl rfl rfl rfl ?_
  refine t_fill _ b _ 11 30 0 (q_at11 b) (by decide) _ ?_
  iterate 2 (refine q_wst rfl rfl rfl ?_)
  refine loop P 0 _ _ _ (by omega) rfl (fun c hc => ?_) (fun s hs => ?_)
  · funext j
    unfold p_fl
    rw [if_neg hc]
  · unfold p_fl
    rw [if_pos rfl, if_pos hs, if_neg (by omega)]
def p_lv : Option Nat → Int32
  | none => -1
  | some f => nI f
theorem p_lf_sp {jn : Nat → Int32} {P i : Nat} {o : Int32} {l : Nat} {f : Nat} : ∀ r g, p_lf jn P i o l r g = some f → f < g + r ∧ p_bt (jn i &&& o) f = true
  | 0, _, h => by cases h
  | r + 1, g, h => by
    unfold p_lf at h
    by_cases c : p_bt (jn i &&& o) g = true ∧ p_mp (fun s => jn s &&& (o &&& (p_on g ^^^ -1))) (P - (i + 1)) (i + 1) (fun _ => -1) 0 + 1 = l
    · rw [if_pos c] at h
      injection h with h
      subst h
      exact ⟨by omega, c.1⟩
    · rw [if_neg c] at h
      have := p_lf_sp r (g + 1) h
      exact ⟨by omega, this.2⟩
theorem p_lf_0 {jn : Nat → Int32} {P i : Nat} {o : Int32} {l : Nat} (h : ∀ f, p_bt (jn i) f = false) : ∀ r g, p_lf jn P i o l r g = none
  | 0, _ => rfl
  | r + 1, g => by
    unfold p_lf
    rw [if_neg (fun c => by rw [p_bt_and, h g] at c; cases c.1)]
    exact p_lf_0 h r (g + 1)
theorem t_lf (b : Bool) (mB : q_M) (oc om o0 a0 : Int32) (T0 : Nat → Int32) (P d i l : Nat) (hP : P ≤ 30) (hi : i < P) (hl0 : 0 < l) (hl : l ≤ 30) (jn : Nat → Int32) (hj : ∀ s, s < P → mB 11 s = jn s) (ho : ∀ s, s < P → jn s &&& oc = jn s &&& om) (hB : ∀ s f, s < P → p_bt (jn s) f = true → f < P) (Q : Option Int32 → q_H → Prop) (hQ : ∀ o a T, Q (some (p_lv (p_lf jn P i om l P 0))) (q_hp b (p_cm mB o a T))) : q_Wm (d + 32) 29 [vr 8, vi (nI i), vi (nI P), vi oc, vi (nI l)] (q_hp b (p_cm mB o0 a0 T0)) Q := by
  have loop : ∀ (r f : Nat) (y o a : Int32) (T : Nat → Int32) (o6 : Option q_V), f + r = P → y = nI f → (∀ o a T, Q (some (p_lv (p_lf jn P i om l r f))) (q_hp b (p_cm mB o a T))) → q_WP none (d + 32) 29 3 [some (vr 8), some (vi (nI i)), some (vi (nI P)), some (vi oc), some (vi (nI l)), some (vi y), o6] [] (q_hp b (p_cm mB o a T)) Q := by
    intro r
    induction r with
    | zero =>
      intro f y o a T o6 hf hy hQ
      have hf : f = P := by omega
      subst hf hy
      iterate 3 (refine q_wst rfl rfl rfl ?_)
      refine q_wif (fun _ => ?_) (fun c => absurd (nI_le (Nat.le_refl f) (by omega)) c)
      repeat (refine q_wst rfl rfl rfl ?_)
      exact q_wrt rfl rfl rfl (hQ o a T)
    | succ r ih =>
      intro f y o a T o6 hf hy hQ
      subst hy
      have hf3 : f < 30 := by omega
      unfold p_lf at hQ
      iterate 3 (refine q_wst rfl rfl rfl ?_)
      refine q_wif (fun c => absurd c (nI_ge (by omega) (by omega))) (fun _ => ?_)
      iterate 7 (refine q_wst rfl rfl rfl ?_)
      refine q_wrd i rfl (show i < 30 by omega) rfl (q_at11 b) (by decide) ?_
      iterate 5 (refine q_wst rfl rfl rfl ?_)
      refine q_wif (fun c => ?_) (fun c => ?_)
      · have c : (mB 11 i &&& oc) &&& p_on f = 0 := c
        rw [hj i hi, ho i hi, p_ts _ f hf3] at c
        rw [if_neg (fun z => by rw [c] at z; cases z.1)] at hQ
        iterate 2 (refine q_wst rfl rfl rfl ?_)
        exact ih (f + 1) _ o a T _ (by omega) (nI_1 f) hQ
      · have c : ¬ (mB 11 i &&& oc) &&& p_on f = 0 := c
        rw [hj i hi, ho i hi, p_ts _ f hf3] at c
        have c : p_bt (jn i &&& om) f = true := Bool.not_eq_false _ ▸ c
        iterate 10 (refine q_wst rfl rfl rfl ?_)
        refine q_wcl rfl rfl rfl ?_
        show q_Wm (d + 31) 27 [vr 8, vi (nI i + 1), vi (nI P), vi (oc &&& (p_on f ^^^ -1))] (q_hp b (p_cm mB o a T)) _
        rw [nI_1]
        refine t_mp b mB (oc &&& (p_on f ^^^ -1)) o a T P d (i + 1) hP (by omega) (fun s => jn s &&& (om &&& (p_on f ^^^ -1))) (fun s hs => ?_) (fun s g hs h => ?_) _ (fun a2 T2 => ?_)
        · rw [hj s hs, ← Int32.and_assoc, ho s hs, Int32.and_assoc]
        · rw [p_bt_and, Bool.and_eq_true] at h
          exact hB s g hs h.1
        · have hn := p_mp_le (fun s => jn s &&& (om &&& (p_on f ^^^ -1))) (P - (i + 1)) (i + 1) (fun _ => -1) 0
          show q_WP none (d + 32) 29 43 [some (vr 8), some (vi (nI i)), some (vi (nI P)), some (vi oc), some (vi (nI l)), some (vi (nI f)), some (vi (p_on f))] [vi (nI (p_mp (fun s => jn s &&& (om &&& (p_on f ^^^ -1))) (P - (i + 1)) (i + 1) (fun _ => -1) 0))] (q_hp b (p_cm mB _ a2 T2)) Q
          generalize p_mp (fun s => jn s &&& (om &&& (p_on f ^^^ -1))) (P - (i + 1)) (i + 1) (fun _ => -1) 0 = n at hn hQ ⊢
          have hl1 : nI l - 1 = nI (l - 1) := by
            obtain ⟨l1, rfl⟩ : ∃ l1, l = l1 + 1 := ⟨l - 1, by omega⟩
            exact nI_pred l1
          iterate 4 (refine q_wst rfl rfl rfl ?_)
          refine q_wif (fun c2 => ?_) (fun c2 => ?_)
          · have c2 : ¬ nI n = nI l - 1 := c2
            rw [hl1, nI_eq (by omega) (by omega)] at c2
            rw [if_neg (fun z => c2 (by omega))] at hQ
            iterate 2 (refine q_wst rfl rfl rfl ?_)
            exact ih (f + 1) _ _ a2 T2 _ (by omega) (nI_1 f) hQ
          · have c2 : nI n = nI l - 1 := Decidable.not_not.mp c2
            rw [hl1, nI_eq (by omega) (by omega)] at c2
            rw [if_pos ⟨c, by omega⟩] at hQ
            repeat (refine q_wst rfl rfl rfl ?_)
            exact q_wrt rfl rfl rfl (hQ _ a2 T2)
  unfold q_Wm
  iterate 2 (refine q_wst rfl rfl rfl ?_)
  exact loop P 0 _ o0 a0 T0 _ (by omega) rfl hQ
/-- how many pairs; each piece's other, -1: none -/
def p_N (m : q_M) (P : Nat) : Nat := p_mp (fun s => p_J m P s &&& (p_on P - 1)) P 0 (fun _ => -1) 0
def p_O (m : q_M) (P : Nat) : Nat → Int32 := p_ml (p_J m P) P P 0 (p_on P - 1) (p_N m P) (fun _ => -1)
theorem p_fm : ∀ P, P < 31 → ∀ f, f < P → p_bt (p_on P - 1) f = true := by decide +kernel
theorem p_J_om {m : q_M} {P : Nat} (hP : P ≤ 30) (s : Nat) : p_J m P s &&& -1 = p_J m P s &&& (p_on P - 1) := by
  refine p_bx _ _ (fun f hf => ?_)
  rw [p_bt_and, p_bt_and, p_bt_m1 f hf]
  cases h : p_bt (p_J m P s) f with
  | false => rfl
  | true => rw [p_fm P (by omega) f (p_J_bt hP h).1]
theorem p_N_le (m : q_M) (P : Nat) : p_N m P ≤ P := by
  have := p_mp_le (fun s => p_J m P s &&& (p_on P - 1)) P 0 (fun _ => -1) 0
  unfold p_N
  omega
def p_cP (m m' : q_M) (P : Nat) : Prop := (∀ c, c < 8 ∨ 12 < c → m' c = m c) ∧ m' 8 2 = nI (p_N m P) ∧ ∀ p, p < P → (m 100 p = 1 → m' 9 p = p_O m P p) ∧ (m 100 p ≠ 1 → m' 10 p = p_O m P p ∧ m' 9 p = -1)
theorem t_match (d : Nat) (b : Bool) (m : q_M) (P : Nat) (hP : P ≤ 30) (h8 : q_r8 P m) (hsl : m 0 5 = m 97 3) (Q : Option Int32 → q_H → Prop) (hQ : ∀ m', p_cP m m' P → Q none (q_hp b m')) : q_Wm (d + 33) 25 [vr 8, vr 1, vi (nI P), vi (m 0 5)] (q_hp b m) Q := by
  have hJ : ∀ s f, s < P → p_bt (p_J m P s) f = true → f < P := fun s f _ h => (p_J_bt hP h).1
  have loop : ∀ (r i l : Nat) (y z oc om o a : Int32) (T O : Nat → Int32) (mB : q_M) (o7 : Option q_V), i + r = P → y = nI i → z = nI l → l ≤ 30 → (∀ c, c < 8 ∨ 12 < c → mB c = m c) → mB 8 2 = nI (p_N m P) → (∀ s, s < P → mB 11 s = p_J m P s) → (∀ s, s < P → p_J m P s &&& oc = p_J m P s &&& om) → (∀ p, p < P → (m 100 p = 1 → mB 9 p = O p) ∧ (m 100 p ≠ 1 → mB 10 p = O p ∧ mB 9 p = -1)) → p_ml (p_J m P) P r i om l O = p_O m P → q_WP none (d + 33) 25 47 [some (vr 8), some (vr 1), some (vi (nI P)), some (vi (m 0 5)), some (vi oc), some (vi z), some (vi y), o7] [] (q_hp b (p_cm mB o a T)) Q := by
    have fin : ∀ (mB : q_M) (o a : Int32) (T O : Nat → Int32), (∀ c, c < 8 ∨ 12 < c → mB c = m c) → mB 8 2 = nI (p_N m P) → (∀ p, p < P → (m 100 p = 1 → mB 9 p = O p) ∧ (m 100 p ≠ 1 → mB 10 p = O p ∧ mB 9 p = -1)) → O = p_O m P → Q none (q_hp b (p_cm mB o a T)) := by
      intro mB o a T O hc h2 hO e
      subst e
      exact hQ _ ⟨fun c z => (p_cm_x _ _ _ _ c (by omega) (by omega)).trans (hc c z), h2, hO⟩
    intro r
    induction r with
    | zero =>
      intro i l y z oc om o a T O mB o7 hi hy hz hl hc h2 hj ho hO e
      have hi : i = P := by omega
      subst hi hy hz
      iterate 3 (refine q_wst rfl rfl rfl ?_)
      refine q_wif (fun _ => ?_) (fun c => absurd (nI_le (Nat.le_refl i) (by omega)) c)
      exact q_wrv rfl rfl rfl (fin mB o a T O hc h2 hO e)
    | succ r ih =>
      intro i l y z oc om o a T O mB o7 hi hy hz hl hc h2 hj ho hO e
      subst hy hz
      have hi3 : i < P := by omega
      unfold p_ml at e
      iterate 3 (refine q_wst rfl rfl rfl ?_)
      refine q_wif (fun c => absurd c (nI_ge (by omega) (by omega))) (fun _ => ?_)
      iterate 2 (refine q_wst rfl rfl rfl ?_)
      refine q_wif (fun c => ?_) (fun c => ?_)
      · have c : nI l ≤ nI 0 := c
        have c := (nI_leI (by omega) (by omega)).mp c
        rw [if_pos (by omega)] at e
        exact q_wrv rfl rfl rfl (fin mB o a T O hc h2 hO e)
      · have l0 : 0 < l := by
          rcases Nat.eq_zero_or_pos l with z | z
          · exact absurd (show nI l ≤ nI 0 from nI_le (by omega) (by omega)) c
          · exact z
        rw [if_neg (by omega)] at e
        iterate 5 (refine q_wst rfl rfl rfl ?_)
        refine q_wcl rfl rfl rfl ?_
        refine t_lf b mB oc om o a T P d i l hP hi3 l0 hl (p_J m P) hj ho hJ _ (fun o2 a2 T2 => ?_)
        have hsp := @p_lf_sp (p_J m P) P i om l
        cases hx : p_lf (p_J m P) P i om l P 0 with
        | none =>
          rw [hx] at e
          iterate 3 (refine q_wst rfl rfl rfl ?_)
          refine q_wif (fun _ => ?_) (fun c => absurd (show (-1 : Int32) < 0 by decide) c)
          iterate 2 (refine q_wst rfl rfl rfl ?_)
          exact ih (i + 1) l _ _ oc om o2 a2 T2 O mB _ (by omega) (nI_1 i) rfl hl hc h2 hj ho hO e
        | some f =>
          rw [hx] at e
          have hs := hsp P 0 hx
          have hfP : f < P := by omega
          rw [p_bt_and, Bool.and_eq_true] at hs
          have hk := p_J_bt hP hs.2.1
          iterate 3 (refine q_wst rfl rfl rfl ?_)
          refine q_wif (fun c => absurd c (nI_pos (by omega))) (fun _ => ?_)
          iterate 4 (refine q_wst rfl rfl rfl ?_)
          refine q_wwr i rfl (show i < 30 by omega) rfl (q_at9 b) (by decide) ?_
          iterate 4 (refine q_wst rfl rfl rfl ?_)
          refine q_wwr f rfl (show f < 30 by omega) rfl (q_at10 b) (by decide) ?_
          refine q_wh (h' := q_hp b (p_cm (q_up (q_up mB 9 i (nI f)) 10 f (nI i)) o2 a2 T2)) (congrArg (q_hp b) ?_) ?_
          · show q_up (q_up (p_cm mB o2 a2 T2) 9 i (nI f)) 10 f (nI i) = _
            rw [p_cm_c _ _ _ _ _ 9 i (Or.inl (by decide)) (by decide), p_cm_c _ _ _ _ _ 10 f (Or.inl (by decide)) (by decide)]
          · iterate 11 (refine q_wst rfl rfl rfl ?_)
            refine ih (i + 1) (l - 1) _ _ _ (om &&& (p_on f ^^^ -1)) o2 a2 T2 _ _ _ (by omega) (nI_1 i) ?_ (by omega) (fun c z => ?_) ?_ (fun s hs => ?_) (fun s hs => ?_) (fun p hp => ?_) e
            · show nI l + -1 = nI (l - 1)
              obtain ⟨l1, rfl⟩ : ∃ l1, l = l1 + 1 := ⟨l - 1, by omega⟩
              rw [← Int32.sub_eq_add_neg]
              exact nI_pred l1
            · rw [q_up_ne (by omega), q_up_ne (by omega)]
              exact hc c z
            · rw [q_up_ne (by decide), q_up_ne (by decide)]
              exact h2
            · rw [q_up_ne (by decide), q_up_ne (by decide)]
              exact hj s hs
            · show p_J m P s &&& (oc &&& (p_on f ^^^ -1)) = _
              rw [← Int32.and_assoc, ho s hs, Int32.and_assoc]
            · rw [q_up_ne (show 9 ≠ 10 by decide), q_up_eq, q_up_eq, q_up_ne (show 10 ≠ 9 by decide)]
              have hO := hO p hp
              unfold upd
              refine ⟨fun k => ?_, fun k => ?_⟩
              · by_cases e1 : p = f
                · subst e1
                  rw [hk.2.2.1] at k
                  exact absurd k (by decide)
                · rw [if_neg e1]
                  by_cases e2 : p = i
                  · rw [if_pos e2, if_pos e2]
                  · rw [if_neg e2, if_neg e2]
                    exact hO.1 k
              · have e2 : ¬ p = i := fun z => k (by rw [z]; exact hk.2.1)
                refine ⟨?_, by rw [if_neg e2]; exact (hO.2 k).2⟩
                by_cases e1 : p = f
                · rw [if_pos e1, if_pos e1]
                · rw [if_neg e1, if_neg e1, if_neg e2]
                  exact (hO.2 k).1
  unfold q_Wm
  iterate 4 (refine q_wst rfl rfl rfl ?_)
  refine q_wcl rfl rfl rfl ?_
  refine t_readJoins _ b m P hP h8 hsl _ (fun m1 hm1 hj1 => ?_)
  iterate 3 (refine q_wst rfl rfl rfl ?_)
  refine q_wcl rfl rfl rfl ?_
  refine t_fill _ b _ 9 30 (-1) (q_at9 b) (by decide) _ ?_
  iterate 3 (refine q_wst rfl rfl rfl ?_)
  refine q_wcl rfl rfl rfl ?_
  refine t_fill _ b _ 10 30 (-1) (q_at10 b) (by decide) _ ?_
  have f9 : ∀ c, c ≠ 9 → p_fl m1 9 30 (-1) c = m1 c := fun c hc => by
    funext j
    unfold p_fl
    rw [if_neg hc]
  have f10 : ∀ c, c ≠ 10 → p_fl (p_fl m1 9 30 (-1)) 10 30 (-1) c = p_fl m1 9 30 (-1) c := fun c hc => by
    funext j
    unfold p_fl
    rw [if_neg hc]
  have g9 : ∀ p, p < 30 → p_fl (p_fl m1 9 30 (-1)) 10 30 (-1) 9 p = -1 := fun p hp => by
    rw [f10 9 (by decide)]
    unfold p_fl
    rw [if_pos rfl, if_pos hp]
  have g10 : ∀ p, p < 30 → p_fl (p_fl m1 9 30 (-1)) 10 30 (-1) 10 p = -1 := fun p hp => by
    unfold p_fl
    rw [if_pos rfl, if_pos hp]
  have g11 : p_fl (p_fl m1 9 30 (-1)) 10 30 (-1) 11 = m1 11 := (f10 11 (by decide)).trans (f9 11 (by decide))
  have gc : ∀ c, c < 8 ∨ 12 < c → p_fl (p_fl m1 9 30 (-1)) 10 30 (-1) c = m c := fun c z => ((f10 c (by omega)).trans (f9 c (by omega))).trans (hm1 c (by omega))
  generalize p_fl (p_fl m1 9 30 (-1)) 10 30 (-1) = m2 at g9 g10 g11 gc ⊢
  iterate 7 (refine q_wst rfl rfl rfl ?_)
  refine q_wcl rfl rfl rfl ?_
  have key := t_mp b m2 (-1) (m2 8 5) (m2 8 6) (m2 12) P (d + 1) 0 hP (by omega) (fun s => p_J m P s &&& (p_on P - 1)) (fun s hs => by rw [g11, hj1 s hs, p_J_om hP s]) (fun s g hs h => by
    have h : p_bt (p_J m P s &&& (p_on P - 1)) g = true := h
    rw [p_bt_and, Bool.and_eq_true] at h
    exact hJ s g hs h.1)
  rw [p_cm_id] at key
  refine key _ (fun a T => ?_)
  iterate 1 (refine q_wst rfl rfl rfl ?_)
  refine q_wh (h' := q_hp b (p_cm (q_up m2 8 2 (nI (p_N m P))) (-1) a T)) (congrArg (q_hp b) ?_) ?_
  · exact p_cm_c m2 _ _ _ _ 8 2 (Or.inr (by decide)) (by decide)
  · iterate 5 (refine q_wst rfl rfl rfl ?_)
    refine loop P 0 (p_N m P) _ _ (-1) (p_on P - 1) _ a T (fun _ => -1) _ _ (by omega) rfl rfl (Nat.le_trans (p_N_le m P) hP) (fun c z => ?_) ?_ (fun s hs => ?_) (fun s hs => p_J_om hP s) (fun p hp => ?_) rfl
    · rw [q_up_ne (by omega)]
      exact gc c z
    · rw [q_up_eq]
      rfl
    · rw [q_up_ne (by decide), g11]
      exact hj1 s hs
    · rw [q_up_ne (by decide), q_up_ne (by decide)]
      exact ⟨fun _ => g9 p (by omega), fun _ => ⟨g10 p (by omega), g9 p (by omega)⟩⟩
theorem t_pairUp (d : Nat) (b : Bool) (m : q_M) (P : Nat) (hP : P ≤ 30) (h1 : m 0 1 = nI P) (h8 : q_r8 P m) (hsl : m 0 5 = m 97 3) (Q : Option Int32 → q_H → Prop) (hQ : ∀ m', p_cP m m' P → Q none (q_hp b m')) : q_Wm (d + 34) 75 [vr 0] (q_hp b m) Q := by
  unfold q_Wm
  iterate 8 (refine q_wst rfl rfl rfl ?_)
  refine q_wcl rfl rfl rfl ?_
  show q_Wm (d + 33) 25 [vr 8, vr 1, vi (m 0 1), vi (m 0 5)] (q_hp b m) _
  rw [h1]
  refine t_match d b m P hP h8 hsl _ (fun m' hm' => ?_)
  exact q_wrv rfl rfl rfl (hQ m' hm')
