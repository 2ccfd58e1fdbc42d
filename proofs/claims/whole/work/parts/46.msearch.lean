/-! pairing: the reference's search -/
def p_mm (P : Nat) (m : q_M) (a : Int32) (T : Nat → Int32) : q_M := fun c j => if c = 120 then (if j < P then T j else m 120 j) else if c = 97 then (if j = 29 then a else m 97 j) else m c j
theorem p_mm_a (P : Nat) (m : q_M) (a v : Int32) (T : Nat → Int32) : q_up (p_mm P m a T) 97 29 v = p_mm P m v T := by
  funext c j
  simp only [q_up, p_mm]
  by_cases c8 : c = 97 <;> by_cases c12 : c = 120 <;> by_cases j6 : j = 29 <;> simp [c8, c12, j6]
theorem p_mm_T (P : Nat) (m : q_M) (a v : Int32) (T : Nat → Int32) (f : Nat) (hf : f < P) : q_up (p_mm P m a T) 120 f v = p_mm P m a (upd T f v) := by
  funext c j
  unfold q_up p_mm upd
  by_cases c12 : c = 120
  · rw [if_pos c12, if_pos c12, if_pos c12]
    by_cases e : j = f
    · subst e
      rw [if_pos rfl, if_pos hf, if_pos rfl]
    · rw [if_neg e, if_neg e]
  · rw [if_neg c12, if_neg c12, if_neg c12]
theorem p_mm_c (P : Nat) (m : q_M) (a v : Int32) (T : Nat → Int32) (c f : Nat) (h8 : c ≠ 97 ∨ f ≠ 29) (h12 : c ≠ 120) : q_up (p_mm P m a T) c f v = p_mm P (q_up m c f v) a T := by
  funext x j
  simp only [q_up, p_mm]
  by_cases e12 : x = 120
  · subst e12
    have e : ¬ 120 = c := fun z => h12 z.symm
    simp [e]
  · by_cases e8 : x = 97
    · subst e8
      by_cases ec : 97 = c
      · subst ec
        by_cases ef : j = f
        · subst ef
          have a1 : ¬ j = 29 := by omega
          simp [a1]
        · simp [ef]
      · simp [ec]
    · simp [e12, e8]
theorem p_mm_12 (P : Nat) (m : q_M) (a : Int32) (T : Nat → Int32) (f : Nat) (hf : f < P) : p_mm P m a T 120 f = T f := by
  unfold p_mm
  rw [if_pos rfl, if_pos hf]
theorem p_mm_x (P : Nat) (m : q_M) (a : Int32) (T : Nat → Int32) (c : Nat) (h8 : c ≠ 97) (h12 : c ≠ 120) : p_mm P m a T c = m c := by
  funext j
  unfold p_mm
  rw [if_neg h12, if_neg h8]
theorem p_mm_97 (P : Nat) (m : q_M) (a : Int32) (T : Nat → Int32) (j : Nat) (hj : j ≠ 29) : p_mm P m a T 97 j = m 97 j := by
  unfold p_mm
  rw [if_neg (by decide), if_pos rfl, if_neg hj]
theorem p_mm_id (P : Nat) (m : q_M) : p_mm P m (m 97 29) (m 120) = m := by
  funext c j
  unfold p_mm
  by_cases e12 : c = 120
  · subst e12
    rw [if_pos rfl]
    split <;> rfl
  · by_cases e8 : c = 97
    · subst e8
      rw [if_neg e12, if_pos rfl]
      by_cases e : j = 29
      · subst e
        rfl
      · rw [if_neg e]
    · rw [if_neg e12, if_neg e8]
abbrev p_mq (Q : Option Int32 → q_H → Prop) (b : Bool) (P : Nat) (m : q_M) (z : p_z3) : Prop := Q (some (p_bi z.1)) (q_hp b (p_mm P m z.2.1 z.2.2))
theorem t_mtk (b : Bool) (m : q_M) (o : Int32) (P : Nat) (hP : P ≤ 30) (h4 : m 97 4 = nI P) (G : Nat → Int32) (hG : ∀ s, s < P → m 118 s &&& o = G s) (hB : ∀ s f, s < P → p_bt (G s) f = true → f < P) : ∀ (k d s : Nat) (a : Int32) (T : Nat → Int32) (Q : Option Int32 → q_H → Prop), p_ct a P ≤ k → s < P → p_okT P T → p_mq Q b P m (p_tk G k s a T) → q_Wm (d + k) 143 [vr 97, vi (nI s), vi o] (q_hp b (p_mm P m a T)) Q := by
  intro k
  induction k with
  | zero =>
    intro d s a T Q hk hs hT hQ
    have hs30 : s < 30 := by omega
    have hz := p_ct_z P (Nat.le_zero.mp hk)
    have loop : ∀ (r f : Nat) (y : Int32) (o4 : Option q_V), f + r = P → y = nI f → q_WP none d 143 2 [some (vr 97), some (vi (nI s)), some (vi o), some (vi y), o4] [] (q_hp b (p_mm P m a T)) Q := by
      intro r
      induction r with
      | zero =>
        intro f y o4 hf hy
        have hf : f = P := by omega
        subst hf hy
        iterate 4 (refine q_wst rfl rfl rfl ?_)
        refine q_wif (fun _ => ?_) (fun c => absurd (show m 97 4 ≤ nI f by rw [h4]; exact nI_le (Nat.le_refl f) (by omega)) c)
        repeat (refine q_wst rfl rfl rfl ?_)
        exact q_wrt rfl rfl rfl hQ
      | succ r ihr =>
        intro f y o4 hf hy
        subst hy
        have hf3 : f < 30 := by omega
        iterate 4 (refine q_wst rfl rfl rfl ?_)
        refine q_wif (fun c => absurd (show m 97 4 ≤ nI f from c) (by rw [h4]; exact nI_ge (by omega) (by omega))) (fun _ => ?_)
        iterate 3 (refine q_wst rfl rfl rfl ?_)
        refine q_wrd s rfl hs30 rfl (q_at118 b) (by decide) ?_
        iterate 12 (refine q_wst rfl rfl rfl ?_)
        refine q_wif (fun c => ?_) (fun c => ?_)
        · iterate 6 (refine q_wst rfl rfl rfl ?_)
          exact ihr (f + 1) _ _ (by omega) (nI_1 f)
        · have c : ¬ ((((m 118 s &&& o) &&& (a ^^^ -1)) >>> (nI f &&& 31)) <<< (31 &&& 31 : Int32)) = 0 := c
          rw [hG s hs, p_tm _ f hf3, p_bn, hz f (by omega), Bool.not_true, Bool.and_false] at c
          exact absurd rfl c
    unfold q_Wm
    iterate 2 (refine q_wst rfl rfl rfl ?_)
    exact loop P 0 _ _ (by omega) rfl
  | succ k ih =>
    intro d s a T Q hk hs hT hQ
    have hs30 : s < 30 := by omega
    have loop : ∀ (r f : Nat) (y a : Int32) (T : Nat → Int32) (o4 : Option q_V), f + r = 30 → f ≤ P → y = nI f → p_ct a P ≤ k + 1 → p_okT P T → p_mq Q b P m (p_lp (G s) (p_tk G k) s r f a T) → q_WP none (d + (k + 1)) 143 2 [some (vr 97), some (vi (nI s)), some (vi o), some (vi y), o4] [] (q_hp b (p_mm P m a T)) Q := by
      have out : ∀ (r : Nat) (a : Int32) (T : Nat → Int32) (o4 : Option q_V), p_mq Q b P m (p_lp (G s) (p_tk G k) s r P a T) → q_WP none (d + (k + 1)) 143 2 [some (vr 97), some (vi (nI s)), some (vi o), some (vi (nI P)), o4] [] (q_hp b (p_mm P m a T)) Q := by
        intro r a T o4 hQ
        rw [p_lp_all r P a T (fun g hg h => absurd (hB s g hs h) (by omega))] at hQ
        iterate 4 (refine q_wst rfl rfl rfl ?_)
        refine q_wif (fun _ => ?_) (fun c => absurd (show m 97 4 ≤ nI P by rw [h4]; exact nI_le (Nat.le_refl P) (by omega)) c)
        repeat (refine q_wst rfl rfl rfl ?_)
        exact q_wrt rfl rfl rfl hQ
      intro r
      induction r with
      | zero =>
        intro f y a T o4 hf hfP hy hk hT hQ
        have hf : f = P := by omega
        subst hf hy
        exact out 0 a T o4 hQ
      | succ r ihr =>
        intro f y a T o4 hf hfP hy hk hT hQ
        subst hy
        have hf3 : f < 30 := by omega
        rcases Nat.lt_or_ge f P with fP | fP
        · unfold p_lp at hQ
          iterate 4 (refine q_wst rfl rfl rfl ?_)
          refine q_wif (fun c => absurd (show m 97 4 ≤ nI f from c) (by rw [h4]; exact nI_ge (by omega) (by omega))) (fun _ => ?_)
          iterate 3 (refine q_wst rfl rfl rfl ?_)
          refine q_wrd s rfl hs30 rfl (q_at118 b) (by decide) ?_
          iterate 12 (refine q_wst rfl rfl rfl ?_)
          refine q_wif (fun c => ?_) (fun c => ?_)
          · have c : ((((m 118 s &&& o) &&& (a ^^^ -1)) >>> (nI f &&& 31)) <<< (31 &&& 31 : Int32)) = 0 := c
            rw [hG s hs, p_tm _ f hf3] at c
            rw [if_neg (by rw [c]; decide)] at hQ
            iterate 6 (refine q_wst rfl rfl rfl ?_)
            exact ihr (f + 1) _ a T _ (by omega) (by omega) (nI_1 f) hk hT hQ
          · have c : ¬ ((((m 118 s &&& o) &&& (a ^^^ -1)) >>> (nI f &&& 31)) <<< (31 &&& 31 : Int32)) = 0 := c
            rw [hG s hs, p_tm _ f hf3] at c
            have c : p_bt (G s &&& (a ^^^ -1)) f = true := Bool.not_eq_false _ ▸ c
            rw [if_pos c] at hQ
            have c9 : ¬ p_bt a f = true := by
              rw [p_bn, Bool.and_eq_true] at c
              intro z
              rw [z] at c
              cases c.2
            have hk1 : p_ct (a ||| p_on f) P ≤ k := by
              have := p_ct_st (p_sub_or a (p_on f)) c9 (by rw [p_bt_or, p_bt_on f f hf3, decide_eq_true rfl, Bool.or_true]) P fP
              omega
            iterate 13 (refine q_wst rfl rfl rfl ?_)
            refine q_wh (h' := q_hp b (p_mm P m (a ||| p_on f) T)) (congrArg (q_hp b) (p_mm_a P m a (a ||| p_on f) T)) ?_
            iterate 3 (refine q_wst rfl rfl rfl ?_)
            refine q_wrd f rfl hf3 rfl (q_at120 b) (by decide) ?_
            have e12 : p_mm P m (a ||| p_on f) T 120 f = T f := p_mm_12 _ _ _ _ _ fP
            iterate 1 (refine q_wst rfl rfl rfl ?_)
            refine q_wif (fun c2 => ?_) (fun c2 => ?_)
            · have c2 : p_mm P m (a ||| p_on f) T 120 f < 0 := c2
              rw [e12] at c2
              rw [if_pos c2] at hQ
              iterate 4 (refine q_wst rfl rfl rfl ?_)
              refine q_wwr f rfl hf3 rfl (q_at120 b) (by decide) ?_
              refine q_wh (h' := q_hp b (p_mm P m (a ||| p_on f) (upd T f (nI s)))) (congrArg (q_hp b) (p_mm_T P m _ _ T f fP)) ?_
              repeat (refine q_wst rfl rfl rfl ?_)
              exact q_wrt rfl rfl rfl hQ
            · have c2 : ¬ p_mm P m (a ||| p_on f) T 120 f < 0 := c2
              rw [e12] at c2
              rw [if_neg c2] at hQ
              rcases hT f with z | ⟨t, ht, e⟩
              · exact absurd z c2
              · rw [e, nI_clamp (by omega)] at hQ
                have hv := p_tk_inv hP (G := G) k t (a ||| p_on f) T ht hT
                iterate 4 (refine q_wst rfl rfl rfl ?_)
                refine q_wrd f rfl hf3 rfl (q_at120 b) (by decide) ?_
                iterate 1 (refine q_wst rfl rfl rfl ?_)
                refine q_wcl rfl rfl rfl ?_
                show q_Wm (d + k) 143 [vr 97, vi (p_mm P m (a ||| p_on f) T 120 f), vi o] (q_hp b (p_mm P m (a ||| p_on f) T)) _
                rw [e12, e]
                refine ih d t (a ||| p_on f) T _ hk1 ht hT ?_
                show q_WP none (d + (k + 1)) 143 77 [some (vr 97), some (vi (nI s)), some (vi o), some (vi (nI f)), some (vi 1)] [vi (p_bi (p_tk G k t (a ||| p_on f) T).1)] (q_hp b (p_mm P m (p_tk G k t (a ||| p_on f) T).2.1 (p_tk G k t (a ||| p_on f) T).2.2)) Q
                generalize p_tk G k t (a ||| p_on f) T = z at hQ hv ⊢
                obtain ⟨z1, z2, z3⟩ := z
                cases z1 with
                | true =>
                  rw [if_pos rfl] at hQ
                  iterate 1 (refine q_wst rfl rfl rfl ?_)
                  refine q_wif (fun c => absurd (show (1 : Int32) = 0 from c) (by decide)) (fun _ => ?_)
                  iterate 4 (refine q_wst rfl rfl rfl ?_)
                  refine q_wwr f rfl hf3 rfl (q_at120 b) (by decide) ?_
                  refine q_wh (h' := q_hp b (p_mm P m z2 (upd z3 f (nI s)))) (congrArg (q_hp b) (p_mm_T P m _ _ z3 f fP)) ?_
                  repeat (refine q_wst rfl rfl rfl ?_)
                  exact q_wrt rfl rfl rfl hQ
                | false =>
                  rw [if_neg Bool.false_ne_true] at hQ
                  iterate 1 (refine q_wst rfl rfl rfl ?_)
                  refine q_wif (fun _ => ?_) (fun c => absurd rfl c)
                  iterate 2 (refine q_wst rfl rfl rfl ?_)
                  exact ihr (f + 1) _ z2 z3 _ (by omega) (by omega) (nI_1 f) (Nat.le_trans (p_ct_mo (p_sub_tr (p_sub_or a _) hv.2) P) hk) hv.1 hQ
        · have hf : f = P := by omega
          subst hf
          exact out _ a T o4 hQ
    unfold q_Wm
    iterate 2 (refine q_wst rfl rfl rfl ?_)
    exact loop 30 0 _ a T _ rfl (by omega) rfl hk hT hQ
theorem t_mmp (b : Bool) (m : q_M) (o a0 : Int32) (T0 : Nat → Int32) (P d i : Nat) (hP : P ≤ 30) (hi : i ≤ P) (h4 : m 97 4 = nI P) (G : Nat → Int32) (hG : ∀ s, s < P → m 118 s &&& o = G s) (hB : ∀ s f, s < P → p_bt (G s) f = true → f < P) (Q : Option Int32 → q_H → Prop) (hQ : ∀ a T, Q (some (nI (p_mp G (P - i) i (fun _ => -1) 0))) (q_hp b (p_mm P m a T))) : q_Wm (d + 31) 142 [vr 97, vi (nI i), vi o] (q_hp b (p_mm P m a0 T0)) Q := by
  have loop : ∀ (r i n : Nat) (y z a : Int32) (T : Nat → Int32) (i0 : Option q_V), i + r = P → y = nI i → z = nI n → p_okT P T → (∀ a T1, Q (some (nI (p_mp G r i T n))) (q_hp b (p_mm P m a T1))) → q_WP none (d + 31) 142 28 [some (vr 97), i0, some (vi o), some (vi z), some (vi y)] [] (q_hp b (p_mm P m a T)) Q := by
    intro r
    induction r with
    | zero =>
      intro i n y z a T i0 hi hy hz hT hQ
      have hi : i = P := by omega
      subst hi hy hz
      iterate 4 (refine q_wst rfl rfl rfl ?_)
      refine q_wif (fun _ => ?_) (fun c => absurd (show m 97 4 ≤ nI i by rw [h4]; exact nI_le (Nat.le_refl i) (by omega)) c)
      repeat (refine q_wst rfl rfl rfl ?_)
      exact q_wrt rfl rfl rfl (hQ a T)
    | succ r ih =>
      intro i n y z a T i0 hi hy hz hT hQ
      subst hy hz
      have hi3 : i < P := by omega
      unfold p_mp at hQ
      iterate 4 (refine q_wst rfl rfl rfl ?_)
      refine q_wif (fun c => absurd (show m 97 4 ≤ nI i from c) (by rw [h4]; exact nI_ge hi3 (by omega))) (fun _ => ?_)
      iterate 3 (refine q_wst rfl rfl rfl ?_)
      refine q_wh (h' := q_hp b (p_mm P m 0 T)) (congrArg (q_hp b) (p_mm_a P m a 0 T)) ?_
      iterate 4 (refine q_wst rfl rfl rfl ?_)
      refine q_wrd i rfl (show i < 30 by omega) rfl (q_at118 b) (by decide) ?_
      iterate 1 (refine q_wst rfl rfl rfl ?_)
      refine q_wif (fun c => ?_) (fun c => ?_)
      · have c : m 118 i = 0 := c
        have c : G i = 0 := by
          rw [← hG i hi3, c]
          exact Int32.zero_and
        rw [p_tk_all (fun g hg => by rw [c, p_bt_0] at hg; cases hg) 30, if_neg Bool.false_ne_true] at hQ
        iterate 5 (refine q_wst rfl rfl rfl ?_)
        exact ih (i + 1) n _ _ 0 T _ (by omega) (nI_1 i) (Int32.add_zero (nI n)) hT hQ
      · have hv := p_tk_inv hP (G := G) 30 i 0 T hi3 hT
        iterate 3 (refine q_wst rfl rfl rfl ?_)
        refine q_wcl rfl rfl rfl ?_
        refine t_mtk b m o P hP h4 G hG hB 30 d i 0 T _ (Nat.le_trans (p_ct_le 0 P) hP) hi3 hT ?_
        show q_WP none (d + 31) 142 60 [some (vr 97), i0, some (vi o), some (vi (nI n)), some (vi (nI i))] [vi (p_bi (p_tk G 30 i 0 T).1), vi (nI n)] (q_hp b (p_mm P m (p_tk G 30 i 0 T).2.1 (p_tk G 30 i 0 T).2.2)) Q
        generalize p_tk G 30 i 0 T = z at hQ hv ⊢
        obtain ⟨z1, z2, z3⟩ := z
        cases z1 with
        | true =>
          rw [if_pos rfl] at hQ
          iterate 1 (refine q_wst rfl rfl rfl ?_)
          refine q_wif (fun c => absurd (show (1 : Int32) = 0 from c) (by decide)) (fun _ => ?_)
          iterate 6 (refine q_wst rfl rfl rfl ?_)
          exact ih (i + 1) (n + 1) _ _ z2 z3 _ (by omega) (nI_1 i) (nI_1 n) hv.1 hQ
        | false =>
          rw [if_neg Bool.false_ne_true] at hQ
          iterate 1 (refine q_wst rfl rfl rfl ?_)
          refine q_wif (fun _ => ?_) (fun c => absurd rfl c)
          iterate 5 (refine q_wst rfl rfl rfl ?_)
          exact ih (i + 1) n _ _ z2 z3 _ (by omega) (nI_1 i) (Int32.add_zero (nI n)) hv.1 hQ
  have fill : ∀ (r j : Nat) (y : Int32) (T : Nat → Int32) (o4 : Option q_V), j + r = P → y = nI j → (∀ f, f < j → T f = -1) → q_WP none (d + 31) 142 2 [some (vr 97), some (vi (nI i)), some (vi o), some (vi y), o4] [] (q_hp b (p_mm P m a0 T)) Q := by
    intro r
    induction r with
    | zero =>
      intro j y T o4 hj hy hT
      have hj : j = P := by omega
      subst hj hy
      iterate 4 (refine q_wst rfl rfl rfl ?_)
      refine q_wif (fun _ => ?_) (fun c => absurd (show m 97 4 ≤ nI j by rw [h4]; exact nI_le (Nat.le_refl j) (by omega)) c)
      refine q_wh (h' := q_hp b (p_mm j m a0 (fun _ => -1))) (congrArg (q_hp b) ?_) ?_
      · funext c x
        unfold p_mm
        by_cases e : c = 120
        · rw [if_pos e, if_pos e]
          by_cases e2 : x < j
          · rw [if_pos e2, if_pos e2, hT x e2]
          · rw [if_neg e2, if_neg e2]
        · rw [if_neg e, if_neg e]
      · iterate 4 (refine q_wst rfl rfl rfl ?_)
        exact loop (j - i) i 0 _ _ a0 (fun _ => -1) _ (by omega) rfl rfl (p_okT0 j) hQ
    | succ r ih =>
      intro j y T o4 hj hy hT
      subst hy
      iterate 4 (refine q_wst rfl rfl rfl ?_)
      refine q_wif (fun c => absurd (show m 97 4 ≤ nI j from c) (by rw [h4]; exact nI_ge (by omega) (by omega))) (fun _ => ?_)
      iterate 4 (refine q_wst rfl rfl rfl ?_)
      refine q_wwr j rfl (show j < 30 by omega) rfl (q_at120 b) (by decide) ?_
      refine q_wh (h' := q_hp b (p_mm P m a0 (upd T j (-1)))) (congrArg (q_hp b) (p_mm_T P m _ _ T j (by omega))) ?_
      iterate 2 (refine q_wst rfl rfl rfl ?_)
      refine ih (j + 1) _ _ _ (by omega) (nI_1 j) (fun f hf => ?_)
      unfold upd
      by_cases e : f = j
      · rw [if_pos e]
      · rw [if_neg e]
        exact hT f (by omega)
  unfold q_Wm
  iterate 2 (refine q_wst rfl rfl rfl ?_)
  exact fill P 0 _ T0 _ (by omega) rfl (fun f hf => absurd hf (by omega))
