/-! pairing: the class's search -/
theorem q_wh {X : q_X} {d k pc : Nat} {pl : q_L} {st : List q_V} {h h' : q_H} {Q : Option Int32 → q_H → Prop} (e : h = h') (g : q_WP X d k pc pl st h' Q) : q_WP X d k pc pl st h Q := by
  rw [e]
  exact g
def p_bi (b : Bool) : Int32 := if b = true then 1 else 0
def p_cm (m : q_M) (o a : Int32) (T : Nat → Int32) : q_M := fun c j => if c = 12 then (if j < 30 then T j else m 12 j) else if c = 8 then (if j = 5 then o else if j = 6 then a else m 8 j) else m c j
theorem p_cm_a (m : q_M) (o a v : Int32) (T : Nat → Int32) : q_up (p_cm m o a T) 8 6 v = p_cm m o v T := by
  funext c j
  simp only [q_up, p_cm]
  by_cases c8 : c = 8 <;> by_cases c12 : c = 12 <;> by_cases j5 : j = 5 <;> by_cases j6 : j = 6 <;> simp [c8, c12, j5, j6]
theorem p_cm_o (m : q_M) (o a v : Int32) (T : Nat → Int32) : q_up (p_cm m o a T) 8 5 v = p_cm m v a T := by
  funext c j
  simp only [q_up, p_cm]
  by_cases c8 : c = 8 <;> by_cases c12 : c = 12 <;> by_cases j5 : j = 5 <;> by_cases j6 : j = 6 <;> simp [c8, c12, j5, j6]
theorem p_cm_T (m : q_M) (o a v : Int32) (T : Nat → Int32) (f : Nat) (hf : f < 30) : q_up (p_cm m o a T) 12 f v = p_cm m o a (upd T f v) := by
  funext c j
  unfold q_up p_cm upd
  by_cases c12 : c = 12
  · rw [if_pos c12, if_pos c12, if_pos c12]
    by_cases e : j = f
    · subst e
      rw [if_pos rfl, if_pos hf, if_pos rfl]
    · rw [if_neg e, if_neg e]
  · rw [if_neg c12, if_neg c12, if_neg c12]
theorem p_cm_c (m : q_M) (o a v : Int32) (T : Nat → Int32) (c f : Nat) (h8 : c ≠ 8 ∨ (f ≠ 5 ∧ f ≠ 6)) (h12 : c ≠ 12) : q_up (p_cm m o a T) c f v = p_cm (q_up m c f v) o a T := by
  funext x j
  simp only [q_up, p_cm]
  by_cases e12 : x = 12
  · subst e12
    have e : ¬ 12 = c := fun z => h12 z.symm
    simp [e]
  · by_cases e8 : x = 8
    · subst e8
      by_cases ec : 8 = c
      · subst ec
        by_cases ef : j = f
        · subst ef
          have a1 : ¬ j = 5 := by omega
          have a2 : ¬ j = 6 := by omega
          simp [a1, a2]
        · simp [ef]
      · simp [ec]
    · simp [e12, e8]
theorem p_cm_id (m : q_M) : p_cm m (m 8 5) (m 8 6) (m 12) = m := by
  funext c j
  unfold p_cm
  by_cases e12 : c = 12
  · subst e12
    rw [if_pos rfl]
    split <;> rfl
  · by_cases e8 : c = 8
    · subst e8
      rw [if_neg e12, if_pos rfl]
      by_cases e : j = 5
      · subst e
        rfl
      · rw [if_neg e]
        by_cases e : j = 6
        · subst e
          rfl
        · rw [if_neg e]
    · rw [if_neg e12, if_neg e8]
theorem p_cm_12 (m : q_M) (o a : Int32) (T : Nat → Int32) (f : Nat) (hf : f < 30) : p_cm m o a T 12 f = T f := by
  unfold p_cm
  rw [if_pos rfl, if_pos hf]
theorem p_cm_x (m : q_M) (o a : Int32) (T : Nat → Int32) (c : Nat) (h8 : c ≠ 8) (h12 : c ≠ 12) : p_cm m o a T c = m c := by
  funext j
  unfold p_cm
  rw [if_neg h12, if_neg h8]
def p_fl (m : q_M) (r n : Nat) (v : Int32) : q_M := fun c j => if c = r then (if j < n then v else m c j) else m c j
theorem p_cm_fl (m : q_M) (o a v : Int32) (T : Nat → Int32) : p_fl (p_cm m o a T) 12 30 v = p_cm m o a (fun _ => v) := by
  funext c j
  unfold p_fl p_cm
  by_cases c12 : c = 12
  · rw [if_pos c12, if_pos c12, if_pos c12]
    by_cases e : j < 30
    · rw [if_pos e, if_pos e]
    · rw [if_neg e, if_neg e, if_neg e]
  · rw [if_neg c12, if_neg c12, if_neg c12]
theorem q_wln {X : q_X} {d k pc : Nat} {pl : q_L} {st : List q_V} {h : q_H} {Q : Option Int32 → q_H → Prop} {a b9 r n : Nat} {cc : Int32} (hc : q_cd k pc = some (.arraylength, a, b9, cc)) (hr : h.1[r]? = some (.inr (.inl (0, n)))) (g : q_WP X d k (pc + 1) pl (vi (nI n) :: st) h Q) : q_WP X d k pc pl (vr r :: st) h Q := by
  refine q_wst hc rfl ?_ g
  show q_aln X pc pl (vr r :: st) h = _
  unfold q_aln
  try dsimp only
  rw [hr]
  rfl
theorem t_fill (d : Nat) (b : Bool) (m : q_M) (r n : Nat) (v : Int32) (hr : (q_Sb b)[r]? = some (.inr (.inl (0, n)))) (hn : n < 2 ^ 30) (Q : Option Int32 → q_H → Prop) (hQ : Q none (q_hp b (p_fl m r n v))) : q_Wm d 181 [vr r, vi v] (q_hp b m) Q := by
  have loop : ∀ (k i : Nat) (y : Int32) (m1 : q_M), i + k = n → y = nI i → m1 = p_fl m r i v → q_WP none d 181 5 [some (vr r), some (vi v), some (vi y), some (vi (nI n))] [] (q_hp b m1) Q := by
    intro k
    induction k with
    | zero =>
      intro i y m1 hi hy e
      have hi : i = n := by omega
      subst hi hy e
      iterate 3 (refine q_wst rfl rfl rfl ?_)
      refine q_wif (fun _ => ?_) (fun c => absurd (nI_le (Nat.le_refl i) (by omega)) c)
      exact q_wrv rfl rfl rfl hQ
    | succ k ih =>
      intro i y m1 hi hy e
      subst hy e
      iterate 3 (refine q_wst rfl rfl rfl ?_)
      refine q_wif (fun c => absurd c (nI_ge (by omega) (by omega))) (fun _ => ?_)
      iterate 3 (refine q_wst rfl rfl rfl ?_)
      refine q_wwr i rfl (show i < n by omega) rfl hr (by omega) ?_
      iterate 2 (refine q_wst rfl rfl rfl ?_)
      refine ih (i + 1) _ _ (by omega) (nI_1 i) ?_
      show q_up (p_fl m r i v) r i v = p_fl m r (i + 1) v
      funext c j
      unfold q_up p_fl
      by_cases cr : c = r
      · rw [if_pos cr, if_pos cr, if_pos cr]
        by_cases e : j = i
        · rw [if_pos e, if_pos (by omega)]
        · rw [if_neg e]
          by_cases e2 : j < i
          · rw [if_pos e2, if_pos (by omega)]
          · rw [if_neg e2, if_neg (by omega)]
      · rw [if_neg cr, if_neg cr, if_neg cr]
  unfold q_Wm
  iterate 3 (refine q_wst rfl rfl rfl ?_)
  refine q_wln rfl (by exact hr) ?_
  iterate 1 (refine q_wst rfl rfl rfl ?_)
  refine loop n 0 _ m (by omega) rfl ?_
  funext c j
  unfold p_fl
  by_cases cr : c = r
  · rw [if_pos cr, if_neg (by omega)]
  · rw [if_neg cr]
abbrev p_cq (Q : Option Int32 → q_H → Prop) (b : Bool) (m : q_M) (o : Int32) (z : p_z3) : Prop := Q (some (p_bi z.1)) (q_hp b (p_cm m o z.2.1 z.2.2))
theorem t_tk (b : Bool) (m : q_M) (o : Int32) (P : Nat) (hP : P ≤ 30) (G : Nat → Int32) (hG : ∀ s, s < P → m 11 s &&& o = G s) (hB : ∀ s f, s < P → p_bt (G s) f = true → f < P) : ∀ (k d lv s : Nat) (a : Int32) (T : Nat → Int32) (Q : Option Int32 → q_H → Prop), lv + k = 30 → s < P → p_okT P T → p_cq Q b m o (p_tk G k s a T) → q_Wm (d + k) 28 [vr 8, vi (nI s), vi (nI lv)] (q_hp b (p_cm m o a T)) Q := by
  intro k
  induction k with
  | zero =>
    intro d lv s a T Q hl hs hT hQ
    have hl : lv = 30 := by omega
    subst hl
    unfold q_Wm
    repeat (refine q_wst rfl rfl rfl ?_)
    exact q_wrt rfl rfl rfl hQ
  | succ k ih =>
    intro d lv s a T Q hl hs hT hQ
    have hs30 : s < 30 := by omega
    have loop : ∀ (r f : Nat) (y a : Int32) (T : Nat → Int32) (o4 o5 : Option q_V), f + r = 30 → y = nI f → p_okT P T → p_cq Q b m o (p_lp (G s) (p_tk G k) s r f a T) → q_WP none (d + (k + 1)) 28 10 [some (vr 8), some (vi (nI s)), some (vi (nI lv)), some (vi y), o4, o5] [] (q_hp b (p_cm m o a T)) Q := by
      intro r
      induction r with
      | zero =>
        intro f y a T o4 o5 hf hy hT hQ
        have hf : f = 30 := by omega
        subst hf hy
        repeat (refine q_wst rfl rfl rfl ?_)
        exact q_wrt rfl rfl rfl hQ
      | succ r ihr =>
        intro f y a T o4 o5 hf hy hT hQ
        subst hy
        have hf3 : f < 30 := by omega
        unfold p_lp at hQ
        iterate 3 (refine q_wst rfl rfl rfl ?_)
        refine q_wif (fun c => absurd c (nI_ge (b := 30) hf3 (by omega))) (fun _ => ?_)
        iterate 7 (refine q_wst rfl rfl rfl ?_)
        refine q_wrd s rfl hs30 rfl (q_at11 b) (by decide) ?_
        iterate 11 (refine q_wst rfl rfl rfl ?_)
        refine q_wif (fun c => ?_) (fun c => ?_)
        · have c : ¬ ((m 11 s &&& o) &&& (a ^^^ -1)) &&& p_on f = 0 := c
          rw [hG s hs, p_ts _ f hf3] at c
          have c : p_bt (G s &&& (a ^^^ -1)) f = true := Bool.not_eq_false _ ▸ c
          rw [if_pos c] at hQ
          have fP : f < P := by
            rw [p_bn, Bool.and_eq_true] at c
            exact hB s f hs c.1
          iterate 6 (refine q_wst rfl rfl rfl ?_)
          refine q_wh (h' := q_hp b (p_cm m o (a ||| p_on f) T)) (congrArg (q_hp b) (p_cm_a m o a (a ||| p_on f) T)) ?_
          iterate 3 (refine q_wst rfl rfl rfl ?_)
          refine q_wrd f rfl hf3 rfl (q_at12 b) (by decide) ?_
          have e12 : p_cm m o (a ||| p_on f) T 12 f = T f := p_cm_12 _ _ _ _ _ hf3
          iterate 3 (refine q_wst rfl rfl rfl ?_)
          refine q_wif (fun c2 => ?_) (fun c2 => ?_)
          · have c2 : p_cm m o (a ||| p_on f) T 12 f < 0 := c2
            rw [e12] at c2
            rw [if_pos c2] at hQ
            iterate 4 (refine q_wst rfl rfl rfl ?_)
            refine q_wwr f rfl hf3 rfl (q_at12 b) (by decide) ?_
            refine q_wh (h' := q_hp b (p_cm m o (a ||| p_on f) (upd T f (nI s)))) (congrArg (q_hp b) (p_cm_T m o _ _ T f hf3)) ?_
            repeat (refine q_wst rfl rfl rfl ?_)
            exact q_wrt rfl rfl rfl hQ
          · have c2 : ¬ p_cm m o (a ||| p_on f) T 12 f < 0 := c2
            rw [e12] at c2
            rw [if_neg c2] at hQ
            rcases hT f with z | ⟨t, ht, e⟩
            · exact absurd z c2
            · rw [e, nI_clamp (by omega)] at hQ
              have hv := p_tk_inv hP (G := G) k t (a ||| p_on f) T ht hT
              iterate 5 (refine q_wst rfl rfl rfl ?_)
              refine q_wcl rfl rfl rfl ?_
              show q_Wm (d + k) 28 [vr 8, vi (p_cm m o (a ||| p_on f) T 12 f), vi (nI lv + 1)] (q_hp b (p_cm m o (a ||| p_on f) T)) _
              rw [e12, e, nI_1]
              refine ih d (lv + 1) t (a ||| p_on f) T _ (by omega) ht hT ?_
              show q_WP none (d + (k + 1)) 28 81 [some (vr 8), some (vi (nI s)), some (vi (nI lv)), some (vi (nI f)), some (vi (p_on f)), some (vi (p_cm m o (a ||| p_on f) T 12 f))] [vi (p_bi (p_tk G k t (a ||| p_on f) T).1)] (q_hp b (p_cm m o (p_tk G k t (a ||| p_on f) T).2.1 (p_tk G k t (a ||| p_on f) T).2.2)) Q
              generalize p_tk G k t (a ||| p_on f) T = z at hQ hv ⊢
              obtain ⟨z1, z2, z3⟩ := z
              cases z1 with
              | true =>
                rw [if_pos rfl] at hQ
                iterate 1 (refine q_wst rfl rfl rfl ?_)
                refine q_wif (fun c => absurd (show (1 : Int32) = 0 from c) (by decide)) (fun _ => ?_)
                iterate 4 (refine q_wst rfl rfl rfl ?_)
                refine q_wwr f rfl hf3 rfl (q_at12 b) (by decide) ?_
                refine q_wh (h' := q_hp b (p_cm m o z2 (upd z3 f (nI s)))) (congrArg (q_hp b) (p_cm_T m o _ _ z3 f hf3)) ?_
                repeat (refine q_wst rfl rfl rfl ?_)
                exact q_wrt rfl rfl rfl hQ
              | false =>
                rw [if_neg Bool.false_ne_true] at hQ
                iterate 1 (refine q_wst rfl rfl rfl ?_)
                refine q_wif (fun _ => ?_) (fun c => absurd rfl c)
                iterate 2 (refine q_wst rfl rfl rfl ?_)
                exact ihr (f + 1) _ z2 z3 _ _ (by omega) (nI_1 f) hv.1 hQ
        · have c : ¬ ¬ ((m 11 s &&& o) &&& (a ^^^ -1)) &&& p_on f = 0 := c
          rw [hG s hs, Decidable.not_not, p_ts _ f hf3] at c
          rw [if_neg (by rw [c]; decide)] at hQ
          iterate 3 (refine q_wst rfl rfl rfl ?_)
          exact ihr (f + 1) _ a T _ _ (by omega) (nI_1 f) hT hQ
    unfold q_Wm
    iterate 3 (refine q_wst rfl rfl rfl ?_)
    refine q_wif (fun _ => ?_) (fun c => absurd (nI_lt (b := 30) (by omega) (by omega)) c)
    iterate 2 (refine q_wst rfl rfl rfl ?_)
    exact loop 30 0 _ a T _ _ rfl rfl hT hQ
theorem p_okT0 (P : Nat) : p_okT P (fun _ => -1) := fun _ => Or.inl (show (-1 : Int32) < 0 by decide)
theorem t_mp (b : Bool) (m : q_M) (o o0 a0 : Int32) (T0 : Nat → Int32) (P d i : Nat) (hP : P ≤ 30) (hi : i ≤ P) (G : Nat → Int32) (hG : ∀ s, s < P → m 11 s &&& o = G s) (hB : ∀ s f, s < P → p_bt (G s) f = true → f < P) (Q : Option Int32 → q_H → Prop) (hQ : ∀ a T, Q (some (nI (p_mp G (P - i) i (fun _ => -1) 0))) (q_hp b (p_cm m o a T))) : q_Wm (d + 31) 27 [vr 8, vi (nI i), vi (nI P), vi o] (q_hp b (p_cm m o0 a0 T0)) Q := by
  have loop : ∀ (r i n : Nat) (y z a : Int32) (T : Nat → Int32) (i0 : Option q_V), i + r = P → y = nI i → z = nI n → p_okT P T → (∀ a T1, Q (some (nI (p_mp G r i T n))) (q_hp b (p_cm m o a T1))) → q_WP none (d + 31) 27 19 [some (vr 8), i0, some (vi (nI P)), some (vi o), some (vi z), some (vi y)] [] (q_hp b (p_cm m o a T)) Q := by
    intro r
    induction r with
    | zero =>
      intro i n y z a T i0 hi hy hz hT hQ2
      have hi : i = P := by omega
      subst hi hy hz
      iterate 3 (refine q_wst rfl rfl rfl ?_)
      refine q_wif (fun _ => ?_) (fun c => absurd (nI_le (Nat.le_refl i) (by omega)) c)
      repeat (refine q_wst rfl rfl rfl ?_)
      exact q_wrt rfl rfl rfl (hQ2 a T)
    | succ r ih =>
      intro i n y z a T i0 hi hy hz hT hQ
      subst hy hz
      have hi3 : i < P := by omega
      unfold p_mp at hQ
      iterate 3 (refine q_wst rfl rfl rfl ?_)
      refine q_wif (fun c => absurd c (nI_ge hi3 (by omega))) (fun _ => ?_)
      iterate 3 (refine q_wst rfl rfl rfl ?_)
      refine q_wh (h' := q_hp b (p_cm m o 0 T)) (congrArg (q_hp b) (p_cm_a m o a 0 T)) ?_
      iterate 3 (refine q_wst rfl rfl rfl ?_)
      refine q_wrd i rfl (show i < 30 by omega) rfl (q_at11 b) (by decide) ?_
      iterate 3 (refine q_wst rfl rfl rfl ?_)
      refine q_wif (fun c => ?_) (fun c => ?_)
      · have c : m 11 i &&& o = 0 := c
        rw [hG i hi3] at c
        rw [p_tk_all (fun g hg => by rw [c, p_bt_0] at hg; cases hg) 30, if_neg Bool.false_ne_true] at hQ
        iterate 2 (refine q_wst rfl rfl rfl ?_)
        exact ih (i + 1) n _ _ 0 T _ (by omega) (nI_1 i) rfl hT hQ
      · have hv := p_tk_inv hP (G := G) 30 i 0 T hi3 hT
        iterate 3 (refine q_wst rfl rfl rfl ?_)
        refine q_wcl rfl rfl rfl ?_
        refine t_tk b m o P hP G hG hB 30 d 0 i 0 T _ rfl hi3 hT ?_
        show q_WP none (d + 31) 27 49 [some (vr 8), i0, some (vi (nI P)), some (vi o), some (vi (nI n)), some (vi (nI i))] [vi (p_bi (p_tk G 30 i 0 T).1)] (q_hp b (p_cm m o (p_tk G 30 i 0 T).2.1 (p_tk G 30 i 0 T).2.2)) Q
        generalize p_tk G 30 i 0 T = z at hQ hv ⊢
        obtain ⟨z1, z2, z3⟩ := z
        cases z1 with
        | true =>
          rw [if_pos rfl] at hQ
          iterate 1 (refine q_wst rfl rfl rfl ?_)
          refine q_wif (fun c => absurd (show (1 : Int32) = 0 from c) (by decide)) (fun _ => ?_)
          iterate 3 (refine q_wst rfl rfl rfl ?_)
          exact ih (i + 1) (n + 1) _ _ z2 z3 _ (by omega) (nI_1 i) (nI_1 n) hv.1 hQ
        | false =>
          rw [if_neg Bool.false_ne_true] at hQ
          iterate 1 (refine q_wst rfl rfl rfl ?_)
          refine q_wif (fun _ => ?_) (fun c => absurd rfl c)
          iterate 2 (refine q_wst rfl rfl rfl ?_)
          exact ih (i + 1) n _ _ z2 z3 _ (by omega) (nI_1 i) rfl hv.1 hQ
  unfold q_Wm
  iterate 3 (refine q_wst rfl rfl rfl ?_)
  refine q_wcl rfl rfl rfl ?_
  refine t_fill _ b _ 12 30 (-1) (q_at12 b) (by decide) _ ?_
  refine q_wh (h' := q_hp b (p_cm m o0 a0 (fun _ => -1))) (congrArg (q_hp b) (p_cm_fl m o0 a0 _ T0)) ?_
  iterate 3 (refine q_wst rfl rfl rfl ?_)
  refine q_wh (h' := q_hp b (p_cm m o a0 (fun _ => -1))) (congrArg (q_hp b) (p_cm_o m o0 a0 o (fun _ => -1))) ?_
  iterate 4 (refine q_wst rfl rfl rfl ?_)
  exact loop (P - i) i 0 _ _ a0 (fun _ => -1) _ (by omega) rfl rfl (p_okT0 P) hQ
