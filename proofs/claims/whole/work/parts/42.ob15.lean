/-! obligation: fewest -/
theorem q_at127 : (q_Sb true)[127]? = some (.inr (.inl (0, 20001))) := rfl
theorem p_Ft (w : Nat → Nat) : ∀ v u, u ≤ v → q_Ft w v u = q_F w u
  | 0, u, h => by
    have : u = 0 := by omega
    subst this
    rfl
  | v + 1, u, h => by
    by_cases e : u = v + 1
    · subst e
      rfl
    · show (if u = v + 1 then _ else q_Ft w v u) = _
      rw [if_neg e]
      exact p_Ft w v u (by omega)
theorem p_Fm_ext {w : Nat → Nat} {f g : Nat → Int32} {v : Nat} (h : ∀ u, u < v → f u = g u) (hw : ∀ i, 1 ≤ i → i ≤ 5 → 0 < w i) : ∀ i, i ≤ 5 → q_Fm w f v i = q_Fm w g v i
  | 0, _ => rfl
  | i + 1, hi => by
    have ih := p_Fm_ext h hw i (by omega)
    have w1 := hw (i + 1) (by omega) hi
    unfold q_Fm
    try dsimp only
    rw [ih]
    by_cases c : w (i + 1) ≤ v
    · rw [h (v - w (i + 1)) (by omega)]
    · rw [if_neg (fun z => c z.1), if_neg (fun z => c z.1)]
theorem p_F_s {w : Nat → Nat} (hw : ∀ i, 1 ≤ i → i ≤ 5 → 0 < w i) (v : Nat) : q_F w (v + 1) = q_Fm w (q_F w) (v + 1) 5 := by
  show (if v + 1 = v + 1 then q_Fm w (q_Ft w v) (v + 1) 5 else _) = _
  rw [if_pos rfl]
  exact p_Fm_ext (fun u hu => p_Ft w v u (by omega)) hw 5 (Nat.le_refl 5)
def p_ok (x : Int32) (v : Nat) : Prop := x < 0 ∨ ∃ n, n ≤ v ∧ x = nI n
/-- one width -/
def p_st (f b : Int32) : Int32 := if ¬ f < 0 ∧ (b < 0 ∨ f + 1 < b) then f + 1 else b
theorem p_Fm_1 {w : Nat → Nat} {f : Nat → Int32} {v i : Nat} (h : w (i + 1) ≤ v) : q_Fm w f v (i + 1) = p_st (f (v - w (i + 1))) (q_Fm w f v i) := by
  show (if w (i + 1) ≤ v ∧ ¬ f (v - w (i + 1)) < 0 ∧ (q_Fm w f v i < 0 ∨ f (v - w (i + 1)) + 1 < q_Fm w f v i) then _ else _) = _
  unfold p_st
  by_cases c : ¬ f (v - w (i + 1)) < 0 ∧ (q_Fm w f v i < 0 ∨ f (v - w (i + 1)) + 1 < q_Fm w f v i)
  · rw [if_pos c, if_pos ⟨h, c⟩]
  · rw [if_neg c, if_neg (fun z => c z.2)]
theorem p_Fm_0 {w : Nat → Nat} {f : Nat → Int32} {v i : Nat} (h : ¬ w (i + 1) ≤ v) : q_Fm w f v (i + 1) = q_Fm w f v i := by
  show (if w (i + 1) ≤ v ∧ ¬ f (v - w (i + 1)) < 0 ∧ (q_Fm w f v i < 0 ∨ f (v - w (i + 1)) + 1 < q_Fm w f v i) then _ else _) = _
  rw [if_neg (fun z => h z.1)]
theorem p_st_ok {f b : Int32} {v u : Nat} (hf : p_ok f u) (hb : p_ok b v) (hu : u < v) : p_ok (p_st f b) v := by
  unfold p_st
  split
  · rename_i c
    rcases hf with z | ⟨n, hn, rfl⟩
    · exact absurd z c.1
    · exact Or.inr ⟨n + 1, by omega, nI_1 n⟩
  · exact hb
theorem p_F_ok {w : Nat → Nat} (hw : ∀ i, 1 ≤ i → i ≤ 5 → 0 < w i) : ∀ v u, u ≤ v → p_ok (q_F w u) u
  | 0, u, h => by
    have : u = 0 := by omega
    subst this
    exact Or.inr ⟨0, Nat.le_refl 0, rfl⟩
  | v + 1, u, h => by
    have ih := p_F_ok hw v
    by_cases e : u = v + 1
    · subst e
      rw [p_F_s hw v]
      have : ∀ i, i ≤ 5 → p_ok (q_Fm w (q_F w) (v + 1) i) (v + 1) := by
        intro i
        induction i with
        | zero => intro _; exact Or.inl (by show (-1 : Int32) < 0; decide)
        | succ i ihi =>
          intro hi
          have w1 := hw (i + 1) (by omega) hi
          by_cases c : w (i + 1) ≤ v + 1
          · rw [p_Fm_1 c]
            exact p_st_ok (ih (v + 1 - w (i + 1)) (by omega)) (ihi (by omega)) (by omega)
          · rw [p_Fm_0 c]
            exact ihi (by omega)
      exact this 5 (Nat.le_refl 5)
    · exact ih u (by omega)
/-- the reference's way to write none -/
def p_G (x : Int32) : Int32 := if x < 0 then 20001 else x
theorem p_G_st {f b : Int32} {v u : Nat} (hf : p_ok f u) (hb : p_ok b v) (hu : u < v) (hv : v ≤ 20000) : (if p_G f + 1 < p_G b then p_G f + 1 else p_G b) = p_G (p_st f b) := by
  unfold p_st
  rcases hf with z | ⟨n, hn, rfl⟩
  · rw [if_neg (show ¬ (¬ f < 0 ∧ (b < 0 ∨ f + 1 < b)) from fun c => c.1 z)]
    have e : p_G f = 20001 := by unfold p_G; rw [if_pos z]
    rw [e, if_neg]
    rcases hb with y | ⟨k, hk, rfl⟩
    · unfold p_G; rw [if_pos y]; decide
    · unfold p_G; rw [if_neg (nI_pos (by omega))]
      exact nI_nlt (a := 20002) (by omega) (by omega)
  · have e : p_G (nI n) = nI n := by unfold p_G; rw [if_neg (nI_pos (by omega))]
    have e2 : p_G (nI (n + 1)) = nI (n + 1) := by unfold p_G; rw [if_neg (nI_pos (by omega))]
    rw [e, nI_1]
    rcases hb with y | ⟨k, hk, rfl⟩
    · have e3 : p_G b = nI 20001 := by unfold p_G; rw [if_pos y]; rfl
      rw [e3, if_pos (nI_lt (by omega) (by omega)), if_pos ⟨nI_pos (by omega), Or.inl y⟩, e2]
    · have e3 : p_G (nI k) = nI k := by unfold p_G; rw [if_neg (nI_pos (by omega))]
      rw [e3]
      by_cases c : n + 1 < k
      · rw [if_pos (nI_lt c (by omega)), if_pos ⟨nI_pos (by omega), Or.inr (nI_lt c (by omega))⟩, e2]
      · rw [if_neg (nI_nlt (by omega) (by omega)), if_neg (fun z => ?_), e3]
        rcases z.2 with y | y
        · exact nI_pos (by omega) y
        · exact nI_nlt (by omega) (by omega) y
theorem t_omf (d : Nat) (m : q_M) (w : Nat → Nat) (v : Nat) (hv : v ≤ 20000) (hw : ∀ i, 1 ≤ i → i ≤ 5 → m 3 i = nI (w i) ∧ 0 < w i ∧ w i ≤ 100000) (hf : ∀ u, u < v → m 127 u = q_F w u) (Q : Option Int32 → q_H → Prop) (hQ : Q (some (q_Fm w (q_F w) v 5)) (q_hp true m)) : q_Wm d 7 [vr 33, vi (nI v), vr 3] (q_hp true m) Q := by
  have loop : ∀ (r i : Nat) (x y : Int32) (o : Option q_V), i + r = 5 → x = q_Fm w (q_F w) v i → y = nI (i + 1) → q_WP none d 7 5 [some (vr 33), some (vi (nI v)), some (vr 3), some (vi x), some (vi y), o] [] (q_hp true m) Q := by
    intro r
    induction r with
    | zero =>
      intro i x y o hi hx hy
      have hi : i = 5 := by omega
      subst hi hy
      repeat (refine q_wst rfl rfl rfl ?_)
      refine q_wrt rfl rfl rfl ?_
      rw [hx]
      exact hQ
    | succ r ih =>
      intro i x y o hi hx hy
      subst hy
      obtain ⟨w1, w2, w3⟩ := hw (i + 1) (by omega) (by omega)
      have es : (nI v - m 3 (i + 1)).toInt = (v : Int) - (w (i + 1) : Int) := by rw [w1]; exact pk_sub_toInt (by omega) (by omega)
      iterate 3 (refine q_wst rfl rfl rfl ?_)
      refine q_wif (fun c => absurd c (by show ¬ nI 5 < nI (i + 1); exact nI_nlt (by omega) (by omega))) (fun _ => ?_)
      iterate 3 (refine q_wst rfl rfl rfl ?_)
      refine q_wrd (i + 1) rfl (by omega) rfl (q_at3 true) (by decide) ?_
      iterate 4 (refine q_wst rfl rfl rfl ?_)
      refine q_wif (fun c => ?_) (fun c => ?_)
      · have c : nI v - m 3 (i + 1) < 0 := c
        have c : ¬ w (i + 1) ≤ v := by
          rw [Int32.lt_iff_toInt_lt, es] at c
          have : (0 : Int32).toInt = 0 := rfl
          omega
        iterate 2 (refine q_wst rfl rfl rfl ?_)
        refine ih (i + 1) _ _ _ (by omega) ?_ (nI_1 (i + 1))
        rw [p_Fm_0 c]
        exact hx
      · have c : ¬ nI v - m 3 (i + 1) < 0 := c
        have c : w (i + 1) ≤ v := by
          rw [Int32.lt_iff_toInt_lt, es] at c
          have : (0 : Int32).toInt = 0 := rfl
          omega
        have ei : nI v - m 3 (i + 1) = nI (v - w (i + 1)) := by rw [w1, pk_sub c]
        have ef : m 127 (v - w (i + 1)) = q_F w (v - w (i + 1)) := hf _ (by omega)
        iterate 3 (refine q_wst rfl rfl rfl ?_)
        refine q_wrd (v - w (i + 1)) ei (by omega) rfl q_at127 (by decide) ?_
        iterate 1 (refine q_wst rfl rfl rfl ?_)
        refine q_wif (fun c2 => ?_) (fun c2 => ?_)
        · have c2 : m 127 (v - w (i + 1)) < 0 := c2
          rw [ef] at c2
          iterate 2 (refine q_wst rfl rfl rfl ?_)
          refine ih (i + 1) _ _ _ (by omega) ?_ (nI_1 (i + 1))
          rw [p_Fm_1 c]
          unfold p_st
          rw [if_neg (fun z => z.1 c2)]
          exact hx
        · have c2 : ¬ m 127 (v - w (i + 1)) < 0 := c2
          rw [ef] at c2
          iterate 2 (refine q_wst rfl rfl rfl ?_)
          refine q_wif (fun c3 => ?_) (fun c3 => ?_)
          · have c3 : x < 0 := c3
            iterate 3 (refine q_wst rfl rfl rfl ?_)
            refine q_wrd (v - w (i + 1)) ei (by omega) rfl q_at127 (by decide) ?_
            iterate 5 (refine q_wst rfl rfl rfl ?_)
            refine ih (i + 1) _ _ _ (by omega) ?_ (nI_1 (i + 1))
            rw [p_Fm_1 c]
            unfold p_st
            rw [if_pos ⟨c2, Or.inl (hx ▸ c3)⟩]
            show m 127 (v - w (i + 1)) + 1 = _
            rw [ef]
          · have c3 : ¬ x < 0 := c3
            iterate 3 (refine q_wst rfl rfl rfl ?_)
            refine q_wrd (v - w (i + 1)) ei (by omega) rfl q_at127 (by decide) ?_
            iterate 4 (refine q_wst rfl rfl rfl ?_)
            refine q_wif (fun c4 => ?_) (fun c4 => ?_)
            · have c4 : x ≤ m 127 (v - w (i + 1)) + 1 := c4
              rw [ef] at c4
              iterate 2 (refine q_wst rfl rfl rfl ?_)
              refine ih (i + 1) _ _ _ (by omega) ?_ (nI_1 (i + 1))
              rw [p_Fm_1 c]
              unfold p_st
              rw [if_neg (fun z => z.2.elim (fun y => c3 (hx.symm ▸ y)) (fun y => absurd c4 (Int32.not_le.mpr (hx.symm ▸ y))))]
              exact hx
            · have c4 : ¬ x ≤ m 127 (v - w (i + 1)) + 1 := c4
              rw [ef] at c4
              iterate 3 (refine q_wst rfl rfl rfl ?_)
              refine q_wrd (v - w (i + 1)) ei (by omega) rfl q_at127 (by decide) ?_
              iterate 5 (refine q_wst rfl rfl rfl ?_)
              refine ih (i + 1) _ _ _ (by omega) ?_ (nI_1 (i + 1))
              rw [p_Fm_1 c]
              unfold p_st
              rw [if_pos ⟨c2, Or.inr (hx ▸ Int32.not_le.mp c4)⟩]
              show m 127 (v - w (i + 1)) + 1 = _
              rw [ef]
  unfold q_Wm
  iterate 4 (refine q_wst rfl rfl rfl ?_)
  exact loop 5 0 _ _ _ rfl rfl rfl
theorem t_ffl (d : Nat) (m0 : q_M) (w : Nat → Nat) (v rk : Nat) (hv : v ≤ 20000) (hr : rk ≤ 20000) (hw : ∀ i, 1 ≤ i → i ≤ 5 → m0 3 i = nI (w i) ∧ 0 < w i ∧ w i ≤ 100000) (h2 : m0 33 2 = nI rk) (Q : Option Int32 → q_H → Prop) (hQ : ∀ m, (∀ c, c ≠ 127 → c ≠ 33 → m c = m0 c) → (∀ rk', rk' = max rk v → m 33 = upd (m0 33) 2 (nI rk') ∧ ∀ u, u ≤ rk' → m 127 u = q_F w u) → Q (some (q_F w v)) (q_hp true m)) : ∀ (r t : Nat) (y : Int32) (m : q_M), (t + r = v ∨ (r = 0 ∧ v ≤ t)) → rk ≤ t → y = nI (t + 1) → t ≤ 20000 → (∀ c, c ≠ 127 → m c = m0 c) → (∀ u, u ≤ t → m 127 u = q_F w u) → q_WP none (d + 1) 6 23 [some (vr 33), some (vi (nI v)), some (vr 3), some (vi y)] [] (q_hp true m) Q := by
  intro r
  induction r with
  | zero =>
    intro t y m ht hrt hy h20 hm hf
    subst hy
    have ht : v ≤ t := by omega
    iterate 3 (refine q_wst rfl rfl rfl ?_)
    refine q_wif (fun _ => ?_) (fun c => absurd (nI_lt (by omega) (by omega)) c)
    iterate 9 (refine q_wst rfl rfl rfl ?_)
    refine q_wrd v rfl (by omega) rfl q_at127 (by decide) ?_
    refine q_wrt rfl rfl rfl ?_
    have e : (if m 33 2 < nI v then nI v else m 33 2) = nI (max rk v) := by
      rw [hm 33 (by decide), h2]
      by_cases c : rk < v
      · rw [if_pos (nI_lt c (by omega)), Nat.max_eq_right (by omega)]
      · rw [if_neg (nI_nlt (by omega) (by omega)), Nat.max_eq_left (by omega)]
    show Q (some (m 127 v)) (q_hp true (q_up m 33 2 (if m 33 2 < nI v then nI v else m 33 2)))
    rw [e, hf v ht]
    refine hQ _ (fun c h1 h3 => ?_) (fun rk' e' => ⟨?_, fun u hu => ?_⟩)
    · rw [q_up_ne h3]
      exact hm c h1
    · rw [q_up_eq, hm 33 (by decide), e']
    · rw [q_up_ne (by decide)]
      have : max rk v ≤ t := Nat.max_le.mpr ⟨hrt, ht⟩
      exact hf u (by omega)
  | succ r ih =>
    intro t y m ht hrt hy h20 hm hf
    subst hy
    have ht : t + 1 ≤ v := by omega
    have hw' : ∀ i, 1 ≤ i → i ≤ 5 → m 3 i = nI (w i) ∧ 0 < w i ∧ w i ≤ 100000 := fun i a1 a2 => by rw [hm 3 (by decide)]; exact hw i a1 a2
    iterate 3 (refine q_wst rfl rfl rfl ?_)
    refine q_wif (fun c => absurd c (nI_nlt ht (by omega))) (fun _ => ?_)
    iterate 6 (refine q_wst rfl rfl rfl ?_)
    refine q_wcl rfl rfl rfl ?_
    refine t_omf _ m w (t + 1) (by omega) hw' (fun u hu => hf u (by omega)) _ ?_
    refine q_wwr (t + 1) rfl (by omega) rfl q_at127 (by decide) ?_
    iterate 2 (refine q_wst rfl rfl rfl ?_)
    refine ih (t + 1) _ _ (Or.inl (by omega)) (by omega) (nI_1 (t + 1)) (by omega) (fun c hc => ?_) (fun u hu => ?_)
    · show q_up m 127 _ _ c = m0 c
      rw [q_up_ne hc]
      exact hm c hc
    · show q_up m 127 (t + 1) (q_Fm w (q_F w) (t + 1) 5) 127 u = _
      rw [q_up_eq]
      by_cases e : u = t + 1
      · rw [e, pk_us, p_F_s (fun i a1 a2 => (hw i a1 a2).2.1)]
      · rw [pk_un e]
        exact hf u (by omega)
theorem q_Sb_t : List.set (q_Sb false ++ ([.inr (.inl (0, 20001))] : List q_S)) 33 (.inl (0, [some (some 34), some (some 127), none])) = q_Sb true := by rfl
theorem q_Sb_l : (q_Sb false).length = 127 := by rfl
theorem q_nw {d : Nat} {pl : q_L} {m : q_M} {Q : Option Int32 → q_H → Prop} (g : q_WP none d 6 16 pl [] (q_hp true (q_zr m 127 1)) Q) : q_WP none d 6 11 pl [vi 20001, vr 33] (q_hp false m) Q := by
  have ec : (20001 : Int32).toNatClampNeg = 20001 := by decide +kernel
  refine q_wst (h' := (q_Sb false ++ [.inr (.inl (0, 20001))], q_zr m 127 1)) (pc' := 13) (pl' := pl) (st' := [vr 127, vr 33]) rfl rfl ?_ ?_
  · show q_nwa 0 11 pl [vi 20001, vr 33] (q_hp false m) = _
    unfold q_nwa
    try dsimp only
    rw [ec, q_Sb_l]
    rfl
  · refine q_wst (h' := (List.set (q_Sb false ++ ([.inr (.inl (0, 20001))] : List q_S)) 33 (.inl (0, [some (some 34), some (some 127), none])), q_zr m 127 1)) (pc' := 16) (pl' := pl) (st' := []) rfl rfl rfl ?_
    rw [q_Sb_t]
    exact g
theorem t_fwf (d : Nat) (b : Bool) (m0 : q_M) (w : Nat → Nat) (v rk : Nat) (hv : v ≤ 20000) (hr : rk ≤ 20000) (hw : ∀ i, 1 ≤ i → i ≤ 5 → m0 3 i = nI (w i) ∧ 0 < w i ∧ w i ≤ 100000) (h2 : m0 33 2 = nI rk) (hb : b = false → rk = 0) (hf : b = true → ∀ u, u ≤ rk → m0 127 u = q_F w u) (Q : Option Int32 → q_H → Prop) (hQ : ∀ m, (∀ c, c ≠ 127 → c ≠ 33 → m c = m0 c) → (∀ rk', rk' = max rk v → m 33 = upd (m0 33) 2 (nI rk') ∧ ∀ u, u ≤ rk' → m 127 u = q_F w u) → Q (some (q_F w v)) (q_hp true m)) : q_Wm (d + 1) 6 [vr 33, vi (nI v), vr 3] (q_hp b m0) Q := by
  cases b with
  | true =>
    unfold q_Wm
    iterate 8 (refine q_wst rfl rfl rfl ?_)
    refine t_ffl d m0 w v rk hv hr hw h2 Q hQ (v - rk) rk _ m0 (by omega) (by omega) ?_ hr (fun _ _ => rfl) (hf rfl)
    show m0 33 2 + 1 = _
    rw [h2, nI_1]
  | false =>
    have hrk := hb rfl
    subst hrk
    unfold q_Wm
    iterate 5 (refine q_wst rfl rfl rfl ?_)
    refine q_nw ?_
    iterate 5 (refine q_wst rfl rfl rfl ?_)
    have e : ∀ c, c ≠ 127 → q_zr m0 127 1 c = m0 c := fun c hc => by
      funext j
      unfold q_zr
      rw [if_neg (by omega)]
    refine t_ffl d (q_zr m0 127 1) w v 0 hv hr (fun i a1 a2 => by rw [e 3 (by decide)]; exact hw i a1 a2) (by rw [e 33 (by decide)]; exact h2) Q (fun m hm hx => hQ m (fun c h1 h3 => by rw [hm c h1 h3, e c h1]) (fun rk' e' => ⟨by rw [(hx rk' e').1, e 33 (by decide)], (hx rk' e').2⟩)) v 0 _ (q_zr m0 127 1) (by omega) (by omega) ?_ (by omega) (fun _ _ => rfl) (fun u hu => ?_)
    · show m0 33 2 + 1 = _
      rw [h2, nI_1]
    · have : u = 0 := by omega
      subst this
      rfl
theorem t_mfi (d : Nat) (b : Bool) (m0 : q_M) (w : Nat → Nat) (v t : Nat) (hv : v ≤ 20000) (ht : t < v) (hw : ∀ i, 1 ≤ i → i ≤ 5 → m0 98 i = nI (w i) ∧ 0 < w i ∧ w i ≤ 100000) (Q : Option Int32 → q_H → Prop) (K : ∀ m y, (∀ c, c ≠ 126 → m c = m0 c) → (∀ u, u ≤ t + 1 → m 126 u = p_G (q_F w u)) → q_WP none d 174 25 [some (vr 97), some (vi (nI v)), some (vi (nI (t + 2))), some (vi y)] [] (q_hp b m) Q) : ∀ (r i : Nat) (y : Int32) (m : q_M), i + r = 5 → y = nI (i + 1) → (∀ c, c ≠ 126 → m c = m0 c) → (∀ u, u ≤ t → m 126 u = p_G (q_F w u)) → m 126 (t + 1) = p_G (q_Fm w (q_F w) (t + 1) i) → q_WP none d 174 41 [some (vr 97), some (vi (nI v)), some (vi (nI (t + 1))), some (vi y)] [] (q_hp b m) Q := by
  have hw0 : ∀ i, 1 ≤ i → i ≤ 5 → 0 < w i := fun i a1 a2 => (hw i a1 a2).2.1
  intro r
  induction r with
  | zero =>
    intro i y m hi hy hm hf h1
    have hi : i = 5 := by omega
    subst hi hy
    iterate 3 (refine q_wst rfl rfl rfl ?_)
    refine q_wif (fun _ => ?_) (fun c => absurd (nI_lt (a := 5) (b := 6) (by omega) (by omega)) c)
    iterate 2 (refine q_wst rfl rfl rfl ?_)
    show q_WP none d 174 25 [some (vr 97), some (vi (nI v)), some (vi (nI (t + 1) + 1)), some (vi (nI (5 + 1)))] [] (q_hp b m) Q
    rw [nI_1]
    refine K m _ hm (fun u hu => ?_)
    by_cases e : u = t + 1
    · rw [e, h1, p_F_s hw0]
    · exact hf u (by omega)
  | succ r ih =>
    intro i y m hi hy hm hf h1
    subst hy
    obtain ⟨w1, w2, w3⟩ := hw (i + 1) (by omega) (by omega)
    have e1 : m 98 (i + 1) = nI (w (i + 1)) := by rw [hm 98 (by decide)]; exact w1
    iterate 3 (refine q_wst rfl rfl rfl ?_)
    refine q_wif (fun c => absurd c (by show ¬ nI 5 < nI (i + 1); exact nI_nlt (by omega) (by omega))) (fun _ => ?_)
    iterate 3 (refine q_wst rfl rfl rfl ?_)
    refine q_wrd (i + 1) rfl (by omega) rfl (q_at98 b) (by decide) ?_
    iterate 2 (refine q_wst rfl rfl rfl ?_)
    refine q_wif (fun c => ?_) (fun c => ?_)
    · have c : nI (t + 1) < m 98 (i + 1) := c
      rw [e1] at c
      have c := (nI_ltI (by omega) (by omega)).mp c
      iterate 2 (refine q_wst rfl rfl rfl ?_)
      refine ih (i + 1) _ m (by omega) (nI_1 (i + 1)) hm hf ?_
      rw [p_Fm_0 (by omega)]
      exact h1
    · have c : ¬ nI (t + 1) < m 98 (i + 1) := c
      rw [e1] at c
      have c : w (i + 1) ≤ t + 1 := by
        rcases Nat.lt_or_ge (t + 1) (w (i + 1)) with z | z
        · exact absurd (nI_lt z (by omega)) c
        · exact z
      iterate 6 (refine q_wst rfl rfl rfl ?_)
      refine q_wrd (t + 1) rfl (by omega) rfl (q_at126 b) (by decide) ?_
      iterate 6 (refine q_wst rfl rfl rfl ?_)
      refine q_wrd (i + 1) rfl (by omega) rfl (q_at98 b) (by decide) ?_
      iterate 1 (refine q_wst rfl rfl rfl ?_)
      refine q_wrd (t + 1 - w (i + 1)) (by show nI (t + 1) - m 98 (i + 1) = _; rw [e1, pk_sub c]) (by omega) rfl (q_at126 b) (by decide) ?_
      iterate 3 (refine q_wst rfl rfl rfl ?_)
      refine q_wwr (t + 1) rfl (by omega) rfl (q_at126 b) (by decide) ?_
      iterate 2 (refine q_wst rfl rfl rfl ?_)
      refine ih (i + 1) _ _ (by omega) (nI_1 (i + 1)) (fun c hc => ?_) (fun u hu => ?_) ?_
      · show q_up m 126 _ _ c = m0 c
        rw [q_up_ne hc]
        exact hm c hc
      · show q_up m 126 _ _ 126 u = _
        rw [q_up_eq, pk_un (by omega)]
        exact hf u hu
      · show q_up m 126 (t + 1) (if m 126 (t + 1 - w (i + 1)) + 1 < m 126 (t + 1) then m 126 (t + 1 - w (i + 1)) + 1 else m 126 (t + 1)) 126 (t + 1) = _
        rw [q_up_eq, pk_us, hf (t + 1 - w (i + 1)) (by omega), h1, p_Fm_1 c]
        have ok : ∀ j, j ≤ 5 → p_ok (q_Fm w (q_F w) (t + 1) j) (t + 1) := by
          intro j
          induction j with
          | zero => intro _; exact Or.inl (by show (-1 : Int32) < 0; decide)
          | succ j ihj =>
            intro hj
            have w1 := hw0 (j + 1) (by omega) hj
            by_cases c : w (j + 1) ≤ t + 1
            · rw [p_Fm_1 c]
              exact p_st_ok (p_F_ok hw0 t (t + 1 - w (j + 1)) (by omega)) (ihj (by omega)) (by omega)
            · rw [p_Fm_0 c]
              exact ihj (by omega)
        exact p_G_st (p_F_ok hw0 t (t + 1 - w (i + 1)) (by omega)) (ok i (by omega)) (by omega) (by omega)
theorem t_mfo (d : Nat) (b : Bool) (m0 : q_M) (w : Nat → Nat) (v : Nat) (hv : v ≤ 20000) (hw : ∀ i, 1 ≤ i → i ≤ 5 → m0 98 i = nI (w i) ∧ 0 < w i ∧ w i ≤ 100000) (Q : Option Int32 → q_H → Prop) (K : ∀ m y o, (∀ c, c ≠ 126 → m c = m0 c) → (∀ u, u ≤ v → m 126 u = p_G (q_F w u)) → q_WP none d 174 98 [some (vr 97), some (vi (nI v)), some (vi y), o] [] (q_hp b m) Q) : ∀ (r t : Nat) (y : Int32) (o : Option q_V) (m : q_M), t + r = v → y = nI (t + 1) → (∀ c, c ≠ 126 → m c = m0 c) → (∀ u, u ≤ t → m 126 u = p_G (q_F w u)) → q_WP none d 174 25 [some (vr 97), some (vi (nI v)), some (vi y), o] [] (q_hp b m) Q := by
  intro r
  induction r with
  | zero =>
    intro t y o m ht hy hm hf
    have ht : t = v := by omega
    subst ht hy
    iterate 3 (refine q_wst rfl rfl rfl ?_)
    refine q_wif (fun _ => ?_) (fun c => absurd (nI_lt (by omega) (by omega)) c)
    exact K m _ _ hm hf
  | succ r ih =>
    intro t y o m ht hy hm hf
    subst hy
    iterate 3 (refine q_wst rfl rfl rfl ?_)
    refine q_wif (fun c => absurd c (nI_nlt (by omega) (by omega))) (fun _ => ?_)
    iterate 4 (refine q_wst rfl rfl rfl ?_)
    refine q_wwr (t + 1) rfl (by omega) rfl (q_at126 b) (by decide) ?_
    iterate 2 (refine q_wst rfl rfl rfl ?_)
    refine t_mfi d b m0 w v t hv (by omega) hw Q (fun m1 y1 hm1 hf1 => ih (t + 1) _ _ m1 (by omega) rfl hm1 hf1) 5 0 _ _ rfl rfl (fun c hc => ?_) (fun u hu => ?_) ?_
    · show q_up m 126 _ _ c = m0 c
      rw [q_up_ne hc]
      exact hm c hc
    · show q_up m 126 _ _ 126 u = _
      rw [q_up_eq, pk_un (by omega)]
      exact hf u hu
    · show q_up m 126 (t + 1) 20001 126 (t + 1) = _
      rw [q_up_eq, pk_us]
      rfl
theorem ob_fewest (_ : Unit) : q_Ob q_RR 104 174 [] := by
  intro b m hR
  obtain ⟨P, w, hR0, h13⟩ := id hR
  have hw := q_R_w hR0
  have hsum := q_sum_eq hR0.2.2.2.2.2.1 hR0.2.2.2.2.2.2.1
  obtain ⟨m126, rk, hrk, k1, k2, k3⟩ := hR0.2.2.2.2.2.2.2.2.2.2.2.2
  have hw0 : ∀ i, 1 ≤ i → i ≤ 5 → 0 < w i := fun i a1 a2 => (hw i a1 a2).2.2.1
  unfold q_Wm
  repeat (refine q_wst rfl rfl rfl ?_)
  refine q_wcl rfl rfl rfl ?_
  refine t_worthBy _ b m _ ?_
  repeat (refine q_wst rfl rfl rfl ?_)
  refine q_wcl rfl rfl rfl ?_
  refine t_within _ _ _ _ _ _ (fun c1 c2 => ?_) (fun c1 => ?_)
  · obtain ⟨v, hv, e⟩ := nI_of2 (M := 20000) (n := 20000) rfl (Int32.not_lt.mpr c1) c2
    rw [e] at hsum
    show q_WP none 99 104 23 [some (vr 0), some (vi (q_sum (m 34) (m 3))), none] [vi 1] (q_hp b m) _
    rw [e]
    repeat (refine q_wst rfl rfl rfl ?_)
    refine q_wcl rfl rfl rfl ?_
    refine t_fwf _ b m w v rk hv hrk (fun i h1 h2 => ⟨(hw i h1 h2).1, (hw i h1 h2).2.2⟩) k1 k2 k3 _ (fun m1 hm1 hx1 => ?_)
    obtain ⟨x33, x127⟩ := hx1 _ rfl
    have hok := p_F_ok hw0 v v (Nat.le_refl v)
    -- what the class leaves keeps the relation
    have S : q_R0 P w true m1 ∧ q_r13 m1 := by
      obtain ⟨r1, r2, r3, r4, r5, r6, r7, r8, r9, r10, r11, r12, r14⟩ := hR0
      refine ⟨⟨?_, ?_, ?_, ?_, ?_, ?_, ?_, ?_, ?_, ?_, ?_, ?_, ⟨?_, max rk v, Nat.max_le.mpr ⟨hrk, hv⟩, ?_, fun z => ?_, fun _ => x127⟩⟩, ?_⟩
      · unfold q_r1; rw [hm1 0 (by decide) (by decide), hm1 97 (by decide) (by decide)]; exact r1
      · unfold q_r2; rw [hm1 0 (by decide) (by decide), hm1 97 (by decide) (by decide)]; exact r2
      · unfold q_r3; rw [hm1 0 (by decide) (by decide), hm1 97 (by decide) (by decide)]; exact r3
      · unfold q_r4; rw [hm1 0 (by decide) (by decide), hm1 97 (by decide) (by decide), hm1 35 (by decide) (by decide), hm1 113 (by decide) (by decide)]; exact r4
      · unfold q_r5; rw [hm1 13 (by decide) (by decide), hm1 97 (by decide) (by decide), hm1 14 (by decide) (by decide), hm1 15 (by decide) (by decide), hm1 16 (by decide) (by decide), hm1 17 (by decide) (by decide), hm1 108 (by decide) (by decide), hm1 109 (by decide) (by decide), hm1 110 (by decide) (by decide), hm1 111 (by decide) (by decide)]; exact r5
      · unfold q_r6; rw [hm1 3 (by decide) (by decide), hm1 98 (by decide) (by decide)]; exact r6
      · unfold q_r7; rw [hm1 34 (by decide) (by decide), hm1 99 (by decide) (by decide)]; exact r7
      · exact q_r8_ag (fun c hc => hm1 c (by omega) (by omega)) r8
      · unfold q_r9; rw [hm1 100 (by decide) (by decide), hm1 101 (by decide) (by decide), hm1 103 (by decide) (by decide), hm1 104 (by decide) (by decide), hm1 105 (by decide) (by decide), hm1 106 (by decide) (by decide)]; exact r9
      · unfold q_r10; rw [hm1 105 (by decide) (by decide), hm1 106 (by decide) (by decide)]; exact r10
      · unfold q_r11; rw [hm1 101 (by decide) (by decide), hm1 107 (by decide) (by decide)]; exact r11
      · unfold q_r12; rw [hm1 32 (by decide) (by decide), hm1 112 (by decide) (by decide)]; exact r12
      · rw [hm1 126 (by decide) (by decide)]; exact m126
      · rw [x33, pk_us]
      · cases z
      · unfold q_r13; rw [hm1 36 (by decide) (by decide), hm1 114 (by decide) (by decide)]; exact h13
    have SR : q_RR true m1 := ⟨P, w, S⟩
    -- the reference's loops
    have mod : ∀ (m2 : q_M) (Q : Option Int32 → q_H → Prop), (∀ c, c ≠ 36 → m2 c = m1 c) → (∀ m3 y o, (∀ c, c ≠ 126 → m3 c = m2 c) → m3 126 0 = m2 126 0 → m3 126 v = p_G (q_F w v) → q_WP none 99 174 98 [some (vr 97), some (vi (nI v)), some (vi y), o] [] (q_hp true m3) Q) → q_Wm 99 174 [vr 97] (q_hp true m2) Q := by
      intro m2 Q hm2 K
      have H : ∀ c, c ≠ 36 → c ≠ 127 → c ≠ 33 → m2 c = m c := fun c a1 a2 a3 => by rw [hm2 c a1, hm1 c a2 a3]
      unfold q_Wm
      repeat (refine q_wst rfl rfl rfl ?_)
      refine q_wcl rfl rfl rfl ?_
      refine t_msum _ true m2 _ ?_
      rw [H 99 (by decide) (by decide) (by decide), H 98 (by decide) (by decide) (by decide), hsum]
      repeat (refine q_wst rfl rfl rfl ?_)
      refine q_wif (fun z => absurd z (nI_pos (by omega))) (fun _ => ?_)
      repeat (refine q_wst rfl rfl rfl ?_)
      refine q_wif (fun _ => ?_) (fun z => absurd (nI_le (b := 20000) hv (by omega)) z)
      iterate 2 (refine q_wst rfl rfl rfl ?_)
      refine t_mfo 99 true m2 w v hv (fun i h1 h2 => by rw [H 98 (by decide) (by decide) (by decide)]; exact (hw i h1 h2).2) Q (fun m3 y o hm3 hf3 => K m3 y o hm3 ?_ (hf3 v (Nat.le_refl v))) v 0 _ _ m2 (by omega) rfl (fun _ _ => rfl) (fun u hu => ?_)
      · rw [hf3 0 (Nat.zero_le v), H 126 (by decide) (by decide) (by decide), m126]
        rfl
      · have : u = 0 := by omega
        subst this
        rw [H 126 (by decide) (by decide) (by decide), m126]
        rfl
    have S6 : ∀ m2 m3 : q_M, (∀ c, c ≠ 126 → m3 c = m2 c) → m3 126 0 = m2 126 0 → q_same m2 m3 := fun m2 m3 h h0 => ⟨fun c hc => h c (fun z => by rw [z] at hc; cases hc), fun i _ => by rw [h 97 (by decide)], h0⟩
    repeat (refine q_wst rfl rfl rfl ?_)
    refine q_wif (fun f1 => ?_) (fun f1 => ?_)
    · have f1 : (0 : Int32) ≤ q_F w v := f1
      obtain ⟨n, hn, en⟩ : ∃ n, n ≤ v ∧ q_F w v = nI n := hok.resolve_left (Int32.not_lt.mpr f1)
      have eG : p_G (q_F w v) = nI n := by unfold p_G; rw [if_neg (Int32.not_lt.mpr f1), en]
      repeat (refine q_wst rfl rfl rfl ?_)
      refine q_wrt rfl rfl rfl ⟨_, rfl, true, _, rfl, ?_⟩
      refine mod m1 _ (fun _ _ => rfl) (fun m3 y o hm3 h0 hG => ?_)
      iterate 3 (refine q_wst rfl rfl rfl ?_)
      refine q_wrd v rfl (by omega) rfl (q_at126 true) (by decide) ?_
      iterate 2 (refine q_wst rfl rfl rfl ?_)
      refine q_wif (fun _ => ?_) (fun z => absurd (by show m3 126 v ≤ nI 20000; rw [hG, eG]; exact nI_le (by omega) (by omega)) z)
      iterate 3 (refine q_wst rfl rfl rfl ?_)
      refine q_wrd v rfl (by omega) rfl (q_at126 true) (by decide) ?_
      refine q_wrt rfl rfl rfl ⟨?_, true, _, rfl, q_RR_same (S6 m1 m3 hm3 h0) SR⟩
      show some (m3 126 v) = some (q_F w v)
      rw [hG, eG, en]
    · have f1 : ¬ (0 : Int32) ≤ q_F w v := f1
      have eG : p_G (q_F w v) = nI 20001 := by unfold p_G; rw [if_pos (Int32.not_le.mp f1)]; rfl
      repeat (refine q_wst rfl rfl rfl ?_)
      refine q_wcl rfl rfl rfl ?_
      refine t_finding _ true m1 2 (by decide) _ ?_
      repeat (refine q_wst rfl rfl rfl ?_)
      refine q_wrt rfl rfl rfl ⟨_, rfl, true, _, rfl, ?_⟩
      refine mod _ _ (fun c hc => q_up_ne hc) (fun m3 y o hm3 h0 hG => ?_)
      iterate 3 (refine q_wst rfl rfl rfl ?_)
      refine q_wrd v rfl (by omega) rfl (q_at126 true) (by decide) ?_
      iterate 2 (refine q_wst rfl rfl rfl ?_)
      refine q_wif (fun z => absurd z (by show ¬ m3 126 v ≤ nI 20000; rw [hG, eG]; exact nI_ge (by omega) (by omega))) (fun _ => ?_)
      repeat (refine q_wst rfl rfl rfl ?_)
      refine q_wcl rfl rfl rfl ?_
      refine t_mfinding _ true _ 2 _ (by decide) (by rfl) _ ?_
      repeat (refine q_wst rfl rfl rfl ?_)
      exact q_wrt rfl rfl rfl ⟨rfl, true, _, rfl, q_RR_fnd SR (S6 _ m3 hm3 h0)⟩
  · have c1 : ¬ (0 ≤ q_sum (m 34) (m 3) ∧ q_sum (m 34) (m 3) ≤ 20000) := c1
    repeat (refine q_wst rfl rfl rfl ?_)
    refine q_cf 1 rfl (by decide) rfl rfl rfl ⟨_, rfl, b, _, rfl, ?_⟩
    unfold q_Wm
    repeat (refine q_wst rfl rfl rfl ?_)
    refine q_wcl rfl rfl rfl ?_
    refine t_msum _ b _ _ ?_
    show q_WP none 99 174 4 _ [vi (q_sum (m 99) (m 98))] _ _
    rw [hsum]
    repeat (refine q_wst rfl rfl rfl ?_)
    refine q_wif (fun _ => ?_) (fun z1 => ?_)
    · repeat (refine q_wst rfl rfl rfl ?_)
      exact q_mf 1 rfl (by decide) rfl rfl rfl ⟨rfl, b, _, rfl, q_RR_fnd hR (q_same_rf _)⟩
    · repeat (refine q_wst rfl rfl rfl ?_)
      refine q_wif (fun z2 => absurd ⟨Int32.not_lt.mp z1, z2⟩ c1) (fun _ => ?_)
      repeat (refine q_wst rfl rfl rfl ?_)
      exact q_mf 1 rfl (by decide) rfl rfl rfl ⟨rfl, b, _, rfl, q_RR_fnd hR (q_same_rf _)⟩
