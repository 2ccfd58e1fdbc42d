/-! obligation: lay -/
def q_ly (c : Nat → Int32) (w : Nat → Nat) : Nat → (Nat → Int32)
  | 0 => c
  | i + 1 => if w i ≤ 5 then upd (q_ly c w i) (w i) (q_ly c w i (w i) + 1) else q_ly c w i
def q_lk (w : Nat → Nat) : Nat → Nat
  | 0 => 0
  | i + 1 => if w i ≤ 5 then q_lk w i + 1 else q_lk w i
theorem q_ly_eq {c e : Nat → Int32} {w : Nat → Nat} (h : ∀ i, 1 ≤ i → i ≤ 5 → c i = e i) : ∀ n, (∀ i, i < n → 1 ≤ w i) → ∀ i, 1 ≤ i → i ≤ 5 → q_ly c w n i = q_ly e w n i
  | 0, _, i, h1, h2 => h i h1 h2
  | n + 1, hw, i, h1, h2 => by
    have ih := q_ly_eq h n (fun j hj => hw j (by omega))
    unfold q_ly
    by_cases z : w n ≤ 5
    · rw [if_pos z, if_pos z]
      unfold upd
      by_cases e : i = w n
      · rw [if_pos e, if_pos e, ih (w n) (hw n (by omega)) z]
      · rw [if_neg e, if_neg e]
        exact ih i h1 h2
    · rw [if_neg z, if_neg z]
      exact ih i h1 h2
theorem t_take (d : Nat) (b : Bool) (m0 : q_M) (w : Nat → Nat) (n : Nat) (hn : n ≤ 20) (c1 : m0 5 2 = nI n) (c2 : ∀ i, i < n → m0 7 i = nI (w i)) (hw : ∀ i, i < n → w i ≤ 40) (Q : Option Int32 → q_H → Prop) (hQ : ∀ m, (∀ c, c ≠ 34 → m c = m0 c) → m 34 = q_ly (m0 34) w n → Q (some (nI (q_lk w n))) (q_hp b m)) : q_Wm d 3 [vr 33, vr 5] (q_hp b m0) Q := by
  have loop : ∀ (r i : Nat) (x y : Int32) (m : q_M), i + r = n → y = nI i → x = nI (q_lk w i) → (∀ c, c ≠ 34 → m c = m0 c) → m 34 = q_ly (m0 34) w i → q_WP none d 3 4 [some (vr 33), some (vr 5), some (vi x), some (vi y)] [] (q_hp b m) Q := by
    intro r
    induction r with
    | zero =>
      intro i x y m hi hy hx hm h34
      subst hy
      have hi : i = n := by omega
      subst hi
      iterate 4 (refine q_wst rfl rfl rfl ?_)
      refine q_wif (fun _ => ?_) (fun c => absurd (by show m 5 2 ≤ nI i; rw [hm 5 (by decide), c1]; exact nI_le (Nat.le_refl _) (by omega)) c)
      repeat (refine q_wst rfl rfl rfl ?_)
      refine q_wrt rfl rfl rfl ?_
      rw [hx]
      exact hQ m hm h34
    | succ r ih =>
      intro i x y m hi hy hx hm h34
      subst hy
      have hin : i < n := by omega
      have w40 := hw i hin
      have e7 : m 7 i = nI (w i) := by rw [hm 7 (by decide)]; exact c2 i hin
      iterate 4 (refine q_wst rfl rfl rfl ?_)
      refine q_wif (fun c => absurd c (by show ¬ m 5 2 ≤ nI i; rw [hm 5 (by decide), c1]; exact nI_ge hin (by omega))) (fun _ => ?_)
      iterate 3 (refine q_wst rfl rfl rfl ?_)
      refine q_wrd i rfl (by omega) rfl (q_at7 b) (by decide) ?_
      iterate 2 (refine q_wst rfl rfl rfl ?_)
      refine q_wif (fun c => ?_) (fun c => ?_)
      · have c : (5 : Int32) < m 7 i := c
        rw [e7] at c
        have c := (nI_ltI (a := 5) (by omega) (by omega)).mp c
        iterate 2 (refine q_wst rfl rfl rfl ?_)
        refine ih (i + 1) _ _ m (by omega) (nI_1 i) ?_ hm ?_
        · unfold q_lk; rw [if_neg (by omega)]; exact hx
        · unfold q_ly; rw [if_neg (by omega)]; exact h34
      · have c : ¬ (5 : Int32) < m 7 i := c
        rw [e7] at c
        have c : w i ≤ 5 := by
          rcases Nat.lt_or_ge 5 (w i) with z | z
          · exact absurd (nI_lt z (by omega)) c
          · exact z
        iterate 5 (refine q_wst rfl rfl rfl ?_)
        refine q_wrd i rfl (by omega) rfl (q_at7 b) (by decide) ?_
        iterate 1 (refine q_wst rfl rfl rfl ?_)
        refine q_wrd (w i) e7 (by omega) rfl (q_at34 b) (by decide) ?_
        iterate 2 (refine q_wst rfl rfl rfl ?_)
        refine q_wwr (w i) e7 (by omega) rfl (q_at34 b) (by decide) ?_
        iterate 3 (refine q_wst rfl rfl rfl ?_)
        refine ih (i + 1) _ _ _ (by omega) (nI_1 i) ?_ (fun c hc => ?_) ?_
        · unfold q_lk; rw [if_pos c]; show x + 1 = _; rw [hx, nI_1]
        · show q_up m 34 (w i) _ c = m0 c
          rw [q_up_ne hc]
          exact hm c hc
        · show q_up m 34 (w i) (m 34 (w i) + 1) 34 = _
          rw [q_up_eq, h34]
          show _ = (if w i ≤ 5 then upd (q_ly (m0 34) w i) (w i) (q_ly (m0 34) w i (w i) + 1) else q_ly (m0 34) w i)
          rw [if_pos c]
  unfold q_Wm
  iterate 4 (refine q_wst rfl rfl rfl ?_)
  exact loop n 0 _ _ m0 (by omega) rfl rfl (fun _ _ => rfl) rfl
theorem t_mtake (d : Nat) (b : Bool) (m0 : q_M) (pz : Int32) (w : Nat → Nat) (n : Nat) (hn : n ≤ 20) (c1 : m0 97 22 = nI n) (c2 : ∀ i, i < n → m0 116 i = nI (w i)) (hw : ∀ i, i < n → w i ≤ 40) (Q : Option Int32 → q_H → Prop) (hQ : ∀ m, (∀ c, c ≠ 99 → m c = m0 c) → m 99 = q_ly (m0 99) w n → Q (some (nI (q_lk w n))) (q_hp b m)) : ∀ (r i : Nat) (x y : Int32) (m : q_M), i + r = n → y = nI i → x = nI (q_lk w i) → (∀ c, c ≠ 99 → m c = m0 c) → m 99 = q_ly (m0 99) w i → q_WP none d 170 24 [some (vr 97), some (vi pz), some (vi x), some (vi y)] [] (q_hp b m) Q := by
  intro r
  induction r with
  | zero =>
    intro i x y m hi hy hx hm h34
    subst hy
    have hi : i = n := by omega
    subst hi
    iterate 4 (refine q_wst rfl rfl rfl ?_)
    refine q_wif (fun _ => ?_) (fun c => absurd (by show m 97 22 ≤ nI i; rw [hm 97 (by decide), c1]; exact nI_le (Nat.le_refl _) (by omega)) c)
    repeat (refine q_wst rfl rfl rfl ?_)
    refine q_wrt rfl rfl rfl ?_
    rw [hx]
    exact hQ m hm h34
  | succ r ih =>
    intro i x y m hi hy hx hm h34
    subst hy
    have hin : i < n := by omega
    have w40 := hw i hin
    have e7 : m 116 i = nI (w i) := by rw [hm 116 (by decide)]; exact c2 i hin
    iterate 4 (refine q_wst rfl rfl rfl ?_)
    refine q_wif (fun c => absurd c (by show ¬ m 97 22 ≤ nI i; rw [hm 97 (by decide), c1]; exact nI_ge hin (by omega))) (fun _ => ?_)
    iterate 3 (refine q_wst rfl rfl rfl ?_)
    refine q_wrd i rfl (by omega) rfl (q_at116 b) (by decide) ?_
    iterate 2 (refine q_wst rfl rfl rfl ?_)
    refine q_wif (fun c => ?_) (fun c => ?_)
    · have c : (5 : Int32) < m 116 i := c
      rw [e7] at c
      have c := (nI_ltI (a := 5) (by omega) (by omega)).mp c
      iterate 2 (refine q_wst rfl rfl rfl ?_)
      refine ih (i + 1) _ _ m (by omega) (nI_1 i) ?_ hm ?_
      · unfold q_lk; rw [if_neg (by omega)]; exact hx
      · unfold q_ly; rw [if_neg (by omega)]; exact h34
    · have c : ¬ (5 : Int32) < m 116 i := c
      rw [e7] at c
      have c : w i ≤ 5 := by
        rcases Nat.lt_or_ge 5 (w i) with z | z
        · exact absurd (nI_lt z (by omega)) c
        · exact z
      iterate 5 (refine q_wst rfl rfl rfl ?_)
      refine q_wrd i rfl (by omega) rfl (q_at116 b) (by decide) ?_
      iterate 1 (refine q_wst rfl rfl rfl ?_)
      refine q_wrd (w i) e7 (by omega) rfl (q_at99 b) (by decide) ?_
      iterate 2 (refine q_wst rfl rfl rfl ?_)
      refine q_wwr (w i) e7 (by omega) rfl (q_at99 b) (by decide) ?_
      iterate 3 (refine q_wst rfl rfl rfl ?_)
      refine ih (i + 1) _ _ _ (by omega) (nI_1 i) ?_ (fun c hc => ?_) ?_
      · unfold q_lk; rw [if_pos c]; show x + 1 = _; rw [hx, nI_1]
      · show q_up m 99 (w i) _ c = m0 c
        rw [q_up_ne hc]
        exact hm c hc
      · show q_up m 99 (w i) (m 99 (w i) + 1) 99 = _
        rw [q_up_eq, h34]
        show _ = (if w i ≤ 5 then upd (q_ly (m0 99) w i) (w i) (q_ly (m0 99) w i (w i) + 1) else q_ly (m0 99) w i)
        rw [if_pos c]
theorem ob_lay (a1 : Int32) : q_Ob q_RR 100 170 [a1] := by
  intro b m hR
  obtain ⟨P, w, hR0, h13⟩ := id hR
  have r1 := hR0.1
  unfold q_Wm
  repeat (refine q_wst rfl rfl rfl ?_)
  refine q_wcl rfl rfl rfl ?_
  refine t_isPiece _ b m a1 r1.1 r1.2.1 _ (fun p hp e => ?_) (fun hn => ?_)
  · subst e
    have hp30 : p < 30 := Nat.lt_of_lt_of_le hp r1.1
    repeat (refine q_wst rfl rfl rfl ?_)
    refine q_wpc p rfl hp30 rfl ?_
    refine q_wcl rfl rfl rfl ?_
    refine t_read _ b m p hp30 _ (fun m1 hs ho hc => ?_)
    obtain ⟨f1, f2⟩ := q_C_f (m (38 + 2 * p))
    repeat (refine q_wst rfl rfl rfl ?_)
    refine q_wcl rfl rfl rfl ?_
    refine t_take _ b m1 _ _ f1 hc.1 (fun i hi => (hc.2 i hi).2) (fun i hi => (f2 i hi).1) _ (fun m2 h2 h34 => ?_)
    have e106 : m2 106 = m 106 := (h2 106 (by decide)).trans (ho 106 (by omega))
    have hext : q_C (fun i => m2 106 (40 * p + i)) 40 = q_C (m (38 + 2 * p)) 40 := q_C_ext 40 (fun i hi => by show m2 106 _ = _; rw [e106]; exact (q_R_dp hR0 hp30 i hi).symm)
    have h974 : m2 97 4 = nI P := by rw [h2 97 (by decide), ho 97 (by omega)]; exact r1.2.2
    refine q_wrt rfl rfl rfl ⟨_, rfl, b, _, rfl, ?_⟩
    unfold q_Wm
    repeat (refine q_wst rfl rfl rfl ?_)
    refine q_wcl rfl rfl rfl ?_
    refine t_misPiece (P := P) _ b _ _ r1.1 (by exact h974) _ (fun q hq e => ?_) (fun hn => absurd rfl (hn p hp))
    repeat (refine q_wst rfl rfl rfl ?_)
    refine q_wcl rfl rfl rfl ?_
    refine t_mread _ b m2 p hp30 _ (fun m3 hs3 ho3 hc3 => ?_)
    unfold q_cxM at hc3
    rw [hext] at hc3
    iterate 4 (refine q_wst rfl rfl rfl ?_)
    refine t_mtake _ b m3 _ _ _ f1 hc3.1 (fun i hi => (hc3.2 i hi).2) (fun i hi => (f2 i hi).1) _ (fun m4 h4 h99 => ?_) (q_C (m (38 + 2 * p)) 40).1 0 _ _ m3 (by omega) rfl rfl (fun _ _ => rfl) rfl
    refine ⟨rfl, b, _, rfl, ?_⟩
    have hS : q_same m (fun c => if c = 34 then m 34 else if c = 99 then m 99 else m4 c) := by
      refine ⟨fun c hcc => ?_, fun j hj => ?_, ?_⟩
      · show (if c = 34 then m 34 else if c = 99 then m 99 else m4 c) = m c
        by_cases e1 : c = 34
        · rw [if_pos e1, e1]
        · by_cases e2 : c = 99
          · rw [if_neg e1, if_pos e2, e2]
          · rw [if_neg e1, if_neg e2, h4 c e2, hs3.1 c hcc, h2 c e1, hs.1 c hcc]
      · show m4 97 j = m 97 j
        rw [h4 97 (by decide), hs3.2.1 j hj, h2 97 (by decide), hs.2.1 j hj]
      · show m4 126 0 = m 126 0
        rw [h4 126 (by decide), hs3.2.2, h2 126 (by decide), hs.2.2]
    obtain ⟨P2, w2, ⟨t1, t2, t3, t4, t5, t6, t7, t8, t9, t10, t11, t12, t14⟩, t13⟩ := q_RR_same hS hR
    refine ⟨P2, w2, ⟨t1, t2, t3, t4, t5, t6, fun i i1 i2 => ?_, q_r8_ag (fun c hc => ?_) t8, t9, t10, t11, t12, t14⟩, t13⟩
    · have e34 : m4 34 = q_ly (m 34) (q_C (m (38 + 2 * p)) 40).2.2.2 (q_C (m (38 + 2 * p)) 40).1 := by
        rw [h4 34 (by decide), hs3.1 34 rfl, h34, hs.1 34 rfl]
      have e99 : m4 99 = q_ly (m 99) (q_C (m (38 + 2 * p)) 40).2.2.2 (q_C (m (38 + 2 * p)) 40).1 := by
        rw [h99, hs3.1 99 rfl, h2 99 (by decide), hs.1 99 rfl]
      rw [e34, e99]
      exact q_ly_eq (hR0.2.2.2.2.2.2.1) _ (fun j hj => (f2 j hj).2.2) i i1 i2
    · show m4 c = (if c = 34 then m 34 else if c = 99 then m 99 else m4 c)
      rw [if_neg (by omega), if_neg (by omega)]
  · repeat (refine q_wst rfl rfl rfl ?_)
    refine q_cf 1 rfl (by decide) rfl rfl rfl ⟨_, rfl, b, _, rfl, ?_⟩
    unfold q_Wm
    repeat (refine q_wst rfl rfl rfl ?_)
    refine q_wcl rfl rfl rfl ?_
    refine t_misPiece (P := P) _ b _ _ r1.1 (by exact r1.2.2) _ (fun q hq e => absurd e (hn q hq)) (fun _ => ?_)
    repeat (refine q_wst rfl rfl rfl ?_)
    exact q_mf 1 rfl (by decide) rfl rfl rfl ⟨rfl, b, _, rfl, q_RR_fnd hR (q_same_rf _)⟩
