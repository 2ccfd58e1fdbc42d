/-! the reference's faults and values -/
theorem t_mfault (d : Nat) (b : Bool) (m : q_M) (a w : Nat → Nat) (n : Nat) (hn : n ≤ 20) (c1 : m 97 22 = nI n) (c2 : ∀ i, i < n → m 115 i = nI (a i) ∧ m 116 i = nI (w i)) (hw : ∀ i, i < n → w i ≤ 40) (Q : Option Int32 → q_H → Prop) (hQ : Q (some (q_fg a w n 0)) (q_hp b m)) : q_Wm d 121 [vr 97] (q_hp b m) Q := by
  have loop : ∀ (r i : Nat) (y z : Int32) (o : Option q_V), i + r = n → z = nI i → y = nI (if i = 0 then 0 else q_rn w (i - 1)) → (0 < i → w (i - 1) ≤ 5 ∧ q_rn w (i - 1) ≤ 9) → q_fg a w r i = q_fg a w n 0 → q_WP none d 121 4 [some (vr 97), some (vi y), some (vi z), o] [] (q_hp b m) Q := by
    intro r
    induction r with
    | zero =>
      intro i y z o hi hz hy h5 hq
      subst hz
      have hi : i = n := by omega
      subst hi
      iterate 4 (refine q_wst rfl rfl rfl ?_)
      refine q_wif (fun _ => ?_) (fun c => absurd (by show m 97 22 ≤ nI i; rw [c1]; exact nI_le (Nat.le_refl _) (by omega)) c)
      repeat (refine q_wst rfl rfl rfl ?_)
      refine q_wrt rfl rfl rfl ?_
      rw [← hq] at hQ
      exact hQ
    | succ r ih =>
      intro i y z o hi hz hy h5 hq
      subst hz
      have hin : i < n := by omega
      have hi40 : i < 40 := by omega
      obtain ⟨e6, e7⟩ := c2 i hin
      have w40 := hw i hin
      have ret : q_bad w i = true → Q (some (m 115 i)) (q_hp b m) := fun hb => by
        rw [← hq, q_fg_b hb, ← e6] at hQ
        exact hQ
      iterate 4 (refine q_wst rfl rfl rfl ?_)
      refine q_wif (fun c => absurd c (by show ¬ m 97 22 ≤ nI i; rw [c1]; exact nI_ge hin (by omega))) (fun _ => ?_)
      by_cases h0 : i = 0
      · subst h0
        repeat (refine q_wst rfl rfl rfl ?_)
        refine q_wif (fun c => ?_) (fun c => ?_)
        · have c : (5 : Int32) < m 116 0 := c
          rw [e7] at c
          have c := (nI_ltI (a := 5) (by omega) (by omega)).mp c
          repeat (refine q_wst rfl rfl rfl ?_)
          exact q_wrt rfl rfl rfl (ret (q_bad_t.mpr (Or.inl c)))
        · have c : ¬ (5 : Int32) < m 116 0 := c
          rw [e7] at c
          have c : ¬ 5 < w 0 := fun z => c ((nI_ltI (a := 5) (by omega) (by omega)).mpr z)
          iterate 7 (refine q_wst rfl rfl rfl ?_)
          refine ih 1 _ _ _ (by omega) rfl rfl (fun _ => ⟨by show w 0 ≤ 5; omega, by show 1 ≤ 9; omega⟩) ?_
          rw [← q_fg_n (q_bad_f c (fun z => by omega) (by show ¬ 9 < 1; omega))]
          exact hq
      · obtain ⟨p1, p2⟩ := h5 (by omega)
        obtain ⟨e6', e7'⟩ := c2 (i - 1) (by omega)
        have hy2 : y = nI (q_rn w (i - 1)) := by rw [hy, if_neg h0]
        have hrn : q_rn w i = if w i = w (i - 1) then q_rn w (i - 1) + 1 else 1 := by
          obtain ⟨j, rfl⟩ : ∃ j, i = j + 1 := ⟨i - 1, by omega⟩
          rfl
        have hm1 : nI i - nI 1 = nI (i - 1) := pk_sub (by omega)
        iterate 2 (refine q_wst rfl rfl rfl ?_)
        refine q_wif (fun c => absurd c (nI_nle (by omega) (by omega))) (fun _ => ?_)
        iterate 3 (refine q_wst rfl rfl rfl ?_)
        refine q_wrd i rfl hi40 rfl (q_at116 b) (by decide) ?_
        iterate 5 (refine q_wst rfl rfl rfl ?_)
        refine q_wrd (i - 1) hm1 (by omega) rfl (q_at116 b) (by decide) ?_
        iterate 1 (refine q_wst rfl rfl rfl ?_)
        refine q_wif (fun c => ?_) (fun c => ?_)
        · have c : m 116 i ≤ m 116 (i - 1) := c
          rw [e7, e7'] at c
          have c := (nI_leI (by omega) (by omega)).mp c
          iterate 4 (refine q_wst rfl rfl rfl ?_)
          refine q_wif (fun c => absurd c (nI_nle (by omega) (by omega))) (fun _ => ?_)
          iterate 3 (refine q_wst rfl rfl rfl ?_)
          refine q_wrd i rfl hi40 rfl (q_at116 b) (by decide) ?_
          iterate 5 (refine q_wst rfl rfl rfl ?_)
          refine q_wrd (i - 1) hm1 (by omega) rfl (q_at116 b) (by decide) ?_
          iterate 1 (refine q_wst rfl rfl rfl ?_)
          refine q_wif (fun c3 => ?_) (fun c3 => ?_)
          · have c3 : ¬ m 116 i = m 116 (i - 1) := c3
            rw [e7, e7'] at c3
            have c3 : ¬ w i = w (i - 1) := fun z => c3 (by rw [z])
            rw [if_neg c3] at hrn
            iterate 5 (refine q_wst rfl rfl rfl ?_)
            refine q_wrd i rfl hi40 rfl (q_at116 b) (by decide) ?_
            iterate 2 (refine q_wst rfl rfl rfl ?_)
            refine q_wif (fun c4 => ?_) (fun c4 => ?_)
            · have c4 : (5 : Int32) < m 116 i := c4
              rw [e7] at c4
              have c4 := (nI_ltI (a := 5) (by omega) (by omega)).mp c4
              omega
            · iterate 7 (refine q_wst rfl rfl rfl ?_)
              refine ih (i + 1) _ _ _ (by omega) (nI_1 i) ?_ (fun _ => ⟨by show w i ≤ 5; omega, by show q_rn w i ≤ 9; omega⟩) ?_
              · rw [if_neg (by omega)]
                show _ = nI (q_rn w i)
                rw [hrn]
                rfl
              · rw [← q_fg_n (q_bad_f (by omega) (fun z => by omega) (by omega))]
                exact hq
          · have c3 : m 116 i = m 116 (i - 1) := Decidable.not_not.mp c3
            rw [e7, e7'] at c3
            have c3 := q_nIle (by omega) (by omega) c3
            rw [if_pos c3] at hrn
            have hy3 : y + 1 = nI (q_rn w i) := by rw [hy2, nI_1, hrn]
            iterate 8 (refine q_wst rfl rfl rfl ?_)
            refine q_wrd i rfl hi40 rfl (q_at116 b) (by decide) ?_
            iterate 2 (refine q_wst rfl rfl rfl ?_)
            refine q_wif (fun c4 => ?_) (fun c4 => ?_)
            · have c4 : (5 : Int32) < m 116 i := c4
              rw [e7] at c4
              have c4 := (nI_ltI (a := 5) (by omega) (by omega)).mp c4
              omega
            · iterate 5 (refine q_wst rfl rfl rfl ?_)
              refine q_wif (fun c5 => ?_) (fun c5 => ?_)
              · have c5 : ¬ y + 1 = 10 := c5
                rw [hy3] at c5
                have c5 : ¬ q_rn w i = 10 := fun z => c5 (by rw [z]; rfl)
                iterate 2 (refine q_wst rfl rfl rfl ?_)
                refine ih (i + 1) _ _ _ (by omega) (nI_1 i) ?_ (fun _ => ⟨by show w i ≤ 5; omega, by show q_rn w i ≤ 9; omega⟩) ?_
                · rw [if_neg (by omega)]
                  exact hy3
                · rw [← q_fg_n (q_bad_f (by omega) (fun z => by omega) (by omega))]
                  exact hq
              · have c5 : y + 1 = 10 := Decidable.not_not.mp c5
                rw [hy3] at c5
                have c5 := q_nIle (b := 10) (by omega) (by omega) c5
                repeat (refine q_wst rfl rfl rfl ?_)
                refine q_wrd i rfl hi40 rfl (q_at115 b) (by decide) ?_
                exact q_wrt rfl rfl rfl (ret (q_bad_t.mpr (Or.inr (Or.inr (by omega)))))
        · have c : ¬ m 116 i ≤ m 116 (i - 1) := c
          rw [e7, e7'] at c
          have c : w (i - 1) < w i := by
            rcases Nat.lt_or_ge (w (i - 1)) (w i) with z | z
            · exact z
            · exact absurd (nI_le z (by omega)) c
          have rt := ret (q_bad_t.mpr (Or.inr (Or.inl ⟨by omega, c⟩)))
          repeat (refine q_wst rfl rfl rfl ?_)
          refine q_wif (fun c => absurd c (nI_nle (by omega) (by omega))) (fun _ => ?_)
          iterate 3 (refine q_wst rfl rfl rfl ?_)
          refine q_wrd i rfl hi40 rfl (q_at116 b) (by decide) ?_
          iterate 5 (refine q_wst rfl rfl rfl ?_)
          refine q_wrd (i - 1) hm1 (by omega) rfl (q_at116 b) (by decide) ?_
          iterate 1 (refine q_wst rfl rfl rfl ?_)
          refine q_wif (fun c3 => ?_) (fun c3 => ?_)
          · repeat (refine q_wst rfl rfl rfl ?_)
            refine q_wrd i rfl hi40 rfl (q_at116 b) (by decide) ?_
            repeat (refine q_wst rfl rfl rfl ?_)
            refine q_wif (fun c4 => ?_) (fun c4 => ?_)
            · repeat (refine q_wst rfl rfl rfl ?_)
              refine q_wrd i rfl hi40 rfl (q_at115 b) (by decide) ?_
              exact q_wrt rfl rfl rfl rt
            · repeat (refine q_wst rfl rfl rfl ?_)
              refine q_wrd i rfl hi40 rfl (q_at115 b) (by decide) ?_
              exact q_wrt rfl rfl rfl rt
          · have c3 : m 116 i = m 116 (i - 1) := Decidable.not_not.mp c3
            rw [e7, e7'] at c3
            have c3 := q_nIle (by omega) (by omega) c3
            omega
  unfold q_Wm
  iterate 4 (refine q_wst rfl rfl rfl ?_)
  exact loop n 0 _ _ _ (by omega) rfl rfl (fun h => absurd h (by omega)) rfl
theorem t_mvalue (d : Nat) (b : Bool) (m0 : q_M) (p : Nat) (hp : p < 30) (Q : Option Int32 → q_H → Prop) (hQ : ∀ m, q_same m0 m → (∀ c, c < 97 ∨ c = 127 → m c = m0 c) → q_cxM (fun i => m0 106 (40 * p + i)) 40 m → Q (some (q_vl (m0 98) (fun i => m0 106 (40 * p + i)))) (q_hp b m)) : q_Wm (d + 1) 119 [vr 97, vi (nI p)] (q_hp b m0) Q := by
  unfold q_Wm
  repeat (refine q_wst rfl rfl rfl ?_)
  refine q_wcl rfl rfl rfl ?_
  refine t_mread _ b m0 p hp _ (fun m hs ho hc => ?_)
  have hQ2 := hQ m hs ho hc
  unfold q_vl at hQ2
  unfold q_cxM at hc
  obtain ⟨f1, f2⟩ := q_C_f (fun i => m0 106 (40 * p + i))
  generalize (q_C (fun i => m0 106 (40 * p + i)) 40).1 = n at *
  generalize (q_C (fun i => m0 106 (40 * p + i)) 40).2.2.1 = a at *
  generalize (q_C (fun i => m0 106 (40 * p + i)) 40).2.2.2 = w at *
  obtain ⟨c1, c2⟩ := hc
  obtain ⟨g1, g2⟩ := q_fg_neg (a := a) (w := w) n 0 (fun j _ h2 => by have := (f2 j (by omega)).2.1; omega)
  rw [← hs.1 98 rfl] at hQ2
  repeat (refine q_wst rfl rfl rfl ?_)
  refine q_wcl rfl rfl rfl ?_
  refine t_mfault d b m a w n f1 c1 c2 (fun i hi => (f2 i hi).1) _ ?_
  iterate 1 (refine q_wst rfl rfl rfl ?_)
  refine q_wif (fun c => ?_) (fun c => ?_)
  · have c : q_fg a w n 0 < 0 := c
    have hb := g1 c
    have h5 : ∀ i, i < n → w i ≤ 5 := by
      intro i hi
      rcases Nat.lt_or_ge 5 (w i) with z | z
      · have := hb i (Nat.zero_le i) (by omega)
        rw [q_bad_t.mpr (Or.inl z)] at this
        cases this
      · exact z
    unfold q_val at hQ2
    rw [if_pos c] at hQ2
    have loop : ∀ (r i : Nat) (x y : Int32), i + r = n → y = nI i → x = q_vs (m 98) w i → q_WP none (d + 1) 119 18 [some (vr 97), some (vi (nI p)), some (vi x), some (vi y)] [] (q_hp b m) Q := by
      intro r
      induction r with
      | zero =>
        intro i x y hi hy hx
        subst hy
        have hi : i = n := by omega
        subst hi
        iterate 4 (refine q_wst rfl rfl rfl ?_)
        refine q_wif (fun _ => ?_) (fun c => absurd (by show m 97 22 ≤ nI i; rw [c1]; exact nI_le (Nat.le_refl _) (by omega)) c)
        repeat (refine q_wst rfl rfl rfl ?_)
        refine q_wrt rfl rfl rfl ?_
        rw [hx]
        exact hQ2
      | succ r ih =>
        intro i x y hi hy hx
        subst hy
        have hin : i < n := by omega
        have w5 := h5 i hin
        iterate 4 (refine q_wst rfl rfl rfl ?_)
        refine q_wif (fun c => absurd c (by show ¬ m 97 22 ≤ nI i; rw [c1]; exact nI_ge hin (by omega))) (fun _ => ?_)
        iterate 6 (refine q_wst rfl rfl rfl ?_)
        refine q_wrd i rfl (by omega) rfl (q_at116 b) (by decide) ?_
        refine q_wrd (w i) (c2 i hin).2 (by omega) rfl (q_at98 b) (by decide) ?_
        iterate 4 (refine q_wst rfl rfl rfl ?_)
        refine ih (i + 1) _ _ (by omega) (nI_1 i) ?_
        show x + m 98 (w i) = q_vs (m 98) w i + m 98 (w i)
        rw [hx]
    iterate 4 (refine q_wst rfl rfl rfl ?_)
    exact loop n 0 _ _ (by omega) rfl rfl
  · have c : ¬ q_fg a w n 0 < 0 := c
    repeat (refine q_wst rfl rfl rfl ?_)
    refine q_wrt rfl rfl rfl ?_
    unfold q_val at hQ2
    rw [if_neg c] at hQ2
    exact hQ2
