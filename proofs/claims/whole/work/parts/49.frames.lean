/-! the cuts once more, with what they leave alone -/
theorem t_read2 (d : Nat) (b : Bool) (m0 : q_M) (p : Nat) (hp : p < 30) (Q : Option Int32 → q_H → Prop) (hQ : ∀ m, q_same m0 m → (∀ c, c < 5 ∨ 7 < c → m c = m0 c) → q_cx5 (m0 (38 + 2 * p)) 40 m → Q none (q_hp b m)) : q_Wm d 9 [vr 5, vr (37 + 2 * p)] (q_hp b m0) Q := by
  have loop : ∀ (n k : Nat) (x y : Int32) (m : q_M), k + n = 40 → y = nI k → x = nI (q_C (m0 (38 + 2 * p)) k).2.1 → q_same m0 m → (∀ c, c < 5 ∨ 7 < c → m c = m0 c) → q_cx5 (m0 (38 + 2 * p)) k m → q_WP none d 9 9 [some (vr 5), some (vr (37 + 2 * p)), some (vi x), some (vi y)] [] (q_hp b m) Q := by
    intro n
    induction n with
    | zero =>
      intro k x y m hk hy hx hs ho hc
      subst hy
      have hk : k = 40 := by omega
      subst hk
      repeat (refine q_wst rfl rfl rfl ?_)
      exact q_wrv rfl rfl rfl (hQ m hs ho hc)
    | succ n ih =>
      intro k x y m hk hy hx hs ho hc
      subst hy
      have hk40 : k < 40 := by omega
      have hdm : m (38 + 2 * p) = m0 (38 + 2 * p) := hs.1 _ (q_mcP hp).2
      obtain ⟨b1, b2, b3, b4⟩ := q_C_b (m0 (38 + 2 * p)) k
      obtain ⟨c1, c2⟩ := hc
      repeat (refine q_wst rfl rfl rfl ?_)
      refine q_wif (fun c => absurd c (nI_ge (b := 40) hk40 (by omega))) (fun _ => ?_)
      repeat (refine q_wst rfl rfl rfl ?_)
      refine q_wgr rfl (q_atP b p hp) rfl rfl ?_
      repeat (refine q_wst rfl rfl rfl ?_)
      refine q_wrd k rfl hk40 rfl (q_atD b p hp) (by decide) ?_
      repeat (refine q_wst rfl rfl rfl ?_)
      refine q_wif (fun c => ?_) (fun c => ?_)
      · have c : m (38 + 2 * p) k < 2 := c
        rw [hdm] at c
        iterate 9 (refine q_wst rfl rfl rfl ?_)
        refine ih (k + 1) _ _ m (by omega) (nI_1 k) ?_ hs ho ?_
        · rw [q_C_0 c]; rfl
        · unfold q_cx5
          rw [q_C_0 c]
          exact ⟨c1, c2⟩
      · have c : ¬ m (38 + 2 * p) k < 2 := c
        rw [hdm] at c
        by_cases h0 : (q_C (m0 (38 + 2 * p)) k).2.1 = 0
        · rw [h0] at hx
          have hx : x = 0 := hx
          subst hx
          have hn : (q_C (m0 (38 + 2 * p)) k).1 < 20 := by have := b2 h0; omega
          repeat (refine q_wst rfl rfl rfl ?_)
          refine q_wif (fun c9 => absurd c9 (by show ¬ (20 : Int32) ≤ m 5 2; rw [c1]; exact nI_ge (b := 20) hn (by omega))) (fun _ => ?_)
          repeat (refine q_wst rfl rfl rfl ?_)
          refine q_wwr (q_C (m0 (38 + 2 * p)) k).1 c1 hn rfl (q_at6 b) (by decide) ?_
          repeat (refine q_wst rfl rfl rfl ?_)
          refine q_wwr (q_C (m0 (38 + 2 * p)) k).1 (by show m 5 2 + 1 - 1 = _; rw [c1, nI_1, nI_pred]) hn rfl (q_at7 b) (by decide) ?_
          iterate 2 (refine q_wst rfl rfl rfl ?_)
          refine ih (k + 1) _ _ _ (by omega) (nI_1 k) ?_ (q_same_up (q_same_up (q_same_up hs rfl (fun h => by cases h) (fun h => by cases h)) rfl (fun h => by cases h) (fun h => by cases h)) rfl (fun h => by cases h) (fun h => by cases h)) (fun c hc => ?_) ?_
          · rw [q_C_1 c h0]; rfl
          · show q_up (q_up (q_up m 6 _ _) 5 2 _) 7 _ _ c = m0 c
            rw [q_up_ne (by omega), q_up_ne (by omega), q_up_ne (by omega)]
            exact ho c hc
          · unfold q_cx5
            rw [q_C_1 c h0]
            refine ⟨by show m 5 2 + 1 = _; rw [c1, nI_1], fun i hi => ?_⟩
            have hi : i < (q_C (m0 (38 + 2 * p)) k).1 + 1 := hi
            show upd (m 6) (q_C (m0 (38 + 2 * p)) k).1 (nI k) i = nI (if i = (q_C (m0 (38 + 2 * p)) k).1 then k else (q_C (m0 (38 + 2 * p)) k).2.2.1 i) ∧ upd (m 7) (q_C (m0 (38 + 2 * p)) k).1 1 i = nI (if i = (q_C (m0 (38 + 2 * p)) k).1 then 1 else (q_C (m0 (38 + 2 * p)) k).2.2.2 i)
            unfold upd
            by_cases e : i = (q_C (m0 (38 + 2 * p)) k).1
            · simp only [if_pos e]; exact ⟨trivial, rfl⟩
            · simp only [if_neg e]; exact c2 i (by omega)
        · have hpos : 0 < (q_C (m0 (38 + 2 * p)) k).2.1 := by omega
          have hn := b3 hpos
          have e1 : x + 1 = nI ((q_C (m0 (38 + 2 * p)) k).2.1 + 1) := by rw [hx, nI_1]
          iterate 8 (refine q_wst rfl rfl rfl ?_)
          refine q_wif (fun _ => ?_) (fun z => absurd (fun z2 => ?_) z)
          · iterate 2 (refine q_wst rfl rfl rfl ?_)
            refine q_wif (fun z => absurd z (by show ¬ x + 1 ≤ 0; rw [e1]; exact nI_nle (by omega) (by omega))) (fun _ => ?_)
            repeat (refine q_wst rfl rfl rfl ?_)
            refine q_wwr ((q_C (m0 (38 + 2 * p)) k).1 - 1) (by show m 5 2 - nI 1 = _; rw [c1, pk_sub (by omega)]) (by omega) rfl (q_at7 b) (by decide) ?_
            iterate 2 (refine q_wst rfl rfl rfl ?_)
            refine ih (k + 1) _ _ _ (by omega) (nI_1 k) ?_ (q_same_up hs rfl (fun h => by cases h) (fun h => by cases h)) (fun c hc => ?_) ?_
            · rw [q_C_2 c h0]; exact e1
            · show q_up m 7 _ _ c = m0 c
              rw [q_up_ne (by omega)]
              exact ho c hc
            · unfold q_cx5
              rw [q_C_2 c h0]
              refine ⟨c1, fun i hi => ?_⟩
              show m 6 i = nI ((q_C (m0 (38 + 2 * p)) k).2.2.1 i) ∧ upd (m 7) ((q_C (m0 (38 + 2 * p)) k).1 - 1) (x + 1) i = nI (if i = (q_C (m0 (38 + 2 * p)) k).1 - 1 then (q_C (m0 (38 + 2 * p)) k).2.1 + 1 else (q_C (m0 (38 + 2 * p)) k).2.2.2 i)
              unfold upd
              refine ⟨(c2 i hi).1, ?_⟩
              by_cases e : i = (q_C (m0 (38 + 2 * p)) k).1 - 1
              · simp only [if_pos e]; exact e1
              · simp only [if_neg e]; exact (c2 i hi).2
          · have z2 : x + 1 = 1 := z2
            rw [e1] at z2
            have := q_nIle (b := 1) (by omega) (by omega) z2
            omega
  unfold q_Wm
  iterate 7 (refine q_wst rfl rfl rfl ?_)
  refine loop 40 0 _ _ _ rfl rfl rfl (q_same_up (q_same_rf m0) rfl (fun h => by cases h) (fun h => by cases h)) (fun c hc => q_up_ne (by omega)) ⟨rfl, fun i hi => absurd hi (by show ¬ i < 0; omega)⟩
theorem t_valueOf2 (d : Nat) (b : Bool) (m0 : q_M) (p : Nat) (hp : p < 30) (Q : Option Int32 → q_H → Prop) (hQ : ∀ m, q_same m0 m → (∀ c, c < 5 ∨ 7 < c → m c = m0 c) → q_cx5 (m0 (38 + 2 * p)) 40 m → Q (some (q_vl (m0 3) (m0 (38 + 2 * p)))) (q_hp b m)) : q_Wm (d + 2) 58 [vr 0, vi (nI p)] (q_hp b m0) Q := by
  unfold q_Wm
  repeat (refine q_wst rfl rfl rfl ?_)
  refine q_wpc p rfl hp rfl ?_
  refine q_wcl rfl rfl rfl ?_
  refine t_read2 _ b m0 p hp _ (fun m hs ho hc => ?_)
  repeat (refine q_wst rfl rfl rfl ?_)
  refine q_wcl rfl rfl rfl ?_
  obtain ⟨f1, f2⟩ := q_C_f (m0 (38 + 2 * p))
  refine t_valueBy d b m _ _ _ f1 hc.1 hc.2 (fun i hi => ⟨(f2 i hi).1, (f2 i hi).2.1⟩) _ ?_
  refine q_wrt rfl rfl rfl ?_
  rw [hs.1 3 rfl]
  exact hQ m hs ho hc
def p_fr (m0 m : q_M) : Prop := (∀ c, c ≠ 97 → c ≠ 115 → c ≠ 116 → m c = m0 c) ∧ ∀ j, j ≠ 22 → m 97 j = m0 97 j
theorem t_mread2 (d : Nat) (b : Bool) (m0 : q_M) (p : Nat) (hp : p < 30) (Q : Option Int32 → q_H → Prop) (hQ : ∀ m, q_same m0 m → p_fr m0 m → q_cxM (fun i => m0 106 (40 * p + i)) 40 m → Q none (q_hp b m)) : q_Wm d 120 [vr 97, vi (nI p)] (q_hp b m0) Q := by
  have fin : ∀ (k : Nat) (o : Option q_V) (m : q_M), 40 ≤ k → k < 50 → q_same m0 m → p_fr m0 m → q_cxM (fun i => m0 106 (40 * p + i)) 40 m → q_WP none d 120 7 [some (vr 97), some (vi (nI p)), some (vi (nI k)), o] [] (q_hp b m) Q := by
    intro k o m hk hk2 hs ho hc
    iterate 3 (refine q_wst rfl rfl rfl ?_)
    refine q_wif (fun _ => ?_) (fun c => absurd (nI_le (a := 40) hk (by omega)) c)
    exact q_wrv rfl rfl rfl (hQ m hs ho hc)
  generalize hdp : (fun i => m0 106 (40 * p + i)) = dp at fin hQ
  have loop : ∀ (n k : Nat) (y : Int32) (o : Option q_V) (m : q_M), 40 ≤ k + n → k ≤ 40 → y = nI k → (q_C dp k).2.1 = 0 → q_same m0 m → p_fr m0 m → q_cxM dp k m → q_WP none d 120 7 [some (vr 97), some (vi (nI p)), some (vi y), o] [] (q_hp b m) Q := by
    intro n
    induction n with
    | zero =>
      intro k y o m hk hk2 hy h0 hs ho hc
      have : k = 40 := by omega
      subst this
      rw [hy]
      exact fin 40 o m (Nat.le_refl _) (by omega) hs ho hc
    | succ n ih =>
      intro f y o m hk hk2 hy h0 hs ho hc
      subst hy
      rcases Nat.lt_or_ge f 40 with hf | hf
      · iterate 3 (refine q_wst rfl rfl rfl ?_)
        refine q_wif (fun c => absurd c (nI_ge (b := 40) hf (by omega))) (fun _ => ?_)
        iterate 2 (refine q_wst rfl rfl rfl ?_)
        have hb := (q_C_b dp f).2.1 h0
        have leave : ∀ k, f < k → k ≤ 40 → (k < 40 → dp k < 2) → (∀ j, f ≤ j → j < k → ¬ dp j < 2) → q_WP none d 120 42 [some (vr 97), some (vi (nI p)), some (vi (nI k)), some (vi (nI f))] [] (q_hp b m) Q := by
          intro k h1 h2 h3 h4
          obtain ⟨e, he⟩ : ∃ e, k = f + (e + 1) := ⟨k - f - 1, by omega⟩
          have hrun := q_C_run h0 e (fun j a1 a2 => h4 j a1 (by omega))
          rw [← he] at hrun
          iterate 3 (refine q_wst rfl rfl rfl ?_)
          refine q_wif (fun c => absurd c (nI_ge h1 (by omega))) (fun _ => ?_)
          iterate 5 (refine q_wst rfl rfl rfl ?_)
          refine q_wwr (q_C dp f).1 hc.1 (by omega) rfl (q_at115 b) (by decide) ?_
          iterate 7 (refine q_wst rfl rfl rfl ?_)
          refine q_wwr (q_C dp f).1 hc.1 (by omega) rfl (q_at116 b) (by decide) ?_
          iterate 6 (refine q_wst rfl rfl rfl ?_)
          have hs2 : q_same m0 (q_up (q_up (q_up m 115 (q_C dp f).1 (nI f)) 116 (q_C dp f).1 (nI k - nI f)) 97 22 (m 97 22 + 1)) := q_same_up (q_same_up (q_same_up hs rfl (fun h => by cases h) (fun h => by cases h)) rfl (fun h => by cases h) (fun h => by cases h)) rfl (fun _ => rfl) (fun h => by cases h)
          have ho2 : p_fr m0 (q_up (q_up (q_up m 115 (q_C dp f).1 (nI f)) 116 (q_C dp f).1 (nI k - nI f)) 97 22 (m 97 22 + 1)) := by
            refine ⟨fun c h1 h2 h3 => ?_, fun j hj => ?_⟩
            · rw [q_up_ne h1, q_up_ne h3, q_up_ne h2]
              exact ho.1 c h1 h2 h3
            · rw [q_up_eq, q_up_ne (by decide), q_up_ne (by decide)]
              unfold upd
              rw [if_neg hj]
              exact ho.2 j hj
          have hc2 : q_cxM dp k (q_up (q_up (q_up m 115 (q_C dp f).1 (nI f)) 116 (q_C dp f).1 (nI k - nI f)) 97 22 (m 97 22 + 1)) := by
            unfold q_cxM
            rw [hrun]
            refine ⟨by show m 97 22 + 1 = _; rw [hc.1, nI_1], fun i hi => ?_⟩
            have hi : i < (q_C dp f).1 + 1 := hi
            show upd (m 115) (q_C dp f).1 (nI f) i = nI (if i = (q_C dp f).1 then f else (q_C dp f).2.2.1 i) ∧ upd (m 116) (q_C dp f).1 (nI k - nI f) i = nI (if i = (q_C dp f).1 then e + 1 else (q_C dp f).2.2.2 i)
            unfold upd
            by_cases z : i = (q_C dp f).1
            · simp only [if_pos z]
              refine ⟨trivial, ?_⟩
              rw [pk_sub (by omega)]
              congr 1
              omega
            · simp only [if_neg z]
              exact hc.2 i (by omega)
          iterate 2 (refine q_wst rfl rfl rfl ?_)
          rcases Nat.lt_or_ge k 40 with hk40 | hk40
          · refine ih (k + 1) _ _ _ (by omega) (by omega) (nI_1 k) ?_ hs2 ho2 ?_
            · rw [q_C_0 (h3 hk40)]
            · unfold q_cxM
              rw [q_C_0 (h3 hk40)]
              exact hc2
          · have : k = 40 := by omega
            subst this
            exact fin 41 _ _ (by omega) (by omega) hs2 ho2 hc2
        have inner : ∀ (r k : Nat) (y : Int32), k + r = 40 → f ≤ k → y = nI k → (∀ j, f ≤ j → j < k → ¬ dp j < 2) → q_WP none d 120 15 [some (vr 97), some (vi (nI p)), some (vi y), some (vi (nI f))] [] (q_hp b m) Q := by
          intro r
          induction r with
          | zero =>
            intro k y hr hfk hy hall
            subst hy
            have : k = 40 := by omega
            subst this
            iterate 3 (refine q_wst rfl rfl rfl ?_)
            exact leave 40 hf (Nat.le_refl _) (fun z => absurd z (by omega)) hall
          | succ r ih2 =>
            intro k y hr hfk hy hall
            subst hy
            have hk40 : k < 40 := by omega
            have hdm : m 106 (40 * p + k) = dp k := by rw [← hdp, hs.1 106 rfl]
            iterate 3 (refine q_wst rfl rfl rfl ?_)
            refine q_wif (fun c => absurd c (nI_ge (b := 40) hk40 (by omega))) (fun _ => ?_)
            iterate 7 (refine q_wst rfl rfl rfl ?_)
            refine q_wrd (40 * p + k) (by show nI 40 * nI p + nI k = _; rw [pk_mul, nI_add]) (by omega) rfl (q_at106 b) (by decide) ?_
            iterate 2 (refine q_wst rfl rfl rfl ?_)
            refine q_wif (fun c => ?_) (fun c => ?_)
            · have c : m 106 (40 * p + k) < 2 := c
              rw [hdm] at c
              rcases Nat.lt_or_ge f k with z | z
              · exact leave k z (by omega) (fun _ => c) hall
              · have : k = f := by omega
                subst this
                iterate 3 (refine q_wst rfl rfl rfl ?_)
                refine q_wif (fun _ => ?_) (fun z => absurd (nI_le (Nat.le_refl k) (by omega)) z)
                iterate 2 (refine q_wst rfl rfl rfl ?_)
                refine ih (k + 1) _ _ _ (by omega) (by omega) (nI_1 k) ?_ hs ho ?_
                · rw [q_C_0 c]
                · unfold q_cxM
                  rw [q_C_0 c]
                  exact hc
            · have c : ¬ m 106 (40 * p + k) < 2 := c
              rw [hdm] at c
              iterate 2 (refine q_wst rfl rfl rfl ?_)
              refine ih2 (k + 1) _ (by omega) (by omega) (nI_1 k) (fun j h1 h2 => ?_)
              by_cases e : j = k
              · rw [e]; exact c
              · exact hall j h1 (by omega)
        exact inner (40 - f) f _ (by omega) (Nat.le_refl f) rfl (fun j h1 h2 => absurd h2 (by omega))
      · have : f = 40 := by omega
        subst this
        exact fin 40 o m (Nat.le_refl _) (by omega) hs ho hc
  unfold q_Wm
  iterate 5 (refine q_wst rfl rfl rfl ?_)
  exact loop 40 0 _ _ _ (by omega) (by omega) rfl rfl (q_same_up (q_same_rf m0) rfl (fun _ => rfl) (fun h => by cases h)) ⟨fun c h1 h2 h3 => q_up_ne h1, fun j hj => by rw [q_up_eq]; unfold upd; rw [if_neg hj]⟩ ⟨rfl, fun i hi => absurd hi (Nat.not_lt_zero i)⟩
theorem t_mvalue2 (d : Nat) (b : Bool) (m0 : q_M) (p : Nat) (hp : p < 30) (Q : Option Int32 → q_H → Prop) (hQ : ∀ m, q_same m0 m → p_fr m0 m → q_cxM (fun i => m0 106 (40 * p + i)) 40 m → Q (some (q_vl (m0 98) (fun i => m0 106 (40 * p + i)))) (q_hp b m)) : q_Wm (d + 1) 119 [vr 97, vi (nI p)] (q_hp b m0) Q := by
  unfold q_Wm
  repeat (refine q_wst rfl rfl rfl ?_)
  refine q_wcl rfl rfl rfl ?_
  refine t_mread2 _ b m0 p hp _ (fun m hs ho hc => ?_)
  have hQ2 := hQ m hs ho hc
  unfold q_vl at hQ2
  unfold q_cxM at hc
  obtain ⟨f1, f2⟩ := q_C_f (fun i => m0 106 (40 * p + i))
  generalize (q_C (fun i => m0 106 (40 * p + i)) 40).1 = n at *
  generalize (q_C (fun i => m0 106 (40 * p + i)) 40).2.2.1 = a at *
  generalize (q_C (fun i => m0 106 (40 * p + i)) 40).2.2.2 = w at *
  obtain ⟨c1, c2⟩ := hc
  obtain ⟨g1, g2⟩ := q_fg_neg (a := a) (w := w) n 0 (fun j _ h2 => by have := (f2 j (by omega)).2.1; omega)
  rw [← hs.1 98 rfl] at hQ2
  repeat (refine q_wst rfl rfl rfl ?_)
  refine q_wcl rfl rfl rfl ?_
  refine t_mfault d b m a w n f1 c1 c2 (fun i hi => (f2 i hi).1) _ ?_
  iterate 1 (refine q_wst rfl rfl rfl ?_)
  refine q_wif (fun c => ?_) (fun c => ?_)
  · have c : q_fg a w n 0 < 0 := c
    have hb := g1 c
    have h5 : ∀ i, i < n → w i ≤ 5 := by
      intro i hi
      rcases Nat.lt_or_ge 5 (w i) with z | z
      · have := hb i (Nat.zero_le i) (by omega)
        rw [q_bad_t.mpr (Or.inl z)] at this
        cases this
      · exact z
    unfold q_val at hQ2
    rw [if_pos c] at hQ2
    have loop : ∀ (r i : Nat) (x y : Int32), i + r = n → y = nI i → x = q_vs (m 98) w i → q_WP none (d + 1) 119 18 [some (vr 97), some (vi (nI p)), some (vi x), some (vi y)] [] (q_hp b m) Q := by
      intro r
      induction r with
      | zero =>
        intro i x y hi hy hx
        subst hy
        have hi : i = n := by omega
        subst hi
        iterate 4 (refine q_wst rfl rfl rfl ?_)
        refine q_wif (fun _ => ?_) (fun c => absurd (by show m 97 22 ≤ nI i; rw [c1]; exact nI_le (Nat.le_refl _) (by omega)) c)
        repeat (refine q_wst rfl rfl rfl ?_)
        refine q_wrt rfl rfl rfl ?_
        rw [hx]
        exact hQ2
      | succ r ih =>
        intro i x y hi hy hx
        subst hy
        have hin : i < n := by omega
        have w5 := h5 i hin
        iterate 4 (refine q_wst rfl rfl rfl ?_)
        refine q_wif (fun c => absurd c (by show ¬ m 97 22 ≤ nI i; rw [c1]; exact nI_ge hin (by omega))) (fun _ => ?_)
        iterate 6 (refine q_wst rfl rfl rfl ?_)
        refine q_wrd i rfl (by omega) rfl (q_at116 b) (by decide) ?_
        refine q_wrd (w i) (c2 i hin).2 (by omega) rfl (q_at98 b) (by decide) ?_
        iterate 4 (refine q_wst rfl rfl rfl ?_)
        refine ih (i + 1) _ _ (by omega) (nI_1 i) ?_
        show x + m 98 (w i) = q_vs (m 98) w i + m 98 (w i)
        rw [hx]
    iterate 4 (refine q_wst rfl rfl rfl ?_)
    exact loop n 0 _ _ (by omega) rfl rfl
  · have c : ¬ q_fg a w n 0 < 0 := c
    repeat (refine q_wst rfl rfl rfl ?_)
    refine q_wrt rfl rfl rfl ?_
    unfold q_val at hQ2
    rw [if_neg c] at hQ2
    exact hQ2
