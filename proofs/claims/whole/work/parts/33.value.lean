/-! values; the reference's cuts -/
theorem q_fg_neg {a w : Nat → Nat} : ∀ (r i : Nat), (∀ j, i ≤ j → j < i + r → a j < 1000) → (q_fg a w r i < 0 → ∀ j, i ≤ j → j < i + r → q_bad w j = false) ∧ (¬ q_fg a w r i < 0 → ∃ j, i ≤ j ∧ j < i + r ∧ q_fg a w r i = nI (a j))
  | 0, i, _ => ⟨fun _ j h1 h2 => absurd h2 (by omega), fun h => absurd (by decide : (-1 : Int32) < 0) h⟩
  | r + 1, i, ha => by
    cases hb : q_bad w i with
    | true =>
      rw [q_fg_b hb]
      exact ⟨fun h => absurd h (nI_pos (by have := ha i (Nat.le_refl i) (by omega); omega)), fun _ => ⟨i, Nat.le_refl i, by omega, rfl⟩⟩
    | false =>
      rw [q_fg_n hb]
      obtain ⟨g1, g2⟩ := q_fg_neg (a := a) (w := w) r (i + 1) (fun j h1 h2 => ha j (by omega) (by omega))
      refine ⟨fun h j h1 h2 => ?_, fun h => ?_⟩
      · by_cases e : j = i
        · rw [e]; exact hb
        · exact g1 h j (by omega) (by omega)
      · obtain ⟨j, h1, h2, h3⟩ := g2 h
        exact ⟨j, by omega, by omega, h3⟩
def q_vs (wt : Nat → Int32) (w : Nat → Nat) : Nat → Int32
  | 0 => 0
  | i + 1 => q_vs wt w i + wt (w i)
def q_val (wt : Nat → Int32) (a w : Nat → Nat) (n : Nat) : Int32 := if q_fg a w n 0 < 0 then q_vs wt w n else -1
/-- the value of a profile; -1: it has a fault -/
def q_vl (wt dp : Nat → Int32) : Int32 := q_val wt (q_C dp 40).2.2.1 (q_C dp 40).2.2.2 (q_C dp 40).1
theorem t_valueBy (d : Nat) (b : Bool) (m : q_M) (a w : Nat → Nat) (n : Nat) (hn : n ≤ 20) (c1 : m 5 2 = nI n) (c2 : ∀ i, i < n → m 6 i = nI (a i) ∧ m 7 i = nI (w i)) (hw : ∀ i, i < n → w i ≤ 40 ∧ a i < 40) (Q : Option Int32 → q_H → Prop) (hQ : Q (some (q_val (m 3) a w n)) (q_hp b m)) : q_Wm (d + 1) 10 [vr 5, vr 3] (q_hp b m) Q := by
  obtain ⟨g1, g2⟩ := q_fg_neg (a := a) (w := w) n 0 (fun j _ h2 => by have := (hw j (by omega)).2; omega)
  unfold q_Wm
  repeat (refine q_wst rfl rfl rfl ?_)
  refine q_wcl rfl rfl rfl ?_
  refine t_fault d b m a w n hn c1 c2 (fun i hi => (hw i hi).1) _ ?_
  iterate 1 (refine q_wst rfl rfl rfl ?_)
  refine q_wif (fun c => ?_) (fun c => ?_)
  · have c : q_fg a w n 0 < 0 := c
    have hb := g1 c
    have h5 : ∀ i, i < n → w i ≤ 5 := by
      intro i hi
      rcases Nat.lt_or_ge 5 (w i) with z | z
      · have := hb i (Nat.zero_le i) (by omega)
        rw [q_bad_t.mpr (Or.inl z)] at this
        cases this
      · exact z
    have hQ2 : Q (some (q_vs (m 3) w n)) (q_hp b m) := by
      unfold q_val at hQ
      rw [if_pos c] at hQ
      exact hQ
    have loop : ∀ (r i : Nat) (x y : Int32), i + r = n → y = nI i → x = q_vs (m 3) w i → q_WP none (d + 1) 10 13 [some (vr 5), some (vr 3), some (vi x), some (vi y)] [] (q_hp b m) Q := by
      intro r
      induction r with
      | zero =>
        intro i x y hi hy hx
        subst hy
        have hi : i = n := by omega
        subst hi
        repeat (refine q_wst rfl rfl rfl ?_)
        refine q_wif (fun _ => ?_) (fun c => absurd (by show m 5 2 ≤ nI i; rw [c1]; exact nI_le (Nat.le_refl _) (by omega)) c)
        repeat (refine q_wst rfl rfl rfl ?_)
        refine q_wrt rfl rfl rfl ?_
        rw [hx]
        exact hQ2
      | succ r ih =>
        intro i x y hi hy hx
        subst hy
        have hin : i < n := by omega
        have w5 := h5 i hin
        repeat (refine q_wst rfl rfl rfl ?_)
        refine q_wif (fun c => absurd c (by show ¬ m 5 2 ≤ nI i; rw [c1]; exact nI_ge hin (by omega))) (fun _ => ?_)
        repeat (refine q_wst rfl rfl rfl ?_)
        refine q_wrd i rfl (by omega) rfl (q_at7 b) (by decide) ?_
        refine q_wrd (w i) (c2 i hin).2 (by omega) rfl (q_at3 b) (by decide) ?_
        iterate 4 (refine q_wst rfl rfl rfl ?_)
        refine ih (i + 1) _ _ (by omega) (nI_1 i) ?_
        show x + m 3 (w i) = q_vs (m 3) w i + m 3 (w i)
        rw [hx]
    iterate 4 (refine q_wst rfl rfl rfl ?_)
    exact loop n 0 _ _ (by omega) rfl rfl
  · have c : ¬ q_fg a w n 0 < 0 := c
    repeat (refine q_wst rfl rfl rfl ?_)
    refine q_wrt rfl rfl rfl ?_
    unfold q_val at hQ
    rw [if_neg c] at hQ
    exact hQ
theorem q_C_f (dp : Nat → Int32) : (q_C dp 40).1 ≤ 20 ∧ ∀ i, i < (q_C dp 40).1 → (q_C dp 40).2.2.2 i ≤ 40 ∧ (q_C dp 40).2.2.1 i < 40 ∧ 1 ≤ (q_C dp 40).2.2.2 i := by
  obtain ⟨b1, b2, b3, b4⟩ := q_C_b dp 40
  refine ⟨?_, fun i hi => ⟨(b4 i hi).2.1, (b4 i hi).2.2, (b4 i hi).1⟩⟩
  rcases Nat.eq_zero_or_pos (q_C dp 40).2.1 with z | z
  · have := b2 z; omega
  · have := (b3 z).1; omega
theorem t_valueOf (d : Nat) (b : Bool) (m0 : q_M) (p : Nat) (hp : p < 30) (Q : Option Int32 → q_H → Prop) (hQ : ∀ m, q_same m0 m → (∀ c, 97 ≤ c → m c = m0 c) → q_cx5 (m0 (38 + 2 * p)) 40 m → Q (some (q_vl (m0 3) (m0 (38 + 2 * p)))) (q_hp b m)) : q_Wm (d + 2) 58 [vr 0, vi (nI p)] (q_hp b m0) Q := by
  unfold q_Wm
  repeat (refine q_wst rfl rfl rfl ?_)
  refine q_wpc p rfl hp rfl ?_
  refine q_wcl rfl rfl rfl ?_
  refine t_read _ b m0 p hp _ (fun m hs ho hc => ?_)
  repeat (refine q_wst rfl rfl rfl ?_)
  refine q_wcl rfl rfl rfl ?_
  obtain ⟨f1, f2⟩ := q_C_f (m0 (38 + 2 * p))
  refine t_valueBy d b m _ _ _ f1 hc.1 hc.2 (fun i hi => ⟨(f2 i hi).1, (f2 i hi).2.1⟩) _ ?_
  refine q_wrt rfl rfl rfl ?_
  rw [hs.1 3 rfl]
  exact hQ m hs ho hc
/-- a cut that goes on from f -/
theorem q_C_run {dp : Nat → Int32} {f : Nat} (h0 : (q_C dp f).2.1 = 0) : ∀ e, (∀ j, f ≤ j → j < f + (e + 1) → ¬ dp j < 2) → q_C dp (f + (e + 1)) = ((q_C dp f).1 + 1, e + 1, (fun i => if i = (q_C dp f).1 then f else (q_C dp f).2.2.1 i), (fun i => if i = (q_C dp f).1 then e + 1 else (q_C dp f).2.2.2 i))
  | 0, h => by
    show q_C dp (f + 1) = _
    rw [q_C_1 (h f (Nat.le_refl f) (by omega)) h0]
  | e + 1, h => by
    have ih := q_C_run h0 e (fun j h1 h2 => h j h1 (by omega))
    show q_C dp (f + (e + 1) + 1) = _
    rw [q_C_2 (h _ (by omega) (by omega)) (by rw [ih]; exact Nat.succ_ne_zero e), ih]
    show ((q_C dp f).1 + 1, e + 1 + 1, _, _) = _
    congr 3
    funext i
    show (if i = (q_C dp f).1 + 1 - 1 then e + 1 + 1 else if i = (q_C dp f).1 then e + 1 else (q_C dp f).2.2.2 i) = _
    by_cases z : i = (q_C dp f).1
    · rw [if_pos (by omega), if_pos z]
    · rw [if_neg (by omega), if_neg z, if_neg z]
def q_cxM (dp : Nat → Int32) (k : Nat) (m : q_M) : Prop := m 97 22 = nI (q_C dp k).1 ∧ ∀ i, i < (q_C dp k).1 → m 115 i = nI ((q_C dp k).2.2.1 i) ∧ m 116 i = nI ((q_C dp k).2.2.2 i)
theorem t_mread (d : Nat) (b : Bool) (m0 : q_M) (p : Nat) (hp : p < 30) (Q : Option Int32 → q_H → Prop) (hQ : ∀ m, q_same m0 m → (∀ c, c < 97 ∨ c = 127 → m c = m0 c) → q_cxM (fun i => m0 106 (40 * p + i)) 40 m → Q none (q_hp b m)) : q_Wm d 120 [vr 97, vi (nI p)] (q_hp b m0) Q := by
  have fin : ∀ (k : Nat) (o : Option q_V) (m : q_M), 40 ≤ k → k < 50 → q_same m0 m → (∀ c, c < 97 ∨ c = 127 → m c = m0 c) → q_cxM (fun i => m0 106 (40 * p + i)) 40 m → q_WP none d 120 7 [some (vr 97), some (vi (nI p)), some (vi (nI k)), o] [] (q_hp b m) Q := by
    intro k o m hk hk2 hs ho hc
    iterate 3 (refine q_wst rfl rfl rfl ?_)
    refine q_wif (fun _ => ?_) (fun c => absurd (nI_le (a := 40) hk (by omega)) c)
    exact q_wrv rfl rfl rfl (hQ m hs ho hc)
  generalize hdp : (fun i => m0 106 (40 * p + i)) = dp at fin hQ
  have loop : ∀ (n k : Nat) (y : Int32) (o : Option q_V) (m : q_M), 40 ≤ k + n → k ≤ 40 → y = nI k → (q_C dp k).2.1 = 0 → q_same m0 m → (∀ c, c < 97 ∨ c = 127 → m c = m0 c) → q_cxM dp k m → q_WP none d 120 7 [some (vr 97), some (vi (nI p)), some (vi y), o] [] (q_hp b m) Q := by
    intro n
    induction n with
    | zero =>
      intro k y o m hk hk2 hy h0 hs ho hc
      have : k = 40 := by omega
      subst this
      rw [hy]
      exact fin 40 o m (Nat.le_refl _) (by omega) hs ho hc
    | succ n ih =>
      intro f y o m hk hk2 hy h0 hs ho hc
      subst hy
      rcases Nat.lt_or_ge f 40 with hf | hf
      · iterate 3 (refine q_wst rfl rfl rfl ?_)
        refine q_wif (fun c => absurd c (nI_ge (b := 40) hf (by omega))) (fun _ => ?_)
        iterate 2 (refine q_wst rfl rfl rfl ?_)
        have hb := (q_C_b dp f).2.1 h0
        have leave : ∀ k, f < k → k ≤ 40 → (k < 40 → dp k < 2) → (∀ j, f ≤ j → j < k → ¬ dp j < 2) → q_WP none d 120 42 [some (vr 97), some (vi (nI p)), some (vi (nI k)), some (vi (nI f))] [] (q_hp b m) Q := by
          intro k h1 h2 h3 h4
          obtain ⟨e, he⟩ : ∃ e, k = f + (e + 1) := ⟨k - f - 1, by omega⟩
          have hrun := q_C_run h0 e (fun j a1 a2 => h4 j a1 (by omega))
          rw [← he] at hrun
          iterate 3 (refine q_wst rfl rfl rfl ?_)
          refine q_wif (fun c => absurd c (nI_ge h1 (by omega))) (fun _ => ?_)
          iterate 5 (refine q_wst rfl rfl rfl ?_)
          refine q_wwr (q_C dp f).1 hc.1 (by omega) rfl (q_at115 b) (by decide) ?_
          iterate 7 (refine q_wst rfl rfl rfl ?_)
          refine q_wwr (q_C dp f).1 hc.1 (by omega) rfl (q_at116 b) (by decide) ?_
          iterate 6 (refine q_wst rfl rfl rfl ?_)
          have hs2 : q_same m0 (q_up (q_up (q_up m 115 (q_C dp f).1 (nI f)) 116 (q_C dp f).1 (nI k - nI f)) 97 22 (m 97 22 + 1)) := q_same_up (q_same_up (q_same_up hs rfl (fun h => by cases h) (fun h => by cases h)) rfl (fun h => by cases h) (fun h => by cases h)) rfl (fun _ => rfl) (fun h => by cases h)
          have ho2 : ∀ c, c < 97 ∨ c = 127 → q_up (q_up (q_up m 115 (q_C dp f).1 (nI f)) 116 (q_C dp f).1 (nI k - nI f)) 97 22 (m 97 22 + 1) c = m0 c := fun c hcc => by
            rw [q_up_ne (by omega), q_up_ne (by omega), q_up_ne (by omega)]
            exact ho c hcc
          have hc2 : q_cxM dp k (q_up (q_up (q_up m 115 (q_C dp f).1 (nI f)) 116 (q_C dp f).1 (nI k - nI f)) 97 22 (m 97 22 + 1)) := by
            unfold q_cxM
            rw [hrun]
            refine ⟨by show m 97 22 + 1 = _; rw [hc.1, nI_1], fun i hi => ?_⟩
            have hi : i < (q_C dp f).1 + 1 := hi
            show upd (m 115) (q_C dp f).1 (nI f) i = nI (if i = (q_C dp f).1 then f else (q_C dp f).2.2.1 i) ∧ upd (m 116) (q_C dp f).1 (nI k - nI f) i = nI (if i = (q_C dp f).1 then e + 1 else (q_C dp f).2.2.2 i)
            unfold upd
            by_cases z : i = (q_C dp f).1
            · simp only [if_pos z]
              refine ⟨trivial, ?_⟩
              rw [pk_sub (by omega)]
              congr 1
              omega
            · simp only [if_neg z]
              exact hc.2 i (by omega)
          iterate 2 (refine q_wst rfl rfl rfl ?_)
          rcases Nat.lt_or_ge k 40 with hk40 | hk40
          · refine ih (k + 1) _ _ _ (by omega) (by omega) (nI_1 k) ?_ hs2 ho2 ?_
            · rw [q_C_0 (h3 hk40)]
            · unfold q_cxM
              rw [q_C_0 (h3 hk40)]
              exact hc2
          · have : k = 40 := by omega
            subst this
            exact fin 41 _ _ (by omega) (by omega) hs2 ho2 hc2
        have inner : ∀ (r k : Nat) (y : Int32), k + r = 40 → f ≤ k → y = nI k → (∀ j, f ≤ j → j < k → ¬ dp j < 2) → q_WP none d 120 15 [some (vr 97), some (vi (nI p)), some (vi y), some (vi (nI f))] [] (q_hp b m) Q := by
          intro r
          induction r with
          | zero =>
            intro k y hr hfk hy hall
            subst hy
            have : k = 40 := by omega
            subst this
            iterate 3 (refine q_wst rfl rfl rfl ?_)
            exact leave 40 hf (Nat.le_refl _) (fun z => absurd z (by omega)) hall
          | succ r ih2 =>
            intro k y hr hfk hy hall
            subst hy
            have hk40 : k < 40 := by omega
            have hdm : m 106 (40 * p + k) = dp k := by rw [← hdp, hs.1 106 rfl]
            iterate 3 (refine q_wst rfl rfl rfl ?_)
            refine q_wif (fun c => absurd c (nI_ge (b := 40) hk40 (by omega))) (fun _ => ?_)
            iterate 7 (refine q_wst rfl rfl rfl ?_)
            refine q_wrd (40 * p + k) (by show nI 40 * nI p + nI k = _; rw [pk_mul, nI_add]) (by omega) rfl (q_at106 b) (by decide) ?_
            iterate 2 (refine q_wst rfl rfl rfl ?_)
            refine q_wif (fun c => ?_) (fun c => ?_)
            · have c : m 106 (40 * p + k) < 2 := c
              rw [hdm] at c
              rcases Nat.lt_or_ge f k with z | z
              · exact leave k z (by omega) (fun _ => c) hall
              · have : k = f := by omega
                subst this
                iterate 3 (refine q_wst rfl rfl rfl ?_)
                refine q_wif (fun _ => ?_) (fun z => absurd (nI_le (Nat.le_refl k) (by omega)) z)
                iterate 2 (refine q_wst rfl rfl rfl ?_)
                refine ih (k + 1) _ _ _ (by omega) (by omega) (nI_1 k) ?_ hs ho ?_
                · rw [q_C_0 c]
                · unfold q_cxM
                  rw [q_C_0 c]
                  exact hc
            · have c : ¬ m 106 (40 * p + k) < 2 := c
              rw [hdm] at c
              iterate 2 (refine q_wst rfl rfl rfl ?_)
              refine ih2 (k + 1) _ (by omega) (by omega) (nI_1 k) (fun j h1 h2 => ?_)
              by_cases e : j = k
              · rw [e]; exact c
              · exact hall j h1 (by omega)
        exact inner (40 - f) f _ (by omega) (Nat.le_refl f) rfl (fun j h1 h2 => absurd h2 (by omega))
      · have : f = 40 := by omega
        subst this
        exact fin 40 o m (Nat.le_refl _) (by omega) hs ho hc
  unfold q_Wm
  iterate 5 (refine q_wst rfl rfl rfl ?_)
  exact loop 40 0 _ _ _ (by omega) (by omega) rfl rfl (q_same_up (q_same_rf m0) rfl (fun _ => rfl) (fun h => by cases h)) (fun c hcc => q_up_ne (by omega)) ⟨rfl, fun i hi => absurd hi (Nat.not_lt_zero i)⟩
