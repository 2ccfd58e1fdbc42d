/-! the cuts of a profile; the class's and the reference's reading of them -/
/-- of the first k places: how many cuts, how wide the last one is if it goes on, where they begin, how wide they are -/
def q_C (dp : Nat → Int32) : Nat → Nat × Nat × (Nat → Nat) × (Nat → Nat)
  | 0 => (0, 0, fun _ => 0, fun _ => 0)
  | k + 1 => let s := q_C dp k
    if dp k < 2 then (s.1, 0, s.2.2.1, s.2.2.2)
    else if s.2.1 = 0 then (s.1 + 1, 1, fun i => if i = s.1 then k else s.2.2.1 i, fun i => if i = s.1 then 1 else s.2.2.2 i)
    else (s.1, s.2.1 + 1, s.2.2.1, fun i => if i = s.1 - 1 then s.2.1 + 1 else s.2.2.2 i)
theorem q_C_0 {dp : Nat → Int32} {k : Nat} (h : dp k < 2) : q_C dp (k + 1) = ((q_C dp k).1, 0, (q_C dp k).2.2.1, (q_C dp k).2.2.2) := by
  show (if dp k < 2 then _ else _) = _
  rw [if_pos h]
theorem q_C_1 {dp : Nat → Int32} {k : Nat} (h : ¬ dp k < 2) (h2 : (q_C dp k).2.1 = 0) : q_C dp (k + 1) = ((q_C dp k).1 + 1, 1, (fun i => if i = (q_C dp k).1 then k else (q_C dp k).2.2.1 i), (fun i => if i = (q_C dp k).1 then 1 else (q_C dp k).2.2.2 i)) := by
  show (if dp k < 2 then _ else if (q_C dp k).2.1 = 0 then _ else _) = _
  rw [if_neg h, if_pos h2]
theorem q_C_2 {dp : Nat → Int32} {k : Nat} (h : ¬ dp k < 2) (h2 : ¬ (q_C dp k).2.1 = 0) : q_C dp (k + 1) = ((q_C dp k).1, (q_C dp k).2.1 + 1, (q_C dp k).2.2.1, (fun i => if i = (q_C dp k).1 - 1 then (q_C dp k).2.1 + 1 else (q_C dp k).2.2.2 i)) := by
  show (if dp k < 2 then _ else if (q_C dp k).2.1 = 0 then _ else _) = _
  rw [if_neg h, if_neg h2]
theorem q_C_b (dp : Nat → Int32) : ∀ k, (q_C dp k).2.1 ≤ k ∧ ((q_C dp k).2.1 = 0 → 2 * (q_C dp k).1 ≤ k) ∧ (0 < (q_C dp k).2.1 → 2 * (q_C dp k).1 ≤ k + 1 ∧ 0 < (q_C dp k).1) ∧ (∀ i, i < (q_C dp k).1 → 1 ≤ (q_C dp k).2.2.2 i ∧ (q_C dp k).2.2.2 i ≤ k ∧ (q_C dp k).2.2.1 i < k)
  | 0 => ⟨Nat.le_refl _, fun _ => Nat.le_refl _, fun h => absurd h (Nat.lt_irrefl 0), fun i h => absurd h (Nat.not_lt_zero i)⟩
  | k + 1 => by
    obtain ⟨h1, h2, h3, h4⟩ := q_C_b dp k
    by_cases hd : dp k < 2
    · rw [q_C_0 hd]
      refine ⟨Nat.zero_le _, fun _ => ?_, fun h => absurd h (Nat.lt_irrefl 0), fun i hi => ?_⟩
      · show 2 * (q_C dp k).1 ≤ k + 1
        rcases Nat.eq_zero_or_pos (q_C dp k).2.1 with z | z
        · have := h2 z; omega
        · have := (h3 z).1; omega
      · have := h4 i hi
        exact ⟨this.1, Nat.le_succ_of_le this.2.1, Nat.lt_succ_of_lt this.2.2⟩
    · by_cases hc : (q_C dp k).2.1 = 0
      · rw [q_C_1 hd hc]
        have a := h2 hc
        refine ⟨by show 1 ≤ k + 1; omega, fun h => absurd h Nat.one_ne_zero, fun _ => ⟨by show 2 * ((q_C dp k).1 + 1) ≤ k + 1 + 1; omega, by show 0 < (q_C dp k).1 + 1; omega⟩, fun i hi => ?_⟩
        have hi : i < (q_C dp k).1 + 1 := hi
        show 1 ≤ (if i = (q_C dp k).1 then 1 else (q_C dp k).2.2.2 i) ∧ (if i = (q_C dp k).1 then 1 else (q_C dp k).2.2.2 i) ≤ k + 1 ∧ (if i = (q_C dp k).1 then k else (q_C dp k).2.2.1 i) < k + 1
        by_cases e : i = (q_C dp k).1
        · simp only [if_pos e]; omega
        · simp only [if_neg e]
          have := h4 i (by omega)
          omega
      · rw [q_C_2 hd hc]
        have a := h3 (by omega)
        refine ⟨by show (q_C dp k).2.1 + 1 ≤ k + 1; omega, fun h => by have h : (q_C dp k).2.1 + 1 = 0 := h; omega, fun _ => ⟨by show 2 * (q_C dp k).1 ≤ k + 1 + 1; omega, a.2⟩, fun i hi => ?_⟩
        have hi : i < (q_C dp k).1 := hi
        have := h4 i hi
        show 1 ≤ (if i = (q_C dp k).1 - 1 then (q_C dp k).2.1 + 1 else (q_C dp k).2.2.2 i) ∧ (if i = (q_C dp k).1 - 1 then (q_C dp k).2.1 + 1 else (q_C dp k).2.2.2 i) ≤ k + 1 ∧ (q_C dp k).2.2.1 i < k + 1
        by_cases e : i = (q_C dp k).1 - 1
        · simp only [if_pos e]; omega
        · simp only [if_neg e]; omega
/-- the class's cells hold the cuts -/
def q_cx5 (dp : Nat → Int32) (k : Nat) (m : q_M) : Prop := m 5 2 = nI (q_C dp k).1 ∧ ∀ i, i < (q_C dp k).1 → m 6 i = nI ((q_C dp k).2.2.1 i) ∧ m 7 i = nI ((q_C dp k).2.2.2 i)
theorem t_read (d : Nat) (b : Bool) (m0 : q_M) (p : Nat) (hp : p < 30) (Q : Option Int32 → q_H → Prop) (hQ : ∀ m, q_same m0 m → (∀ c, 97 ≤ c → m c = m0 c) → q_cx5 (m0 (38 + 2 * p)) 40 m → Q none (q_hp b m)) : q_Wm d 9 [vr 5, vr (37 + 2 * p)] (q_hp b m0) Q := by
  have loop : ∀ (n k : Nat) (x y : Int32) (m : q_M), k + n = 40 → y = nI k → x = nI (q_C (m0 (38 + 2 * p)) k).2.1 → q_same m0 m → (∀ c, 97 ≤ c → m c = m0 c) → q_cx5 (m0 (38 + 2 * p)) k m → q_WP none d 9 9 [some (vr 5), some (vr (37 + 2 * p)), some (vi x), some (vi y)] [] (q_hp b m) Q := by
    intro n
    induction n with
    | zero =>
      intro k x y m hk hy hx hs ho hc
      subst hy
      have hk : k = 40 := by omega
      subst hk
      repeat (refine q_wst rfl rfl rfl ?_)
      exact q_wrv rfl rfl rfl (hQ m hs ho hc)
    | succ n ih =>
      intro k x y m hk hy hx hs ho hc
      subst hy
      have hk40 : k < 40 := by omega
      have hdm : m (38 + 2 * p) = m0 (38 + 2 * p) := hs.1 _ (q_mcP hp).2
      obtain ⟨b1, b2, b3, b4⟩ := q_C_b (m0 (38 + 2 * p)) k
      obtain ⟨c1, c2⟩ := hc
      repeat (refine q_wst rfl rfl rfl ?_)
      refine q_wif (fun c => absurd c (nI_ge (b := 40) hk40 (by omega))) (fun _ => ?_)
      repeat (refine q_wst rfl rfl rfl ?_)
      refine q_wgr rfl (q_atP b p hp) rfl rfl ?_
      repeat (refine q_wst rfl rfl rfl ?_)
      refine q_wrd k rfl hk40 rfl (q_atD b p hp) (by decide) ?_
      repeat (refine q_wst rfl rfl rfl ?_)
      refine q_wif (fun c => ?_) (fun c => ?_)
      · have c : m (38 + 2 * p) k < 2 := c
        rw [hdm] at c
        iterate 9 (refine q_wst rfl rfl rfl ?_)
        refine ih (k + 1) _ _ m (by omega) (nI_1 k) ?_ hs ho ?_
        · rw [q_C_0 c]; rfl
        · unfold q_cx5
          rw [q_C_0 c]
          exact ⟨c1, c2⟩
      · have c : ¬ m (38 + 2 * p) k < 2 := c
        rw [hdm] at c
        by_cases h0 : (q_C (m0 (38 + 2 * p)) k).2.1 = 0
        · rw [h0] at hx
          have hx : x = 0 := hx
          subst hx
          have hn : (q_C (m0 (38 + 2 * p)) k).1 < 20 := by have := b2 h0; omega
          repeat (refine q_wst rfl rfl rfl ?_)
          refine q_wif (fun c9 => absurd c9 (by show ¬ (20 : Int32) ≤ m 5 2; rw [c1]; exact nI_ge (b := 20) hn (by omega))) (fun _ => ?_)
          repeat (refine q_wst rfl rfl rfl ?_)
          refine q_wwr (q_C (m0 (38 + 2 * p)) k).1 c1 hn rfl (q_at6 b) (by decide) ?_
          repeat (refine q_wst rfl rfl rfl ?_)
          refine q_wwr (q_C (m0 (38 + 2 * p)) k).1 (by show m 5 2 + 1 - 1 = _; rw [c1, nI_1, nI_pred]) hn rfl (q_at7 b) (by decide) ?_
          iterate 2 (refine q_wst rfl rfl rfl ?_)
          refine ih (k + 1) _ _ _ (by omega) (nI_1 k) ?_ (q_same_up (q_same_up (q_same_up hs rfl (fun h => by cases h) (fun h => by cases h)) rfl (fun h => by cases h) (fun h => by cases h)) rfl (fun h => by cases h) (fun h => by cases h)) (fun c hc => ?_) ?_
          · rw [q_C_1 c h0]; rfl
          · show q_up (q_up (q_up m 6 _ _) 5 2 _) 7 _ _ c = m0 c
            rw [q_up_ne (by omega), q_up_ne (by omega), q_up_ne (by omega)]
            exact ho c hc
          · unfold q_cx5
            rw [q_C_1 c h0]
            refine ⟨by show m 5 2 + 1 = _; rw [c1, nI_1], fun i hi => ?_⟩
            have hi : i < (q_C (m0 (38 + 2 * p)) k).1 + 1 := hi
            show upd (m 6) (q_C (m0 (38 + 2 * p)) k).1 (nI k) i = nI (if i = (q_C (m0 (38 + 2 * p)) k).1 then k else (q_C (m0 (38 + 2 * p)) k).2.2.1 i) ∧ upd (m 7) (q_C (m0 (38 + 2 * p)) k).1 1 i = nI (if i = (q_C (m0 (38 + 2 * p)) k).1 then 1 else (q_C (m0 (38 + 2 * p)) k).2.2.2 i)
            unfold upd
            by_cases e : i = (q_C (m0 (38 + 2 * p)) k).1
            · simp only [if_pos e]; exact ⟨trivial, rfl⟩
            · simp only [if_neg e]; exact c2 i (by omega)
        · have hpos : 0 < (q_C (m0 (38 + 2 * p)) k).2.1 := by omega
          have hn := b3 hpos
          have e1 : x + 1 = nI ((q_C (m0 (38 + 2 * p)) k).2.1 + 1) := by rw [hx, nI_1]
          iterate 8 (refine q_wst rfl rfl rfl ?_)
          refine q_wif (fun _ => ?_) (fun z => absurd (fun z2 => ?_) z)
          · iterate 2 (refine q_wst rfl rfl rfl ?_)
            refine q_wif (fun z => absurd z (by show ¬ x + 1 ≤ 0; rw [e1]; exact nI_nle (by omega) (by omega))) (fun _ => ?_)
            repeat (refine q_wst rfl rfl rfl ?_)
            refine q_wwr ((q_C (m0 (38 + 2 * p)) k).1 - 1) (by show m 5 2 - nI 1 = _; rw [c1, pk_sub (by omega)]) (by omega) rfl (q_at7 b) (by decide) ?_
            iterate 2 (refine q_wst rfl rfl rfl ?_)
            refine ih (k + 1) _ _ _ (by omega) (nI_1 k) ?_ (q_same_up hs rfl (fun h => by cases h) (fun h => by cases h)) (fun c hc => ?_) ?_
            · rw [q_C_2 c h0]; exact e1
            · show q_up m 7 _ _ c = m0 c
              rw [q_up_ne (by omega)]
              exact ho c hc
            · unfold q_cx5
              rw [q_C_2 c h0]
              refine ⟨c1, fun i hi => ?_⟩
              show m 6 i = nI ((q_C (m0 (38 + 2 * p)) k).2.2.1 i) ∧ upd (m 7) ((q_C (m0 (38 + 2 * p)) k).1 - 1) (x + 1) i = nI (if i = (q_C (m0 (38 + 2 * p)) k).1 - 1 then (q_C (m0 (38 + 2 * p)) k).2.1 + 1 else (q_C (m0 (38 + 2 * p)) k).2.2.2 i)
              unfold upd
              refine ⟨(c2 i hi).1, ?_⟩
              by_cases e : i = (q_C (m0 (38 + 2 * p)) k).1 - 1
              · simp only [if_pos e]; exact e1
              · simp only [if_neg e]; exact (c2 i hi).2
          · have z2 : x + 1 = 1 := z2
            rw [e1] at z2
            have := q_nIle (b := 1) (by omega) (by omega) z2
            omega
  unfold q_Wm
  iterate 7 (refine q_wst rfl rfl rfl ?_)
  refine loop 40 0 _ _ _ rfl rfl rfl (q_same_up (q_same_rf m0) rfl (fun h => by cases h) (fun h => by cases h)) (fun c hc => q_up_ne (by omega)) ⟨rfl, fun i hi => absurd hi (by show ¬ i < 0; omega)⟩
