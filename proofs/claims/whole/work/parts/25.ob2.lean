/-! pieces' numbers; a change of one field of a piece on both sides; obligations: lose, burn, as, depth -/
theorem q_pr {x : Int32} {P : Nat} (hP : P ≤ 30) : (0 ≤ x ∧ x ≤ nI P - 1) ↔ ∃ p, p < P ∧ x = nI p := by
  have hs : (nI P - 1).toInt = (P : Int) - 1 := pk_sub_toInt (a := P) (b := 1) (by omega) (by omega)
  constructor
  · rintro ⟨h1, h2⟩
    obtain ⟨j, hj, rfl⟩ := nI_of (Int32.not_lt.mpr h1)
    rw [Int32.le_iff_toInt_le, hs, nI_toInt hj] at h2
    exact ⟨j, by omega, rfl⟩
  · rintro ⟨p, hp, rfl⟩
    refine ⟨nI_pos' (by omega), ?_⟩
    rw [Int32.le_iff_toInt_le, hs, nI_toInt (by omega)]
    omega
/-- a piece out of the class's row -/
theorem q_wpc {X : q_X} {d k pc : Nat} {pl : q_L} {st : List q_V} {b : Bool} {m : q_M} {Q : Option Int32 → q_H → Prop} {a b9 : Nat} {cc x : Int32} (p : Nat) (hx : x = nI p) (hp : p < 30) (hc : q_cd k pc = some (.aaload, a, b9, cc)) (g : q_WP X d k (pc + 1) pl (vr (37 + 2 * p) :: st) (q_hp b m) Q) : q_WP X d k pc pl (.inl x :: vr 1 :: st) (q_hp b m) Q :=
  q_wra (els := q_els) p _ hx hp (q_elsg p hp) hc (q_at1 b) (Or.inl rfl) (by decide) g
theorem t_isPiece (d : Nat) (b : Bool) (m : q_M) {P : Nat} (x : Int32) (hP : P ≤ 30) (h1 : m 0 1 = nI P) (Q : Option Int32 → q_H → Prop) (ht : ∀ p, p < P → x = nI p → Q (some 1) (q_hp b m)) (hf : (∀ p, p < P → x ≠ nI p) → Q (some 0) (q_hp b m)) : q_Wm (d + 1) 56 [vr 0, vi x] (q_hp b m) Q := by
  unfold q_Wm
  repeat (refine q_wst rfl rfl rfl ?_)
  refine q_wcl rfl rfl rfl ?_
  refine t_within _ _ _ _ _ _ (fun c1 c2 => ?_) (fun c1 => ?_)
  · have c2 : x ≤ m 0 1 - 1 := c2
    rw [h1] at c2
    obtain ⟨p, hp, e⟩ := (q_pr hP).mp ⟨c1, c2⟩
    exact q_wrt rfl rfl rfl (ht p hp e)
  · have c1 : ¬ (0 ≤ x ∧ x ≤ m 0 1 - 1) := c1
    rw [h1, q_pr hP] at c1
    exact q_wrt rfl rfl rfl (hf (fun p hp e => c1 ⟨p, hp, e⟩))
theorem t_misPiece (d : Nat) (b : Bool) (m : q_M) {P : Nat} (x : Int32) (hP : P ≤ 30) (h1 : m 97 4 = nI P) (Q : Option Int32 → q_H → Prop) (ht : ∀ p, p < P → x = nI p → Q (some 1) (q_hp b m)) (hf : (∀ p, p < P → x ≠ nI p) → Q (some 0) (q_hp b m)) : q_Wm (d + 1) 118 [vr 97, vi x] (q_hp b m) Q := by
  unfold q_Wm
  repeat (refine q_wst rfl rfl rfl ?_)
  refine q_wcl rfl rfl rfl ?_
  refine t_mwithin _ _ _ _ _ _ (fun c1 c2 => ?_) (fun c1 => ?_)
  · have c2 : x ≤ m 97 4 - 1 := c2
    rw [h1] at c2
    obtain ⟨p, hp, e⟩ := (q_pr hP).mp ⟨c1, c2⟩
    exact q_wrt rfl rfl rfl (ht p hp e)
  · have c1 : ¬ (0 ≤ x ∧ x ≤ m 97 4 - 1) := c1
    rw [h1, q_pr hP] at c1
    exact q_wrt rfl rfl rfl (hf (fun p hp e => c1 ⟨p, hp, e⟩))
/-- a field of a piece (1 kind, 4 holder, 5 due, 6 state) changes on both sides -/
theorem q_RR_pf {P : Nat} {w : Nat → Nat} {b : Bool} {m m' : q_M} {p j : Nat} {v : Int32} (hR : q_R0 P w b m) (h13 : q_r13 m) (hp : p < P) (hj : j = 1 ∨ j = 4 ∨ j = 5 ∨ j = 6) (hA : ∀ c, q_mc c = true → c ≠ 37 + 2 * p → c ≠ 99 + j → m' c = m c) (h7 : ∀ i, q_ms i = true → m' 97 i = m 97 i) (h6 : m' 126 0 = m 126 0) (e1 : m' (37 + 2 * p) = upd (m (37 + 2 * p)) j v) (e2 : m' (99 + j) = upd (m (99 + j)) p v)
    (v1 : j = 1 → ∃ a, a ≤ 3 ∧ v = nI a) (v4 : j = 4 → ∃ a, a ≤ 7 ∧ v = nI a) (v5 : j = 5 → -1 ≤ v.toInt ∧ v.toInt ≤ 9999) (v6 : j = 6 → ∃ a, a ≤ 2 ∧ v = nI a) : q_R0 P w b m' ∧ q_r13 m' := by
  obtain ⟨r1, r2, r3, r4, r5, r6, r7, r8, r9, r10, r11, r12, r14⟩ := hR
  have hP := r1.1
  have B : ∀ c, q_mc c = true → (c < 37 ∨ 96 < c) → (c ≠ 100 ∧ c ≠ 103 ∧ c ≠ 104 ∧ c ≠ 105) → m' c = m c := fun c h1 h2 h3 => hA c h1 (by clear v1 v4 v5 v6; omega) (by clear v1 v4 v5 v6; omega)
  have hq : ∀ q, q < 30 → q ≠ p → m' (37 + 2 * q) = m (37 + 2 * q) := fun q h1 h2 => hA _ (by unfold q_mc; simp only [Bool.or_eq_true, Bool.and_eq_true, decide_eq_true_eq]; omega) (by omega) (by omega)
  have hd : ∀ q, q < 30 → m' (38 + 2 * q) = m (38 + 2 * q) := fun q h1 => hA _ (by unfold q_mc; simp only [Bool.or_eq_true, Bool.and_eq_true, decide_eq_true_eq]; omega) (by omega) (by omega)
  have hc : ∀ c, (c = 100 ∨ c = 103 ∨ c = 104 ∨ c = 105) → c ≠ 99 + j → m' c = m c := fun c h1 h2 => hA c (by rcases h1 with rfl | rfl | rfl | rfl <;> rfl) (by omega) h2
  have f8 : ∀ q, q < 30 → ∀ i, (i = 1 ∨ i = 4 ∨ i = 5 ∨ i = 6) → m' (37 + 2 * q) i = (if q = p ∧ i = j then v else m (37 + 2 * q) i) ∧ m' (99 + i) q = (if q = p ∧ i = j then v else m (99 + i) q) := by
    intro q hq30 i hi
    constructor
    · by_cases h : q = p
      · subst h
        rw [e1]
        unfold upd
        by_cases h2 : i = j <;> simp [h2]
      · rw [hq q hq30 h, if_neg (fun z => h z.1)]
    · by_cases h2 : i = j
      · subst h2
        rw [e2]
        unfold upd
        by_cases h : q = p <;> simp [h]
      · rw [hc (99 + i) (by omega) (by omega), if_neg (fun z => h2 z.2)]
  have g2 : ∀ q, q < 30 → ∀ i, (i = 2 ∨ i = 3) → m' (37 + 2 * q) i = m (37 + 2 * q) i := by
    intro q hq30 i hi
    by_cases h : q = p
    · subst h
      rw [e1]
      unfold upd
      rw [if_neg (by clear v1 v4 v5 v6; omega)]
    · rw [hq q hq30 h]
  have c1 : ∀ q, q < 30 → _ := fun q h => f8 q h 1 (Or.inl rfl)
  have c4 : ∀ q, q < 30 → _ := fun q h => f8 q h 4 (Or.inr (Or.inl rfl))
  have c5 : ∀ q, q < 30 → _ := fun q h => f8 q h 5 (Or.inr (Or.inr (Or.inl rfl)))
  have c6 : ∀ q, q < 30 → _ := fun q h => f8 q h 6 (Or.inr (Or.inr (Or.inr rfl)))
  refine ⟨⟨?_, ?_, ?_, ?_, ?_, ?_, ?_, ?_, ?_, ?_, ?_, ?_, ?_⟩, ?_⟩
  · unfold q_r1; rw [B 0 rfl (by decide) (by decide), h7 4 rfl]; exact r1
  · unfold q_r2; rw [B 0 rfl (by decide) (by decide), h7 3 rfl]; exact r2
  · unfold q_r3; rw [B 0 rfl (by decide) (by decide), h7 0 rfl]; exact r3
  · unfold q_r4; rw [B 0 rfl (by decide) (by decide), B 35 rfl (by decide) (by decide), B 113 rfl (by decide) (by decide), h7 19 rfl]; exact r4
  · unfold q_r5; rw [B 13 rfl (by decide) (by decide), B 14 rfl (by decide) (by decide), B 15 rfl (by decide) (by decide), B 16 rfl (by decide) (by decide), B 17 rfl (by decide) (by decide), B 108 rfl (by decide) (by decide), B 109 rfl (by decide) (by decide), B 110 rfl (by decide) (by decide), B 111 rfl (by decide) (by decide), h7 13 rfl]; exact r5
  · unfold q_r6; rw [B 3 rfl (by decide) (by decide), B 98 rfl (by decide) (by decide)]; exact r6
  · unfold q_r7; rw [B 34 rfl (by decide) (by decide), B 99 rfl (by decide) (by decide)]; exact r7
  · intro q hq30
    obtain ⟨b1, b2, b3, b4, b5, b6, b7⟩ := r8 q hq30
    refine ⟨?_, ?_, ?_, ?_, ?_, ?_, ?_⟩
    · rw [(c1 q hq30).1, (c1 q hq30).2, b1]
    · rw [g2 q hq30 2 (Or.inl rfl), B 101 rfl (by decide) (by decide), b2]
    · rw [g2 q hq30 3 (Or.inr rfl), B 102 rfl (by decide) (by decide), b3]
    · rw [(c4 q hq30).1, (c4 q hq30).2, b4]
    · intro hqP
      rw [(c5 q hq30).1, (c5 q hq30).2, b5 hqP]
    · rw [(c6 q hq30).1, (c6 q hq30).2, b6]
    · rw [hd q hq30, B 106 rfl (by decide) (by decide)]
      exact b7
  · intro q hqP
    obtain ⟨b1, b2, b3, b4, b5, b6⟩ := r9 q hqP
    have hq30 : q < 30 := by omega
    refine ⟨?_, ?_, ?_, ?_, ?_, ?_⟩
    · rw [(c1 q hq30).2]
      split
      · rename_i z; exact v1 z.2.symm
      · exact b1
    · rw [B 101 rfl (by decide) (by decide)]; exact b2
    · rw [(c4 q hq30).2]
      split
      · rename_i z; exact v4 z.2.symm
      · exact b3
    · rw [(c6 q hq30).2]
      split
      · rename_i z; exact v6 z.2.symm
      · exact b4
    · rw [(c5 q hq30).2]
      split
      · rename_i z; exact v5 z.2.symm
      · exact b5
    · rw [B 106 rfl (by decide) (by decide)]; exact b6
  · intro q h1 h2
    rw [(c6 q h2).2, if_neg (fun z => by omega), B 106 rfl (by decide) (by decide)]
    exact r10 q h1 h2
  · unfold q_r11; rw [B 101 rfl (by decide) (by decide), B 107 rfl (by decide) (by decide)]; exact r11
  · unfold q_r12; rw [B 32 rfl (by decide) (by decide), B 112 rfl (by decide) (by decide)]; exact r12
  · unfold q_r14; rw [B 33 rfl (by decide) (by decide), B 127 rfl (by decide) (by decide), h6]; exact r14
  · unfold q_r13; rw [B 36 rfl (by decide) (by decide), B 114 rfl (by decide) (by decide)]; exact h13
theorem ob_burn (a1 : Int32) : q_Ob q_RR 66 130 [a1] := by
  intro b m hR
  obtain ⟨P, w, hR0, h13⟩ := id hR
  have r1 := hR0.1
  unfold q_Wm
  repeat (refine q_wst rfl rfl rfl ?_)
  refine q_wcl rfl rfl rfl ?_
  refine t_isPiece _ b m a1 r1.1 r1.2.1 _ (fun p hp e => ?_) (fun hn => ?_)
  · subst e
    have hp30 : p < 30 := Nat.lt_of_lt_of_le hp r1.1
    have r8 := hR0.2.2.2.2.2.2.2.1 p hp30
    have e6 : m (37 + 2 * p) 6 = m 105 p := r8.2.2.2.2.2.1
    repeat (refine q_wst rfl rfl rfl ?_)
    refine q_wpc p rfl hp30 rfl ?_
    refine q_wgi rfl (q_atP b p hp30) rfl rfl ?_
    repeat (refine q_wst rfl rfl rfl ?_)
    refine q_wif (fun c1 => ?_) (fun c1 => ?_)
    · repeat (refine q_wst rfl rfl rfl ?_)
      refine q_wpc p rfl hp30 rfl ?_
      repeat (refine q_wst rfl rfl rfl ?_)
      refine q_wpi rfl (q_atP b p hp30) rfl rfl ?_
      repeat (refine q_wst rfl rfl rfl ?_)
      refine q_wrt rfl rfl rfl ⟨_, rfl, b, _, rfl, ?_⟩
      unfold q_Wm
      repeat (refine q_wst rfl rfl rfl ?_)
      refine q_wcl rfl rfl rfl ?_
      refine t_misPiece (P := P) _ b _ _ r1.1 ((congrFun (q_up_ne (by omega)) 4).trans r1.2.2) _ (fun q hq e => ?_) (fun hn => absurd rfl (hn p hp))
      repeat (refine q_wst rfl rfl rfl ?_)
      refine q_wrd p rfl hp30 rfl (q_at105 b) (by decide) ?_
      repeat (refine q_wst rfl rfl rfl ?_)
      have e105 : q_up m (37 + 2 * p) 6 2 105 = m 105 := q_up_ne (by omega)
      refine q_wif (fun c2 => ?_) (fun c2 => absurd (fun z => c1 (by show m (37 + 2 * p) 6 = 2; rw [e6]; rw [← e105]; exact z)) c2)
      repeat (refine q_wst rfl rfl rfl ?_)
      refine q_wrd p rfl hp30 rfl (q_at105 b) (by decide) ?_
      repeat (refine q_wst rfl rfl rfl ?_)
      refine q_wwr p rfl hp30 rfl (q_at105 b) (by decide) ?_
      repeat (refine q_wst rfl rfl rfl ?_)
      refine q_wrt rfl rfl rfl ⟨?_, b, _, rfl, P, w, ?_⟩
      · show some (q_up m (37 + 2 * p) 6 2 105 p) = some (m (37 + 2 * p) 6)
        rw [e105, e6]
      · refine q_RR_pf (m := m) (p := p) (j := 6) (v := 2) hR0 h13 hp (by decide) (fun c h1 h2 h3 => ?_) (fun i hi => ?_) ?_ ?_ ?_ (fun z => by cases z) (fun z => by cases z) (fun z => by cases z) (fun _ => ⟨2, by decide, rfl⟩)
        · show q_up (q_up m (37 + 2 * p) 6 2) 105 p 2 c = m c
          rw [q_up_ne h3, q_up_ne h2]
        · show q_up (q_up m (37 + 2 * p) 6 2) 105 p 2 97 i = m 97 i
          rw [q_up_ne (by decide), q_up_ne (by omega)]
        · show q_up (q_up m (37 + 2 * p) 6 2) 105 p 2 126 0 = m 126 0
          rw [q_up_ne (by decide), q_up_ne (by omega)]
        · show q_up (q_up m (37 + 2 * p) 6 2) 105 p 2 (37 + 2 * p) = _
          rw [q_up_ne (by omega), q_up_eq]
        · show q_up (q_up m (37 + 2 * p) 6 2) 105 p 2 105 = _
          rw [q_up_eq, q_up_ne (by omega)]
    · repeat (refine q_wst rfl rfl rfl ?_)
      refine q_cf 3 rfl (by decide) rfl rfl rfl ⟨_, rfl, b, _, rfl, ?_⟩
      unfold q_Wm
      repeat (refine q_wst rfl rfl rfl ?_)
      refine q_wcl rfl rfl rfl ?_
      refine t_misPiece (P := P) _ b _ _ r1.1 (by exact r1.2.2) _ (fun q hq e => ?_) (fun hn => absurd rfl (hn p hp))
      repeat (refine q_wst rfl rfl rfl ?_)
      refine q_wrd p rfl hp30 rfl (q_at105 b) (by decide) ?_
      repeat (refine q_wst rfl rfl rfl ?_)
      refine q_wif (fun c2 => absurd (fun z => c2 (e6.symm.trans z)) c1) (fun c2 => ?_)
      repeat (refine q_wst rfl rfl rfl ?_)
      exact q_mf 3 rfl (by decide) rfl rfl rfl ⟨rfl, b, _, rfl, q_RR_fnd hR (q_same_rf _)⟩
  · repeat (refine q_wst rfl rfl rfl ?_)
    refine q_cf 1 rfl (by decide) rfl rfl rfl ⟨_, rfl, b, _, rfl, ?_⟩
    unfold q_Wm
    repeat (refine q_wst rfl rfl rfl ?_)
    refine q_wcl rfl rfl rfl ?_
    refine t_misPiece (P := P) _ b _ _ r1.1 (by exact r1.2.2) _ (fun q hq e => absurd e (hn q hq)) (fun _ => ?_)
    repeat (refine q_wst rfl rfl rfl ?_)
    exact q_mf 1 rfl (by decide) rfl rfl rfl ⟨rfl, b, _, rfl, q_RR_fnd hR (q_same_rf _)⟩
