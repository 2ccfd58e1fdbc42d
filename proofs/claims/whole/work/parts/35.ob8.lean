/-! obligations: cut, about -/
theorem q_C_ext {dp dq : Nat → Int32} : ∀ k, (∀ i, i < k → dp i = dq i) → q_C dp k = q_C dq k
  | 0, _ => rfl
  | k + 1, h => by
    have ih := q_C_ext k (fun i hi => h i (by omega))
    have e := h k (by omega)
    unfold q_C
    rw [ih, e]
theorem q_vs_eq {wt wu : Nat → Int32} {w : Nat → Nat} : ∀ n, (∀ i, i < n → wt (w i) = wu (w i)) → q_vs wt w n = q_vs wu w n
  | 0, _ => rfl
  | n + 1, h => by
    unfold q_vs
    rw [q_vs_eq n (fun i hi => h i (by omega)), h n (by omega)]
theorem q_vl_eq {wt wu dp dq : Nat → Int32} (hd : ∀ i, i < 40 → dp i = dq i) (hw : ∀ i, i ≤ 5 → wt i = wu i) : q_vl wt dp = q_vl wu dq := by
  unfold q_vl
  rw [q_C_ext 40 hd]
  unfold q_val
  obtain ⟨f1, f2⟩ := q_C_f dq
  obtain ⟨g1, g2⟩ := q_fg_neg (a := (q_C dq 40).2.2.1) (w := (q_C dq 40).2.2.2) (q_C dq 40).1 0 (fun j _ h2 => by have := (f2 j (by omega)).2.1; omega)
  split
  · rename_i c
    refine q_vs_eq _ (fun i hi => hw _ ?_)
    rcases Nat.lt_or_ge 5 ((q_C dq 40).2.2.2 i) with z | z
    · have := g1 c i (Nat.zero_le i) (by omega)
      rw [q_bad_t.mpr (Or.inl z)] at this
      cases this
    · exact z
  · rfl
/-- profile and worths are one on both sides -/
theorem q_R_dp {P : Nat} {w : Nat → Nat} {b : Bool} {m : q_M} (h : q_R0 P w b m) {p : Nat} (hp : p < 30) : ∀ i, i < 40 → m (38 + 2 * p) i = m 106 (40 * p + i) := (h.2.2.2.2.2.2.2.1 p hp).2.2.2.2.2.2
theorem q_R_wt {P : Nat} {w : Nat → Nat} {b : Bool} {m : q_M} (h : q_R0 P w b m) : ∀ i, i ≤ 5 → m 3 i = m 98 i := fun i hi => (h.2.2.2.2.2.1.1 i hi).1.trans (h.2.2.2.2.2.1.1 i hi).2.symm
theorem q_R_vl {P : Nat} {w : Nat → Nat} {b : Bool} {m : q_M} (h : q_R0 P w b m) {p : Nat} (hp : p < 30) : q_vl (m 3) (m (38 + 2 * p)) = q_vl (m 98) (fun i => m 106 (40 * p + i)) := q_vl_eq (q_R_dp h hp) (q_R_wt h)
theorem ob_cut (a1 a2 : Int32) : q_Ob q_RR 69 133 [a1, a2] := by
  intro b m hR
  obtain ⟨P, w, hR0, h13⟩ := id hR
  have r1 := hR0.1
  unfold q_Wm
  repeat (refine q_wst rfl rfl rfl ?_)
  refine q_wcl rfl rfl rfl ?_
  refine t_isPiece _ b m a1 r1.1 r1.2.1 _ (fun p hp e => ?_) (fun hn => ?_)
  · subst e
    have hp30 : p < 30 := Nat.lt_of_lt_of_le hp r1.1
    repeat (refine q_wst rfl rfl rfl ?_)
    refine q_wif (fun c => ?_) (fun c => ?_)
    · have c : (0 : Int32) ≤ a2 := c
      obtain ⟨j, hj, e⟩ := nI_of (Int32.not_lt.mpr c)
      subst e
      repeat (refine q_wst rfl rfl rfl ?_)
      refine q_wpc p rfl hp30 rfl ?_
      refine q_wcl rfl rfl rfl ?_
      refine t_read _ b m p hp30 _ (fun m1 hs ho hc => ?_)
      obtain ⟨f1, f2⟩ := q_C_f (m (38 + 2 * p))
      have hext : q_C (fun i => m1 106 (40 * p + i)) 40 = q_C (m (38 + 2 * p)) 40 := q_C_ext 40 (fun i hi => by show m1 106 _ = _; rw [ho 106 (by omega)]; exact (q_R_dp hR0 hp30 i hi).symm)
      have h974 : m1 97 4 = nI P := by rw [ho 97 (by omega)]; exact r1.2.2
      have hR1 := q_RR_same hs hR
      repeat (refine q_wst rfl rfl rfl ?_)
      refine q_wif (fun c2 => ?_) (fun c2 => ?_)
      · have c2 : nI j < m1 5 2 := c2
        rw [hc.1] at c2
        have c2 := (nI_ltI hj (by omega)).mp c2
        repeat (refine q_wst rfl rfl rfl ?_)
        refine q_wrd j rfl (by omega) rfl (q_at6 b) (by decide) ?_
        repeat (refine q_wst rfl rfl rfl ?_)
        refine q_wrd j rfl (by omega) rfl (q_at7 b) (by decide) ?_
        repeat (refine q_wst rfl rfl rfl ?_)
        refine q_wrt rfl rfl rfl ⟨_, rfl, b, _, rfl, ?_⟩
        unfold q_Wm
        repeat (refine q_wst rfl rfl rfl ?_)
        refine q_wcl rfl rfl rfl ?_
        refine t_misPiece (P := P) _ b _ _ r1.1 (by exact h974) _ (fun q hq e => ?_) (fun hn => absurd rfl (hn p hp))
        repeat (refine q_wst rfl rfl rfl ?_)
        refine q_wif (fun _ => ?_) (fun z => absurd c z)
        repeat (refine q_wst rfl rfl rfl ?_)
        refine q_wcl rfl rfl rfl ?_
        refine t_mread _ b m1 p hp30 _ (fun m2 hs2 ho2 hc2 => ?_)
        unfold q_cxM at hc2
        rw [hext] at hc2
        repeat (refine q_wst rfl rfl rfl ?_)
        refine q_wif (fun z => absurd z (by show ¬ m2 97 22 ≤ nI j; rw [hc2.1]; exact nI_ge c2 (by omega))) (fun _ => ?_)
        repeat (refine q_wst rfl rfl rfl ?_)
        refine q_wrd j rfl (by omega) rfl (q_at115 b) (by decide) ?_
        repeat (refine q_wst rfl rfl rfl ?_)
        refine q_wrd j rfl (by omega) rfl (q_at116 b) (by decide) ?_
        repeat (refine q_wst rfl rfl rfl ?_)
        refine q_wrt rfl rfl rfl ⟨?_, b, _, rfl, q_RR_same hs2 hR1⟩
        show some (100 * m2 115 j + m2 116 j) = some (100 * m1 6 j + m1 7 j)
        rw [(hc2.2 j c2).1, (hc2.2 j c2).2, (hc.2 j c2).1, (hc.2 j c2).2]
      · have c2 : ¬ nI j < m1 5 2 := c2
        rw [hc.1] at c2
        have c2 : ¬ j < (q_C (m (38 + 2 * p)) 40).1 := fun z => c2 (nI_lt z (by omega))
        repeat (refine q_wst rfl rfl rfl ?_)
        refine q_cf 2 rfl (by decide) rfl rfl rfl ⟨_, rfl, b, _, rfl, ?_⟩
        unfold q_Wm
        repeat (refine q_wst rfl rfl rfl ?_)
        refine q_wcl rfl rfl rfl ?_
        refine t_misPiece (P := P) _ b _ _ r1.1 (by exact h974) _ (fun q hq e => ?_) (fun hn => absurd rfl (hn p hp))
        repeat (refine q_wst rfl rfl rfl ?_)
        refine q_wif (fun _ => ?_) (fun z => absurd c z)
        repeat (refine q_wst rfl rfl rfl ?_)
        refine q_wcl rfl rfl rfl ?_
        refine t_mread _ b _ p hp30 _ (fun m2 hs2 ho2 hc2 => ?_)
        have hc2 : q_cxM (fun i => m1 106 (40 * p + i)) 40 m2 := hc2
        unfold q_cxM at hc2
        rw [hext] at hc2
        repeat (refine q_wst rfl rfl rfl ?_)
        refine q_wif (fun _ => ?_) (fun z => absurd (by show m2 97 22 ≤ nI j; rw [hc2.1]; exact nI_le (by omega) hj) z)
        repeat (refine q_wst rfl rfl rfl ?_)
        refine q_wcl rfl rfl rfl ?_
        refine t_mfinding _ b _ 2 _ (by decide) (by rfl) _ ?_
        repeat (refine q_wst rfl rfl rfl ?_)
        exact q_wrt rfl rfl rfl ⟨rfl, b, _, rfl, q_RR_fnd hR1 hs2⟩
    · have c : ¬ (0 : Int32) ≤ a2 := c
      repeat (refine q_wst rfl rfl rfl ?_)
      refine q_cf 1 rfl (by decide) rfl rfl rfl ⟨_, rfl, b, _, rfl, ?_⟩
      unfold q_Wm
      repeat (refine q_wst rfl rfl rfl ?_)
      refine q_wcl rfl rfl rfl ?_
      refine t_misPiece (P := P) _ b _ _ r1.1 (by exact r1.2.2) _ (fun q hq e => ?_) (fun hn => absurd rfl (hn p hp))
      repeat (refine q_wst rfl rfl rfl ?_)
      refine q_wif (fun z => absurd z c) (fun _ => ?_)
      repeat (refine q_wst rfl rfl rfl ?_)
      exact q_mf 1 rfl (by decide) rfl rfl rfl ⟨rfl, b, _, rfl, q_RR_fnd hR (q_same_rf _)⟩
  · repeat (refine q_wst rfl rfl rfl ?_)
    refine q_cf 1 rfl (by decide) rfl rfl rfl ⟨_, rfl, b, _, rfl, ?_⟩
    unfold q_Wm
    repeat (refine q_wst rfl rfl rfl ?_)
    refine q_wcl rfl rfl rfl ?_
    refine t_misPiece (P := P) _ b _ _ r1.1 (by exact r1.2.2) _ (fun q hq e => absurd e (hn q hq)) (fun _ => ?_)
    repeat (refine q_wst rfl rfl rfl ?_)
    exact q_mf 1 rfl (by decide) rfl rfl rfl ⟨rfl, b, _, rfl, q_RR_fnd hR (q_same_rf _)⟩
theorem ob_about (a1 a2 : Int32) : q_Ob q_RR 67 131 [a1, a2] := by
  intro b m hR
  obtain ⟨P, w, hR0, h13⟩ := id hR
  have r1 := hR0.1
  unfold q_Wm
  repeat (refine q_wst rfl rfl rfl ?_)
  refine q_wcl rfl rfl rfl ?_
  refine t_isPiece _ b m a1 r1.1 r1.2.1 _ (fun p hp e => ?_) (fun hn => ?_)
  · subst e
    have hp30 : p < 30 := Nat.lt_of_lt_of_le hp r1.1
    obtain ⟨b1, b2, b3, b4, b5, b6, b7⟩ := hR0.2.2.2.2.2.2.2.1 p hp30
    have b5 := b5 hp
    repeat (refine q_wst rfl rfl rfl ?_)
    refine q_wpc p rfl hp30 rfl ?_
    repeat (refine q_wst rfl rfl rfl ?_)
    refine q_wcl rfl rfl rfl ?_
    refine t_read _ b m p hp30 _ (fun m1 hs ho hc => ?_)
    obtain ⟨f1, f2⟩ := q_C_f (m (38 + 2 * p))
    have hext : q_C (fun i => m1 106 (40 * p + i)) 40 = q_C (m (38 + 2 * p)) 40 := q_C_ext 40 (fun i hi => by show m1 106 _ = _; rw [ho 106 (by omega)]; exact (b7 i hi).symm)
    have h974 : m1 97 4 = nI P := by rw [ho 97 (by omega)]; exact r1.2.2
    have hR1 := q_RR_same hs hR
    have hpc : m1 (37 + 2 * p) = m (37 + 2 * p) := hs.1 _ (q_mcP hp30).1
    -- the reference up to its switch
    have mod : ∀ (Q : Option Int32 → q_H → Prop), (∀ m2, q_same m1 m2 → q_cxM (fun i => m1 106 (40 * p + i)) 40 m2 → q_WP none 99 131 22 [some (vr 97), some (vi (nI p)), some (vi a2), some (vi (q_vl (m1 98) (fun i => m1 106 (40 * p + i))))] [vi a2] (q_hp b m2) Q) → q_Wm 99 131 [vr 97, vi (nI p), vi a2] (q_hp b m1) Q := by
      intro Q K
      unfold q_Wm
      repeat (refine q_wst rfl rfl rfl ?_)
      refine q_wcl rfl rfl rfl ?_
      refine t_misPiece (P := P) _ b _ _ r1.1 (by exact h974) _ (fun q hq e => ?_) (fun hn => absurd rfl (hn p hp))
      repeat (refine q_wst rfl rfl rfl ?_)
      refine q_wcl rfl rfl rfl ?_
      refine t_mvalue _ b m1 p hp30 _ (fun m2 hs2 ho2 hc2 => ?_)
      iterate 2 (refine q_wst rfl rfl rfl ?_)
      exact K m2 hs2 hc2
    by_cases ha : 0 ≤ a2 ∧ a2 ≤ 7
    · obtain ⟨j, hj, e⟩ := nI_of2 (M := 7) (n := 7) rfl (Int32.not_lt.mpr ha.1) ha.2
      subst e
      rcases (by omega : j = 0 ∨ j = 1 ∨ j = 2 ∨ j = 3 ∨ j = 4 ∨ j = 5 ∨ j = 6 ∨ j = 7) with rfl | rfl | rfl | rfl | rfl | rfl | rfl | rfl
      · repeat (refine q_wst rfl rfl rfl ?_)
        refine q_wgi rfl (q_atP b p hp30) rfl rfl ?_
        refine q_wrt rfl rfl rfl ⟨_, rfl, b, _, rfl, ?_⟩
        refine mod _ (fun m2 hs2 hc2 => ?_)
        repeat (refine q_wst rfl rfl rfl ?_)
        refine q_wrd p rfl hp30 rfl (q_at100 b) (by decide) ?_
        refine q_wrt rfl rfl rfl ⟨?_, b, _, rfl, q_RR_same hs2 hR1⟩
        show some (m2 100 p) = some (m1 (37 + 2 * p) 1)
        rw [hs2.1 100 rfl, ho 100 (by omega), hpc, b1]
      · repeat (refine q_wst rfl rfl rfl ?_)
        refine q_wgi rfl (q_atP b p hp30) rfl rfl ?_
        refine q_wrt rfl rfl rfl ⟨_, rfl, b, _, rfl, ?_⟩
        refine mod _ (fun m2 hs2 hc2 => ?_)
        repeat (refine q_wst rfl rfl rfl ?_)
        refine q_wrd p rfl hp30 rfl (q_at101 b) (by decide) ?_
        refine q_wrt rfl rfl rfl ⟨?_, b, _, rfl, q_RR_same hs2 hR1⟩
        show some (m2 101 p) = some (m1 (37 + 2 * p) 2)
        rw [hs2.1 101 rfl, ho 101 (by omega), hpc, b2]
      · repeat (refine q_wst rfl rfl rfl ?_)
        refine q_wgi rfl (q_atP b p hp30) rfl rfl ?_
        refine q_wrt rfl rfl rfl ⟨_, rfl, b, _, rfl, ?_⟩
        refine mod _ (fun m2 hs2 hc2 => ?_)
        repeat (refine q_wst rfl rfl rfl ?_)
        refine q_wrd p rfl hp30 rfl (q_at103 b) (by decide) ?_
        refine q_wrt rfl rfl rfl ⟨?_, b, _, rfl, q_RR_same hs2 hR1⟩
        show some (m2 103 p) = some (m1 (37 + 2 * p) 4)
        rw [hs2.1 103 rfl, ho 103 (by omega), hpc, b4]
      · repeat (refine q_wst rfl rfl rfl ?_)
        refine q_wgi rfl (q_atP b p hp30) rfl rfl ?_
        refine q_wrt rfl rfl rfl ⟨_, rfl, b, _, rfl, ?_⟩
        refine mod _ (fun m2 hs2 hc2 => ?_)
        repeat (refine q_wst rfl rfl rfl ?_)
        refine q_wrd p rfl hp30 rfl (q_at104 b) (by decide) ?_
        refine q_wrt rfl rfl rfl ⟨?_, b, _, rfl, q_RR_same hs2 hR1⟩
        show some (m2 104 p) = some (m1 (37 + 2 * p) 5)
        rw [hs2.1 104 rfl, ho 104 (by omega), hpc, b5]
      · repeat (refine q_wst rfl rfl rfl ?_)
        refine q_wgi rfl (q_atP b p hp30) rfl rfl ?_
        refine q_wrt rfl rfl rfl ⟨_, rfl, b, _, rfl, ?_⟩
        refine mod _ (fun m2 hs2 hc2 => ?_)
        repeat (refine q_wst rfl rfl rfl ?_)
        refine q_wrd p rfl hp30 rfl (q_at105 b) (by decide) ?_
        refine q_wrt rfl rfl rfl ⟨?_, b, _, rfl, q_RR_same hs2 hR1⟩
        show some (m2 105 p) = some (m1 (37 + 2 * p) 6)
        rw [hs2.1 105 rfl, ho 105 (by omega), hpc, b6]
      · repeat (refine q_wst rfl rfl rfl ?_)
        refine q_wrt rfl rfl rfl ⟨_, rfl, b, _, rfl, ?_⟩
        refine mod _ (fun m2 hs2 hc2 => ?_)
        unfold q_cxM at hc2
        rw [hext] at hc2
        repeat (refine q_wst rfl rfl rfl ?_)
        refine q_wrt rfl rfl rfl ⟨?_, b, _, rfl, q_RR_same hs2 hR1⟩
        show some (m2 97 22) = some (m1 5 2)
        rw [hc2.1, hc.1]
      · repeat (refine q_wst rfl rfl rfl ?_)
        refine q_wcl rfl rfl rfl ?_
        refine t_fault _ b m1 _ _ _ f1 hc.1 hc.2 (fun i hi => (f2 i hi).1) _ ?_
        refine q_wrt rfl rfl rfl ⟨_, rfl, b, _, rfl, ?_⟩
        refine mod _ (fun m2 hs2 hc2 => ?_)
        unfold q_cxM at hc2
        rw [hext] at hc2
        repeat (refine q_wst rfl rfl rfl ?_)
        refine q_wcl rfl rfl rfl ?_
        refine t_mfault _ b m2 _ _ _ f1 hc2.1 hc2.2 (fun i hi => (f2 i hi).1) _ ?_
        exact q_wrt rfl rfl rfl ⟨rfl, b, _, rfl, q_RR_same hs2 hR1⟩
      · repeat (refine q_wst rfl rfl rfl ?_)
        refine q_wcl rfl rfl rfl ?_
        refine t_valueBy _ b m1 _ _ _ f1 hc.1 hc.2 (fun i hi => ⟨(f2 i hi).1, (f2 i hi).2.1⟩) _ ?_
        refine q_wrt rfl rfl rfl ⟨_, rfl, b, _, rfl, ?_⟩
        refine mod _ (fun m2 hs2 hc2 => ?_)
        repeat (refine q_wst rfl rfl rfl ?_)
        refine q_wrt rfl rfl rfl ⟨?_, b, _, rfl, q_RR_same hs2 hR1⟩
        show some (q_vl (m1 98) (fun i => m1 106 (40 * p + i))) = some (q_vl (m1 3) (m (38 + 2 * p)))
        rw [hs.1 3 rfl, ho 98 (by omega), ho 106 (by omega)]
        exact congrArg some (q_R_vl hR0 hp30).symm
    · have hout : a2.toInt < 0 ∨ 7 < a2.toInt := by
        rw [Int32.le_iff_toInt_le, Int32.le_iff_toInt_le] at ha
        have e0 : (0 : Int32).toInt = 0 := rfl
        have e7 : (7 : Int32).toInt = 7 := rfl
        omega
      repeat (refine q_wst rfl rfl rfl ?_)
      refine q_wto rfl hout ?_
      repeat (refine q_wst rfl rfl rfl ?_)
      refine q_cf 1 rfl (by decide) rfl rfl rfl ⟨_, rfl, b, _, rfl, ?_⟩
      unfold q_Wm
      repeat (refine q_wst rfl rfl rfl ?_)
      refine q_wcl rfl rfl rfl ?_
      refine t_misPiece (P := P) _ b _ _ r1.1 (by exact h974) _ (fun q hq e => ?_) (fun hn => absurd rfl (hn p hp))
      repeat (refine q_wst rfl rfl rfl ?_)
      refine q_wcl rfl rfl rfl ?_
      refine t_mvalue _ b _ p hp30 _ (fun m2 hs2 ho2 hc2 => ?_)
      iterate 2 (refine q_wst rfl rfl rfl ?_)
      refine q_wto rfl hout ?_
      repeat (refine q_wst rfl rfl rfl ?_)
      exact q_mf 1 rfl (by decide) rfl rfl rfl ⟨rfl, b, _, rfl, q_RR_fnd hR1 hs2⟩
  · repeat (refine q_wst rfl rfl rfl ?_)
    refine q_cf 1 rfl (by decide) rfl rfl rfl ⟨_, rfl, b, _, rfl, ?_⟩
    unfold q_Wm
    repeat (refine q_wst rfl rfl rfl ?_)
    refine q_wcl rfl rfl rfl ?_
    refine t_misPiece (P := P) _ b _ _ r1.1 (by exact r1.2.2) _ (fun q hq e => absurd e (hn q hq)) (fun _ => ?_)
    repeat (refine q_wst rfl rfl rfl ?_)
    exact q_mf 1 rfl (by decide) rfl rfl rfl ⟨rfl, b, _, rfl, q_RR_fnd hR (q_same_rf _)⟩
