/-! obligation: measure -/
theorem t_mmeas (b : Bool) (m : q_M) (x y : Int32) (Q : Option Int32 → q_H → Prop) (ht : ∀ j, 1 ≤ j → j ≤ 5 → x = nI j → m 98 (j - 1) < y → 1 ≤ y → y ≤ 100000 → (j < 5 → y < m 98 (j + 1)) → Q (some (m 98 j)) (q_hp b (q_up m 98 j y))) (hf : (∀ j, 1 ≤ j → j ≤ 5 → x = nI j → m 98 (j - 1) < y → 1 ≤ y → y ≤ 100000 → (j < 5 → y < m 98 (j + 1)) → False) → Q (some (-1000000001)) (q_hp b (q_up m 114 1 (m 114 1 + 1)))) : q_Wm 99 111 [vr 97, vi x, vi y] (q_hp b m) Q := by
  unfold q_Wm
  repeat (refine q_wst rfl rfl rfl ?_)
  refine q_wcl rfl rfl rfl ?_
  refine t_mwithin _ _ _ _ _ _ (fun c1 c2 => ?_) (fun c1 => ?_)
  · have c1 : (1 : Int32) ≤ x := c1
    obtain ⟨j, hj, e⟩ := nI_of2 (M := 5) (n := 5) rfl (Int32.not_lt.mpr (Int32.le_trans (by decide) c1)) c2
    subst e
    have hj1 : 1 ≤ j := (nI_leI (a := 1) (b := j) (by omega) (by omega)).mp c1
    have uniq : ∀ i, i ≤ 5 → nI j = nI i → i = j := fun i hi e => (q_nIle (by omega) (by omega) e).symm
    repeat (refine q_wst rfl rfl rfl ?_)
    refine q_wcl rfl rfl rfl ?_
    refine t_mwithin _ _ _ _ _ _ (fun d1 d2 => ?_) (fun d1 => ?_)
    · repeat (refine q_wst rfl rfl rfl ?_)
      refine q_wrd (j - 1) (by show nI j - nI 1 = _; rw [pk_sub hj1]) (by omega) rfl (q_at98 b) (by decide) ?_
      repeat (refine q_wst rfl rfl rfl ?_)
      refine q_wif (fun c3 => ?_) (fun c3 => ?_)
      · repeat (refine q_wst rfl rfl rfl ?_)
        refine q_mf 1 rfl (by decide) rfl rfl rfl (hf (fun i h1 h2 e z1 z2 z3 z4 => ?_))
        have := uniq i h2 e
        subst this
        exact absurd c3 (Int32.not_le.mpr z1)
      · repeat (refine q_wst rfl rfl rfl ?_)
        refine q_wif (fun c4 => ?_) (fun c4 => ?_)
        · have h5 : 5 ≤ j := (nI_leI (a := 5) (b := j) (by omega) (by omega)).mp c4
          repeat (refine q_wst rfl rfl rfl ?_)
          refine q_wrd j rfl (by omega) rfl (q_at98 b) (by decide) ?_
          repeat (refine q_wst rfl rfl rfl ?_)
          refine q_wwr j rfl (by omega) rfl (q_at98 b) (by decide) ?_
          repeat (refine q_wst rfl rfl rfl ?_)
          exact q_wrt rfl rfl rfl (ht j hj1 hj rfl (Int32.not_le.mp c3) d1 d2 (fun z => absurd z (by omega)))
        · have h5 : j < 5 := by
            rcases Nat.lt_or_ge j 5 with z | z
            · exact z
            · exact absurd (nI_le (a := 5) z (by omega)) c4
          repeat (refine q_wst rfl rfl rfl ?_)
          refine q_wrd (j + 1) (nI_1 j) (by omega) rfl (q_at98 b) (by decide) ?_
          repeat (refine q_wst rfl rfl rfl ?_)
          refine q_wif (fun c5 => ?_) (fun c5 => ?_)
          · repeat (refine q_wst rfl rfl rfl ?_)
            refine q_wrd j rfl (by omega) rfl (q_at98 b) (by decide) ?_
            repeat (refine q_wst rfl rfl rfl ?_)
            refine q_wwr j rfl (by omega) rfl (q_at98 b) (by decide) ?_
            repeat (refine q_wst rfl rfl rfl ?_)
            exact q_wrt rfl rfl rfl (ht j hj1 hj rfl (Int32.not_le.mp c3) d1 d2 (fun _ => c5))
          · repeat (refine q_wst rfl rfl rfl ?_)
            refine q_mf 1 rfl (by decide) rfl rfl rfl (hf (fun i h1 h2 e z1 z2 z3 z4 => ?_))
            have := uniq i h2 e
            subst this
            exact absurd (z4 h5) c5
    · repeat (refine q_wst rfl rfl rfl ?_)
      refine q_mf 1 rfl (by decide) rfl rfl rfl (hf (fun i h1 h2 e z1 z2 z3 z4 => d1 ⟨z2, z3⟩))
  · repeat (refine q_wst rfl rfl rfl ?_)
    refine q_mf 1 rfl (by decide) rfl rfl rfl (hf (fun i h1 h2 e z1 z2 z3 z4 => c1 ?_))
    subst e
    exact ⟨nI_le (a := 1) h1 (by omega), nI_le (b := 5) h2 (by omega)⟩
theorem ob_measure (a1 a2 : Int32) : q_Ob q_RR 48 111 [a1, a2] := by
  intro b m hR
  obtain ⟨P, w, ⟨r1, r2, r3, r4, r5, r6, r7, r8, r9, r10, r11, r12, r14⟩, r13⟩ := id hR
  obtain ⟨s1, s2, s3, s4, s5⟩ := r6
  have wle := q_okm s2 s3 s4
  have E : ∀ i, i ≤ 5 → m 98 i = m 3 i := fun i hi => (s1 i hi).2.trans (s1 i hi).1.symm
  unfold q_Wm
  repeat (refine q_wst rfl rfl rfl ?_)
  refine q_wcl rfl rfl rfl ?_
  refine t_allows _ b m a1 a2 _ (fun j h1 h2 e z1 z2 => ?_) (fun hn => ?_)
  · subst e
    have z1' := z1
    rw [(s1 (j - 1) (by omega)).1] at z1'
    have hpos : ¬ a2 < 0 := Int32.not_lt.mpr (Int32.le_trans (nI_pos' (n := w (j - 1)) (by have := wle (j - 1) (by omega); omega)) (Int32.le_of_lt z1'))
    obtain ⟨v, hv, e⟩ := nI_of hpos
    subst e
    have v1 : w (j - 1) < v := (nI_ltI (by have := wle (j - 1) (by omega); omega) hv).mp z1'
    have v2 : j < 5 → v < w (j + 1) := by
      intro h5
      rw [(s1 (j + 1) (by omega)).1] at z2
      exact (nI_ltI hv (by have := wle (j + 1) (by omega); omega)).mp z2
    have v3 : v ≤ 100000 := by
      rcases Nat.lt_or_ge j 5 with z | z
      · have := v2 z
        have := wle (j + 1) (by omega)
        omega
      · have : j = 5 := by omega
        subst this
        rw [s5] at z2
        have := (nI_ltI (a := v) (b := 100001) hv (by omega)).mp z2
        omega
    repeat (refine q_wst rfl rfl rfl ?_)
    refine q_wcl rfl rfl rfl ?_
    unfold q_Wm
    repeat (refine q_wst rfl rfl rfl ?_)
    refine q_wrv rfl rfl rfl ?_
    repeat (refine q_wst rfl rfl rfl ?_)
    refine q_wcl rfl rfl rfl ?_
    unfold q_Wm
    repeat (refine q_wst rfl rfl rfl ?_)
    refine q_wrd j rfl (by omega) rfl (q_at3 b) (by decide) ?_
    repeat (refine q_wst rfl rfl rfl ?_)
    refine q_wwr j rfl (by omega) rfl (q_at3 b) (by decide) ?_
    repeat (refine q_wst rfl rfl rfl ?_)
    refine q_wrt rfl rfl rfl ?_
    refine q_wrt rfl rfl rfl ⟨_, rfl, b, _, rfl, ?_⟩
    refine t_mmeas b _ _ _ _ (fun i g1 g2 e _ _ _ _ => ?_) (fun hn => ?_)
    · have := q_nIle (by omega) (by omega) e
      subst this
      obtain ⟨t1, rk, t2, t3, t4, t5⟩ := r14
      refine ⟨congrArg some (E j h2), b, _, rfl, P, (fun i => if i = j then v else w i), ⟨r1, r2, r3, r4, r5, ⟨fun i hi => ?_, ?_, fun i hi => ?_, ?_, ?_⟩, r7, q_r8_ag (fun c hc => ?_) r8, r9, r10, r11, r12, t1, 0, by omega, rfl, fun _ => rfl, fun hb u hu => ?_⟩, r13⟩
      · show upd (m 3) j (nI v) i = _ ∧ upd (m 98) j (nI v) i = _
        unfold upd
        by_cases e : i = j
        · simp [e]
        · simp only [if_neg e]
          exact s1 i hi
      · show (if 0 = j then v else w 0) = 0
        rw [if_neg (by omega)]
        exact s2
      · show (if i = j then v else w i) < (if i + 1 = j then v else w (i + 1))
        have a := s3 i hi
        by_cases e1 : i = j
        · subst e1
          rw [if_pos rfl, if_neg (by omega)]
          exact v2 (by omega)
        · rw [if_neg e1]
          by_cases e2 : i + 1 = j
          · rw [if_pos e2]
            have : i = j - 1 := by omega
            rw [this]
            exact v1
          · rw [if_neg e2]
            exact a
      · show (if 5 = j then v else w 5) ≤ 100000
        split
        · exact v3
        · exact s4
      · show upd (m 3) j (nI v) 6 = 100001
        unfold upd
        rw [if_neg (by omega)]
        exact s5
      · show q_up (q_up (q_up m 33 2 0) 3 j (nI v)) 98 j (nI v) c = m c
        rw [q_up_ne (by omega), q_up_ne (by omega), q_up_ne (by omega)]
      · have : u = 0 := by omega
        subst this
        have e := t5 hb 0 (by omega)
        exact e
    · refine absurd (hn j h1 h2 rfl ?_ ?_ ?_ ?_) id
      · show m 98 (j - 1) < nI v
        rw [E (j - 1) (by omega)]
        exact z1
      · exact nI_le (a := 1) (by omega) (by omega)
      · exact nI_le (b := 100000) v3 (by omega)
      · intro h5
        show nI v < m 98 (j + 1)
        rw [E (j + 1) (by omega)]
        exact z2
  · repeat (refine q_wst rfl rfl rfl ?_)
    refine q_cf 1 rfl (by decide) rfl rfl rfl ⟨_, rfl, b, _, rfl, ?_⟩
    unfold q_Wm
    refine t_mmeas b _ _ _ _ (fun j h1 h2 e z1 z2 z3 z4 => ?_) (fun _ => ⟨rfl, b, _, rfl, q_RR_fnd hR (q_same_rf _)⟩)
    refine absurd (hn j h1 h2 e ?_ ?_) id
    · have z1 : m 98 (j - 1) < a2 := z1
      rw [← E (j - 1) (by omega)]
      exact z1
    · rcases Nat.lt_or_ge j 5 with h5 | h5
      · have z4 : a2 < m 98 (j + 1) := z4 h5
        rw [← E (j + 1) (by omega)]
        exact z4
      · have : j = 5 := by omega
        subst this
        rw [s5]
        exact Int32.lt_of_le_of_lt z3 (by decide)
