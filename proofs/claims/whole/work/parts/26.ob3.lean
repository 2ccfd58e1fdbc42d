/-! obligations: day, tell, purse, column, found, depth, lose -/
theorem t_isDay (d : Nat) (n : Int32) (h : q_H) (Q : Option Int32 → q_H → Prop) (ht : 0 ≤ n → n ≤ 9999 → Q (some 1) h) (hf : ¬ (0 ≤ n ∧ n ≤ 9999) → Q (some 0) h) : q_Wm (d + 1) 61 [vi n] h Q := by
  unfold q_Wm
  repeat (refine q_wst rfl rfl rfl ?_)
  refine q_wcl rfl rfl rfl ?_
  refine t_within _ _ _ _ _ _ (fun a1 a2 => ?_) (fun a1 => ?_)
  · exact q_wrt rfl rfl rfl (ht a1 a2)
  · exact q_wrt rfl rfl rfl (hf a1)
theorem t_isPlace (d : Nat) (n : Int32) (h : q_H) (Q : Option Int32 → q_H → Prop) (ht : 0 ≤ n → n ≤ 39 → Q (some 1) h) (hf : ¬ (0 ≤ n ∧ n ≤ 39) → Q (some 0) h) : q_Wm (d + 1) 57 [vi n] h Q := by
  unfold q_Wm
  repeat (refine q_wst rfl rfl rfl ?_)
  refine q_wcl rfl rfl rfl ?_
  refine t_within _ _ _ _ _ _ (fun a1 a2 => ?_) (fun a1 => ?_)
  · exact q_wrt rfl rfl rfl (ht a1 a2)
  · exact q_wrt rfl rfl rfl (hf a1)
theorem t_misParty (d : Nat) (n : Int32) (h : q_H) (Q : Option Int32 → q_H → Prop) (ht : 0 ≤ n → n ≤ 7 → Q (some 1) h) (hf : ¬ (0 ≤ n ∧ n ≤ 7) → Q (some 0) h) : q_Wm (d + 1) 115 [vi n] h Q := by
  unfold q_Wm
  repeat (refine q_wst rfl rfl rfl ?_)
  refine q_wcl rfl rfl rfl ?_
  refine t_mwithin _ _ _ _ _ _ (fun a1 a2 => ?_) (fun a1 => ?_)
  · exact q_wrt rfl rfl rfl (ht a1 a2)
  · exact q_wrt rfl rfl rfl (hf a1)
theorem t_misDay (d : Nat) (n : Int32) (h : q_H) (Q : Option Int32 → q_H → Prop) (ht : 0 ≤ n → n ≤ 9999 → Q (some 1) h) (hf : ¬ (0 ≤ n ∧ n ≤ 9999) → Q (some 0) h) : q_Wm (d + 1) 124 [vi n] h Q := by
  unfold q_Wm
  repeat (refine q_wst rfl rfl rfl ?_)
  refine q_wcl rfl rfl rfl ?_
  refine t_mwithin _ _ _ _ _ _ (fun a1 a2 => ?_) (fun a1 => ?_)
  · exact q_wrt rfl rfl rfl (ht a1 a2)
  · exact q_wrt rfl rfl rfl (hf a1)
theorem ob_found (a1 : Int32) : q_Ob q_RR 109 180 [a1] := by
  intro b m hR
  obtain ⟨P, w, hR0, h13⟩ := id hR
  unfold q_Wm
  repeat (refine q_wst rfl rfl rfl ?_)
  refine q_wcl rfl rfl rfl ?_
  refine t_within _ _ _ _ _ _ (fun c1 c2 => ?_) (fun c1 => ?_)
  · have c1 : (1 : Int32) ≤ a1 := c1
    obtain ⟨j, hj, e⟩ := nI_of2 (M := 5) (n := 5) rfl (Int32.not_lt.mpr (Int32.le_trans (by decide) c1)) c2
    subst e
    repeat (refine q_wst rfl rfl rfl ?_)
    refine q_wrd j rfl (by omega) rfl (q_at36 b) (by decide) ?_
    refine q_wrt rfl rfl rfl ⟨_, rfl, b, _, rfl, ?_⟩
    unfold q_Wm
    repeat (refine q_wst rfl rfl rfl ?_)
    refine q_wcl rfl rfl rfl ?_
    refine t_mwithin _ _ _ _ _ _ (fun _ _ => ?_) (fun q => absurd ⟨c1, c2⟩ q)
    repeat (refine q_wst rfl rfl rfl ?_)
    refine q_wrd j rfl (by omega) rfl (q_at114 b) (by decide) ?_
    repeat (refine q_wst rfl rfl rfl ?_)
    exact q_wrt rfl rfl rfl ⟨congrArg some (h13 j (by omega)).symm, b, _, rfl, hR⟩
  · repeat (refine q_wst rfl rfl rfl ?_)
    refine q_cf 1 rfl (by decide) rfl rfl rfl ⟨_, rfl, b, _, rfl, ?_⟩
    unfold q_Wm
    repeat (refine q_wst rfl rfl rfl ?_)
    refine q_wcl rfl rfl rfl ?_
    refine t_mwithin _ _ _ _ _ _ (fun x y => absurd ⟨x, y⟩ c1) (fun _ => ?_)
    repeat (refine q_wst rfl rfl rfl ?_)
    refine q_wcl rfl rfl rfl ?_
    refine t_mfinding _ b _ 1 _ (by decide) (by rfl) _ ?_
    repeat (refine q_wst rfl rfl rfl ?_)
    exact q_wrt rfl rfl rfl ⟨rfl, b, _, rfl, q_RR_fnd hR (q_same_rf _)⟩
theorem ob_day (a1 : Int32) : q_Ob q_RR 79 146 [a1] := by
  intro b m hR
  obtain ⟨P, w, ⟨r1, r2, ⟨D, hD, s1, s2⟩, r4, r5, r6, r7, r8, r9, r10, r11, r12, r14⟩, r13⟩ := id hR
  unfold q_Wm
  repeat (refine q_wst rfl rfl rfl ?_)
  refine q_wcl rfl rfl rfl ?_
  refine t_isDay _ _ _ _ (fun c1 c2 => ?_) (fun c1 => ?_)
  · obtain ⟨D2, hD2, e⟩ := nI_of2 (M := 9999) (n := 9999) rfl (Int32.not_lt.mpr c1) c2
    repeat (refine q_wst rfl rfl rfl ?_)
    refine q_wif (fun c3 => ?_) (fun c3 => ?_)
    · have c3 : m 0 7 ≤ a1 := c3
      repeat (refine q_wst rfl rfl rfl ?_)
      refine q_wrt rfl rfl rfl ⟨_, rfl, b, _, rfl, ?_⟩
      unfold q_Wm
      repeat (refine q_wst rfl rfl rfl ?_)
      refine q_wcl rfl rfl rfl ?_
      refine t_mwithin _ _ _ _ _ _ (fun _ _ => ?_) (fun q => absurd ⟨(by show m 97 0 ≤ a1; rw [s2, ← s1]; exact c3), c2⟩ q)
      repeat (refine q_wst rfl rfl rfl ?_)
      refine q_wrt rfl rfl rfl ⟨?_, b, _, rfl, ⟨P, w, ⟨r1, r2, ⟨D2, hD2, e, e⟩, r4, r5, r6, r7, q_r8_ag (fun c hc => ?_) r8, r9, r10, r11, r12, r14⟩, r13⟩⟩
      · show some (a1 - m 97 0) = some (a1 - m 0 7)
        rw [s1, s2]
      · show q_up (q_up m 0 7 a1) 97 0 a1 c = m c
        rw [q_up_ne (by omega), q_up_ne (by omega)]
    · have c3 : ¬ m 0 7 ≤ a1 := c3
      repeat (refine q_wst rfl rfl rfl ?_)
      refine q_cf 1 rfl (by decide) rfl rfl rfl ⟨_, rfl, b, _, rfl, ?_⟩
      unfold q_Wm
      repeat (refine q_wst rfl rfl rfl ?_)
      refine q_wcl rfl rfl rfl ?_
      refine t_mwithin _ _ _ _ _ _ (fun x y => absurd (by have x : m 97 0 ≤ a1 := x; rw [s1, ← s2]; exact x) c3) (fun _ => ?_)
      repeat (refine q_wst rfl rfl rfl ?_)
      exact q_mf 1 rfl (by decide) rfl rfl rfl ⟨rfl, b, _, rfl, q_RR_fnd hR (q_same_rf _)⟩
  · repeat (refine q_wst rfl rfl rfl ?_)
    refine q_cf 1 rfl (by decide) rfl rfl rfl ⟨_, rfl, b, _, rfl, ?_⟩
    unfold q_Wm
    repeat (refine q_wst rfl rfl rfl ?_)
    refine q_wcl rfl rfl rfl ?_
    refine t_mwithin _ _ _ _ _ _ (fun x y => absurd ⟨by have x : m 97 0 ≤ a1 := x; rw [s2] at x; exact Int32.le_trans (nI_pos' (by omega)) x, y⟩ c1) (fun _ => ?_)
    repeat (refine q_wst rfl rfl rfl ?_)
    exact q_mf 1 rfl (by decide) rfl rfl rfl ⟨rfl, b, _, rfl, q_RR_fnd hR (q_same_rf _)⟩
theorem ob_tell (a1 : Int32) : q_Ob q_RR 105 175 [a1] := by
  intro b m hR
  obtain ⟨P, w, ⟨r1, r2, r3, ⟨T, hT, s1, s2, s3⟩, r5, r6, r7, r8, r9, r10, r11, r12, r14⟩, r13⟩ := id hR
  unfold q_Wm
  repeat (refine q_wst rfl rfl rfl ?_)
  refine q_wif (fun c1 => ?_) (fun c1 => ?_)
  · have c1 : m 0 13 < 30 := c1
    rw [s1] at c1
    have hT2 : T < 30 := (nI_ltI (a := T) (b := 30) (by omega) (by omega)).mp c1
    repeat (refine q_wst rfl rfl rfl ?_)
    refine q_wwr T s1 hT2 rfl (q_at35 b) (by decide) ?_
    repeat (refine q_wst rfl rfl rfl ?_)
    refine q_wrt rfl rfl rfl ⟨_, rfl, b, _, rfl, ?_⟩
    unfold q_Wm
    repeat (refine q_wst rfl rfl rfl ?_)
    refine q_wif (fun c2 => ?_) (fun c2 => ?_)
    · repeat (refine q_wst rfl rfl rfl ?_)
      refine q_wwr T s2 hT2 rfl (q_at113 b) (by decide) ?_
      repeat (refine q_wst rfl rfl rfl ?_)
      refine q_wrt rfl rfl rfl ⟨?_, b, _, rfl, ⟨P, w, ⟨r1, r2, r3, ⟨T + 1, hT2, ?_, ?_, fun i hi => ?_⟩, r5, r6, r7, q_r8_ag (fun c hc => ?_) r8, r9, r10, r11, r12, r14⟩, r13⟩⟩
      · show some (m 97 19 + 1) = some (m 0 13 + 1)
        rw [s1, s2]
      · show m 0 13 + 1 = _
        rw [s1, nI_1]
      · show m 97 19 + 1 = _
        rw [s2, nI_1]
      · show q_up m 35 T a1 35 i = q_up m 113 T a1 113 i
        rw [q_up_eq, q_up_eq]
        unfold upd
        by_cases e : i = T
        · rw [if_pos e, if_pos e]
        · rw [if_neg e, if_neg e]
          exact s3 i (by omega)
      · show q_up (q_up (q_up (q_up m 35 T a1) 0 13 (m 0 13 + 1)) 113 T a1) 97 19 (m 97 19 + 1) c = m c
        rw [q_up_ne (by omega), q_up_ne (by omega), q_up_ne (by omega), q_up_ne (by omega)]
    · have c2 : ¬ ¬ m 97 19 = 30 := c2
      rw [s2] at c2
      exact absurd ((nI_eq (a := T) (b := 30) (by omega) (by omega)).mp (Decidable.not_not.mp c2)) (by omega)
  · have c1 : ¬ m 0 13 < 30 := c1
    rw [s1] at c1
    have hT2 : T = 30 := by
      rcases Nat.lt_or_ge T 30 with z | z
      · exact absurd ((nI_ltI (a := T) (b := 30) (by omega) (by omega)).mpr z) c1
      · omega
    repeat (refine q_wst rfl rfl rfl ?_)
    refine q_cf 4 rfl (by decide) rfl rfl rfl ⟨_, rfl, b, _, rfl, ?_⟩
    unfold q_Wm
    repeat (refine q_wst rfl rfl rfl ?_)
    refine q_wif (fun c2 => absurd (by show m 97 19 = 30; rw [s2, hT2]; rfl) c2) (fun c2 => ?_)
    repeat (refine q_wst rfl rfl rfl ?_)
    exact q_mf 4 rfl (by decide) rfl rfl rfl ⟨rfl, b, _, rfl, q_RR_fnd hR (q_same_rf _)⟩

theorem ob_purse (a1 a2 : Int32) : q_Ob q_RR 99 169 [a1, a2] := by
  intro b m hR
  obtain ⟨P, w, ⟨r1, r2, r3, r4, r5, r6, r7, r8, r9, r10, r11, r12, r14⟩, r13⟩ := id hR
  unfold q_Wm
  repeat (refine q_wst rfl rfl rfl ?_)
  refine q_wcl rfl rfl rfl ?_
  refine t_isParty _ _ _ _ (fun c1 c2 => ?_) (fun c1 => ?_)
  · obtain ⟨j, hj, e⟩ := nI_of2 (M := 7) (n := 7) rfl (Int32.not_lt.mpr c1) c2
    subst e
    have hj8 : j < 8 := by omega
    have e12 := r12 j hj8
    repeat (refine q_wst rfl rfl rfl ?_)
    refine q_wif (fun c3 => ?_) (fun c3 => ?_)
    · repeat (refine q_wst rfl rfl rfl ?_)
      refine q_wrd j rfl hj8 rfl (q_at32 b) (by decide) ?_
      repeat (refine q_wst rfl rfl rfl ?_)
      refine q_wif (fun c4 => ?_) (fun c4 => ?_)
      · repeat (refine q_wst rfl rfl rfl ?_)
        refine q_wrt rfl rfl rfl ⟨_, rfl, b, _, rfl, ?_⟩
        unfold q_Wm
        repeat (refine q_wst rfl rfl rfl ?_)
        refine q_wcl rfl rfl rfl ?_
        refine t_misParty _ _ _ _ (fun _ _ => ?_) (fun q => absurd ⟨c1, c2⟩ q)
        repeat (refine q_wst rfl rfl rfl ?_)
        refine q_wif (fun _ => ?_) (fun q => absurd c3 q)
        repeat (refine q_wst rfl rfl rfl ?_)
        refine q_wrd j rfl hj8 rfl (q_at112 b) (by decide) ?_
        repeat (refine q_wst rfl rfl rfl ?_)
        refine q_wif (fun q => absurd q (Int32.not_le.mpr c4)) (fun _ => ?_)
        repeat (refine q_wst rfl rfl rfl ?_)
        refine q_wwr j rfl hj8 rfl (q_at112 b) (by decide) ?_
        repeat (refine q_wst rfl rfl rfl ?_)
        refine q_wrt rfl rfl rfl ⟨congrArg some e12.symm, b, _, rfl, ⟨P, w, ⟨r1, r2, r3, r4, r5, r6, r7, q_r8_ag (fun c hc => ?_) r8, r9, r10, r11, fun i hi => ?_, r14⟩, r13⟩⟩
        · show q_up m 112 j (m 112 j) c = m c
          rw [q_up_ne (by omega)]
        · show m 32 i = q_up m 112 j (m 112 j) 112 i
          rw [q_up_eq]
          unfold upd
          by_cases e : i = j
          · rw [if_pos e, e, e12]
          · rw [if_neg e]
            exact r12 i hi
      · repeat (refine q_wst rfl rfl rfl ?_)
        refine q_wwr j rfl hj8 rfl (q_at32 b) (by decide) ?_
        repeat (refine q_wst rfl rfl rfl ?_)
        refine q_wrt rfl rfl rfl ⟨_, rfl, b, _, rfl, ?_⟩
        unfold q_Wm
        repeat (refine q_wst rfl rfl rfl ?_)
        refine q_wcl rfl rfl rfl ?_
        refine t_misParty _ _ _ _ (fun _ _ => ?_) (fun q => absurd ⟨c1, c2⟩ q)
        repeat (refine q_wst rfl rfl rfl ?_)
        refine q_wif (fun _ => ?_) (fun q => absurd c3 q)
        repeat (refine q_wst rfl rfl rfl ?_)
        refine q_wrd j rfl hj8 rfl (q_at112 b) (by decide) ?_
        repeat (refine q_wst rfl rfl rfl ?_)
        refine q_wif (fun _ => ?_) (fun q => absurd (Int32.not_lt.mp c4) q)
        repeat (refine q_wst rfl rfl rfl ?_)
        refine q_wwr j rfl hj8 rfl (q_at112 b) (by decide) ?_
        repeat (refine q_wst rfl rfl rfl ?_)
        refine q_wrt rfl rfl rfl ⟨congrArg some e12.symm, b, _, rfl, ⟨P, w, ⟨r1, r2, r3, r4, r5, r6, r7, q_r8_ag (fun c hc => ?_) r8, r9, r10, r11, fun i hi => ?_, r14⟩, r13⟩⟩
        · show q_up (q_up m 32 j a2) 112 j a2 c = m c
          rw [q_up_ne (by omega), q_up_ne (by omega)]
        · show q_up m 32 j a2 32 i = q_up m 112 j a2 112 i
          rw [q_up_eq, q_up_eq]
          unfold upd
          by_cases e : i = j
          · rw [if_pos e, if_pos e]
          · rw [if_neg e, if_neg e]
            exact r12 i hi
    · repeat (refine q_wst rfl rfl rfl ?_)
      refine q_cf 1 rfl (by decide) rfl rfl rfl ⟨_, rfl, b, _, rfl, ?_⟩
      unfold q_Wm
      repeat (refine q_wst rfl rfl rfl ?_)
      refine q_wcl rfl rfl rfl ?_
      refine t_misParty _ _ _ _ (fun _ _ => ?_) (fun q => absurd ⟨c1, c2⟩ q)
      repeat (refine q_wst rfl rfl rfl ?_)
      refine q_wif (fun q => absurd q c3) (fun _ => ?_)
      repeat (refine q_wst rfl rfl rfl ?_)
      exact q_mf 1 rfl (by decide) rfl rfl rfl ⟨rfl, b, _, rfl, q_RR_fnd hR (q_same_rf _)⟩
  · repeat (refine q_wst rfl rfl rfl ?_)
    refine q_cf 1 rfl (by decide) rfl rfl rfl ⟨_, rfl, b, _, rfl, ?_⟩
    unfold q_Wm
    repeat (refine q_wst rfl rfl rfl ?_)
    refine q_wcl rfl rfl rfl ?_
    refine t_misParty _ _ _ _ (fun x y => absurd ⟨x, y⟩ c1) (fun _ => ?_)
    repeat (refine q_wst rfl rfl rfl ?_)
    exact q_mf 1 rfl (by decide) rfl rfl rfl ⟨rfl, b, _, rfl, q_RR_fnd hR (q_same_rf _)⟩
theorem ob_column (a1 a2 : Int32) : q_Ob q_RR 101 171 [a1, a2] := by
  intro b m hR
  obtain ⟨P, w, ⟨r1, r2, r3, r4, r5, r6, r7, r8, r9, r10, r11, r12, r14⟩, r13⟩ := id hR
  unfold q_Wm
  repeat (refine q_wst rfl rfl rfl ?_)
  refine q_wcl rfl rfl rfl ?_
  refine t_within _ _ _ _ _ _ (fun c1 c2 => ?_) (fun c1 => ?_)
  · have c1 : (1 : Int32) ≤ a1 := c1
    obtain ⟨j, hj, e⟩ := nI_of2 (M := 5) (n := 5) rfl (Int32.not_lt.mpr (Int32.le_trans (by decide) c1)) c2
    subst e
    have hj1 : 1 ≤ j := (nI_leI (a := 1) (b := j) (by omega) (by omega)).mp c1
    have hj6 : j < 6 := by omega
    have e7 := r7 j hj1 hj
    repeat (refine q_wst rfl rfl rfl ?_)
    refine q_wcl rfl rfl rfl ?_
    refine t_within _ _ _ _ _ _ (fun d1 d2 => ?_) (fun d1 => ?_)
    · repeat (refine q_wst rfl rfl rfl ?_)
      refine q_wrd j rfl hj6 rfl (q_at34 b) (by decide) ?_
      repeat (refine q_wst rfl rfl rfl ?_)
      refine q_wif (fun c4 => ?_) (fun c4 => ?_)
      · repeat (refine q_wst rfl rfl rfl ?_)
        refine q_wrt rfl rfl rfl ⟨_, rfl, b, _, rfl, ?_⟩
        unfold q_Wm
        repeat (refine q_wst rfl rfl rfl ?_)
        refine q_wcl rfl rfl rfl ?_
        refine t_mwithin _ _ _ _ _ _ (fun _ _ => ?_) (fun q => absurd ⟨c1, c2⟩ q)
        repeat (refine q_wst rfl rfl rfl ?_)
        refine q_wcl rfl rfl rfl ?_
        refine t_mwithin _ _ _ _ _ _ (fun _ _ => ?_) (fun q => absurd ⟨d1, d2⟩ q)
        repeat (refine q_wst rfl rfl rfl ?_)
        refine q_wrd j rfl hj6 rfl (q_at99 b) (by decide) ?_
        repeat (refine q_wst rfl rfl rfl ?_)
        refine q_wif (fun q => absurd q (Int32.not_le.mpr c4)) (fun _ => ?_)
        repeat (refine q_wst rfl rfl rfl ?_)
        refine q_wwr j rfl hj6 rfl (q_at99 b) (by decide) ?_
        repeat (refine q_wst rfl rfl rfl ?_)
        refine q_wrt rfl rfl rfl ⟨congrArg some e7.symm, b, _, rfl, ⟨P, w, ⟨r1, r2, r3, r4, r5, r6, fun i h1 h2 => ?_, q_r8_ag (fun c hc => ?_) r8, r9, r10, r11, r12, r14⟩, r13⟩⟩
        · show m 34 i = q_up m 99 j (m 99 j) 99 i
          rw [q_up_eq]
          unfold upd
          by_cases e : i = j
          · rw [if_pos e, e, e7]
          · rw [if_neg e]
            exact r7 i h1 h2
        · show q_up m 99 j (m 99 j) c = m c
          rw [q_up_ne (by omega)]
      · repeat (refine q_wst rfl rfl rfl ?_)
        refine q_wwr j rfl hj6 rfl (q_at34 b) (by decide) ?_
        repeat (refine q_wst rfl rfl rfl ?_)
        refine q_wrt rfl rfl rfl ⟨_, rfl, b, _, rfl, ?_⟩
        unfold q_Wm
        repeat (refine q_wst rfl rfl rfl ?_)
        refine q_wcl rfl rfl rfl ?_
        refine t_mwithin _ _ _ _ _ _ (fun _ _ => ?_) (fun q => absurd ⟨c1, c2⟩ q)
        repeat (refine q_wst rfl rfl rfl ?_)
        refine q_wcl rfl rfl rfl ?_
        refine t_mwithin _ _ _ _ _ _ (fun _ _ => ?_) (fun q => absurd ⟨d1, d2⟩ q)
        repeat (refine q_wst rfl rfl rfl ?_)
        refine q_wrd j rfl hj6 rfl (q_at99 b) (by decide) ?_
        repeat (refine q_wst rfl rfl rfl ?_)
        refine q_wif (fun _ => ?_) (fun q => absurd (Int32.not_lt.mp c4) q)
        repeat (refine q_wst rfl rfl rfl ?_)
        refine q_wwr j rfl hj6 rfl (q_at99 b) (by decide) ?_
        repeat (refine q_wst rfl rfl rfl ?_)
        refine q_wrt rfl rfl rfl ⟨congrArg some e7.symm, b, _, rfl, ⟨P, w, ⟨r1, r2, r3, r4, r5, r6, fun i h1 h2 => ?_, q_r8_ag (fun c hc => ?_) r8, r9, r10, r11, r12, r14⟩, r13⟩⟩
        · show q_up m 34 j a2 34 i = q_up m 99 j a2 99 i
          rw [q_up_eq, q_up_eq]
          unfold upd
          by_cases e : i = j
          · rw [if_pos e, if_pos e]
          · rw [if_neg e, if_neg e]
            exact r7 i h1 h2
        · show q_up (q_up m 34 j a2) 99 j a2 c = m c
          rw [q_up_ne (by omega), q_up_ne (by omega)]
    · repeat (refine q_wst rfl rfl rfl ?_)
      refine q_cf 1 rfl (by decide) rfl rfl rfl ⟨_, rfl, b, _, rfl, ?_⟩
      unfold q_Wm
      repeat (refine q_wst rfl rfl rfl ?_)
      refine q_wcl rfl rfl rfl ?_
      refine t_mwithin _ _ _ _ _ _ (fun _ _ => ?_) (fun q => absurd ⟨c1, c2⟩ q)
      repeat (refine q_wst rfl rfl rfl ?_)
      refine q_wcl rfl rfl rfl ?_
      refine t_mwithin _ _ _ _ _ _ (fun x y => absurd ⟨x, y⟩ d1) (fun _ => ?_)
      repeat (refine q_wst rfl rfl rfl ?_)
      exact q_mf 1 rfl (by decide) rfl rfl rfl ⟨rfl, b, _, rfl, q_RR_fnd hR (q_same_rf _)⟩
  · repeat (refine q_wst rfl rfl rfl ?_)
    refine q_cf 1 rfl (by decide) rfl rfl rfl ⟨_, rfl, b, _, rfl, ?_⟩
    unfold q_Wm
    repeat (refine q_wst rfl rfl rfl ?_)
    refine q_wcl rfl rfl rfl ?_
    refine t_mwithin _ _ _ _ _ _ (fun x y => absurd ⟨x, y⟩ c1) (fun _ => ?_)
    repeat (refine q_wst rfl rfl rfl ?_)
    exact q_mf 1 rfl (by decide) rfl rfl rfl ⟨rfl, b, _, rfl, q_RR_fnd hR (q_same_rf _)⟩
