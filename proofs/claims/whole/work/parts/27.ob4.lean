/-! obligations: lose, as, depth, sum, passing -/
/-- a call of a method of a piece -/
theorem q_wcP {X : q_X} {d k pc : Nat} {pl : q_L} {st : List q_V} {b : Bool} {m : q_M} {Q : Option Int32 → q_H → Prop} {e : q_E} {tl : List q_V} (p : Nat) (hp : p < 30) (hc : q_cd k pc = some e) (hk : q_kd e = 1) (ho : (Nat.ble (q_na e.2.1) st.length && Nat.ble (st.drop (q_na e.2.1)).length 8 && q_ns (q_arg e.2.1 st)) = true) (ha : q_arg e.2.1 st = vr (37 + 2 * p) :: tl) (hx : Nat.beq 6 (q_cx e.2.1) = true) (g : q_Wm d e.2.1 (q_arg e.2.1 st) (q_hp b m) (fun r h1 => q_WP X (d + 1) k (pc + 3) pl (q_psh r (st.drop (q_na e.2.1))) h1 Q)) : q_WP X (d + 1) k pc pl st (q_hp b m) Q := by
  refine q_wcl hc hk ?_ g
  unfold q_okc
  rw [ho, Bool.true_and]
  unfold q_rc
  rw [ha]
  try dsimp only
  rw [q_atP b p hp]
  try dsimp only
  rw [hx, Bool.or_true]
theorem t_isA (d : Nat) (b : Bool) (m : q_M) (p : Nat) (hp : p < 30) (x : Int32) (Q : Option Int32 → q_H → Prop) (ht : (x = 0 ∨ m (37 + 2 * p) 1 = x ∨ (x = 2 ∧ m (37 + 2 * p) 1 = 3)) → Q (some 1) (q_hp b m)) (hf : ¬ (x = 0 ∨ m (37 + 2 * p) 1 = x ∨ (x = 2 ∧ m (37 + 2 * p) 1 = 3)) → Q (some 0) (q_hp b m)) : q_Wm d 38 [vr (37 + 2 * p), vi x] (q_hp b m) Q := by
  unfold q_Wm
  repeat (refine q_wst rfl rfl rfl ?_)
  refine q_wif (fun c1 => ?_) (fun c1 => ?_)
  · repeat (refine q_wst rfl rfl rfl ?_)
    exact q_wrt rfl rfl rfl (ht (Or.inl c1))
  · repeat (refine q_wst rfl rfl rfl ?_)
    refine q_wgi rfl (q_atP b p hp) rfl rfl ?_
    repeat (refine q_wst rfl rfl rfl ?_)
    refine q_wif (fun c2 => ?_) (fun c2 => ?_)
    · repeat (refine q_wst rfl rfl rfl ?_)
      exact q_wrt rfl rfl rfl (ht (Or.inr (Or.inl c2)))
    · repeat (refine q_wst rfl rfl rfl ?_)
      refine q_wif (fun c3 => ?_) (fun c3 => ?_)
      · repeat (refine q_wst rfl rfl rfl ?_)
        refine q_wrt rfl rfl rfl (hf (fun z => ?_))
        rcases z with z | z | z
        · exact c1 z
        · exact c2 z
        · exact c3 z.1
      · repeat (refine q_wst rfl rfl rfl ?_)
        refine q_wgi rfl (q_atP b p hp) rfl rfl ?_
        repeat (refine q_wst rfl rfl rfl ?_)
        refine q_wif (fun c4 => ?_) (fun c4 => ?_)
        · repeat (refine q_wst rfl rfl rfl ?_)
          refine q_wrt rfl rfl rfl (hf (fun z => ?_))
          rcases z with z | z | z
          · exact c1 z
          · exact c2 z
          · exact c4 z.2
        · repeat (refine q_wst rfl rfl rfl ?_)
          exact q_wrt rfl rfl rfl (ht (Or.inr (Or.inr ⟨Decidable.not_not.mp c3, Decidable.not_not.mp c4⟩)))
theorem ob_as (a1 a2 : Int32) : q_Ob q_RR 64 128 [a1, a2] := by
  intro b m hR
  obtain ⟨P, w, hR0, h13⟩ := id hR
  have r1 := hR0.1
  unfold q_Wm
  repeat (refine q_wst rfl rfl rfl ?_)
  refine q_wcl rfl rfl rfl ?_
  refine t_isPiece _ b m a1 r1.1 r1.2.1 _ (fun p hp e => ?_) (fun hn => ?_)
  · subst e
    have hp30 : p < 30 := Nat.lt_of_lt_of_le hp r1.1
    have r8 := hR0.2.2.2.2.2.2.2.1 p hp30
    have e1 : m (37 + 2 * p) 1 = m 100 p := r8.1
    have e2 : m (37 + 2 * p) 2 = m 101 p := r8.2.1
    repeat (refine q_wst rfl rfl rfl ?_)
    refine q_wcl rfl rfl rfl ?_
    refine t_within _ _ _ _ _ _ (fun c1 c2 => ?_) (fun c1 => ?_)
    · repeat (refine q_wst rfl rfl rfl ?_)
      refine q_wpc p rfl hp30 rfl ?_
      repeat (refine q_wst rfl rfl rfl ?_)
      refine q_wcP p hp30 rfl rfl rfl rfl rfl ?_
      refine t_isA _ b m p hp30 a2 _ (fun z => ?_) (fun z => ?_)
      · repeat (refine q_wst rfl rfl rfl ?_)
        refine q_wpc p rfl hp30 rfl ?_
        refine q_wgi rfl (q_atP b p hp30) rfl rfl ?_
        refine q_wrt rfl rfl rfl ⟨_, rfl, b, _, rfl, ?_⟩
        unfold q_Wm
        repeat (refine q_wst rfl rfl rfl ?_)
        refine q_wcl rfl rfl rfl ?_
        refine t_misPiece (P := P) _ b _ _ r1.1 (by exact r1.2.2) _ (fun q hq e => ?_) (fun hn => absurd rfl (hn p hp))
        repeat (refine q_wst rfl rfl rfl ?_)
        refine q_wcl rfl rfl rfl ?_
        refine t_mwithin _ _ _ _ _ _ (fun _ _ => ?_) (fun q => absurd ⟨c1, c2⟩ q)
        repeat (refine q_wst rfl rfl rfl ?_)
        refine q_wif (fun d1 => ?_) (fun d1 => ?_)
        · repeat (refine q_wst rfl rfl rfl ?_)
          refine q_wrd p rfl hp30 rfl (q_at101 b) (by decide) ?_
          repeat (refine q_wst rfl rfl rfl ?_)
          exact q_wrt rfl rfl rfl ⟨congrArg some e2.symm, b, _, rfl, hR⟩
        · repeat (refine q_wst rfl rfl rfl ?_)
          refine q_wrd p rfl hp30 rfl (q_at100 b) (by decide) ?_
          repeat (refine q_wst rfl rfl rfl ?_)
          refine q_wif (fun d2 => ?_) (fun d2 => ?_)
          · repeat (refine q_wst rfl rfl rfl ?_)
            refine q_wrd p rfl hp30 rfl (q_at101 b) (by decide) ?_
            repeat (refine q_wst rfl rfl rfl ?_)
            exact q_wrt rfl rfl rfl ⟨congrArg some e2.symm, b, _, rfl, hR⟩
          · repeat (refine q_wst rfl rfl rfl ?_)
            have d2 : ¬ m 100 p = a2 := d2
            have z2 : a2 = 2 ∧ m 100 p = 3 := by
              rw [e1] at z
              rcases z with z | z | z
              · exact absurd z d1
              · exact absurd z d2
              · exact z
            refine q_wif (fun d3 => absurd z2.1 d3) (fun _ => ?_)
            repeat (refine q_wst rfl rfl rfl ?_)
            refine q_wrd p rfl hp30 rfl (q_at100 b) (by decide) ?_
            repeat (refine q_wst rfl rfl rfl ?_)
            refine q_wif (fun d3 => absurd z2.2 d3) (fun _ => ?_)
            repeat (refine q_wst rfl rfl rfl ?_)
            refine q_wrd p rfl hp30 rfl (q_at101 b) (by decide) ?_
            repeat (refine q_wst rfl rfl rfl ?_)
            exact q_wrt rfl rfl rfl ⟨congrArg some e2.symm, b, _, rfl, hR⟩
      · rw [e1] at z
        repeat (refine q_wst rfl rfl rfl ?_)
        refine q_cf 5 rfl (by decide) rfl rfl rfl ⟨_, rfl, b, _, rfl, ?_⟩
        unfold q_Wm
        repeat (refine q_wst rfl rfl rfl ?_)
        refine q_wcl rfl rfl rfl ?_
        refine t_misPiece (P := P) _ b _ _ r1.1 (by exact r1.2.2) _ (fun q hq e => ?_) (fun hn => absurd rfl (hn p hp))
        repeat (refine q_wst rfl rfl rfl ?_)
        refine q_wcl rfl rfl rfl ?_
        refine t_mwithin _ _ _ _ _ _ (fun _ _ => ?_) (fun q => absurd ⟨c1, c2⟩ q)
        repeat (refine q_wst rfl rfl rfl ?_)
        refine q_wif (fun d1 => absurd (Or.inl d1) z) (fun d1 => ?_)
        repeat (refine q_wst rfl rfl rfl ?_)
        refine q_wrd p rfl hp30 rfl (q_at100 b) (by decide) ?_
        repeat (refine q_wst rfl rfl rfl ?_)
        refine q_wif (fun d2 => absurd (Or.inr (Or.inl d2)) z) (fun d2 => ?_)
        repeat (refine q_wst rfl rfl rfl ?_)
        refine q_wif (fun d3 => ?_) (fun d3 => ?_)
        · repeat (refine q_wst rfl rfl rfl ?_)
          refine q_wcl rfl rfl rfl ?_
          refine t_mfinding _ b _ 5 _ (by decide) (by rfl) _ ?_
          repeat (refine q_wst rfl rfl rfl ?_)
          exact q_wrt rfl rfl rfl ⟨rfl, b, _, rfl, q_RR_fnd hR (q_same_rf _)⟩
        · repeat (refine q_wst rfl rfl rfl ?_)
          refine q_wrd p rfl hp30 rfl (q_at100 b) (by decide) ?_
          repeat (refine q_wst rfl rfl rfl ?_)
          refine q_wif (fun d4 => ?_) (fun d4 => absurd (Or.inr (Or.inr ⟨Decidable.not_not.mp d3, Decidable.not_not.mp d4⟩)) z)
          repeat (refine q_wst rfl rfl rfl ?_)
          refine q_wcl rfl rfl rfl ?_
          refine t_mfinding _ b _ 5 _ (by decide) (by rfl) _ ?_
          repeat (refine q_wst rfl rfl rfl ?_)
          exact q_wrt rfl rfl rfl ⟨rfl, b, _, rfl, q_RR_fnd hR (q_same_rf _)⟩
    · repeat (refine q_wst rfl rfl rfl ?_)
      refine q_cf 1 rfl (by decide) rfl rfl rfl ⟨_, rfl, b, _, rfl, ?_⟩
      unfold q_Wm
      repeat (refine q_wst rfl rfl rfl ?_)
      refine q_wcl rfl rfl rfl ?_
      refine t_misPiece (P := P) _ b _ _ r1.1 (by exact r1.2.2) _ (fun q hq e => ?_) (fun hn => absurd rfl (hn p hp))
      repeat (refine q_wst rfl rfl rfl ?_)
      refine q_wcl rfl rfl rfl ?_
      refine t_mwithin _ _ _ _ _ _ (fun x y => absurd ⟨x, y⟩ c1) (fun _ => ?_)
      repeat (refine q_wst rfl rfl rfl ?_)
      exact q_mf 1 rfl (by decide) rfl rfl rfl ⟨rfl, b, _, rfl, q_RR_fnd hR (q_same_rf _)⟩
  · repeat (refine q_wst rfl rfl rfl ?_)
    refine q_cf 1 rfl (by decide) rfl rfl rfl ⟨_, rfl, b, _, rfl, ?_⟩
    unfold q_Wm
    repeat (refine q_wst rfl rfl rfl ?_)
    refine q_wcl rfl rfl rfl ?_
    refine t_misPiece (P := P) _ b _ _ r1.1 (by exact r1.2.2) _ (fun q hq e => absurd e (hn q hq)) (fun _ => ?_)
    repeat (refine q_wst rfl rfl rfl ?_)
    exact q_mf 1 rfl (by decide) rfl rfl rfl ⟨rfl, b, _, rfl, q_RR_fnd hR (q_same_rf _)⟩
theorem ob_depth (a1 a2 : Int32) : q_Ob q_RR 68 132 [a1, a2] := by
  intro b m hR
  obtain ⟨P, w, hR0, h13⟩ := id hR
  have r1 := hR0.1
  unfold q_Wm
  repeat (refine q_wst rfl rfl rfl ?_)
  refine q_wcl rfl rfl rfl ?_
  refine t_isPiece _ b m a1 r1.1 r1.2.1 _ (fun p hp e => ?_) (fun hn => ?_)
  · subst e
    have hp30 : p < 30 := Nat.lt_of_lt_of_le hp r1.1
    have r8 := hR0.2.2.2.2.2.2.2.1 p hp30
    repeat (refine q_wst rfl rfl rfl ?_)
    refine q_wcl rfl rfl rfl ?_
    refine t_isPlace _ _ _ _ (fun c1 c2 => ?_) (fun c1 => ?_)
    · obtain ⟨j, hj, e⟩ := nI_of2 (M := 39) (n := 39) rfl (Int32.not_lt.mpr c1) c2
      subst e
      have hj40 : j < 40 := by omega
      repeat (refine q_wst rfl rfl rfl ?_)
      refine q_wpc p rfl hp30 rfl ?_
      refine q_wgr rfl (q_atP b p hp30) rfl rfl ?_
      repeat (refine q_wst rfl rfl rfl ?_)
      refine q_wrd j rfl hj40 rfl (q_atD b p hp30) (by decide) ?_
      refine q_wrt rfl rfl rfl ⟨_, rfl, b, _, rfl, ?_⟩
      unfold q_Wm
      repeat (refine q_wst rfl rfl rfl ?_)
      refine q_wcl rfl rfl rfl ?_
      refine t_misPiece (P := P) _ b _ _ r1.1 (by exact r1.2.2) _ (fun q hq e => ?_) (fun hn => absurd rfl (hn p hp))
      repeat (refine q_wst rfl rfl rfl ?_)
      refine q_wcl rfl rfl rfl ?_
      refine t_mwithin _ _ _ _ _ _ (fun _ _ => ?_) (fun q => absurd ⟨c1, c2⟩ q)
      repeat (refine q_wst rfl rfl rfl ?_)
      refine q_wrd (40 * p + j) (by show nI 40 * nI p + nI j = _; rw [pk_mul, nI_add]) (by omega) rfl (q_at106 b) (by decide) ?_
      repeat (refine q_wst rfl rfl rfl ?_)
      exact q_wrt rfl rfl rfl ⟨congrArg some (r8.2.2.2.2.2.2 j hj40).symm, b, _, rfl, hR⟩
    · repeat (refine q_wst rfl rfl rfl ?_)
      refine q_cf 1 rfl (by decide) rfl rfl rfl ⟨_, rfl, b, _, rfl, ?_⟩
      unfold q_Wm
      repeat (refine q_wst rfl rfl rfl ?_)
      refine q_wcl rfl rfl rfl ?_
      refine t_misPiece (P := P) _ b _ _ r1.1 (by exact r1.2.2) _ (fun q hq e => ?_) (fun hn => absurd rfl (hn p hp))
      repeat (refine q_wst rfl rfl rfl ?_)
      refine q_wcl rfl rfl rfl ?_
      refine t_mwithin _ _ _ _ _ _ (fun x y => absurd ⟨x, y⟩ c1) (fun _ => ?_)
      repeat (refine q_wst rfl rfl rfl ?_)
      refine q_wcl rfl rfl rfl ?_
      refine t_mfinding _ b _ 1 _ (by decide) (by rfl) _ ?_
      repeat (refine q_wst rfl rfl rfl ?_)
      exact q_wrt rfl rfl rfl ⟨rfl, b, _, rfl, q_RR_fnd hR (q_same_rf _)⟩
  · repeat (refine q_wst rfl rfl rfl ?_)
    refine q_cf 1 rfl (by decide) rfl rfl rfl ⟨_, rfl, b, _, rfl, ?_⟩
    unfold q_Wm
    repeat (refine q_wst rfl rfl rfl ?_)
    refine q_wcl rfl rfl rfl ?_
    refine t_misPiece (P := P) _ b _ _ r1.1 (by exact r1.2.2) _ (fun q hq e => absurd e (hn q hq)) (fun _ => ?_)
    repeat (refine q_wst rfl rfl rfl ?_)
    refine q_wcl rfl rfl rfl ?_
    refine t_mfinding _ b _ 1 _ (by decide) (by rfl) _ ?_
    repeat (refine q_wst rfl rfl rfl ?_)
    exact q_wrt rfl rfl rfl ⟨rfl, b, _, rfl, q_RR_fnd hR (q_same_rf _)⟩
theorem q_m97 {m : q_M} {c j : Nat} {v : Int32} (h : c ≠ 97) {i : Nat} {x : Int32} (e : m 97 i = x) : q_up m c j v 97 i = x := by
  rw [q_up_ne (fun z => h z.symm)]
  exact e
theorem ob_lose (a1 a2 : Int32) : q_Ob q_RR 65 129 [a1, a2] := by
  intro b m hR
  obtain ⟨P, w, hR0, h13⟩ := id hR
  have r1 := hR0.1
  unfold q_Wm
  repeat (refine q_wst rfl rfl rfl ?_)
  refine q_wcl rfl rfl rfl ?_
  refine t_isPiece _ b m a1 r1.1 r1.2.1 _ (fun p hp e => ?_) (fun hn => ?_)
  · subst e
    have hp30 : p < 30 := Nat.lt_of_lt_of_le hp r1.1
    have r8 := hR0.2.2.2.2.2.2.2.1 p hp30
    have e6 : m (37 + 2 * p) 6 = m 105 p := r8.2.2.2.2.2.1
    have fin : ∀ v : Int32, (v = 0 ∨ v = 1) → q_RR b (q_up (q_up m (37 + 2 * p) 6 v) 105 p v) := by
      intro v hv
      refine ⟨P, w, q_RR_pf (m := m) (p := p) (j := 6) (v := v) hR0 h13 hp (by decide) (fun c h1 h2 h3 => ?_) (fun i hi => ?_) ?_ ?_ ?_ (fun z => by cases z) (fun z => by cases z) (fun z => by cases z) (fun _ => ?_)⟩
      · rw [q_up_ne h3, q_up_ne h2]
      · rw [q_up_ne (by decide), q_up_ne (by omega)]
      · rw [q_up_ne (by decide), q_up_ne (by omega)]
      · rw [q_up_ne (by omega), q_up_eq]
      · show q_up (q_up m (37 + 2 * p) 6 v) 105 p v 105 = _
        rw [q_up_eq, q_up_ne (by omega)]
      · rcases hv with rfl | rfl
        · exact ⟨0, by decide, rfl⟩
        · exact ⟨1, by decide, rfl⟩
    repeat (refine q_wst rfl rfl rfl ?_)
    refine q_wcl rfl rfl rfl ?_
    refine t_within _ _ _ _ _ _ (fun c1 c2 => ?_) (fun c1 => ?_)
    · have ha : a2 = 0 ∨ a2 = 1 := by
        obtain ⟨j, hj, e⟩ := nI_of2 (M := 1) (n := 1) rfl (Int32.not_lt.mpr c1) c2
        rcases (by omega : j = 0 ∨ j = 1) with rfl | rfl
        · exact Or.inl e
        · exact Or.inr e
      rcases ha with rfl | rfl
      · repeat (refine q_wst rfl rfl rfl ?_)
        refine q_wpc p rfl hp30 rfl ?_
        repeat (refine q_wst rfl rfl rfl ?_)
        refine q_wgi rfl (q_atP b p hp30) rfl rfl ?_
        repeat (refine q_wst rfl rfl rfl ?_)
        refine q_wif (fun c3 => ?_) (fun c3 => ?_)
        · repeat (refine q_wst rfl rfl rfl ?_)
          refine q_wpi rfl (q_atP b p hp30) rfl rfl ?_
          repeat (refine q_wst rfl rfl rfl ?_)
          refine q_wrt rfl rfl rfl ⟨_, rfl, b, _, rfl, ?_⟩
          unfold q_Wm
          repeat (refine q_wst rfl rfl rfl ?_)
          refine q_wcl rfl rfl rfl ?_
          refine t_misPiece (P := P) _ b _ _ r1.1 (q_m97 (by omega) r1.2.2) _ (fun q hq e => ?_) (fun hn => absurd rfl (hn p hp))
          repeat (refine q_wst rfl rfl rfl ?_)
          refine q_wcl rfl rfl rfl ?_
          refine t_mwithin _ _ _ _ _ _ (fun _ _ => ?_) (fun q => absurd ⟨c1, c2⟩ q)
          repeat (refine q_wst rfl rfl rfl ?_)
          refine q_wrd p rfl hp30 rfl (q_at105 b) (by decide) ?_
          repeat (refine q_wst rfl rfl rfl ?_)
          refine q_wif (fun _ => ?_) (fun c4 => absurd ((congrFun (q_up_ne (by omega)) p).trans (e6.symm.trans c3)) c4)
          repeat (refine q_wst rfl rfl rfl ?_)
          refine q_wwr p rfl hp30 rfl (q_at105 b) (by decide) ?_
          repeat (refine q_wst rfl rfl rfl ?_)
          exact q_wrt rfl rfl rfl ⟨rfl, b, _, rfl, fin 0 (Or.inl rfl)⟩
        · repeat (refine q_wst rfl rfl rfl ?_)
          refine q_cf 3 rfl (by decide) rfl rfl rfl ⟨_, rfl, b, _, rfl, ?_⟩
          unfold q_Wm
          repeat (refine q_wst rfl rfl rfl ?_)
          refine q_wcl rfl rfl rfl ?_
          refine t_misPiece (P := P) _ b _ _ r1.1 (by exact r1.2.2) _ (fun q hq e => ?_) (fun hn => absurd rfl (hn p hp))
          repeat (refine q_wst rfl rfl rfl ?_)
          refine q_wcl rfl rfl rfl ?_
          refine t_mwithin _ _ _ _ _ _ (fun _ _ => ?_) (fun q => absurd ⟨c1, c2⟩ q)
          repeat (refine q_wst rfl rfl rfl ?_)
          refine q_wrd p rfl hp30 rfl (q_at105 b) (by decide) ?_
          repeat (refine q_wst rfl rfl rfl ?_)
          refine q_wif (fun c4 => absurd (e6.trans c4) c3) (fun _ => ?_)
          repeat (refine q_wst rfl rfl rfl ?_)
          exact q_mf 3 rfl (by decide) rfl rfl rfl ⟨rfl, b, _, rfl, q_RR_fnd hR (q_same_rf _)⟩
      · repeat (refine q_wst rfl rfl rfl ?_)
        refine q_wpc p rfl hp30 rfl ?_
        repeat (refine q_wst rfl rfl rfl ?_)
        refine q_wgi rfl (q_atP b p hp30) rfl rfl ?_
        repeat (refine q_wst rfl rfl rfl ?_)
        refine q_wif (fun c3 => ?_) (fun c3 => ?_)
        · repeat (refine q_wst rfl rfl rfl ?_)
          refine q_wpi rfl (q_atP b p hp30) rfl rfl ?_
          repeat (refine q_wst rfl rfl rfl ?_)
          refine q_wrt rfl rfl rfl ⟨_, rfl, b, _, rfl, ?_⟩
          unfold q_Wm
          repeat (refine q_wst rfl rfl rfl ?_)
          refine q_wcl rfl rfl rfl ?_
          refine t_misPiece (P := P) _ b _ _ r1.1 (q_m97 (by omega) r1.2.2) _ (fun q hq e => ?_) (fun hn => absurd rfl (hn p hp))
          repeat (refine q_wst rfl rfl rfl ?_)
          refine q_wcl rfl rfl rfl ?_
          refine t_mwithin _ _ _ _ _ _ (fun _ _ => ?_) (fun q => absurd ⟨c1, c2⟩ q)
          repeat (refine q_wst rfl rfl rfl ?_)
          refine q_wrd p rfl hp30 rfl (q_at105 b) (by decide) ?_
          repeat (refine q_wst rfl rfl rfl ?_)
          refine q_wif (fun _ => ?_) (fun c4 => absurd ((congrFun (q_up_ne (by omega)) p).trans (e6.symm.trans c3)) c4)
          repeat (refine q_wst rfl rfl rfl ?_)
          refine q_wwr p rfl hp30 rfl (q_at105 b) (by decide) ?_
          repeat (refine q_wst rfl rfl rfl ?_)
          exact q_wrt rfl rfl rfl ⟨rfl, b, _, rfl, fin 1 (Or.inr rfl)⟩
        · repeat (refine q_wst rfl rfl rfl ?_)
          refine q_cf 3 rfl (by decide) rfl rfl rfl ⟨_, rfl, b, _, rfl, ?_⟩
          unfold q_Wm
          repeat (refine q_wst rfl rfl rfl ?_)
          refine q_wcl rfl rfl rfl ?_
          refine t_misPiece (P := P) _ b _ _ r1.1 (by exact r1.2.2) _ (fun q hq e => ?_) (fun hn => absurd rfl (hn p hp))
          repeat (refine q_wst rfl rfl rfl ?_)
          refine q_wcl rfl rfl rfl ?_
          refine t_mwithin _ _ _ _ _ _ (fun _ _ => ?_) (fun q => absurd ⟨c1, c2⟩ q)
          repeat (refine q_wst rfl rfl rfl ?_)
          refine q_wrd p rfl hp30 rfl (q_at105 b) (by decide) ?_
          repeat (refine q_wst rfl rfl rfl ?_)
          refine q_wif (fun c4 => absurd (e6.trans c4) c3) (fun _ => ?_)
          repeat (refine q_wst rfl rfl rfl ?_)
          exact q_mf 3 rfl (by decide) rfl rfl rfl ⟨rfl, b, _, rfl, q_RR_fnd hR (q_same_rf _)⟩
    · repeat (refine q_wst rfl rfl rfl ?_)
      refine q_cf 1 rfl (by decide) rfl rfl rfl ⟨_, rfl, b, _, rfl, ?_⟩
      unfold q_Wm
      repeat (refine q_wst rfl rfl rfl ?_)
      refine q_wcl rfl rfl rfl ?_
      refine t_misPiece (P := P) _ b _ _ r1.1 (by exact r1.2.2) _ (fun q hq e => ?_) (fun hn => absurd rfl (hn p hp))
      repeat (refine q_wst rfl rfl rfl ?_)
      refine q_wcl rfl rfl rfl ?_
      refine t_mwithin _ _ _ _ _ _ (fun x y => absurd ⟨x, y⟩ c1) (fun _ => ?_)
      repeat (refine q_wst rfl rfl rfl ?_)
      exact q_mf 1 rfl (by decide) rfl rfl rfl ⟨rfl, b, _, rfl, q_RR_fnd hR (q_same_rf _)⟩
  · repeat (refine q_wst rfl rfl rfl ?_)
    refine q_cf 1 rfl (by decide) rfl rfl rfl ⟨_, rfl, b, _, rfl, ?_⟩
    unfold q_Wm
    repeat (refine q_wst rfl rfl rfl ?_)
    refine q_wcl rfl rfl rfl ?_
    refine t_misPiece (P := P) _ b _ _ r1.1 (by exact r1.2.2) _ (fun q hq e => absurd e (hn q hq)) (fun _ => ?_)
    repeat (refine q_wst rfl rfl rfl ?_)
    exact q_mf 1 rfl (by decide) rfl rfl rfl ⟨rfl, b, _, rfl, q_RR_fnd hR (q_same_rf _)⟩
def q_sum (c w : Nat → Int32) : Int32 := 0 + c 1 * w 1 + c 2 * w 2 + c 3 * w 3 + c 4 * w 4 + c 5 * w 5
theorem t_worthBy (d : Nat) (b : Bool) (m : q_M) (Q : Option Int32 → q_H → Prop) (hQ : Q (some (q_sum (m 34) (m 3))) (q_hp b m)) : q_Wm d 5 [vr 33, vr 3] (q_hp b m) Q := by
  unfold q_Wm
  repeat (refine q_wst rfl rfl rfl ?_)
  exact q_wrt rfl rfl rfl hQ
theorem t_msum (d : Nat) (b : Bool) (m : q_M) (Q : Option Int32 → q_H → Prop) (hQ : Q (some (q_sum (m 99) (m 98))) (q_hp b m)) : q_Wm d 173 [vr 97] (q_hp b m) Q := by
  unfold q_Wm
  repeat (refine q_wst rfl rfl rfl ?_)
  exact q_wrt rfl rfl rfl hQ
theorem q_sum_eq {w : Nat → Nat} {m : q_M} (r6 : q_r6 w m) (r7 : q_r7 m) : q_sum (m 99) (m 98) = q_sum (m 34) (m 3) := by
  have f : ∀ i, 1 ≤ i → i ≤ 5 → m 99 i = m 34 i ∧ m 98 i = m 3 i := fun i h1 h2 => ⟨(r7 i h1 h2).symm, (r6.1 i h2).2.trans (r6.1 i h2).1.symm⟩
  unfold q_sum
  rw [(f 1 (by omega) (by omega)).1, (f 2 (by omega) (by omega)).1, (f 3 (by omega) (by omega)).1, (f 4 (by omega) (by omega)).1, (f 5 (by omega) (by omega)).1, (f 1 (by omega) (by omega)).2, (f 2 (by omega) (by omega)).2, (f 3 (by omega) (by omega)).2, (f 4 (by omega) (by omega)).2, (f 5 (by omega) (by omega)).2]
theorem ob_sum (_ : Unit) : q_Ob q_RR 103 173 [] := by
  intro b m hR
  obtain ⟨P, w, hR0, h13⟩ := id hR
  unfold q_Wm
  repeat (refine q_wst rfl rfl rfl ?_)
  refine q_wcl rfl rfl rfl ?_
  refine t_worthBy _ b m _ ?_
  repeat (refine q_wst rfl rfl rfl ?_)
  refine q_wrt rfl rfl rfl ⟨_, rfl, b, _, rfl, ?_⟩
  refine t_msum _ b m _ ⟨congrArg some (q_sum_eq hR0.2.2.2.2.2.1 hR0.2.2.2.2.2.2.1), b, _, rfl, hR⟩
