/-! obligations: pass, composed, reduce -/
theorem q_RR_ps {P : Nat} {w : Nat → Nat} {b : Bool} {m m' : q_M} {G : Nat} (hR : q_R0 P w b m) (h13 : q_r13 m) (hG : G ≤ 80) (A : ∀ c, q_mc c = true → (c < 13 ∨ 17 < c) → (c < 108 ∨ 111 < c) → m' c = m c) (h7 : ∀ i, q_ms i = true → i ≠ 13 → m' 97 i = m 97 i) (h6 : m' 126 0 = m 126 0) (e1 : m' 13 4 = nI G) (e2 : m' 97 13 = nI G) (es : ∀ i, i < G → m' 14 i = m' 108 i ∧ m' 15 i = m' 109 i ∧ m' 16 i = m' 110 i ∧ m' 17 i = m' 111 i) : q_RR b m' := by
  obtain ⟨r1, r2, r3, r4, r5, r6, r7, r8, r9, r10, r11, r12, r14⟩ := hR
  refine ⟨P, w, ⟨?_, ?_, ?_, ?_, ⟨G, hG, e1, e2, es⟩, ?_, ?_, ?_, ?_, ?_, ?_, ?_, ?_⟩, ?_⟩
  · unfold q_r1; rw [A 0 rfl (by decide) (by decide), h7 4 rfl (by decide)]; exact r1
  · unfold q_r2; rw [A 0 rfl (by decide) (by decide), h7 3 rfl (by decide)]; exact r2
  · unfold q_r3; rw [A 0 rfl (by decide) (by decide), h7 0 rfl (by decide)]; exact r3
  · unfold q_r4; rw [A 0 rfl (by decide) (by decide), A 35 rfl (by decide) (by decide), A 113 rfl (by decide) (by decide), h7 19 rfl (by decide)]; exact r4
  · unfold q_r6; rw [A 3 rfl (by decide) (by decide), A 98 rfl (by decide) (by decide)]; exact r6
  · unfold q_r7; rw [A 34 rfl (by decide) (by decide), A 99 rfl (by decide) (by decide)]; exact r7
  · refine q_r8_ag (fun c hc => A c ?_ (by omega) (by omega)) r8
    unfold q_mc
    simp only [Bool.or_eq_true, Bool.and_eq_true, decide_eq_true_eq]
    omega
  · unfold q_r9; rw [A 100 rfl (by decide) (by decide), A 101 rfl (by decide) (by decide), A 103 rfl (by decide) (by decide), A 104 rfl (by decide) (by decide), A 105 rfl (by decide) (by decide), A 106 rfl (by decide) (by decide)]; exact r9
  · unfold q_r10; rw [A 105 rfl (by decide) (by decide), A 106 rfl (by decide) (by decide)]; exact r10
  · unfold q_r11; rw [A 101 rfl (by decide) (by decide), A 107 rfl (by decide) (by decide)]; exact r11
  · unfold q_r12; rw [A 32 rfl (by decide) (by decide), A 112 rfl (by decide) (by decide)]; exact r12
  · unfold q_r14; rw [A 33 rfl (by decide) (by decide), A 127 rfl (by decide) (by decide), h6]; exact r14
  · unfold q_r13; rw [A 36 rfl (by decide) (by decide), A 114 rfl (by decide) (by decide)]; exact h13
theorem t_add (d : Nat) (b : Bool) (m : q_M) {G : Nat} (hG : G < 80) (h1 : m 13 4 = nI G) (x1 x2 x3 x4 : Int32) (Q : Option Int32 → q_H → Prop) (hQ : Q none (q_hp b (q_up (q_up (q_up (q_up (q_up m 14 G x1) 15 G x2) 16 G x3) 17 G x4) 13 4 (nI (G + 1))))) : q_Wm d 31 [vr 13, vi x1, vi x2, vi x3, vi x4] (q_hp b m) Q := by
  unfold q_Wm
  repeat (refine q_wst rfl rfl rfl ?_)
  refine q_wwr G h1 hG rfl (q_at14 b) (by decide) ?_
  repeat (refine q_wst rfl rfl rfl ?_)
  refine q_wwr G h1 hG rfl (q_at15 b) (by decide) ?_
  repeat (refine q_wst rfl rfl rfl ?_)
  refine q_wwr G h1 hG rfl (q_at16 b) (by decide) ?_
  repeat (refine q_wst rfl rfl rfl ?_)
  refine q_wwr G h1 hG rfl (q_at17 b) (by decide) ?_
  repeat (refine q_wst rfl rfl rfl ?_)
  refine q_wrv rfl rfl rfl ?_
  show Q none (q_hp b (q_up (q_up (q_up (q_up (q_up m 14 G x1) 15 G x2) 16 G x3) 17 G x4) 13 4 (m 13 4 + 1)))
  rw [h1, nI_1]
  exact hQ
theorem ob_pass (a1 a2 : Int32) : q_Ob q_RR 80 147 [a1, a2] := by
  intro b m hR
  obtain ⟨P, w, hR0, h13⟩ := id hR
  have r1 := hR0.1
  obtain ⟨G, hG, g1, g2, g3⟩ := hR0.2.2.2.2.1
  unfold q_Wm
  repeat (refine q_wst rfl rfl rfl ?_)
  refine q_wcl rfl rfl rfl ?_
  refine t_isPiece _ b m a1 r1.1 r1.2.1 _ (fun p hp e => ?_) (fun hn => ?_)
  · subst e
    have hp30 : p < 30 := Nat.lt_of_lt_of_le hp r1.1
    obtain ⟨b1, b2, b3, b4, b5, b6, b7⟩ := hR0.2.2.2.2.2.2.2.1 p hp30
    repeat (refine q_wst rfl rfl rfl ?_)
    refine q_wcl rfl rfl rfl ?_
    refine t_isParty _ _ _ _ (fun d1 d2 => ?_) (fun d1 => ?_)
    · obtain ⟨pt, hpt, e⟩ := nI_of2 (M := 7) (n := 7) rfl (Int32.not_lt.mpr d1) d2
      have mod : ∀ (m1 : q_M) (Q : Option Int32 → q_H → Prop), m1 97 = m 97 → q_WP none 99 147 22 [some (vr 97), some (vi (nI p)), some (vi a2)] [] (q_hp b m1) Q → q_Wm 99 147 [vr 97, vi (nI p), vi a2] (q_hp b m1) Q := by
        intro m1 Q h97 K
        unfold q_Wm
        repeat (refine q_wst rfl rfl rfl ?_)
        refine q_wcl rfl rfl rfl ?_
        refine t_misPiece (P := P) _ b _ _ r1.1 (by rw [h97]; exact r1.2.2) _ (fun q hq e => ?_) (fun hn => absurd rfl (hn p hp))
        repeat (refine q_wst rfl rfl rfl ?_)
        refine q_wcl rfl rfl rfl ?_
        refine t_misParty _ _ _ _ (fun _ _ => ?_) (fun q => absurd ⟨d1, d2⟩ q)
        iterate 1 (refine q_wst rfl rfl rfl ?_)
        exact K
      repeat (refine q_wst rfl rfl rfl ?_)
      refine q_wpc p rfl hp30 rfl ?_
      repeat (refine q_wst rfl rfl rfl ?_)
      refine q_wcP p hp30 rfl rfl rfl rfl rfl ?_
      refine t_isA _ b m p hp30 _ _ (fun k1 => ?_) (fun k1 => ?_)
      · have k1 : m 100 p = 1 := by
          rw [b1] at k1
          rcases k1 with z | z | z
          · exact absurd z (by decide)
          · exact z
          · exact absurd z.1 (by decide)
        repeat (refine q_wst rfl rfl rfl ?_)
        refine q_wgi rfl (q_atP b p hp30) rfl rfl ?_
        repeat (refine q_wst rfl rfl rfl ?_)
        refine q_wif (fun s1 => ?_) (fun s1 => ?_)
        · have s1 : ¬ m (37 + 2 * p) 6 = 0 := s1
          rw [b6] at s1
          repeat (refine q_wst rfl rfl rfl ?_)
          refine q_cf 3 rfl (by decide) rfl rfl rfl ⟨_, rfl, b, _, rfl, ?_⟩
          refine mod _ _ rfl ?_
          repeat (refine q_wst rfl rfl rfl ?_)
          refine q_wrd p rfl hp30 rfl (q_at100 b) (by decide) ?_
          repeat (refine q_wst rfl rfl rfl ?_)
          refine q_wif (fun _ => ?_) (fun z => absurd k1 z)
          repeat (refine q_wst rfl rfl rfl ?_)
          refine q_wrd p rfl hp30 rfl (q_at105 b) (by decide) ?_
          repeat (refine q_wst rfl rfl rfl ?_)
          refine q_wif (fun _ => ?_) (fun z => absurd s1 z)
          repeat (refine q_wst rfl rfl rfl ?_)
          exact q_mf 3 rfl (by decide) rfl rfl rfl ⟨rfl, b, _, rfl, q_RR_fnd hR (q_same_rf _)⟩
        · have s1 : ¬ ¬ m (37 + 2 * p) 6 = 0 := s1
          rw [b6] at s1
          repeat (refine q_wst rfl rfl rfl ?_)
          refine q_wgi rfl (q_atP b p hp30) rfl rfl ?_
          repeat (refine q_wst rfl rfl rfl ?_)
          refine q_wif (fun t1 => ?_) (fun t1 => ?_)
          · have t1 : ¬ m (37 + 2 * p) 4 = a2 := t1
            rw [b4] at t1
            repeat (refine q_wst rfl rfl rfl ?_)
            refine q_wif (fun u1 => ?_) (fun u1 => ?_)
            · have u1 : m 13 4 < nI 80 := u1
              rw [g1] at u1
              have u1 : G < 80 := (nI_ltI (by omega) (by omega)).mp u1
              repeat (refine q_wst rfl rfl rfl ?_)
              refine q_wgi rfl (q_atP b p hp30) rfl rfl ?_
              repeat (refine q_wst rfl rfl rfl ?_)
              refine q_wcl rfl rfl rfl ?_
              refine t_add _ b m u1 g1 _ _ _ _ _ ?_
              repeat (refine q_wst rfl rfl rfl ?_)
              refine q_wpi rfl (q_atP b p hp30) rfl rfl ?_
              repeat (refine q_wst rfl rfl rfl ?_)
              have Cr0 : (q_up (q_up (q_up (q_up (q_up (q_up m 14 G (m 0 7)) 15 G (nI p)) 16 G (m (37 + 2 * p) 4)) 17 G a2) 13 4 (nI (G + 1))) (37 + 2 * p) 4 a2) 13 4 = nI (G + 1) := by rw [q_up_ne (by omega), q_up_eq, pk_us]
              refine q_wrt rfl rfl rfl ⟨nI (G + 1), congrArg some Cr0, b, _, rfl, ?_⟩
              clear Cr0
              show q_Wm 99 147 [vr 97, vi (nI p), vi a2] (q_hp b (q_up (q_up (q_up (q_up (q_up (q_up m 14 G (m 0 7)) 15 G (nI p)) 16 G (m (37 + 2 * p) 4)) 17 G a2) 13 4 (nI (G + 1))) (37 + 2 * p) 4 a2)) _
              have H : ∀ c, 97 ≤ c → (q_up (q_up (q_up (q_up (q_up (q_up m 14 G (m 0 7)) 15 G (nI p)) 16 G (m (37 + 2 * p) 4)) 17 G a2) 13 4 (nI (G + 1))) (37 + 2 * p) 4 a2) c = m c := fun c h2 => by rw [q_up_ne (by omega), q_up_ne (by omega), q_up_ne (by omega), q_up_ne (by omega), q_up_ne (by omega), q_up_ne (by omega)]
              have C13 : (q_up (q_up (q_up (q_up (q_up (q_up m 14 G (m 0 7)) 15 G (nI p)) 16 G (m (37 + 2 * p) 4)) 17 G a2) 13 4 (nI (G + 1))) (37 + 2 * p) 4 a2) 13 = upd (m 13) 4 (nI (G + 1)) := by rw [q_up_ne (by omega), q_up_eq, q_up_ne (by omega), q_up_ne (by omega), q_up_ne (by omega), q_up_ne (by omega)]
              have C14 : (q_up (q_up (q_up (q_up (q_up (q_up m 14 G (m 0 7)) 15 G (nI p)) 16 G (m (37 + 2 * p) 4)) 17 G a2) 13 4 (nI (G + 1))) (37 + 2 * p) 4 a2) 14 = upd (m 14) G (m 0 7) := by rw [q_up_ne (by omega), q_up_ne (by omega), q_up_ne (by omega), q_up_ne (by omega), q_up_ne (by omega), q_up_eq]
              have C15 : (q_up (q_up (q_up (q_up (q_up (q_up m 14 G (m 0 7)) 15 G (nI p)) 16 G (m (37 + 2 * p) 4)) 17 G a2) 13 4 (nI (G + 1))) (37 + 2 * p) 4 a2) 15 = upd (m 15) G (nI p) := by rw [q_up_ne (by omega), q_up_ne (by omega), q_up_ne (by omega), q_up_ne (by omega), q_up_eq, q_up_ne (by omega)]
              have C16 : (q_up (q_up (q_up (q_up (q_up (q_up m 14 G (m 0 7)) 15 G (nI p)) 16 G (m (37 + 2 * p) 4)) 17 G a2) 13 4 (nI (G + 1))) (37 + 2 * p) 4 a2) 16 = upd (m 16) G (m (37 + 2 * p) 4) := by rw [q_up_ne (by omega), q_up_ne (by omega), q_up_ne (by omega), q_up_eq, q_up_ne (by omega), q_up_ne (by omega)]
              have C17 : (q_up (q_up (q_up (q_up (q_up (q_up m 14 G (m 0 7)) 15 G (nI p)) 16 G (m (37 + 2 * p) 4)) 17 G a2) 13 4 (nI (G + 1))) (37 + 2 * p) 4 a2) 17 = upd (m 17) G a2 := by rw [q_up_ne (by omega), q_up_ne (by omega), q_up_eq, q_up_ne (by omega), q_up_ne (by omega), q_up_ne (by omega)]
              have Cp : (q_up (q_up (q_up (q_up (q_up (q_up m 14 G (m 0 7)) 15 G (nI p)) 16 G (m (37 + 2 * p) 4)) 17 G a2) 13 4 (nI (G + 1))) (37 + 2 * p) 4 a2) (37 + 2 * p) = upd (m (37 + 2 * p)) 4 a2 := by rw [q_up_eq, q_up_ne (by omega), q_up_ne (by omega), q_up_ne (by omega), q_up_ne (by omega), q_up_ne (by omega)]
              have Co : ∀ c, (c < 13 ∨ 17 < c) → c ≠ 37 + 2 * p → (q_up (q_up (q_up (q_up (q_up (q_up m 14 G (m 0 7)) 15 G (nI p)) 16 G (m (37 + 2 * p) 4)) 17 G a2) 13 4 (nI (G + 1))) (37 + 2 * p) 4 a2) c = m c := fun c h1 h2 => by rw [q_up_ne h2, q_up_ne (by omega), q_up_ne (by omega), q_up_ne (by omega), q_up_ne (by omega), q_up_ne (by omega)]
              have Cr : (q_up (q_up (q_up (q_up (q_up (q_up m 14 G (m 0 7)) 15 G (nI p)) 16 G (m (37 + 2 * p) 4)) 17 G a2) 13 4 (nI (G + 1))) (37 + 2 * p) 4 a2) 13 4 = nI (G + 1) := by rw [C13, pk_us]
              generalize q_up (q_up (q_up (q_up (q_up (q_up m 14 G (m 0 7)) 15 G (nI p)) 16 G (m (37 + 2 * p) 4)) 17 G a2) 13 4 (nI (G + 1))) (37 + 2 * p) 4 a2 = m1 at H C13 C14 C15 C16 C17 Cp Co Cr ⊢
              refine mod _ _ (H 97 (by decide)) ?_
              repeat (refine q_wst rfl rfl rfl ?_)
              refine q_wrd p rfl hp30 rfl (q_at100 b) (by decide) ?_
              repeat (refine q_wst rfl rfl rfl ?_)
              refine q_wif (fun _ => ?_) (fun z => absurd (by show m1 100 p = 1; rw [H 100 (by decide)]; exact k1) z)
              repeat (refine q_wst rfl rfl rfl ?_)
              refine q_wrd p rfl hp30 rfl (q_at105 b) (by decide) ?_
              repeat (refine q_wst rfl rfl rfl ?_)
              refine q_wif (fun z => absurd (fun z2 => z (by show m1 105 p = 0; rw [H 105 (by decide)]; exact z2)) s1) (fun _ => ?_)
              repeat (refine q_wst rfl rfl rfl ?_)
              refine q_wrd p rfl hp30 rfl (q_at103 b) (by decide) ?_
              repeat (refine q_wst rfl rfl rfl ?_)
              refine q_wif (fun _ => ?_) (fun z => absurd (fun z2 => t1 (by have z2 : m1 103 p = a2 := z2; rw [H 103 (by decide)] at z2; exact z2)) z)
              have e13 : m1 97 13 = nI G := by rw [H 97 (by decide)]; exact g2
              repeat (refine q_wst rfl rfl rfl ?_)
              refine q_wif (fun _ => ?_) (fun z => absurd (fun z2 => ?_) z)
              · repeat (refine q_wst rfl rfl rfl ?_)
                refine q_wwr G e13 u1 rfl (q_at108 b) (by decide) ?_
                repeat (refine q_wst rfl rfl rfl ?_)
                refine q_wwr G e13 u1 rfl (q_at109 b) (by decide) ?_
                repeat (refine q_wst rfl rfl rfl ?_)
                refine q_wrd p rfl hp30 rfl (q_at103 b) (by decide) ?_
                refine q_wwr G e13 u1 rfl (q_at110 b) (by decide) ?_
                repeat (refine q_wst rfl rfl rfl ?_)
                refine q_wwr G e13 u1 rfl (q_at111 b) (by decide) ?_
                repeat (refine q_wst rfl rfl rfl ?_)
                refine q_wwr p rfl hp30 rfl (q_at103 b) (by decide) ?_
                repeat (refine q_wst rfl rfl rfl ?_)
                refine q_wrt rfl rfl rfl ⟨?_, b, _, rfl, ?_⟩
                · show some (m1 97 13 + 1) = some (nI (G + 1))
                  rw [e13, nI_1]
                · show q_RR b (q_up (q_up (q_up (q_up (q_up (q_up m1 108 G (m1 97 0)) 109 G (nI p)) 110 G (m1 103 p)) 111 G a2) 103 p a2) 97 13 (m1 97 13 + 1))
                  obtain ⟨A1, A2⟩ := q_RR_p2 (j := 4) (v := a2) hR0 h13 hp (by decide) (fun z => by cases z) (fun _ => ⟨pt, hpt, e⟩) (fun z => by cases z) (fun z => by cases z)
                  obtain ⟨D, hD, d3, d4⟩ := hR0.2.2.1
                  have U : ∀ (f : Nat → Int32) (v : Int32) (i : Nat), upd f G v i = if i = G then v else f i := fun _ _ _ => rfl
                  refine q_RR_ps (G := G + 1) A1 A2 (by omega) (fun c h1 h2 h3 => ?_) (fun i h1 h2 => ?_) ?_ ?_ ?_ (fun i hi => ?_)
                  · have h97 : c ≠ 97 := fun z => by rw [z] at h1; cases h1
                    rw [q_up_ne h97]
                    by_cases e1 : c = 103
                    · subst e1
                      rw [q_up_eq, q_up_ne (by omega), q_up_ne (by omega), q_up_ne (by omega), q_up_ne (by omega), H 103 (by decide)]
                      show _ = q_up _ 103 p a2 103
                      rw [q_up_eq, q_up_ne (by omega)]
                    · rw [q_up_ne e1, q_up_ne (by omega), q_up_ne (by omega), q_up_ne (by omega), q_up_ne (by omega)]
                      show _ = q_up _ 103 p a2 c
                      rw [q_up_ne e1]
                      by_cases e2 : c = 37 + 2 * p
                      · rw [e2, Cp, q_up_eq]
                      · rw [q_up_ne e2, Co c h2 e2]
                  · rw [q_up_eq, pk_un h2, q_up_ne (by omega), q_up_ne (by omega), q_up_ne (by omega), q_up_ne (by omega), q_up_ne (by omega), H 97 (by decide), q_up_ne (by omega), q_up_ne (by omega)]
                  · rw [q_up_ne (by omega), q_up_ne (by omega), q_up_ne (by omega), q_up_ne (by omega), q_up_ne (by omega), q_up_ne (by omega), H 126 (by decide), q_up_ne (by omega), q_up_ne (by omega)]
                  · show m1 13 4 = _
                    exact Cr
                  · rw [q_up_eq, pk_us, e13, nI_1]
                  · show m1 14 i = upd (m1 108) G (m1 97 0) i ∧ m1 15 i = upd (m1 109) G (nI p) i ∧ m1 16 i = upd (m1 110) G (m1 103 p) i ∧ m1 17 i = upd (m1 111) G a2 i
                    rw [C14, C15, C16, C17, H 108 (by decide), H 109 (by decide), H 110 (by decide), H 111 (by decide), H 97 (by decide), H 103 (by decide), d3, d4, b4]
                    rw [U, U, U, U, U, U, U, U]
                    by_cases e1 : i = G
                    · rw [if_pos e1, if_pos e1, if_pos e1, if_pos e1, if_pos e1, if_pos e1, if_pos e1, if_pos e1]
                      exact ⟨rfl, rfl, rfl, rfl⟩
                    · rw [if_neg e1, if_neg e1, if_neg e1, if_neg e1, if_neg e1, if_neg e1, if_neg e1, if_neg e1]
                      exact g3 i (by omega)
              · have z2 : m1 97 13 = nI 80 := z2
                rw [e13] at z2
                exact absurd (q_nIle (by omega) (by omega) z2) (by omega)
            · have u1 : ¬ m 13 4 < nI 80 := u1
              rw [g1] at u1
              have u1 : G = 80 := by
                rcases Nat.lt_or_ge G 80 with z | z
                · exact absurd (nI_lt z (by omega)) u1
                · omega
              repeat (refine q_wst rfl rfl rfl ?_)
              refine q_cf 4 rfl (by decide) rfl rfl rfl ⟨_, rfl, b, _, rfl, ?_⟩
              refine mod _ _ rfl ?_
              repeat (refine q_wst rfl rfl rfl ?_)
              refine q_wrd p rfl hp30 rfl (q_at100 b) (by decide) ?_
              repeat (refine q_wst rfl rfl rfl ?_)
              refine q_wif (fun _ => ?_) (fun z => absurd k1 z)
              repeat (refine q_wst rfl rfl rfl ?_)
              refine q_wrd p rfl hp30 rfl (q_at105 b) (by decide) ?_
              repeat (refine q_wst rfl rfl rfl ?_)
              refine q_wif (fun z => absurd z s1) (fun _ => ?_)
              repeat (refine q_wst rfl rfl rfl ?_)
              refine q_wrd p rfl hp30 rfl (q_at103 b) (by decide) ?_
              repeat (refine q_wst rfl rfl rfl ?_)
              refine q_wif (fun _ => ?_) (fun z => absurd t1 z)
              repeat (refine q_wst rfl rfl rfl ?_)
              refine q_wif (fun z => absurd (by show m 97 13 = nI 80; rw [g2, u1]) z) (fun _ => ?_)
              repeat (refine q_wst rfl rfl rfl ?_)
              exact q_mf 4 rfl (by decide) rfl rfl rfl ⟨rfl, b, _, rfl, q_RR_fnd hR (q_same_rf _)⟩
          · have t1 : ¬ ¬ m (37 + 2 * p) 4 = a2 := t1
            rw [b4] at t1
            repeat (refine q_wst rfl rfl rfl ?_)
            refine q_cf 3 rfl (by decide) rfl rfl rfl ⟨_, rfl, b, _, rfl, ?_⟩
            refine mod _ _ rfl ?_
            repeat (refine q_wst rfl rfl rfl ?_)
            refine q_wrd p rfl hp30 rfl (q_at100 b) (by decide) ?_
            repeat (refine q_wst rfl rfl rfl ?_)
            refine q_wif (fun _ => ?_) (fun z => absurd k1 z)
            repeat (refine q_wst rfl rfl rfl ?_)
            refine q_wrd p rfl hp30 rfl (q_at105 b) (by decide) ?_
            repeat (refine q_wst rfl rfl rfl ?_)
            refine q_wif (fun z => absurd z s1) (fun _ => ?_)
            repeat (refine q_wst rfl rfl rfl ?_)
            refine q_wrd p rfl hp30 rfl (q_at103 b) (by decide) ?_
            repeat (refine q_wst rfl rfl rfl ?_)
            refine q_wif (fun z => absurd z t1) (fun _ => ?_)
            repeat (refine q_wst rfl rfl rfl ?_)
            exact q_mf 3 rfl (by decide) rfl rfl rfl ⟨rfl, b, _, rfl, q_RR_fnd hR (q_same_rf _)⟩
      · have k1 : ¬ m 100 p = 1 := fun z => k1 (by
          rw [b1]
          exact Or.inr (Or.inl z))
        repeat (refine q_wst rfl rfl rfl ?_)
        refine q_cf 5 rfl (by decide) rfl rfl rfl ⟨_, rfl, b, _, rfl, ?_⟩
        refine mod _ _ rfl ?_
        repeat (refine q_wst rfl rfl rfl ?_)
        refine q_wrd p rfl hp30 rfl (q_at100 b) (by decide) ?_
        repeat (refine q_wst rfl rfl rfl ?_)
        refine q_wif (fun z => absurd z k1) (fun _ => ?_)
        repeat (refine q_wst rfl rfl rfl ?_)
        exact q_mf 5 rfl (by decide) rfl rfl rfl ⟨rfl, b, _, rfl, q_RR_fnd hR (q_same_rf _)⟩
    · repeat (refine q_wst rfl rfl rfl ?_)
      refine q_cf 1 rfl (by decide) rfl rfl rfl ⟨_, rfl, b, _, rfl, ?_⟩
      unfold q_Wm
      repeat (refine q_wst rfl rfl rfl ?_)
      refine q_wcl rfl rfl rfl ?_
      refine t_misPiece (P := P) _ b _ _ r1.1 (by exact r1.2.2) _ (fun q hq e => ?_) (fun hn => absurd rfl (hn p hp))
      repeat (refine q_wst rfl rfl rfl ?_)
      refine q_wcl rfl rfl rfl ?_
      refine t_misParty _ _ _ _ (fun x y => absurd ⟨x, y⟩ d1) (fun _ => ?_)
      repeat (refine q_wst rfl rfl rfl ?_)
      exact q_mf 1 rfl (by decide) rfl rfl rfl ⟨rfl, b, _, rfl, q_RR_fnd hR (q_same_rf _)⟩
  · repeat (refine q_wst rfl rfl rfl ?_)
    refine q_cf 1 rfl (by decide) rfl rfl rfl ⟨_, rfl, b, _, rfl, ?_⟩
    unfold q_Wm
    repeat (refine q_wst rfl rfl rfl ?_)
    refine q_wcl rfl rfl rfl ?_
    refine t_misPiece (P := P) _ b _ _ r1.1 (by exact r1.2.2) _ (fun q hq e => absurd e (hn q hq)) (fun _ => ?_)
    repeat (refine q_wst rfl rfl rfl ?_)
    exact q_mf 1 rfl (by decide) rfl rfl rfl ⟨rfl, b, _, rfl, q_RR_fnd hR (q_same_rf _)⟩
