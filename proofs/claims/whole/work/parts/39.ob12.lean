/-! a copy of a piece; obligations: memo, split -/
theorem q_wac {X : q_X} {d k pc : Nat} {pl : q_L} {h : q_H} {Q : Option Int32 → q_H → Prop} {i b9 s t : Nat} {cc : Int32} (hc : q_cd k pc = some (.invokestatic i, 999, b9, cc)) (hs : h.1[s]? = some (.inr (.inl (0, 40)))) (ht : h.1[t]? = some (.inr (.inl (0, 40)))) (g : q_WP X d k (pc + 3) pl [] (h.1, q_cpy h.2 s 0 t 0 40) Q) : q_WP X d k pc pl [vi 40, vi 0, vr t, vi 0, vr s] h Q := by
  refine q_wst hc rfl ?_ g
  show q_acp pc pl [vi 40, vi 0, vr t, vi 0, vr s] h = _
  unfold q_acp
  try dsimp only
  rw [hs, ht]
  rfl
theorem t_copyProfile (d : Nat) (b : Bool) (m : q_M) (p P : Nat) (hp : p < 30) (hP : P < 30) (Q : Option Int32 → q_H → Prop) (hQ : Q none (q_hp b (q_cpy m (38 + 2 * p) 0 (38 + 2 * P) 0 40))) : q_Wm d 37 [vr (37 + 2 * P), vr (37 + 2 * p)] (q_hp b m) Q := by
  unfold q_Wm
  repeat (refine q_wst rfl rfl rfl ?_)
  refine q_wgr rfl (q_atP b p hp) rfl rfl ?_
  repeat (refine q_wst rfl rfl rfl ?_)
  refine q_wgr rfl (q_atP b P hP) rfl rfl ?_
  iterate 2 (refine q_wst rfl rfl rfl ?_)
  refine q_wac rfl (q_atD b p hp) (q_atD b P hP) ?_
  exact q_wrv rfl rfl rfl hQ
def q_aC (m m' : q_M) (P p : Nat) (kd pt : Int32) : Prop := (∀ c, c ≠ 0 → c ≠ 37 + 2 * P → c ≠ 38 + 2 * P → m' c = m c) ∧ m' 0 = upd (m 0) 1 (nI (P + 1)) ∧ m' (37 + 2 * P) = upd (upd (upd (upd (upd (m (37 + 2 * P)) 1 kd) 2 (m (37 + 2 * p) 2)) 3 pt) 4 pt) 5 (m (37 + 2 * p) 5) ∧ ∀ i, i < 40 → m' (38 + 2 * P) i = m (38 + 2 * p) i
def q_cO (m m' : q_M) (P p : Nat) (kd pt : Int32) : Prop := (∀ c, c ≠ 97 → (c < 100 ∨ 107 < c) → m' c = m c) ∧ m' 97 = upd (m 97) 4 (nI (P + 1)) ∧ m' 100 = upd (m 100) P kd ∧ m' 101 = upd (m 101) P (m 101 p) ∧ m' 102 = upd (m 102) P pt ∧ m' 103 = upd (m 103) P pt ∧ m' 104 = upd (m 104) P (m 104 p) ∧ m' 105 = upd (m 105) P 0 ∧ (∀ g, m 101 p = nI g → g ≤ 99 → m' 107 = upd (m 107) g 1) ∧ (∀ i, i < 40 → m' 106 (40 * P + i) = m 106 (40 * p + i)) ∧ ∀ q i, q < 30 → q ≠ P → i < 40 → m' 106 (40 * q + i) = m 106 (40 * q + i)
theorem t_addCopy (d : Nat) (b : Bool) (m : q_M) {P p : Nat} (hP : P < 30) (hp : p < P) (h1 : m 0 1 = nI P) (kd pt : Int32) (Q : Option Int32 → q_H → Prop) (hQ : ∀ m', q_aC m m' P p kd pt → Q (some (nI P)) (q_hp b m')) : q_Wm (d + 2) 62 [vr 0, vi kd, vr (37 + 2 * p), vi pt] (q_hp b m) Q := by
  have hp30 : p < 30 := by omega
  unfold q_Wm
  repeat (refine q_wst rfl rfl rfl ?_)
  refine q_wgi rfl (q_atP b p hp30) rfl rfl ?_
  repeat (refine q_wst rfl rfl rfl ?_)
  refine q_wgi rfl (q_atP b p hp30) rfl rfl ?_
  repeat (refine q_wst rfl rfl rfl ?_)
  refine q_wcl rfl rfl rfl ?_
  refine t_addPiece _ b m hP h1 _ _ _ _ _ ?_
  repeat (refine q_wst rfl rfl rfl ?_)
  refine q_wpc P rfl hP rfl ?_
  repeat (refine q_wst rfl rfl rfl ?_)
  refine q_wcP P hP rfl rfl rfl rfl rfl ?_
  refine t_copyProfile _ b _ p P hp30 hP _ ?_
  repeat (refine q_wst rfl rfl rfl ?_)
  refine q_wrt rfl rfl rfl (hQ _ ⟨fun c c0 c1 c2 => ?_, ?_, ?_, fun i hi => ?_⟩)
  · funext j
    unfold q_cpy
    rw [if_neg c2, q_up_ne c0, q_bg_ne c1]
  · funext j
    unfold q_cpy
    rw [if_neg (by omega), q_up_eq, q_bg_ne (by omega)]
  · funext j
    unfold q_cpy
    rw [if_neg (by omega), q_up_ne (by omega), q_bg_eq]
  · unfold q_cpy
    rw [if_pos rfl, if_pos (by omega), q_up_ne (by omega), q_bg_ne (by omega)]
    congr 1
    omega
theorem t_copyOf (d : Nat) (b : Bool) (m0 : q_M) {P p gr : Nat} (hP : P < 30) (hp : p < P) (h1 : m0 97 4 = nI P) (hg : m0 101 p = nI gr) (hg9 : gr ≤ 99) (kd pt : Int32) (Q : Option Int32 → q_H → Prop) (hQ : ∀ m', q_cO m0 m' P p kd pt → Q (some (nI P)) (q_hp b m')) : q_Wm (d + 1) 125 [vr 97, vi (nI p), vi kd, vi pt] (q_hp b m0) Q := by
  have hp30 : p < 30 := by omega
  have loop : ∀ (r i : Nat) (y : Int32) (m : q_M), i + r = 40 → y = nI i → (∀ c, c ≠ 106 → m c = q_np m0 P gr kd pt (m0 104 p) c) → (∀ j, j < i → m 106 (40 * P + j) = m0 106 (40 * p + j)) → (∀ q j, q < 30 → q ≠ P → j < 40 → m 106 (40 * q + j) = m0 106 (40 * q + j)) → q_WP none (d + 1) 125 23 [some (vr 97), some (vi (nI p)), some (vi kd), some (vi pt), some (vi (nI P)), some (vi y)] [] (q_hp b m) Q := by
    intro r
    induction r with
    | zero =>
      intro i y m hi hy hm hd ho
      subst hy
      have hi : i = 40 := by omega
      subst hi
      repeat (refine q_wst rfl rfl rfl ?_)
      refine q_wrt rfl rfl rfl (hQ _ ⟨fun c c1 c2 => ?_, ?_, ?_, ?_, ?_, ?_, ?_, ?_, fun g e hg9 => ?_, hd, ho⟩)
      · rw [hm c (by omega), q_np_ne c1 c2]
      · rw [hm 97 (by decide), q_np_97]
      · rw [hm 100 (by decide), q_np_100]
      · rw [hm 101 (by decide), q_np_101, hg]
      · rw [hm 102 (by decide), q_np_102]
      · rw [hm 103 (by decide), q_np_103]
      · rw [hm 104 (by decide), q_np_104]
      · rw [hm 105 (by decide), q_np_105]
      · rw [hm 107 (by decide), q_np_107, q_nIle (by omega) (by omega) (hg.symm.trans e)]
    | succ r ih =>
      intro i y m hi hy hm hd ho
      subst hy
      have hi40 : i < 40 := by omega
      iterate 3 (refine q_wst rfl rfl rfl ?_)
      refine q_wif (fun c => absurd c (nI_ge (b := 40) hi40 (by omega))) (fun _ => ?_)
      iterate 14 (refine q_wst rfl rfl rfl ?_)
      refine q_wrd (40 * p + i) (by show nI 40 * nI p + nI i = _; rw [pk_mul, nI_add]) (by omega) rfl (q_at106 b) (by decide) ?_
      refine q_wwr (40 * P + i) (by show nI 40 * nI P + nI i = _; rw [pk_mul, nI_add]) (by omega) rfl (q_at106 b) (by decide) ?_
      iterate 2 (refine q_wst rfl rfl rfl ?_)
      refine ih (i + 1) _ _ (by omega) (nI_1 i) (fun c hc => ?_) (fun j hj => ?_) (fun q j h1 h2 h3 => ?_)
      · show q_up m 106 _ _ c = _
        rw [q_up_ne hc]
        exact hm c hc
      · show q_up m 106 (40 * P + i) (m 106 (40 * p + i)) 106 (40 * P + j) = _
        rw [q_up_eq]
        unfold upd
        by_cases e : j = i
        · rw [if_pos (by omega), e]
          exact ho p i hp30 (by omega) hi40
        · rw [if_neg (by omega)]
          exact hd j (by omega)
      · show q_up m 106 (40 * P + i) (m 106 (40 * p + i)) 106 (40 * q + j) = _
        rw [q_up_eq]
        unfold upd
        rw [if_neg (by omega)]
        exact ho q j h1 h2 h3
  unfold q_Wm
  repeat (refine q_wst rfl rfl rfl ?_)
  refine q_wrd p rfl hp30 rfl (q_at101 b) (by decide) ?_
  repeat (refine q_wst rfl rfl rfl ?_)
  refine q_wrd p rfl hp30 rfl (q_at104 b) (by decide) ?_
  show q_WP none (d + 1) 125 15 [some (vr 97), some (vi (nI p)), some (vi kd), some (vi pt), none, none] [vi (m0 104 p), vi pt, vi (m0 101 p), vi kd, vr 97] (q_hp b m0) Q
  rw [hg]
  refine q_wcl rfl rfl rfl ?_
  refine t_newPiece _ b m0 hP h1 (by omega) _ _ _ _ ?_
  iterate 3 (refine q_wst rfl rfl rfl ?_)
  exact loop 40 0 _ _ rfl rfl (fun _ _ => rfl) (fun j hj => absurd hj (by omega)) (fun q j _ _ _ => by rw [q_np_106])
theorem q_same_cg {a c : q_M} {r j : Nat} {v : Int32} (h : q_same a c) : q_same (q_up a r j v) (q_up c r j v) := by
  obtain ⟨h1, h2, h3⟩ := h
  refine ⟨fun k hk => ?_, fun i hi => ?_, ?_⟩
  · funext x
    unfold q_up
    rw [h1 k hk]
  · unfold q_up
    rw [h2 i hi]
  · unfold q_up
    rw [h3]
theorem q_RR_p2 {P : Nat} {w : Nat → Nat} {b : Bool} {m : q_M} {p j : Nat} {v : Int32} (hR : q_R0 P w b m) (h13 : q_r13 m) (hp : p < P) (hj : j = 1 ∨ j = 4 ∨ j = 5 ∨ j = 6) (v1 : j = 1 → ∃ a, a ≤ 3 ∧ v = nI a) (v4 : j = 4 → ∃ a, a ≤ 7 ∧ v = nI a) (v5 : j = 5 → -1 ≤ v.toInt ∧ v.toInt ≤ 9999) (v6 : j = 6 → ∃ a, a ≤ 2 ∧ v = nI a) : q_R0 P w b (q_up (q_up m (37 + 2 * p) j v) (99 + j) p v) ∧ q_r13 (q_up (q_up m (37 + 2 * p) j v) (99 + j) p v) := by
  have hP := hR.1.1
  have hj' : j ≤ 6 ∧ 1 ≤ j := by clear v1 v4 v5 v6; omega
  refine q_RR_pf (m := m) hR h13 hp hj (fun c h1 h2 h3 => ?_) (fun i hi => ?_) ?_ ?_ ?_ v1 v4 v5 v6
  · rw [q_up_ne h3, q_up_ne h2]
  · rw [q_up_ne (by clear v1 v4 v5 v6; omega), q_up_ne (by clear v1 v4 v5 v6; omega)]
  · rw [q_up_ne (by clear v1 v4 v5 v6; omega), q_up_ne (by clear v1 v4 v5 v6; omega)]
  · rw [q_up_ne (by clear v1 v4 v5 v6; omega), q_up_eq]
  · rw [q_up_eq, q_up_ne (by clear v1 v4 v5 v6; omega)]
theorem q_RR_cp {P p kd pt : Nat} {w : Nat → Nat} {b : Bool} {m m1 m2 m3 : q_M} (hR : q_R0 P w b m) (h13 : q_r13 m) (hp : p < P) (hP : P < 30) (hk : kd ≤ 3) (ht : pt ≤ 7) (X : q_aC m m1 P p (nI kd) (nI pt)) (hs : q_same m1 m2) (Y : q_cO m2 m3 P p (nI kd) (nI pt)) : q_R0 (P + 1) w b m3 ∧ q_r13 m3 := by
  obtain ⟨x1, x2, x3, x4⟩ := X
  obtain ⟨y1, y2, y3, y4, y5, y6, y7, y8, y9, y10, y11⟩ := Y
  have r9 := hR.2.2.2.2.2.2.2.2.1 p hp
  have r8 := hR.2.2.2.2.2.2.2.1 p (by omega)
  obtain ⟨gr, hgr, eg⟩ := r9.2.1
  have H : ∀ c, q_mc c = true → 97 ≤ c → m2 c = m c := fun c h1 h2 => by rw [hs.1 c h1, x1 c (by omega) (by omega) (by omega)]
  have C : ∀ c, q_mc c = true → c < 97 → m3 c = m1 c := fun c h1 h2 => by rw [y1 c (by omega) (by omega), hs.1 c h1]
  have c37 : m3 (37 + 2 * P) = m1 (37 + 2 * P) := C _ (q_mcP hP).1 (by omega)
  refine q_RR_add (m := m) (kd := kd) (gr := gr) (pt := pt) (du := m 104 p) (dep := fun i => m 106 (40 * p + i)) hR h13 hP hk hgr ht r9.2.2.2.2.1 r9.2.2.2.2.2 (fun c h1 h2 h3 h4 h5 => ?_) (fun i hi => ?_) ?_ (fun i hi hi4 => ?_) ?_ ?_ ?_ ?_ ?_ ?_ ?_ ?_ (fun i hi => ?_) ?_ ?_ ?_ ?_ ?_ ?_ (fun i hi => ?_) (fun q i h1 h2 h3 => ?_) ?_
  · have : c ≠ 97 := fun z => by rw [z] at h1; cases h1
    rw [y1 c this h5, hs.1 c h1, x1 c h2 h3 h4]
  · rw [C 0 rfl (by decide), x2, pk_un hi]
  · rw [C 0 rfl (by decide), x2, pk_us]
  · rw [y2, pk_un hi4, hs.2.1 i hi, x1 97 (by omega) (by omega) (by omega)]
  · rw [y2, pk_us]
  · rw [y1 126 (by omega) (by omega), hs.2.2, x1 126 (by omega) (by omega) (by omega)]
  · rw [c37, x3]; rfl
  · rw [c37, x3]; exact r8.2.1.trans eg
  · rw [c37, x3]; rfl
  · rw [c37, x3]; rfl
  · rw [c37, x3]; exact r8.2.2.2.2.1 hp
  · rw [c37, x3]; rfl
  · rw [C _ (q_mcP hP).2 (by omega), x4 i hi]
    exact r8.2.2.2.2.2.2 i hi
  · rw [y3, H 100 rfl (by decide)]
  · rw [y4, H 101 rfl (by decide), eg]
  · rw [y5, H 102 rfl (by decide)]
  · rw [y6, H 103 rfl (by decide)]
  · rw [y7, H 104 rfl (by decide)]
  · rw [y8, H 105 rfl (by decide)]
  · rw [y10 i hi, H 106 rfl (by decide)]
  · rw [y11 q i h1 h2 h3, H 106 rfl (by decide)]
  · rw [y9 gr (by rw [H 101 rfl (by decide)]; exact eg) hgr, H 107 rfl (by decide)]
theorem t_isFoil (d : Nat) (b : Bool) (m : q_M) (p : Nat) (hp : p < 30) (Q : Option Int32 → q_H → Prop) (ht : (m 100 p = 2 ∨ m 100 p = 3) → Q (some 1) (q_hp b m)) (hf : ¬ (m 100 p = 2 ∨ m 100 p = 3) → Q (some 0) (q_hp b m)) : q_Wm d 127 [vr 97, vi (nI p)] (q_hp b m) Q := by
  unfold q_Wm
  repeat (refine q_wst rfl rfl rfl ?_)
  refine q_wrd p rfl hp rfl (q_at100 b) (by decide) ?_
  repeat (refine q_wst rfl rfl rfl ?_)
  refine q_wif (fun c1 => ?_) (fun c1 => ?_)
  · repeat (refine q_wst rfl rfl rfl ?_)
    exact q_wrt rfl rfl rfl (ht (Or.inl c1))
  · repeat (refine q_wst rfl rfl rfl ?_)
    refine q_wrd p rfl hp rfl (q_at100 b) (by decide) ?_
    repeat (refine q_wst rfl rfl rfl ?_)
    refine q_wif (fun c2 => ?_) (fun c2 => ?_)
    · repeat (refine q_wst rfl rfl rfl ?_)
      exact q_wrt rfl rfl rfl (hf (fun z => z.elim c1 c2))
    · repeat (refine q_wst rfl rfl rfl ?_)
      exact q_wrt rfl rfl rfl (ht (Or.inr (Decidable.not_not.mp c2)))
theorem ob_memo (a1 a2 : Int32) : q_Ob q_RR 63 126 [a1, a2] := by
  intro b m hR
  obtain ⟨P, w, hR0, h13⟩ := id hR
  have r1 := hR0.1
  unfold q_Wm
  repeat (refine q_wst rfl rfl rfl ?_)
  refine q_wcl rfl rfl rfl ?_
  refine t_isPiece _ b m a1 r1.1 r1.2.1 _ (fun p hp e => ?_) (fun hn => ?_)
  · subst e
    have hp30 : p < 30 := Nat.lt_of_lt_of_le hp r1.1
    obtain ⟨b1, b2, b3, b4, b5, b6, b7⟩ := hR0.2.2.2.2.2.2.2.1 p hp30
    repeat (refine q_wst rfl rfl rfl ?_)
    refine q_wcl rfl rfl rfl ?_
    refine t_isParty _ _ _ _ (fun d1 d2 => ?_) (fun d1 => ?_)
    · obtain ⟨pt, hpt, e⟩ := nI_of2 (M := 7) (n := 7) rfl (Int32.not_lt.mpr d1) d2
      subst e
      repeat (refine q_wst rfl rfl rfl ?_)
      refine q_wpc p rfl hp30 rfl ?_
      repeat (refine q_wst rfl rfl rfl ?_)
      refine q_wcP p hp30 rfl rfl rfl rfl rfl ?_
      refine t_isA _ b m p hp30 _ _ (fun k1 => ?_) (fun k1 => ?_)
      · have k1 : m 100 p = 2 ∨ m 100 p = 3 := by
          rw [b1] at k1
          rcases k1 with z | z | z
          · exact absurd z (by decide)
          · exact Or.inl z
          · exact Or.inr z.2
        repeat (refine q_wst rfl rfl rfl ?_)
        refine q_wgi rfl (q_atP b p hp30) rfl rfl ?_
        repeat (refine q_wst rfl rfl rfl ?_)
        refine q_wif (fun s1 => ?_) (fun s1 => ?_)
        · repeat (refine q_wst rfl rfl rfl ?_)
          refine q_wcl rfl rfl rfl ?_
          refine t_hasRoom (P := P) (n := 1) _ b m r1.1 (by decide) r1.2.1 _ (fun hr => ?_) (fun hr => ?_)
          · have hP : P < 30 := by omega
            repeat (refine q_wst rfl rfl rfl ?_)
            refine q_wcl rfl rfl rfl ?_
            refine t_addCopy _ b m hP hp r1.2.1 _ _ _ (fun m1 X => ?_)
            have H : ∀ c, 97 ≤ c → m1 c = m c := fun c h2 => X.1 c (by omega) (by omega) (by omega)
            obtain ⟨gr, hgr, eg⟩ := (hR0.2.2.2.2.2.2.2.2.1 p hp).2.1
            refine q_wrt rfl rfl rfl ⟨_, rfl, b, _, rfl, ?_⟩
            unfold q_Wm
            repeat (refine q_wst rfl rfl rfl ?_)
            refine q_wcl rfl rfl rfl ?_
            refine t_misPiece (P := P) _ b _ _ r1.1 (by rw [H 97 (by decide)]; exact r1.2.2) _ (fun q hq e => ?_) (fun hn => absurd rfl (hn p hp))
            repeat (refine q_wst rfl rfl rfl ?_)
            refine q_wcl rfl rfl rfl ?_
            refine t_misParty _ _ _ _ (fun _ _ => ?_) (fun q => absurd ⟨d1, d2⟩ q)
            repeat (refine q_wst rfl rfl rfl ?_)
            refine q_wcl rfl rfl rfl ?_
            refine t_isFoil _ b _ p hp30 _ (fun _ => ?_) (fun z => absurd k1 (by rw [H 100 (by decide)] at z; exact z))
            repeat (refine q_wst rfl rfl rfl ?_)
            refine q_wrd p rfl hp30 rfl (q_at105 b) (by decide) ?_
            repeat (refine q_wst rfl rfl rfl ?_)
            refine q_wif (fun _ => ?_) (fun z => absurd (by show m1 105 p = 0; rw [H 105 (by decide), ← b6]; exact s1) z)
            repeat (refine q_wst rfl rfl rfl ?_)
            refine q_wif (fun _ => ?_) (fun z => absurd (fun z2 => ?_) z)
            · repeat (refine q_wst rfl rfl rfl ?_)
              refine q_wcl rfl rfl rfl ?_
              refine t_copyOf _ b _ hP hp (by rw [H 97 (by decide)]; exact r1.2.2) (by rw [H 101 (by decide)]; exact eg) hgr _ _ _ (fun m2 Y => ?_)
              exact q_wrt rfl rfl rfl ⟨rfl, b, _, rfl, P + 1, w, q_RR_cp (kd := 3) hR0 h13 hp hP (by decide) hpt X (q_same_rf _) Y⟩
            · have z2 : m1 97 4 = 30 := z2
              rw [H 97 (by decide), r1.2.2] at z2
              exact absurd (q_nIle (a := P) (b := 30) (by omega) (by omega) z2) (by omega)
          · repeat (refine q_wst rfl rfl rfl ?_)
            refine q_cf 4 rfl (by decide) rfl rfl rfl ⟨_, rfl, b, _, rfl, ?_⟩
            unfold q_Wm
            repeat (refine q_wst rfl rfl rfl ?_)
            refine q_wcl rfl rfl rfl ?_
            refine t_misPiece (P := P) _ b _ _ r1.1 (by exact r1.2.2) _ (fun q hq e => ?_) (fun hn => absurd rfl (hn p hp))
            repeat (refine q_wst rfl rfl rfl ?_)
            refine q_wcl rfl rfl rfl ?_
            refine t_misParty _ _ _ _ (fun _ _ => ?_) (fun q => absurd ⟨d1, d2⟩ q)
            repeat (refine q_wst rfl rfl rfl ?_)
            refine q_wcl rfl rfl rfl ?_
            refine t_isFoil _ b _ p hp30 _ (fun _ => ?_) (fun z => absurd k1 z)
            repeat (refine q_wst rfl rfl rfl ?_)
            refine q_wrd p rfl hp30 rfl (q_at105 b) (by decide) ?_
            repeat (refine q_wst rfl rfl rfl ?_)
            refine q_wif (fun _ => ?_) (fun z => absurd (by exact b6.symm.trans s1) z)
            repeat (refine q_wst rfl rfl rfl ?_)
            refine q_wif (fun q => absurd (by show m 97 4 = 30; rw [r1.2.2, show P = 30 by have := r1.1; omega]; rfl) q) (fun _ => ?_)
            repeat (refine q_wst rfl rfl rfl ?_)
            refine q_wcl rfl rfl rfl ?_
            refine t_mfinding _ b _ 4 _ (by decide) (by rfl) _ ?_
            repeat (refine q_wst rfl rfl rfl ?_)
            exact q_wrt rfl rfl rfl ⟨rfl, b, _, rfl, q_RR_fnd hR (q_same_rf _)⟩
        · repeat (refine q_wst rfl rfl rfl ?_)
          refine q_cf 3 rfl (by decide) rfl rfl rfl ⟨_, rfl, b, _, rfl, ?_⟩
          unfold q_Wm
          repeat (refine q_wst rfl rfl rfl ?_)
          refine q_wcl rfl rfl rfl ?_
          refine t_misPiece (P := P) _ b _ _ r1.1 (by exact r1.2.2) _ (fun q hq e => ?_) (fun hn => absurd rfl (hn p hp))
          repeat (refine q_wst rfl rfl rfl ?_)
          refine q_wcl rfl rfl rfl ?_
          refine t_misParty _ _ _ _ (fun _ _ => ?_) (fun q => absurd ⟨d1, d2⟩ q)
          repeat (refine q_wst rfl rfl rfl ?_)
          refine q_wcl rfl rfl rfl ?_
          refine t_isFoil _ b _ p hp30 _ (fun _ => ?_) (fun z => absurd k1 z)
          repeat (refine q_wst rfl rfl rfl ?_)
          refine q_wrd p rfl hp30 rfl (q_at105 b) (by decide) ?_
          repeat (refine q_wst rfl rfl rfl ?_)
          refine q_wif (fun z => absurd (by exact b6.trans z) s1) (fun _ => ?_)
          repeat (refine q_wst rfl rfl rfl ?_)
          exact q_mf 3 rfl (by decide) rfl rfl rfl ⟨rfl, b, _, rfl, q_RR_fnd hR (q_same_rf _)⟩
      · have k1 : ¬ (m 100 p = 2 ∨ m 100 p = 3) := fun z => k1 (by
          rw [b1]
          rcases z with z | z
          · exact Or.inr (Or.inl z)
          · exact Or.inr (Or.inr ⟨rfl, z⟩))
        repeat (refine q_wst rfl rfl rfl ?_)
        refine q_cf 5 rfl (by decide) rfl rfl rfl ⟨_, rfl, b, _, rfl, ?_⟩
        unfold q_Wm
        repeat (refine q_wst rfl rfl rfl ?_)
        refine q_wcl rfl rfl rfl ?_
        refine t_misPiece (P := P) _ b _ _ r1.1 (by exact r1.2.2) _ (fun q hq e => ?_) (fun hn => absurd rfl (hn p hp))
        repeat (refine q_wst rfl rfl rfl ?_)
        refine q_wcl rfl rfl rfl ?_
        refine t_misParty _ _ _ _ (fun _ _ => ?_) (fun q => absurd ⟨d1, d2⟩ q)
        repeat (refine q_wst rfl rfl rfl ?_)
        refine q_wcl rfl rfl rfl ?_
        refine t_isFoil _ b _ p hp30 _ (fun z => absurd z k1) (fun _ => ?_)
        repeat (refine q_wst rfl rfl rfl ?_)
        exact q_mf 5 rfl (by decide) rfl rfl rfl ⟨rfl, b, _, rfl, q_RR_fnd hR (q_same_rf _)⟩
    · repeat (refine q_wst rfl rfl rfl ?_)
      refine q_cf 1 rfl (by decide) rfl rfl rfl ⟨_, rfl, b, _, rfl, ?_⟩
      unfold q_Wm
      repeat (refine q_wst rfl rfl rfl ?_)
      refine q_wcl rfl rfl rfl ?_
      refine t_misPiece (P := P) _ b _ _ r1.1 (by exact r1.2.2) _ (fun q hq e => ?_) (fun hn => absurd rfl (hn p hp))
      repeat (refine q_wst rfl rfl rfl ?_)
      refine q_wcl rfl rfl rfl ?_
      refine t_misParty _ _ _ _ (fun x y => absurd ⟨x, y⟩ d1) (fun _ => ?_)
      repeat (refine q_wst rfl rfl rfl ?_)
      exact q_mf 1 rfl (by decide) rfl rfl rfl ⟨rfl, b, _, rfl, q_RR_fnd hR (q_same_rf _)⟩
  · repeat (refine q_wst rfl rfl rfl ?_)
    refine q_cf 1 rfl (by decide) rfl rfl rfl ⟨_, rfl, b, _, rfl, ?_⟩
    unfold q_Wm
    repeat (refine q_wst rfl rfl rfl ?_)
    refine q_wcl rfl rfl rfl ?_
    refine t_misPiece (P := P) _ b _ _ r1.1 (by exact r1.2.2) _ (fun q hq e => absurd e (hn q hq)) (fun _ => ?_)
    repeat (refine q_wst rfl rfl rfl ?_)
    exact q_mf 1 rfl (by decide) rfl rfl rfl ⟨rfl, b, _, rfl, q_RR_fnd hR (q_same_rf _)⟩
theorem ob_split (a1 a2 a3 : Int32) : q_Ob q_RR 60 123 [a1, a2, a3] := by
  intro b m hR
  obtain ⟨P, w, hR0, h13⟩ := id hR
  have r1 := hR0.1
  unfold q_Wm
  repeat (refine q_wst rfl rfl rfl ?_)
  refine q_wcl rfl rfl rfl ?_
  refine t_isPiece _ b m a1 r1.1 r1.2.1 _ (fun p hp e => ?_) (fun hn => ?_)
  · subst e
    have hp30 : p < 30 := Nat.lt_of_lt_of_le hp r1.1
    obtain ⟨b1, b2, b3, b4, b5, b6, b7⟩ := hR0.2.2.2.2.2.2.2.1 p hp30
    repeat (refine q_wst rfl rfl rfl ?_)
    refine q_wcl rfl rfl rfl ?_
    refine t_isParty _ _ _ _ (fun d1 d2 => ?_) (fun d1 => ?_)
    · obtain ⟨pt, hpt, e⟩ := nI_of2 (M := 7) (n := 7) rfl (Int32.not_lt.mpr d1) d2
      subst e
      repeat (refine q_wst rfl rfl rfl ?_)
      refine q_wcl rfl rfl rfl ?_
      refine t_isDay _ _ _ _ (fun f1 f2 => ?_) (fun f1 => ?_)
      · have hday : -1 ≤ a3.toInt ∧ a3.toInt ≤ 9999 := by
          rw [Int32.le_iff_toInt_le] at f1 f2
          have e0 : (0 : Int32).toInt = 0 := rfl
          have e9 : (9999 : Int32).toInt = 9999 := rfl
          omega
        -- the reference up to its kinds
        have mod : ∀ (m1 : q_M) (Q : Option Int32 → q_H → Prop), m1 97 = m 97 → q_WP none 99 123 29 [some (vr 97), some (vi (nI p)), some (vi (nI pt)), some (vi a3)] [] (q_hp b m1) Q → q_Wm 99 123 [vr 97, vi (nI p), vi (nI pt), vi a3] (q_hp b m1) Q := by
          intro m1 Q h97 K
          unfold q_Wm
          repeat (refine q_wst rfl rfl rfl ?_)
          refine q_wcl rfl rfl rfl ?_
          refine t_misPiece (P := P) _ b _ _ r1.1 (by rw [h97]; exact r1.2.2) _ (fun q hq e => ?_) (fun hn => absurd rfl (hn p hp))
          repeat (refine q_wst rfl rfl rfl ?_)
          refine q_wcl rfl rfl rfl ?_
          refine t_misParty _ _ _ _ (fun _ _ => ?_) (fun q => absurd ⟨d1, d2⟩ q)
          repeat (refine q_wst rfl rfl rfl ?_)
          refine q_wcl rfl rfl rfl ?_
          refine t_misDay _ _ _ _ (fun _ _ => ?_) (fun q => absurd ⟨f1, f2⟩ q)
          iterate 1 (refine q_wst rfl rfl rfl ?_)
          exact K
        repeat (refine q_wst rfl rfl rfl ?_)
        refine q_wpc p rfl hp30 rfl ?_
        repeat (refine q_wst rfl rfl rfl ?_)
        refine q_wgi rfl (q_atP b p hp30) rfl rfl ?_
        repeat (refine q_wst rfl rfl rfl ?_)
        refine q_wif (fun k1 => ?_) (fun k1 => ?_)
        · have k1 : m (37 + 2 * p) 1 = 0 := k1
          rw [b1] at k1
          repeat (refine q_wst rfl rfl rfl ?_)
          refine q_wgi rfl (q_atP b p hp30) rfl rfl ?_
          repeat (refine q_wst rfl rfl rfl ?_)
          refine q_wif (fun s1 => ?_) (fun s1 => ?_)
          · have s1 : ¬ m (37 + 2 * p) 6 = 0 := s1
            rw [b6] at s1
            repeat (refine q_wst rfl rfl rfl ?_)
            refine q_cf 3 rfl (by decide) rfl rfl rfl ⟨_, rfl, b, _, rfl, ?_⟩
            refine mod _ _ rfl ?_
            repeat (refine q_wst rfl rfl rfl ?_)
            refine q_wrd p rfl hp30 rfl (q_at100 b) (by decide) ?_
            repeat (refine q_wst rfl rfl rfl ?_)
            refine q_wif (fun _ => ?_) (fun z => absurd k1 z)
            repeat (refine q_wst rfl rfl rfl ?_)
            refine q_wrd p rfl hp30 rfl (q_at105 b) (by decide) ?_
            repeat (refine q_wst rfl rfl rfl ?_)
            refine q_wif (fun _ => ?_) (fun z => absurd s1 z)
            repeat (refine q_wst rfl rfl rfl ?_)
            exact q_mf 3 rfl (by decide) rfl rfl rfl ⟨rfl, b, _, rfl, q_RR_fnd hR (q_same_rf _)⟩
          · have s1 : ¬ ¬ m (37 + 2 * p) 6 = 0 := s1
            rw [b6] at s1
            repeat (refine q_wst rfl rfl rfl ?_)
            refine q_wcl rfl rfl rfl ?_
            refine t_valueOf _ b m p hp30 _ (fun m1 hs ho hc => ?_)
            have hR1 := q_RR_same hs hR
            have R1 := q_R0_same hs hR0
            have h131 := q_r13_same hs h13
            have hv := q_R_vl hR0 hp30
            repeat (refine q_wst rfl rfl rfl ?_)
            refine q_wif (fun v1 => ?_) (fun v1 => ?_)
            · have v1 : 0 < q_vl (m 3) (m (38 + 2 * p)) := v1
              rw [hv] at v1
              repeat (refine q_wst rfl rfl rfl ?_)
              refine q_wcl rfl rfl rfl ?_
              refine t_hasRoom (P := P) (n := 1) _ b m1 r1.1 (by decide) R1.1.2.1 _ (fun hr => ?_) (fun hr => ?_)
              · have hP : P < 30 := by omega
                repeat (refine q_wst rfl rfl rfl ?_)
                refine q_wpi rfl (q_atP b p hp30) rfl rfl ?_
                repeat (refine q_wst rfl rfl rfl ?_)
                refine q_wpi rfl (q_atP b p hp30) rfl rfl ?_
                repeat (refine q_wst rfl rfl rfl ?_)
                refine q_wcl rfl rfl rfl ?_
                refine t_addCopy _ b _ hP hp (by show q_up (q_up m1 (37 + 2 * p) 1 1) (37 + 2 * p) 5 a3 0 1 = _; rw [q_up_ne (by omega), q_up_ne (by omega)]; exact R1.1.2.1) _ _ _ (fun m2 X => ?_)
                have X : q_aC (q_up (q_up m1 (37 + 2 * p) 1 1) (37 + 2 * p) 5 a3) m2 P p (nI 2) (nI pt) := X
                have H : ∀ c, 97 ≤ c → m2 c = m c := fun c h2 => by rw [X.1 c (by omega) (by omega) (by omega), q_up_ne (by omega), q_up_ne (by omega), ho c h2]
                obtain ⟨gr, hgr, eg⟩ := (hR0.2.2.2.2.2.2.2.2.1 p hp).2.1
                refine q_wrt rfl rfl rfl ⟨_, rfl, b, _, rfl, ?_⟩
                refine mod _ _ (H 97 (by decide)) ?_
                repeat (refine q_wst rfl rfl rfl ?_)
                refine q_wrd p rfl hp30 rfl (q_at100 b) (by decide) ?_
                repeat (refine q_wst rfl rfl rfl ?_)
                refine q_wif (fun _ => ?_) (fun z => absurd (by show m2 100 p = 0; rw [H 100 (by decide)]; exact k1) z)
                repeat (refine q_wst rfl rfl rfl ?_)
                refine q_wrd p rfl hp30 rfl (q_at105 b) (by decide) ?_
                repeat (refine q_wst rfl rfl rfl ?_)
                refine q_wif (fun z => absurd (fun z2 => z (by show m2 105 p = 0; rw [H 105 (by decide)]; exact z2)) s1) (fun _ => ?_)
                repeat (refine q_wst rfl rfl rfl ?_)
                refine q_wcl rfl rfl rfl ?_
                refine t_mvalue _ b m2 p hp30 _ (fun m3 hs3 ho3 hc3 => ?_)
                repeat (refine q_wst rfl rfl rfl ?_)
                refine q_wif (fun _ => ?_) (fun z => absurd (by show 0 < q_vl (m2 98) (fun i => m2 106 (40 * p + i)); rw [H 98 (by decide), H 106 (by decide)]; exact v1) z)
                have e974 : m3 97 4 = nI P := by rw [hs3.2.1 4 rfl, H 97 (by decide)]; exact r1.2.2
                repeat (refine q_wst rfl rfl rfl ?_)
                refine q_wif (fun _ => ?_) (fun z => absurd (fun z2 => ?_) z)
                · repeat (refine q_wst rfl rfl rfl ?_)
                  refine q_wwr p rfl hp30 rfl (q_at100 b) (by decide) ?_
                  repeat (refine q_wst rfl rfl rfl ?_)
                  refine q_wwr p rfl hp30 rfl (q_at104 b) (by decide) ?_
                  repeat (refine q_wst rfl rfl rfl ?_)
                  refine q_wcl rfl rfl rfl ?_
                  refine t_copyOf (P := P) (p := p) (gr := gr) _ b _ hP hp (by exact e974) (by show m3 101 p = _; rw [hs3.1 101 rfl, H 101 (by decide)]; exact eg) hgr _ _ _ (fun m4 Y => ?_)
                  have Y : q_cO (q_up (q_up m3 100 p 1) 104 p a3) m4 P p (nI 2) (nI pt) := Y
                  obtain ⟨A1, A2⟩ := q_RR_p2 (j := 1) (v := 1) R1 h131 hp (by decide) (fun _ => ⟨1, by decide, rfl⟩) (fun z => by cases z) (fun z => by cases z) (fun z => by cases z)
                  obtain ⟨B1, B2⟩ := q_RR_p2 (j := 5) (v := a3) A1 A2 hp (by decide) (fun z => by cases z) (fun z => by cases z) (fun _ => hday) (fun z => by cases z)
                  refine q_wrt rfl rfl rfl ⟨rfl, b, _, rfl, P + 1, w, q_RR_cp (kd := 2) (m1 := q_up (q_up m2 100 p 1) 104 p a3) B1 B2 hp hP (by decide) hpt ?_ (q_same_cg (q_same_cg hs3)) Y⟩
                  obtain ⟨x1, x2, x3, x4⟩ := X
                  have n1 : 37 + 2 * p ≠ 37 + 2 * P := by omega
                  refine ⟨fun c c0 c1 c2 => ?_, ?_, ?_, fun i hi => ?_⟩
                  · show q_up (q_up m2 100 p 1) 104 p a3 c = q_up (q_up (q_up (q_up m1 (37 + 2 * p) 1 1) 100 p 1) (37 + 2 * p) 5 a3) 104 p a3 c
                    have e := x1 c c0 c1 c2
                    funext j
                    have e := congrFun e j
                    unfold q_up at e ⊢
                    by_cases g1 : c = 104
                    · rw [if_pos g1, if_pos g1]
                      by_cases g2 : j = p
                      · rw [if_pos g2, if_pos g2]
                      · rw [if_neg g2, if_neg g2, if_neg (by omega), if_neg (by omega), if_neg (by omega), e, if_neg (by omega), if_neg (by omega), if_neg (by omega)]
                    · rw [if_neg g1, if_neg g1]
                      by_cases g3 : c = 100
                      · rw [if_pos g3, if_neg (show ¬ c = 37 + 2 * p by omega), if_pos g3]
                        by_cases g2 : j = p
                        · rw [if_pos g2, if_pos g2]
                        · rw [if_neg g2, if_neg g2, e, if_neg (show ¬ c = 37 + 2 * p by omega), if_neg (show ¬ c = 37 + 2 * p by omega)]
                      · rw [if_neg g3, e, if_neg g3]
                  · show m2 0 = _
                    rw [x2]
                    rfl
                  · rw [q_up_ne (by omega), q_up_ne (by omega), x3]
                    have eP : q_up (q_up (q_up (q_up m1 (37 + 2 * p) 1 1) (99 + 1) p 1) (37 + 2 * p) 5 a3) (99 + 5) p a3 (37 + 2 * P) = m1 (37 + 2 * P) := by rw [q_up_ne (by omega), q_up_ne (by omega), q_up_ne (by omega), q_up_ne (by omega)]
                    have ep : q_up (q_up (q_up (q_up m1 (37 + 2 * p) 1 1) (99 + 1) p 1) (37 + 2 * p) 5 a3) (99 + 5) p a3 (37 + 2 * p) = upd (upd (m1 (37 + 2 * p)) 1 1) 5 a3 := by rw [q_up_ne (by omega), q_up_eq, q_up_ne (by omega), q_up_eq]
                    rw [eP, ep, q_up_eq, q_up_eq, q_up_ne n1.symm, q_up_ne n1.symm]
                  · rw [q_up_ne (by omega), q_up_ne (by omega), x4 i hi, q_up_ne (by omega), q_up_ne (by omega), q_up_ne (by omega), q_up_ne (by omega), q_up_ne (by omega), q_up_ne (by omega)]
                · have z2 : m3 97 4 = 30 := z2
                  rw [e974] at z2
                  exact absurd (q_nIle (a := P) (b := 30) (by omega) (by omega) z2) (by omega)
              · repeat (refine q_wst rfl rfl rfl ?_)
                refine q_cf 4 rfl (by decide) rfl rfl rfl ⟨_, rfl, b, _, rfl, ?_⟩
                refine mod _ _ (ho 97 (by decide)) ?_
                have H : ∀ c, 97 ≤ c → c ≠ 114 → m1 c = m c := fun c h _ => ho c h
                repeat (refine q_wst rfl rfl rfl ?_)
                refine q_wrd p rfl hp30 rfl (q_at100 b) (by decide) ?_
                repeat (refine q_wst rfl rfl rfl ?_)
                refine q_wif (fun _ => ?_) (fun z => absurd (by show m1 100 p = 0; rw [ho 100 (by decide)]; exact k1) z)
                repeat (refine q_wst rfl rfl rfl ?_)
                refine q_wrd p rfl hp30 rfl (q_at105 b) (by decide) ?_
                repeat (refine q_wst rfl rfl rfl ?_)
                refine q_wif (fun z => absurd (fun z2 => z (by show m1 105 p = 0; rw [ho 105 (by decide)]; exact z2)) s1) (fun _ => ?_)
                repeat (refine q_wst rfl rfl rfl ?_)
                refine q_wcl rfl rfl rfl ?_
                refine t_mvalue _ b _ p hp30 _ (fun m3 hs3 ho3 hc3 => ?_)
                repeat (refine q_wst rfl rfl rfl ?_)
                refine q_wif (fun _ => ?_) (fun z => absurd (by show 0 < q_vl (m1 98) (fun i => m1 106 (40 * p + i)); rw [ho 98 (by decide), ho 106 (by decide)]; exact v1) z)
                repeat (refine q_wst rfl rfl rfl ?_)
                refine q_wif (fun q => absurd (by show m3 97 4 = 30; rw [hs3.2.1 4 rfl]; show m1 97 4 = 30; rw [R1.1.2.2, show P = 30 by have := r1.1; omega]; rfl) q) (fun _ => ?_)
                repeat (refine q_wst rfl rfl rfl ?_)
                exact q_mf 4 rfl (by decide) rfl rfl rfl ⟨rfl, b, _, rfl, q_RR_fnd hR1 hs3⟩
            · have v1 : ¬ 0 < q_vl (m 3) (m (38 + 2 * p)) := v1
              rw [hv] at v1
              repeat (refine q_wst rfl rfl rfl ?_)
              refine q_cf 3 rfl (by decide) rfl rfl rfl ⟨_, rfl, b, _, rfl, ?_⟩
              refine mod _ _ (ho 97 (by decide)) ?_
              repeat (refine q_wst rfl rfl rfl ?_)
              refine q_wrd p rfl hp30 rfl (q_at100 b) (by decide) ?_
              repeat (refine q_wst rfl rfl rfl ?_)
              refine q_wif (fun _ => ?_) (fun z => absurd (by show m1 100 p = 0; rw [ho 100 (by decide)]; exact k1) z)
              repeat (refine q_wst rfl rfl rfl ?_)
              refine q_wrd p rfl hp30 rfl (q_at105 b) (by decide) ?_
              repeat (refine q_wst rfl rfl rfl ?_)
              refine q_wif (fun z => absurd (fun z2 => z (by show m1 105 p = 0; rw [ho 105 (by decide)]; exact z2)) s1) (fun _ => ?_)
              repeat (refine q_wst rfl rfl rfl ?_)
              refine q_wcl rfl rfl rfl ?_
              refine t_mvalue _ b _ p hp30 _ (fun m3 hs3 ho3 hc3 => ?_)
              repeat (refine q_wst rfl rfl rfl ?_)
              refine q_wif (fun z => absurd (by have z : 0 < q_vl (m1 98) (fun i => m1 106 (40 * p + i)) := z; rw [ho 98 (by decide), ho 106 (by decide)] at z; exact z) v1) (fun _ => ?_)
              repeat (refine q_wst rfl rfl rfl ?_)
              exact q_mf 3 rfl (by decide) rfl rfl rfl ⟨rfl, b, _, rfl, q_RR_fnd hR1 hs3⟩
        · have k1 : ¬ m (37 + 2 * p) 1 = 0 := k1
          rw [b1] at k1
          repeat (refine q_wst rfl rfl rfl ?_)
          refine q_cf 5 rfl (by decide) rfl rfl rfl ⟨_, rfl, b, _, rfl, ?_⟩
          refine mod _ _ rfl ?_
          repeat (refine q_wst rfl rfl rfl ?_)
          refine q_wrd p rfl hp30 rfl (q_at100 b) (by decide) ?_
          repeat (refine q_wst rfl rfl rfl ?_)
          refine q_wif (fun z => absurd z k1) (fun _ => ?_)
          repeat (refine q_wst rfl rfl rfl ?_)
          exact q_mf 5 rfl (by decide) rfl rfl rfl ⟨rfl, b, _, rfl, q_RR_fnd hR (q_same_rf _)⟩
      · repeat (refine q_wst rfl rfl rfl ?_)
        refine q_cf 1 rfl (by decide) rfl rfl rfl ⟨_, rfl, b, _, rfl, ?_⟩
        unfold q_Wm
        repeat (refine q_wst rfl rfl rfl ?_)
        refine q_wcl rfl rfl rfl ?_
        refine t_misPiece (P := P) _ b _ _ r1.1 (by exact r1.2.2) _ (fun q hq e => ?_) (fun hn => absurd rfl (hn p hp))
        repeat (refine q_wst rfl rfl rfl ?_)
        refine q_wcl rfl rfl rfl ?_
        refine t_misParty _ _ _ _ (fun _ _ => ?_) (fun q => absurd ⟨d1, d2⟩ q)
        repeat (refine q_wst rfl rfl rfl ?_)
        refine q_wcl rfl rfl rfl ?_
        refine t_misDay _ _ _ _ (fun x y => absurd ⟨x, y⟩ f1) (fun _ => ?_)
        repeat (refine q_wst rfl rfl rfl ?_)
        exact q_mf 1 rfl (by decide) rfl rfl rfl ⟨rfl, b, _, rfl, q_RR_fnd hR (q_same_rf _)⟩
    · repeat (refine q_wst rfl rfl rfl ?_)
      refine q_cf 1 rfl (by decide) rfl rfl rfl ⟨_, rfl, b, _, rfl, ?_⟩
      unfold q_Wm
      repeat (refine q_wst rfl rfl rfl ?_)
      refine q_wcl rfl rfl rfl ?_
      refine t_misPiece (P := P) _ b _ _ r1.1 (by exact r1.2.2) _ (fun q hq e => ?_) (fun hn => absurd rfl (hn p hp))
      repeat (refine q_wst rfl rfl rfl ?_)
      refine q_wcl rfl rfl rfl ?_
      refine t_misParty _ _ _ _ (fun x y => absurd ⟨x, y⟩ d1) (fun _ => ?_)
      repeat (refine q_wst rfl rfl rfl ?_)
      exact q_mf 1 rfl (by decide) rfl rfl rfl ⟨rfl, b, _, rfl, q_RR_fnd hR (q_same_rf _)⟩
  · repeat (refine q_wst rfl rfl rfl ?_)
    refine q_cf 1 rfl (by decide) rfl rfl rfl ⟨_, rfl, b, _, rfl, ?_⟩
    unfold q_Wm
    repeat (refine q_wst rfl rfl rfl ?_)
    refine q_wcl rfl rfl rfl ?_
    refine t_misPiece (P := P) _ b _ _ r1.1 (by exact r1.2.2) _ (fun q hq e => absurd e (hn q hq)) (fun _ => ?_)
    repeat (refine q_wst rfl rfl rfl ?_)
    exact q_mf 1 rfl (by decide) rfl rfl rfl ⟨rfl, b, _, rfl, q_RR_fnd hR (q_same_rf _)⟩
