/-! a piece's profile changes on both sides; obligation: notch -/
theorem q_RR_dp {P : Nat} {w : Nat → Nat} {b : Bool} {m m' : q_M} {p : Nat} {dep : Nat → Int32} (hR : q_R0 P w b m) (h13 : q_r13 m) (hp : p < P) (hA : ∀ c, q_mc c = true → c ≠ 38 + 2 * p → c ≠ 106 → m' c = m c) (h7 : ∀ i, q_ms i = true → m' 97 i = m 97 i) (h6 : m' 126 0 = m 126 0) (xd : ∀ i, i < 40 → m' (38 + 2 * p) i = dep i) (yd : ∀ i, i < 40 → m' 106 (40 * p + i) = dep i) (yo : ∀ q i, q < 30 → q ≠ p → i < 40 → m' 106 (40 * q + i) = m 106 (40 * q + i)) (hd : ∀ i, i < 40 → ∃ a, a ≤ 9 ∧ dep i = nI a) : q_RR b m' := by
  obtain ⟨r1, r2, r3, r4, r5, r6, r7, r8, r9, r10, r11, r12, r14⟩ := hR
  have hP := r1.1
  have B : ∀ c, q_mc c = true → (c < 37 ∨ 96 < c) → c ≠ 106 → m' c = m c := fun c h1 h2 h3 => hA c h1 (by omega) h3
  refine ⟨P, w, ⟨?_, ?_, ?_, ?_, ?_, ?_, ?_, ?_, ?_, ?_, ?_, ?_, ?_⟩, ?_⟩
  · unfold q_r1; rw [B 0 rfl (by decide) (by decide), h7 4 rfl]; exact r1
  · unfold q_r2; rw [B 0 rfl (by decide) (by decide), h7 3 rfl]; exact r2
  · unfold q_r3; rw [B 0 rfl (by decide) (by decide), h7 0 rfl]; exact r3
  · unfold q_r4; rw [B 0 rfl (by decide) (by decide), B 35 rfl (by decide) (by decide), B 113 rfl (by decide) (by decide), h7 19 rfl]; exact r4
  · unfold q_r5; rw [B 13 rfl (by decide) (by decide), B 14 rfl (by decide) (by decide), B 15 rfl (by decide) (by decide), B 16 rfl (by decide) (by decide), B 17 rfl (by decide) (by decide), B 108 rfl (by decide) (by decide), B 109 rfl (by decide) (by decide), B 110 rfl (by decide) (by decide), B 111 rfl (by decide) (by decide), h7 13 rfl]; exact r5
  · unfold q_r6; rw [B 3 rfl (by decide) (by decide), B 98 rfl (by decide) (by decide)]; exact r6
  · unfold q_r7; rw [B 34 rfl (by decide) (by decide), B 99 rfl (by decide) (by decide)]; exact r7
  · intro q hq30
    obtain ⟨b1, b2, b3, b4, b5, b6, b7⟩ := r8 q hq30
    rw [hA (37 + 2 * q) (q_mcP hq30).1 (by omega) (by omega), B 100 rfl (by decide) (by decide), B 101 rfl (by decide) (by decide), B 102 rfl (by decide) (by decide), B 103 rfl (by decide) (by decide), B 104 rfl (by decide) (by decide), B 105 rfl (by decide) (by decide)]
    refine ⟨b1, b2, b3, b4, b5, b6, fun i hi => ?_⟩
    by_cases e : q = p
    · subst e
      rw [xd i hi, yd i hi]
    · rw [hA (38 + 2 * q) (q_mcP hq30).2 (by omega) (by omega), yo q i hq30 e hi]
      exact b7 i hi
  · intro q hqP
    obtain ⟨b1, b2, b3, b4, b5, b6⟩ := r9 q hqP
    rw [B 100 rfl (by decide) (by decide), B 101 rfl (by decide) (by decide), B 103 rfl (by decide) (by decide), B 104 rfl (by decide) (by decide), B 105 rfl (by decide) (by decide)]
    refine ⟨b1, b2, b3, b4, b5, fun i hi => ?_⟩
    by_cases e : q = p
    · subst e
      rw [yd i hi]
      exact hd i hi
    · rw [yo q i (by omega) e hi]
      exact b6 i hi
  · intro q h1 h2
    rw [B 105 rfl (by decide) (by decide)]
    refine ⟨(r10 q h1 h2).1, fun i hi => ?_⟩
    rw [yo q i h2 (by omega) hi]
    exact (r10 q h1 h2).2 i hi
  · unfold q_r11; rw [B 101 rfl (by decide) (by decide), B 107 rfl (by decide) (by decide)]; exact r11
  · unfold q_r12; rw [B 32 rfl (by decide) (by decide), B 112 rfl (by decide) (by decide)]; exact r12
  · unfold q_r14; rw [B 33 rfl (by decide) (by decide), B 127 rfl (by decide) (by decide), h6]; exact r14
  · unfold q_r13; rw [B 36 rfl (by decide) (by decide), B 114 rfl (by decide) (by decide)]; exact h13
/-- a stretch of a row gets one value -/
def q_fl (f : Nat → Int32) (s n : Nat) (v : Int32) : Nat → Int32 := fun j => if s ≤ j ∧ j < s + n then v else f j
theorem t_carve (d : Nat) (b : Bool) (m0 : q_M) (p s n : Nat) (hp : p < 30) (hn : s + n ≤ 40) (v : Int32) (Q : Option Int32 → q_H → Prop) (hQ : ∀ m, (∀ c, c ≠ 38 + 2 * p → m c = m0 c) → m (38 + 2 * p) = q_fl (m0 (38 + 2 * p)) s n v → Q none (q_hp b m)) : q_Wm d 35 [vr (37 + 2 * p), vi (nI s), vi (nI n), vi v] (q_hp b m0) Q := by
  have loop : ∀ (r i : Nat) (y : Int32) (m : q_M), i + r = n → y = nI (s + i) → (∀ c, c ≠ 38 + 2 * p → m c = m0 c) → m (38 + 2 * p) = q_fl (m0 (38 + 2 * p)) s i v → q_WP none d 35 3 [some (vr (37 + 2 * p)), some (vi (nI s)), some (vi (nI n)), some (vi v), some (vi y)] [] (q_hp b m) Q := by
    intro r
    induction r with
    | zero =>
      intro i y m hi hy hm hd
      subst hy
      have hi : i = n := by omega
      subst hi
      iterate 5 (refine q_wst rfl rfl rfl ?_)
      refine q_wif (fun _ => ?_) (fun c => absurd (by show nI s + nI i ≤ nI (s + i); rw [nI_add]; exact nI_le (Nat.le_refl _) (by omega)) c)
      exact q_wrv rfl rfl rfl (hQ m hm hd)
    | succ r ih =>
      intro i y m hi hy hm hd
      subst hy
      iterate 5 (refine q_wst rfl rfl rfl ?_)
      refine q_wif (fun c => absurd c (by show ¬ nI s + nI n ≤ nI (s + i); rw [nI_add]; exact nI_ge (by omega) (by omega))) (fun _ => ?_)
      iterate 1 (refine q_wst rfl rfl rfl ?_)
      refine q_wgr rfl (q_atP b p hp) rfl rfl ?_
      iterate 2 (refine q_wst rfl rfl rfl ?_)
      refine q_wwr (s + i) rfl (by omega) rfl (q_atD b p hp) (by decide) ?_
      iterate 2 (refine q_wst rfl rfl rfl ?_)
      refine ih (i + 1) _ _ (by omega) (nI_1 (s + i)) (fun c hc => ?_) ?_
      · show q_up m (38 + 2 * p) (s + i) v c = m0 c
        rw [q_up_ne hc]
        exact hm c hc
      · show q_up m (38 + 2 * p) (s + i) v (38 + 2 * p) = _
        rw [q_up_eq, hd]
        funext j
        unfold upd q_fl
        by_cases e : j = s + i
        · rw [if_pos e, if_pos (by omega)]
        · rw [if_neg e]
          by_cases e2 : s ≤ j ∧ j < s + i
          · rw [if_pos e2, if_pos (by omega)]
          · rw [if_neg e2, if_neg (by omega)]
  unfold q_Wm
  iterate 2 (refine q_wst rfl rfl rfl ?_)
  refine loop n 0 _ m0 (by omega) rfl (fun _ _ => rfl) ?_
  funext j
  unfold q_fl
  rw [if_neg (by omega)]
theorem t_mcarve (d : Nat) (b : Bool) (m0 : q_M) (p s n : Nat) (hp : p < 30) (hn : s + n ≤ 40) (v : Int32) (Q : Option Int32 → q_H → Prop) (K : ∀ m y, (∀ c, c ≠ 106 → m c = m0 c) → m 106 = q_fl (m0 106) (40 * p + s) n v → q_WP none d 117 102 [some (vr 97), some (vi (nI p)), some (vi (nI s)), some (vi (nI n)), some (vi v), some (vi y)] [] (q_hp b m) Q) : ∀ (r i : Nat) (y : Int32) (m : q_M), i + r = n → y = nI (s + i) → (∀ c, c ≠ 106 → m c = m0 c) → m 106 = q_fl (m0 106) (40 * p + s) i v → q_WP none d 117 74 [some (vr 97), some (vi (nI p)), some (vi (nI s)), some (vi (nI n)), some (vi v), some (vi y)] [] (q_hp b m) Q := by
  intro r
  induction r with
  | zero =>
    intro i y m hi hy hm hd
    subst hy
    have hi : i = n := by omega
    subst hi
    iterate 5 (refine q_wst rfl rfl rfl ?_)
    refine q_wif (fun _ => ?_) (fun c => absurd (by show nI s + nI i ≤ nI (s + i); rw [nI_add]; exact nI_le (Nat.le_refl _) (by omega)) c)
    exact K m _ hm hd
  | succ r ih =>
    intro i y m hi hy hm hd
    subst hy
    iterate 5 (refine q_wst rfl rfl rfl ?_)
    refine q_wif (fun c => absurd c (by show ¬ nI s + nI n ≤ nI (s + i); rw [nI_add]; exact nI_ge (by omega) (by omega))) (fun _ => ?_)
    iterate 8 (refine q_wst rfl rfl rfl ?_)
    refine q_wwr (40 * p + (s + i)) (by show nI 40 * nI p + nI (s + i) = _; rw [pk_mul, nI_add]) (by omega) rfl (q_at106 b) (by decide) ?_
    iterate 2 (refine q_wst rfl rfl rfl ?_)
    refine ih (i + 1) _ _ (by omega) (nI_1 (s + i)) (fun c hc => ?_) ?_
    · show q_up m 106 _ v c = m0 c
      rw [q_up_ne hc]
      exact hm c hc
    · show q_up m 106 (40 * p + (s + i)) v 106 = _
      rw [q_up_eq, hd]
      funext j
      unfold upd q_fl
      by_cases e : j = 40 * p + (s + i)
      · rw [if_pos e, if_pos (by omega)]
      · rw [if_neg e]
        by_cases e2 : 40 * p + s ≤ j ∧ j < 40 * p + s + i
        · rw [if_pos e2, if_pos (by omega)]
        · rw [if_neg e2, if_neg (by omega)]
def q_nc (P : Nat) (a1 a2 a3 a4 : Int32) (p s n v : Nat) : Prop := p < P ∧ a1 = nI p ∧ s ≤ 39 ∧ a2 = nI s ∧ 1 ≤ n ∧ n ≤ 40 ∧ a3 = nI n ∧ s + n ≤ 40 ∧ v ≤ 9 ∧ a4 = nI v
theorem t_notch (b : Bool) (m : q_M) {P : Nat} (hP : P ≤ 30) (h1 : m 0 1 = nI P) (a1 a2 a3 a4 : Int32) (Q : Option Int32 → q_H → Prop) (hb : (∀ p s n v, ¬ q_nc P a1 a2 a3 a4 p s n v) → Q (some (-1000000000 - nI 1)) (q_hp b (q_up m 36 1 (m 36 1 + 1)))) (hs : ∀ p s n v, q_nc P a1 a2 a3 a4 p s n v → m (37 + 2 * p) 6 = 2 → Q (some (-1000000000 - nI 3)) (q_hp b (q_up m 36 3 (m 36 3 + 1)))) (hok : ∀ p s n v, q_nc P a1 a2 a3 a4 p s n v → ¬ m (37 + 2 * p) 6 = 2 → ∀ m1 m2, (∀ c, c ≠ 38 + 2 * p → m1 c = m c) → m1 (38 + 2 * p) = q_fl (m (38 + 2 * p)) s n (nI v) → q_same m1 m2 → (∀ c, 97 ≤ c → m2 c = m1 c) → Q (some (q_vl (m1 3) (m1 (38 + 2 * p)))) (q_hp b m2)) : q_Wm 99 55 [vr 0, vi a1, vi a2, vi a3, vi a4] (q_hp b m) Q := by
  have lim : ∀ (x : Int32) (j : Nat), x = nI j → j < 2 ^ 31 → ∀ i, i < 2 ^ 31 → x = nI i → i = j := fun x j e hj i hi e2 => q_nIle hi hj (e2.symm.trans e)
  unfold q_Wm
  repeat (refine q_wst rfl rfl rfl ?_)
  refine q_wcl rfl rfl rfl ?_
  refine t_isPiece _ b m a1 hP h1 _ (fun p hp e => ?_) (fun hn => ?_)
  · repeat (refine q_wst rfl rfl rfl ?_)
    refine q_wcl rfl rfl rfl ?_
    refine t_isPlace _ _ _ _ (fun c1 c2 => ?_) (fun c1 => ?_)
    · obtain ⟨s, hs39, es⟩ := nI_of2 (M := 39) (n := 39) rfl (Int32.not_lt.mpr c1) c2
      repeat (refine q_wst rfl rfl rfl ?_)
      refine q_wcl rfl rfl rfl ?_
      refine t_within _ _ _ _ _ _ (fun c3 c4 => ?_) (fun c3 => ?_)
      · have c3 : (1 : Int32) ≤ a3 := c3
        obtain ⟨n, hn40, en⟩ := nI_of2 (M := 40) (n := 40) rfl (Int32.not_lt.mpr (Int32.le_trans (by decide) c3)) c4
        have hn1 : 1 ≤ n := by rw [en] at c3; exact (nI_leI (a := 1) (b := n) (by omega) (by omega)).mp c3
        repeat (refine q_wst rfl rfl rfl ?_)
        refine q_wif (fun c5 => ?_) (fun c5 => ?_)
        · have c5 : (40 : Int32) < a2 + a3 := c5
          rw [es, en, nI_add] at c5
          have c5 := (nI_ltI (a := 40) (by omega) (by omega)).mp c5
          repeat (refine q_wst rfl rfl rfl ?_)
          refine q_cf 1 rfl (by decide) rfl rfl rfl (hb (fun p' s' n' v' z => ?_))
          obtain ⟨_, _, z3, z4, z5, z6, z7, z8, _, _⟩ := z
          have := lim _ _ es (by omega) s' (by omega) z4
          have := lim _ _ en (by omega) n' (by omega) z7
          omega
        · have c5 : ¬ (40 : Int32) < a2 + a3 := c5
          rw [es, en, nI_add] at c5
          have hsn : s + n ≤ 40 := by
            rcases Nat.lt_or_ge 40 (s + n) with z | z
            · exact absurd (nI_lt z (by omega)) c5
            · exact z
          repeat (refine q_wst rfl rfl rfl ?_)
          refine q_wcl rfl rfl rfl ?_
          refine t_within _ _ _ _ _ _ (fun c6 c7 => ?_) (fun c6 => ?_)
          · obtain ⟨v, hv, ev⟩ := nI_of2 (M := 9) (n := 9) rfl (Int32.not_lt.mpr c6) c7
            have hp30 : p < 30 := by omega
            have hnc : q_nc P a1 a2 a3 a4 p s n v := ⟨hp, e, hs39, es, hn1, hn40, en, hsn, hv, ev⟩
            repeat (refine q_wst rfl rfl rfl ?_)
            refine q_wpc p e hp30 rfl ?_
            refine q_wgi rfl (q_atP b p hp30) rfl rfl ?_
            repeat (refine q_wst rfl rfl rfl ?_)
            refine q_wif (fun c8 => ?_) (fun c8 => ?_)
            · subst es en ev
              repeat (refine q_wst rfl rfl rfl ?_)
              refine q_wpc p e hp30 rfl ?_
              repeat (refine q_wst rfl rfl rfl ?_)
              refine q_wcP p hp30 rfl rfl rfl rfl rfl ?_
              refine t_carve _ b m p s n hp30 hsn _ _ (fun m1 hm1 hd1 => ?_)
              repeat (refine q_wst rfl rfl rfl ?_)
              subst e
              refine q_wcl rfl rfl rfl ?_
              refine t_valueOf _ b m1 p hp30 _ (fun m2 hs2 ho2 hc2 => ?_)
              exact q_wrt rfl rfl rfl (hok p s n v hnc c8 m1 m2 hm1 hd1 hs2 ho2)
            · repeat (refine q_wst rfl rfl rfl ?_)
              exact q_cf 3 rfl (by decide) rfl rfl rfl (hs p s n v hnc (Decidable.not_not.mp c8))
          · repeat (refine q_wst rfl rfl rfl ?_)
            refine q_cf 1 rfl (by decide) rfl rfl rfl (hb (fun p' s' n' v' z => c6 ?_))
            obtain ⟨_, _, _, _, _, _, _, _, z9, z10⟩ := z
            rw [z10]
            exact ⟨nI_pos' (by omega), nI_le (b := 9) z9 (by omega)⟩
      · repeat (refine q_wst rfl rfl rfl ?_)
        refine q_cf 1 rfl (by decide) rfl rfl rfl (hb (fun p' s' n' v' z => c3 ?_))
        obtain ⟨_, _, _, _, z5, z6, z7, _, _, _⟩ := z
        rw [z7]
        exact ⟨nI_le (a := 1) z5 (by omega), nI_le (b := 40) z6 (by omega)⟩
    · repeat (refine q_wst rfl rfl rfl ?_)
      refine q_cf 1 rfl (by decide) rfl rfl rfl (hb (fun p' s' n' v' z => c1 ?_))
      obtain ⟨_, _, z3, z4, _⟩ := z
      rw [z4]
      exact ⟨nI_pos' (by omega), nI_le (b := 39) z3 (by omega)⟩
  · repeat (refine q_wst rfl rfl rfl ?_)
    refine q_cf 1 rfl (by decide) rfl rfl rfl (hb (fun p' s' n' v' z => ?_))
    exact hn p' z.1 z.2.1
theorem t_mnotch (b : Bool) (m : q_M) {P : Nat} (hP : P ≤ 30) (h1 : m 97 4 = nI P) (a1 a2 a3 a4 : Int32) (Q : Option Int32 → q_H → Prop) (hb : (∀ p s n v, ¬ q_nc P a1 a2 a3 a4 p s n v) → Q (some (-1000000001)) (q_hp b (q_up m 114 1 (m 114 1 + 1)))) (hs : ∀ p s n v, q_nc P a1 a2 a3 a4 p s n v → m 105 p = 2 → Q (some (-1000000003)) (q_hp b (q_up m 114 3 (m 114 3 + 1)))) (hok : ∀ p s n v, q_nc P a1 a2 a3 a4 p s n v → ¬ m 105 p = 2 → ∀ m1 m2, (∀ c, c ≠ 106 → m1 c = m c) → m1 106 = q_fl (m 106) (40 * p + s) n (nI v) → q_same m1 m2 → Q (some (q_vl (m1 98) (fun i => m1 106 (40 * p + i)))) (q_hp b m2)) : q_Wm 99 117 [vr 97, vi a1, vi a2, vi a3, vi a4] (q_hp b m) Q := by
  have lim : ∀ (x : Int32) (j : Nat), x = nI j → j < 2 ^ 31 → ∀ i, i < 2 ^ 31 → x = nI i → i = j := fun x j e hj i hi e2 => q_nIle hi hj (e2.symm.trans e)
  unfold q_Wm
  repeat (refine q_wst rfl rfl rfl ?_)
  refine q_wcl rfl rfl rfl ?_
  refine t_misPiece _ b m a1 hP h1 _ (fun p hp e => ?_) (fun hn => ?_)
  · repeat (refine q_wst rfl rfl rfl ?_)
    refine q_wcl rfl rfl rfl ?_
    refine t_mwithin _ _ _ _ _ _ (fun c1 c2 => ?_) (fun c1 => ?_)
    · obtain ⟨s, hs39, es⟩ := nI_of2 (M := 39) (n := 39) rfl (Int32.not_lt.mpr c1) c2
      repeat (refine q_wst rfl rfl rfl ?_)
      refine q_wcl rfl rfl rfl ?_
      refine t_mwithin _ _ _ _ _ _ (fun c3 c4 => ?_) (fun c3 => ?_)
      · have c3 : (1 : Int32) ≤ a3 := c3
        obtain ⟨n, hn40, en⟩ := nI_of2 (M := 40) (n := 40) rfl (Int32.not_lt.mpr (Int32.le_trans (by decide) c3)) c4
        have hn1 : 1 ≤ n := by rw [en] at c3; exact (nI_leI (a := 1) (b := n) (by omega) (by omega)).mp c3
        repeat (refine q_wst rfl rfl rfl ?_)
        refine q_wif (fun c5 => ?_) (fun c5 => ?_)
        · have c5 : (40 : Int32) < a2 + a3 := c5
          rw [es, en, nI_add] at c5
          have c5 := (nI_ltI (a := 40) (by omega) (by omega)).mp c5
          repeat (refine q_wst rfl rfl rfl ?_)
          refine q_mf 1 rfl (by decide) rfl rfl rfl (hb (fun p' s' n' v' z => ?_))
          obtain ⟨_, _, z3, z4, z5, z6, z7, z8, _, _⟩ := z
          have := lim _ _ es (by omega) s' (by omega) z4
          have := lim _ _ en (by omega) n' (by omega) z7
          omega
        · have c5 : ¬ (40 : Int32) < a2 + a3 := c5
          rw [es, en, nI_add] at c5
          have hsn : s + n ≤ 40 := by
            rcases Nat.lt_or_ge 40 (s + n) with z | z
            · exact absurd (nI_lt z (by omega)) c5
            · exact z
          repeat (refine q_wst rfl rfl rfl ?_)
          refine q_wcl rfl rfl rfl ?_
          refine t_mwithin _ _ _ _ _ _ (fun c6 c7 => ?_) (fun c6 => ?_)
          · obtain ⟨v, hv, ev⟩ := nI_of2 (M := 9) (n := 9) rfl (Int32.not_lt.mpr c6) c7
            have hp30 : p < 30 := by omega
            have hnc : q_nc P a1 a2 a3 a4 p s n v := ⟨hp, e, hs39, es, hn1, hn40, en, hsn, hv, ev⟩
            repeat (refine q_wst rfl rfl rfl ?_)
            refine q_wrd p e hp30 rfl (q_at105 b) (by decide) ?_
            repeat (refine q_wst rfl rfl rfl ?_)
            refine q_wif (fun c8 => ?_) (fun c8 => ?_)
            · subst es en ev e
              iterate 2 (refine q_wst rfl rfl rfl ?_)
              refine t_mcarve _ b m p s n hp30 hsn _ _ (fun m1 y hm1 hd1 => ?_) n 0 _ m (by omega) rfl (fun _ _ => rfl) ?_
              · repeat (refine q_wst rfl rfl rfl ?_)
                refine q_wcl rfl rfl rfl ?_
                refine t_mvalue _ b m1 p hp30 _ (fun m2 hs2 ho2 hc2 => ?_)
                exact q_wrt rfl rfl rfl (hok p s n v hnc c8 m1 m2 hm1 hd1 hs2)
              · funext j
                unfold q_fl
                rw [if_neg (by omega)]
            · repeat (refine q_wst rfl rfl rfl ?_)
              exact q_mf 3 rfl (by decide) rfl rfl rfl (hs p s n v hnc (Decidable.not_not.mp c8))
          · repeat (refine q_wst rfl rfl rfl ?_)
            refine q_mf 1 rfl (by decide) rfl rfl rfl (hb (fun p' s' n' v' z => c6 ?_))
            obtain ⟨_, _, _, _, _, _, _, _, z9, z10⟩ := z
            rw [z10]
            exact ⟨nI_pos' (by omega), nI_le (b := 9) z9 (by omega)⟩
      · repeat (refine q_wst rfl rfl rfl ?_)
        refine q_mf 1 rfl (by decide) rfl rfl rfl (hb (fun p' s' n' v' z => c3 ?_))
        obtain ⟨_, _, _, _, z5, z6, z7, _, _, _⟩ := z
        rw [z7]
        exact ⟨nI_le (a := 1) z5 (by omega), nI_le (b := 40) z6 (by omega)⟩
    · repeat (refine q_wst rfl rfl rfl ?_)
      refine q_mf 1 rfl (by decide) rfl rfl rfl (hb (fun p' s' n' v' z => c1 ?_))
      obtain ⟨_, _, z3, z4, _⟩ := z
      rw [z4]
      exact ⟨nI_pos' (by omega), nI_le (b := 39) z3 (by omega)⟩
  · repeat (refine q_wst rfl rfl rfl ?_)
    refine q_mf 1 rfl (by decide) rfl rfl rfl (hb (fun p' s' n' v' z => ?_))
    exact hn p' z.1 z.2.1
theorem q_nc_u {P : Nat} {a1 a2 a3 a4 : Int32} {p s n v p' s' n' v' : Nat} (hP : P ≤ 30) (h : q_nc P a1 a2 a3 a4 p s n v) (h' : q_nc P a1 a2 a3 a4 p' s' n' v') : p' = p ∧ s' = s ∧ n' = n ∧ v' = v := by
  obtain ⟨z1, z2, z3, z4, z5, z6, z7, z8, z9, z10⟩ := h
  obtain ⟨y1, y2, y3, y4, y5, y6, y7, y8, y9, y10⟩ := h'
  exact ⟨q_nIle (by omega) (by omega) (y2.symm.trans z2), q_nIle (by omega) (by omega) (y4.symm.trans z4), q_nIle (by omega) (by omega) (y7.symm.trans z7), q_nIle (by omega) (by omega) (y10.symm.trans z10)⟩
theorem ob_notch (a1 a2 a3 a4 : Int32) : q_Ob q_RR 55 117 [a1, a2, a3, a4] := by
  intro b m hR
  obtain ⟨P, w, hR0, h13⟩ := id hR
  have r1 := hR0.1
  refine t_notch b m r1.1 r1.2.1 a1 a2 a3 a4 _ (fun hn => ?_) (fun p s n v hc h2 => ?_) (fun p s n v hc h2 m1 m2 hm1 hd1 hs2 ho2 => ?_)
  · refine ⟨_, rfl, b, _, rfl, ?_⟩
    refine t_mnotch b _ (P := P) r1.1 (by exact r1.2.2) a1 a2 a3 a4 _ (fun _ => ⟨rfl, b, _, rfl, q_RR_fnd hR (q_same_rf _)⟩) (fun p s n v hc _ => absurd hc (hn p s n v)) (fun p s n v hc _ => absurd hc (hn p s n v))
  · have hp30 : p < 30 := Nat.lt_of_lt_of_le hc.1 r1.1
    have e6 : m (37 + 2 * p) 6 = m 105 p := (hR0.2.2.2.2.2.2.2.1 p hp30).2.2.2.2.2.1
    refine ⟨_, rfl, b, _, rfl, ?_⟩
    refine t_mnotch b _ (P := P) r1.1 (by exact r1.2.2) a1 a2 a3 a4 _ (fun hn => absurd hc (hn p s n v)) (fun _ _ _ _ _ _ => ⟨rfl, b, _, rfl, q_RR_fnd hR (q_same_rf _)⟩) (fun p' s' n' v' hc' h2' => ?_)
    obtain ⟨rfl, -, -, -⟩ := q_nc_u r1.1 hc hc'
    exact absurd (e6.symm.trans h2) h2'
  · have hp30 : p < 30 := Nat.lt_of_lt_of_le hc.1 r1.1
    have e6 : m (37 + 2 * p) 6 = m 105 p := (hR0.2.2.2.2.2.2.2.1 p hp30).2.2.2.2.2.1
    have H : ∀ c, 97 ≤ c → m2 c = m c := fun c h => (ho2 c h).trans (hm1 c (by omega))
    refine ⟨_, rfl, b, _, rfl, ?_⟩
    refine t_mnotch b _ (P := P) r1.1 (by rw [H 97 (by omega)]; exact r1.2.2) a1 a2 a3 a4 _ (fun hn => absurd hc (hn p s n v)) (fun p' s' n' v' hc' h2' => ?_) (fun p' s' n' v' hc' h2' m3 m4 hm3 hd3 hs4 => ?_)
    · obtain ⟨rfl, -, -, -⟩ := q_nc_u r1.1 hc hc'
      rw [H 105 (by omega)] at h2'
      exact absurd (e6.trans h2') h2
    · obtain ⟨rfl, rfl, rfl, rfl⟩ := q_nc_u r1.1 hc hc'
      rw [H 106 (by omega)] at hd3
      have key : ∀ i, i < 40 → m3 106 (40 * p' + i) = m1 (38 + 2 * p') i := by
        intro i hi
        rw [hd3, hd1]
        unfold q_fl
        by_cases e : s' ≤ i ∧ i < s' + n'
        · rw [if_pos (by omega), if_pos e]
        · rw [if_neg (by omega), if_neg e]
          exact (q_R_dp hR0 hp30 i hi).symm
      refine ⟨?_, b, _, rfl, ?_⟩
      · refine congrArg some (q_vl_eq key (fun i hi => ?_))
        rw [hm3 98 (by decide), H 98 (by omega), hm1 3 (by omega)]
        exact (q_R_wt hR0 i hi).symm
      · have hmain : ∀ c, q_mc c = true → c ≠ 38 + 2 * p' → c ≠ 106 → m4 c = m c := fun c h1 h3 h4 => by
          rw [hs4.1 c h1, hm3 c h4, hs2.1 c h1, hm1 c h3]
        refine q_RR_dp (m := m) (p := p') (dep := fun i => m1 (38 + 2 * p') i) hR0 h13 hc.1 hmain (fun i hi => ?_) ?_ (fun i hi => ?_) (fun i hi => ?_) (fun q i h1 h3 h4 => ?_) (fun i hi => ?_)
        · rw [hs4.2.1 i hi, hm3 97 (by decide), hs2.2.1 i hi, hm1 97 (by omega)]
        · rw [hs4.2.2, hm3 126 (by decide), hs2.2.2, hm1 126 (by omega)]
        · rw [hs4.1 _ (q_mcP hp30).2, hm3 _ (by omega), hs2.1 _ (q_mcP hp30).2]
        · rw [hs4.1 106 rfl]
          exact key i hi
        · have hsn := hc.2.2.2.2.2.2.2.1
          rw [hs4.1 106 rfl, hd3]
          unfold q_fl
          rw [if_neg (by omega)]
        · show ∃ a, a ≤ 9 ∧ m1 (38 + 2 * p') i = nI a
          rw [hd1]
          unfold q_fl
          split
          · exact ⟨v', hc.2.2.2.2.2.2.2.2.1, rfl⟩
          · rw [q_R_dp hR0 hp30 i hi]
            exact (hR0.2.2.2.2.2.2.2.2.1 p' hc.1).2.2.2.2.2 i hi
