/-! obligation: wear -/
def q_wc (f : Nat → Nat) : Nat → Nat
  | 0 => 0
  | i + 1 => if 0 < f i then q_wc f i + 1 else q_wc f i
theorem q_wmx {a k : Nat} (ha : a ≤ 9) (hk : k ≤ 9) : (if (0 : Int32) < nI a - nI k then nI a - nI k else 0) = nI (a - k) := by
  have e : (nI a - nI k).toInt = (a : Int) - k := pk_sub_toInt (by omega) (by omega)
  have e0 : (0 : Int32).toInt = 0 := rfl
  rcases Nat.lt_or_ge k a with z | z
  · rw [if_pos (by rw [Int32.lt_iff_toInt_lt, e, e0]; omega), pk_sub (by omega)]
  · rw [if_neg (by rw [Int32.lt_iff_toInt_lt, e, e0]; omega), show a - k = 0 by omega]
    rfl
theorem t_wearDown (d : Nat) (b : Bool) (m0 : q_M) (p k : Nat) (hp : p < 30) (hk : k ≤ 9) (f : Nat → Nat) (hf : ∀ i, i < 40 → m0 (38 + 2 * p) i = nI (f i) ∧ f i ≤ 9) (Q : Option Int32 → q_H → Prop) (hQ : ∀ m, (∀ c, c ≠ 38 + 2 * p → m c = m0 c) → (∀ i, i < 40 → m (38 + 2 * p) i = nI (f i - k)) → Q (some (nI (q_wc f 40))) (q_hp b m)) : q_Wm d 36 [vr (37 + 2 * p), vi (nI k)] (q_hp b m0) Q := by
  have loop : ∀ (r i : Nat) (x y : Int32) (m : q_M), i + r = 40 → y = nI i → x = nI (q_wc f i) → (∀ c, c ≠ 38 + 2 * p → m c = m0 c) → (∀ j, j < 40 → m (38 + 2 * p) j = if j < i then nI (f j - k) else nI (f j)) → q_WP none d 36 4 [some (vr (37 + 2 * p)), some (vi (nI k)), some (vi x), some (vi y)] [] (q_hp b m) Q := by
    intro r
    induction r with
    | zero =>
      intro i x y m hi hy hx hm hd
      subst hy
      have hi : i = 40 := by omega
      subst hi
      repeat (refine q_wst rfl rfl rfl ?_)
      refine q_wrt rfl rfl rfl ?_
      rw [hx]
      exact hQ m hm (fun i hi => by rw [hd i hi, if_pos hi])
    | succ r ih =>
      intro i x y m hi hy hx hm hd
      subst hy
      have hi40 : i < 40 := by omega
      have ei : m (38 + 2 * p) i = nI (f i) := by rw [hd i hi40, if_neg (by omega)]
      have hfi := (hf i hi40).2
      iterate 3 (refine q_wst rfl rfl rfl ?_)
      refine q_wif (fun c => absurd c (nI_ge (b := 40) hi40 (by omega))) (fun _ => ?_)
      iterate 1 (refine q_wst rfl rfl rfl ?_)
      refine q_wgr rfl (q_atP b p hp) rfl rfl ?_
      iterate 1 (refine q_wst rfl rfl rfl ?_)
      refine q_wrd i rfl hi40 rfl (q_atD b p hp) (by decide) ?_
      iterate 1 (refine q_wst rfl rfl rfl ?_)
      refine q_wif (fun c => ?_) (fun c => ?_)
      · have c : m (38 + 2 * p) i ≤ 0 := c
        rw [ei] at c
        have c : f i = 0 := by
          rcases Nat.eq_zero_or_pos (f i) with z | z
          · exact z
          · exact absurd c (nI_nle z (by omega))
        iterate 2 (refine q_wst rfl rfl rfl ?_)
        refine ih (i + 1) _ _ m (by omega) (nI_1 i) ?_ hm (fun j hj => ?_)
        · unfold q_wc
          rw [if_neg (by omega)]
          exact hx
        · rw [hd j hj]
          by_cases z : j < i
          · rw [if_pos z, if_pos (by omega)]
          · rw [if_neg z]
            by_cases z2 : j = i
            · rw [if_pos (by omega), z2, c, Nat.zero_sub]
            · rw [if_neg (by omega)]
      · have c : ¬ m (38 + 2 * p) i ≤ 0 := c
        rw [ei] at c
        have c : 0 < f i := by
          rcases Nat.eq_zero_or_pos (f i) with z | z
          · rw [z] at c; exact absurd (by decide) c
          · exact z
        iterate 1 (refine q_wst rfl rfl rfl ?_)
        refine q_wgr rfl (q_atP b p hp) rfl rfl ?_
        iterate 3 (refine q_wst rfl rfl rfl ?_)
        refine q_wgr rfl (q_atP b p hp) rfl rfl ?_
        iterate 1 (refine q_wst rfl rfl rfl ?_)
        refine q_wrd i rfl hi40 rfl (q_atD b p hp) (by decide) ?_
        iterate 3 (refine q_wst rfl rfl rfl ?_)
        refine q_wwr i rfl hi40 rfl (q_atD b p hp) (by decide) ?_
        iterate 3 (refine q_wst rfl rfl rfl ?_)
        refine ih (i + 1) _ _ _ (by omega) (nI_1 i) ?_ (fun c hc => ?_) (fun j hj => ?_)
        · unfold q_wc
          rw [if_pos c]
          show x + 1 = _
          rw [hx, nI_1]
        · show q_up m (38 + 2 * p) i _ c = m0 c
          rw [q_up_ne hc]
          exact hm c hc
        · show q_up m (38 + 2 * p) i (if (0 : Int32) < m (38 + 2 * p) i - nI k then m (38 + 2 * p) i - nI k else 0) (38 + 2 * p) j = _
          rw [q_up_eq, ei, q_wmx hfi hk]
          unfold upd
          by_cases z2 : j = i
          · rw [if_pos z2, if_pos (by omega), z2]
          · rw [if_neg z2, hd j hj]
            by_cases z : j < i
            · rw [if_pos z, if_pos (by omega)]
            · rw [if_neg z, if_neg (by omega)]
  unfold q_Wm
  iterate 4 (refine q_wst rfl rfl rfl ?_)
  exact loop 40 0 _ _ m0 rfl rfl rfl (fun _ _ => rfl) (fun j hj => by rw [if_neg (by omega)]; exact (hf j hj).1)
theorem t_mwear (d : Nat) (b : Bool) (m0 : q_M) (p k : Nat) (hp : p < 30) (hk : k ≤ 9) (f : Nat → Nat) (hf : ∀ i, i < 40 → m0 106 (40 * p + i) = nI (f i) ∧ f i ≤ 9) (Q : Option Int32 → q_H → Prop) (hQ : ∀ m, (∀ c, c ≠ 106 → m c = m0 c) → (∀ i, i < 40 → m 106 (40 * p + i) = nI (f i - k)) → (∀ j, (j < 40 * p ∨ 40 * p + 40 ≤ j) → m 106 j = m0 106 j) → Q (some (nI (q_wc f 40))) (q_hp b m)) : ∀ (r i : Nat) (x y : Int32) (m : q_M), i + r = 40 → y = nI (40 * p + i) → x = nI (q_wc f i) → (∀ c, c ≠ 106 → m c = m0 c) → (∀ j, j < 40 → m 106 (40 * p + j) = if j < i then nI (f j - k) else nI (f j)) → (∀ j, (j < 40 * p ∨ 40 * p + 40 ≤ j) → m 106 j = m0 106 j) → q_WP none d 122 50 [some (vr 97), some (vi (nI p)), some (vi (nI k)), some (vi x), some (vi y)] [] (q_hp b m) Q := by
  have hend : (40 : Int32) * (nI p + 1) = nI (40 * p + 40) := by
    show nI 40 * (nI p + 1) = _
    rw [nI_1, pk_mul]
    rfl
  intro r
  induction r with
  | zero =>
    intro i x y m hi hy hx hm hd ho
    subst hy
    have hi : i = 40 := by omega
    subst hi
    iterate 7 (refine q_wst rfl rfl rfl ?_)
    refine q_wif (fun _ => ?_) (fun c => absurd (by show (40 : Int32) * (nI p + 1) ≤ nI (40 * p + 40); rw [hend]; exact nI_le (Nat.le_refl _) (by omega)) c)
    repeat (refine q_wst rfl rfl rfl ?_)
    refine q_wrt rfl rfl rfl ?_
    rw [hx]
    exact hQ m hm (fun i hi => by rw [hd i hi, if_pos hi]) ho
  | succ r ih =>
    intro i x y m hi hy hx hm hd ho
    subst hy
    have hi40 : i < 40 := by omega
    have ei : m 106 (40 * p + i) = nI (f i) := by rw [hd i hi40, if_neg (by omega)]
    have hfi := (hf i hi40).2
    have after : ∀ z : Int32, z = nI (q_wc f (i + 1)) → q_WP none d 122 50 [some (vr 97), some (vi (nI p)), some (vi (nI k)), some (vi z), some (vi (nI (40 * p + i) + 1))] [] (q_hp b (q_up m 106 (40 * p + i) (if (0 : Int32) < m 106 (40 * p + i) - nI k then m 106 (40 * p + i) - nI k else 0))) Q := by
      intro z hz
      refine ih (i + 1) _ _ _ (by omega) (nI_1 (40 * p + i)) hz (fun c hc => ?_) (fun j hj => ?_) (fun j hj => ?_)
      · rw [q_up_ne hc]
        exact hm c hc
      · rw [q_up_eq, ei, q_wmx hfi hk]
        unfold upd
        by_cases z2 : j = i
        · rw [if_pos (by omega), if_pos (by omega), z2]
        · rw [if_neg (by omega), hd j hj]
          by_cases z : j < i
          · rw [if_pos z, if_pos (by omega)]
          · rw [if_neg z, if_neg (by omega)]
      · rw [q_up_eq]
        unfold upd
        rw [if_neg (by omega)]
        exact ho j hj
    iterate 7 (refine q_wst rfl rfl rfl ?_)
    refine q_wif (fun c => absurd c (by show ¬ (40 : Int32) * (nI p + 1) ≤ nI (40 * p + i); rw [hend]; exact nI_ge (by omega) (by omega))) (fun _ => ?_)
    iterate 4 (refine q_wst rfl rfl rfl ?_)
    refine q_wrd (40 * p + i) rfl (by omega) rfl (q_at106 b) (by decide) ?_
    iterate 1 (refine q_wst rfl rfl rfl ?_)
    refine q_wif (fun c => ?_) (fun c => ?_)
    · have c : m 106 (40 * p + i) ≤ 0 := c
      rw [ei] at c
      have c : f i = 0 := by
        rcases Nat.eq_zero_or_pos (f i) with z | z
        · exact z
        · exact absurd c (nI_nle z (by omega))
      iterate 10 (refine q_wst rfl rfl rfl ?_)
      refine q_wrd (40 * p + i) rfl (by omega) rfl (q_at106 b) (by decide) ?_
      iterate 3 (refine q_wst rfl rfl rfl ?_)
      refine q_wwr (40 * p + i) rfl (by omega) rfl (q_at106 b) (by decide) ?_
      iterate 2 (refine q_wst rfl rfl rfl ?_)
      refine after _ ?_
      unfold q_wc
      rw [if_neg (by omega)]
      show x + nI 0 = _
      rw [hx, nI_add]
      rfl
    · have c : ¬ m 106 (40 * p + i) ≤ 0 := c
      rw [ei] at c
      have c : 0 < f i := by
        rcases Nat.eq_zero_or_pos (f i) with z | z
        · rw [z] at c; exact absurd (by decide) c
        · exact z
      iterate 11 (refine q_wst rfl rfl rfl ?_)
      refine q_wrd (40 * p + i) rfl (by omega) rfl (q_at106 b) (by decide) ?_
      iterate 3 (refine q_wst rfl rfl rfl ?_)
      refine q_wwr (40 * p + i) rfl (by omega) rfl (q_at106 b) (by decide) ?_
      iterate 2 (refine q_wst rfl rfl rfl ?_)
      refine after _ ?_
      unfold q_wc
      rw [if_pos c]
      show x + 1 = _
      rw [hx, nI_1]
theorem ob_wear (a1 a2 : Int32) : q_Ob q_RR 59 122 [a1, a2] := by
  intro b m hR
  obtain ⟨P, w, hR0, h13⟩ := id hR
  have r1 := hR0.1
  unfold q_Wm
  repeat (refine q_wst rfl rfl rfl ?_)
  refine q_wcl rfl rfl rfl ?_
  refine t_isPiece _ b m a1 r1.1 r1.2.1 _ (fun p hp e => ?_) (fun hn => ?_)
  · subst e
    have hp30 : p < 30 := Nat.lt_of_lt_of_le hp r1.1
    have e6 : m (37 + 2 * p) 6 = m 105 p := (hR0.2.2.2.2.2.2.2.1 p hp30).2.2.2.2.2.1
    repeat (refine q_wst rfl rfl rfl ?_)
    refine q_wcl rfl rfl rfl ?_
    refine t_within _ _ _ _ _ _ (fun c1 c2 => ?_) (fun c1 => ?_)
    · have c1 : (1 : Int32) ≤ a2 := c1
      obtain ⟨k, hk, e⟩ := nI_of2 (M := 9) (n := 9) rfl (Int32.not_lt.mpr (Int32.le_trans (by decide) c1)) c2
      subst e
      repeat (refine q_wst rfl rfl rfl ?_)
      refine q_wpc p rfl hp30 rfl ?_
      refine q_wgi rfl (q_atP b p hp30) rfl rfl ?_
      repeat (refine q_wst rfl rfl rfl ?_)
      refine q_wif (fun c3 => ?_) (fun c3 => ?_)
      · have c3 : ¬ m (37 + 2 * p) 6 = 2 := c3
        have hf : ∀ i, i < 40 → m 106 (40 * p + i) = nI (m 106 (40 * p + i)).toNatClampNeg ∧ (m 106 (40 * p + i)).toNatClampNeg ≤ 9 := by
          intro i hi
          obtain ⟨a, ha, e⟩ := (hR0.2.2.2.2.2.2.2.2.1 p hp).2.2.2.2.2 i hi
          rw [e, nI_clamp (by omega)]
          exact ⟨rfl, ha⟩
        generalize hfe : (fun i => (m 106 (40 * p + i)).toNatClampNeg) = f at *
        have hf : ∀ i, i < 40 → m 106 (40 * p + i) = nI (f i) ∧ f i ≤ 9 := by
          intro i hi
          rw [← hfe]
          exact hf i hi
        repeat (refine q_wst rfl rfl rfl ?_)
        refine q_wpc p rfl hp30 rfl ?_
        repeat (refine q_wst rfl rfl rfl ?_)
        refine q_wcP p hp30 rfl rfl rfl rfl rfl ?_
        refine t_wearDown _ b m p k hp30 hk f (fun i hi => by rw [q_R_dp hR0 hp30 i hi]; exact hf i hi) _ (fun m1 hm1 hd1 => ?_)
        refine q_wrt rfl rfl rfl ⟨_, rfl, b, _, rfl, ?_⟩
        unfold q_Wm
        repeat (refine q_wst rfl rfl rfl ?_)
        refine q_wcl rfl rfl rfl ?_
        refine t_misPiece (P := P) _ b _ _ r1.1 (by rw [hm1 97 (by omega)]; exact r1.2.2) _ (fun q hq e => ?_) (fun hn => absurd rfl (hn p hp))
        repeat (refine q_wst rfl rfl rfl ?_)
        refine q_wcl rfl rfl rfl ?_
        refine t_mwithin _ _ _ _ _ _ (fun _ _ => ?_) (fun q => absurd ⟨c1, c2⟩ q)
        repeat (refine q_wst rfl rfl rfl ?_)
        refine q_wrd p rfl hp30 rfl (q_at105 b) (by decide) ?_
        repeat (refine q_wst rfl rfl rfl ?_)
        refine q_wif (fun _ => ?_) (fun z => absurd (fun z2 => c3 (by rw [e6, ← hm1 105 (by omega)]; exact z2)) z)
        iterate 6 (refine q_wst rfl rfl rfl ?_)
        refine t_mwear _ b m1 p k hp30 hk f (fun i hi => by rw [hm1 106 (by omega)]; exact hf i hi) _ (fun m2 hm2 hd2 ho2 => ?_) 40 0 _ _ m1 rfl (by show nI 40 * nI p = _; rw [pk_mul]; rfl) rfl (fun _ _ => rfl) (fun j hj => by rw [if_neg (by omega), hm1 106 (by omega)]; exact (hf j hj).1) (fun _ _ => rfl)
        refine ⟨rfl, b, _, rfl, ?_⟩
        refine q_RR_dp (m := m) (p := p) (dep := fun i => nI (f i - k)) hR0 h13 hp (fun c h1 h3 h4 => ?_) (fun i hi => ?_) ?_ (fun i hi => ?_) hd2 (fun q i h1 h3 h4 => ?_) (fun i hi => ⟨f i - k, by have := (hf i hi).2; omega, rfl⟩)
        · rw [hm2 c h4, hm1 c h3]
        · rw [hm2 97 (by decide), hm1 97 (by omega)]
        · rw [hm2 126 (by decide), hm1 126 (by omega)]
        · rw [hm2 _ (by omega)]
          exact hd1 i hi
        · rw [ho2 _ (by omega), hm1 106 (by omega)]
      · have c3 : m (37 + 2 * p) 6 = 2 := Decidable.not_not.mp c3
        repeat (refine q_wst rfl rfl rfl ?_)
        refine q_cf 3 rfl (by decide) rfl rfl rfl ⟨_, rfl, b, _, rfl, ?_⟩
        unfold q_Wm
        repeat (refine q_wst rfl rfl rfl ?_)
        refine q_wcl rfl rfl rfl ?_
        refine t_misPiece (P := P) _ b _ _ r1.1 (by exact r1.2.2) _ (fun q hq e => ?_) (fun hn => absurd rfl (hn p hp))
        repeat (refine q_wst rfl rfl rfl ?_)
        refine q_wcl rfl rfl rfl ?_
        refine t_mwithin _ _ _ _ _ _ (fun _ _ => ?_) (fun q => absurd ⟨c1, c2⟩ q)
        repeat (refine q_wst rfl rfl rfl ?_)
        refine q_wrd p rfl hp30 rfl (q_at105 b) (by decide) ?_
        repeat (refine q_wst rfl rfl rfl ?_)
        refine q_wif (fun z => absurd (e6.symm.trans c3) z) (fun _ => ?_)
        repeat (refine q_wst rfl rfl rfl ?_)
        exact q_mf 3 rfl (by decide) rfl rfl rfl ⟨rfl, b, _, rfl, q_RR_fnd hR (q_same_rf _)⟩
    · repeat (refine q_wst rfl rfl rfl ?_)
      refine q_cf 1 rfl (by decide) rfl rfl rfl ⟨_, rfl, b, _, rfl, ?_⟩
      unfold q_Wm
      repeat (refine q_wst rfl rfl rfl ?_)
      refine q_wcl rfl rfl rfl ?_
      refine t_misPiece (P := P) _ b _ _ r1.1 (by exact r1.2.2) _ (fun q hq e => ?_) (fun hn => absurd rfl (hn p hp))
      repeat (refine q_wst rfl rfl rfl ?_)
      refine q_wcl rfl rfl rfl ?_
      refine t_mwithin _ _ _ _ _ _ (fun x y => absurd ⟨x, y⟩ c1) (fun _ => ?_)
      repeat (refine q_wst rfl rfl rfl ?_)
      exact q_mf 1 rfl (by decide) rfl rfl rfl ⟨rfl, b, _, rfl, q_RR_fnd hR (q_same_rf _)⟩
  · repeat (refine q_wst rfl rfl rfl ?_)
    refine q_cf 1 rfl (by decide) rfl rfl rfl ⟨_, rfl, b, _, rfl, ?_⟩
    unfold q_Wm
    repeat (refine q_wst rfl rfl rfl ?_)
    refine q_wcl rfl rfl rfl ?_
    refine t_misPiece (P := P) _ b _ _ r1.1 (by exact r1.2.2) _ (fun q hq e => absurd e (hn q hq)) (fun _ => ?_)
    repeat (refine q_wst rfl rfl rfl ?_)
    exact q_mf 1 rfl (by decide) rfl rfl rfl ⟨rfl, b, _, rfl, q_RR_fnd hR (q_same_rf _)⟩
