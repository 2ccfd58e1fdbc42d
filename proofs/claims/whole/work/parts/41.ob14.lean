/-! obligations: composed, reduce -/
section QW
variable {X : q_X} {d k pc : Nat} {pl : q_L} {st : List q_V} {h : q_H} {Q : Option Int32 → q_H → Prop}
theorem q_wdv {a b9 : Nat} {cc x y : Int32} (hc : q_cd k pc = some (.idiv, a, b9, cc)) (hy : ¬ y = 0) (g : q_WP X d k (pc + 1) pl (.inl (x / y) :: st) h Q) : q_WP X d k pc pl (.inl y :: .inl x :: st) h Q := by
  refine q_wst hc rfl ?_ g
  show (bif decide (y = 0) then none else some (pc + 1, pl, .inl (x / y) :: st, h)) = _
  rw [decide_eq_false hy]
  rfl
theorem q_wrm {a b9 : Nat} {cc x y : Int32} (hc : q_cd k pc = some (.irem, a, b9, cc)) (hy : ¬ y = 0) (g : q_WP X d k (pc + 1) pl (.inl (x - x / y * y) :: st) h Q) : q_WP X d k pc pl (.inl y :: .inl x :: st) h Q := by
  refine q_wst hc rfl ?_ g
  show (bif decide (y = 0) then none else some (pc + 1, pl, .inl (x - x / y * y) :: st, h)) = _
  rw [decide_eq_false hy]
  rfl
end QW
theorem t_quot (d : Nat) (x y : Int32) (h : q_H) (Q : Option Int32 → q_H → Prop) (hy : 0 < y) (hQ : Q (some (x / y)) h) : q_Wm d 71 [vi x, vi y] h Q := by
  unfold q_Wm
  repeat (refine q_wst rfl rfl rfl ?_)
  refine q_wif (fun c => absurd c (Int32.not_le.mpr hy)) (fun _ => ?_)
  repeat (refine q_wst rfl rfl rfl ?_)
  refine q_wdv rfl (fun z => by rw [z] at hy; exact absurd hy (by decide)) ?_
  repeat (refine q_wst rfl rfl rfl ?_)
  exact q_wrt rfl rfl rfl hQ
/-- the rest behind k widths, from the widest -/
def q_kr (w : Nat → Nat) (v : Nat) : Nat → Nat
  | 0 => v
  | k + 1 => q_kr w v k - min 9 (q_kr w v k / w (5 - k)) * w (5 - k)
def q_kn (w : Nat → Nat) (v k : Nat) : Nat := min 9 (q_kr w v k / w (5 - k))
def q_ks (w : Nat → Nat) (v : Nat) : Nat → Nat
  | 0 => 0
  | k + 1 => q_ks w v k + q_kn w v k
def q_kw (w : Nat → Nat) (v : Nat) : Nat → Nat
  | 0 => 0
  | k + 1 => q_kw w v k + q_kn w v k * (5 - k + 1)
theorem q_kr_le (w : Nat → Nat) (v : Nat) : ∀ k, q_kr w v k ≤ v
  | 0 => Nat.le_refl _
  | k + 1 => Nat.le_trans (Nat.sub_le _ _) (q_kr_le w v k)
theorem q_kw_le (w : Nat → Nat) (v : Nat) : ∀ k, q_kw w v k ≤ 54 * k
  | 0 => Nat.le_refl _
  | k + 1 => by
    have := q_kw_le w v k
    have h2 : q_kn w v k * (5 - k + 1) ≤ 9 * 6 := Nat.mul_le_mul (Nat.min_le_left _ _) (by omega)
    show q_kw w v k + _ ≤ _
    omega
theorem q_min9 {a : Nat} (ha : a < 2 ^ 31) : (if nI a < 9 then nI a else 9) = nI (min 9 a) := by
  by_cases h : a < 9
  · rw [if_pos (show nI a < 9 from nI_lt (b := 9) h (by omega)), Nat.min_eq_right (by omega)]
  · rw [if_neg (show ¬ nI a < 9 from nI_nlt (b := 9) (by omega) ha), Nat.min_eq_left (by omega)]
    rfl
theorem q_kmul (w : Nat → Nat) (v k : Nat) : q_kn w v k * w (5 - k) ≤ q_kr w v k := by
  refine Nat.le_trans (Nat.mul_le_mul_right _ (Nat.min_le_right _ _)) (Nat.div_mul_le_self _ _)
/-- what compose leaves -/
def q_ko (w : Nat → Nat) (v : Nat) : Bool := decide (q_kr w v 5 = 0) && decide (q_kw w v 5 ≤ 41)
theorem t_compose (d : Nat) (b : Bool) (m0 : q_M) (w : Nat → Nat) (v : Nat) (hv : v ≤ 100000000) (hw : ∀ i, 1 ≤ i → i ≤ 5 → m0 3 i = nI (w i) ∧ 0 < w i ∧ w i ≤ 100000) (Q : Option Int32 → q_H → Prop) (hQ : ∀ m, (∀ c, c ≠ 4 → m c = m0 c) → (∀ i, 1 ≤ i → i ≤ 5 → m 4 i = nI (q_kn w v (5 - i))) → Q (some (if q_ko w v = true then 1 else 0)) (q_hp b m)) : q_Wm (d + 1) 21 [vr 2, vi (nI v)] (q_hp b m0) Q := by
  have loop : ∀ (j k : Nat) (x y z : Int32) (m : q_M), k + j = 5 → x = nI (q_kr w v k) → y = nI (q_kw w v k) - 1 → z = nI j → (∀ c, c ≠ 4 → m c = m0 c) → (∀ i, j < i → i ≤ 5 → m 4 i = nI (q_kn w v (5 - i))) → q_WP none (d + 1) 21 7 [some (vr 2), some (vi (nI v)), some (vi x), some (vi y), some (vi z)] [] (q_hp b m) Q := by
    intro j
    induction j with
    | zero =>
      intro k x y z m hk hx hy hz hm hp
      have hk : k = 5 := by omega
      subst hk hz
      have b1 := q_kr_le w v 5
      have b2 := q_kw_le w v 5
      have hfin := hQ m hm (fun i h1 h2 => hp i (by omega) h2)
      have hye : y.toInt = (q_kw w v 5 : Int) - 1 := by rw [hy]; exact pk_sub_toInt (b := 1) (by omega) (by omega)
      repeat (refine q_wst rfl rfl rfl ?_)
      refine q_wif (fun c => ?_) (fun c => ?_)
      · have c : ¬ x = 0 := c
        have hko : q_ko w v = false := by
          unfold q_ko
          rw [decide_eq_false (fun e => c (by rw [hx, e]; rfl))]
          rfl
        rw [hko] at hfin
        repeat (refine q_wst rfl rfl rfl ?_)
        exact q_wrt rfl rfl rfl hfin
      · have c : x = 0 := Decidable.not_not.mp c
        have c : q_kr w v 5 = 0 := q_nIle (b := 0) (by omega) (by omega) (hx.symm.trans c)
        repeat (refine q_wst rfl rfl rfl ?_)
        refine q_wif (fun e => ?_) (fun e => ?_)
        · have e : (40 : Int32) < y := e
          have e : ¬ q_kw w v 5 ≤ 41 := by
            rw [Int32.lt_iff_toInt_lt, hye] at e
            have : (40 : Int32).toInt = 40 := rfl
            omega
          have hko : q_ko w v = false := by
            unfold q_ko
            rw [decide_eq_false e, Bool.and_false]
          rw [hko] at hfin
          repeat (refine q_wst rfl rfl rfl ?_)
          exact q_wrt rfl rfl rfl hfin
        · have e : ¬ (40 : Int32) < y := e
          have e : q_kw w v 5 ≤ 41 := by
            rw [Int32.lt_iff_toInt_lt, hye] at e
            have : (40 : Int32).toInt = 40 := rfl
            omega
          have hko : q_ko w v = true := by
            unfold q_ko
            rw [decide_eq_true e, decide_eq_true c]
            rfl
          rw [hko] at hfin
          repeat (refine q_wst rfl rfl rfl ?_)
          exact q_wrt rfl rfl rfl hfin
    | succ j ih =>
      intro k x y z m hk hx hy hz hm hp
      subst hz
      have hk5 : 5 - k = j + 1 := by omega
      have b1 := q_kr_le w v k
      have b2 := q_kw_le w v k
      obtain ⟨w1, w2, w3⟩ := hw (j + 1) (by omega) (by omega)
      have e3 : m 3 (j + 1) = nI (w (j + 1)) := by rw [hm 3 (by decide)]; exact w1
      have hn : q_kn w v k = min 9 (q_kr w v k / w (j + 1)) := by unfold q_kn; rw [hk5]
      have hml := q_kmul w v k
      rw [hk5] at hml
      have hn9 : q_kn w v k ≤ 9 := Nat.min_le_left _ _
      iterate 3 (refine q_wst rfl rfl rfl ?_)
      refine q_wif (fun c => absurd c (by show ¬ nI (j + 1) < nI 1; exact nI_nlt (by omega) (by omega))) (fun _ => ?_)
      iterate 8 (refine q_wst rfl rfl rfl ?_)
      refine q_wrd (j + 1) rfl (by omega) rfl (q_at3 b) (by decide) ?_
      refine q_wcl rfl rfl rfl ?_
      refine t_quot _ _ _ _ _ (by show 0 < m 3 (j + 1); rw [e3]; exact nI_lt (a := 0) w2 (by omega)) ?_
      have eq9 : (if x / m 3 (j + 1) < 9 then x / m 3 (j + 1) else 9) = nI (q_kn w v k) := by
        rw [e3, hx, pk_div (by omega) w2 (by omega), q_min9 (Nat.lt_of_le_of_lt (Nat.div_le_self _ _) (by omega)), hn]
      iterate 1 (refine q_wst rfl rfl rfl ?_)
      refine q_wwr (j + 1) rfl (by omega) rfl (q_at4 b) (by decide) ?_
      iterate 4 (refine q_wst rfl rfl rfl ?_)
      refine q_wrd (j + 1) rfl (by omega) rfl (q_at4 b) (by decide) ?_
      iterate 3 (refine q_wst rfl rfl rfl ?_)
      refine q_wrd (j + 1) rfl (by omega) rfl (q_at3 b) (by decide) ?_
      iterate 7 (refine q_wst rfl rfl rfl ?_)
      refine q_wrd (j + 1) rfl (by omega) rfl (q_at4 b) (by decide) ?_
      iterate 8 (refine q_wst rfl rfl rfl ?_)
      have e4 : q_up m 4 (j + 1) (if x / m 3 (j + 1) < 9 then x / m 3 (j + 1) else 9) 4 (j + 1) = nI (q_kn w v k) := by rw [q_up_eq, pk_us, eq9]
      refine ih (k + 1) _ _ _ _ (by omega) ?_ ?_ (pk_m1 j) (fun c hc => ?_) (fun i h1 h2 => ?_)
      · show x - q_up m 4 (j + 1) (if x / m 3 (j + 1) < 9 then x / m 3 (j + 1) else 9) 4 (j + 1) * m 3 (j + 1) = nI (q_kr w v k - min 9 (q_kr w v k / w (5 - k)) * w (5 - k))
        rw [e4, e3, hx, pk_mul, pk_sub hml, hk5, ← hn]
      · show y + q_up m 4 (j + 1) (if x / m 3 (j + 1) < 9 then x / m 3 (j + 1) else 9) 4 (j + 1) * (nI (j + 1) + 1) = nI (q_kw w v k + q_kn w v k * (5 - k + 1)) - 1
        rw [e4, hy, nI_1, pk_mul, hk5, ← nI_add]
        rw [Int32.sub_eq_add_neg, Int32.sub_eq_add_neg, Int32.add_assoc, Int32.add_comm (-1), ← Int32.add_assoc]
      · show q_up m 4 _ _ c = m0 c
        rw [q_up_ne hc]
        exact hm c hc
      · show q_up m 4 (j + 1) (if x / m 3 (j + 1) < 9 then x / m 3 (j + 1) else 9) 4 i = _
        rw [q_up_eq, eq9]
        by_cases e : i = j + 1
        · rw [e, pk_us, show 5 - (j + 1) = k by omega]
        · rw [pk_un e]
          exact hp i (by omega) h2
  unfold q_Wm
  iterate 6 (refine q_wst rfl rfl rfl ?_)
  exact loop 5 0 _ _ _ m0 rfl rfl rfl rfl (fun _ _ => rfl) (fun i h1 h2 => absurd h1 (by omega))
theorem t_mcompose (d : Nat) (b : Bool) (m0 : q_M) (w : Nat → Nat) (v : Nat) (hv : v ≤ 100000000) (hw : ∀ i, 1 ≤ i → i ≤ 5 → m0 98 i = nI (w i) ∧ 0 < w i ∧ w i ≤ 100000) (Q : Option Int32 → q_H → Prop) (hQ : ∀ m, (∀ c, c ≠ 117 → m c = m0 c) → (∀ i, 1 ≤ i → i ≤ 5 → m 117 i = nI (q_kn w v (5 - i))) → Q (some (if q_ko w v = true then nI (q_ks w v 5) else -1)) (q_hp b m)) : q_Wm d 135 [vr 97, vi (nI v)] (q_hp b m0) Q := by
  have loop : ∀ (j k : Nat) (x s y z : Int32) (m : q_M), k + j = 5 → x = nI (q_kr w v k) → s = nI (q_ks w v k) → y = nI (q_kw w v k) - 1 → z = nI j → (∀ c, c ≠ 117 → m c = m0 c) → (∀ i, j < i → i ≤ 5 → m 117 i = nI (q_kn w v (5 - i))) → q_WP none d 135 10 [some (vr 97), some (vi (nI v)), some (vi x), some (vi s), some (vi y), some (vi z)] [] (q_hp b m) Q := by
    intro j
    induction j with
    | zero =>
      intro k x s y z m hk hx hs hy hz hm hp
      have hk : k = 5 := by omega
      subst hk hz
      have b1 := q_kr_le w v 5
      have b2 := q_kw_le w v 5
      have hfin := hQ m hm (fun i h1 h2 => hp i (by omega) h2)
      have hye : y.toInt = (q_kw w v 5 : Int) - 1 := by rw [hy]; exact pk_sub_toInt (b := 1) (by omega) (by omega)
      repeat (refine q_wst rfl rfl rfl ?_)
      refine q_wif (fun c => ?_) (fun c => ?_)
      · have c : nI 0 < x := c
        rw [hx] at c
        have c := (nI_ltI (by omega) (by omega)).mp c
        have hko : q_ko w v = false := by
          unfold q_ko
          rw [decide_eq_false (by omega)]
          rfl
        rw [hko] at hfin
        repeat (refine q_wst rfl rfl rfl ?_)
        exact q_wrt rfl rfl rfl hfin
      · have c : ¬ nI 0 < x := c
        rw [hx] at c
        have c : q_kr w v 5 = 0 := by
          rcases Nat.eq_zero_or_pos (q_kr w v 5) with z | z
          · exact z
          · exact absurd (nI_lt z (by omega)) c
        repeat (refine q_wst rfl rfl rfl ?_)
        refine q_wif (fun e => ?_) (fun e => ?_)
        · have e : y ≤ (40 : Int32) := e
          have e : q_kw w v 5 ≤ 41 := by
            rw [Int32.le_iff_toInt_le, hye] at e
            have : (40 : Int32).toInt = 40 := rfl
            omega
          have hko : q_ko w v = true := by
            unfold q_ko
            rw [decide_eq_true e, decide_eq_true c]
            rfl
          rw [hko] at hfin
          repeat (refine q_wst rfl rfl rfl ?_)
          refine q_wrt rfl rfl rfl ?_
          rw [hs]
          exact hfin
        · have e : ¬ y ≤ (40 : Int32) := e
          have e : ¬ q_kw w v 5 ≤ 41 := by
            rw [Int32.le_iff_toInt_le, hye] at e
            have : (40 : Int32).toInt = 40 := rfl
            omega
          have hko : q_ko w v = false := by
            unfold q_ko
            rw [decide_eq_false e, Bool.and_false]
          rw [hko] at hfin
          repeat (refine q_wst rfl rfl rfl ?_)
          exact q_wrt rfl rfl rfl hfin
    | succ j ih =>
      intro k x s y z m hk hx hs hy hz hm hp
      subst hz
      have hk5 : 5 - k = j + 1 := by omega
      have b1 := q_kr_le w v k
      have b2 := q_kw_le w v k
      obtain ⟨w1, w2, w3⟩ := hw (j + 1) (by omega) (by omega)
      have e3 : m 98 (j + 1) = nI (w (j + 1)) := by rw [hm 98 (by decide)]; exact w1
      have hn : q_kn w v k = min 9 (q_kr w v k / w (j + 1)) := by unfold q_kn; rw [hk5]
      have hml := q_kmul w v k
      rw [hk5] at hml
      iterate 3 (refine q_wst rfl rfl rfl ?_)
      refine q_wif (fun c => absurd c (by show ¬ nI (j + 1) < nI 1; exact nI_nlt (by omega) (by omega))) (fun _ => ?_)
      iterate 8 (refine q_wst rfl rfl rfl ?_)
      refine q_wrd (j + 1) rfl (by omega) rfl (q_at98 b) (by decide) ?_
      refine q_wdv rfl (by show ¬ m 98 (j + 1) = 0; rw [e3]; exact nI_ne0 w2 (by omega)) ?_
      have eq9 : (if x / m 98 (j + 1) < 9 then x / m 98 (j + 1) else 9) = nI (q_kn w v k) := by
        rw [e3, hx, pk_div (by omega) w2 (by omega), q_min9 (Nat.lt_of_le_of_lt (Nat.div_le_self _ _) (by omega)), hn]
      iterate 1 (refine q_wst rfl rfl rfl ?_)
      refine q_wwr (j + 1) rfl (by omega) rfl (q_at117 b) (by decide) ?_
      iterate 4 (refine q_wst rfl rfl rfl ?_)
      refine q_wrd (j + 1) rfl (by omega) rfl (q_at117 b) (by decide) ?_
      iterate 3 (refine q_wst rfl rfl rfl ?_)
      refine q_wrd (j + 1) rfl (by omega) rfl (q_at98 b) (by decide) ?_
      iterate 7 (refine q_wst rfl rfl rfl ?_)
      refine q_wrd (j + 1) rfl (by omega) rfl (q_at117 b) (by decide) ?_
      iterate 6 (refine q_wst rfl rfl rfl ?_)
      refine q_wrd (j + 1) rfl (by omega) rfl (q_at117 b) (by decide) ?_
      iterate 8 (refine q_wst rfl rfl rfl ?_)
      have e4 : q_up m 117 (j + 1) (if x / m 98 (j + 1) < 9 then x / m 98 (j + 1) else 9) 117 (j + 1) = nI (q_kn w v k) := by rw [q_up_eq, pk_us, eq9]
      refine ih (k + 1) _ _ _ _ _ (by omega) ?_ ?_ ?_ (pk_m1 j) (fun c hc => ?_) (fun i h1 h2 => ?_)
      · show x - q_up m 117 (j + 1) (if x / m 98 (j + 1) < 9 then x / m 98 (j + 1) else 9) 117 (j + 1) * m 98 (j + 1) = nI (q_kr w v k - min 9 (q_kr w v k / w (5 - k)) * w (5 - k))
        rw [e4, e3, hx, pk_mul, pk_sub hml, hk5, ← hn]
      · show s + q_up m 117 (j + 1) (if x / m 98 (j + 1) < 9 then x / m 98 (j + 1) else 9) 117 (j + 1) = nI (q_ks w v k + q_kn w v k)
        rw [e4, hs, nI_add]
      · show y + q_up m 117 (j + 1) (if x / m 98 (j + 1) < 9 then x / m 98 (j + 1) else 9) 117 (j + 1) * (nI (j + 1) + 1) = nI (q_kw w v k + q_kn w v k * (5 - k + 1)) - 1
        rw [e4, hy, nI_1, pk_mul, hk5, ← nI_add]
        rw [Int32.sub_eq_add_neg, Int32.sub_eq_add_neg, Int32.add_assoc, Int32.add_comm (-1), ← Int32.add_assoc]
      · show q_up m 117 _ _ c = m0 c
        rw [q_up_ne hc]
        exact hm c hc
      · show q_up m 117 (j + 1) (if x / m 98 (j + 1) < 9 then x / m 98 (j + 1) else 9) 117 i = _
        rw [q_up_eq, eq9]
        by_cases e : i = j + 1
        · rw [e, pk_us, show 5 - (j + 1) = k by omega]
        · rw [pk_un e]
          exact hp i (by omega) h2
  unfold q_Wm
  iterate 8 (refine q_wst rfl rfl rfl ?_)
  exact loop 5 0 _ _ _ _ m0 rfl rfl rfl rfl rfl (fun _ _ => rfl) (fun i h1 h2 => absurd h1 (by omega))
theorem q_R_w {P : Nat} {w : Nat → Nat} {b : Bool} {m : q_M} (h : q_R0 P w b m) : ∀ i, 1 ≤ i → i ≤ 5 → m 3 i = nI (w i) ∧ m 98 i = nI (w i) ∧ 0 < w i ∧ w i ≤ 100000 := by
  obtain ⟨e, h0, hs, h5, -⟩ := h.2.2.2.2.2.1
  intro i h1 h2
  refine ⟨(e i h2).1, (e i h2).2, ?_, q_okm h0 hs h5 i h2⟩
  have a0 := hs (i - 1) (by omega)
  rw [show i - 1 + 1 = i by omega] at a0
  omega
theorem ob_composed (a1 : Int32) : q_Ob q_RR 70 134 [a1] := by
  intro b m hR
  obtain ⟨P, w, hR0, h13⟩ := id hR
  have hw := q_R_w hR0
  unfold q_Wm
  repeat (refine q_wst rfl rfl rfl ?_)
  refine q_wcl rfl rfl rfl ?_
  refine t_within _ _ _ _ _ _ (fun c1 c2 => ?_) (fun c1 => ?_)
  · have c1 : (1 : Int32) ≤ a1 := c1
    obtain ⟨v, hv, e⟩ := nI_of2 (M := 100000000) (n := 100000000) rfl (Int32.not_lt.mpr (Int32.le_trans (by decide) c1)) c2
    subst e
    have S4 : ∀ m1 : q_M, (∀ c, c ≠ 4 → m1 c = m c) → q_same m m1 := fun m1 h => ⟨fun c hc => h c (fun z => by rw [z] at hc; cases hc), fun i _ => by rw [h 97 (by decide)], by rw [h 126 (by decide)]⟩
    have S7 : ∀ m1 m2 : q_M, (∀ c, c ≠ 117 → m2 c = m1 c) → q_same m1 m2 := fun m1 m2 h => ⟨fun c hc => h c (fun z => by rw [z] at hc; cases hc), fun i _ => by rw [h 97 (by decide)], by rw [h 126 (by decide)]⟩
    repeat (refine q_wst rfl rfl rfl ?_)
    refine q_wcl rfl rfl rfl ?_
    refine t_compose _ b m w v hv (fun i h1 h2 => ⟨(hw i h1 h2).1, (hw i h1 h2).2.2⟩) _ (fun m1 hm1 hp1 => ?_)
    by_cases ko : q_ko w v = true
    · rw [if_pos ko]
      repeat (refine q_wst rfl rfl rfl ?_)
      refine q_wcl rfl rfl rfl ?_
      have cuts : ∀ Q : Option Int32 → q_H → Prop, Q (some (nI (q_ks w v 5))) (q_hp b m1) → q_Wm 98 22 [vr 2] (q_hp b m1) Q := by
        intro Q hQ
        unfold q_Wm
        repeat (refine q_wst rfl rfl rfl ?_)
        refine q_wrt rfl rfl rfl ?_
        show Q (some (0 + m1 4 1 + m1 4 2 + m1 4 3 + m1 4 4 + m1 4 5)) (q_hp b m1)
        rw [hp1 1 (by decide) (by decide), hp1 2 (by decide) (by decide), hp1 3 (by decide) (by decide), hp1 4 (by decide) (by decide), hp1 5 (by decide) (by decide), Int32.zero_add, nI_add, nI_add, nI_add, nI_add]
        have e : q_kn w v (5 - 1) + q_kn w v (5 - 2) + q_kn w v (5 - 3) + q_kn w v (5 - 4) + q_kn w v (5 - 5) = q_ks w v 5 := by
          show q_kn w v 4 + q_kn w v 3 + q_kn w v 2 + q_kn w v 1 + q_kn w v 0 = 0 + q_kn w v 0 + q_kn w v 1 + q_kn w v 2 + q_kn w v 3 + q_kn w v 4
          omega
        rw [e]
        exact hQ
      refine cuts _ ?_
      refine q_wrt rfl rfl rfl ⟨_, rfl, b, _, rfl, ?_⟩
      unfold q_Wm
      repeat (refine q_wst rfl rfl rfl ?_)
      refine q_wcl rfl rfl rfl ?_
      refine t_mwithin _ _ _ _ _ _ (fun _ _ => ?_) (fun q => absurd ⟨c1, c2⟩ q)
      repeat (refine q_wst rfl rfl rfl ?_)
      refine q_wcl rfl rfl rfl ?_
      refine t_mcompose _ b m1 w v hv (fun i h1 h2 => by rw [hm1 98 (by decide)]; exact (hw i h1 h2).2) _ (fun m2 hm2 hp2 => ?_)
      rw [if_pos ko]
      have hks : q_ks w v 5 ≤ 45 := by
        show 0 + q_kn w v 0 + q_kn w v 1 + q_kn w v 2 + q_kn w v 3 + q_kn w v 4 ≤ 45
        have : ∀ k, q_kn w v k ≤ 9 := fun k => Nat.min_le_left _ _
        have h0 := this 0
        have h1 := this 1
        have h2 := this 2
        have h3 := this 3
        have h4 := this 4
        omega
      repeat (refine q_wst rfl rfl rfl ?_)
      refine q_wif (fun _ => ?_) (fun z => absurd (nI_pos' (by omega)) z)
      repeat (refine q_wst rfl rfl rfl ?_)
      exact q_wrt rfl rfl rfl ⟨rfl, b, _, rfl, q_RR_same (q_same_tr (S4 m1 hm1) (S7 m1 m2 hm2)) hR⟩
    · rw [if_neg ko]
      repeat (refine q_wst rfl rfl rfl ?_)
      refine q_cf 3 rfl (by decide) rfl rfl rfl ⟨_, rfl, b, _, rfl, ?_⟩
      unfold q_Wm
      repeat (refine q_wst rfl rfl rfl ?_)
      refine q_wcl rfl rfl rfl ?_
      refine t_mwithin _ _ _ _ _ _ (fun _ _ => ?_) (fun q => absurd ⟨c1, c2⟩ q)
      repeat (refine q_wst rfl rfl rfl ?_)
      refine q_wcl rfl rfl rfl ?_
      refine t_mcompose _ b _ w v hv (fun i h1 h2 => by show m1 98 i = _ ∧ _; rw [hm1 98 (by decide)]; exact (hw i h1 h2).2) _ (fun m2 hm2 hp2 => ?_)
      rw [if_neg ko]
      repeat (refine q_wst rfl rfl rfl ?_)
      refine q_wcl rfl rfl rfl ?_
      refine t_mfinding _ b _ 3 _ (by decide) (by rfl) _ ?_
      repeat (refine q_wst rfl rfl rfl ?_)
      exact q_wrt rfl rfl rfl ⟨rfl, b, _, rfl, q_RR_fnd (q_RR_same (S4 m1 hm1) hR) (S7 _ m2 hm2)⟩
  · repeat (refine q_wst rfl rfl rfl ?_)
    refine q_cf 1 rfl (by decide) rfl rfl rfl ⟨_, rfl, b, _, rfl, ?_⟩
    unfold q_Wm
    repeat (refine q_wst rfl rfl rfl ?_)
    refine q_wcl rfl rfl rfl ?_
    refine t_mwithin _ _ _ _ _ _ (fun x y => absurd ⟨x, y⟩ c1) (fun _ => ?_)
    repeat (refine q_wst rfl rfl rfl ?_)
    exact q_mf 1 rfl (by decide) rfl rfl rfl ⟨rfl, b, _, rfl, q_RR_fnd hR (q_same_rf _)⟩
/-- the counters behind k columns, and what went up -/
def p_rc (w : Nat → Nat) (c : Nat → Int32) : Nat → (Nat → Int32) × Int32
  | 0 => (c, 0)
  | k + 1 => if w (k + 2) % w (k + 1) = 0 then
      (upd (upd (p_rc w c k).1 (k + 1) ((p_rc w c k).1 (k + 1) - (p_rc w c k).1 (k + 1) / nI (w (k + 2) / w (k + 1)) * nI (w (k + 2) / w (k + 1)))) (k + 2) ((p_rc w c k).1 (k + 2) + (p_rc w c k).1 (k + 1) / nI (w (k + 2) / w (k + 1))), (p_rc w c k).2 + (p_rc w c k).1 (k + 1) / nI (w (k + 2) / w (k + 1)))
    else p_rc w c k
theorem p_rc_p {w : Nat → Nat} {c : Nat → Int32} {k : Nat} (h : w (k + 2) % w (k + 1) = 0) : p_rc w c (k + 1) = (upd (upd (p_rc w c k).1 (k + 1) ((p_rc w c k).1 (k + 1) - (p_rc w c k).1 (k + 1) / nI (w (k + 2) / w (k + 1)) * nI (w (k + 2) / w (k + 1)))) (k + 2) ((p_rc w c k).1 (k + 2) + (p_rc w c k).1 (k + 1) / nI (w (k + 2) / w (k + 1))), (p_rc w c k).2 + (p_rc w c k).1 (k + 1) / nI (w (k + 2) / w (k + 1))) := by
  show (if w (k + 2) % w (k + 1) = 0 then _ else _) = _
  rw [if_pos h]
theorem p_rc_n {w : Nat → Nat} {c : Nat → Int32} {k : Nat} (h : ¬ w (k + 2) % w (k + 1) = 0) : p_rc w c (k + 1) = p_rc w c k := by
  show (if w (k + 2) % w (k + 1) = 0 then _ else _) = _
  rw [if_neg h]
theorem p_rc_eq {w : Nat → Nat} {c e : Nat → Int32} (h : ∀ i, 1 ≤ i → i ≤ 5 → c i = e i) : ∀ k, k ≤ 4 → (p_rc w c k).2 = (p_rc w e k).2 ∧ ∀ i, 1 ≤ i → i ≤ 5 → (p_rc w c k).1 i = (p_rc w e k).1 i
  | 0, _ => ⟨rfl, h⟩
  | k + 1, hk => by
    obtain ⟨i1, i2⟩ := p_rc_eq h k (by omega)
    by_cases z : w (k + 2) % w (k + 1) = 0
    · rw [p_rc_p z, p_rc_p z]
      try dsimp only
      rw [i1, i2 (k + 1) (by omega) (by omega), i2 (k + 2) (by omega) (by omega)]
      refine ⟨rfl, fun i h1 h2 => ?_⟩
      unfold upd
      by_cases e1 : i = k + 2
      · rw [if_pos e1, if_pos e1]
      · rw [if_neg e1, if_neg e1]
        by_cases e2 : i = k + 1
        · rw [if_pos e2, if_pos e2]
        · rw [if_neg e2, if_neg e2]
          exact i2 i h1 h2
    · rw [p_rc_n z, p_rc_n z]
      exact ⟨i1, i2⟩
theorem q_dvm {x y : Nat} : x / y * y = x ↔ x % y = 0 := by
  have := Nat.div_add_mod x y
  rw [Nat.mul_comm] at this
  constructor <;> intro h <;> omega
theorem t_reduceBy (d : Nat) (b : Bool) (m0 : q_M) (w : Nat → Nat) (hw : ∀ i, 1 ≤ i → i ≤ 5 → m0 3 i = nI (w i) ∧ 0 < w i ∧ w i ≤ 100000) (hs : ∀ i, 1 ≤ i → i ≤ 4 → w i ≤ w (i + 1)) (Q : Option Int32 → q_H → Prop) (hQ : ∀ m, (∀ c, c ≠ 34 → m c = m0 c) → m 34 = (p_rc w (m0 34) 4).1 → Q (some (p_rc w (m0 34) 4).2) (q_hp b m)) : q_Wm (d + 1) 4 [vr 33, vr 3] (q_hp b m0) Q := by
  have loop : ∀ (r k : Nat) (x y : Int32) (o1 o2 : Option q_V) (m : q_M), k + r = 4 → y = nI (k + 1) → x = (p_rc w (m0 34) k).2 → (∀ c, c ≠ 34 → m c = m0 c) → m 34 = (p_rc w (m0 34) k).1 → q_WP none (d + 1) 4 4 [some (vr 33), some (vr 3), some (vi x), some (vi y), o1, o2] [] (q_hp b m) Q := by
    intro r
    induction r with
    | zero =>
      intro k x y o1 o2 m hk hy hx hm hc
      subst hy
      have hk : k = 4 := by omega
      subst hk
      repeat (refine q_wst rfl rfl rfl ?_)
      refine q_wrt rfl rfl rfl ?_
      rw [hx]
      exact hQ m hm hc
    | succ r ih =>
      intro k x y o1 o2 m hk hy hx hm hc
      subst hy
      have hk4 : k < 4 := by omega
      obtain ⟨w1, w2, w3⟩ := hw (k + 1) (by omega) (by omega)
      obtain ⟨v1, v2, v3⟩ := hw (k + 2) (by omega) (by omega)
      have hsk := hs (k + 1) (by omega) (by omega)
      have e1 : m 3 (k + 1) = nI (w (k + 1)) := by rw [hm 3 (by decide)]; exact w1
      have e2 : m 3 (k + 2) = nI (w (k + 2)) := by rw [hm 3 (by decide)]; exact v1
      have hq : m 3 (k + 2) / m 3 (k + 1) = nI (w (k + 2) / w (k + 1)) := by rw [e1, e2, pk_div (by omega) w2 (by omega)]
      have hq0 : 0 < w (k + 2) / w (k + 1) := Nat.div_pos hsk w2
      have hq1 : w (k + 2) / w (k + 1) ≤ 100000 := Nat.le_trans (Nat.div_le_self _ _) v3
      have hmul : w (k + 2) / w (k + 1) * w (k + 1) ≤ 100000 := Nat.le_trans (Nat.div_mul_le_self _ _) v3
      iterate 3 (refine q_wst rfl rfl rfl ?_)
      refine q_wif (fun c => absurd c (by show ¬ nI 5 ≤ nI (k + 1); exact nI_ge (by omega) (by omega))) (fun _ => ?_)
      iterate 4 (refine q_wst rfl rfl rfl ?_)
      refine q_wrd (k + 2) (nI_1 (k + 1)) (by omega) rfl (q_at3 b) (by decide) ?_
      iterate 2 (refine q_wst rfl rfl rfl ?_)
      refine q_wrd (k + 1) rfl (by omega) rfl (q_at3 b) (by decide) ?_
      refine q_wcl rfl rfl rfl ?_
      refine t_quot _ _ _ _ _ (by show 0 < m 3 (k + 1); rw [e1]; exact nI_lt (a := 0) w2 (by omega)) ?_
      show q_WP none (d + 1) 4 20 [some (vr 33), some (vr 3), some (vi x), some (vi (nI (k + 1))), o1, o2] [vi (m 3 (k + 2) / m 3 (k + 1))] (q_hp b m) Q
      rw [hq]
      iterate 4 (refine q_wst rfl rfl rfl ?_)
      refine q_wrd (k + 1) rfl (by omega) rfl (q_at3 b) (by decide) ?_
      iterate 5 (refine q_wst rfl rfl rfl ?_)
      refine q_wrd (k + 2) (nI_1 (k + 1)) (by omega) rfl (q_at3 b) (by decide) ?_
      iterate 1 (refine q_wst rfl rfl rfl ?_)
      refine q_wif (fun c => ?_) (fun c => ?_)
      · have c : ¬ nI (w (k + 2) / w (k + 1)) * m 3 (k + 1) = m 3 (k + 2) := c
        rw [e1, e2, pk_mul] at c
        have c : ¬ w (k + 2) % w (k + 1) = 0 := fun z => c (congrArg nI (q_dvm.mpr z))
        iterate 2 (refine q_wst rfl rfl rfl ?_)
        refine ih (k + 1) _ _ _ _ m (by omega) (nI_1 (k + 1)) ?_ hm ?_
        · rw [p_rc_n c]; exact hx
        · rw [p_rc_n c]; exact hc
      · have c : ¬ ¬ nI (w (k + 2) / w (k + 1)) * m 3 (k + 1) = m 3 (k + 2) := c
        rw [e1, e2, pk_mul] at c
        have c : w (k + 2) % w (k + 1) = 0 := q_dvm.mp (q_nIle (by omega) (by omega) (Decidable.not_not.mp c))
        iterate 3 (refine q_wst rfl rfl rfl ?_)
        refine q_wrd (k + 1) rfl (by omega) rfl (q_at34 b) (by decide) ?_
        iterate 1 (refine q_wst rfl rfl rfl ?_)
        refine q_wcl rfl rfl rfl ?_
        refine t_quot _ _ _ _ _ (nI_lt (a := 0) hq0 (by omega)) ?_
        iterate 5 (refine q_wst rfl rfl rfl ?_)
        refine q_wrd (k + 1) rfl (by omega) rfl (q_at34 b) (by decide) ?_
        iterate 4 (refine q_wst rfl rfl rfl ?_)
        refine q_wwr (k + 1) rfl (by omega) rfl (q_at34 b) (by decide) ?_
        iterate 6 (refine q_wst rfl rfl rfl ?_)
        refine q_wrd (k + 2) (nI_1 (k + 1)) (by omega) rfl (q_at34 b) (by decide) ?_
        iterate 2 (refine q_wst rfl rfl rfl ?_)
        refine q_wwr (k + 2) (nI_1 (k + 1)) (by omega) rfl (q_at34 b) (by decide) ?_
        iterate 6 (refine q_wst rfl rfl rfl ?_)
        refine ih (k + 1) _ _ _ _ _ (by omega) (nI_1 (k + 1)) ?_ (fun c hc => ?_) ?_
        · rw [p_rc_p c]
          show x + m 34 (k + 1) / nI (w (k + 2) / w (k + 1)) = _
          rw [hx, hc]
        · show q_up (q_up m 34 _ _) 34 _ _ c = m0 c
          rw [q_up_ne hc, q_up_ne hc]
          exact hm c hc
        · rw [p_rc_p c]
          show q_up (q_up m 34 (k + 1) (m 34 (k + 1) - m 34 (k + 1) / nI (w (k + 2) / w (k + 1)) * nI (w (k + 2) / w (k + 1)))) 34 (k + 2) (q_up m 34 (k + 1) (m 34 (k + 1) - m 34 (k + 1) / nI (w (k + 2) / w (k + 1)) * nI (w (k + 2) / w (k + 1))) 34 (k + 2) + m 34 (k + 1) / nI (w (k + 2) / w (k + 1))) 34 = _
          rw [q_up_eq, q_up_eq, pk_un (show k + 2 ≠ k + 1 by omega), hc]
  unfold q_Wm
  iterate 4 (refine q_wst rfl rfl rfl ?_)
  exact loop 4 0 _ _ _ _ m0 rfl rfl rfl (fun _ _ => rfl) rfl
theorem t_mreduce (d : Nat) (b : Bool) (m0 : q_M) (w : Nat → Nat) (hw : ∀ i, 1 ≤ i → i ≤ 5 → m0 98 i = nI (w i) ∧ 0 < w i ∧ w i ≤ 100000) (hs : ∀ i, 1 ≤ i → i ≤ 4 → w i ≤ w (i + 1)) (Q : Option Int32 → q_H → Prop) (hQ : ∀ m, (∀ c, c ≠ 99 → m c = m0 c) → m 99 = (p_rc w (m0 99) 4).1 → Q (some (p_rc w (m0 99) 4).2) (q_hp b m)) : q_Wm d 172 [vr 97] (q_hp b m0) Q := by
  have loop : ∀ (r k : Nat) (x y : Int32) (o1 : Option q_V) (m : q_M), k + r = 4 → y = nI (k + 1) → x = (p_rc w (m0 99) k).2 → (∀ c, c ≠ 99 → m c = m0 c) → m 99 = (p_rc w (m0 99) k).1 → q_WP none d 172 4 [some (vr 97), some (vi x), some (vi y), o1] [] (q_hp b m) Q := by
    intro r
    induction r with
    | zero =>
      intro k x y o1 m hk hy hx hm hc
      subst hy
      have hk : k = 4 := by omega
      subst hk
      repeat (refine q_wst rfl rfl rfl ?_)
      refine q_wrt rfl rfl rfl ?_
      rw [hx]
      exact hQ m hm hc
    | succ r ih =>
      intro k x y o1 m hk hy hx hm hc
      subst hy
      have hk4 : k < 4 := by omega
      obtain ⟨w1, w2, w3⟩ := hw (k + 1) (by omega) (by omega)
      obtain ⟨v1, v2, v3⟩ := hw (k + 2) (by omega) (by omega)
      have hsk := hs (k + 1) (by omega) (by omega)
      have e1 : m 98 (k + 1) = nI (w (k + 1)) := by rw [hm 98 (by decide)]; exact w1
      have e2 : m 98 (k + 2) = nI (w (k + 2)) := by rw [hm 98 (by decide)]; exact v1
      have hq : m 98 (k + 2) / m 98 (k + 1) = nI (w (k + 2) / w (k + 1)) := by rw [e1, e2, pk_div (by omega) w2 (by omega)]
      have hr : m 98 (k + 2) - m 98 (k + 2) / m 98 (k + 1) * m 98 (k + 1) = nI (w (k + 2) % w (k + 1)) := by rw [e1, e2, pk_rem (by omega) w2 (by omega)]
      have hq0 : 0 < w (k + 2) / w (k + 1) := Nat.div_pos hsk w2
      have hq1 : w (k + 2) / w (k + 1) ≤ 100000 := Nat.le_trans (Nat.div_le_self _ _) v3
      have hrl : w (k + 2) % w (k + 1) < w (k + 1) := Nat.mod_lt _ w2
      have hn0 : ¬ m 98 (k + 1) = 0 := by rw [e1]; exact nI_ne0 w2 (by omega)
      have hn1 : ¬ nI (w (k + 2) / w (k + 1)) = 0 := nI_ne0 hq0 (by omega)
      iterate 3 (refine q_wst rfl rfl rfl ?_)
      refine q_wif (fun c => absurd c (by show ¬ nI 5 ≤ nI (k + 1); exact nI_ge (by omega) (by omega))) (fun _ => ?_)
      iterate 5 (refine q_wst rfl rfl rfl ?_)
      refine q_wrd (k + 2) (nI_1 (k + 1)) (by omega) rfl (q_at98 b) (by decide) ?_
      iterate 3 (refine q_wst rfl rfl rfl ?_)
      refine q_wrd (k + 1) rfl (by omega) rfl (q_at98 b) (by decide) ?_
      refine q_wrm rfl hn0 ?_
      iterate 1 (refine q_wst rfl rfl rfl ?_)
      refine q_wif (fun c => ?_) (fun c => ?_)
      · have c : ¬ m 98 (k + 2) - m 98 (k + 2) / m 98 (k + 1) * m 98 (k + 1) = 0 := c
        rw [hr] at c
        have c : ¬ w (k + 2) % w (k + 1) = 0 := fun z => c (congrArg nI z)
        iterate 2 (refine q_wst rfl rfl rfl ?_)
        refine ih (k + 1) _ _ _ m (by omega) (nI_1 (k + 1)) ?_ hm ?_
        · rw [p_rc_n c]; exact hx
        · rw [p_rc_n c]; exact hc
      · have c : ¬ ¬ m 98 (k + 2) - m 98 (k + 2) / m 98 (k + 1) * m 98 (k + 1) = 0 := c
        rw [hr] at c
        have c : w (k + 2) % w (k + 1) = 0 := q_nIle (b := 0) (by omega) (by omega) (Decidable.not_not.mp c)
        iterate 5 (refine q_wst rfl rfl rfl ?_)
        refine q_wrd (k + 2) (nI_1 (k + 1)) (by omega) rfl (q_at98 b) (by decide) ?_
        iterate 3 (refine q_wst rfl rfl rfl ?_)
        refine q_wrd (k + 1) rfl (by omega) rfl (q_at98 b) (by decide) ?_
        refine q_wdv rfl hn0 ?_
        show q_WP none d 172 42 [some (vr 97), some (vi x), some (vi (nI (k + 1))), o1] [vi (m 98 (k + 2) / m 98 (k + 1))] (q_hp b m) Q
        rw [hq]
        iterate 5 (refine q_wst rfl rfl rfl ?_)
        refine q_wrd (k + 1) rfl (by omega) rfl (q_at99 b) (by decide) ?_
        iterate 1 (refine q_wst rfl rfl rfl ?_)
        refine q_wdv rfl hn1 ?_
        iterate 8 (refine q_wst rfl rfl rfl ?_)
        refine q_wrd (k + 2) (nI_1 (k + 1)) (by omega) rfl (q_at99 b) (by decide) ?_
        iterate 3 (refine q_wst rfl rfl rfl ?_)
        refine q_wrd (k + 1) rfl (by omega) rfl (q_at99 b) (by decide) ?_
        iterate 1 (refine q_wst rfl rfl rfl ?_)
        refine q_wdv rfl hn1 ?_
        iterate 1 (refine q_wst rfl rfl rfl ?_)
        refine q_wwr (k + 2) (nI_1 (k + 1)) (by omega) rfl (q_at99 b) (by decide) ?_
        iterate 4 (refine q_wst rfl rfl rfl ?_)
        refine q_wrd (k + 1) rfl (by omega) rfl (q_at99 b) (by decide) ?_
        iterate 1 (refine q_wst rfl rfl rfl ?_)
        refine q_wrm rfl hn1 ?_
        refine q_wwr (k + 1) rfl (by omega) rfl (q_at99 b) (by decide) ?_
        iterate 2 (refine q_wst rfl rfl rfl ?_)
        refine ih (k + 1) _ _ _ _ (by omega) (nI_1 (k + 1)) ?_ (fun c hc => ?_) ?_
        · rw [p_rc_p c]
          show x + m 99 (k + 1) / nI (w (k + 2) / w (k + 1)) = _
          rw [hx, hc]
        · show q_up (q_up m 99 _ _) 99 _ _ c = m0 c
          rw [q_up_ne hc, q_up_ne hc]
          exact hm c hc
        · rw [p_rc_p c]
          have e9 : q_up m 99 (k + 2) (m 99 (k + 2) + m 99 (k + 1) / nI (w (k + 2) / w (k + 1))) 99 (k + 1) = m 99 (k + 1) := by rw [q_up_eq, pk_un (by omega)]
          show q_up (q_up m 99 (k + 2) (m 99 (k + 2) + m 99 (k + 1) / nI (w (k + 2) / w (k + 1)))) 99 (k + 1) (q_up m 99 (k + 2) (m 99 (k + 2) + m 99 (k + 1) / nI (w (k + 2) / w (k + 1))) 99 (k + 1) - q_up m 99 (k + 2) (m 99 (k + 2) + m 99 (k + 1) / nI (w (k + 2) / w (k + 1))) 99 (k + 1) / nI (w (k + 2) / w (k + 1)) * nI (w (k + 2) / w (k + 1))) 99 = _
          rw [e9, q_up_eq, q_up_eq, hc]
          funext j
          unfold upd
          try dsimp only
          by_cases g1 : j = k + 1
          · rw [if_pos g1, if_neg (by omega), if_pos g1]
          · rw [if_neg g1]
            by_cases g2 : j = k + 2
            · rw [if_pos g2, if_pos g2]
            · rw [if_neg g2, if_neg g2, if_neg g1]
  unfold q_Wm
  iterate 4 (refine q_wst rfl rfl rfl ?_)
  exact loop 4 0 _ _ _ m0 rfl rfl rfl (fun _ _ => rfl) rfl
/-- the counters change on both sides -/
theorem q_RR_ct {P : Nat} {w : Nat → Nat} {b : Bool} {m m' : q_M} (hR : q_R0 P w b m) (h13 : q_r13 m) (A : ∀ c, q_mc c = true → c ≠ 34 → c ≠ 99 → m' c = m c) (h7 : ∀ i, q_ms i = true → m' 97 i = m 97 i) (h6 : m' 126 0 = m 126 0) (e : ∀ i, 1 ≤ i → i ≤ 5 → m' 34 i = m' 99 i) : q_RR b m' := by
  obtain ⟨r1, r2, r3, r4, r5, r6, r7, r8, r9, r10, r11, r12, r14⟩ := hR
  refine ⟨P, w, ⟨?_, ?_, ?_, ?_, ?_, ?_, e, ?_, ?_, ?_, ?_, ?_, ?_⟩, ?_⟩
  · unfold q_r1; rw [A 0 rfl (by decide) (by decide), h7 4 rfl]; exact r1
  · unfold q_r2; rw [A 0 rfl (by decide) (by decide), h7 3 rfl]; exact r2
  · unfold q_r3; rw [A 0 rfl (by decide) (by decide), h7 0 rfl]; exact r3
  · unfold q_r4; rw [A 0 rfl (by decide) (by decide), A 35 rfl (by decide) (by decide), A 113 rfl (by decide) (by decide), h7 19 rfl]; exact r4
  · unfold q_r5; rw [A 13 rfl (by decide) (by decide), A 14 rfl (by decide) (by decide), A 15 rfl (by decide) (by decide), A 16 rfl (by decide) (by decide), A 17 rfl (by decide) (by decide), A 108 rfl (by decide) (by decide), A 109 rfl (by decide) (by decide), A 110 rfl (by decide) (by decide), A 111 rfl (by decide) (by decide), h7 13 rfl]; exact r5
  · unfold q_r6; rw [A 3 rfl (by decide) (by decide), A 98 rfl (by decide) (by decide)]; exact r6
  · refine q_r8_ag (fun c hc => A c ?_ (by omega) (by omega)) r8
    unfold q_mc
    simp only [Bool.or_eq_true, Bool.and_eq_true, decide_eq_true_eq]
    omega
  · unfold q_r9; rw [A 100 rfl (by decide) (by decide), A 101 rfl (by decide) (by decide), A 103 rfl (by decide) (by decide), A 104 rfl (by decide) (by decide), A 105 rfl (by decide) (by decide), A 106 rfl (by decide) (by decide)]; exact r9
  · unfold q_r10; rw [A 105 rfl (by decide) (by decide), A 106 rfl (by decide) (by decide)]; exact r10
  · unfold q_r11; rw [A 101 rfl (by decide) (by decide), A 107 rfl (by decide) (by decide)]; exact r11
  · unfold q_r12; rw [A 32 rfl (by decide) (by decide), A 112 rfl (by decide) (by decide)]; exact r12
  · unfold q_r14; rw [A 33 rfl (by decide) (by decide), A 127 rfl (by decide) (by decide), h6]; exact r14
  · unfold q_r13; rw [A 36 rfl (by decide) (by decide), A 114 rfl (by decide) (by decide)]; exact h13
theorem ob_reduce (_ : Unit) : q_Ob q_RR 102 172 [] := by
  intro b m hR
  obtain ⟨P, w, hR0, h13⟩ := id hR
  have hw := q_R_w hR0
  have hs : ∀ i, 1 ≤ i → i ≤ 4 → w i ≤ w (i + 1) := fun i h1 h2 => Nat.le_of_lt (hR0.2.2.2.2.2.1.2.2.1 i (by omega))
  unfold q_Wm
  repeat (refine q_wst rfl rfl rfl ?_)
  refine q_wcl rfl rfl rfl ?_
  refine t_reduceBy _ b m w (fun i h1 h2 => ⟨(hw i h1 h2).1, (hw i h1 h2).2.2⟩) hs _ (fun m1 hm1 hc1 => ?_)
  refine q_wrt rfl rfl rfl ⟨_, rfl, b, _, rfl, ?_⟩
  refine t_mreduce _ b m1 w (fun i h1 h2 => by rw [hm1 98 (by decide)]; exact (hw i h1 h2).2) hs _ (fun m2 hm2 hc2 => ?_)
  rw [hm1 99 (by decide)] at hc2 ⊢
  obtain ⟨q1, q2⟩ := p_rc_eq (w := w) (c := m 34) (e := m 99) hR0.2.2.2.2.2.2.1 4 (by decide)
  refine ⟨congrArg some q1.symm, b, _, rfl, ?_⟩
  refine q_RR_ct hR0 h13 (fun c h1 h2 h3 => by rw [hm2 c h3, hm1 c h2]) (fun i _ => by rw [hm2 97 (by decide), hm1 97 (by decide)]) (by rw [hm2 126 (by decide), hm1 126 (by decide)]) (fun i h1 h2 => ?_)
  rw [hm2 34 (by decide), hc1, hc2]
  exact q2 i h1 h2
