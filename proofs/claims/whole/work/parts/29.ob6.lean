/-! obligations: passing, holder, measure -/
theorem q_prn {x : Int32} {P : Nat} (hP : P ≤ 1000) : (0 ≤ x ∧ x ≤ nI P - 1) ↔ ∃ p, p < P ∧ x = nI p := by
  have hs : (nI P - 1).toInt = (P : Int) - 1 := pk_sub_toInt (a := P) (b := 1) (by omega) (by omega)
  constructor
  · rintro ⟨h1, h2⟩
    obtain ⟨j, hj, rfl⟩ := nI_of (Int32.not_lt.mpr h1)
    rw [Int32.le_iff_toInt_le, hs, nI_toInt hj] at h2
    exact ⟨j, by omega, rfl⟩
  · rintro ⟨p, hp, rfl⟩
    refine ⟨nI_pos' (by omega), ?_⟩
    rw [Int32.le_iff_toInt_le, hs, nI_toInt (by omega)]
    omega
theorem q_wto {X : q_X} {d k pc : Nat} {pl : q_L} {st : List q_V} {h : q_H} {Q : Option Int32 → q_H → Prop} {df lo hi : Int} {offs : Array Int} {a b9 : Nat} {cc x : Int32} (hc : q_cd k pc = some (.tableswitch df lo hi offs, a, b9, cc)) (ho : x.toInt < lo ∨ hi < x.toInt) (g : q_WP X d k (q_tg pc df) pl st h Q) : q_WP X d k pc pl (.inl x :: st) h Q := by
  refine q_wst hc rfl ?_ g
  show q_tsw df lo hi offs pc pl (.inl x :: st) h = _
  unfold q_tsw
  have e : (decide (x.toInt < lo) || decide (hi < x.toInt)) = true := by simpa using ho
  dsimp only
  rw [e]
  rfl
theorem ob_passing (a1 a2 : Int32) : q_Ob q_RR 82 149 [a1, a2] := by
  intro b m hR
  obtain ⟨P, w, ⟨r1, r2, r3, r4, ⟨G, hG, s1, s2, s3⟩, r6, r7, r8, r9, r10, r11, r12, r14⟩, r13⟩ := id hR
  unfold q_Wm
  repeat (refine q_wst rfl rfl rfl ?_)
  refine q_wcl rfl rfl rfl ?_
  refine t_within _ _ _ _ _ _ (fun c1 c2 => ?_) (fun c1 => ?_)
  · have c2' : a1 ≤ m 13 4 - 1 := c2
    rw [s1] at c2'
    obtain ⟨i, hi, e⟩ := (q_prn (by omega)).mp ⟨c1, c2'⟩
    subst e
    have hi80 : i < 80 := by omega
    obtain ⟨f1, f2, f3, f4⟩ := s3 i hi
    have c3 : nI i ≤ m 97 13 - 1 := by rw [s2]; exact c2'
    by_cases ha : 0 ≤ a2 ∧ a2 ≤ 3
    · obtain ⟨j, hj, e⟩ := nI_of2 (M := 3) (n := 3) rfl (Int32.not_lt.mpr ha.1) ha.2
      subst e
      rcases (by omega : j = 0 ∨ j = 1 ∨ j = 2 ∨ j = 3) with rfl | rfl | rfl | rfl
      · repeat (refine q_wst rfl rfl rfl ?_)
        refine q_wrd i rfl hi80 rfl (q_at14 b) (by decide) ?_
        refine q_wrt rfl rfl rfl ⟨_, rfl, b, _, rfl, ?_⟩
        unfold q_Wm
        repeat (refine q_wst rfl rfl rfl ?_)
        refine q_wcl rfl rfl rfl ?_
        refine t_mwithin _ _ _ _ _ _ (fun _ _ => ?_) (fun q => absurd ⟨c1, c3⟩ q)
        repeat (refine q_wst rfl rfl rfl ?_)
        refine q_wcl rfl rfl rfl ?_
        refine t_mwithin _ _ _ _ _ _ (fun _ _ => ?_) (fun q => absurd ha q)
        repeat (refine q_wst rfl rfl rfl ?_)
        refine q_wrd i rfl hi80 rfl (q_at108 b) (by decide) ?_
        repeat (refine q_wst rfl rfl rfl ?_)
        exact q_wrt rfl rfl rfl ⟨congrArg some f1.symm, b, _, rfl, hR⟩
      · repeat (refine q_wst rfl rfl rfl ?_)
        refine q_wrd i rfl hi80 rfl (q_at15 b) (by decide) ?_
        refine q_wrt rfl rfl rfl ⟨_, rfl, b, _, rfl, ?_⟩
        unfold q_Wm
        repeat (refine q_wst rfl rfl rfl ?_)
        refine q_wcl rfl rfl rfl ?_
        refine t_mwithin _ _ _ _ _ _ (fun _ _ => ?_) (fun q => absurd ⟨c1, c3⟩ q)
        repeat (refine q_wst rfl rfl rfl ?_)
        refine q_wcl rfl rfl rfl ?_
        refine t_mwithin _ _ _ _ _ _ (fun _ _ => ?_) (fun q => absurd ha q)
        repeat (refine q_wst rfl rfl rfl ?_)
        refine q_wrd i rfl hi80 rfl (q_at109 b) (by decide) ?_
        repeat (refine q_wst rfl rfl rfl ?_)
        exact q_wrt rfl rfl rfl ⟨congrArg some f2.symm, b, _, rfl, hR⟩
      · repeat (refine q_wst rfl rfl rfl ?_)
        refine q_wrd i rfl hi80 rfl (q_at16 b) (by decide) ?_
        refine q_wrt rfl rfl rfl ⟨_, rfl, b, _, rfl, ?_⟩
        unfold q_Wm
        repeat (refine q_wst rfl rfl rfl ?_)
        refine q_wcl rfl rfl rfl ?_
        refine t_mwithin _ _ _ _ _ _ (fun _ _ => ?_) (fun q => absurd ⟨c1, c3⟩ q)
        repeat (refine q_wst rfl rfl rfl ?_)
        refine q_wcl rfl rfl rfl ?_
        refine t_mwithin _ _ _ _ _ _ (fun _ _ => ?_) (fun q => absurd ha q)
        repeat (refine q_wst rfl rfl rfl ?_)
        refine q_wrd i rfl hi80 rfl (q_at110 b) (by decide) ?_
        repeat (refine q_wst rfl rfl rfl ?_)
        exact q_wrt rfl rfl rfl ⟨congrArg some f3.symm, b, _, rfl, hR⟩
      · repeat (refine q_wst rfl rfl rfl ?_)
        refine q_wrd i rfl hi80 rfl (q_at17 b) (by decide) ?_
        refine q_wrt rfl rfl rfl ⟨_, rfl, b, _, rfl, ?_⟩
        unfold q_Wm
        repeat (refine q_wst rfl rfl rfl ?_)
        refine q_wcl rfl rfl rfl ?_
        refine t_mwithin _ _ _ _ _ _ (fun _ _ => ?_) (fun q => absurd ⟨c1, c3⟩ q)
        repeat (refine q_wst rfl rfl rfl ?_)
        refine q_wcl rfl rfl rfl ?_
        refine t_mwithin _ _ _ _ _ _ (fun _ _ => ?_) (fun q => absurd ha q)
        repeat (refine q_wst rfl rfl rfl ?_)
        refine q_wrd i rfl hi80 rfl (q_at111 b) (by decide) ?_
        repeat (refine q_wst rfl rfl rfl ?_)
        exact q_wrt rfl rfl rfl ⟨congrArg some f4.symm, b, _, rfl, hR⟩
    · have ho : a2.toInt < 0 ∨ 3 < a2.toInt := by
        rw [Int32.le_iff_toInt_le, Int32.le_iff_toInt_le] at ha
        have e0 : (0 : Int32).toInt = 0 := rfl
        have e3 : (3 : Int32).toInt = 3 := rfl
        omega
      repeat (refine q_wst rfl rfl rfl ?_)
      refine q_wto rfl ho ?_
      repeat (refine q_wst rfl rfl rfl ?_)
      refine q_cf 1 rfl (by decide) rfl rfl rfl ⟨_, rfl, b, _, rfl, ?_⟩
      unfold q_Wm
      repeat (refine q_wst rfl rfl rfl ?_)
      refine q_wcl rfl rfl rfl ?_
      refine t_mwithin _ _ _ _ _ _ (fun _ _ => ?_) (fun q => absurd ⟨c1, c3⟩ q)
      repeat (refine q_wst rfl rfl rfl ?_)
      refine q_wcl rfl rfl rfl ?_
      refine t_mwithin _ _ _ _ _ _ (fun x y => absurd ⟨x, y⟩ ha) (fun _ => ?_)
      repeat (refine q_wst rfl rfl rfl ?_)
      exact q_mf 1 rfl (by decide) rfl rfl rfl ⟨rfl, b, _, rfl, q_RR_fnd hR (q_same_rf _)⟩
  · have c1' : ¬ (0 ≤ a1 ∧ a1 ≤ m 13 4 - 1) := c1
    repeat (refine q_wst rfl rfl rfl ?_)
    refine q_cf 1 rfl (by decide) rfl rfl rfl ⟨_, rfl, b, _, rfl, ?_⟩
    unfold q_Wm
    repeat (refine q_wst rfl rfl rfl ?_)
    refine q_wcl rfl rfl rfl ?_
    refine t_mwithin _ _ _ _ _ _ (fun x y => absurd ⟨x, by have y : a1 ≤ m 97 13 - 1 := y; rw [s1, ← s2]; exact y⟩ c1') (fun _ => ?_)
    repeat (refine q_wst rfl rfl rfl ?_)
    exact q_mf 1 rfl (by decide) rfl rfl rfl ⟨rfl, b, _, rfl, q_RR_fnd hR (q_same_rf _)⟩
/-- who is known to hold it -/
def q_hb (st dy gt : Nat → Int32) (p day : Int32) (f : Int32) : Nat → Int32
  | 0 => f
  | i + 1 => if st i = p ∧ dy i ≤ day then gt i else q_hb st dy gt p day f i
theorem q_hb_eq {s1 d1 g1 s2 d2 g2 : Nat → Int32} {p day f : Int32} : ∀ n, (∀ i, i < n → s1 i = s2 i ∧ d1 i = d2 i ∧ g1 i = g2 i) → q_hb s1 d1 g1 p day f n = q_hb s2 d2 g2 p day f n
  | 0, _ => rfl
  | n + 1, h => by
    unfold q_hb
    obtain ⟨e1, e2, e3⟩ := h n (by omega)
    rw [e1, e2, e3, q_hb_eq n (fun i hi => h i (by omega))]
theorem t_holderBy (d : Nat) (b : Bool) (m : q_M) {G : Nat} (hG : G ≤ 80) (s1 : m 13 4 = nI G) (day p f : Int32) (Q : Option Int32 → q_H → Prop) (hQ : Q (some (q_hb (m 15) (m 14) (m 17) p day f G)) (q_hp b m)) : q_Wm d 32 [vr 13, vi day, vi p, vi f] (q_hp b m) Q := by
  have loop : ∀ (n i : Nat) (x y : Int32), i + n = G → y = nI i → x = q_hb (m 15) (m 14) (m 17) p day f i → q_WP none d 32 6 [some (vr 13), some (vi day), some (vi p), some (vi f), some (vi x), some (vi y)] [] (q_hp b m) Q := by
    intro n
    induction n with
    | zero =>
      intro i x y hi hy hx
      subst hy
      have hi : i = G := by omega
      subst hi
      repeat (refine q_wst rfl rfl rfl ?_)
      refine q_wif (fun _ => ?_) (fun c => absurd (by show m 13 4 ≤ nI i; rw [s1]; exact nI_le (Nat.le_refl _) (by omega)) c)
      repeat (refine q_wst rfl rfl rfl ?_)
      refine q_wrt rfl rfl rfl ?_
      rw [hx]
      exact hQ
    | succ n ih =>
      intro i x y hi hy hx
      subst hy
      have hi80 : i < 80 := by omega
      repeat (refine q_wst rfl rfl rfl ?_)
      refine q_wif (fun c => absurd c (by show ¬ m 13 4 ≤ nI i; rw [s1]; exact nI_ge (by omega) (by omega))) (fun _ => ?_)
      repeat (refine q_wst rfl rfl rfl ?_)
      refine q_wrd i rfl hi80 rfl (q_at15 b) (by decide) ?_
      repeat (refine q_wst rfl rfl rfl ?_)
      refine q_wif (fun c => ?_) (fun c => ?_)
      · iterate 2 (refine q_wst rfl rfl rfl ?_)
        refine ih (i + 1) _ _ (by omega) (nI_1 i) ?_
        unfold q_hb
        rw [if_neg (fun z => c z.1)]
        exact hx
      · repeat (refine q_wst rfl rfl rfl ?_)
        refine q_wrd i rfl hi80 rfl (q_at14 b) (by decide) ?_
        repeat (refine q_wst rfl rfl rfl ?_)
        refine q_wif (fun c2 => ?_) (fun c2 => ?_)
        · iterate 2 (refine q_wst rfl rfl rfl ?_)
          refine ih (i + 1) _ _ (by omega) (nI_1 i) ?_
          unfold q_hb
          rw [if_neg (fun z => absurd z.2 (Int32.not_le.mpr c2))]
          exact hx
        · repeat (refine q_wst rfl rfl rfl ?_)
          refine q_wrd i rfl hi80 rfl (q_at17 b) (by decide) ?_
          iterate 3 (refine q_wst rfl rfl rfl ?_)
          refine ih (i + 1) _ _ (by omega) (nI_1 i) ?_
          unfold q_hb
          rw [if_pos ⟨Decidable.not_not.mp c, Int32.not_lt.mp c2⟩]
  unfold q_Wm
  iterate 4 (refine q_wst rfl rfl rfl ?_)
  exact loop G 0 _ _ (by omega) rfl rfl
/-- the reference's loop of holder -/
theorem t_mhold (d : Nat) (b : Bool) (m : q_M) {G : Nat} (hG : G ≤ 80) (s1 : m 97 13 = nI G) (day p f : Int32) (Q : Option Int32 → q_H → Prop) (hQ : Q (some (q_hb (m 109) (m 108) (m 111) p day f G)) (q_hp b m)) : ∀ (n i : Nat) (x y : Int32), i + n = G → y = nI i → x = q_hb (m 109) (m 108) (m 111) p day f i → q_WP none d 148 32 [some (vr 97), some (vi p), some (vi day), some (vi x), some (vi y)] [] (q_hp b m) Q := by
  intro n
  induction n with
  | zero =>
    intro i x y hi hy hx
    subst hy
    have hi : i = G := by omega
    subst hi
    repeat (refine q_wst rfl rfl rfl ?_)
    refine q_wif (fun _ => ?_) (fun c => absurd (by show m 97 13 ≤ nI i; rw [s1]; exact nI_le (Nat.le_refl _) (by omega)) c)
    repeat (refine q_wst rfl rfl rfl ?_)
    refine q_wrt rfl rfl rfl ?_
    rw [hx]
    exact hQ
  | succ n ih =>
    intro i x y hi hy hx
    subst hy
    have hi80 : i < 80 := by omega
    repeat (refine q_wst rfl rfl rfl ?_)
    refine q_wif (fun c => absurd c (by show ¬ m 97 13 ≤ nI i; rw [s1]; exact nI_ge (by omega) (by omega))) (fun _ => ?_)
    repeat (refine q_wst rfl rfl rfl ?_)
    refine q_wrd i rfl hi80 rfl (q_at109 b) (by decide) ?_
    repeat (refine q_wst rfl rfl rfl ?_)
    refine q_wif (fun c => ?_) (fun c => ?_)
    · iterate 4 (refine q_wst rfl rfl rfl ?_)
      refine ih (i + 1) _ _ (by omega) (nI_1 i) ?_
      unfold q_hb
      rw [if_neg (fun z => c z.1)]
      exact hx
    · repeat (refine q_wst rfl rfl rfl ?_)
      refine q_wrd i rfl hi80 rfl (q_at108 b) (by decide) ?_
      repeat (refine q_wst rfl rfl rfl ?_)
      refine q_wif (fun c2 => ?_) (fun c2 => ?_)
      · iterate 4 (refine q_wst rfl rfl rfl ?_)
        refine ih (i + 1) _ _ (by omega) (nI_1 i) ?_
        unfold q_hb
        rw [if_neg (fun z => absurd z.2 (Int32.not_le.mpr c2))]
        exact hx
      · repeat (refine q_wst rfl rfl rfl ?_)
        refine q_wrd i rfl hi80 rfl (q_at111 b) (by decide) ?_
        iterate 4 (refine q_wst rfl rfl rfl ?_)
        refine ih (i + 1) _ _ (by omega) (nI_1 i) ?_
        unfold q_hb
        rw [if_pos ⟨Decidable.not_not.mp c, Int32.not_lt.mp c2⟩]
theorem ob_holder (a1 a2 : Int32) : q_Ob q_RR 81 148 [a1, a2] := by
  intro b m hR
  obtain ⟨P, w, hR0, h13⟩ := id hR
  have r1 := hR0.1
  obtain ⟨G, hG, s1, s2, s3⟩ := hR0.2.2.2.2.1
  unfold q_Wm
  repeat (refine q_wst rfl rfl rfl ?_)
  refine q_wcl rfl rfl rfl ?_
  refine t_isPiece _ b m a1 r1.1 r1.2.1 _ (fun p hp e => ?_) (fun hn => ?_)
  · subst e
    have hp30 : p < 30 := Nat.lt_of_lt_of_le hp r1.1
    have r8 := hR0.2.2.2.2.2.2.2.1 p hp30
    have e3 : m (37 + 2 * p) 3 = m 102 p := r8.2.2.1
    repeat (refine q_wst rfl rfl rfl ?_)
    refine q_wcl rfl rfl rfl ?_
    refine t_isDay _ _ _ _ (fun c1 c2 => ?_) (fun c1 => ?_)
    · repeat (refine q_wst rfl rfl rfl ?_)
      refine q_wpc p rfl hp30 rfl ?_
      refine q_wgi rfl (q_atP b p hp30) rfl rfl ?_
      refine q_wcl rfl rfl rfl ?_
      refine t_holderBy _ b m hG s1 _ _ _ _ ?_
      refine q_wrt rfl rfl rfl ⟨_, rfl, b, _, rfl, ?_⟩
      unfold q_Wm
      repeat (refine q_wst rfl rfl rfl ?_)
      refine q_wcl rfl rfl rfl ?_
      refine t_misPiece (P := P) _ b _ _ r1.1 (by exact r1.2.2) _ (fun q hq e => ?_) (fun hn => absurd rfl (hn p hp))
      repeat (refine q_wst rfl rfl rfl ?_)
      refine q_wcl rfl rfl rfl ?_
      refine t_misDay _ _ _ _ (fun _ _ => ?_) (fun q => absurd ⟨c1, c2⟩ q)
      repeat (refine q_wst rfl rfl rfl ?_)
      refine q_wrd p rfl hp30 rfl (q_at102 b) (by decide) ?_
      iterate 3 (refine q_wst rfl rfl rfl ?_)
      refine t_mhold _ b m hG s2 a2 (nI p) (m 102 p) _ ⟨?_, b, _, rfl, hR⟩ G 0 _ _ (by omega) rfl rfl
      rw [← e3]
      exact congrArg some (q_hb_eq G (fun i hi => ⟨(s3 i hi).2.1.symm, (s3 i hi).1.symm, (s3 i hi).2.2.2.symm⟩))
    · repeat (refine q_wst rfl rfl rfl ?_)
      refine q_cf 1 rfl (by decide) rfl rfl rfl ⟨_, rfl, b, _, rfl, ?_⟩
      unfold q_Wm
      repeat (refine q_wst rfl rfl rfl ?_)
      refine q_wcl rfl rfl rfl ?_
      refine t_misPiece (P := P) _ b _ _ r1.1 (by exact r1.2.2) _ (fun q hq e => ?_) (fun hn => absurd rfl (hn p hp))
      repeat (refine q_wst rfl rfl rfl ?_)
      refine q_wcl rfl rfl rfl ?_
      refine t_misDay _ _ _ _ (fun x y => absurd ⟨x, y⟩ c1) (fun _ => ?_)
      repeat (refine q_wst rfl rfl rfl ?_)
      exact q_mf 1 rfl (by decide) rfl rfl rfl ⟨rfl, b, _, rfl, q_RR_fnd hR (q_same_rf _)⟩
  · repeat (refine q_wst rfl rfl rfl ?_)
    refine q_cf 1 rfl (by decide) rfl rfl rfl ⟨_, rfl, b, _, rfl, ?_⟩
    unfold q_Wm
    repeat (refine q_wst rfl rfl rfl ?_)
    refine q_wcl rfl rfl rfl ?_
    refine t_misPiece (P := P) _ b _ _ r1.1 (by exact r1.2.2) _ (fun q hq e => absurd e (hn q hq)) (fun _ => ?_)
    repeat (refine q_wst rfl rfl rfl ?_)
    exact q_mf 1 rfl (by decide) rfl rfl rfl ⟨rfl, b, _, rfl, q_RR_fnd hR (q_same_rf _)⟩
/-- measures: what is allowed -/
theorem q_okm {w : Nat → Nat} (h0 : w 0 = 0) (hs : ∀ i, i < 5 → w i < w (i + 1)) (h5 : w 5 ≤ 100000) : ∀ i, i ≤ 5 → w i ≤ 100000 := by
  intro i hi
  have a0 := hs 0 (by omega)
  have a1 := hs 1 (by omega)
  have a2 := hs 2 (by omega)
  have a3 := hs 3 (by omega)
  have a4 := hs 4 (by omega)
  rcases (by omega : i = 0 ∨ i = 1 ∨ i = 2 ∨ i = 3 ∨ i = 4 ∨ i = 5) with rfl | rfl | rfl | rfl | rfl | rfl <;> simp at * <;> omega
theorem t_allows (d : Nat) (b : Bool) (m : q_M) (x y : Int32) (Q : Option Int32 → q_H → Prop) (ht : ∀ j, 1 ≤ j → j ≤ 5 → x = nI j → m 3 (j - 1) < y → y < m 3 (j + 1) → Q (some 1) (q_hp b m)) (hf : (∀ j, 1 ≤ j → j ≤ 5 → x = nI j → m 3 (j - 1) < y → y < m 3 (j + 1) → False) → Q (some 0) (q_hp b m)) : q_Wm (d + 1) 19 [vr 2, vi x, vi y] (q_hp b m) Q := by
  unfold q_Wm
  repeat (refine q_wst rfl rfl rfl ?_)
  refine q_wcl rfl rfl rfl ?_
  refine t_within _ _ _ _ _ _ (fun c1 c2 => ?_) (fun c1 => ?_)
  · have c1 : (1 : Int32) ≤ x := c1
    obtain ⟨j, hj, e⟩ := nI_of2 (M := 5) (n := 5) rfl (Int32.not_lt.mpr (Int32.le_trans (by decide) c1)) c2
    subst e
    have hj1 : 1 ≤ j := (nI_leI (a := 1) (b := j) (by omega) (by omega)).mp c1
    have uniq : ∀ i, i ≤ 5 → nI j = nI i → i = j := fun i hi e => (q_nIle (by omega) (by omega) e).symm
    repeat (refine q_wst rfl rfl rfl ?_)
    refine q_wrd (j - 1) (by show nI j - nI 1 = _; rw [pk_sub hj1]) (by omega) rfl (q_at3 b) (by decide) ?_
    repeat (refine q_wst rfl rfl rfl ?_)
    refine q_wif (fun c3 => ?_) (fun c3 => ?_)
    · repeat (refine q_wst rfl rfl rfl ?_)
      refine q_wrt rfl rfl rfl (hf (fun i h1 h2 e z1 z2 => ?_))
      have := uniq i h2 e
      subst this
      exact absurd c3 (Int32.not_le.mpr z1)
    · repeat (refine q_wst rfl rfl rfl ?_)
      refine q_wrd (j + 1) (nI_1 j) (by omega) rfl (q_at3 b) (by decide) ?_
      repeat (refine q_wst rfl rfl rfl ?_)
      refine q_wif (fun c4 => ?_) (fun c4 => ?_)
      · repeat (refine q_wst rfl rfl rfl ?_)
        refine q_wrt rfl rfl rfl (hf (fun i h1 h2 e z1 z2 => ?_))
        have := uniq i h2 e
        subst this
        exact absurd c4 (Int32.not_le.mpr z2)
      · repeat (refine q_wst rfl rfl rfl ?_)
        exact q_wrt rfl rfl rfl (ht j hj1 hj rfl (Int32.not_le.mp c3) (Int32.not_le.mp c4))
  · repeat (refine q_wst rfl rfl rfl ?_)
    refine q_wrt rfl rfl rfl (hf (fun i h1 h2 e z1 z2 => c1 ?_))
    subst e
    exact ⟨nI_le (a := 1) h1 (by omega), nI_le (b := 5) h2 (by omega)⟩
