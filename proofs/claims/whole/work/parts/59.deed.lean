/-! deeds: a new grain, the carving of what is composed -/
def p_us (F : Nat → Nat) : Nat → Nat → Bool
  | 0, _ => false
  | k + 1, g => p_us F k g || decide (F k = g)
theorem p_us_t {F : Nat → Nat} {g p : Nat} (e : F p = g) : ∀ k, p < k → p_us F k g = true
  | 0, h => absurd h (by omega)
  | k + 1, h => by
    unfold p_us
    by_cases c : p = k
    · rw [← c, decide_eq_true e, Bool.or_true]
    · rw [p_us_t e k (by omega), Bool.true_or]
theorem p_cn_1 {q q' : Nat → Bool} {u : Nat} (h : ∀ v, q' v = true → q v = true ∨ v = u) : ∀ n, p_cn q' n ≤ p_cn q n + (if u < n then 1 else 0)
  | 0 => Nat.zero_le _
  | n + 1 => by
    have := p_cn_1 h n
    unfold p_cn
    by_cases c : q' n = true
    · rw [if_pos c]
      rcases h n c with z | z
      · rw [if_pos z]
        by_cases c2 : u < n
        · rw [if_pos c2] at this
          rw [if_pos (by omega)]
          omega
        · rw [if_neg c2] at this
          split <;> omega
      · rw [if_neg (by omega)] at this
        rw [if_pos (show u < n + 1 by omega)]
        split <;> omega
    · rw [if_neg c]
      by_cases c2 : u < n
      · rw [if_pos c2] at this
        rw [if_pos (show u < n + 1 by omega)]
        split <;> omega
      · rw [if_neg c2] at this
        split <;> split <;> omega
theorem p_us_cn (F : Nat → Nat) (n : Nat) : ∀ k, p_cn (p_us F k) n ≤ k
  | 0 => by
    have : ∀ n, p_cn (p_us F 0) n = 0 := by
      intro n
      induction n with
      | zero => rfl
      | succ n ih =>
        show p_cn (p_us F 0) n + 0 = 0
        rw [ih]
    rw [this]
    omega
  | k + 1 => by
    have h1 := p_us_cn F n k
    have h2 := p_cn_1 (q := p_us F k) (q' := p_us F (k + 1)) (u := F k) (fun v hv => by
      unfold p_us at hv
      rw [Bool.or_eq_true] at hv
      rcases hv with z | z
      · exact Or.inl z
      · exact Or.inr (of_decide_eq_true z).symm) n
    split at h2 <;> omega
theorem p_cn_all {q : Nat → Bool} : ∀ n, (∀ v, v < n → q v = true) → p_cn q n = n
  | 0, _ => rfl
  | n + 1, h => by
    unfold p_cn
    rw [if_pos (h n (by omega)), p_cn_all n (fun v hv => h v (by omega))]
/-- the least grain that no piece had -/
def p_gn (V : q_M) : Option Nat := p_fs (fun g => if V 107 g = 1 then none else some g) 99 0
theorem p_gn_sp {P : Nat} {V : q_M} (hP : P ≤ 30) (h11 : q_r11 P V) : ∃ g, p_gn V = some g ∧ g < 99 := by
  cases hx : p_gn V with
  | some g =>
    obtain ⟨u, h1, h2, h3⟩ := p_fs_some _ _ hx
    by_cases c : V 107 u = 1
    · rw [if_pos c] at h3
      cases h3
    · rw [if_neg c] at h3
      injection h3 with h3
      exact ⟨g, rfl, by omega⟩
  | none =>
    exfalso
    have hall := p_fs_none _ _ hx
    have := p_us_cn (fun p => (V 101 p).toNatClampNeg) 99 P
    rw [p_cn_all 99 (fun g hg => ?_)] at this
    · omega
    · have h1 := hall g (Nat.zero_le g) (by omega)
      have h1 : V 107 g = 1 := by
        by_cases c : V 107 g = 1
        · exact c
        · rw [if_neg c] at h1
          cases h1
      have h2 : ∃ p, p < P ∧ V 101 p = nI g := by
        rcases Classical.em (∃ p, p < P ∧ V 101 p = nI g) with z | z
        · exact z
        · have := (h11 g (by omega)).2 (fun p hp e => z ⟨p, hp, e⟩)
          rw [this] at h1
          exact absurd h1 (by decide)
      obtain ⟨p, hp, e⟩ := h2
      exact p_us_t (by show (V 101 p).toNatClampNeg = g; rw [e, nI_clamp (by omega)]) P hp
theorem t_grainKnown (d : Nat) (b : Bool) (y V : q_M) (P g : Nat) (hP : P ≤ 30) (hg : g < 100) (h1 : y 0 1 = nI P) (hy : ∀ p, p < P → y (37 + 2 * p) 2 = V 101 p) (h11 : q_r11 P V) (Q : Option Int32 → q_H → Prop) (ht : V 107 g = 1 → Q (some 1) (q_hp b y)) (hf : ¬ V 107 g = 1 → Q (some 0) (q_hp b y)) : q_Wm d 95 [vr 0, vi (nI g)] (q_hp b y) Q := by
  have loop : ∀ (r p : Nat) (z : Int32), p + r = P → z = nI p → (∀ q, q < p → ¬ V 101 q = nI g) → q_WP none d 95 2 [some (vr 0), some (vi (nI g)), some (vi z)] [] (q_hp b y) Q := by
    intro r
    induction r with
    | zero =>
      intro p z hp hz hall
      have hp : p = P := by omega
      subst hp hz
      iterate 4 (refine q_wst rfl rfl rfl ?_)
      refine q_wif (fun _ => ?_) (fun c => absurd (show y 0 1 ≤ nI p by rw [h1]; exact nI_le (Nat.le_refl p) (by omega)) c)
      iterate 1 (refine q_wst rfl rfl rfl ?_)
      refine q_wrt rfl rfl rfl (hf ?_)
      rw [(h11 g hg).2 hall]
      decide
    | succ r ih =>
      intro p z hp hz hall
      subst hz
      have hp3 : p < 30 := by omega
      iterate 4 (refine q_wst rfl rfl rfl ?_)
      refine q_wif (fun c => absurd (show y 0 1 ≤ nI p from c) (by rw [h1]; exact nI_ge (by omega) (by omega))) (fun _ => ?_)
      iterate 3 (refine q_wst rfl rfl rfl ?_)
      refine q_wpc p rfl hp3 rfl ?_
      refine q_wgi rfl (q_atP b p hp3) rfl rfl ?_
      iterate 2 (refine q_wst rfl rfl rfl ?_)
      refine q_wif (fun c => ?_) (fun c => ?_)
      · have c : ¬ y (37 + 2 * p) 2 = nI g := c
        rw [hy p (by omega)] at c
        iterate 2 (refine q_wst rfl rfl rfl ?_)
        refine ih (p + 1) _ (by omega) (nI_1 p) (fun q hq => ?_)
        by_cases e : q = p
        · rw [e]
          exact c
        · exact hall q (by omega)
      · have c : y (37 + 2 * p) 2 = nI g := Decidable.not_not.mp c
        rw [hy p (by omega)] at c
        iterate 1 (refine q_wst rfl rfl rfl ?_)
        exact q_wrt rfl rfl rfl (ht ((h11 g hg).1 ⟨p, by omega, c⟩))
  unfold q_Wm
  iterate 2 (refine q_wst rfl rfl rfl ?_)
  exact loop P 0 _ (by omega) rfl (fun q hq => absurd hq (by omega))
theorem t_newGrain (d : Nat) (b : Bool) (y V : q_M) (P g0 : Nat) (hP : P ≤ 30) (h1 : y 0 1 = nI P) (hy : ∀ p, p < P → y (37 + 2 * p) 2 = V 101 p) (h11 : q_r11 P V) (hg0 : p_gn V = some g0) (Q : Option Int32 → q_H → Prop) (hQ : Q (some (nI g0)) (q_hp b y)) : q_Wm (d + 1) 94 [vr 0] (q_hp b y) Q := by
  have loop : ∀ (r g : Nat) (z : Int32), g + r = 99 → z = nI g → p_fs (fun g => if V 107 g = 1 then none else some g) r g = some g0 → q_WP none (d + 1) 94 2 [some (vr 0), some (vi z)] [] (q_hp b y) Q := by
    intro r
    induction r with
    | zero =>
      intro g z hg hz e
      cases e
    | succ r ih =>
      intro g z hg hz e
      subst hz
      rw [p_fs_s] at e
      iterate 3 (refine q_wst rfl rfl rfl ?_)
      refine q_wif (fun c => absurd c (nI_ge (b := 99) (by omega) (by omega))) (fun _ => ?_)
      iterate 2 (refine q_wst rfl rfl rfl ?_)
      refine q_wcl rfl rfl rfl ?_
      refine t_grainKnown _ b y V P g hP (by omega) h1 hy h11 _ (fun c => ?_) (fun c => ?_)
      · rw [if_pos c] at e
        iterate 1 (refine q_wst rfl rfl rfl ?_)
        refine q_wif (fun _ => ?_) (fun c => absurd (show ¬ (1 : Int32) = 0 by decide) c)
        iterate 2 (refine q_wst rfl rfl rfl ?_)
        exact ih (g + 1) _ (by omega) (nI_1 g) e
      · rw [if_neg c] at e
        have e : g = g0 := by
          injection e
        subst e
        iterate 1 (refine q_wst rfl rfl rfl ?_)
        refine q_wif (fun c => absurd rfl c) (fun _ => ?_)
        iterate 1 (refine q_wst rfl rfl rfl ?_)
        exact q_wrt rfl rfl rfl hQ
  unfold q_Wm
  iterate 2 (refine q_wst rfl rfl rfl ?_)
  exact loop 99 0 _ rfl rfl hg0
theorem t_freshGrain (d : Nat) (b : Bool) (x V : q_M) (P g0 : Nat) (h107 : x 107 = V 107) (h11 : q_r11 P V) (hg0 : p_gn V = some g0) (Q : Option Int32 → q_H → Prop) (hQ : Q (some (nI g0)) (q_hp b x)) : q_Wm d 163 [vr 97] (q_hp b x) Q := by
  have loop : ∀ (r g : Nat) (z : Int32), g + r = 99 → z = nI g → p_fs (fun g => if V 107 g = 1 then none else some g) r g = some g0 → q_WP none d 163 2 [some (vr 97), some (vi z)] [] (q_hp b x) Q := by
    intro r
    induction r with
    | zero =>
      intro g z hg hz e
      cases e
    | succ r ih =>
      intro g z hg hz e
      subst hz
      rw [p_fs_s] at e
      iterate 3 (refine q_wst rfl rfl rfl ?_)
      refine q_wrz g rfl (show g < 100 by omega) rfl (q_at107 b) (by decide) ?_
      iterate 1 (refine q_wst rfl rfl rfl ?_)
      have h01 : V 107 g = 0 ∨ V 107 g = 1 := by
        rcases Classical.em (∃ p, p < P ∧ V 101 p = nI g) with z | z
        · exact Or.inr ((h11 g (by omega)).1 z)
        · exact Or.inl ((h11 g (by omega)).2 (fun p hp e => z ⟨p, hp, e⟩))
      refine q_wif (fun c => ?_) (fun c => ?_)
      · have c : x 107 g = 0 := c
        rw [h107] at c
        rw [if_neg (by rw [c]; decide)] at e
        have e : g = g0 := by
          injection e
        subst e
        iterate 1 (refine q_wst rfl rfl rfl ?_)
        exact q_wrt rfl rfl rfl hQ
      · have c : ¬ x 107 g = 0 := c
        rw [h107] at c
        rw [if_pos (by rcases h01 with z | z; exact absurd z c; exact z)] at e
        iterate 2 (refine q_wst rfl rfl rfl ?_)
        exact ih (g + 1) _ (by omega) (nI_1 g) e
  unfold q_Wm
  iterate 2 (refine q_wst rfl rfl rfl ?_)
  exact loop 99 0 _ rfl rfl hg0
/-- n cuts of width W, the first at pl -/
def p_cr (dep : Nat → Int32) (pl W : Nat) : Nat → (Nat → Int32)
  | 0 => dep
  | n + 1 => q_fl (p_cr dep pl W n) (pl + n * (W + 1)) W 5
def p_cw (dep : Nat → Int32) (w : Nat → Nat) (v : Nat) : Nat → (Nat → Int32)
  | 0 => dep
  | k + 1 => p_cr (p_cw dep w v k) (q_kw w v k) (5 - k) (q_kn w v k)
theorem p_cr_cg {d1 d2 : Nat → Int32} {pl W i : Nat} (h : d1 i = d2 i) : ∀ n, p_cr d1 pl W n i = p_cr d2 pl W n i
  | 0 => h
  | n + 1 => by
    unfold p_cr q_fl
    rw [p_cr_cg h n]
theorem p_cw_cg {d1 d2 : Nat → Int32} {w : Nat → Nat} {v i : Nat} (h : d1 i = d2 i) : ∀ k, p_cw d1 w v k i = p_cw d2 w v k i
  | 0 => h
  | k + 1 => p_cr_cg (p_cw_cg h k) _
theorem p_cr_rg {dep : Nat → Int32} {pl W i : Nat} (h : ∃ a, a ≤ 9 ∧ dep i = nI a) : ∀ n, ∃ a, a ≤ 9 ∧ p_cr dep pl W n i = nI a
  | 0 => h
  | n + 1 => by
    unfold p_cr q_fl
    split
    · exact ⟨5, by omega, rfl⟩
    · exact p_cr_rg h n
theorem p_cw_rg {dep : Nat → Int32} {w : Nat → Nat} {v i : Nat} (h : ∃ a, a ≤ 9 ∧ dep i = nI a) : ∀ k, ∃ a, a ≤ 9 ∧ p_cw dep w v k i = nI a
  | 0 => h
  | k + 1 => p_cr_rg (p_cw_rg h k) _
theorem q_kw_s (w : Nat → Nat) (v k : Nat) : q_kw w v (k + 1) = q_kw w v k + q_kn w v k * (5 - k + 1) := rfl
theorem p_kw_mo (w : Nat → Nat) (v : Nat) : ∀ r k, q_kw w v k ≤ q_kw w v (k + r)
  | 0, k => Nat.le_refl _
  | r + 1, k => by
    have := p_kw_mo w v r k
    rw [show k + (r + 1) = k + r + 1 by omega, q_kw_s]
    exact Nat.le_trans this (Nat.le_add_right _ _)
theorem p_kw_in {w : Nat → Nat} {v k n : Nat} (h5 : q_kw w v 5 ≤ 41) (hk : k < 5) (hn : n < q_kn w v k) : q_kw w v k + n * (5 - k + 1) + (5 - k) ≤ 40 := by
  have h1 := p_kw_mo w v (4 - k) (k + 1)
  rw [show k + 1 + (4 - k) = 5 by omega, q_kw_s] at h1
  have h2 : (n + 1) * (5 - k + 1) ≤ q_kn w v k * (5 - k + 1) := Nat.mul_le_mul_right _ hn
  rw [Nat.add_mul, Nat.one_mul] at h2
  omega
theorem t_ccarve (d : Nat) (b : Bool) (y : q_M) (P : Nat) (w : Nat → Nat) (v : Nat) (hP : P < 30) (h4 : ∀ i, 1 ≤ i → i ≤ 5 → y 4 i = nI (q_kn w v (5 - i))) (h5 : q_kw w v 5 ≤ 41) (Q : Option Int32 → q_H → Prop) (hQ : ∀ y', (∀ c, c ≠ 38 + 2 * P → y' c = y c) → y' (38 + 2 * P) = p_cw (y (38 + 2 * P)) w v 5 → Q none (q_hp b y')) : q_Wm (d + 1) 23 [vr 2, vr (37 + 2 * P)] (q_hp b y) Q := by
  have outer : ∀ (r k : Nat) (zp zw : Int32) (y1 : q_M) (o4 : Option q_V), k + r = 5 → zp = nI (q_kw w v k) → zw = nI (5 - k) → (∀ c, c ≠ 38 + 2 * P → y1 c = y c) → y1 (38 + 2 * P) = p_cw (y (38 + 2 * P)) w v k → q_WP none (d + 1) 23 4 [some (vr 2), some (vr (37 + 2 * P)), some (vi zp), some (vi zw), o4] [] (q_hp b y1) Q := by
    intro r
    induction r with
    | zero =>
      intro k zp zw y1 o4 hk hp hw hc hd
      have hk : k = 5 := by omega
      subst hk hp hw
      iterate 3 (refine q_wst rfl rfl rfl ?_)
      exact q_wrv rfl rfl rfl (hQ y1 hc hd)
    | succ r ih =>
      intro k zp zw y1 o4 hk hp hw hc hd
      subst hw
      have hk5 : k < 5 := by omega
      have hkn : q_kn w v k ≤ 9 := Nat.min_le_left _ _
      have e4 : ∀ (y1 : q_M), (∀ c, c ≠ 38 + 2 * P → y1 c = y c) → y1 4 (5 - k) = nI (q_kn w v k) := fun y1 hc => by
        rw [hc 4 (by omega), h4 (5 - k) (by omega) (by omega), show 5 - (5 - k) = k by omega]
      have inner : ∀ (r2 n : Nat) (zp zn : Int32) (y1 : q_M), n + r2 = q_kn w v k → zp = nI (q_kw w v k + n * (5 - k + 1)) → zn = nI n → (∀ c, c ≠ 38 + 2 * P → y1 c = y c) → y1 (38 + 2 * P) = p_cr (p_cw (y (38 + 2 * P)) w v k) (q_kw w v k) (5 - k) n → q_WP none (d + 1) 23 12 [some (vr 2), some (vr (37 + 2 * P)), some (vi zp), some (vi (nI (5 - k))), some (vi zn)] [] (q_hp b y1) Q := by
        intro r2
        induction r2 with
        | zero =>
          intro n zp zn y1 hn hp hz hc hd
          have hn : n = q_kn w v k := by omega
          subst hz
          iterate 4 (refine q_wst rfl rfl rfl ?_)
          refine q_wrd (5 - k) rfl (show 5 - k < 6 by omega) rfl (q_at4 b) (by decide) ?_
          iterate 1 (refine q_wst rfl rfl rfl ?_)
          refine q_wif (fun _ => ?_) (fun c => absurd (show y1 4 (5 - k) ≤ nI n by rw [e4 y1 hc, hn]; exact nI_le (Nat.le_refl _) (by omega)) c)
          iterate 2 (refine q_wst rfl rfl rfl ?_)
          refine ih (k + 1) _ _ y1 _ (by omega) ?_ ?_ hc ?_
          · rw [hp, q_kw_s, hn]
          · show nI (5 - k) + -1 = nI (5 - (k + 1))
            rw [← Int32.sub_eq_add_neg]
            exact (nI_m1 (5 - k) (by omega)).trans (by congr 1)
          · rw [hd, hn]
            rfl
        | succ r2 ih2 =>
          intro n zp zn y1 hn hp hz hc hd
          subst hz hp
          have hin := p_kw_in h5 hk5 (show n < q_kn w v k by omega)
          iterate 4 (refine q_wst rfl rfl rfl ?_)
          refine q_wrd (5 - k) rfl (show 5 - k < 6 by omega) rfl (q_at4 b) (by decide) ?_
          iterate 1 (refine q_wst rfl rfl rfl ?_)
          refine q_wif (fun c => absurd (show y1 4 (5 - k) ≤ nI n from c) (by rw [e4 y1 hc]; exact nI_ge (by omega) (by omega))) (fun _ => ?_)
          iterate 5 (refine q_wst rfl rfl rfl ?_)
          refine q_wif (fun c => absurd (show nI 40 < nI (q_kw w v k + n * (5 - k + 1)) + nI (5 - k) from c) (by rw [nI_add]; exact nI_nlt (by omega) (by omega))) (fun _ => ?_)
          iterate 4 (refine q_wst rfl rfl rfl ?_)
          refine q_wcP P hP rfl rfl rfl rfl rfl ?_
          refine t_carve _ b y1 P (q_kw w v k + n * (5 - k + 1)) (5 - k) hP hin 5 _ (fun y2 g1 g2 => ?_)
          iterate 8 (refine q_wst rfl rfl rfl ?_)
          refine ih2 (n + 1) _ _ y2 (by omega) ?_ (nI_1 n) (fun c z => (g1 c z).trans (hc c z)) ?_
          · show nI (q_kw w v k + n * (5 - k + 1)) + (nI (5 - k) + nI 1) = _
            rw [nI_add, nI_add]
            congr 1
            rw [Nat.add_mul, Nat.one_mul]
            omega
          · rw [g2, hd]
            rfl
      iterate 3 (refine q_wst rfl rfl rfl ?_)
      refine q_wif (fun c => absurd (show nI (5 - k) < nI 1 from c) (nI_nlt (by omega) (by omega))) (fun _ => ?_)
      iterate 2 (refine q_wst rfl rfl rfl ?_)
      exact inner (q_kn w v k) 0 _ _ y1 (by omega) (by rw [hp, Nat.zero_mul, Nat.add_zero]) rfl hc hd
  unfold q_Wm
  iterate 4 (refine q_wst rfl rfl rfl ?_)
  exact outer 5 0 _ _ y _ rfl rfl rfl (fun _ _ => rfl) rfl
theorem t_mcarve2 (d : Nat) (b : Bool) (x : q_M) (P : Nat) (w : Nat → Nat) (v : Nat) (hP : P < 30) (h4 : ∀ i, 1 ≤ i → i ≤ 5 → x 117 i = nI (q_kn w v (5 - i))) (h5 : q_kw w v 5 ≤ 41) (Q : Option Int32 → q_H → Prop) (hQ : ∀ x', (∀ c, c ≠ 106 → x' c = x c) → (∀ i, i < 40 → x' 106 (40 * P + i) = p_cw (fun i => x 106 (40 * P + i)) w v 5 i) → (∀ j, j < 40 * P ∨ 40 * P + 40 ≤ j → x' 106 j = x 106 j) → Q none (q_hp b x')) : q_Wm d 164 [vr 97, vi (nI P)] (q_hp b x) Q := by
  obtain ⟨dep, hdep⟩ : ∃ dep, dep = fun i => x 106 (40 * P + i) := ⟨_, rfl⟩
  rw [← hdep] at hQ
  have outer : ∀ (r k : Nat) (zp zw : Int32) (y1 : q_M) (o4 o5 : Option q_V), k + r = 5 → zp = nI (q_kw w v k) → zw = nI (5 - k) → (∀ c, c ≠ 106 → y1 c = x c) → (∀ i, i < 40 → y1 106 (40 * P + i) = p_cw dep w v k i) → (∀ j, j < 40 * P ∨ 40 * P + 40 ≤ j → y1 106 j = x 106 j) → q_WP none d 164 4 [some (vr 97), some (vi (nI P)), some (vi zp), some (vi zw), o4, o5] [] (q_hp b y1) Q := by
    intro r
    induction r with
    | zero =>
      intro k zp zw y1 o4 o5 hk hp hw hc hd ho
      have hk : k = 5 := by omega
      subst hk hp hw
      iterate 3 (refine q_wst rfl rfl rfl ?_)
      exact q_wrv rfl rfl rfl (hQ y1 hc hd ho)
    | succ r ih =>
      intro k zp zw y1 o4 o5 hk hp hw hc hd ho
      subst hw
      have hk5 : k < 5 := by omega
      have hkn : q_kn w v k ≤ 9 := Nat.min_le_left _ _
      have e4 : ∀ (y1 : q_M), (∀ c, c ≠ 106 → y1 c = x c) → y1 117 (5 - k) = nI (q_kn w v k) := fun y1 hc => by
        rw [hc 117 (by omega), h4 (5 - k) (by omega) (by omega), show 5 - (5 - k) = k by omega]
      have inner : ∀ (r2 n : Nat) (zp zn : Int32) (y1 : q_M) (o5 : Option q_V), n + r2 = q_kn w v k → zp = nI (q_kw w v k + n * (5 - k + 1)) → zn = nI n → (∀ c, c ≠ 106 → y1 c = x c) → (∀ i, i < 40 → y1 106 (40 * P + i) = p_cr (p_cw dep w v k) (q_kw w v k) (5 - k) n i) → (∀ j, j < 40 * P ∨ 40 * P + 40 ≤ j → y1 106 j = x 106 j) → q_WP none d 164 12 [some (vr 97), some (vi (nI P)), some (vi zp), some (vi (nI (5 - k))), some (vi zn), o5] [] (q_hp b y1) Q := by
        intro r2
        induction r2 with
        | zero =>
          intro n zp zn y1 o5 hn hp hz hc hd ho
          have hn : n = q_kn w v k := by omega
          subst hz
          iterate 4 (refine q_wst rfl rfl rfl ?_)
          refine q_wrd (5 - k) rfl (show 5 - k < 6 by omega) rfl (q_at117 b) (by decide) ?_
          iterate 1 (refine q_wst rfl rfl rfl ?_)
          refine q_wif (fun _ => ?_) (fun c => absurd (show y1 117 (5 - k) ≤ nI n by rw [e4 y1 hc, hn]; exact nI_le (Nat.le_refl _) (by omega)) c)
          iterate 2 (refine q_wst rfl rfl rfl ?_)
          refine ih (k + 1) _ _ y1 _ _ (by omega) ?_ ?_ hc ?_ ho
          · rw [hp, q_kw_s, hn]
          · show nI (5 - k) + -1 = nI (5 - (k + 1))
            rw [← Int32.sub_eq_add_neg]
            exact (nI_m1 (5 - k) (by omega)).trans (by congr 1)
          · intro i hi
            rw [hd i hi, hn]
            rfl
        | succ r2 ih2 =>
          intro n zp zn y1 o5 hn hp hz hc hd ho
          subst hz hp
          have hin := p_kw_in h5 hk5 (show n < q_kn w v k by omega)
          have cut : ∀ (r3 t : Nat) (zt : Int32) (y1 : q_M), t + r3 = 5 - k → zt = nI t → (∀ c, c ≠ 106 → y1 c = x c) → (∀ i, i < 40 → y1 106 (40 * P + i) = q_fl (p_cr (p_cw dep w v k) (q_kw w v k) (5 - k) n) (q_kw w v k + n * (5 - k + 1)) t 5 i) → (∀ j, j < 40 * P ∨ 40 * P + 40 ≤ j → y1 106 j = x 106 j) → q_WP none d 164 26 [some (vr 97), some (vi (nI P)), some (vi (nI (q_kw w v k + n * (5 - k + 1)))), some (vi (nI (5 - k))), some (vi (nI n)), some (vi zt)] [] (q_hp b y1) Q := by
            intro r3
            induction r3 with
            | zero =>
              intro t zt y1 ht hz hc hd ho
              have ht : t = 5 - k := by omega
              subst hz
              iterate 3 (refine q_wst rfl rfl rfl ?_)
              refine q_wif (fun _ => ?_) (fun c => absurd (nI_le (show 5 - k ≤ t by omega) (by omega)) c)
              iterate 8 (refine q_wst rfl rfl rfl ?_)
              refine ih2 (n + 1) _ _ y1 _ (by omega) ?_ (nI_1 n) hc ?_ ho
              · show nI (q_kw w v k + n * (5 - k + 1)) + (nI (5 - k) + nI 1) = _
                rw [nI_add, nI_add]
                congr 1
                rw [Nat.add_mul, Nat.one_mul]
                omega
              · intro i hi
                rw [hd i hi, ht]
                rfl
            | succ r3 ih3 =>
              intro t zt y1 ht hz hc hd ho
              subst hz
              iterate 3 (refine q_wst rfl rfl rfl ?_)
              refine q_wif (fun c => absurd c (nI_ge (by omega) (by omega))) (fun _ => ?_)
              iterate 10 (refine q_wst rfl rfl rfl ?_)
              refine q_wwr (40 * P + (q_kw w v k + n * (5 - k + 1)) + t) (by show nI 40 * nI P + nI (q_kw w v k + n * (5 - k + 1)) + nI t = _; rw [pk_mul, nI_add, nI_add]) (by omega) rfl (q_at106 b) (by decide) ?_
              iterate 2 (refine q_wst rfl rfl rfl ?_)
              refine ih3 (t + 1) _ _ (by omega) (nI_1 t) (fun c z => (q_up_ne z).trans (hc c z)) (fun i hi => ?_) (fun j hj => ?_)
              · show q_up y1 106 (40 * P + (q_kw w v k + n * (5 - k + 1)) + t) 5 106 (40 * P + i) = _
                rw [q_up_eq]
                have hd2 := hd i hi
                unfold q_fl at hd2 ⊢
                unfold upd
                by_cases e : i = q_kw w v k + n * (5 - k + 1) + t
                · rw [if_pos (by omega), if_pos (by omega)]
                · rw [if_neg (by omega), hd2]
                  by_cases e2 : q_kw w v k + n * (5 - k + 1) ≤ i ∧ i < q_kw w v k + n * (5 - k + 1) + t
                  · rw [if_pos e2, if_pos (by omega)]
                  · rw [if_neg e2, if_neg (by omega)]
              · show q_up y1 106 (40 * P + (q_kw w v k + n * (5 - k + 1)) + t) 5 106 j = _
                rw [q_up_eq]
                unfold upd
                rw [if_neg (by omega)]
                exact ho j hj
          iterate 4 (refine q_wst rfl rfl rfl ?_)
          refine q_wrd (5 - k) rfl (show 5 - k < 6 by omega) rfl (q_at117 b) (by decide) ?_
          iterate 1 (refine q_wst rfl rfl rfl ?_)
          refine q_wif (fun c => absurd (show y1 117 (5 - k) ≤ nI n from c) (by rw [e4 y1 hc]; exact nI_ge (by omega) (by omega))) (fun _ => ?_)
          iterate 2 (refine q_wst rfl rfl rfl ?_)
          refine cut (5 - k) 0 _ y1 (by omega) rfl hc (fun i hi => ?_) ho
          rw [hd i hi]
          unfold q_fl
          rw [if_neg (by omega)]
      iterate 3 (refine q_wst rfl rfl rfl ?_)
      refine q_wif (fun c => absurd (show nI (5 - k) < nI 1 from c) (nI_nlt (by omega) (by omega))) (fun _ => ?_)
      iterate 2 (refine q_wst rfl rfl rfl ?_)
      exact inner (q_kn w v k) 0 _ _ y1 _ (by omega) (by rw [hp, Nat.zero_mul, Nat.add_zero]) rfl hc hd ho
  unfold q_Wm
  iterate 4 (refine q_wst rfl rfl rfl ?_)
  exact outer 5 0 _ _ x _ _ rfl rfl rfl (fun _ _ => rfl) (fun i hi => by rw [hdep]; rfl) (fun _ _ => rfl)
