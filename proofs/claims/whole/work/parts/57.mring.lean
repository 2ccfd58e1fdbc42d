/-! rings: the reference -/
theorem t_owesSome (d : Nat) (b : Bool) (m : q_M) (ow : Nat → Nat → Int32) (x y : Nat) (hx : x < 8) (hy : y < 8) (hT : ∀ x y, x < 8 → y < 8 → m 123 (8 * x + y) = ow x y) (Q : Option Int32 → q_H → Prop) (hQ : Q (some (p_bi (p_E ow x y))) (q_hp b m)) : q_Wm d 158 [vr 97, vi (nI x), vi (nI y)] (q_hp b m) Q := by
  unfold q_Wm
  iterate 7 (refine q_wst rfl rfl rfl ?_)
  refine q_wrd (8 * x + y) (by show nI 8 * nI x + nI y = _; rw [pk_mul, nI_add]) (by omega) rfl (q_at123 b) (by decide) ?_
  iterate 1 (refine q_wst rfl rfl rfl ?_)
  refine q_wif (fun c => ?_) (fun c => ?_)
  · have c : m 123 (8 * x + y) ≤ 0 := c
    rw [hT x y hx hy] at c
    rw [eq_false_of_ne_true (p_E_f c)] at hQ
    iterate 1 (refine q_wst rfl rfl rfl ?_)
    exact q_wrt rfl rfl rfl hQ
  · have c : ¬ m 123 (8 * x + y) ≤ 0 := c
    rw [hT x y hx hy] at c
    rw [p_E_t c] at hQ
    iterate 2 (refine q_wst rfl rfl rfl ?_)
    exact q_wrt rfl rfl rfl hQ
theorem t_canStand (d : Nat) (b : Bool) (m : q_M) (ow : Nat → Nat → Int32) (s a v : Nat) (R : Nat → Nat) (hs2 : 2 ≤ s) (hs : s ≤ 8) (ha : a < s) (hv : v < 8) (hT : ∀ x y, x < 8 → y < 8 → m 123 (8 * x + y) = ow x y) (hR : ∀ j, j < a → R j < 8 ∧ m 122 j = nI (R j)) (hva : m 122 a = nI v) (Q : Option Int32 → q_H → Prop) (hQ : Q (some (p_bi (p_ok2 (p_E ow) s a R v))) (q_hp b m)) : q_Wm (d + 1) 157 [vr 97, vi (nI s), vi (nI a)] (q_hp b m) Q := by
  have loop : ∀ (r i : Nat) (y : Int32) (fl : Bool), a - i = r → 1 ≤ i → i ≤ 9 → y = nI i → (fl = true ↔ (a = 0 ∨ (R 0 < v ∧ p_E ow (R (a - 1)) v = true)) ∧ ∀ j, j < i → j < a → 1 ≤ j → R j ≠ v) → q_WP none (d + 1) 157 47 [some (vr 97), some (vi (nI s)), some (vi (nI a)), some (vi (nI v)), some (vi (p_bi fl)), some (vi y)] [] (q_hp b m) Q := by
    intro r
    induction r with
    | zero =>
      intro i y fl hr hi1 hi9 hy hfl
      subst hy
      have hai : a ≤ i := by omega
      iterate 3 (refine q_wst rfl rfl rfl ?_)
      refine q_wif (fun _ => ?_) (fun c => absurd (nI_le hai (by omega)) c)
      iterate 2 (refine q_wst rfl rfl rfl ?_)
      cases fl with
      | false =>
        have hno : p_ok2 (p_E ow) s a R v = false := by
          refine decide_eq_false (fun z => ?_)
          exact absurd (hfl.mpr ⟨z.1, fun j _ h2 h3 => z.2.1 j h2 h3⟩) (by decide)
        rw [hno] at hQ
        refine q_wif (fun _ => ?_) (fun c => absurd rfl c)
        iterate 1 (refine q_wst rfl rfl rfl ?_)
        exact q_wrt rfl rfl rfl hQ
      | true =>
        have hfl := hfl.mp rfl
        refine q_wif (fun c => absurd (show (1 : Int32) = 0 from c) (by decide)) (fun _ => ?_)
        iterate 5 (refine q_wst rfl rfl rfl ?_)
        refine q_wif (fun c => ?_) (fun c => ?_)
        · have c : nI a < nI s - 1 := c
          rw [nI_m1 s (by omega)] at c
          have c := (nI_ltI (by omega) (by omega)).mp c
          have hyes : p_ok2 (p_E ow) s a R v = true := decide_eq_true ⟨hfl.1, fun j h1 h2 => hfl.2 j (by omega) h1 h2, Or.inl (by omega)⟩
          rw [hyes] at hQ
          iterate 2 (refine q_wst rfl rfl rfl ?_)
          exact q_wrt rfl rfl rfl hQ
        · have c : ¬ nI a < nI s - 1 := c
          rw [nI_m1 s (by omega)] at c
          have c : s - 1 ≤ a := by
            rcases Nat.lt_or_ge a (s - 1) with z | z
            · exact absurd (nI_lt z (by omega)) c
            · exact z
          have h0 := hR 0 (by omega)
          have heq : p_ok2 (p_E ow) s a R v = p_E ow v (R 0) := by
            cases hx : p_E ow v (R 0) with
            | true => exact decide_eq_true ⟨hfl.1, fun j h1 h2 => hfl.2 j (by omega) h1 h2, Or.inr hx⟩
            | false =>
              refine decide_eq_false (fun z => ?_)
              rcases z.2.2 with q | q
              · omega
              · rw [hx] at q
                cases q
          rw [heq] at hQ
          iterate 5 (refine q_wst rfl rfl rfl ?_)
          refine q_wrd 0 rfl (by decide) rfl (q_at122 b) (by decide) ?_
          refine q_wcl rfl rfl rfl ?_
          show q_Wm d 158 [vr 97, vi (nI v), vi (m 122 0)] (q_hp b m) _
          rw [h0.2]
          refine t_owesSome _ b m ow v (R 0) hv h0.1 hT _ ?_
          cases hx : p_E ow v (R 0) with
          | true =>
            rw [hx] at hQ
            iterate 1 (refine q_wst rfl rfl rfl ?_)
            refine q_wif (fun c => absurd (show (1 : Int32) = 0 from c) (by decide)) (fun _ => ?_)
            iterate 2 (refine q_wst rfl rfl rfl ?_)
            exact q_wrt rfl rfl rfl hQ
          | false =>
            rw [hx] at hQ
            iterate 1 (refine q_wst rfl rfl rfl ?_)
            refine q_wif (fun _ => ?_) (fun c => absurd rfl c)
            iterate 1 (refine q_wst rfl rfl rfl ?_)
            exact q_wrt rfl rfl rfl hQ
    | succ r ih =>
      intro i y fl hr hi1 hi9 hy hfl
      subst hy
      have hia : i < a := by omega
      have hRi := hR i hia
      have nofl : (¬ ((a = 0 ∨ (R 0 < v ∧ p_E ow (R (a - 1)) v = true)) ∧ ∀ j, j < i + 1 → j < a → 1 ≤ j → R j ≠ v)) → (false = true ↔ (a = 0 ∨ (R 0 < v ∧ p_E ow (R (a - 1)) v = true)) ∧ ∀ j, j < i + 1 → j < a → 1 ≤ j → R j ≠ v) := fun h => ⟨fun z => absurd z (by decide), fun z => absurd z h⟩
      iterate 3 (refine q_wst rfl rfl rfl ?_)
      refine q_wif (fun c => absurd c (nI_ge hia (by omega))) (fun _ => ?_)
      iterate 2 (refine q_wst rfl rfl rfl ?_)
      cases fl with
      | false =>
        refine q_wif (fun _ => ?_) (fun c => absurd rfl c)
        iterate 4 (refine q_wst rfl rfl rfl ?_)
        refine ih (i + 1) _ false (by omega) (by omega) (by omega) (nI_1 i) (nofl (fun z => ?_))
        exact absurd (hfl.mpr ⟨z.1, fun j h1 h2 h3 => z.2 j (by omega) h2 h3⟩) (by decide)
      | true =>
        have hf := hfl.mp rfl
        refine q_wif (fun c => absurd (show (1 : Int32) = 0 from c) (by decide)) (fun _ => ?_)
        iterate 3 (refine q_wst rfl rfl rfl ?_)
        refine q_wrd i rfl (show i < 8 by omega) rfl (q_at122 b) (by decide) ?_
        iterate 2 (refine q_wst rfl rfl rfl ?_)
        refine q_wif (fun c => ?_) (fun c => ?_)
        · have c : m 122 i = nI v := c
          rw [hRi.2] at c
          have c := q_nIle (by omega) (by omega) c
          iterate 4 (refine q_wst rfl rfl rfl ?_)
          exact ih (i + 1) _ false (by omega) (by omega) (by omega) (nI_1 i) (nofl (fun z => z.2 i (by omega) hia hi1 c))
        · have c : ¬ m 122 i = nI v := c
          rw [hRi.2] at c
          iterate 5 (refine q_wst rfl rfl rfl ?_)
          refine ih (i + 1) _ true (by omega) (by omega) (by omega) (nI_1 i) ⟨fun _ => ⟨hf.1, fun j h1 h2 h3 e => ?_⟩, fun _ => rfl⟩
          by_cases ej : j = i
          · subst ej
            exact c (congrArg nI e)
          · exact hf.2 j (by omega) h2 h3 e
  have ent : ∀ (fl : Bool), (fl = true ↔ (a = 0 ∨ (R 0 < v ∧ p_E ow (R (a - 1)) v = true))) → q_WP none (d + 1) 157 47 [some (vr 97), some (vi (nI s)), some (vi (nI a)), some (vi (nI v)), some (vi (p_bi fl)), some (vi 1)] [] (q_hp b m) Q := fun fl h => loop (a - 1) 1 _ fl rfl (by omega) (by omega) rfl ⟨fun z => ⟨h.mp z, fun j h1 h2 h3 => absurd h1 (by omega)⟩, fun z => h.mpr z.1⟩
  unfold q_Wm
  iterate 3 (refine q_wst rfl rfl rfl ?_)
  refine q_wrd a rfl (show a < 8 by omega) rfl (q_at122 b) (by decide) ?_
  show q_WP none (d + 1) 157 6 [some (vr 97), some (vi (nI s)), some (vi (nI a)), none, none, none] [vi (m 122 a)] (q_hp b m) Q
  rw [hva]
  iterate 3 (refine q_wst rfl rfl rfl ?_)
  refine q_wif (fun c => ?_) (fun c => ?_)
  · have c : nI a = nI 0 := c
    have c := q_nIle (by omega) (by omega) c
    iterate 5 (refine q_wst rfl rfl rfl ?_)
    exact ent true ⟨fun _ => Or.inl c, fun _ => rfl⟩
  · have a1 : 1 ≤ a := by
      rcases Nat.eq_zero_or_pos a with z | z
      · exact absurd (congrArg nI z) c
      · exact z
    have h0 := hR 0 (by omega)
    have hl := hR (a - 1) (by omega)
    iterate 4 (refine q_wst rfl rfl rfl ?_)
    refine q_wrd 0 rfl (by decide) rfl (q_at122 b) (by decide) ?_
    iterate 1 (refine q_wst rfl rfl rfl ?_)
    refine q_wif (fun c2 => ?_) (fun c2 => ?_)
    · have c2 : nI v ≤ m 122 0 := c2
      rw [h0.2] at c2
      have c2 := (nI_leI (by omega) (by omega)).mp c2
      iterate 4 (refine q_wst rfl rfl rfl ?_)
      refine ent false ⟨fun z => absurd z (by decide), fun z => ?_⟩
      rcases z with z | z <;> omega
    · have c2 : ¬ nI v ≤ m 122 0 := c2
      rw [h0.2] at c2
      have c2 : R 0 < v := by
        rcases Nat.lt_or_ge (R 0) v with z | z
        · exact z
        · exact absurd (nI_le z (by omega)) c2
      iterate 6 (refine q_wst rfl rfl rfl ?_)
      refine q_wrd (a - 1) (by show nI a - 1 = _; exact nI_m1 a a1) (by omega) rfl (q_at122 b) (by decide) ?_
      iterate 1 (refine q_wst rfl rfl rfl ?_)
      refine q_wcl rfl rfl rfl ?_
      show q_Wm d 158 [vr 97, vi (m 122 (a - 1)), vi (nI v)] (q_hp b m) _
      rw [hl.2]
      refine t_owesSome _ b m ow (R (a - 1)) v hl.1 hv hT _ ?_
      cases hx : p_E ow (R (a - 1)) v with
      | true =>
        iterate 1 (refine q_wst rfl rfl rfl ?_)
        refine q_wif (fun c => absurd (show (1 : Int32) = 0 from c) (by decide)) (fun _ => ?_)
        iterate 5 (refine q_wst rfl rfl rfl ?_)
        exact ent true ⟨fun _ => Or.inr ⟨c2, hx⟩, fun _ => rfl⟩
      | false =>
        iterate 1 (refine q_wst rfl rfl rfl ?_)
        refine q_wif (fun _ => ?_) (fun c => absurd rfl c)
        iterate 4 (refine q_wst rfl rfl rfl ?_)
        refine ent false ⟨fun z => absurd z (by decide), fun z => ?_⟩
        rcases z with z | z
        · omega
        · rw [hx] at z
          cases z.2
theorem t_fro (d : Nat) (b : Bool) (m : q_M) (ow : Nat → Nat → Int32) (s : Nat) (hs2 : 2 ≤ s) (hs : s ≤ 8) (hT : ∀ x y, x < 8 → y < 8 → m 123 (8 * x + y) = ow x y) (Q : Option Int32 → q_H → Prop) (h1 : ∀ W m', p_hh (p_E ow) s s 0 (fun _ => 0) = some W → (∀ c, c ≠ 122 → m' c = m c) → (∀ j, j < s → m' 122 j = nI (W j)) → Q (some 1) (q_hp b m')) (h0 : ∀ m', p_hh (p_E ow) s s 0 (fun _ => 0) = none → (∀ c, c ≠ 122 → m' c = m c) → Q (some 0) (q_hp b m')) : q_Wm (d + 2) 156 [vr 97, vi (nI s)] (q_hp b m) Q := by
  have lv : ∀ (k a : Nat) (R : Nat → Nat), a + (k + 1) = s → (∀ j, j < a → R j < 8) → (∀ W m', p_hh (p_E ow) s (k + 1) a R = some W → (∀ c, c ≠ 122 → m' c = m c) → (∀ j, j < s → m' 122 j = nI (W j)) → Q (some 1) (q_hp b m')) → (∀ m', p_hh (p_E ow) s (k + 1) a R = none → (∀ c, c ≠ 122 → m' c = m c) → (∀ j, j < a → m' 122 j = nI (R j)) → q_WP none (d + 2) 156 9 [some (vr 97), some (vi (nI s)), some (vi (nI a + -1))] [] (q_hp b m') Q) → ∀ x, (∀ c, c ≠ 122 → x c = m c) → (∀ j, j < a → x 122 j = nI (R j)) → x 122 a + 1 = nI 0 → q_WP none (d + 2) 156 9 [some (vr 97), some (vi (nI s)), some (vi (nI a))] [] (q_hp b x) Q := by
    intro k
    induction k with
    | zero =>
      intro a R hak hR K1 K0
      have ha8 : a < 8 := by omega
      have l23 : ∀ (r v : Nat) (x : q_M), v + r = 8 → (∀ c, c ≠ 122 → x c = m c) → (∀ j, j < a → x 122 j = nI (R j)) → x 122 a = nI v → p_hh (p_E ow) s 1 a R = p_fs (fun v => if p_ok2 (p_E ow) s a R v = true then p_hh (p_E ow) s 0 (a + 1) (updN R a v) else none) r v → q_WP none (d + 2) 156 23 [some (vr 97), some (vi (nI s)), some (vi (nI a))] [] (q_hp b x) Q := by
        intro r
        induction r with
        | zero =>
          intro v x hv hc hj hxa e
          have hv : v = 8 := by omega
          subst hv
          iterate 3 (refine q_wst rfl rfl rfl ?_)
          refine q_wrd a rfl ha8 rfl (q_at122 b) (by decide) ?_
          iterate 2 (refine q_wst rfl rfl rfl ?_)
          refine q_wif (fun _ => ?_) (fun c => absurd (show (8 : Int32) ≤ x 122 a by rw [hxa]; decide) c)
          iterate 3 (refine q_wst rfl rfl rfl ?_)
          refine q_wrd a rfl ha8 rfl (q_at122 b) (by decide) ?_
          iterate 2 (refine q_wst rfl rfl rfl ?_)
          refine q_wif (fun c => absurd (show x 122 a = 8 from hxa) c) (fun _ => ?_)
          iterate 2 (refine q_wst rfl rfl rfl ?_)
          exact K0 x e hc hj
        | succ r ihr =>
          intro v x hv hc hj hxa e
          have hv8 : v < 8 := by omega
          rw [p_fs_s] at e
          iterate 3 (refine q_wst rfl rfl rfl ?_)
          refine q_wrd a rfl ha8 rfl (q_at122 b) (by decide) ?_
          iterate 2 (refine q_wst rfl rfl rfl ?_)
          refine q_wif (fun c => absurd (show nI 8 ≤ x 122 a from c) (by rw [hxa]; exact nI_ge hv8 (by omega))) (fun _ => ?_)
          iterate 3 (refine q_wst rfl rfl rfl ?_)
          refine q_wcl rfl rfl rfl ?_
          refine t_canStand d b x ow s a v R hs2 hs (by omega) hv8 (fun x' y hx hy => by rw [hc 123 (by decide)]; exact hT x' y hx hy) (fun j hj2 => ⟨hR j hj2, hj j hj2⟩) hxa _ ?_
          cases ho : p_ok2 (p_E ow) s a R v with
          | true =>
            rw [if_pos ho] at e
            iterate 1 (refine q_wst rfl rfl rfl ?_)
            refine q_wif (fun _ => ?_) (fun c => absurd (show ¬ (1 : Int32) = 0 by decide) c)
            iterate 3 (refine q_wst rfl rfl rfl ?_)
            refine q_wrd a rfl ha8 rfl (q_at122 b) (by decide) ?_
            iterate 2 (refine q_wst rfl rfl rfl ?_)
            refine q_wif (fun _ => ?_) (fun c => ?_)
            · iterate 5 (refine q_wst rfl rfl rfl ?_)
              refine q_wif (fun c => absurd (show nI a = nI s - 1 by rw [nI_m1 s (by omega)]; congr 1; omega) c) (fun _ => ?_)
              iterate 1 (refine q_wst rfl rfl rfl ?_)
              refine q_wrt rfl rfl rfl (K1 (updN R a v) x e hc (fun j hj2 => ?_))
              by_cases z : j = a
              · rw [z, updN_eq]
                exact hxa
              · rw [updN_ne z]
                exact hj j (by omega)
            · have c : x 122 a = nI 8 := Decidable.not_not.mp c
              rw [hxa] at c
              exact absurd (q_nIle (by omega) (by omega) c) (by omega)
          | false =>
            rw [if_neg (by rw [ho]; decide)] at e
            iterate 1 (refine q_wst rfl rfl rfl ?_)
            refine q_wif (fun c => absurd rfl c) (fun _ => ?_)
            iterate 4 (refine q_wst rfl rfl rfl ?_)
            refine q_wrd a rfl ha8 rfl (q_at122 b) (by decide) ?_
            iterate 2 (refine q_wst rfl rfl rfl ?_)
            refine q_wwr a rfl ha8 rfl (q_at122 b) (by decide) ?_
            iterate 1 (refine q_wst rfl rfl rfl ?_)
            refine ihr (v + 1) _ (by omega) (fun c z => (q_up_ne z).trans (hc c z)) (fun j hj2 => ?_) ?_ e
            · show q_up x 122 a _ 122 j = _
              rw [q_up_eq]
              unfold upd
              rw [if_neg (by omega)]
              exact hj j hj2
            · show q_up x 122 a (x 122 a + 1) 122 a = _
              rw [q_up_eq, hxa, nI_1]
              unfold upd
              rw [if_pos rfl]
      intro x hc hj hxa
      iterate 2 (refine q_wst rfl rfl rfl ?_)
      refine q_wif (fun c => absurd c (nI_pos (by omega))) (fun _ => ?_)
      iterate 4 (refine q_wst rfl rfl rfl ?_)
      refine q_wrd a rfl ha8 rfl (q_at122 b) (by decide) ?_
      iterate 2 (refine q_wst rfl rfl rfl ?_)
      refine q_wwr a rfl ha8 rfl (q_at122 b) (by decide) ?_
      refine l23 8 0 _ rfl (fun c z => (q_up_ne z).trans (hc c z)) (fun j hj2 => ?_) ?_ rfl
      · show q_up x 122 a _ 122 j = _
        rw [q_up_eq]
        unfold upd
        rw [if_neg (by omega)]
        exact hj j hj2
      · show q_up x 122 a (x 122 a + 1) 122 a = _
        rw [q_up_eq, hxa]
        unfold upd
        rw [if_pos rfl]
    | succ k ih =>
      intro a R hak hR K1 K0
      have ha8 : a < 8 := by omega
      have l23 : ∀ (r v : Nat) (x : q_M), v + r = 8 → (∀ c, c ≠ 122 → x c = m c) → (∀ j, j < a → x 122 j = nI (R j)) → x 122 a = nI v → p_hh (p_E ow) s (k + 1 + 1) a R = p_fs (fun v => if p_ok2 (p_E ow) s a R v = true then p_hh (p_E ow) s (k + 1) (a + 1) (updN R a v) else none) r v → q_WP none (d + 2) 156 23 [some (vr 97), some (vi (nI s)), some (vi (nI a))] [] (q_hp b x) Q := by
        intro r
        induction r with
        | zero =>
          intro v x hv hc hj hxa e
          have hv : v = 8 := by omega
          subst hv
          iterate 3 (refine q_wst rfl rfl rfl ?_)
          refine q_wrd a rfl ha8 rfl (q_at122 b) (by decide) ?_
          iterate 2 (refine q_wst rfl rfl rfl ?_)
          refine q_wif (fun _ => ?_) (fun c => absurd (show (8 : Int32) ≤ x 122 a by rw [hxa]; decide) c)
          iterate 3 (refine q_wst rfl rfl rfl ?_)
          refine q_wrd a rfl ha8 rfl (q_at122 b) (by decide) ?_
          iterate 2 (refine q_wst rfl rfl rfl ?_)
          refine q_wif (fun c => absurd (show x 122 a = 8 from hxa) c) (fun _ => ?_)
          iterate 2 (refine q_wst rfl rfl rfl ?_)
          exact K0 x e hc hj
        | succ r ihr =>
          intro v x hv hc hj hxa e
          have hv8 : v < 8 := by omega
          rw [p_fs_s] at e
          have up : ∀ (x2 : q_M), (∀ c, c ≠ 122 → x2 c = m c) → (∀ j, j < a → x2 122 j = nI (R j)) → x2 122 a = nI v → (p_hh (p_E ow) s (k + 1 + 1) a R = p_fs (fun v => if p_ok2 (p_E ow) s a R v = true then p_hh (p_E ow) s (k + 1) (a + 1) (updN R a v) else none) r (v + 1)) → q_WP none (d + 2) 156 23 [some (vr 97), some (vi (nI s)), some (vi (nI a))] [] (q_hp b (q_up x2 122 a (x2 122 a + 1))) Q := by
            intro x2 hc2 hj2 hx2 e2
            refine ihr (v + 1) _ (by omega) (fun c z => (q_up_ne z).trans (hc2 c z)) (fun j hj3 => ?_) ?_ e2
            · rw [q_up_eq]
              unfold upd
              rw [if_neg (by omega)]
              exact hj2 j hj3
            · rw [q_up_eq, hx2, nI_1]
              unfold upd
              rw [if_pos rfl]
          iterate 3 (refine q_wst rfl rfl rfl ?_)
          refine q_wrd a rfl ha8 rfl (q_at122 b) (by decide) ?_
          iterate 2 (refine q_wst rfl rfl rfl ?_)
          refine q_wif (fun c => absurd (show nI 8 ≤ x 122 a from c) (by rw [hxa]; exact nI_ge hv8 (by omega))) (fun _ => ?_)
          iterate 3 (refine q_wst rfl rfl rfl ?_)
          refine q_wcl rfl rfl rfl ?_
          refine t_canStand d b x ow s a v R hs2 hs (by omega) hv8 (fun x' y hx hy => by rw [hc 123 (by decide)]; exact hT x' y hx hy) (fun j hj2 => ⟨hR j hj2, hj j hj2⟩) hxa _ ?_
          cases ho : p_ok2 (p_E ow) s a R v with
          | true =>
            rw [if_pos ho] at e
            iterate 1 (refine q_wst rfl rfl rfl ?_)
            refine q_wif (fun _ => ?_) (fun c => absurd (show ¬ (1 : Int32) = 0 by decide) c)
            iterate 3 (refine q_wst rfl rfl rfl ?_)
            refine q_wrd a rfl ha8 rfl (q_at122 b) (by decide) ?_
            iterate 2 (refine q_wst rfl rfl rfl ?_)
            refine q_wif (fun _ => ?_) (fun c => ?_)
            · iterate 5 (refine q_wst rfl rfl rfl ?_)
              refine q_wif (fun _ => ?_) (fun c => ?_)
              · iterate 5 (refine q_wst rfl rfl rfl ?_)
                refine q_wwr (a + 1) (nI_1 a) (by omega) rfl (q_at122 b) (by decide) ?_
                iterate 1 (refine q_wst rfl rfl rfl ?_)
                show q_WP none (d + 2) 156 9 [some (vr 97), some (vi (nI s)), some (vi (nI a + 1))] [] (q_hp b (q_up x 122 (a + 1) (-1))) Q
                rw [nI_1]
                have ex : ∀ j, q_up x 122 (a + 1) (-1) 122 j = if j = a + 1 then -1 else x 122 j := fun j => by
                  rw [q_up_eq]
                  unfold upd
                  rfl
                refine ih (a + 1) (updN R a v) (by omega) (fun j hj2 => ?_) (fun W m' g1 g2 g3 => ?_) (fun m' g1 g2 g3 => ?_) _ (fun c z => (q_up_ne z).trans (hc c z)) (fun j hj2 => ?_) ?_
                · by_cases z : j = a
                  · rw [z, updN_eq]
                    exact hv8
                  · rw [updN_ne z]
                    exact hR j (by omega)
                · rw [g1] at e
                  exact K1 W m' e g2 g3
                · rw [g1] at e
                  have gl : ∀ j, j < a → m' 122 j = nI (R j) := fun j hj2 => by rw [g3 j (by omega), updN_ne (by omega)]
                  have ga : m' 122 a = nI v := by rw [g3 a (by omega), updN_eq]
                  show q_WP none (d + 2) 156 9 [some (vr 97), some (vi (nI s)), some (vi (nI (a + 1) + -1))] [] (q_hp b m') Q
                  rw [← Int32.sub_eq_add_neg, nI_pred]
                  iterate 2 (refine q_wst rfl rfl rfl ?_)
                  refine q_wif (fun c => absurd c (nI_pos (by omega))) (fun _ => ?_)
                  iterate 4 (refine q_wst rfl rfl rfl ?_)
                  refine q_wrd a rfl ha8 rfl (q_at122 b) (by decide) ?_
                  iterate 2 (refine q_wst rfl rfl rfl ?_)
                  refine q_wwr a rfl ha8 rfl (q_at122 b) (by decide) ?_
                  exact up m' g2 gl ga e
                · rw [ex, if_neg (by omega)]
                  by_cases z : j = a
                  · rw [z, updN_eq]
                    exact hxa
                  · rw [updN_ne z]
                    exact hj j (by omega)
                · rw [ex, if_pos rfl]
                  rfl
              · have c : nI a = nI s - 1 := Decidable.not_not.mp c
                rw [nI_m1 s (by omega)] at c
                exact absurd (q_nIle (by omega) (by omega) c) (by omega)
            · have c : x 122 a = nI 8 := Decidable.not_not.mp c
              rw [hxa] at c
              exact absurd (q_nIle (by omega) (by omega) c) (by omega)
          | false =>
            rw [if_neg (by rw [ho]; decide)] at e
            iterate 1 (refine q_wst rfl rfl rfl ?_)
            refine q_wif (fun c => absurd rfl c) (fun _ => ?_)
            iterate 4 (refine q_wst rfl rfl rfl ?_)
            refine q_wrd a rfl ha8 rfl (q_at122 b) (by decide) ?_
            iterate 2 (refine q_wst rfl rfl rfl ?_)
            refine q_wwr a rfl ha8 rfl (q_at122 b) (by decide) ?_
            iterate 1 (refine q_wst rfl rfl rfl ?_)
            exact up x hc hj hxa e
      intro x hc hj hxa
      iterate 2 (refine q_wst rfl rfl rfl ?_)
      refine q_wif (fun c => absurd c (nI_pos (by omega))) (fun _ => ?_)
      iterate 4 (refine q_wst rfl rfl rfl ?_)
      refine q_wrd a rfl ha8 rfl (q_at122 b) (by decide) ?_
      iterate 2 (refine q_wst rfl rfl rfl ?_)
      refine q_wwr a rfl ha8 rfl (q_at122 b) (by decide) ?_
      refine l23 8 0 _ rfl (fun c z => (q_up_ne z).trans (hc c z)) (fun j hj2 => ?_) ?_ rfl
      · show q_up x 122 a _ 122 j = _
        rw [q_up_eq]
        unfold upd
        rw [if_neg (by omega)]
        exact hj j hj2
      · show q_up x 122 a (x 122 a + 1) 122 a = _
        rw [q_up_eq, hxa]
        unfold upd
        rw [if_pos rfl]
  unfold q_Wm
  iterate 6 (refine q_wst rfl rfl rfl ?_)
  refine q_wwr 0 rfl (by decide) rfl (q_at122 b) (by decide) ?_
  obtain ⟨k, hk⟩ : ∃ k, s = k + 1 := ⟨s - 1, by omega⟩
  have hh : p_hh (p_E ow) s s 0 (fun _ => 0) = p_hh (p_E ow) s (k + 1) 0 (fun _ => 0) := by rw [← hk]
  rw [hh] at h1 h0
  refine lv k 0 (fun _ => 0) (by omega) (fun j hj => absurd hj (by omega)) h1 (fun m' g1 g2 _ => ?_) _ (fun c z => q_up_ne z) (fun j hj => absurd hj (by omega)) ?_
  · iterate 2 (refine q_wst rfl rfl rfl ?_)
    refine q_wif (fun _ => ?_) (fun c => absurd (show (0 : Int32) + -1 < 0 by decide) c)
    iterate 1 (refine q_wst rfl rfl rfl ?_)
    exact q_wrt rfl rfl rfl (h0 m' g1 g2)
  · show q_up m 122 0 (-1) 122 0 + 1 = nI 0
    rw [q_up_eq]
    unfold upd
    rw [if_pos rfl]
    rfl
