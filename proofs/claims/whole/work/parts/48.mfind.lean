/-! pairing: the reference's pairs -/
theorem t_mjoin (d : Nat) (b : Bool) (m : q_M) (p q : Nat) (hp : p < 30) (hq : q < 30) (Q : Option Int32 → q_H → Prop) (ht : m 101 p = m 101 q → p_fa (fun x => m 106 (40 * p + x)) (fun x => m 106 (40 * q + x)) (m 97 3) 0 0 40 0 = 40 → Q (some 1) (q_hp b m)) (hf : ¬ (m 101 p = m 101 q ∧ p_fa (fun x => m 106 (40 * p + x)) (fun x => m 106 (40 * q + x)) (m 97 3) 0 0 40 0 = 40) → Q (some 0) (q_hp b m)) : q_Wm (d + 1) 141 [vr 97, vi (nI p), vi (nI q)] (q_hp b m) Q := by
  unfold q_Wm
  iterate 3 (refine q_wst rfl rfl rfl ?_)
  refine q_wrd p rfl hp rfl (q_at101 b) (by decide) ?_
  iterate 3 (refine q_wst rfl rfl rfl ?_)
  refine q_wrd q rfl hq rfl (q_at101 b) (by decide) ?_
  iterate 1 (refine q_wst rfl rfl rfl ?_)
  refine q_wif (fun c => ?_) (fun c => ?_)
  · have c : ¬ m 101 p = m 101 q := c
    repeat (refine q_wst rfl rfl rfl ?_)
    exact q_wrt rfl rfl rfl (hf (fun z => c z.1))
  · have c : m 101 p = m 101 q := Decidable.not_not.mp c
    iterate 5 (refine q_wst rfl rfl rfl ?_)
    refine q_wcl rfl rfl rfl ?_
    refine t_mfa _ b m p q 0 0 hp hq (by decide) (by decide) _ ?_
    iterate 2 (refine q_wst rfl rfl rfl ?_)
    refine q_wif (fun c2 => ?_) (fun c2 => ?_)
    · have c2 : ¬ p_fa (fun x => m 106 (40 * p + x)) (fun x => m 106 (40 * q + x)) (m 97 3) 0 0 40 0 = 40 := c2
      repeat (refine q_wst rfl rfl rfl ?_)
      exact q_wrt rfl rfl rfl (hf (fun z => c2 z.2))
    · have c2 : p_fa (fun x => m 106 (40 * p + x)) (fun x => m 106 (40 * q + x)) (m 97 3) 0 0 40 0 = 40 := Decidable.not_not.mp c2
      repeat (refine q_wst rfl rfl rfl ?_)
      exact q_wrt rfl rfl rfl (ht c c2)
theorem p_lf_s (jn : Nat → Int32) (P i : Nat) (o : Int32) (l r f : Nat) : p_lf jn P i o l (r + 1) f = if p_bt (jn i &&& o) f = true ∧ p_mp (fun s => jn s &&& (o &&& (p_on f ^^^ -1))) (P - (i + 1)) (i + 1) (fun _ => -1) 0 + 1 = l then some f else p_lf jn P i o l r (f + 1) := rfl
def p_mP (m m' : q_M) (P : Nat) : Prop := (∀ c, c ≠ 97 → (c < 118 ∨ 120 < c) → m' c = m c) ∧ (∀ j, j ≠ 29 → j ≠ 30 → m' 97 j = m 97 j) ∧ m' 97 30 = nI (p_N m P) ∧ ∀ p, p < P → m' 119 p = p_O m P p
theorem t_mfind (d : Nat) (b : Bool) (m : q_M) (P : Nat) (hP : P ≤ 30) (h4 : m 97 4 = nI P) (Q : Option Int32 → q_H → Prop) (hQ : ∀ m', p_mP m m' P → Q none (q_hp b m')) : q_Wm (d + 32) 140 [vr 97] (q_hp b m) Q := by
  have hJ : ∀ s f, s < P → p_bt (p_J m P s) f = true → f < P := fun s f _ h => (p_J_bt hP h).1
  have loop : ∀ (r i l : Nat) (y z om a : Int32) (T O : Nat → Int32) (mB : q_M) (o4 o5 : Option q_V), i + r = P → y = nI i → z = nI l → l ≤ 30 → (∀ c, c ≠ 97 → (c < 118 ∨ 120 < c) → mB c = m c) → (∀ j, j ≠ 29 → j ≠ 30 → mB 97 j = m 97 j) → mB 97 30 = nI (p_N m P) → (∀ s, s < P → mB 118 s = p_J m P s) → (∀ p, p < P → mB 119 p = O p) → (∀ p, p < P → i ≤ p → m 100 p = 1 → O p < 0) → p_ml (p_J m P) P r i om l O = p_O m P → q_WP none (d + 32) 140 132 [some (vr 97), some (vi om), some (vi z), some (vi y), o4, o5] [] (q_hp b (p_mm P mB a T)) Q := by
    have fin : ∀ (mB : q_M) (a : Int32) (T O : Nat → Int32), (∀ c, c ≠ 97 → (c < 118 ∨ 120 < c) → mB c = m c) → (∀ j, j ≠ 29 → j ≠ 30 → mB 97 j = m 97 j) → mB 97 30 = nI (p_N m P) → (∀ p, p < P → mB 119 p = O p) → O = p_O m P → Q none (q_hp b (p_mm P mB a T)) := by
      intro mB a T O hc h97 h30 hO e
      subst e
      exact hQ _ ⟨fun c z1 z2 => (p_mm_x _ _ _ _ c z1 (by omega)).trans (hc c z1 z2), fun j z1 z2 => (p_mm_97 _ _ _ _ j z1).trans (h97 j z1 z2), h30, hO⟩
    intro r
    induction r with
    | zero =>
      intro i l y z om a T O mB o4 o5 hi hy hz hl hc h97 h30 hj hO hst e
      have hi : i = P := by omega
      subst hi hy hz
      have hb4 : mB 97 4 = nI i := (h97 4 (by decide) (by decide)).trans h4
      iterate 4 (refine q_wst rfl rfl rfl ?_)
      refine q_wif (fun _ => ?_) (fun c => absurd (show mB 97 4 ≤ nI i by rw [hb4]; exact nI_le (Nat.le_refl i) (by omega)) c)
      exact q_wrv rfl rfl rfl (fin mB a T O hc h97 h30 hO e)
    | succ r ih =>
      intro i l y z om a T O mB o4 o5 hi hy hz hl hc h97 h30 hj hO hst e
      subst hy hz
      have hi3 : i < P := by omega
      have hi30 : i < 30 := by omega
      have hb4 : mB 97 4 = nI P := (h97 4 (by decide) (by decide)).trans h4
      unfold p_ml at e
      iterate 4 (refine q_wst rfl rfl rfl ?_)
      refine q_wif (fun c => absurd (show mB 97 4 ≤ nI i from c) (by rw [hb4]; exact nI_ge (by omega) (by omega))) (fun _ => ?_)
      iterate 2 (refine q_wst rfl rfl rfl ?_)
      refine q_wif (fun c => ?_) (fun c => ?_)
      · have c : nI l ≤ nI 0 := c
        have c := (nI_leI (by omega) (by omega)).mp c
        rw [if_pos (by omega)] at e
        exact q_wrv rfl rfl rfl (fin mB a T O hc h97 h30 hO e)
      · have l0 : 0 < l := by
          rcases Nat.eq_zero_or_pos l with z | z
          · exact absurd (show nI l ≤ nI 0 from nI_le (by omega) (by omega)) c
          · exact z
        have hl1 : nI l - 1 = nI (l - 1) := by
          obtain ⟨l1, rfl⟩ : ∃ l1, l = l1 + 1 := ⟨l - 1, by omega⟩
          exact nI_pred l1
        rw [if_neg (by omega)] at e
        have kn : p_lf (p_J m P) P i om l P 0 = none → ∀ (a : Int32) (T : Nat → Int32) (o4 o5 : Option q_V), q_WP none (d + 32) 140 132 [some (vr 97), some (vi om), some (vi (nI l)), some (vi (nI i + 1)), o4, o5] [] (q_hp b (p_mm P mB a T)) Q := by
          intro hx a T o4 o5
          rw [hx] at e
          exact ih (i + 1) l _ _ om a T O mB _ _ (by omega) (nI_1 i) rfl hl hc h97 h30 hj hO (fun p hp z => hst p hp (by omega)) e
        have ks : ∀ f, p_lf (p_J m P) P i om l P 0 = some f → ∀ (a : Int32) (T : Nat → Int32) (o4 o5 : Option q_V), q_WP none (d + 32) 140 132 [some (vr 97), some (vi (om &&& (p_on f ^^^ -1))), some (vi (nI l + -1)), some (vi (nI i + 1)), o4, o5] [] (q_hp b (p_mm P (q_up (q_up mB 119 i (nI f)) 119 f (nI i)) a T)) Q := by
          intro f hx a T o4 o5
          have hs := p_lf_sp P 0 hx
          rw [hx] at e
          have hfP : f < P := by omega
          rw [p_bt_and, Bool.and_eq_true] at hs
          have hk := p_J_bt hP hs.2.1
          refine ih (i + 1) (l - 1) _ _ (om &&& (p_on f ^^^ -1)) a T _ _ _ _ (by omega) (nI_1 i) ?_ (by omega) (fun c z1 z2 => ?_) (fun j z1 z2 => ?_) ?_ (fun s hs => ?_) (fun p hp => ?_) (fun p hp z k => ?_) e
          · rw [← hl1]
            exact (Int32.sub_eq_add_neg _ _).symm
          · rw [q_up_ne (by omega), q_up_ne (by omega)]
            exact hc c z1 z2
          · rw [q_up_ne (by decide), q_up_ne (by decide)]
            exact h97 j z1 z2
          · rw [q_up_ne (by decide), q_up_ne (by decide)]
            exact h30
          · rw [q_up_ne (by decide), q_up_ne (by decide)]
            exact hj s hs
          · rw [q_up_eq, q_up_eq]
            unfold upd
            rw [hO p hp]
          · unfold upd
            rw [if_neg (fun e1 => by rw [e1, hk.2.2.1] at k; exact absurd k (by decide)), if_neg (by omega)]
            exact hst p hp (by omega) k
        clear e ih
        have inner : ∀ (r f : Nat) (y a : Int32) (T : Nat → Int32) (o5 : Option q_V), f + r = P → y = nI f → O i < 0 → p_lf (p_J m P) P i om l P 0 = p_lf (p_J m P) P i om l r f → q_WP none (d + 32) 140 147 [some (vr 97), some (vi om), some (vi (nI l)), some (vi (nI i)), some (vi y), o5] [] (q_hp b (p_mm P mB a T)) Q := by
          intro r
          induction r with
          | zero =>
            intro f y a T o5 hf hy hneg e
            have hf : f = P := by omega
            subst hf hy
            iterate 4 (refine q_wst rfl rfl rfl ?_)
            refine q_wif (fun _ => ?_) (fun c => absurd (show mB 97 4 ≤ nI f by rw [hb4]; exact nI_le (Nat.le_refl f) (by omega)) c)
            iterate 2 (refine q_wst rfl rfl rfl ?_)
            exact kn e a T _ _
          | succ r ihr =>
            intro f y a T o5 hf hy hneg e
            subst hy
            have hf3 : f < 30 := by omega
            rw [p_lf_s] at e
            iterate 4 (refine q_wst rfl rfl rfl ?_)
            refine q_wif (fun c => absurd (show mB 97 4 ≤ nI f from c) (by rw [hb4]; exact nI_ge (by omega) (by omega))) (fun _ => ?_)
            iterate 3 (refine q_wst rfl rfl rfl ?_)
            refine q_wrd i rfl hi30 rfl (q_at119 b) (by decide) ?_
            iterate 1 (refine q_wst rfl rfl rfl ?_)
            refine q_wif (fun c => absurd (show 0 ≤ mB 119 i from c) (by rw [hO i hi3]; exact Int32.not_le.mpr hneg)) (fun _ => ?_)
            iterate 3 (refine q_wst rfl rfl rfl ?_)
            refine q_wrd i rfl hi30 rfl (q_at118 b) (by decide) ?_
            iterate 7 (refine q_wst rfl rfl rfl ?_)
            refine q_wif (fun c => ?_) (fun c => ?_)
            · have c : (((mB 118 i &&& om) >>> (nI f &&& 31)) <<< (31 &&& 31 : Int32)) = 0 := c
              rw [hj i hi3, p_tm _ f hf3] at c
              rw [if_neg (fun z => by rw [c] at z; cases z.1)] at e
              iterate 6 (refine q_wst rfl rfl rfl ?_)
              exact ihr (f + 1) _ a T _ (by omega) (nI_1 f) hneg e
            · have c : ¬ (((mB 118 i &&& om) >>> (nI f &&& 31)) <<< (31 &&& 31 : Int32)) = 0 := c
              rw [hj i hi3, p_tm _ f hf3] at c
              have c : p_bt (p_J m P i &&& om) f = true := Bool.not_eq_false _ ▸ c
              iterate 16 (refine q_wst rfl rfl rfl ?_)
              refine q_wcl rfl rfl rfl ?_
              show q_Wm (d + 31) 142 [vr 97, vi (nI i + 1), vi (om &&& (p_on f ^^^ -1))] (q_hp b (p_mm P mB a T)) _
              rw [nI_1]
              refine t_mmp b mB (om &&& (p_on f ^^^ -1)) a T P d (i + 1) hP (by omega) hb4 (fun s => p_J m P s &&& (om &&& (p_on f ^^^ -1))) (fun s hs => by rw [hj s hs]) (fun s g hs h => ?_) _ (fun a2 T2 => ?_)
              · rw [p_bt_and, Bool.and_eq_true] at h
                exact hJ s g hs h.1
              · have hn := p_mp_le (fun s => p_J m P s &&& (om &&& (p_on f ^^^ -1))) (P - (i + 1)) (i + 1) (fun _ => -1) 0
                show q_WP none (d + 32) 140 209 [some (vr 97), some (vi om), some (vi (nI l)), some (vi (nI i)), some (vi (nI f)), some (vi 1)] [vi (nI (p_mp (fun s => p_J m P s &&& (om &&& (p_on f ^^^ -1))) (P - (i + 1)) (i + 1) (fun _ => -1) 0))] (q_hp b (p_mm P mB a2 T2)) Q
                generalize p_mp (fun s => p_J m P s &&& (om &&& (p_on f ^^^ -1))) (P - (i + 1)) (i + 1) (fun _ => -1) 0 = n at hn e ⊢
                iterate 4 (refine q_wst rfl rfl rfl ?_)
                refine q_wif (fun c2 => ?_) (fun c2 => ?_)
                · have c2 : ¬ nI n = nI l - 1 := c2
                  rw [hl1, nI_eq (by omega) (by omega)] at c2
                  rw [if_neg (fun z => c2 (by omega))] at e
                  iterate 2 (refine q_wst rfl rfl rfl ?_)
                  exact ihr (f + 1) _ a2 T2 _ (by omega) (nI_1 f) hneg e
                · have c2 : nI n = nI l - 1 := Decidable.not_not.mp c2
                  rw [hl1, nI_eq (by omega) (by omega)] at c2
                  rw [if_pos ⟨c, by omega⟩] at e
                  have fi : i ≠ f := by
                    rw [p_bt_and, Bool.and_eq_true] at c
                    have hk := p_J_bt hP c.1
                    intro z
                    rw [← z, hk.2.1] at hk
                    exact absurd hk.2.2.1 (by decide)
                  iterate 4 (refine q_wst rfl rfl rfl ?_)
                  refine q_wwr i rfl hi30 rfl (q_at119 b) (by decide) ?_
                  iterate 4 (refine q_wst rfl rfl rfl ?_)
                  refine q_wwr f rfl hf3 rfl (q_at119 b) (by decide) ?_
                  refine q_wh (h' := q_hp b (p_mm P (q_up (q_up mB 119 i (nI f)) 119 f (nI i)) a2 T2)) (congrArg (q_hp b) ?_) ?_
                  · show q_up (q_up (p_mm P mB a2 T2) 119 i (nI f)) 119 f (nI i) = _
                    rw [p_mm_c _ _ _ _ _ 119 i (Or.inl (by decide)) (by decide), p_mm_c _ _ _ _ _ 119 f (Or.inl (by decide)) (by decide)]
                  · iterate 11 (refine q_wst rfl rfl rfl ?_)
                    iterate 4 (refine q_wst rfl rfl rfl ?_)
                    have k9 := ks f e a2 T2
                    clear ks kn ihr
                    refine q_wif (fun _ => ?_) (fun _ => ?_)
                    · iterate 2 (refine q_wst rfl rfl rfl ?_)
                      exact k9 _ _
                    · iterate 3 (refine q_wst rfl rfl rfl ?_)
                      refine q_wrd i rfl hi30 rfl (q_at119 b) (by decide) ?_
                      iterate 1 (refine q_wst rfl rfl rfl ?_)
                      refine q_wif (fun _ => ?_) (fun c => absurd (show 0 ≤ q_up (q_up mB 119 i (nI f)) 119 f (nI i) 119 i from ?_) c)
                      · iterate 2 (refine q_wst rfl rfl rfl ?_)
                        exact k9 _ _
                      · rw [q_up_eq, q_up_eq]
                        unfold upd
                        rw [if_neg fi, if_pos rfl]
                        exact nI_pos' (by omega)
        iterate 2 (refine q_wst rfl rfl rfl ?_)
        by_cases hneg : O i < 0
        · exact inner P 0 _ a T _ (by omega) rfl hneg rfl
        · iterate 4 (refine q_wst rfl rfl rfl ?_)
          refine q_wif (fun c => absurd (show mB 97 4 ≤ nI 0 from c) (by rw [hb4]; exact nI_ge (by omega) (by omega))) (fun _ => ?_)
          iterate 3 (refine q_wst rfl rfl rfl ?_)
          refine q_wrd i rfl hi30 rfl (q_at119 b) (by decide) ?_
          iterate 1 (refine q_wst rfl rfl rfl ?_)
          refine q_wif (fun _ => ?_) (fun c => absurd (show 0 ≤ mB 119 i by rw [hO i hi3]; exact Int32.not_lt.mp hneg) c)
          iterate 2 (refine q_wst rfl rfl rfl ?_)
          refine kn (p_lf_0 (fun f => ?_) P 0) a T _ _
          cases hx : p_bt (p_J m P i) f with
          | false => rfl
          | true => exact absurd (hst i hi3 (Nat.le_refl i) (p_J_bt hP hx).2.1) hneg
  have rd : ∀ (r i : Nat) (y : Int32) (m1 : q_M) (o2 o3 o4 o5 : Option q_V), i + r = P → y = nI i → (∀ c, c < 118 ∨ 119 < c → m1 c = m c) → (∀ s, s < i → m1 118 s = p_J m P s ∧ m1 119 s = -1) → q_WP none (d + 32) 140 2 [some (vr 97), some (vi y), o2, o3, o4, o5] [] (q_hp b m1) Q := by
    intro r
    induction r with
    | zero =>
      intro i y m1 o2 o3 o4 o5 hi hy hc hj
      have hi : i = P := by omega
      subst hi hy
      have hb4 : m1 97 4 = nI i := by rw [hc 97 (by omega)]; exact h4
      iterate 4 (refine q_wst rfl rfl rfl ?_)
      refine q_wif (fun _ => ?_) (fun c => absurd (show m1 97 4 ≤ nI i by rw [hb4]; exact nI_le (Nat.le_refl i) (by omega)) c)
      iterate 10 (refine q_wst rfl rfl rfl ?_)
      refine q_wcl rfl rfl rfl ?_
      show q_Wm (d + 31) 142 [vr 97, vi (nI 0), vi (1 <<< (m1 97 4 &&& 31) - 1)] (q_hp b m1) _
      rw [hb4]
      have key := t_mmp b m1 (p_on i - 1) (m1 97 29) (m1 120) i d 0 hP (by omega) hb4 (fun s => p_J m i s &&& (p_on i - 1)) (fun s hs => by rw [(hj s hs).1]) (fun s g hs h => by
        have h : p_bt (p_J m i s &&& (p_on i - 1)) g = true := h
        rw [p_bt_and, Bool.and_eq_true] at h
        exact hJ s g hs h.1)
      rw [p_mm_id] at key
      refine key _ (fun a T => ?_)
      show q_WP none (d + 32) 140 124 [some (vr 97), some (vi (1 <<< (m1 97 4 &&& 31) - 1)), o2, o3, o4, o5] [vi (nI (p_N m i))] (q_hp b (p_mm i m1 a T)) Q
      rw [hb4]
      iterate 4 (refine q_wst rfl rfl rfl ?_)
      refine q_wh (h' := q_hp b (p_mm i (q_up m1 97 30 (nI (p_N m i))) a T)) (congrArg (q_hp b) ?_) ?_
      · exact p_mm_c i m1 _ _ _ 97 30 (Or.inr (by decide)) (by decide)
      · iterate 2 (refine q_wst rfl rfl rfl ?_)
        refine loop i 0 (p_N m i) _ _ (p_on i - 1) a T (fun _ => -1) _ _ _ (by omega) rfl rfl (Nat.le_trans (p_N_le m i) hP) (fun c z1 z2 => ?_) (fun j z1 z2 => ?_) ?_ (fun s hs => ?_) (fun p hp => ?_) (fun p hp z k => ?_) rfl
        · rw [q_up_ne z1]
          exact hc c (by omega)
        · rw [q_up_eq]
          unfold upd
          rw [if_neg z2, hc 97 (by omega)]
        · rw [q_up_eq]
          rfl
        · rw [q_up_ne (by decide)]
          exact (hj s hs).1
        · rw [q_up_ne (by decide)]
          exact (hj p hp).2
        · decide
    | succ r ih =>
      intro i y m1 o2 o3 o4 o5 hi hy hc hj
      subst hy
      have hi3 : i < P := by omega
      have hi30 : i < 30 := by omega
      have hb4 : m1 97 4 = nI P := by rw [hc 97 (by omega)]; exact h4
      iterate 4 (refine q_wst rfl rfl rfl ?_)
      refine q_wif (fun c => absurd (show m1 97 4 ≤ nI i from c) (by rw [hb4]; exact nI_ge (by omega) (by omega))) (fun _ => ?_)
      iterate 4 (refine q_wst rfl rfl rfl ?_)
      refine q_wwr i rfl hi30 rfl (q_at118 b) (by decide) ?_
      iterate 4 (refine q_wst rfl rfl rfl ?_)
      refine q_wwr i rfl hi30 rfl (q_at119 b) (by decide) ?_
      have g18 : q_up (q_up m1 118 i 0) 119 i (-1) 118 i = 0 := by
        rw [q_up_ne (by decide), q_up_eq]
        unfold upd
        rw [if_pos rfl]
      have g19 : q_up (q_up m1 118 i 0) 119 i (-1) 119 i = -1 := by
        rw [q_up_eq]
        unfold upd
        rw [if_pos rfl]
      have gj : ∀ s, s < i → q_up (q_up m1 118 i 0) 119 i (-1) 118 s = p_J m P s ∧ q_up (q_up m1 118 i 0) 119 i (-1) 119 s = -1 := by
        intro s hs
        rw [q_up_ne (by decide), q_up_eq, q_up_eq, q_up_ne (by decide)]
        unfold upd
        rw [if_neg (by omega), if_neg (by omega)]
        exact hj s hs
      have gc : ∀ c, c < 118 ∨ 119 < c → q_up (q_up m1 118 i 0) 119 i (-1) c = m c := fun c z => by
        rw [q_up_ne (by omega), q_up_ne (by omega)]
        exact hc c z
      show q_WP none (d + 32) 140 24 _ _ (q_hp b (q_up (q_up m1 118 i 0) 119 i (-1))) Q
      generalize q_up (q_up m1 118 i 0) 119 i (-1) = m2 at g18 g19 gj gc ⊢
      clear hb4 hc hj
      have fin : ∀ (m2 : q_M) (o2 o3 o4 o5 : Option q_V), (∀ c, c < 118 ∨ 119 < c → m2 c = m c) → (∀ s, s < i → m2 118 s = p_J m P s ∧ m2 119 s = -1) → m2 118 i = p_J m P i → m2 119 i = -1 → q_WP none (d + 32) 140 2 [some (vr 97), some (vi (nI i + 1)), o2, o3, o4, o5] [] (q_hp b m2) Q := by
        intro m2 o2 o3 o4 o5 hc hj h18 h19
        refine ih (i + 1) _ m2 _ _ _ _ (by omega) (nI_1 i) hc (fun s hs => ?_)
        by_cases e : s = i
        · rw [e]
          exact ⟨h18, h19⟩
        · exact hj s (by omega)
      clear ih
      by_cases k1 : m 100 i = 1 ∧ m 105 i = 0
      · have eJ : p_J m P i = p_jr m i P 0 0 := by
          unfold p_J
          rw [if_pos k1]
        have inner : ∀ (r f : Nat) (y x : Int32) (m2 : q_M) (o3 o4 o5 : Option q_V), f + r = P → y = nI f → (∀ c, c < 118 ∨ 119 < c → m2 c = m c) → (∀ s, s < i → m2 118 s = p_J m P s ∧ m2 119 s = -1) → m2 118 i = x → m2 119 i = -1 → p_J m P i = p_jr m i r f x → q_WP none (d + 32) 140 26 [some (vr 97), some (vi (nI i)), some (vi y), o3, o4, o5] [] (q_hp b m2) Q := by
          intro r
          induction r with
          | zero =>
            intro f y x m2 o3 o4 o5 hf hy hc hj hx h19 e
            have hf : f = P := by omega
            subst hf hy
            have hb4 : m2 97 4 = nI f := by rw [hc 97 (by omega)]; exact h4
            iterate 4 (refine q_wst rfl rfl rfl ?_)
            refine q_wif (fun _ => ?_) (fun c => absurd (show m2 97 4 ≤ nI f by rw [hb4]; exact nI_le (Nat.le_refl f) (by omega)) c)
            iterate 2 (refine q_wst rfl rfl rfl ?_)
            exact fin m2 _ _ _ _ hc hj (by rw [e, hx]; rfl) h19
          | succ r ihr =>
            intro f y x m2 o3 o4 o5 hf hy hc hj hx h19 e
            subst hy
            have hf3 : f < 30 := by omega
            have hb4 : m2 97 4 = nI P := by rw [hc 97 (by omega)]; exact h4
            have ejb : p_jb m i f = decide (m2 100 f = 2 ∧ m2 105 f = 0 ∧ m2 101 i = m2 101 f ∧ p_fa (fun x => m2 106 (40 * i + x)) (fun x => m2 106 (40 * f + x)) (m2 97 3) 0 0 40 0 = 40) := by
              rw [hc 100 (by omega), hc 105 (by omega), hc 101 (by omega), hc 106 (by omega), hc 97 (by omega)]
              rfl
            unfold p_jr at e
            rw [ejb] at e
            have step : ∀ v, m2 118 i ||| v = (if decide (m2 100 f = 2 ∧ m2 105 f = 0 ∧ m2 101 i = m2 101 f ∧ p_fa (fun x => m2 106 (40 * i + x)) (fun x => m2 106 (40 * f + x)) (m2 97 3) 0 0 40 0 = 40) = true then x ||| p_on f else x) → q_WP none (d + 32) 140 97 [some (vr 97), some (vi (nI i)), some (vi (nI f)), o3, o4, o5] [] (q_hp b (q_up m2 118 i (m2 118 i ||| v))) Q := by
              intro v hv
              iterate 2 (refine q_wst rfl rfl rfl ?_)
              refine ihr (f + 1) _ _ _ _ _ _ (by omega) (nI_1 f) (fun c z => ?_) (fun s hs => ?_) ?_ ?_ e
              · rw [q_up_ne (by omega)]
                exact hc c z
              · rw [q_up_eq, q_up_ne (by decide)]
                unfold upd
                rw [if_neg (by omega)]
                exact hj s hs
              · rw [q_up_eq]
                unfold upd
                rw [if_pos rfl]
                exact hv
              · rw [q_up_ne (by decide)]
                exact h19
            iterate 4 (refine q_wst rfl rfl rfl ?_)
            refine q_wif (fun c => absurd (show m2 97 4 ≤ nI f from c) (by rw [hb4]; exact nI_ge (by omega) (by omega))) (fun _ => ?_)
            iterate 3 (refine q_wst rfl rfl rfl ?_)
            refine q_wrd i rfl hi30 rfl (q_at100 b) (by decide) ?_
            iterate 2 (refine q_wst rfl rfl rfl ?_)
            refine q_wif (fun c => absurd (show m2 100 i = 1 by rw [hc 100 (by omega)]; exact k1.1) c) (fun _ => ?_)
            iterate 3 (refine q_wst rfl rfl rfl ?_)
            refine q_wrd i rfl hi30 rfl (q_at105 b) (by decide) ?_
            iterate 1 (refine q_wst rfl rfl rfl ?_)
            refine q_wif (fun c => absurd (show m2 105 i = 0 by rw [hc 105 (by omega)]; exact k1.2) c) (fun _ => ?_)
            iterate 4 (refine q_wst rfl rfl rfl ?_)
            refine q_wrd i rfl hi30 rfl (q_at118 b) (by decide) ?_
            iterate 3 (refine q_wst rfl rfl rfl ?_)
            refine q_wrd f rfl hf3 rfl (q_at100 b) (by decide) ?_
            iterate 2 (refine q_wst rfl rfl rfl ?_)
            have no : ¬ (m2 100 f = 2 ∧ m2 105 f = 0 ∧ m2 101 i = m2 101 f ∧ p_fa (fun x => m2 106 (40 * i + x)) (fun x => m2 106 (40 * f + x)) (m2 97 3) 0 0 40 0 = 40) → m2 118 i ||| 0 = (if decide (m2 100 f = 2 ∧ m2 105 f = 0 ∧ m2 101 i = m2 101 f ∧ p_fa (fun x => m2 106 (40 * i + x)) (fun x => m2 106 (40 * f + x)) (m2 97 3) 0 0 40 0 = 40) = true then x ||| p_on f else x) := by
              intro z
              rw [if_neg (fun z2 => z (of_decide_eq_true z2)), hx]
              exact Int32.or_zero
            refine q_wif (fun c => ?_) (fun c => ?_)
            · have c : ¬ m2 100 f = 2 := c
              iterate 2 (refine q_wst rfl rfl rfl ?_)
              refine q_wwr i rfl hi30 rfl (q_at118 b) (by decide) ?_
              exact step 0 (no (fun z => c z.1))
            · have c : m2 100 f = 2 := Decidable.not_not.mp c
              iterate 3 (refine q_wst rfl rfl rfl ?_)
              refine q_wrd f rfl hf3 rfl (q_at105 b) (by decide) ?_
              iterate 1 (refine q_wst rfl rfl rfl ?_)
              refine q_wif (fun c2 => ?_) (fun c2 => ?_)
              · have c2 : ¬ m2 105 f = 0 := c2
                iterate 2 (refine q_wst rfl rfl rfl ?_)
                refine q_wwr i rfl hi30 rfl (q_at118 b) (by decide) ?_
                exact step 0 (no (fun z => c2 z.2.1))
              · have c2 : m2 105 f = 0 := Decidable.not_not.mp c2
                iterate 3 (refine q_wst rfl rfl rfl ?_)
                refine q_wcl rfl rfl rfl ?_
                refine t_mjoin _ b m2 i f hi30 hf3 _ (fun g1 g2 => ?_) (fun g => ?_)
                · iterate 1 (refine q_wst rfl rfl rfl ?_)
                  refine q_wif (fun c => absurd (show (1 : Int32) = 0 from c) (by decide)) (fun _ => ?_)
                  iterate 5 (refine q_wst rfl rfl rfl ?_)
                  refine q_wwr i rfl hi30 rfl (q_at118 b) (by decide) ?_
                  exact step (p_on f) (by rw [if_pos (decide_eq_true ⟨c, c2, g1, g2⟩), hx])
                · iterate 1 (refine q_wst rfl rfl rfl ?_)
                  refine q_wif (fun _ => ?_) (fun c => absurd rfl c)
                  iterate 2 (refine q_wst rfl rfl rfl ?_)
                  refine q_wwr i rfl hi30 rfl (q_at118 b) (by decide) ?_
                  exact step 0 (no (fun z => g z.2.2))
        iterate 2 (refine q_wst rfl rfl rfl ?_)
        exact inner P 0 _ 0 m2 _ _ _ (by omega) rfl gc gj g18 g19 eJ
      · have eJ : p_J m P i = 0 := by
          unfold p_J
          rw [if_neg k1]
        have hb4 : m2 97 4 = nI P := by rw [gc 97 (by omega)]; exact h4
        iterate 2 (refine q_wst rfl rfl rfl ?_)
        iterate 4 (refine q_wst rfl rfl rfl ?_)
        refine q_wif (fun c => absurd (show m2 97 4 ≤ nI 0 from c) (by rw [hb4]; exact nI_ge (by omega) (by omega))) (fun _ => ?_)
        iterate 3 (refine q_wst rfl rfl rfl ?_)
        refine q_wrd i rfl hi30 rfl (q_at100 b) (by decide) ?_
        iterate 2 (refine q_wst rfl rfl rfl ?_)
        refine q_wif (fun c => ?_) (fun c => ?_)
        · iterate 2 (refine q_wst rfl rfl rfl ?_)
          exact fin m2 _ _ _ _ gc gj (by rw [g18, eJ]) g19
        · have c : m2 100 i = 1 := Decidable.not_not.mp c
          rw [gc 100 (by omega)] at c
          iterate 3 (refine q_wst rfl rfl rfl ?_)
          refine q_wrd i rfl hi30 rfl (q_at105 b) (by decide) ?_
          iterate 1 (refine q_wst rfl rfl rfl ?_)
          refine q_wif (fun c2 => ?_) (fun c2 => ?_)
          · iterate 2 (refine q_wst rfl rfl rfl ?_)
            exact fin m2 _ _ _ _ gc gj (by rw [g18, eJ]) g19
          · have c2 : m2 105 i = 0 := Decidable.not_not.mp c2
            rw [gc 105 (by omega)] at c2
            exact absurd ⟨c, c2⟩ k1
  unfold q_Wm
  iterate 2 (refine q_wst rfl rfl rfl ?_)
  exact rd P 0 _ m _ _ _ _ (by omega) rfl (fun _ _ => rfl) (fun s hs => absurd hs (by omega))
