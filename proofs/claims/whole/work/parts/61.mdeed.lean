/-! deeds: the reference -/
theorem t_deed (d : Nat) (b : Bool) (V x : q_M) (w : Nat → Nat) (P s f v : Nat) (du : Int32) (hR : q_R0 P w b V) (hmy : p_my V x) (hs : s < P) (hf : f < P) (h9 : x 119 s = nI f) (hv8 : v ≤ 100000000) (hv : v = 0 ∨ (q_ko w v = true ∧ P + 2 ≤ 30)) (Q : Option Int32 → q_H → Prop) (hQ : ∀ x', (∀ c, c < 97 ∨ 117 < c → x' c = x c) → (∀ j, j ≠ 4 → x' 97 j = x 97 j) → p_my (p_de V w P s f v du) x' → Q none (q_hp b x')) : q_Wm (d + 1) 162 [vr 97, vi (nI s), vi (nI v), vi du] (q_hp b x) Q := by
  have hP := hR.1.1
  have hs3 : s < 30 := by omega
  have hf3 : f < 30 := by omega
  have b1 := p_my_bu hf3 (p_my_bu hs3 hmy)
  obtain ⟨x1, hx1⟩ : ∃ x1, x1 = q_up (q_up x 105 s 2) 105 f 2 := ⟨_, rfl⟩
  rw [← hx1] at b1
  have k1 : ∀ c, c ≠ 105 → x1 c = x c := fun c z => by rw [hx1, q_up_ne z, q_up_ne z]
  unfold q_Wm
  iterate 3 (refine q_wst rfl rfl rfl ?_)
  refine q_wrd s rfl hs3 rfl (q_at119 b) (by decide) ?_
  show q_WP none (d + 1) 162 6 [some (vr 97), some (vi (nI s)), some (vi (nI v)), some (vi du), none, none, none] [vi (x 119 s)] (q_hp b x) Q
  rw [h9]
  iterate 5 (refine q_wst rfl rfl rfl ?_)
  refine q_wwr s rfl hs3 rfl (q_at105 b) (by decide) ?_
  iterate 4 (refine q_wst rfl rfl rfl ?_)
  refine q_wwr f rfl hf3 rfl (q_at105 b) (by decide) ?_
  refine q_wh (h' := q_hp b x1) (by rw [hx1]) ?_
  iterate 2 (refine q_wst rfl rfl rfl ?_)
  refine q_wif (fun c => ?_) (fun c => ?_)
  · have c : nI v ≤ nI 0 := c
    have c := (nI_leI (by omega) (by omega)).mp c
    refine q_wrv rfl rfl rfl (hQ x1 (fun c z => k1 c (by omega)) (fun j _ => by rw [k1 97 (by decide)]) ?_)
    unfold p_de
    rw [if_pos (by omega)]
    exact b1
  · have v0 : ¬ v = 0 := fun z => c (show nI v ≤ nI 0 by rw [z]; exact nI_le (Nat.le_refl 0) (by omega))
    obtain ⟨hko, hP2⟩ : q_ko w v = true ∧ P + 2 ≤ 30 := by
      rcases hv with z | z
      · exact absurd z v0
      · exact z
    have h5 : q_kw w v 5 ≤ 41 := by
      unfold q_ko at hko
      rw [Bool.and_eq_true] at hko
      exact of_decide_eq_true hko.2
    have hw := q_R_w hR
    obtain ⟨g, hg, hg9⟩ := p_gn_sp hP hR.2.2.2.2.2.2.2.2.2.2.1
    have e0 : p_g0 V = g := by
      unfold p_g0
      rw [hg]
      rfl
    have hm : ∀ c, 98 ≤ c → c ≤ 114 → c ≠ 105 → x1 c = V c := fun c z1 z2 z3 => (k1 c z3).trans (hmy.1 c z1 z2)
    iterate 2 (refine q_wst rfl rfl rfl ?_)
    refine q_wcl rfl rfl rfl ?_
    refine t_mcompose _ b x1 w v hv8 (fun i h1 h2 => by rw [hm 98 (by omega) (by omega) (by omega)]; exact ⟨(hw i h1 h2).2.1, (hw i h1 h2).2.2.1, (hw i h1 h2).2.2.2⟩) _ (fun x2 g1 g2 => ?_)
    have b2 : p_my (p_V1 V s f) x2 := ⟨fun c z1 z2 => (g1 c (by omega)).trans (b1.1 c z1 z2), fun j hj => by rw [g1 97 (by decide)]; exact b1.2.1 j hj, by rw [g1 126 (by decide)]; exact b1.2.2⟩
    have h24 : x2 97 4 = nI P := by
      rw [g1 97 (by decide), k1 97 (by decide), hmy.2.1 4 rfl]
      exact hR.1.2.2
    have e103 : x2 103 = V 103 := by rw [g1 103 (by decide)]; exact hm 103 (by omega) (by omega) (by omega)
    have e106 : x2 106 = V 106 := by rw [g1 106 (by decide)]; exact hm 106 (by omega) (by omega) (by omega)
    have z10 : ∀ q i, P ≤ q → q < 30 → i < 40 → x2 106 (40 * q + i) = 0 := fun q i z1 z2 hi => by
      rw [e106]
      exact (hR.2.2.2.2.2.2.2.2.2.1 q z1 z2).2 i hi
    iterate 2 (refine q_wst rfl rfl rfl ?_)
    refine q_wcl rfl rfl rfl ?_
    refine t_freshGrain _ b x2 V P g (by rw [g1 107 (by decide)]; exact hm 107 (by omega) (by omega) (by omega)) hR.2.2.2.2.2.2.2.2.2.2.1 hg _ ?_
    iterate 8 (refine q_wst rfl rfl rfl ?_)
    refine q_wrd s rfl hs3 rfl (q_at103 b) (by decide) ?_
    iterate 1 (refine q_wst rfl rfl rfl ?_)
    refine q_wcl rfl rfl rfl ?_
    refine t_newPiece _ b x2 (P := P) (gr := g) (by omega) h24 (by omega) 1 (x2 103 s) du _ ?_
    refine q_wcl rfl rfl rfl ?_
    refine t_mcarve2 _ b (q_np x2 P g 1 (x2 103 s) du) P w v (by omega) (fun i h1 h2 => by rw [q_np_ne (by decide) (by omega)]; exact g2 i h1 h2) h5 _ (fun x3 m1 m2 m3 => ?_)
    rw [q_np_106] at m2 m3
    have b3 : p_my (p_V2 V w P s f v du) x3 := by
      unfold p_V2
      rw [e0, ← e103]
      refine p_my_ad (by omega) b2 m1 (fun i hi => ?_) m3
      rw [m2 i hi]
      exact p_cw_cg (z10 P i (Nat.le_refl P) (by omega) hi) 5
    have h34 : x3 97 4 = nI (P + 1) := by
      rw [m1 97 (by decide), q_np_97]
      rfl
    have e3f : x3 103 f = V 103 f := by
      rw [m1 103 (by decide), q_np_103, e103]
      unfold upd
      rw [if_neg (by omega)]
    have e117 : x3 117 = x2 117 := by rw [m1 117 (by decide), q_np_ne (by decide) (by omega)]
    iterate 7 (refine q_wst rfl rfl rfl ?_)
    refine q_wrd f rfl hf3 rfl (q_at103 b) (by decide) ?_
    iterate 1 (refine q_wst rfl rfl rfl ?_)
    refine q_wcl rfl rfl rfl ?_
    refine t_newPiece _ b x3 (P := P + 1) (gr := g) (by omega) h34 (by omega) 2 (x3 103 f) du _ ?_
    refine q_wcl rfl rfl rfl ?_
    refine t_mcarve2 _ b (q_np x3 (P + 1) g 2 (x3 103 f) du) (P + 1) w v (by omega) (fun i h1 h2 => by rw [q_np_ne (by decide) (by omega), e117]; exact g2 i h1 h2) h5 _ (fun x4 n1 n2 n3 => ?_)
    rw [q_np_106] at n2 n3
    refine q_wrv rfl rfl rfl (hQ x4 (fun c z => ?_) (fun j hj => ?_) ?_)
    · rw [n1 c (by omega), q_np_ne (by omega) (by omega), m1 c (by omega), q_np_ne (by omega) (by omega), g1 c (by omega)]
      exact k1 c (by omega)
    · rw [n1 97 (by decide), q_np_97, m1 97 (by decide), q_np_97, g1 97 (by decide), k1 97 (by decide)]
      unfold upd
      rw [if_neg hj, if_neg hj]
    · unfold p_de
      rw [if_neg v0, e0, ← e3f]
      refine p_my_ad (by omega) b3 n1 (fun i hi => ?_) n3
      rw [n2 i hi]
      refine p_cw_cg ?_ 5
      show x3 106 (40 * (P + 1) + i) = 0
      rw [m3 _ (by omega)]
      exact z10 (P + 1) i (by omega) (by omega) hi
