/-! deeds: the two sides' changes as one function -/
def p_bu (V : q_M) (p : Nat) : q_M := q_up (q_up V (37 + 2 * p) 6 2) 105 p 2
def p_ad (V : q_M) (P : Nat) (kd : Int32) (g : Nat) (pt du : Int32) (dep : Nat → Int32) : q_M := fun c => if c = 38 + 2 * P then (fun j => if j < 40 then dep j else V c j) else if c = 106 then (fun j => if 40 * P ≤ j ∧ j < 40 * P + 40 then dep (j - 40 * P) else V 106 j) else q_np (q_up (q_bg V P kd (nI g) pt du) 0 1 (nI (P + 1))) P g kd pt du c
section AD
variable {V : q_M} {P g : Nat} {kd pt du : Int32} {dep : Nat → Int32}
theorem p_ad_c {c : Nat} (h1 : c ≠ 38 + 2 * P) (h2 : c ≠ 106) : p_ad V P kd g pt du dep c = q_np (q_up (q_bg V P kd (nI g) pt du) 0 1 (nI (P + 1))) P g kd pt du c := by
  unfold p_ad
  rw [if_neg h1, if_neg h2]
theorem p_ad_d {i : Nat} (hi : i < 40) : p_ad V P kd g pt du dep (38 + 2 * P) i = dep i := by
  unfold p_ad
  rw [if_pos rfl]
  show (if i < 40 then dep i else _) = _
  rw [if_pos hi]
theorem p_ad_0 : p_ad V P kd g pt du dep 0 = upd (V 0) 1 (nI (P + 1)) := by
  rw [p_ad_c (by omega) (by decide), q_np_ne (by decide) (by omega), q_up_eq, q_bg_ne (by omega)]
theorem p_ad_p (hP : P < 30) : p_ad V P kd g pt du dep (37 + 2 * P) = upd (upd (upd (upd (upd (V (37 + 2 * P)) 1 kd) 2 (nI g)) 3 pt) 4 pt) 5 du := by
  rw [p_ad_c (by omega) (by omega), q_np_ne (by omega) (by omega), q_up_ne (by omega), q_bg_eq]
theorem p_ad_o {c : Nat} (h0 : c ≠ 0) (h1 : c ≠ 37 + 2 * P) (h2 : c ≠ 38 + 2 * P) (h3 : c ≠ 97) (h4 : c < 100 ∨ 107 < c) : p_ad V P kd g pt du dep c = V c := by
  rw [p_ad_c h2 (by omega), q_np_ne h3 h4, q_up_ne h0, q_bg_ne h1]
theorem p_ad_m {c : Nat} (h0 : 97 ≤ c) (hP : P < 30) : q_up (q_bg V P kd (nI g) pt du) 0 1 (nI (P + 1)) c = V c := by
  rw [q_up_ne (by omega), q_bg_ne (by omega)]
theorem p_ad_106 (hP : P < 30) (j : Nat) : p_ad V P kd g pt du dep 106 j = if 40 * P ≤ j ∧ j < 40 * P + 40 then dep (j - 40 * P) else V 106 j := by
  unfold p_ad
  rw [if_neg (by omega), if_pos rfl]
theorem p_ad_97 (hP : P < 30) : p_ad V P kd g pt du dep 97 = upd (V 97) 4 (nI (P + 1)) := by
  rw [p_ad_c (by omega) (by decide), q_np_97, p_ad_m (by omega) hP]
theorem p_ad_100 (hP : P < 30) : p_ad V P kd g pt du dep 100 = upd (V 100) P kd := by
  rw [p_ad_c (by omega) (by decide), q_np_100, p_ad_m (by omega) hP]
theorem p_ad_101 (hP : P < 30) : p_ad V P kd g pt du dep 101 = upd (V 101) P (nI g) := by
  rw [p_ad_c (by omega) (by decide), q_np_101, p_ad_m (by omega) hP]
theorem p_ad_102 (hP : P < 30) : p_ad V P kd g pt du dep 102 = upd (V 102) P pt := by
  rw [p_ad_c (by omega) (by decide), q_np_102, p_ad_m (by omega) hP]
theorem p_ad_103 (hP : P < 30) : p_ad V P kd g pt du dep 103 = upd (V 103) P pt := by
  rw [p_ad_c (by omega) (by decide), q_np_103, p_ad_m (by omega) hP]
theorem p_ad_104 (hP : P < 30) : p_ad V P kd g pt du dep 104 = upd (V 104) P du := by
  rw [p_ad_c (by omega) (by decide), q_np_104, p_ad_m (by omega) hP]
theorem p_ad_105 (hP : P < 30) : p_ad V P kd g pt du dep 105 = upd (V 105) P 0 := by
  rw [p_ad_c (by omega) (by decide), q_np_105, p_ad_m (by omega) hP]
theorem p_ad_107 (hP : P < 30) : p_ad V P kd g pt du dep 107 = upd (V 107) g 1 := by
  rw [p_ad_c (by omega) (by decide), q_np_107, p_ad_m (by omega) hP]
end AD
theorem p_ad_RR {P : Nat} {w : Nat → Nat} {b : Bool} {V : q_M} {kd g pt : Nat} {du : Int32} {dep : Nat → Int32} (hR : q_R0 P w b V) (h13 : q_r13 V) (hP : P < 30) (hk : kd ≤ 3) (hg : g ≤ 99) (ht : pt ≤ 7) (hd : -1 ≤ du.toInt ∧ du.toInt ≤ 9999) (hdp : ∀ i, i < 40 → ∃ a, a ≤ 9 ∧ dep i = nI a) : q_R0 (P + 1) w b (p_ad V P (nI kd) g (nI pt) du dep) ∧ q_r13 (p_ad V P (nI kd) g (nI pt) du dep) := by
  refine q_RR_add (dep := dep) hR h13 hP hk hg ht hd hdp (fun c h1 h2 h3 h4 h5 => p_ad_o h2 h3 h4 (fun z => by rw [z] at h1; cases h1) h5) (fun i hi => ?_) ?_ (fun i h1 h2 => ?_) ?_ ?_ ?_ ?_ ?_ ?_ ?_ ?_ (fun i hi => p_ad_d hi) (p_ad_100 hP) (p_ad_101 hP) (p_ad_102 hP) (p_ad_103 hP) (p_ad_104 hP) (p_ad_105 hP) (fun i hi => ?_) (fun q i hq hqP hi => ?_) (p_ad_107 hP)
  · rw [p_ad_0]
    unfold upd
    rw [if_neg hi]
  · rw [p_ad_0]
    rfl
  · rw [p_ad_97 hP]
    unfold upd
    rw [if_neg h2]
  · rw [p_ad_97 hP]
    rfl
  · rw [p_ad_o (by decide) (by omega) (by omega) (by decide) (by omega)]
  · rw [p_ad_p hP]
    rfl
  · rw [p_ad_p hP]
    rfl
  · rw [p_ad_p hP]
    rfl
  · rw [p_ad_p hP]
    rfl
  · rw [p_ad_p hP]
    rfl
  · rw [p_ad_p hP]
    rfl
  · rw [p_ad_106 hP, if_pos (by omega)]
    congr 1
    omega
  · rw [p_ad_106 hP, if_neg (by omega)]
theorem p_bu_RR {P : Nat} {w : Nat → Nat} {b : Bool} {V : q_M} {p : Nat} (hR : q_R0 P w b V) (h13 : q_r13 V) (hp : p < P) : q_R0 P w b (p_bu V p) ∧ q_r13 (p_bu V p) := by
  have hP := hR.1.1
  refine q_RR_pf (j := 6) (v := 2) hR h13 hp (Or.inr (Or.inr (Or.inr rfl))) (fun c h1 h2 h3 => ?_) (fun i hi => ?_) ?_ ?_ ?_ (fun h => absurd h (by decide)) (fun h => absurd h (by decide)) (fun h => absurd h (by decide)) (fun _ => ⟨2, by omega, rfl⟩)
  · unfold p_bu
    rw [q_up_ne h3, q_up_ne h2]
  · unfold p_bu
    rw [q_up_ne (by omega), q_up_ne (by omega)]
  · unfold p_bu
    rw [q_up_ne (by omega), q_up_ne (by omega)]
  · unfold p_bu
    rw [q_up_ne (by omega), q_up_eq]
  · unfold p_bu
    show q_up (q_up V (37 + 2 * p) 6 2) 105 p 2 105 = upd (V 105) p 2
    rw [q_up_eq, q_up_ne (by omega)]
/-- the class's cells stand as in V; the reference's -/
def p_cy (V y : q_M) : Prop := (∀ c, c < 97 ∨ c = 127 → q_mc c = true → (∀ p, p < 30 → c ≠ 38 + 2 * p) → y c = V c) ∧ (∀ p i, p < 30 → i < 40 → y (38 + 2 * p) i = V (38 + 2 * p) i)
def p_my (V x : q_M) : Prop := (∀ c, 98 ≤ c → c ≤ 114 → x c = V c) ∧ (∀ j, q_ms j = true → x 97 j = V 97 j) ∧ x 126 0 = V 126 0
theorem p_cy_rf (V : q_M) : p_cy V V := ⟨fun _ _ _ _ => rfl, fun _ _ _ _ => rfl⟩
theorem p_my_rf (V : q_M) : p_my V V := ⟨fun _ _ _ => rfl, fun _ _ => rfl, rfl⟩
theorem p_fin {P : Nat} {w : Nat → Nat} {b : Bool} {V z : q_M} (hR : q_R0 P w b V) (h13 : q_r13 V) (hc : p_cy V z) (hm : p_my V z) : q_RR b z := by
  obtain ⟨z2, hz2⟩ : ∃ z2 : q_M, z2 = fun c => if 38 ≤ c ∧ c ≤ 96 ∧ c % 2 = 0 then V c else z c := ⟨_, rfl⟩
  have e : ∀ c, ¬ (38 ≤ c ∧ c ≤ 96 ∧ c % 2 = 0) → z2 c = z c := fun c h => by
    rw [hz2]
    exact if_neg h
  have ep : ∀ p, p < 30 → z2 (38 + 2 * p) = V (38 + 2 * p) := fun p h => by
    rw [hz2]
    exact if_pos (by omega)
  have hs : q_same V z2 := by
    refine ⟨fun c h => ?_, fun j hj => ?_, ?_⟩
    · by_cases k : 38 ≤ c ∧ c ≤ 96 ∧ c % 2 = 0
      · rw [hz2]
        exact if_pos k
      · rw [e c k]
        by_cases k2 : c < 97 ∨ c = 127
        · exact hc.1 c k2 h (fun p hp z => k (by omega))
        · have h2 := h
          unfold q_mc at h2
          simp only [Bool.or_eq_true, Bool.and_eq_true, decide_eq_true_eq] at h2
          exact hm.1 c (by omega) (by omega)
    · rw [e 97 (by decide)]
      exact hm.2.1 j hj
    · rw [e 126 (by decide)]
      exact hm.2.2
  obtain ⟨r1, r2, r3, r4, r5, r6, r7, r8, r9, r10, r11, r12, r14⟩ := q_R0_same hs hR
  have s13 := q_r13_same hs h13
  refine ⟨P, w, ⟨?_, ?_, ?_, ?_, ?_, ?_, ?_, ?_, ?_, ?_, ?_, ?_, ?_⟩, ?_⟩
  · unfold q_r1 at r1 ⊢; rw [e 0 (by decide), e 97 (by decide)] at r1; exact r1
  · unfold q_r2 at r2 ⊢; rw [e 0 (by decide), e 97 (by decide)] at r2; exact r2
  · unfold q_r3 at r3 ⊢; rw [e 0 (by decide), e 97 (by decide)] at r3; exact r3
  · unfold q_r4 at r4 ⊢; rw [e 0 (by decide), e 97 (by decide), e 35 (by decide), e 113 (by decide)] at r4; exact r4
  · unfold q_r5 at r5 ⊢; rw [e 13 (by decide), e 97 (by decide), e 14 (by decide), e 15 (by decide), e 16 (by decide), e 17 (by decide), e 108 (by decide), e 109 (by decide), e 110 (by decide), e 111 (by decide)] at r5; exact r5
  · unfold q_r6 at r6 ⊢; rw [e 3 (by decide), e 98 (by decide)] at r6; exact r6
  · unfold q_r7 at r7 ⊢; rw [e 34 (by decide), e 99 (by decide)] at r7; exact r7
  · intro p hp
    have h := r8 p hp
    rw [e (37 + 2 * p) (by omega), e 100 (by decide), e 101 (by decide), e 102 (by decide), e 103 (by decide), e 104 (by decide), e 105 (by decide), e 106 (by decide), ep p hp] at h
    refine ⟨h.1, h.2.1, h.2.2.1, h.2.2.2.1, h.2.2.2.2.1, h.2.2.2.2.2.1, fun i hi => ?_⟩
    rw [hc.2 p i hp hi]
    exact h.2.2.2.2.2.2 i hi
  · unfold q_r9 at r9 ⊢; rw [e 100 (by decide), e 101 (by decide), e 103 (by decide), e 104 (by decide), e 105 (by decide), e 106 (by decide)] at r9; exact r9
  · unfold q_r10 at r10 ⊢; rw [e 105 (by decide), e 106 (by decide)] at r10; exact r10
  · unfold q_r11 at r11 ⊢; rw [e 101 (by decide), e 107 (by decide)] at r11; exact r11
  · unfold q_r12 at r12 ⊢; rw [e 32 (by decide), e 112 (by decide)] at r12; exact r12
  · unfold q_r14 at r14 ⊢; rw [e 33 (by decide), e 127 (by decide), e 126 (by decide)] at r14; exact r14
  · unfold q_r13 at s13 ⊢; rw [e 36 (by decide), e 114 (by decide)] at s13; exact s13
theorem p_cy_tr {V y y' : q_M} (h : p_cy V y) (hc : ∀ c, c < 97 ∨ c = 127 → q_mc c = true → y' c = y c) : p_cy V y' := by
  refine ⟨fun c h1 h2 h3 => (hc c h1 h2).trans (h.1 c h1 h2 h3), fun p i hp hi => ?_⟩
  rw [hc _ (by omega) (q_mcP hp).2]
  exact h.2 p i hp hi
theorem p_cy_bu {V y : q_M} {p : Nat} (hp : p < 30) (h : p_cy V y) : p_cy (p_bu V p) (q_up y (37 + 2 * p) 6 2) := by
  refine ⟨fun c h1 h2 h3 => ?_, fun q i hq hi => ?_⟩
  · unfold p_bu
    rw [q_up_ne (show c ≠ 105 by omega)]
    by_cases e : c = 37 + 2 * p
    · subst e
      rw [q_up_eq, q_up_eq, h.1 _ h1 h2 h3]
    · rw [q_up_ne e, q_up_ne e]
      exact h.1 c h1 h2 h3
  · unfold p_bu
    rw [q_up_ne (by omega), q_up_ne (by omega), q_up_ne (by omega)]
    exact h.2 q i hq hi
theorem p_my_bu {V x : q_M} {p : Nat} (hp : p < 30) (h : p_my V x) : p_my (p_bu V p) (q_up x 105 p 2) := by
  refine ⟨fun c h1 h2 => ?_, fun j hj => ?_, ?_⟩
  · unfold p_bu
    by_cases e : c = 105
    · subst e
      rw [q_up_eq, q_up_eq, q_up_ne (by omega), h.1 105 (by omega) (by omega)]
    · rw [q_up_ne e, q_up_ne e, q_up_ne (by omega)]
      exact h.1 c h1 h2
  · unfold p_bu
    rw [q_up_ne (by omega), q_up_ne (by omega), q_up_ne (by omega)]
    exact h.2.1 j hj
  · unfold p_bu
    rw [q_up_ne (by omega), q_up_ne (by omega), q_up_ne (by omega)]
    exact h.2.2
theorem p_cy_ad {V y y' : q_M} {P g : Nat} {kd pt du : Int32} {dep : Nat → Int32} (hP : P < 30) (h : p_cy V y) (h1 : ∀ c, c < 97 ∨ c = 127 → q_mc c = true → c ≠ 0 → c ≠ 37 + 2 * P → c ≠ 38 + 2 * P → y' c = y c) (h2 : y' 0 = upd (y 0) 1 (nI (P + 1))) (h3 : y' (37 + 2 * P) = upd (upd (upd (upd (upd (y (37 + 2 * P)) 1 kd) 2 (nI g)) 3 pt) 4 pt) 5 du) (h4 : ∀ i, i < 40 → y' (38 + 2 * P) i = dep i) : p_cy (p_ad V P kd g pt du dep) y' := by
  refine ⟨fun c k1 k2 k3 => ?_, fun q i hq hi => ?_⟩
  · by_cases e0 : c = 0
    · subst e0
      rw [p_ad_0, h2, h.1 0 k1 k2 k3]
    · by_cases e1 : c = 37 + 2 * P
      · subst e1
        rw [p_ad_p hP, h3, h.1 _ k1 k2 k3]
      · rw [p_ad_o e0 e1 (k3 P hP) (by omega) (by omega), h1 c k1 k2 e0 e1 (k3 P hP)]
        exact h.1 c k1 k2 k3
  · by_cases e : q = P
    · subst e
      rw [p_ad_d hi]
      exact h4 i hi
    · rw [p_ad_o (by omega) (by omega) (by omega) (by omega) (by omega), h1 _ (by omega) (q_mcP hq).2 (by omega) (by omega) (by omega)]
      exact h.2 q i hq hi
theorem p_my_ad {V x x' : q_M} {P g : Nat} {kd pt du : Int32} {dep : Nat → Int32} (hP : P < 30) (h : p_my V x) (h1 : ∀ c, c ≠ 106 → x' c = q_np x P g kd pt du c) (h2 : ∀ i, i < 40 → x' 106 (40 * P + i) = dep i) (h3 : ∀ j, j < 40 * P ∨ 40 * P + 40 ≤ j → x' 106 j = x 106 j) : p_my (p_ad V P kd g pt du dep) x' := by
  refine ⟨fun c k1 k2 => ?_, fun j hj => ?_, ?_⟩
  · by_cases e6 : c = 106
    · subst e6
      funext j
      rw [p_ad_106 hP]
      by_cases k : 40 * P ≤ j ∧ j < 40 * P + 40
      · rw [if_pos k]
        have := h2 (j - 40 * P) (by omega)
        rw [show 40 * P + (j - 40 * P) = j by omega] at this
        exact this
      · rw [if_neg k, h3 j (by omega), h.1 106 (by omega) (by omega)]
    · rw [h1 c e6]
      by_cases k : c < 100 ∨ 107 < c
      · rw [q_np_ne (by omega) k, p_ad_o (by omega) (by omega) (by omega) (by omega) k]
        exact h.1 c k1 k2
      · rcases (by omega : c = 100 ∨ c = 101 ∨ c = 102 ∨ c = 103 ∨ c = 104 ∨ c = 105 ∨ c = 107) with rfl | rfl | rfl | rfl | rfl | rfl | rfl
        · rw [p_ad_100 hP, q_np_100, h.1 100 (by omega) (by omega)]
        · rw [p_ad_101 hP, q_np_101, h.1 101 (by omega) (by omega)]
        · rw [p_ad_102 hP, q_np_102, h.1 102 (by omega) (by omega)]
        · rw [p_ad_103 hP, q_np_103, h.1 103 (by omega) (by omega)]
        · rw [p_ad_104 hP, q_np_104, h.1 104 (by omega) (by omega)]
        · rw [p_ad_105 hP, q_np_105, h.1 105 (by omega) (by omega)]
        · rw [p_ad_107 hP, q_np_107, h.1 107 (by omega) (by omega)]
  · rw [h1 97 (by decide), p_ad_97 hP, q_np_97]
    unfold upd
    by_cases e : j = 4
    · rw [if_pos e, if_pos e]
    · rw [if_neg e, if_neg e]
      exact h.2.1 j hj
  · rw [h1 126 (by decide), q_np_ne (by decide) (by omega), p_ad_o (by decide) (by omega) (by omega) (by decide) (by omega)]
    exact h.2.2
/-- a deed: stock s and foil f are burnt, a rest v gets a new pair -/
def p_V1 (V : q_M) (s f : Nat) : q_M := p_bu (p_bu V s) f
def p_g0 (V : q_M) : Nat := (p_gn V).getD 0
def p_dp (w : Nat → Nat) (v : Nat) : Nat → Int32 := p_cw (fun _ => 0) w v 5
def p_V2 (V : q_M) (w : Nat → Nat) (P s f v : Nat) (du : Int32) : q_M := p_ad (p_V1 V s f) P 1 (p_g0 V) (V 103 s) du (p_dp w v)
def p_de (V : q_M) (w : Nat → Nat) (P s f v : Nat) (du : Int32) : q_M := if v = 0 then p_V1 V s f else p_ad (p_V2 V w P s f v du) (P + 1) 2 (p_g0 V) (V 103 f) du (p_dp w v)
def p_dP (P v : Nat) : Nat := if v = 0 then P else P + 2
theorem p_de_RR {P : Nat} {w : Nat → Nat} {b : Bool} {V : q_M} {s f v : Nat} {du : Int32} (hR : q_R0 P w b V) (h13 : q_r13 V) (hs : s < P) (hf : f < P) (hv : v = 0 ∨ P + 2 ≤ 30) (hd : -1 ≤ du.toInt ∧ du.toInt ≤ 9999) : q_R0 (p_dP P v) w b (p_de V w P s f v du) ∧ q_r13 (p_de V w P s f v du) := by
  have a1 := p_bu_RR hR h13 hs
  have a2 := p_bu_RR a1.1 a1.2 hf
  unfold p_de p_dP
  by_cases c : v = 0
  · rw [if_pos c, if_pos c]
    exact a2
  · rw [if_neg c, if_neg c]
    obtain ⟨ps, hps, es⟩ := (hR.2.2.2.2.2.2.2.2.1 s hs).2.2.1
    obtain ⟨pf, hpf, ef⟩ := (hR.2.2.2.2.2.2.2.2.1 f hf).2.2.1
    obtain ⟨g, hg, hg9⟩ := p_gn_sp hR.1.1 hR.2.2.2.2.2.2.2.2.2.2.1
    have e0 : p_g0 V = g := by
      unfold p_g0
      rw [hg]
      rfl
    have hdp : ∀ i, i < 40 → ∃ a, a ≤ 9 ∧ p_dp w v i = nI a := fun i _ => p_cw_rg (dep := fun _ => 0) (w := w) (v := v) (i := i) ⟨0, by omega, rfl⟩ 5
    have a3 := p_ad_RR (kd := 1) (g := g) (pt := ps) (dep := p_dp w v) a2.1 a2.2 (by omega) (by omega) (by omega) hps hd hdp
    have a4 := p_ad_RR (kd := 2) (g := g) (pt := pf) (dep := p_dp w v) a3.1 a3.2 (by omega) (by omega) (by omega) hpf hd hdp
    unfold p_V2
    rw [e0, es, ef]
    exact a4
theorem t_leave (d : Nat) (b : Bool) (V y : q_M) (w : Nat → Nat) (P s f v : Nat) (du : Int32) (hR : q_R0 P w b V) (hcy : p_cy V y) (hs : s < P) (hf : f < P) (h9 : y 9 s = nI f) (hv8 : v ≤ 100000000) (hv : v = 0 ∨ (q_ko w v = true ∧ P + 2 ≤ 30)) (Q : Option Int32 → q_H → Prop) (hQ : ∀ y', (∀ c, 5 ≤ c ∧ c ≤ 31 → y' c = y c) → (∀ c, 97 ≤ c → y' c = y c) → p_cy (p_de V w P s f v du) y' → Q none (q_hp b y')) : q_Wm (d + 3) 93 [vr 0, vi (nI s), vi (nI v), vi du] (q_hp b y) Q := by
  have hP := hR.1.1
  have hs3 : s < 30 := by omega
  have hf3 : f < 30 := by omega
  have r8 := hR.2.2.2.2.2.2.2.1
  have b1 := p_cy_bu hf3 (p_cy_bu hs3 hcy)
  obtain ⟨y1, hy1⟩ : ∃ y1, y1 = q_up (q_up y (37 + 2 * s) 6 2) (37 + 2 * f) 6 2 := ⟨_, rfl⟩
  rw [← hy1] at b1
  have k1 : ∀ c, c < 37 ∨ 96 < c → y1 c = y c := fun c z => by rw [hy1, q_up_ne (by omega), q_up_ne (by omega)]
  unfold q_Wm
  iterate 3 (refine q_wst rfl rfl rfl ?_)
  refine q_wpc s rfl hs3 rfl ?_
  iterate 7 (refine q_wst rfl rfl rfl ?_)
  refine q_wrd s rfl hs3 rfl (q_at9 b) (by decide) ?_
  refine q_wpc f h9 hf3 rfl ?_
  iterate 3 (refine q_wst rfl rfl rfl ?_)
  refine q_wpi rfl (q_atP b s hs3) rfl rfl ?_
  iterate 2 (refine q_wst rfl rfl rfl ?_)
  refine q_wpi rfl (q_atP b f hf3) rfl rfl ?_
  refine q_wh (h' := q_hp b y1) (by rw [hy1]) ?_
  iterate 2 (refine q_wst rfl rfl rfl ?_)
  refine q_wif (fun c => ?_) (fun c => ?_)
  · have c : nI v ≤ nI 0 := c
    have c := (nI_leI (by omega) (by omega)).mp c
    refine q_wrv rfl rfl rfl (hQ y1 (fun c z => k1 c (by omega)) (fun c z => k1 c (by omega)) ?_)
    unfold p_de
    rw [if_pos (by omega)]
    exact b1
  · have v0 : ¬ v = 0 := fun z => c (show nI v ≤ nI 0 by rw [z]; exact nI_le (Nat.le_refl 0) (by omega))
    obtain ⟨hko, hP2⟩ : q_ko w v = true ∧ P + 2 ≤ 30 := by
      rcases hv with z | z
      · exact absurd z v0
      · exact z
    have h5 : q_kw w v 5 ≤ 41 := by
      unfold q_ko at hko
      rw [Bool.and_eq_true] at hko
      exact of_decide_eq_true hko.2
    have hw := q_R_w hR
    obtain ⟨g, hg, hg9⟩ := p_gn_sp hP hR.2.2.2.2.2.2.2.2.2.2.1
    have e0 : p_g0 V = g := by
      unfold p_g0
      rw [hg]
      rfl
    have yP : ∀ p, p < 30 → ∀ j, j ≠ 6 → y1 (37 + 2 * p) j = V (37 + 2 * p) j := fun p hp j hj => by
      rw [b1.1 _ (by omega) (q_mcP hp).1 (fun q hq => by omega)]
      unfold p_bu
      unfold q_up
      by_cases z1 : 37 + 2 * p = 105
      · omega
      · rw [if_neg z1]
        by_cases z2 : 37 + 2 * p = 37 + 2 * f
        · rw [if_pos z2, if_neg hj, if_neg z1]
          by_cases z3 : 37 + 2 * p = 37 + 2 * s
          · rw [if_pos z3, if_neg hj]
          · rw [if_neg z3]
        · rw [if_neg z2, if_neg z1]
          by_cases z3 : 37 + 2 * p = 37 + 2 * s
          · rw [if_pos z3, if_neg hj]
          · rw [if_neg z3]
    have yd : ∀ p i, p < 30 → i < 40 → y1 (38 + 2 * p) i = V (38 + 2 * p) i := fun p i hp hi => by
      rw [b1.2 p i hp hi]
      unfold p_bu
      rw [q_up_ne (by omega), q_up_ne (by omega), q_up_ne (by omega), q_up_ne (by omega)]
    have y03 : y1 3 = V 3 ∧ y1 0 = V 0 := by
      refine ⟨?_, ?_⟩
      · rw [k1 3 (by omega)]
        exact hcy.1 3 (by omega) rfl (fun p hp => by omega)
      · rw [k1 0 (by omega)]
        exact hcy.1 0 (by omega) rfl (fun p hp => by omega)
    iterate 3 (refine q_wst rfl rfl rfl ?_)
    refine q_wcl rfl rfl rfl ?_
    refine t_compose _ b y1 w v hv8 (fun i h1 h2 => by rw [y03.1]; exact ⟨(hw i h1 h2).1, (hw i h1 h2).2.2.1, (hw i h1 h2).2.2.2⟩) _ (fun y2 g1 g2 => ?_)
    rw [if_pos hko]
    have b2 : p_cy (p_V1 V s f) y2 := p_cy_tr b1 (fun c z1 z2 => g1 c (fun z => by rw [z] at z2; cases z2))
    iterate 1 (refine q_wst rfl rfl rfl ?_)
    refine q_wif (fun c => absurd (show (1 : Int32) = 0 from c) (by decide)) (fun _ => ?_)
    iterate 3 (refine q_wst rfl rfl rfl ?_)
    refine q_wcl rfl rfl rfl ?_
    refine t_newGrain _ b y2 V P g hP (by rw [g1 0 (by decide), y03.2]; exact hR.1.2.1) (fun p hp => ?_) hR.2.2.2.2.2.2.2.2.2.2.1 hg _ ?_
    · rw [g1 _ (by omega), yP p (by omega) 2 (by decide)]
      exact (r8 p (by omega)).2.1
    · iterate 1 (refine q_wst rfl rfl rfl ?_)
      refine q_wgi rfl (q_atP b s hs3) rfl rfl ?_
      iterate 1 (refine q_wst rfl rfl rfl ?_)
      refine q_wcl rfl rfl rfl ?_
      have ehs : y2 (37 + 2 * s) 4 = V 103 s := by
        rw [g1 _ (by omega), yP s hs3 4 (by decide)]
        exact (r8 s hs3).2.2.2.1
      have ehf : y2 (37 + 2 * f) 4 = V 103 f := by
        rw [g1 _ (by omega), yP f hf3 4 (by decide)]
        exact (r8 f hf3).2.2.2.1
      refine t_addPiece _ b y2 (P := P) (by omega) (by rw [g1 0 (by decide), y03.2]; exact hR.1.2.1) 1 (nI g) (y2 (37 + 2 * s) 4) du _ ?_
      obtain ⟨y3, hy3⟩ : ∃ y3, y3 = q_up (q_bg y2 P 1 (nI g) (y2 (37 + 2 * s) 4) du) 0 1 (nI (P + 1)) := ⟨_, rfl⟩
      rw [← hy3]
      have k3 : ∀ c, c ≠ 0 → c ≠ 37 + 2 * P → y3 c = y2 c := fun c z1 z2 => by rw [hy3, q_up_ne z1, q_bg_ne z2]
      have k30 : y3 0 = upd (y2 0) 1 (nI (P + 1)) := by rw [hy3, q_up_eq, q_bg_ne (by omega)]
      have k3p : y3 (37 + 2 * P) = upd (upd (upd (upd (upd (y2 (37 + 2 * P)) 1 1) 2 (nI g)) 3 (V 103 s)) 4 (V 103 s)) 5 du := by rw [hy3, q_up_ne (by omega), q_bg_eq, ehs]
      have y3d : ∀ i, i < 40 → y3 (38 + 2 * P) i = 0 := fun i hi => by
        rw [k3 _ (by omega) (by omega), g1 _ (by omega), yd P i (by omega) hi, (r8 P (by omega)).2.2.2.2.2.2 i hi]
        exact (hR.2.2.2.2.2.2.2.2.2.1 P (Nat.le_refl P) (by omega)).2 i hi
      iterate 6 (refine q_wst rfl rfl rfl ?_)
      refine q_wpc P rfl (by omega) rfl ?_
      refine q_wcl rfl rfl rfl ?_
      refine t_ccarve _ b y3 P w v (by omega) (fun i h1 h2 => by rw [k3 4 (by decide) (by omega)]; exact g2 i h1 h2) h5 _ (fun y4 m1 m2 => ?_)
      have b4 : p_cy (p_V2 V w P s f v du) y4 := by
        unfold p_V2
        rw [e0]
        refine p_cy_ad (by omega) b2 (fun c z1 z2 z3 z4 z5 => ?_) ?_ ?_ (fun i hi => ?_)
        · rw [m1 c z5, k3 c z3 z4]
        · rw [m1 0 (by omega), k30]
        · rw [m1 _ (by omega), k3p]
        · rw [m2]
          exact p_cw_cg (y3d i hi) 5
      iterate 5 (refine q_wst rfl rfl rfl ?_)
      refine q_wpc P rfl (by omega) rfl ?_
      iterate 1 (refine q_wst rfl rfl rfl ?_)
      refine q_wgi rfl (q_atP b f hf3) rfl rfl ?_
      refine q_wcl rfl rfl rfl ?_
      refine t_addCopy _ b y4 (P := P + 1) (p := P) (by omega) (by omega) (by rw [m1 0 (by omega), k30]; rfl) 2 (y4 (37 + 2 * f) 4) _ (fun y5 hq => ?_)
      obtain ⟨q1, q2, q3, q4⟩ := hq
      have e4P : y4 (37 + 2 * P) = y3 (37 + 2 * P) := m1 _ (by omega)
      have e4f : y4 (37 + 2 * f) 4 = V 103 f := by rw [m1 _ (by omega), k3 _ (by omega) (by omega), ehf]
      iterate 1 (refine q_wst rfl rfl rfl ?_)
      refine q_wrv rfl rfl rfl (hQ y5 (fun c z => ?_) (fun c z => ?_) ?_)
      · rw [q1 c (by omega) (by omega) (by omega), m1 c (by omega), k3 c (by omega) (by omega), g1 c (by omega)]
        exact k1 c (by omega)
      · rw [q1 c (by omega) (by omega) (by omega), m1 c (by omega), k3 c (by omega) (by omega), g1 c (by omega)]
        exact k1 c (by omega)
      · unfold p_de
        rw [if_neg v0, e0]
        refine p_cy_ad (by omega) b4 (fun c z1 z2 z3 z4 z5 => q1 c z3 z4 z5) q2 ?_ (fun i hi => ?_)
        · rw [q3, e4f, e4P, k3p]
          rfl
        · rw [q4 i hi, m2]
          exact p_cw_cg (y3d i hi) 5
