/-! a new piece on both sides; obligation: make -/
theorem q_mcP {q : Nat} (h : q < 30) : q_mc (37 + 2 * q) = true ∧ q_mc (38 + 2 * q) = true := by
  constructor <;> (unfold q_mc; simp only [Bool.or_eq_true, Bool.and_eq_true, decide_eq_true_eq]; omega)
theorem q_nIle {a b : Nat} (ha : a < 2 ^ 31) (hb : b < 2 ^ 31) (h : nI a = nI b) : a = b := (nI_eq ha hb).mp h
theorem q_RR_add {P : Nat} {w : Nat → Nat} {b : Bool} {m m' : q_M} {kd gr pt : Nat} {du : Int32} {dep : Nat → Int32} (hR : q_R0 P w b m) (h13 : q_r13 m) (hP : P < 30) (hk : kd ≤ 3) (hg : gr ≤ 99) (ht : pt ≤ 7) (hd : -1 ≤ du.toInt ∧ du.toInt ≤ 9999) (hdp : ∀ i, i < 40 → ∃ a, a ≤ 9 ∧ dep i = nI a)
    (A : ∀ c, q_mc c = true → c ≠ 0 → c ≠ 37 + 2 * P → c ≠ 38 + 2 * P → (c < 100 ∨ 107 < c) → m' c = m c) (a0 : ∀ i, i ≠ 1 → m' 0 i = m 0 i) (a1 : m' 0 1 = nI (P + 1)) (h7 : ∀ i, q_ms i = true → i ≠ 4 → m' 97 i = m 97 i) (h74 : m' 97 4 = nI (P + 1)) (h6 : m' 126 0 = m 126 0)
    (x1 : m' (37 + 2 * P) 1 = nI kd) (x2 : m' (37 + 2 * P) 2 = nI gr) (x3 : m' (37 + 2 * P) 3 = nI pt) (x4 : m' (37 + 2 * P) 4 = nI pt) (x5 : m' (37 + 2 * P) 5 = du) (x6 : m' (37 + 2 * P) 6 = m (37 + 2 * P) 6) (xd : ∀ i, i < 40 → m' (38 + 2 * P) i = dep i)
    (y1 : m' 100 = upd (m 100) P (nI kd)) (y2 : m' 101 = upd (m 101) P (nI gr)) (y3 : m' 102 = upd (m 102) P (nI pt)) (y4 : m' 103 = upd (m 103) P (nI pt)) (y5 : m' 104 = upd (m 104) P du) (y6 : m' 105 = upd (m 105) P 0) (yd : ∀ i, i < 40 → m' 106 (40 * P + i) = dep i) (yo : ∀ q i, q < 30 → q ≠ P → i < 40 → m' 106 (40 * q + i) = m 106 (40 * q + i)) (yg : m' 107 = upd (m 107) gr 1) : q_R0 (P + 1) w b m' ∧ q_r13 m' := by
  obtain ⟨r1, r2, r3, r4, r5, r6, r7, r8, r9, r10, r11, r12, r14⟩ := hR
  have B : ∀ c, q_mc c = true → c ≠ 0 → (c < 37 ∨ 96 < c) → (c < 100 ∨ 107 < c) → m' c = m c := fun c h1 h2 h3 h4 => A c h1 h2 (by omega) (by omega) h4
  have hq : ∀ q, q < 30 → q ≠ P → m' (37 + 2 * q) = m (37 + 2 * q) ∧ m' (38 + 2 * q) = m (38 + 2 * q) := fun q h1 h2 => ⟨A _ (q_mcP h1).1 (by omega) (by omega) (by omega) (by omega), A _ (q_mcP h1).2 (by omega) (by omega) (by omega) (by omega)⟩
  have u : ∀ (f : Nat → Int32) (v : Int32) (q : Nat), upd f P v q = if q = P then v else f q := fun f v q => rfl
  refine ⟨⟨⟨hP, a1, h74⟩, ?_, ?_, ?_, ?_, ?_, ?_, ?_, ?_, ?_, ?_, ?_, ?_⟩, ?_⟩
  · unfold q_r2; rw [a0 5 (by decide), h7 3 rfl (by decide)]; exact r2
  · unfold q_r3; rw [a0 7 (by decide), h7 0 rfl (by decide)]; exact r3
  · unfold q_r4; rw [a0 13 (by decide), B 35 rfl (by decide) (by decide) (by decide), B 113 rfl (by decide) (by decide) (by decide), h7 19 rfl (by decide)]; exact r4
  · unfold q_r5; rw [B 13 rfl (by decide) (by decide) (by decide), B 14 rfl (by decide) (by decide) (by decide), B 15 rfl (by decide) (by decide) (by decide), B 16 rfl (by decide) (by decide) (by decide), B 17 rfl (by decide) (by decide) (by decide), B 108 rfl (by decide) (by decide) (by decide), B 109 rfl (by decide) (by decide) (by decide), B 110 rfl (by decide) (by decide) (by decide), B 111 rfl (by decide) (by decide) (by decide), h7 13 rfl (by decide)]; exact r5
  · unfold q_r6; rw [B 3 rfl (by decide) (by decide) (by decide), B 98 rfl (by decide) (by decide) (by decide)]; exact r6
  · unfold q_r7; rw [B 34 rfl (by decide) (by decide) (by decide), B 99 rfl (by decide) (by decide) (by decide)]; exact r7
  · intro q hq30
    obtain ⟨b1, b2, b3, b4, b5, b6, b7⟩ := r8 q hq30
    rw [y1, y2, y3, y4, y5, y6]
    by_cases e : q = P
    · subst e
      rw [x1, x2, x3, x4, x5, x6]
      simp only [u, if_true]
      exact ⟨trivial, trivial, trivial, trivial, fun _ => trivial, b6.trans (r10 q (Nat.le_refl q) hq30).1, fun i hi => by rw [xd i hi, yd i hi]⟩
    · rw [(hq q hq30 e).1, (hq q hq30 e).2]
      simp only [u, if_neg e]
      exact ⟨b1, b2, b3, b4, fun h => b5 (by omega), b6, fun i hi => by rw [yo q i hq30 e hi]; exact b7 i hi⟩
  · intro q hqP
    rw [y1, y2, y4, y5, y6]
    by_cases e : q = P
    · subst e
      simp only [u, if_true]
      exact ⟨⟨kd, hk, rfl⟩, ⟨gr, hg, rfl⟩, ⟨pt, ht, rfl⟩, ⟨0, by decide, rfl⟩, hd, fun i hi => by rw [yd i hi]; exact hdp i hi⟩
    · simp only [u, if_neg e]
      obtain ⟨b1, b2, b3, b4, b5, b6⟩ := r9 q (by omega)
      exact ⟨b1, b2, b3, b4, b5, fun i hi => by rw [yo q i (by omega) e hi]; exact b6 i hi⟩
  · intro q h1 h2
    rw [y6, u, if_neg (by omega)]
    exact ⟨(r10 q (by omega) h2).1, fun i hi => by rw [yo q i h2 (by omega) hi]; exact (r10 q (by omega) h2).2 i hi⟩
  · intro g hg100
    rw [y2, yg]
    have v : upd (m 107) gr 1 g = if g = gr then 1 else m 107 g := rfl
    rw [v]
    constructor
    · rintro ⟨q, hqP, e⟩
      by_cases hgg : g = gr
      · rw [if_pos hgg]
      · rw [if_neg hgg]
        refine (r11 g hg100).1 ⟨q, ?_, ?_⟩
        · rcases Nat.lt_or_ge q P with z | z
          · exact z
          · have : q = P := by omega
            rw [u, if_pos this] at e
            exact absurd (q_nIle (by omega) (by omega) e).symm hgg
        · by_cases e2 : q = P
          · rw [u, if_pos e2] at e
            exact absurd (q_nIle (by omega) (by omega) e).symm hgg
          · rw [u, if_neg e2] at e
            exact e
    · intro h
      by_cases hgg : g = gr
      · exact absurd (by rw [u, if_pos rfl, hgg]) (h P (by omega))
      · rw [if_neg hgg]
        refine (r11 g hg100).2 (fun q hqP e => h q (by omega) ?_)
        rw [u, if_neg (by omega)]
        exact e
  · unfold q_r12; rw [B 32 rfl (by decide) (by decide) (by decide), B 112 rfl (by decide) (by decide) (by decide)]; exact r12
  · unfold q_r14; rw [B 33 rfl (by decide) (by decide) (by decide), B 127 rfl (by decide) (by decide) (by decide), h6]; exact r14
  · unfold q_r13; rw [B 36 rfl (by decide) (by decide) (by decide), B 114 rfl (by decide) (by decide) (by decide)]; exact h13
/-- begin -/
def q_bg (m : q_M) (p : Nat) (kd gr pt du : Int32) : q_M := q_up (q_up (q_up (q_up (q_up m (37 + 2 * p) 1 kd) (37 + 2 * p) 2 gr) (37 + 2 * p) 3 pt) (37 + 2 * p) 4 pt) (37 + 2 * p) 5 du
theorem q_bg_ne {m : q_M} {p c : Nat} {kd gr pt du : Int32} (h : c ≠ 37 + 2 * p) : q_bg m p kd gr pt du c = m c := by
  unfold q_bg
  rw [q_up_ne h, q_up_ne h, q_up_ne h, q_up_ne h, q_up_ne h]
theorem q_bg_eq {m : q_M} {p : Nat} {kd gr pt du : Int32} : q_bg m p kd gr pt du (37 + 2 * p) = upd (upd (upd (upd (upd (m (37 + 2 * p)) 1 kd) 2 gr) 3 pt) 4 pt) 5 du := by
  unfold q_bg
  rw [q_up_eq, q_up_eq, q_up_eq, q_up_eq, q_up_eq]
theorem t_begin (d : Nat) (b : Bool) (m : q_M) (p : Nat) (hp : p < 30) (kd gr pt du : Int32) (Q : Option Int32 → q_H → Prop) (hQ : Q none (q_hp b (q_bg m p kd gr pt du))) : q_Wm d 34 [vr (37 + 2 * p), vi kd, vi gr, vi pt, vi du] (q_hp b m) Q := by
  unfold q_Wm
  repeat (refine q_wst rfl rfl rfl ?_)
  refine q_wpi rfl (q_atP b p hp) rfl rfl ?_
  repeat (refine q_wst rfl rfl rfl ?_)
  refine q_wpi rfl (q_atP b p hp) rfl rfl ?_
  repeat (refine q_wst rfl rfl rfl ?_)
  refine q_wpi rfl (q_atP b p hp) rfl rfl ?_
  repeat (refine q_wst rfl rfl rfl ?_)
  refine q_wpi rfl (q_atP b p hp) rfl rfl ?_
  repeat (refine q_wst rfl rfl rfl ?_)
  refine q_wpi rfl (q_atP b p hp) rfl rfl ?_
  exact q_wrv rfl rfl rfl hQ
theorem t_addPiece (d : Nat) (b : Bool) (m : q_M) {P : Nat} (hP : P < 30) (h1 : m 0 1 = nI P) (kd gr pt du : Int32) (Q : Option Int32 → q_H → Prop) (hQ : Q (some (nI P)) (q_hp b (q_up (q_bg m P kd gr pt du) 0 1 (nI (P + 1))))) : q_Wm (d + 1) 54 [vr 0, vi kd, vi gr, vi pt, vi du] (q_hp b m) Q := by
  unfold q_Wm
  repeat (refine q_wst rfl rfl rfl ?_)
  refine q_wpc P h1 hP rfl ?_
  repeat (refine q_wst rfl rfl rfl ?_)
  refine q_wcP P hP rfl rfl rfl rfl rfl ?_
  refine t_begin _ b m P hP kd gr pt du _ ?_
  have e0 : q_bg m P kd gr pt du 0 1 = nI P := by
    unfold q_bg
    rw [q_up_ne (by omega), q_up_ne (by omega), q_up_ne (by omega), q_up_ne (by omega), q_up_ne (by omega)]
    exact h1
  repeat (refine q_wst rfl rfl rfl ?_)
  refine q_wrt rfl rfl rfl ?_
  show Q (some (m 0 1)) (q_hp b (q_up (q_bg m P kd gr pt du) 0 1 (q_bg m P kd gr pt du 0 1 + 1)))
  rw [e0, h1, nI_1]
  exact hQ
def q_np (m : q_M) (P gr : Nat) (kd pt du : Int32) : q_M := q_up (q_up (q_up (q_up (q_up (q_up (q_up (q_up m 100 P kd) 101 P (nI gr)) 102 P pt) 103 P pt) 104 P du) 105 P 0) 107 gr 1) 97 4 (nI (P + 1))
theorem q_np_ne {m : q_M} {P gr c : Nat} {kd pt du : Int32} (h : c ≠ 97) (h2 : c < 100 ∨ 107 < c) : q_np m P gr kd pt du c = m c := by
  unfold q_np
  rw [q_up_ne h, q_up_ne (by omega), q_up_ne (by omega), q_up_ne (by omega), q_up_ne (by omega), q_up_ne (by omega), q_up_ne (by omega), q_up_ne (by omega)]
theorem q_np_97 {m : q_M} {P gr : Nat} {kd pt du : Int32} : q_np m P gr kd pt du 97 = upd (m 97) 4 (nI (P + 1)) := by
  unfold q_np
  rw [q_up_eq, q_up_ne (by decide), q_up_ne (by decide), q_up_ne (by decide), q_up_ne (by decide), q_up_ne (by decide), q_up_ne (by decide), q_up_ne (by decide)]
theorem q_np_106 {m : q_M} {P gr : Nat} {kd pt du : Int32} : q_np m P gr kd pt du 106 = m 106 := by
  unfold q_np
  rw [q_up_ne (by decide), q_up_ne (by decide), q_up_ne (by decide), q_up_ne (by decide), q_up_ne (by decide), q_up_ne (by decide), q_up_ne (by decide), q_up_ne (by decide)]
theorem q_np_107 {m : q_M} {P gr : Nat} {kd pt du : Int32} : q_np m P gr kd pt du 107 = upd (m 107) gr 1 := by
  unfold q_np
  rw [q_up_ne (by decide), q_up_eq, q_up_ne (by decide), q_up_ne (by decide), q_up_ne (by decide), q_up_ne (by decide), q_up_ne (by decide), q_up_ne (by decide)]
theorem q_np_100 {m : q_M} {P gr : Nat} {kd pt du : Int32} : q_np m P gr kd pt du 100 = upd (m 100) P kd := by
  unfold q_np
  rw [q_up_ne (by decide), q_up_ne (by decide), q_up_ne (by decide), q_up_ne (by decide), q_up_ne (by decide), q_up_ne (by decide), q_up_ne (by decide), q_up_eq]
theorem q_np_101 {m : q_M} {P gr : Nat} {kd pt du : Int32} : q_np m P gr kd pt du 101 = upd (m 101) P (nI gr) := by
  unfold q_np
  rw [q_up_ne (by decide), q_up_ne (by decide), q_up_ne (by decide), q_up_ne (by decide), q_up_ne (by decide), q_up_ne (by decide), q_up_eq, q_up_ne (by decide)]
theorem q_np_102 {m : q_M} {P gr : Nat} {kd pt du : Int32} : q_np m P gr kd pt du 102 = upd (m 102) P pt := by
  unfold q_np
  rw [q_up_ne (by decide), q_up_ne (by decide), q_up_ne (by decide), q_up_ne (by decide), q_up_ne (by decide), q_up_eq, q_up_ne (by decide), q_up_ne (by decide)]
theorem q_np_103 {m : q_M} {P gr : Nat} {kd pt du : Int32} : q_np m P gr kd pt du 103 = upd (m 103) P pt := by
  unfold q_np
  rw [q_up_ne (by decide), q_up_ne (by decide), q_up_ne (by decide), q_up_ne (by decide), q_up_eq, q_up_ne (by decide), q_up_ne (by decide), q_up_ne (by decide)]
theorem q_np_104 {m : q_M} {P gr : Nat} {kd pt du : Int32} : q_np m P gr kd pt du 104 = upd (m 104) P du := by
  unfold q_np
  rw [q_up_ne (by decide), q_up_ne (by decide), q_up_ne (by decide), q_up_eq, q_up_ne (by decide), q_up_ne (by decide), q_up_ne (by decide), q_up_ne (by decide)]
theorem q_np_105 {m : q_M} {P gr : Nat} {kd pt du : Int32} : q_np m P gr kd pt du 105 = upd (m 105) P 0 := by
  unfold q_np
  rw [q_up_ne (by decide), q_up_ne (by decide), q_up_eq, q_up_ne (by decide), q_up_ne (by decide), q_up_ne (by decide), q_up_ne (by decide), q_up_ne (by decide)]
theorem t_newPiece (d : Nat) (b : Bool) (m : q_M) {P gr : Nat} (hP : P < 30) (h1 : m 97 4 = nI P) (hg : gr < 100) (kd pt du : Int32) (Q : Option Int32 → q_H → Prop) (hQ : Q (some (nI P)) (q_hp b (q_np m P gr kd pt du))) : q_Wm d 116 [vr 97, vi kd, vi (nI gr), vi pt, vi du] (q_hp b m) Q := by
  unfold q_Wm
  repeat (refine q_wst rfl rfl rfl ?_)
  refine q_wwr P h1 hP rfl (q_at100 b) (by decide) ?_
  repeat (refine q_wst rfl rfl rfl ?_)
  refine q_wwr P h1 hP rfl (q_at101 b) (by decide) ?_
  repeat (refine q_wst rfl rfl rfl ?_)
  refine q_wwr P h1 hP rfl (q_at102 b) (by decide) ?_
  repeat (refine q_wst rfl rfl rfl ?_)
  refine q_wwr P h1 hP rfl (q_at103 b) (by decide) ?_
  repeat (refine q_wst rfl rfl rfl ?_)
  refine q_wwr P h1 hP rfl (q_at104 b) (by decide) ?_
  repeat (refine q_wst rfl rfl rfl ?_)
  refine q_wwr P h1 hP rfl (q_at105 b) (by decide) ?_
  repeat (refine q_wst rfl rfl rfl ?_)
  refine q_wwz gr rfl hg (Or.inr rfl) rfl (q_at107 b) (by decide) ?_
  repeat (refine q_wst rfl rfl rfl ?_)
  refine q_wrt rfl rfl rfl ?_
  show Q (some (m 97 4)) (q_hp b (q_up (q_up (q_up (q_up (q_up (q_up (q_up (q_up m 100 P kd) 101 P (nI gr)) 102 P pt) 103 P pt) 104 P du) 105 P 0) 107 gr 1) 97 4 (m 97 4 + 1)))
  rw [h1, nI_1]
  exact hQ
theorem t_hasRoom (d : Nat) (b : Bool) (m : q_M) {P n : Nat} (hP : P ≤ 30) (hn : n ≤ 60) (h1 : m 0 1 = nI P) (Q : Option Int32 → q_H → Prop) (ht : P + n ≤ 30 → Q (some 1) (q_hp b m)) (hf : 30 < P + n → Q (some 0) (q_hp b m)) : q_Wm d 53 [vr 0, vi (nI n)] (q_hp b m) Q := by
  unfold q_Wm
  repeat (refine q_wst rfl rfl rfl ?_)
  refine q_wif (fun c1 => ?_) (fun c1 => ?_)
  · have c1 : (30 : Int32) < m 0 1 + nI n := c1
    rw [h1, nI_add] at c1
    repeat (refine q_wst rfl rfl rfl ?_)
    exact q_wrt rfl rfl rfl (hf ((nI_ltI (a := 30) (b := P + n) (by omega) (by omega)).mp c1))
  · have c1 : ¬ (30 : Int32) < m 0 1 + nI n := c1
    rw [h1, nI_add] at c1
    repeat (refine q_wst rfl rfl rfl ?_)
    refine q_wrt rfl rfl rfl (ht ?_)
    rcases Nat.lt_or_ge 30 (P + n) with z | z
    · exact absurd ((nI_ltI (a := 30) (b := P + n) (by omega) (by omega)).mpr z) c1
    · exact z
theorem ob_make (a1 a2 : Int32) : q_Ob q_RR 51 114 [a1, a2] := by
  intro b m hR
  obtain ⟨P, w, hR0, h13⟩ := id hR
  have r1 := hR0.1
  unfold q_Wm
  repeat (refine q_wst rfl rfl rfl ?_)
  refine q_wcl rfl rfl rfl ?_
  refine t_within _ _ _ _ _ _ (fun c1 c2 => ?_) (fun c1 => ?_)
  · obtain ⟨gr, hgr, e⟩ := nI_of2 (M := 99) (n := 99) rfl (Int32.not_lt.mpr c1) c2
    subst e
    repeat (refine q_wst rfl rfl rfl ?_)
    refine q_wcl rfl rfl rfl ?_
    refine t_isParty _ _ _ _ (fun d1 d2 => ?_) (fun d1 => ?_)
    · obtain ⟨pt, hpt, e⟩ := nI_of2 (M := 7) (n := 7) rfl (Int32.not_lt.mpr d1) d2
      subst e
      repeat (refine q_wst rfl rfl rfl ?_)
      refine q_wcl rfl rfl rfl ?_
      refine t_hasRoom (P := P) (n := 1) _ b m r1.1 (by decide) r1.2.1 _ (fun hr => ?_) (fun hr => ?_)
      · have hP : P < 30 := by omega
        repeat (refine q_wst rfl rfl rfl ?_)
        refine q_wcl rfl rfl rfl ?_
        refine t_addPiece _ b m hP r1.2.1 _ _ _ _ _ ?_
        refine q_wrt rfl rfl rfl ⟨_, rfl, b, _, rfl, ?_⟩
        have z97 : q_up (q_bg m P 0 (nI gr) (nI pt) (-1)) 0 1 (nI (P + 1)) 97 = m 97 := by
          unfold q_bg
          rw [q_up_ne (by decide), q_up_ne (by omega), q_up_ne (by omega), q_up_ne (by omega), q_up_ne (by omega), q_up_ne (by omega)]
        unfold q_Wm
        repeat (refine q_wst rfl rfl rfl ?_)
        refine q_wcl rfl rfl rfl ?_
        refine t_mwithin _ _ _ _ _ _ (fun _ _ => ?_) (fun q => absurd ⟨c1, c2⟩ q)
        repeat (refine q_wst rfl rfl rfl ?_)
        refine q_wcl rfl rfl rfl ?_
        refine t_misParty _ _ _ _ (fun _ _ => ?_) (fun q => absurd ⟨d1, d2⟩ q)
        repeat (refine q_wst rfl rfl rfl ?_)
        refine q_wif (fun _ => ?_) (fun q => absurd (fun z => ?_) q)
        · repeat (refine q_wst rfl rfl rfl ?_)
          refine q_wcl rfl rfl rfl ?_
          refine t_newPiece _ b _ hP (by rw [z97]; exact r1.2.2) (by omega) _ _ _ _ ?_
          repeat (refine q_wst rfl rfl rfl ?_)
          refine q_wrt rfl rfl rfl ⟨rfl, b, _, rfl, P + 1, w, ?_⟩
          refine q_RR_add (m := m) (kd := 0) (gr := gr) (pt := pt) (du := -1) (dep := fun _ => 0) hR0 h13 hP (by decide) hgr hpt (by decide) (fun i _ => ⟨0, by decide, rfl⟩) (fun c h1 h2 h3 h4 h5 => ?_) (fun i hi => ?_) ?_ (fun i hi hi4 => ?_) rfl ?_ ?_ ?_ ?_ ?_ ?_ ?_ (fun i hi => ?_) ?_ ?_ ?_ ?_ ?_ ?_ (fun i hi => ?_) (fun q i h1 h2 h3 => ?_) ?_
          · rw [q_np_ne (fun z => by rw [z] at h1; cases h1) h5, q_up_ne h2, q_bg_ne h3]
          · rw [q_np_ne (by decide) (by decide), q_up_eq]
            unfold upd
            rw [if_neg hi, q_bg_ne (by omega)]
          · rw [q_np_ne (by decide) (by decide), q_up_eq]
            unfold upd
            rw [if_pos rfl]
          · rw [q_np_97]
            unfold upd
            rw [if_neg hi4, z97]
          · rw [q_np_ne (by decide) (by decide), q_up_ne (by decide), q_bg_ne (by omega)]
          · rw [q_np_ne (by omega) (by omega), q_up_ne (by omega), q_bg_eq]; rfl
          · rw [q_np_ne (by omega) (by omega), q_up_ne (by omega), q_bg_eq]; rfl
          · rw [q_np_ne (by omega) (by omega), q_up_ne (by omega), q_bg_eq]; rfl
          · rw [q_np_ne (by omega) (by omega), q_up_ne (by omega), q_bg_eq]; rfl
          · rw [q_np_ne (by omega) (by omega), q_up_ne (by omega), q_bg_eq]; rfl
          · rw [q_np_ne (by omega) (by omega), q_up_ne (by omega), q_bg_eq]; rfl
          · rw [q_np_ne (by omega) (by omega), q_up_ne (by omega), q_bg_ne (by omega)]
            exact ((hR0.2.2.2.2.2.2.2.1 P hP).2.2.2.2.2.2 i hi).trans ((hR0.2.2.2.2.2.2.2.2.2.1 P (Nat.le_refl P) hP).2 i hi)
          · rw [q_np_100, q_up_ne (by decide), q_bg_ne (by omega)]; rfl
          · rw [q_np_101, q_up_ne (by decide), q_bg_ne (by omega)]
          · rw [q_np_102, q_up_ne (by decide), q_bg_ne (by omega)]
          · rw [q_np_103, q_up_ne (by decide), q_bg_ne (by omega)]
          · rw [q_np_104, q_up_ne (by decide), q_bg_ne (by omega)]
          · rw [q_np_105, q_up_ne (by decide), q_bg_ne (by omega)]
          · rw [q_np_106, q_up_ne (by decide), q_bg_ne (by omega)]
            exact (hR0.2.2.2.2.2.2.2.2.2.1 P (Nat.le_refl P) hP).2 i hi
          · rw [q_np_106, q_up_ne (by decide), q_bg_ne (by omega)]
          · rw [q_np_107, q_up_ne (by decide), q_bg_ne (by omega)]
        · have z : m 97 4 = 30 := by rw [← z97]; exact z
          rw [r1.2.2] at z
          exact absurd (q_nIle (a := P) (b := 30) (by omega) (by omega) z) (by omega)
      · repeat (refine q_wst rfl rfl rfl ?_)
        refine q_cf 4 rfl (by decide) rfl rfl rfl ⟨_, rfl, b, _, rfl, ?_⟩
        unfold q_Wm
        repeat (refine q_wst rfl rfl rfl ?_)
        refine q_wcl rfl rfl rfl ?_
        refine t_mwithin _ _ _ _ _ _ (fun _ _ => ?_) (fun q => absurd ⟨c1, c2⟩ q)
        repeat (refine q_wst rfl rfl rfl ?_)
        refine q_wcl rfl rfl rfl ?_
        refine t_misParty _ _ _ _ (fun _ _ => ?_) (fun q => absurd ⟨d1, d2⟩ q)
        repeat (refine q_wst rfl rfl rfl ?_)
        refine q_wif (fun q => absurd (by show m 97 4 = 30; rw [r1.2.2, show P = 30 by have := r1.1; omega]; rfl) q) (fun _ => ?_)
        repeat (refine q_wst rfl rfl rfl ?_)
        refine q_wcl rfl rfl rfl ?_
        refine t_mfinding _ b _ 4 _ (by decide) (by rfl) _ ?_
        repeat (refine q_wst rfl rfl rfl ?_)
        exact q_wrt rfl rfl rfl ⟨rfl, b, _, rfl, q_RR_fnd hR (q_same_rf _)⟩
    · repeat (refine q_wst rfl rfl rfl ?_)
      refine q_cf 1 rfl (by decide) rfl rfl rfl ⟨_, rfl, b, _, rfl, ?_⟩
      unfold q_Wm
      repeat (refine q_wst rfl rfl rfl ?_)
      refine q_wcl rfl rfl rfl ?_
      refine t_mwithin _ _ _ _ _ _ (fun _ _ => ?_) (fun q => absurd ⟨c1, c2⟩ q)
      repeat (refine q_wst rfl rfl rfl ?_)
      refine q_wcl rfl rfl rfl ?_
      refine t_misParty _ _ _ _ (fun x y => absurd ⟨x, y⟩ d1) (fun _ => ?_)
      repeat (refine q_wst rfl rfl rfl ?_)
      exact q_mf 1 rfl (by decide) rfl rfl rfl ⟨rfl, b, _, rfl, q_RR_fnd hR (q_same_rf _)⟩
  · repeat (refine q_wst rfl rfl rfl ?_)
    refine q_cf 1 rfl (by decide) rfl rfl rfl ⟨_, rfl, b, _, rfl, ?_⟩
    unfold q_Wm
    repeat (refine q_wst rfl rfl rfl ?_)
    refine q_wcl rfl rfl rfl ?_
    refine t_mwithin _ _ _ _ _ _ (fun x y => absurd ⟨x, y⟩ c1) (fun _ => ?_)
    repeat (refine q_wst rfl rfl rfl ?_)
    exact q_mf 1 rfl (by decide) rfl rfl rfl ⟨rfl, b, _, rfl, q_RR_fnd hR (q_same_rf _)⟩
