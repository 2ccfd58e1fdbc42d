/-! rules for fields of cells by symbolic numbers; the relation between the class's cells and the reference's -/
section QW
variable {X : q_X} {d k pc : Nat} {pl : q_L} {st : List q_V} {h : q_H} {Q : Option Int32 → q_H → Prop}
theorem q_wgi {i a j : Nat} {cc : Int32} {r : Nat} {sl : List (Option (Option Nat))} (hc : q_cd k pc = some (.getfield i, a, j, cc)) (hr : h.1[r]? = some (.inl (a, sl))) (hb : Nat.blt j (q_nf a) = true) (hs : sl[j]? = some none) (g : q_WP X d k (pc + 3) pl (.inl (h.2 r j) :: st) h Q) : q_WP X d k pc pl (.inr (.inl (some r)) :: st) h Q := by
  refine q_wst hc rfl ?_ g
  show q_gf a j pc pl (.inr (.inl (some r)) :: st) h = _
  unfold q_gf
  try dsimp only
  rw [hr]
  try dsimp only
  rw [hb, show Nat.beq a a = true from Nat.beq_refl a]
  simp only [Bool.and_self, cond_true]
  rw [hs]
theorem q_wgr {i a j v : Nat} {cc : Int32} {r : Nat} {sl : List (Option (Option Nat))} (hc : q_cd k pc = some (.getfield i, a, j, cc)) (hr : h.1[r]? = some (.inl (a, sl))) (hb : Nat.blt j (q_nf a) = true) (hs : sl[j]? = some (some (some v))) (g : q_WP X d k (pc + 3) pl (.inr (.inl (some v)) :: st) h Q) : q_WP X d k pc pl (.inr (.inl (some r)) :: st) h Q := by
  refine q_wst hc rfl ?_ g
  show q_gf a j pc pl (.inr (.inl (some r)) :: st) h = _
  unfold q_gf
  try dsimp only
  rw [hr]
  try dsimp only
  rw [hb, show Nat.beq a a = true from Nat.beq_refl a]
  simp only [Bool.and_self, cond_true]
  rw [hs]
theorem q_wpi {i a j : Nat} {cc : Int32} {r : Nat} {x : Int32} {sl : List (Option (Option Nat))} (hc : q_cd k pc = some (.putfield i, a, j, cc)) (hr : h.1[r]? = some (.inl (a, sl))) (hb : (Nat.blt j (q_nf a) && q_isI a j) = true) (hs : sl[j]? = some none) (g : q_WP X d k (pc + 3) pl st (h.1, q_up h.2 r j x) Q) : q_WP X d k pc pl (.inl x :: .inr (.inl (some r)) :: st) h Q := by
  refine q_wst hc rfl ?_ g
  show q_pf a j pc pl (.inl x :: .inr (.inl (some r)) :: st) h = _
  unfold q_pf
  try dsimp only
  rw [hr]
  try dsimp only
  rw [Bool.and_assoc, hb, show Nat.beq a a = true from Nat.beq_refl a]
  simp only [Bool.and_self, cond_true]
  rw [hs]
end QW
/-- the cells that mean something between the calls -/
def q_mc (c : Nat) : Bool := decide (c = 0) || decide (c = 3) || (decide (13 ≤ c) && decide (c ≤ 17)) || (decide (32 ≤ c) && decide (c ≤ 96)) || (decide (98 ≤ c) && decide (c ≤ 114)) || decide (c = 127)
def q_ms (j : Nat) : Bool := decide (j = 0) || decide (j = 3) || decide (j = 4) || decide (j = 13) || decide (j = 19)
def q_same (m m' : q_M) : Prop := (∀ c, q_mc c = true → m' c = m c) ∧ (∀ j, q_ms j = true → m' 97 j = m 97 j) ∧ m' 126 0 = m 126 0
theorem q_same_rf (m : q_M) : q_same m m := ⟨fun _ _ => rfl, fun _ _ => rfl, rfl⟩
theorem q_same_tr {a b c : q_M} (h1 : q_same a b) (h2 : q_same b c) : q_same a c := ⟨fun k hk => (h2.1 k hk).trans (h1.1 k hk), fun k hk => (h2.2.1 k hk).trans (h1.2.1 k hk), h2.2.2.trans h1.2.2⟩
/-- a write to a cell that means nothing -/
theorem q_same_up {m m' : q_M} {c j : Nat} {v : Int32} (h : q_same m m') (hc : q_mc c = false) (h97 : c = 97 → q_ms j = false) (h126 : c = 126 → j ≠ 0) : q_same m (q_up m' c j v) := by
  refine ⟨fun k hk => ?_, fun i hi => ?_, ?_⟩
  · rw [q_up_ne (fun e => by rw [e, hc] at hk; cases hk)]
    exact h.1 k hk
  · unfold q_up
    by_cases e : 97 = c
    · rw [if_pos e, if_neg (fun e2 => by rw [e2, h97 e.symm] at hi; cases hi)]
      exact h.2.1 i hi
    · rw [if_neg e]
      exact h.2.1 i hi
  · unfold q_up
    by_cases e : 126 = c
    · rw [if_pos e, if_neg (fun e2 => h126 e.symm e2.symm)]
      exact h.2.2
    · rw [if_neg e]
      exact h.2.2
/-- the fewest counters for v, -1: none; w: the worths -/
def q_Fm (w : Nat → Nat) (f : Nat → Int32) (v : Nat) : Nat → Int32
  | 0 => -1
  | i + 1 => let b := q_Fm w f v i
    if w (i + 1) ≤ v ∧ ¬ f (v - w (i + 1)) < 0 ∧ (b < 0 ∨ f (v - w (i + 1)) + 1 < b) then f (v - w (i + 1)) + 1 else b
def q_Ft (w : Nat → Nat) : Nat → (Nat → Int32)
  | 0 => fun _ => 0
  | v + 1 => fun u => if u = v + 1 then q_Fm w (q_Ft w v) (v + 1) 5 else q_Ft w v u
/-- the table's entry -/
def q_F (w : Nat → Nat) (v : Nat) : Int32 := q_Ft w v v
def q_r1 (P : Nat) (m : q_M) : Prop := P ≤ 30 ∧ m 0 1 = nI P ∧ m 97 4 = nI P
def q_r2 (m : q_M) : Prop := ∃ S, S ≤ 3 ∧ m 0 5 = nI S ∧ m 97 3 = nI S
def q_r3 (m : q_M) : Prop := ∃ D, D ≤ 9999 ∧ m 0 7 = nI D ∧ m 97 0 = nI D
def q_r4 (m : q_M) : Prop := ∃ T, T ≤ 30 ∧ m 0 13 = nI T ∧ m 97 19 = nI T ∧ ∀ i, i < T → m 35 i = m 113 i
def q_r5 (m : q_M) : Prop := ∃ G, G ≤ 80 ∧ m 13 4 = nI G ∧ m 97 13 = nI G ∧ ∀ i, i < G → m 14 i = m 108 i ∧ m 15 i = m 109 i ∧ m 16 i = m 110 i ∧ m 17 i = m 111 i
def q_r6 (w : Nat → Nat) (m : q_M) : Prop := (∀ i, i ≤ 5 → m 3 i = nI (w i) ∧ m 98 i = nI (w i)) ∧ w 0 = 0 ∧ (∀ i, i < 5 → w i < w (i + 1)) ∧ w 5 ≤ 100000 ∧ m 3 6 = 100001
def q_r7 (m : q_M) : Prop := ∀ i, 1 ≤ i → i ≤ 5 → m 34 i = m 99 i
def q_r8 (P : Nat) (m : q_M) : Prop := ∀ p, p < 30 → m (37 + 2 * p) 1 = m 100 p ∧ m (37 + 2 * p) 2 = m 101 p ∧ m (37 + 2 * p) 3 = m 102 p ∧ m (37 + 2 * p) 4 = m 103 p ∧ (p < P → m (37 + 2 * p) 5 = m 104 p) ∧ m (37 + 2 * p) 6 = m 105 p ∧ ∀ i, i < 40 → m (38 + 2 * p) i = m 106 (40 * p + i)
def q_r9 (P : Nat) (m : q_M) : Prop := ∀ p, p < P → (∃ a, a ≤ 3 ∧ m 100 p = nI a) ∧ (∃ a, a ≤ 99 ∧ m 101 p = nI a) ∧ (∃ a, a ≤ 7 ∧ m 103 p = nI a) ∧ (∃ a, a ≤ 2 ∧ m 105 p = nI a) ∧ (-1 ≤ (m 104 p).toInt ∧ (m 104 p).toInt ≤ 9999) ∧ ∀ i, i < 40 → ∃ a, a ≤ 9 ∧ m 106 (40 * p + i) = nI a
def q_r10 (P : Nat) (m : q_M) : Prop := ∀ p, P ≤ p → p < 30 → m 105 p = 0 ∧ ∀ i, i < 40 → m 106 (40 * p + i) = 0
def q_r11 (P : Nat) (m : q_M) : Prop := ∀ g, g < 100 → ((∃ p, p < P ∧ m 101 p = nI g) → m 107 g = 1) ∧ ((∀ p, p < P → m 101 p ≠ nI g) → m 107 g = 0)
def q_r12 (m : q_M) : Prop := ∀ i, i < 8 → m 32 i = m 112 i
def q_r13 (m : q_M) : Prop := ∀ i, i < 6 → m 36 i = m 114 i
def q_r14 (w : Nat → Nat) (b : Bool) (m : q_M) : Prop := m 126 0 = 0 ∧ ∃ rk, rk ≤ 20000 ∧ m 33 2 = nI rk ∧ (b = false → rk = 0) ∧ (b = true → ∀ v, v ≤ rk → m 127 v = q_F w v)
/-- all but the findings -/
def q_R0 (P : Nat) (w : Nat → Nat) (b : Bool) (m : q_M) : Prop := q_r1 P m ∧ q_r2 m ∧ q_r3 m ∧ q_r4 m ∧ q_r5 m ∧ q_r6 w m ∧ q_r7 m ∧ q_r8 P m ∧ q_r9 P m ∧ q_r10 P m ∧ q_r11 P m ∧ q_r12 m ∧ q_r14 w b m
def q_RR (b : Bool) (m : q_M) : Prop := ∃ (P : Nat) (w : Nat → Nat), q_R0 P w b m ∧ q_r13 m
theorem q_r8_ag {P : Nat} {m m' : q_M} (h : ∀ c, (37 ≤ c ∧ c ≤ 96) ∨ (100 ≤ c ∧ c ≤ 106) → m' c = m c) (r : q_r8 P m) : q_r8 P m' := by
  intro p hp
  rw [h (37 + 2 * p) (by omega), h (38 + 2 * p) (by omega), h 100 (by omega), h 101 (by omega), h 102 (by omega), h 103 (by omega), h 104 (by omega), h 105 (by omega), h 106 (by omega)]
  exact r p hp
theorem q_R0_same {P : Nat} {w : Nat → Nat} {b : Bool} {m m' : q_M} (hs : q_same m m') (h : q_R0 P w b m) : q_R0 P w b m' := by
  obtain ⟨a, s7, s6⟩ := hs
  have A : ∀ c, q_mc c = true → m' c = m c := a
  obtain ⟨r1, r2, r3, r4, r5, r6, r7, r8, r9, r10, r11, r12, r14⟩ := h
  refine ⟨?_, ?_, ?_, ?_, ?_, ?_, ?_, ?_, ?_, ?_, ?_, ?_, ?_⟩
  · unfold q_r1; rw [A 0 rfl, s7 4 rfl]; exact r1
  · unfold q_r2; rw [A 0 rfl, s7 3 rfl]; exact r2
  · unfold q_r3; rw [A 0 rfl, s7 0 rfl]; exact r3
  · unfold q_r4; rw [A 0 rfl, A 35 rfl, A 113 rfl, s7 19 rfl]; exact r4
  · unfold q_r5; rw [A 13 rfl, A 14 rfl, A 15 rfl, A 16 rfl, A 17 rfl, A 108 rfl, A 109 rfl, A 110 rfl, A 111 rfl, s7 13 rfl]; exact r5
  · unfold q_r6; rw [A 3 rfl, A 98 rfl]; exact r6
  · unfold q_r7; rw [A 34 rfl, A 99 rfl]; exact r7
  · refine q_r8_ag (fun c hc => A c ?_) r8
    unfold q_mc
    simp only [Bool.or_eq_true, Bool.and_eq_true, decide_eq_true_eq]
    omega
  · unfold q_r9; rw [A 100 rfl, A 101 rfl, A 103 rfl, A 104 rfl, A 105 rfl, A 106 rfl]; exact r9
  · unfold q_r10; rw [A 105 rfl, A 106 rfl]; exact r10
  · unfold q_r11; rw [A 101 rfl, A 107 rfl]; exact r11
  · unfold q_r12; rw [A 32 rfl, A 112 rfl]; exact r12
  · unfold q_r14; rw [A 33 rfl, A 127 rfl, s6]; exact r14
theorem q_r13_same {m m' : q_M} (hs : q_same m m') (h : q_r13 m) : q_r13 m' := by
  unfold q_r13
  rw [hs.1 36 rfl, hs.1 114 rfl]
  exact h
theorem q_RR_same {b : Bool} {m m' : q_M} (hs : q_same m m') (h : q_RR b m) : q_RR b m' := by
  obtain ⟨P, w, h1, h2⟩ := h
  exact ⟨P, w, q_R0_same hs h1, q_r13_same hs h2⟩
/-- R0 does not read the findings -/
theorem q_R0_fnd {P : Nat} {w : Nat → Nat} {b : Bool} {m : q_M} {c j : Nat} {v : Int32} (hc : c = 36 ∨ c = 114) (h : q_R0 P w b m) : q_R0 P w b (q_up m c j v) := by
  have A : ∀ i, i ≠ 36 → i ≠ 114 → q_up m c j v i = m i := fun i h1 h2 => q_up_ne (by rcases hc with rfl | rfl <;> assumption)
  obtain ⟨r1, r2, r3, r4, r5, r6, r7, r8, r9, r10, r11, r12, r14⟩ := h
  refine ⟨?_, ?_, ?_, ?_, ?_, ?_, ?_, ?_, ?_, ?_, ?_, ?_, ?_⟩
  · unfold q_r1; rw [A 0 (by decide) (by decide), A 97 (by decide) (by decide)]; exact r1
  · unfold q_r2; rw [A 0 (by decide) (by decide), A 97 (by decide) (by decide)]; exact r2
  · unfold q_r3; rw [A 0 (by decide) (by decide), A 97 (by decide) (by decide)]; exact r3
  · unfold q_r4; rw [A 0 (by decide) (by decide), A 97 (by decide) (by decide), A 35 (by decide) (by decide), A 113 (by decide) (by decide)]; exact r4
  · unfold q_r5; rw [A 13 (by decide) (by decide), A 97 (by decide) (by decide), A 14 (by decide) (by decide), A 15 (by decide) (by decide), A 16 (by decide) (by decide), A 17 (by decide) (by decide), A 108 (by decide) (by decide), A 109 (by decide) (by decide), A 110 (by decide) (by decide), A 111 (by decide) (by decide)]; exact r5
  · unfold q_r6; rw [A 3 (by decide) (by decide), A 98 (by decide) (by decide)]; exact r6
  · unfold q_r7; rw [A 34 (by decide) (by decide), A 99 (by decide) (by decide)]; exact r7
  · intro p hp
    rw [A (37 + 2 * p) (by omega) (by omega), A (38 + 2 * p) (by omega) (by omega), A 100 (by decide) (by decide), A 101 (by decide) (by decide), A 102 (by decide) (by decide), A 103 (by decide) (by decide), A 104 (by decide) (by decide), A 105 (by decide) (by decide), A 106 (by decide) (by decide)]
    exact r8 p hp
  · unfold q_r9; rw [A 100 (by decide) (by decide), A 101 (by decide) (by decide), A 103 (by decide) (by decide), A 104 (by decide) (by decide), A 105 (by decide) (by decide), A 106 (by decide) (by decide)]; exact r9
  · unfold q_r10; rw [A 105 (by decide) (by decide), A 106 (by decide) (by decide)]; exact r10
  · unfold q_r11; rw [A 101 (by decide) (by decide), A 107 (by decide) (by decide)]; exact r11
  · unfold q_r12; rw [A 32 (by decide) (by decide), A 112 (by decide) (by decide)]; exact r12
  · unfold q_r14; rw [A 33 (by decide) (by decide), A 127 (by decide) (by decide), A 126 (by decide) (by decide)]; exact r14
/-- a finding on both sides -/
theorem q_RR_fnd {b : Bool} {m m3 : q_M} {j : Nat} (hR : q_RR b m) (hs : q_same (q_up m 36 j (m 36 j + 1)) m3) : q_RR b (q_up m3 114 j (m3 114 j + 1)) := by
  obtain ⟨P, w, h1, h2⟩ := hR
  refine ⟨P, w, q_R0_fnd (Or.inr rfl) (q_R0_same hs (q_R0_fnd (Or.inl rfl) h1)), ?_⟩
  intro i hi
  have e36 : m3 36 = q_up m 36 j (m 36 j + 1) 36 := hs.1 36 rfl
  have e114 : m3 114 = m 114 := (hs.1 114 rfl).trans (q_up_ne (by decide))
  show q_up m3 114 j (m3 114 j + 1) 36 i = q_up m3 114 j (m3 114 j + 1) 114 i
  rw [q_up_ne (show 36 ≠ 114 by decide), q_up_eq, e36, e114, q_up_eq]
  unfold upd
  by_cases e : i = j
  · subst e
    rw [if_pos rfl, if_pos rfl, h2 i hi]
  · rw [if_neg e, if_neg e]
    exact h2 i hi
def q_w0 (i : Nat) : Nat := [0, 1, 12, 240, 1200, 12000].getD i 0
theorem q_i8 : ∀ p, p < 30 → q_m2 (37 + 2 * p) 1 = q_m2 100 p ∧ q_m2 (37 + 2 * p) 2 = q_m2 101 p ∧ q_m2 (37 + 2 * p) 3 = q_m2 102 p ∧ q_m2 (37 + 2 * p) 4 = q_m2 103 p ∧ q_m2 (37 + 2 * p) 6 = q_m2 105 p ∧ q_m2 105 p = 0 ∧ ∀ i, i < 40 → q_m2 (38 + 2 * p) i = 0 ∧ q_m2 106 (40 * p + i) = 0 := by decide +kernel
theorem q_i7 : ∀ i, i < 6 → q_m2 34 i = q_m2 99 i ∧ q_m2 36 i = q_m2 114 i ∧ q_m2 3 i = nI (q_w0 i) ∧ q_m2 98 i = nI (q_w0 i) := by decide +kernel
theorem q_i11 : ∀ g, g < 100 → q_m2 107 g = 0 := by decide +kernel
theorem q_i12 : ∀ i, i < 8 → q_m2 32 i = q_m2 112 i := by decide +kernel
theorem q_i1 : q_m2 0 1 = nI 0 ∧ q_m2 97 4 = nI 0 ∧ q_m2 0 5 = nI 1 ∧ q_m2 97 3 = nI 1 ∧ q_m2 0 7 = nI 0 ∧ q_m2 97 0 = nI 0 ∧ q_m2 0 13 = nI 0 ∧ q_m2 97 19 = nI 0 ∧ q_m2 13 4 = nI 0 ∧ q_m2 97 13 = nI 0 ∧ q_m2 3 6 = 100001 ∧ q_m2 126 0 = 0 ∧ q_m2 33 2 = nI 0 := by decide +kernel
theorem q_RR0 : q_RR false q_m2 := by
  obtain ⟨a1, a2, a3, a4, a5, a6, a7, a8, a9, a10, a11, a12, a13⟩ := q_i1
  refine ⟨0, q_w0, ⟨⟨by omega, a1, a2⟩, ⟨1, by omega, a3, a4⟩, ⟨0, by omega, a5, a6⟩, ⟨0, by omega, a7, a8, fun i h => absurd h (by omega)⟩, ⟨0, by omega, a9, a10, fun i h => absurd h (by omega)⟩, ⟨fun i h => ⟨(q_i7 i (by omega)).2.2.1, (q_i7 i (by omega)).2.2.2⟩, rfl, by decide, by decide, a11⟩, fun i h1 h2 => (q_i7 i (by omega)).1, fun p hp => ?_, fun p hp => absurd hp (by omega), fun p h1 h2 => ⟨(q_i8 p h2).2.2.2.2.2.1, fun i hi => ((q_i8 p h2).2.2.2.2.2.2 i hi).2⟩, fun g hg => ⟨fun h => ?_, fun _ => q_i11 g hg⟩, q_i12, ⟨a12, 0, by omega, a13, fun _ => rfl, fun h => by cases h⟩⟩, fun i hi => (q_i7 i hi).2.1⟩
  · obtain ⟨b1, b2, b3, b4, b5, b6, b7⟩ := q_i8 p hp
    exact ⟨b1, b2, b3, b4, fun h => absurd h (by omega), b5, fun i hi => (b7 i hi).1.trans (b7 i hi).2.symm⟩
  · obtain ⟨p, hp, -⟩ := h
    omega
