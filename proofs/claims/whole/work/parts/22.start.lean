def q_h1 : q_H := ([.inl (8, q_df 8)], q_zr (fun _ _ => 0) 0 1)
def q_z1 : q_Z := q_ex 3000 none 99 47 0 (q_en 47 [vr 0]) [] q_h1
def q_m1 : q_M := match q_z1 with
  | some z => z.2.2
  | none => fun _ _ => 0
def q_h2 : q_H := ((q_Sb false).take 97 ++ [.inl (9, q_df 9)], q_zr q_m1 97 1)
def q_z2 : q_Z := q_ex 3000 none 99 110 0 (q_en 110 [vr 97]) [] q_h2
def q_m2 : q_M := match q_z2 with
  | some z => z.2.2
  | none => fun _ _ => 0
def q_zok (z : q_Z) (sh : List q_S) : Bool := match z with
  | some (none, h) => decide (h.1 = sh)
  | _ => false
theorem q_z1_b : q_zok q_z1 ((q_Sb false).take 97) = true := by decide +kernel
theorem q_z2_b : q_zok q_z2 (q_Sb false) = true := by decide +kernel
theorem q_z1_ok : q_z1 = some (none, ((q_Sb false).take 97, q_m1)) := by
  have hb := q_z1_b
  unfold q_m1
  generalize q_z1 = z at hb ⊢
  rcases z with _ | ⟨_ | v, sh, m⟩
  · cases hb
  · have e : sh = (q_Sb false).take 97 := of_decide_eq_true hb
    rw [e]
  · cases hb
theorem q_z2_ok : q_z2 = some (none, (q_Sb false, q_m2)) := by
  have hb := q_z2_b
  unfold q_m2
  generalize q_z2 = z at hb ⊢
  rcases z with _ | ⟨_ | v, sh, m⟩
  · cases hb
  · have e : sh = q_Sb false := of_decide_eq_true hb
    rw [e]
  · cases hb
theorem q_Sb_room : ∀ b : Bool, (q_Sb b).length ≤ 600000 ∧ q_slo (q_Sb b) ≤ 7302250 := by decide +kernel
set_option maxRecDepth 100000 in
theorem q_law_of {R : Bool → q_M → Prop} (hR0 : R false q_m2) {L : Nat} (xs : Nat → Int32) (hL : L ≤ 320) (o0 : ∀ (a1 a2 : Int32), q_Ob R 48 111 [a1, a2]) (o1 : ∀ (a1 a2 : Int32), q_Ob R 51 114 [a1, a2]) (o2 : ∀ (a1 a2 a3 a4 : Int32), q_Ob R 55 117 [a1, a2, a3, a4]) (o3 : ∀ (a1 a2 : Int32), q_Ob R 59 122 [a1, a2]) (o4 : ∀ (a1 a2 a3 : Int32), q_Ob R 60 123 [a1, a2, a3]) (o5 : ∀ (a1 a2 : Int32), q_Ob R 63 126 [a1, a2]) (o6 : ∀ (a1 a2 : Int32), q_Ob R 64 128 [a1, a2]) (o7 : ∀ (a1 a2 : Int32), q_Ob R 65 129 [a1, a2]) (o8 : ∀ (a1 : Int32), q_Ob R 66 130 [a1]) (o9 : ∀ (a1 a2 : Int32), q_Ob R 67 131 [a1, a2]) (o10 : ∀ (a1 a2 : Int32), q_Ob R 68 132 [a1, a2]) (o11 : ∀ (a1 a2 : Int32), q_Ob R 69 133 [a1, a2]) (o12 : ∀ (a1 : Int32), q_Ob R 70 134 [a1]) (o13 : ∀ (a1 : Int32), q_Ob R 72 136 [a1]) (o14 : ∀ (a1 a2 : Int32), q_Ob R 73 137 [a1, a2]) (o15 : ∀ (_ : Unit), q_Ob R 74 139 []) (o16 : ∀ (a1 : Int32), q_Ob R 76 144 [a1]) (o17 : ∀ (a1 : Int32), q_Ob R 77 145 [a1]) (o18 : ∀ (a1 : Int32), q_Ob R 79 146 [a1]) (o19 : ∀ (a1 a2 : Int32), q_Ob R 80 147 [a1, a2]) (o20 : ∀ (a1 a2 : Int32), q_Ob R 81 148 [a1, a2]) (o21 : ∀ (a1 a2 : Int32), q_Ob R 82 149 [a1, a2]) (o22 : ∀ (a1 a2 : Int32), q_Ob R 83 150 [a1, a2]) (o23 : ∀ (a1 : Int32), q_Ob R 86 153 [a1]) (o24 : ∀ (a1 : Int32), q_Ob R 87 154 [a1]) (o25 : ∀ (_ : Unit), q_Ob R 88 159 []) (o26 : ∀ (a1 : Int32), q_Ob R 96 165 [a1]) (o27 : ∀ (a1 a2 : Int32), q_Ob R 98 168 [a1, a2]) (o28 : ∀ (a1 a2 : Int32), q_Ob R 99 169 [a1, a2]) (o29 : ∀ (a1 : Int32), q_Ob R 100 170 [a1]) (o30 : ∀ (a1 a2 : Int32), q_Ob R 101 171 [a1, a2]) (o31 : ∀ (_ : Unit), q_Ob R 102 172 []) (o32 : ∀ (_ : Unit), q_Ob R 103 173 []) (o33 : ∀ (_ : Unit), q_Ob R 104 174 []) (o34 : ∀ (a1 : Int32), q_Ob R 105 175 [a1]) (o35 : ∀ (_ : Unit), q_Ob R 106 176 []) (o36 : ∀ (a1 : Int32), q_Ob R 107 177 [a1]) (o37 : ∀ (a1 : Int32), q_Ob R 109 180 [a1]) : q_Law L xs := by
  have key : q_WP (some (L, xs)) 100 0 0 [some (.inr (.inr ())), none, none, none] [] ([], fun _ _ => 0) (fun r h => r = some 1 ∧ h.1.length ≤ 600000 ∧ q_slo h.1 ≤ 7302250) := by
    repeat (refine q_wst rfl rfl rfl ?_)
    refine q_wcl rfl rfl rfl ?_
    refine ⟨3000, none, _, q_z1_ok, ?_⟩
    repeat (refine q_wst rfl rfl rfl ?_)
    refine q_wcl rfl rfl rfl ?_
    refine ⟨3000, none, _, q_z2_ok, ?_⟩
    refine q_wst rfl rfl rfl ?_
    refine q_wst rfl rfl rfl ?_
    refine q_wst rfl rfl rfl ?_
    refine q_loop (R := R) hL (fun b m _ => ?_) o0 o1 o2 o3 o4 o5 o6 o7 o8 o9 o10 o11 o12 o13 o14 o15 o16 o17 o18 o19 o20 o21 o22 o23 o24 o25 o26 o27 o28 o29 o30 o31 o32 o33 o34 o35 o36 o37 (L + 1) 0 (by omega) (by omega) false q_m2 _ rfl hR0
    exact ⟨rfl, (q_Sb_room b).1, (q_Sb_room b).2⟩
  obtain ⟨n, r, h', a, rfl, b1, b2⟩ := key
  exact ⟨n, h', a, b1, b2⟩
