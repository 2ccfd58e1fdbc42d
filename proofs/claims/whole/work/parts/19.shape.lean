/-! what the cells are behind both constructors; b: the row of fewest() has been made -/
def q_Sb (b : Bool) : List q_S := [.inl (8, [some (some 1), none, some (some 2), some (some 5), some (some 8), none, some (some 13), none, some (some 18), some (some 30), some (some 32), some (some 33), some (some 35), none, some (some 36)]), .inr (.inr (2, [some 37, some 39, some 41, some 43, some 45, some 47, some 49, some 51, some 53, some 55, some 57, some 59, some 61, some 63, some 65, some 67, some 69, some 71, some 73, some 75, some 77, some 79, some 81, some 83, some 85, some 87, some 89, some 91, some 93, some 95])), .inl (3, [some (some 3), some (some 4)]), .inr (.inl (0, 7)), .inr (.inl (0, 6)), .inl (1, [some (some 6), some (some 7), none]), .inr (.inl (0, 20)), .inr (.inl (0, 20)), .inl (4, [some (some 9), some (some 10), none, some (some 11), some (some 12), none, none]), .inr (.inl (0, 30)), .inr (.inl (0, 30)), .inr (.inl (0, 30)), .inr (.inl (0, 30)), .inl (5, [some (some 14), some (some 15), some (some 16), some (some 17), none]), .inr (.inl (0, 80)), .inr (.inl (0, 80)), .inr (.inl (0, 80)), .inr (.inl (0, 80)), .inl (2, [some (some 19), some (some 20), some (some 21), none]), .inr (.inl (0, 30)), .inr (.inl (0, 30)), .inr (.inr (3, [some 22, some 23, some 24, some 25, some 26, some 27, some 28, some 29])), .inr (.inl (0, 8)), .inr (.inl (0, 8)), .inr (.inl (0, 8)), .inr (.inl (0, 8)), .inr (.inl (0, 8)), .inr (.inl (0, 8)), .inr (.inl (0, 8)), .inr (.inl (0, 8)), .inl (7, [some (some 31), none, none]), .inr (.inl (0, 8)), .inr (.inl (0, 8)), .inl (0, [some (some 34), some (bif b then some 127 else none), none]), .inr (.inl (0, 6)), .inr (.inl (0, 30)), .inr (.inl (0, 6)), .inl (6, [some (some 38), none, none, none, none, none, none]), .inr (.inl (0, 40)), .inl (6, [some (some 40), none, none, none, none, none, none]), .inr (.inl (0, 40)), .inl (6, [some (some 42), none, none, none, none, none, none]), .inr (.inl (0, 40)), .inl (6, [some (some 44), none, none, none, none, none, none]), .inr (.inl (0, 40)), .inl (6, [some (some 46), none, none, none, none, none, none]), .inr (.inl (0, 40)), .inl (6, [some (some 48), none, none, none, none, none, none]), .inr (.inl (0, 40)), .inl (6, [some (some 50), none, none, none, none, none, none]), .inr (.inl (0, 40)), .inl (6, [some (some 52), none, none, none, none, none, none]), .inr (.inl (0, 40)), .inl (6, [some (some 54), none, none, none, none, none, none]), .inr (.inl (0, 40)), .inl (6, [some (some 56), none, none, none, none, none, none]), .inr (.inl (0, 40)), .inl (6, [some (some 58), none, none, none, none, none, none]), .inr (.inl (0, 40)), .inl (6, [some (some 60), none, none, none, none, none, none]), .inr (.inl (0, 40)), .inl (6, [some (some 62), none, none, none, none, none, none]), .inr (.inl (0, 40)), .inl (6, [some (some 64), none, none, none, none, none, none]), .inr (.inl (0, 40)), .inl (6, [some (some 66), none, none, none, none, none, none]), .inr (.inl (0, 40)), .inl (6, [some (some 68), none, none, none, none, none, none]), .inr (.inl (0, 40)), .inl (6, [some (some 70), none, none, none, none, none, none]), .inr (.inl (0, 40)), .inl (6, [some (some 72), none, none, none, none, none, none]), .inr (.inl (0, 40)), .inl (6, [some (some 74), none, none, none, none, none, none]), .inr (.inl (0, 40)), .inl (6, [some (some 76), none, none, none, none, none, none]), .inr (.inl (0, 40)), .inl (6, [some (some 78), none, none, none, none, none, none]), .inr (.inl (0, 40)), .inl (6, [some (some 80), none, none, none, none, none, none]), .inr (.inl (0, 40)), .inl (6, [some (some 82), none, none, none, none, none, none]), .inr (.inl (0, 40)), .inl (6, [some (some 84), none, none, none, none, none, none]), .inr (.inl (0, 40)), .inl (6, [some (some 86), none, none, none, none, none, none]), .inr (.inl (0, 40)), .inl (6, [some (some 88), none, none, none, none, none, none]), .inr (.inl (0, 40)), .inl (6, [some (some 90), none, none, none, none, none, none]), .inr (.inl (0, 40)), .inl (6, [some (some 92), none, none, none, none, none, none]), .inr (.inl (0, 40)), .inl (6, [some (some 94), none, none, none, none, none, none]), .inr (.inl (0, 40)), .inl (6, [some (some 96), none, none, none, none, none, none]), .inr (.inl (0, 40)), .inl (9, [none, some (some 98), some (some 99), none, none, some (some 100), some (some 101), some (some 102), some (some 103), some (some 104), some (some 105), some (some 106), some (some 107), none, some (some 108), some (some 109), some (some 110), some (some 111), some (some 112), none, some (some 113), some (some 114), none, some (some 115), some (some 116), some (some 117), some (some 118), some (some 119), some (some 120), none, none, some (some 121), none, some (some 122), none, some (some 123), none, some (some 124), some (some 125), some (some 126)]), .inr (.inl (0, 6)), .inr (.inl (0, 6)), .inr (.inl (0, 30)), .inr (.inl (0, 30)), .inr (.inl (0, 30)), .inr (.inl (0, 30)), .inr (.inl (0, 30)), .inr (.inl (0, 30)), .inr (.inl (0, 1200)), .inr (.inl (1, 100)), .inr (.inl (0, 80)), .inr (.inl (0, 80)), .inr (.inl (0, 80)), .inr (.inl (0, 80)), .inr (.inl (0, 8)), .inr (.inl (0, 30)), .inr (.inl (0, 6)), .inr (.inl (0, 40)), .inr (.inl (0, 40)), .inr (.inl (0, 6)), .inr (.inl (0, 30)), .inr (.inl (0, 30)), .inr (.inl (0, 30)), .inr (.inl (0, 30)), .inr (.inl (0, 8)), .inr (.inl (0, 64)), .inr (.inl (0, 30)), .inr (.inl (0, 30)), .inr (.inl (0, 20001))] ++ (bif b then [.inr (.inl (0, 20001))] else [])
abbrev q_hp (b : Bool) (m : q_M) : q_H := (q_Sb b, m)
theorem q_at0 (b : Bool) : (q_Sb b)[0]? = some (.inl (8, [some (some 1), none, some (some 2), some (some 5), some (some 8), none, some (some 13), none, some (some 18), some (some 30), some (some 32), some (some 33), some (some 35), none, some (some 36)])) := rfl
theorem q_at1 (b : Bool) : (q_Sb b)[1]? = some (.inr (.inr (2, [some 37, some 39, some 41, some 43, some 45, some 47, some 49, some 51, some 53, some 55, some 57, some 59, some 61, some 63, some 65, some 67, some 69, some 71, some 73, some 75, some 77, some 79, some 81, some 83, some 85, some 87, some 89, some 91, some 93, some 95]))) := rfl
theorem q_at2 (b : Bool) : (q_Sb b)[2]? = some (.inl (3, [some (some 3), some (some 4)])) := rfl
theorem q_at3 (b : Bool) : (q_Sb b)[3]? = some (.inr (.inl (0, 7))) := rfl
theorem q_at4 (b : Bool) : (q_Sb b)[4]? = some (.inr (.inl (0, 6))) := rfl
theorem q_at5 (b : Bool) : (q_Sb b)[5]? = some (.inl (1, [some (some 6), some (some 7), none])) := rfl
theorem q_at6 (b : Bool) : (q_Sb b)[6]? = some (.inr (.inl (0, 20))) := rfl
theorem q_at7 (b : Bool) : (q_Sb b)[7]? = some (.inr (.inl (0, 20))) := rfl
theorem q_at8 (b : Bool) : (q_Sb b)[8]? = some (.inl (4, [some (some 9), some (some 10), none, some (some 11), some (some 12), none, none])) := rfl
theorem q_at9 (b : Bool) : (q_Sb b)[9]? = some (.inr (.inl (0, 30))) := rfl
theorem q_at10 (b : Bool) : (q_Sb b)[10]? = some (.inr (.inl (0, 30))) := rfl
theorem q_at11 (b : Bool) : (q_Sb b)[11]? = some (.inr (.inl (0, 30))) := rfl
theorem q_at12 (b : Bool) : (q_Sb b)[12]? = some (.inr (.inl (0, 30))) := rfl
theorem q_at13 (b : Bool) : (q_Sb b)[13]? = some (.inl (5, [some (some 14), some (some 15), some (some 16), some (some 17), none])) := rfl
theorem q_at14 (b : Bool) : (q_Sb b)[14]? = some (.inr (.inl (0, 80))) := rfl
theorem q_at15 (b : Bool) : (q_Sb b)[15]? = some (.inr (.inl (0, 80))) := rfl
theorem q_at16 (b : Bool) : (q_Sb b)[16]? = some (.inr (.inl (0, 80))) := rfl
theorem q_at17 (b : Bool) : (q_Sb b)[17]? = some (.inr (.inl (0, 80))) := rfl
theorem q_at18 (b : Bool) : (q_Sb b)[18]? = some (.inl (2, [some (some 19), some (some 20), some (some 21), none])) := rfl
theorem q_at19 (b : Bool) : (q_Sb b)[19]? = some (.inr (.inl (0, 30))) := rfl
theorem q_at20 (b : Bool) : (q_Sb b)[20]? = some (.inr (.inl (0, 30))) := rfl
theorem q_at21 (b : Bool) : (q_Sb b)[21]? = some (.inr (.inr (3, [some 22, some 23, some 24, some 25, some 26, some 27, some 28, some 29]))) := rfl
theorem q_at22 (b : Bool) : (q_Sb b)[22]? = some (.inr (.inl (0, 8))) := rfl
theorem q_at23 (b : Bool) : (q_Sb b)[23]? = some (.inr (.inl (0, 8))) := rfl
theorem q_at24 (b : Bool) : (q_Sb b)[24]? = some (.inr (.inl (0, 8))) := rfl
theorem q_at25 (b : Bool) : (q_Sb b)[25]? = some (.inr (.inl (0, 8))) := rfl
theorem q_at26 (b : Bool) : (q_Sb b)[26]? = some (.inr (.inl (0, 8))) := rfl
theorem q_at27 (b : Bool) : (q_Sb b)[27]? = some (.inr (.inl (0, 8))) := rfl
theorem q_at28 (b : Bool) : (q_Sb b)[28]? = some (.inr (.inl (0, 8))) := rfl
theorem q_at29 (b : Bool) : (q_Sb b)[29]? = some (.inr (.inl (0, 8))) := rfl
theorem q_at30 (b : Bool) : (q_Sb b)[30]? = some (.inl (7, [some (some 31), none, none])) := rfl
theorem q_at31 (b : Bool) : (q_Sb b)[31]? = some (.inr (.inl (0, 8))) := rfl
theorem q_at32 (b : Bool) : (q_Sb b)[32]? = some (.inr (.inl (0, 8))) := rfl
theorem q_at33 (b : Bool) : (q_Sb b)[33]? = some (.inl (0, [some (some 34), some (bif b then some 127 else none), none])) := rfl
theorem q_at34 (b : Bool) : (q_Sb b)[34]? = some (.inr (.inl (0, 6))) := rfl
theorem q_at35 (b : Bool) : (q_Sb b)[35]? = some (.inr (.inl (0, 30))) := rfl
theorem q_at36 (b : Bool) : (q_Sb b)[36]? = some (.inr (.inl (0, 6))) := rfl
theorem q_at97 (b : Bool) : (q_Sb b)[97]? = some (.inl (9, [none, some (some 98), some (some 99), none, none, some (some 100), some (some 101), some (some 102), some (some 103), some (some 104), some (some 105), some (some 106), some (some 107), none, some (some 108), some (some 109), some (some 110), some (some 111), some (some 112), none, some (some 113), some (some 114), none, some (some 115), some (some 116), some (some 117), some (some 118), some (some 119), some (some 120), none, none, some (some 121), none, some (some 122), none, some (some 123), none, some (some 124), some (some 125), some (some 126)])) := rfl
theorem q_at98 (b : Bool) : (q_Sb b)[98]? = some (.inr (.inl (0, 6))) := rfl
theorem q_at99 (b : Bool) : (q_Sb b)[99]? = some (.inr (.inl (0, 6))) := rfl
theorem q_at100 (b : Bool) : (q_Sb b)[100]? = some (.inr (.inl (0, 30))) := rfl
theorem q_at101 (b : Bool) : (q_Sb b)[101]? = some (.inr (.inl (0, 30))) := rfl
theorem q_at102 (b : Bool) : (q_Sb b)[102]? = some (.inr (.inl (0, 30))) := rfl
theorem q_at103 (b : Bool) : (q_Sb b)[103]? = some (.inr (.inl (0, 30))) := rfl
theorem q_at104 (b : Bool) : (q_Sb b)[104]? = some (.inr (.inl (0, 30))) := rfl
theorem q_at105 (b : Bool) : (q_Sb b)[105]? = some (.inr (.inl (0, 30))) := rfl
theorem q_at106 (b : Bool) : (q_Sb b)[106]? = some (.inr (.inl (0, 1200))) := rfl
theorem q_at107 (b : Bool) : (q_Sb b)[107]? = some (.inr (.inl (1, 100))) := rfl
theorem q_at108 (b : Bool) : (q_Sb b)[108]? = some (.inr (.inl (0, 80))) := rfl
theorem q_at109 (b : Bool) : (q_Sb b)[109]? = some (.inr (.inl (0, 80))) := rfl
theorem q_at110 (b : Bool) : (q_Sb b)[110]? = some (.inr (.inl (0, 80))) := rfl
theorem q_at111 (b : Bool) : (q_Sb b)[111]? = some (.inr (.inl (0, 80))) := rfl
theorem q_at112 (b : Bool) : (q_Sb b)[112]? = some (.inr (.inl (0, 8))) := rfl
theorem q_at113 (b : Bool) : (q_Sb b)[113]? = some (.inr (.inl (0, 30))) := rfl
theorem q_at114 (b : Bool) : (q_Sb b)[114]? = some (.inr (.inl (0, 6))) := rfl
theorem q_at115 (b : Bool) : (q_Sb b)[115]? = some (.inr (.inl (0, 40))) := rfl
theorem q_at116 (b : Bool) : (q_Sb b)[116]? = some (.inr (.inl (0, 40))) := rfl
theorem q_at117 (b : Bool) : (q_Sb b)[117]? = some (.inr (.inl (0, 6))) := rfl
theorem q_at118 (b : Bool) : (q_Sb b)[118]? = some (.inr (.inl (0, 30))) := rfl
theorem q_at119 (b : Bool) : (q_Sb b)[119]? = some (.inr (.inl (0, 30))) := rfl
theorem q_at120 (b : Bool) : (q_Sb b)[120]? = some (.inr (.inl (0, 30))) := rfl
theorem q_at121 (b : Bool) : (q_Sb b)[121]? = some (.inr (.inl (0, 30))) := rfl
theorem q_at122 (b : Bool) : (q_Sb b)[122]? = some (.inr (.inl (0, 8))) := rfl
theorem q_at123 (b : Bool) : (q_Sb b)[123]? = some (.inr (.inl (0, 64))) := rfl
theorem q_at124 (b : Bool) : (q_Sb b)[124]? = some (.inr (.inl (0, 30))) := rfl
theorem q_at125 (b : Bool) : (q_Sb b)[125]? = some (.inr (.inl (0, 30))) := rfl
theorem q_at126 (b : Bool) : (q_Sb b)[126]? = some (.inr (.inl (0, 20001))) := rfl
theorem q_atP (b : Bool) : ∀ i, i < 30 → (q_Sb b)[37 + 2 * i]? = some (.inl (6, [some (some (38 + 2 * i)), none, none, none, none, none, none])) := by
  intro i hi
  rcases (by omega : i = 0 ∨ i = 1 ∨ i = 2 ∨ i = 3 ∨ i = 4 ∨ i = 5 ∨ i = 6 ∨ i = 7 ∨ i = 8 ∨ i = 9 ∨ i = 10 ∨ i = 11 ∨ i = 12 ∨ i = 13 ∨ i = 14 ∨ i = 15 ∨ i = 16 ∨ i = 17 ∨ i = 18 ∨ i = 19 ∨ i = 20 ∨ i = 21 ∨ i = 22 ∨ i = 23 ∨ i = 24 ∨ i = 25 ∨ i = 26 ∨ i = 27 ∨ i = 28 ∨ i = 29) with rfl | rfl | rfl | rfl | rfl | rfl | rfl | rfl | rfl | rfl | rfl | rfl | rfl | rfl | rfl | rfl | rfl | rfl | rfl | rfl | rfl | rfl | rfl | rfl | rfl | rfl | rfl | rfl | rfl | rfl <;> rfl
theorem q_atD (b : Bool) : ∀ i, i < 30 → (q_Sb b)[38 + 2 * i]? = some (.inr (.inl (0, 40))) := by
  intro i hi
  rcases (by omega : i = 0 ∨ i = 1 ∨ i = 2 ∨ i = 3 ∨ i = 4 ∨ i = 5 ∨ i = 6 ∨ i = 7 ∨ i = 8 ∨ i = 9 ∨ i = 10 ∨ i = 11 ∨ i = 12 ∨ i = 13 ∨ i = 14 ∨ i = 15 ∨ i = 16 ∨ i = 17 ∨ i = 18 ∨ i = 19 ∨ i = 20 ∨ i = 21 ∨ i = 22 ∨ i = 23 ∨ i = 24 ∨ i = 25 ∨ i = 26 ∨ i = 27 ∨ i = 28 ∨ i = 29) with rfl | rfl | rfl | rfl | rfl | rfl | rfl | rfl | rfl | rfl | rfl | rfl | rfl | rfl | rfl | rfl | rfl | rfl | rfl | rfl | rfl | rfl | rfl | rfl | rfl | rfl | rfl | rfl | rfl | rfl <;> rfl
def q_els : List (Option Nat) := [some 37, some 39, some 41, some 43, some 45, some 47, some 49, some 51, some 53, some 55, some 57, some 59, some 61, some 63, some 65, some 67, some 69, some 71, some 73, some 75, some 77, some 79, some 81, some 83, some 85, some 87, some 89, some 91, some 93, some 95]
theorem q_elsg : ∀ i, i < 30 → q_els.getD i none = some (37 + 2 * i) := by decide +kernel
def q_rws : List (Option Nat) := [some 22, some 23, some 24, some 25, some 26, some 27, some 28, some 29]
theorem q_rwsg : ∀ i, i < 8 → q_rws.getD i none = some (22 + i) := by decide +kernel
theorem q_atR (b : Bool) : ∀ i, i < 8 → (q_Sb b)[22 + i]? = some (.inr (.inl (0, 8))) := by
  intro i hi
  rcases (by omega : i = 0 ∨ i = 1 ∨ i = 2 ∨ i = 3 ∨ i = 4 ∨ i = 5 ∨ i = 6 ∨ i = 7) with rfl | rfl | rfl | rfl | rfl | rfl | rfl | rfl <;> rfl
