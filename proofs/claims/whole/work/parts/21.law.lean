/-! the law over obligations: each call of the class, then the same call of the reference, give one answer, and keep R -/
def q_Po (R : Bool → q_M → Prop) (fm : Nat) (as : List q_V) : Option Int32 → q_H → Prop := fun r h1 => ∃ v, r = some v ∧ ∃ b1 m1, h1 = q_hp b1 m1 ∧ q_Wm 99 fm as h1 (fun r2 h2 => r2 = some v ∧ ∃ b2 m2, h2 = q_hp b2 m2 ∧ R b2 m2)
def q_Ob (R : Bool → q_M → Prop) (fx fm : Nat) (as : List Int32) : Prop := ∀ (b : Bool) (m : q_M), R b m → q_Wm 99 fx (vr 0 :: as.map vi) (q_hp b m) (q_Po R fm (vr 97 :: as.map vi))
def q_lf (x : Int32) : q_L := [some (.inr (.inr ())), some (vr 0), some (vr 97), some (vi x)]
theorem q_ix (i j : Nat) (y : Int32) (hy : y = nI j) : nI i + y = nI (i + j) := by rw [hy, nI_add]
theorem q_lc0 {R : Bool → q_M → Prop} {L i : Nat} {xs : Nat → Int32} {b : Bool} {m : q_M} {Q : Option Int32 → q_H → Prop} (hL : L ≤ 320) (hi : i + 5 ≤ L) (hR : R b m) (ho : ∀ (a1 a2 : Int32), q_Ob R 48 111 [a1, a2]) (K : ∀ (b : Bool) (m : q_M) (x : Int32), x = nI (i + 5) → R b m → q_WP (some (L, xs)) 100 0 18 (q_lf x) [] (q_hp b m) Q) : q_WP (some (L, xs)) 100 0 200 (q_lf (nI i)) [] (q_hp b m) Q := by
  unfold q_lf
  repeat (refine q_wst rfl rfl rfl ?_)
  refine q_wrs (i + 1) (q_ix i 1 _ rfl) (by omega) rfl (by omega) ?_
  repeat (refine q_wst rfl rfl rfl ?_)
  refine q_wrs (i + 2) (q_ix i 2 _ rfl) (by omega) rfl (by omega) ?_
  repeat (refine q_wst rfl rfl rfl ?_)
  refine q_wcl rfl rfl rfl ?_
  refine q_wmono (fun r h1 hq => ?_) (ho (xs (i + 1)) (xs (i + 2)) b m hR)
  obtain ⟨v, rfl, b1, m1, rfl, hq⟩ := hq
  repeat (refine q_wst rfl rfl rfl ?_)
  refine q_wrs (i + 1) (q_ix i 1 _ rfl) (by omega) rfl (by omega) ?_
  repeat (refine q_wst rfl rfl rfl ?_)
  refine q_wrs (i + 2) (q_ix i 2 _ rfl) (by omega) rfl (by omega) ?_
  repeat (refine q_wst rfl rfl rfl ?_)
  refine q_wcl rfl rfl rfl ?_
  refine q_wmono (fun r2 h2 hq2 => ?_) hq
  obtain ⟨rfl, b2, m2, rfl, hR2⟩ := hq2
  refine q_wst rfl rfl rfl ?_
  refine q_wif (fun _ => ?_) (fun c => absurd rfl c)
  refine q_wst rfl rfl rfl ?_
  refine q_wst rfl rfl rfl ?_
  exact K b2 m2 _ (q_ix i 5 _ rfl) hR2
theorem q_lc1 {R : Bool → q_M → Prop} {L i : Nat} {xs : Nat → Int32} {b : Bool} {m : q_M} {Q : Option Int32 → q_H → Prop} (hL : L ≤ 320) (hi : i + 5 ≤ L) (hR : R b m) (ho : ∀ (a1 a2 : Int32), q_Ob R 51 114 [a1, a2]) (K : ∀ (b : Bool) (m : q_M) (x : Int32), x = nI (i + 5) → R b m → q_WP (some (L, xs)) 100 0 18 (q_lf x) [] (q_hp b m) Q) : q_WP (some (L, xs)) 100 0 233 (q_lf (nI i)) [] (q_hp b m) Q := by
  unfold q_lf
  repeat (refine q_wst rfl rfl rfl ?_)
  refine q_wrs (i + 1) (q_ix i 1 _ rfl) (by omega) rfl (by omega) ?_
  repeat (refine q_wst rfl rfl rfl ?_)
  refine q_wrs (i + 2) (q_ix i 2 _ rfl) (by omega) rfl (by omega) ?_
  repeat (refine q_wst rfl rfl rfl ?_)
  refine q_wcl rfl rfl rfl ?_
  refine q_wmono (fun r h1 hq => ?_) (ho (xs (i + 1)) (xs (i + 2)) b m hR)
  obtain ⟨v, rfl, b1, m1, rfl, hq⟩ := hq
  repeat (refine q_wst rfl rfl rfl ?_)
  refine q_wrs (i + 1) (q_ix i 1 _ rfl) (by omega) rfl (by omega) ?_
  repeat (refine q_wst rfl rfl rfl ?_)
  refine q_wrs (i + 2) (q_ix i 2 _ rfl) (by omega) rfl (by omega) ?_
  repeat (refine q_wst rfl rfl rfl ?_)
  refine q_wcl rfl rfl rfl ?_
  refine q_wmono (fun r2 h2 hq2 => ?_) hq
  obtain ⟨rfl, b2, m2, rfl, hR2⟩ := hq2
  refine q_wst rfl rfl rfl ?_
  refine q_wif (fun _ => ?_) (fun c => absurd rfl c)
  refine q_wst rfl rfl rfl ?_
  refine q_wst rfl rfl rfl ?_
  exact K b2 m2 _ (q_ix i 5 _ rfl) hR2
theorem q_lc2 {R : Bool → q_M → Prop} {L i : Nat} {xs : Nat → Int32} {b : Bool} {m : q_M} {Q : Option Int32 → q_H → Prop} (hL : L ≤ 320) (hi : i + 5 ≤ L) (hR : R b m) (ho : ∀ (a1 a2 a3 a4 : Int32), q_Ob R 55 117 [a1, a2, a3, a4]) (K : ∀ (b : Bool) (m : q_M) (x : Int32), x = nI (i + 5) → R b m → q_WP (some (L, xs)) 100 0 18 (q_lf x) [] (q_hp b m) Q) : q_WP (some (L, xs)) 100 0 266 (q_lf (nI i)) [] (q_hp b m) Q := by
  unfold q_lf
  repeat (refine q_wst rfl rfl rfl ?_)
  refine q_wrs (i + 1) (q_ix i 1 _ rfl) (by omega) rfl (by omega) ?_
  repeat (refine q_wst rfl rfl rfl ?_)
  refine q_wrs (i + 2) (q_ix i 2 _ rfl) (by omega) rfl (by omega) ?_
  repeat (refine q_wst rfl rfl rfl ?_)
  refine q_wrs (i + 3) (q_ix i 3 _ rfl) (by omega) rfl (by omega) ?_
  repeat (refine q_wst rfl rfl rfl ?_)
  refine q_wrs (i + 4) (q_ix i 4 _ rfl) (by omega) rfl (by omega) ?_
  repeat (refine q_wst rfl rfl rfl ?_)
  refine q_wcl rfl rfl rfl ?_
  refine q_wmono (fun r h1 hq => ?_) (ho (xs (i + 1)) (xs (i + 2)) (xs (i + 3)) (xs (i + 4)) b m hR)
  obtain ⟨v, rfl, b1, m1, rfl, hq⟩ := hq
  repeat (refine q_wst rfl rfl rfl ?_)
  refine q_wrs (i + 1) (q_ix i 1 _ rfl) (by omega) rfl (by omega) ?_
  repeat (refine q_wst rfl rfl rfl ?_)
  refine q_wrs (i + 2) (q_ix i 2 _ rfl) (by omega) rfl (by omega) ?_
  repeat (refine q_wst rfl rfl rfl ?_)
  refine q_wrs (i + 3) (q_ix i 3 _ rfl) (by omega) rfl (by omega) ?_
  repeat (refine q_wst rfl rfl rfl ?_)
  refine q_wrs (i + 4) (q_ix i 4 _ rfl) (by omega) rfl (by omega) ?_
  repeat (refine q_wst rfl rfl rfl ?_)
  refine q_wcl rfl rfl rfl ?_
  refine q_wmono (fun r2 h2 hq2 => ?_) hq
  obtain ⟨rfl, b2, m2, rfl, hR2⟩ := hq2
  refine q_wst rfl rfl rfl ?_
  refine q_wif (fun _ => ?_) (fun c => absurd rfl c)
  refine q_wst rfl rfl rfl ?_
  refine q_wst rfl rfl rfl ?_
  exact K b2 m2 _ (q_ix i 5 _ rfl) hR2
theorem q_lc3 {R : Bool → q_M → Prop} {L i : Nat} {xs : Nat → Int32} {b : Bool} {m : q_M} {Q : Option Int32 → q_H → Prop} (hL : L ≤ 320) (hi : i + 5 ≤ L) (hR : R b m) (ho : ∀ (a1 a2 : Int32), q_Ob R 59 122 [a1, a2]) (K : ∀ (b : Bool) (m : q_M) (x : Int32), x = nI (i + 5) → R b m → q_WP (some (L, xs)) 100 0 18 (q_lf x) [] (q_hp b m) Q) : q_WP (some (L, xs)) 100 0 319 (q_lf (nI i)) [] (q_hp b m) Q := by
  unfold q_lf
  repeat (refine q_wst rfl rfl rfl ?_)
  refine q_wrs (i + 1) (q_ix i 1 _ rfl) (by omega) rfl (by omega) ?_
  repeat (refine q_wst rfl rfl rfl ?_)
  refine q_wrs (i + 2) (q_ix i 2 _ rfl) (by omega) rfl (by omega) ?_
  repeat (refine q_wst rfl rfl rfl ?_)
  refine q_wcl rfl rfl rfl ?_
  refine q_wmono (fun r h1 hq => ?_) (ho (xs (i + 1)) (xs (i + 2)) b m hR)
  obtain ⟨v, rfl, b1, m1, rfl, hq⟩ := hq
  repeat (refine q_wst rfl rfl rfl ?_)
  refine q_wrs (i + 1) (q_ix i 1 _ rfl) (by omega) rfl (by omega) ?_
  repeat (refine q_wst rfl rfl rfl ?_)
  refine q_wrs (i + 2) (q_ix i 2 _ rfl) (by omega) rfl (by omega) ?_
  repeat (refine q_wst rfl rfl rfl ?_)
  refine q_wcl rfl rfl rfl ?_
  refine q_wmono (fun r2 h2 hq2 => ?_) hq
  obtain ⟨rfl, b2, m2, rfl, hR2⟩ := hq2
  refine q_wst rfl rfl rfl ?_
  refine q_wif (fun _ => ?_) (fun c => absurd rfl c)
  refine q_wst rfl rfl rfl ?_
  refine q_wst rfl rfl rfl ?_
  exact K b2 m2 _ (q_ix i 5 _ rfl) hR2
theorem q_lc4 {R : Bool → q_M → Prop} {L i : Nat} {xs : Nat → Int32} {b : Bool} {m : q_M} {Q : Option Int32 → q_H → Prop} (hL : L ≤ 320) (hi : i + 5 ≤ L) (hR : R b m) (ho : ∀ (a1 a2 a3 : Int32), q_Ob R 60 123 [a1, a2, a3]) (K : ∀ (b : Bool) (m : q_M) (x : Int32), x = nI (i + 5) → R b m → q_WP (some (L, xs)) 100 0 18 (q_lf x) [] (q_hp b m) Q) : q_WP (some (L, xs)) 100 0 352 (q_lf (nI i)) [] (q_hp b m) Q := by
  unfold q_lf
  repeat (refine q_wst rfl rfl rfl ?_)
  refine q_wrs (i + 1) (q_ix i 1 _ rfl) (by omega) rfl (by omega) ?_
  repeat (refine q_wst rfl rfl rfl ?_)
  refine q_wrs (i + 2) (q_ix i 2 _ rfl) (by omega) rfl (by omega) ?_
  repeat (refine q_wst rfl rfl rfl ?_)
  refine q_wrs (i + 3) (q_ix i 3 _ rfl) (by omega) rfl (by omega) ?_
  repeat (refine q_wst rfl rfl rfl ?_)
  refine q_wcl rfl rfl rfl ?_
  refine q_wmono (fun r h1 hq => ?_) (ho (xs (i + 1)) (xs (i + 2)) (xs (i + 3)) b m hR)
  obtain ⟨v, rfl, b1, m1, rfl, hq⟩ := hq
  repeat (refine q_wst rfl rfl rfl ?_)
  refine q_wrs (i + 1) (q_ix i 1 _ rfl) (by omega) rfl (by omega) ?_
  repeat (refine q_wst rfl rfl rfl ?_)
  refine q_wrs (i + 2) (q_ix i 2 _ rfl) (by omega) rfl (by omega) ?_
  repeat (refine q_wst rfl rfl rfl ?_)
  refine q_wrs (i + 3) (q_ix i 3 _ rfl) (by omega) rfl (by omega) ?_
  repeat (refine q_wst rfl rfl rfl ?_)
  refine q_wcl rfl rfl rfl ?_
  refine q_wmono (fun r2 h2 hq2 => ?_) hq
  obtain ⟨rfl, b2, m2, rfl, hR2⟩ := hq2
  refine q_wst rfl rfl rfl ?_
  refine q_wif (fun _ => ?_) (fun c => absurd rfl c)
  refine q_wst rfl rfl rfl ?_
  refine q_wst rfl rfl rfl ?_
  exact K b2 m2 _ (q_ix i 5 _ rfl) hR2
theorem q_lc5 {R : Bool → q_M → Prop} {L i : Nat} {xs : Nat → Int32} {b : Bool} {m : q_M} {Q : Option Int32 → q_H → Prop} (hL : L ≤ 320) (hi : i + 5 ≤ L) (hR : R b m) (ho : ∀ (a1 a2 : Int32), q_Ob R 63 126 [a1, a2]) (K : ∀ (b : Bool) (m : q_M) (x : Int32), x = nI (i + 5) → R b m → q_WP (some (L, xs)) 100 0 18 (q_lf x) [] (q_hp b m) Q) : q_WP (some (L, xs)) 100 0 395 (q_lf (nI i)) [] (q_hp b m) Q := by
  unfold q_lf
  repeat (refine q_wst rfl rfl rfl ?_)
  refine q_wrs (i + 1) (q_ix i 1 _ rfl) (by omega) rfl (by omega) ?_
  repeat (refine q_wst rfl rfl rfl ?_)
  refine q_wrs (i + 2) (q_ix i 2 _ rfl) (by omega) rfl (by omega) ?_
  repeat (refine q_wst rfl rfl rfl ?_)
  refine q_wcl rfl rfl rfl ?_
  refine q_wmono (fun r h1 hq => ?_) (ho (xs (i + 1)) (xs (i + 2)) b m hR)
  obtain ⟨v, rfl, b1, m1, rfl, hq⟩ := hq
  repeat (refine q_wst rfl rfl rfl ?_)
  refine q_wrs (i + 1) (q_ix i 1 _ rfl) (by omega) rfl (by omega) ?_
  repeat (refine q_wst rfl rfl rfl ?_)
  refine q_wrs (i + 2) (q_ix i 2 _ rfl) (by omega) rfl (by omega) ?_
  repeat (refine q_wst rfl rfl rfl ?_)
  refine q_wcl rfl rfl rfl ?_
  refine q_wmono (fun r2 h2 hq2 => ?_) hq
  obtain ⟨rfl, b2, m2, rfl, hR2⟩ := hq2
  refine q_wst rfl rfl rfl ?_
  refine q_wif (fun _ => ?_) (fun c => absurd rfl c)
  refine q_wst rfl rfl rfl ?_
  refine q_wst rfl rfl rfl ?_
  exact K b2 m2 _ (q_ix i 5 _ rfl) hR2
theorem q_lc6 {R : Bool → q_M → Prop} {L i : Nat} {xs : Nat → Int32} {b : Bool} {m : q_M} {Q : Option Int32 → q_H → Prop} (hL : L ≤ 320) (hi : i + 5 ≤ L) (hR : R b m) (ho : ∀ (a1 a2 : Int32), q_Ob R 64 128 [a1, a2]) (K : ∀ (b : Bool) (m : q_M) (x : Int32), x = nI (i + 5) → R b m → q_WP (some (L, xs)) 100 0 18 (q_lf x) [] (q_hp b m) Q) : q_WP (some (L, xs)) 100 0 428 (q_lf (nI i)) [] (q_hp b m) Q := by
  unfold q_lf
  repeat (refine q_wst rfl rfl rfl ?_)
  refine q_wrs (i + 1) (q_ix i 1 _ rfl) (by omega) rfl (by omega) ?_
  repeat (refine q_wst rfl rfl rfl ?_)
  refine q_wrs (i + 2) (q_ix i 2 _ rfl) (by omega) rfl (by omega) ?_
  repeat (refine q_wst rfl rfl rfl ?_)
  refine q_wcl rfl rfl rfl ?_
  refine q_wmono (fun r h1 hq => ?_) (ho (xs (i + 1)) (xs (i + 2)) b m hR)
  obtain ⟨v, rfl, b1, m1, rfl, hq⟩ := hq
  repeat (refine q_wst rfl rfl rfl ?_)
  refine q_wrs (i + 1) (q_ix i 1 _ rfl) (by omega) rfl (by omega) ?_
  repeat (refine q_wst rfl rfl rfl ?_)
  refine q_wrs (i + 2) (q_ix i 2 _ rfl) (by omega) rfl (by omega) ?_
  repeat (refine q_wst rfl rfl rfl ?_)
  refine q_wcl rfl rfl rfl ?_
  refine q_wmono (fun r2 h2 hq2 => ?_) hq
  obtain ⟨rfl, b2, m2, rfl, hR2⟩ := hq2
  refine q_wst rfl rfl rfl ?_
  refine q_wif (fun _ => ?_) (fun c => absurd rfl c)
  refine q_wst rfl rfl rfl ?_
  refine q_wst rfl rfl rfl ?_
  exact K b2 m2 _ (q_ix i 5 _ rfl) hR2
theorem q_lc7 {R : Bool → q_M → Prop} {L i : Nat} {xs : Nat → Int32} {b : Bool} {m : q_M} {Q : Option Int32 → q_H → Prop} (hL : L ≤ 320) (hi : i + 5 ≤ L) (hR : R b m) (ho : ∀ (a1 a2 : Int32), q_Ob R 65 129 [a1, a2]) (K : ∀ (b : Bool) (m : q_M) (x : Int32), x = nI (i + 5) → R b m → q_WP (some (L, xs)) 100 0 18 (q_lf x) [] (q_hp b m) Q) : q_WP (some (L, xs)) 100 0 461 (q_lf (nI i)) [] (q_hp b m) Q := by
  unfold q_lf
  repeat (refine q_wst rfl rfl rfl ?_)
  refine q_wrs (i + 1) (q_ix i 1 _ rfl) (by omega) rfl (by omega) ?_
  repeat (refine q_wst rfl rfl rfl ?_)
  refine q_wrs (i + 2) (q_ix i 2 _ rfl) (by omega) rfl (by omega) ?_
  repeat (refine q_wst rfl rfl rfl ?_)
  refine q_wcl rfl rfl rfl ?_
  refine q_wmono (fun r h1 hq => ?_) (ho (xs (i + 1)) (xs (i + 2)) b m hR)
  obtain ⟨v, rfl, b1, m1, rfl, hq⟩ := hq
  repeat (refine q_wst rfl rfl rfl ?_)
  refine q_wrs (i + 1) (q_ix i 1 _ rfl) (by omega) rfl (by omega) ?_
  repeat (refine q_wst rfl rfl rfl ?_)
  refine q_wrs (i + 2) (q_ix i 2 _ rfl) (by omega) rfl (by omega) ?_
  repeat (refine q_wst rfl rfl rfl ?_)
  refine q_wcl rfl rfl rfl ?_
  refine q_wmono (fun r2 h2 hq2 => ?_) hq
  obtain ⟨rfl, b2, m2, rfl, hR2⟩ := hq2
  refine q_wst rfl rfl rfl ?_
  refine q_wif (fun _ => ?_) (fun c => absurd rfl c)
  refine q_wst rfl rfl rfl ?_
  refine q_wst rfl rfl rfl ?_
  exact K b2 m2 _ (q_ix i 5 _ rfl) hR2
theorem q_lc8 {R : Bool → q_M → Prop} {L i : Nat} {xs : Nat → Int32} {b : Bool} {m : q_M} {Q : Option Int32 → q_H → Prop} (hL : L ≤ 320) (hi : i + 5 ≤ L) (hR : R b m) (ho : ∀ (a1 : Int32), q_Ob R 66 130 [a1]) (K : ∀ (b : Bool) (m : q_M) (x : Int32), x = nI (i + 5) → R b m → q_WP (some (L, xs)) 100 0 18 (q_lf x) [] (q_hp b m) Q) : q_WP (some (L, xs)) 100 0 494 (q_lf (nI i)) [] (q_hp b m) Q := by
  unfold q_lf
  repeat (refine q_wst rfl rfl rfl ?_)
  refine q_wrs (i + 1) (q_ix i 1 _ rfl) (by omega) rfl (by omega) ?_
  repeat (refine q_wst rfl rfl rfl ?_)
  refine q_wcl rfl rfl rfl ?_
  refine q_wmono (fun r h1 hq => ?_) (ho (xs (i + 1)) b m hR)
  obtain ⟨v, rfl, b1, m1, rfl, hq⟩ := hq
  repeat (refine q_wst rfl rfl rfl ?_)
  refine q_wrs (i + 1) (q_ix i 1 _ rfl) (by omega) rfl (by omega) ?_
  repeat (refine q_wst rfl rfl rfl ?_)
  refine q_wcl rfl rfl rfl ?_
  refine q_wmono (fun r2 h2 hq2 => ?_) hq
  obtain ⟨rfl, b2, m2, rfl, hR2⟩ := hq2
  refine q_wst rfl rfl rfl ?_
  refine q_wif (fun _ => ?_) (fun c => absurd rfl c)
  refine q_wst rfl rfl rfl ?_
  refine q_wst rfl rfl rfl ?_
  exact K b2 m2 _ (q_ix i 5 _ rfl) hR2
theorem q_lc9 {R : Bool → q_M → Prop} {L i : Nat} {xs : Nat → Int32} {b : Bool} {m : q_M} {Q : Option Int32 → q_H → Prop} (hL : L ≤ 320) (hi : i + 5 ≤ L) (hR : R b m) (ho : ∀ (a1 a2 : Int32), q_Ob R 67 131 [a1, a2]) (K : ∀ (b : Bool) (m : q_M) (x : Int32), x = nI (i + 5) → R b m → q_WP (some (L, xs)) 100 0 18 (q_lf x) [] (q_hp b m) Q) : q_WP (some (L, xs)) 100 0 517 (q_lf (nI i)) [] (q_hp b m) Q := by
  unfold q_lf
  repeat (refine q_wst rfl rfl rfl ?_)
  refine q_wrs (i + 1) (q_ix i 1 _ rfl) (by omega) rfl (by omega) ?_
  repeat (refine q_wst rfl rfl rfl ?_)
  refine q_wrs (i + 2) (q_ix i 2 _ rfl) (by omega) rfl (by omega) ?_
  repeat (refine q_wst rfl rfl rfl ?_)
  refine q_wcl rfl rfl rfl ?_
  refine q_wmono (fun r h1 hq => ?_) (ho (xs (i + 1)) (xs (i + 2)) b m hR)
  obtain ⟨v, rfl, b1, m1, rfl, hq⟩ := hq
  repeat (refine q_wst rfl rfl rfl ?_)
  refine q_wrs (i + 1) (q_ix i 1 _ rfl) (by omega) rfl (by omega) ?_
  repeat (refine q_wst rfl rfl rfl ?_)
  refine q_wrs (i + 2) (q_ix i 2 _ rfl) (by omega) rfl (by omega) ?_
  repeat (refine q_wst rfl rfl rfl ?_)
  refine q_wcl rfl rfl rfl ?_
  refine q_wmono (fun r2 h2 hq2 => ?_) hq
  obtain ⟨rfl, b2, m2, rfl, hR2⟩ := hq2
  refine q_wst rfl rfl rfl ?_
  refine q_wif (fun _ => ?_) (fun c => absurd rfl c)
  refine q_wst rfl rfl rfl ?_
  refine q_wst rfl rfl rfl ?_
  exact K b2 m2 _ (q_ix i 5 _ rfl) hR2
theorem q_lc10 {R : Bool → q_M → Prop} {L i : Nat} {xs : Nat → Int32} {b : Bool} {m : q_M} {Q : Option Int32 → q_H → Prop} (hL : L ≤ 320) (hi : i + 5 ≤ L) (hR : R b m) (ho : ∀ (a1 a2 : Int32), q_Ob R 68 132 [a1, a2]) (K : ∀ (b : Bool) (m : q_M) (x : Int32), x = nI (i + 5) → R b m → q_WP (some (L, xs)) 100 0 18 (q_lf x) [] (q_hp b m) Q) : q_WP (some (L, xs)) 100 0 550 (q_lf (nI i)) [] (q_hp b m) Q := by
  unfold q_lf
  repeat (refine q_wst rfl rfl rfl ?_)
  refine q_wrs (i + 1) (q_ix i 1 _ rfl) (by omega) rfl (by omega) ?_
  repeat (refine q_wst rfl rfl rfl ?_)
  refine q_wrs (i + 2) (q_ix i 2 _ rfl) (by omega) rfl (by omega) ?_
  repeat (refine q_wst rfl rfl rfl ?_)
  refine q_wcl rfl rfl rfl ?_
  refine q_wmono (fun r h1 hq => ?_) (ho (xs (i + 1)) (xs (i + 2)) b m hR)
  obtain ⟨v, rfl, b1, m1, rfl, hq⟩ := hq
  repeat (refine q_wst rfl rfl rfl ?_)
  refine q_wrs (i + 1) (q_ix i 1 _ rfl) (by omega) rfl (by omega) ?_
  repeat (refine q_wst rfl rfl rfl ?_)
  refine q_wrs (i + 2) (q_ix i 2 _ rfl) (by omega) rfl (by omega) ?_
  repeat (refine q_wst rfl rfl rfl ?_)
  refine q_wcl rfl rfl rfl ?_
  refine q_wmono (fun r2 h2 hq2 => ?_) hq
  obtain ⟨rfl, b2, m2, rfl, hR2⟩ := hq2
  refine q_wst rfl rfl rfl ?_
  refine q_wif (fun _ => ?_) (fun c => absurd rfl c)
  refine q_wst rfl rfl rfl ?_
  refine q_wst rfl rfl rfl ?_
  exact K b2 m2 _ (q_ix i 5 _ rfl) hR2
theorem q_lc11 {R : Bool → q_M → Prop} {L i : Nat} {xs : Nat → Int32} {b : Bool} {m : q_M} {Q : Option Int32 → q_H → Prop} (hL : L ≤ 320) (hi : i + 5 ≤ L) (hR : R b m) (ho : ∀ (a1 a2 : Int32), q_Ob R 69 133 [a1, a2]) (K : ∀ (b : Bool) (m : q_M) (x : Int32), x = nI (i + 5) → R b m → q_WP (some (L, xs)) 100 0 18 (q_lf x) [] (q_hp b m) Q) : q_WP (some (L, xs)) 100 0 583 (q_lf (nI i)) [] (q_hp b m) Q := by
  unfold q_lf
  repeat (refine q_wst rfl rfl rfl ?_)
  refine q_wrs (i + 1) (q_ix i 1 _ rfl) (by omega) rfl (by omega) ?_
  repeat (refine q_wst rfl rfl rfl ?_)
  refine q_wrs (i + 2) (q_ix i 2 _ rfl) (by omega) rfl (by omega) ?_
  repeat (refine q_wst rfl rfl rfl ?_)
  refine q_wcl rfl rfl rfl ?_
  refine q_wmono (fun r h1 hq => ?_) (ho (xs (i + 1)) (xs (i + 2)) b m hR)
  obtain ⟨v, rfl, b1, m1, rfl, hq⟩ := hq
  repeat (refine q_wst rfl rfl rfl ?_)
  refine q_wrs (i + 1) (q_ix i 1 _ rfl) (by omega) rfl (by omega) ?_
  repeat (refine q_wst rfl rfl rfl ?_)
  refine q_wrs (i + 2) (q_ix i 2 _ rfl) (by omega) rfl (by omega) ?_
  repeat (refine q_wst rfl rfl rfl ?_)
  refine q_wcl rfl rfl rfl ?_
  refine q_wmono (fun r2 h2 hq2 => ?_) hq
  obtain ⟨rfl, b2, m2, rfl, hR2⟩ := hq2
  refine q_wst rfl rfl rfl ?_
  refine q_wif (fun _ => ?_) (fun c => absurd rfl c)
  refine q_wst rfl rfl rfl ?_
  refine q_wst rfl rfl rfl ?_
  exact K b2 m2 _ (q_ix i 5 _ rfl) hR2
theorem q_lc12 {R : Bool → q_M → Prop} {L i : Nat} {xs : Nat → Int32} {b : Bool} {m : q_M} {Q : Option Int32 → q_H → Prop} (hL : L ≤ 320) (hi : i + 5 ≤ L) (hR : R b m) (ho : ∀ (a1 : Int32), q_Ob R 70 134 [a1]) (K : ∀ (b : Bool) (m : q_M) (x : Int32), x = nI (i + 5) → R b m → q_WP (some (L, xs)) 100 0 18 (q_lf x) [] (q_hp b m) Q) : q_WP (some (L, xs)) 100 0 616 (q_lf (nI i)) [] (q_hp b m) Q := by
  unfold q_lf
  repeat (refine q_wst rfl rfl rfl ?_)
  refine q_wrs (i + 1) (q_ix i 1 _ rfl) (by omega) rfl (by omega) ?_
  repeat (refine q_wst rfl rfl rfl ?_)
  refine q_wcl rfl rfl rfl ?_
  refine q_wmono (fun r h1 hq => ?_) (ho (xs (i + 1)) b m hR)
  obtain ⟨v, rfl, b1, m1, rfl, hq⟩ := hq
  repeat (refine q_wst rfl rfl rfl ?_)
  refine q_wrs (i + 1) (q_ix i 1 _ rfl) (by omega) rfl (by omega) ?_
  repeat (refine q_wst rfl rfl rfl ?_)
  refine q_wcl rfl rfl rfl ?_
  refine q_wmono (fun r2 h2 hq2 => ?_) hq
  obtain ⟨rfl, b2, m2, rfl, hR2⟩ := hq2
  refine q_wst rfl rfl rfl ?_
  refine q_wif (fun _ => ?_) (fun c => absurd rfl c)
  refine q_wst rfl rfl rfl ?_
  refine q_wst rfl rfl rfl ?_
  exact K b2 m2 _ (q_ix i 5 _ rfl) hR2
theorem q_lc13 {R : Bool → q_M → Prop} {L i : Nat} {xs : Nat → Int32} {b : Bool} {m : q_M} {Q : Option Int32 → q_H → Prop} (hL : L ≤ 320) (hi : i + 5 ≤ L) (hR : R b m) (ho : ∀ (a1 : Int32), q_Ob R 72 136 [a1]) (K : ∀ (b : Bool) (m : q_M) (x : Int32), x = nI (i + 5) → R b m → q_WP (some (L, xs)) 100 0 18 (q_lf x) [] (q_hp b m) Q) : q_WP (some (L, xs)) 100 0 639 (q_lf (nI i)) [] (q_hp b m) Q := by
  unfold q_lf
  repeat (refine q_wst rfl rfl rfl ?_)
  refine q_wrs (i + 1) (q_ix i 1 _ rfl) (by omega) rfl (by omega) ?_
  repeat (refine q_wst rfl rfl rfl ?_)
  refine q_wcl rfl rfl rfl ?_
  refine q_wmono (fun r h1 hq => ?_) (ho (xs (i + 1)) b m hR)
  obtain ⟨v, rfl, b1, m1, rfl, hq⟩ := hq
  repeat (refine q_wst rfl rfl rfl ?_)
  refine q_wrs (i + 1) (q_ix i 1 _ rfl) (by omega) rfl (by omega) ?_
  repeat (refine q_wst rfl rfl rfl ?_)
  refine q_wcl rfl rfl rfl ?_
  refine q_wmono (fun r2 h2 hq2 => ?_) hq
  obtain ⟨rfl, b2, m2, rfl, hR2⟩ := hq2
  refine q_wst rfl rfl rfl ?_
  refine q_wif (fun _ => ?_) (fun c => absurd rfl c)
  refine q_wst rfl rfl rfl ?_
  refine q_wst rfl rfl rfl ?_
  exact K b2 m2 _ (q_ix i 5 _ rfl) hR2
theorem q_lc14 {R : Bool → q_M → Prop} {L i : Nat} {xs : Nat → Int32} {b : Bool} {m : q_M} {Q : Option Int32 → q_H → Prop} (hL : L ≤ 320) (hi : i + 5 ≤ L) (hR : R b m) (ho : ∀ (a1 a2 : Int32), q_Ob R 73 137 [a1, a2]) (K : ∀ (b : Bool) (m : q_M) (x : Int32), x = nI (i + 5) → R b m → q_WP (some (L, xs)) 100 0 18 (q_lf x) [] (q_hp b m) Q) : q_WP (some (L, xs)) 100 0 662 (q_lf (nI i)) [] (q_hp b m) Q := by
  unfold q_lf
  repeat (refine q_wst rfl rfl rfl ?_)
  refine q_wrs (i + 1) (q_ix i 1 _ rfl) (by omega) rfl (by omega) ?_
  repeat (refine q_wst rfl rfl rfl ?_)
  refine q_wrs (i + 2) (q_ix i 2 _ rfl) (by omega) rfl (by omega) ?_
  repeat (refine q_wst rfl rfl rfl ?_)
  refine q_wcl rfl rfl rfl ?_
  refine q_wmono (fun r h1 hq => ?_) (ho (xs (i + 1)) (xs (i + 2)) b m hR)
  obtain ⟨v, rfl, b1, m1, rfl, hq⟩ := hq
  repeat (refine q_wst rfl rfl rfl ?_)
  refine q_wrs (i + 1) (q_ix i 1 _ rfl) (by omega) rfl (by omega) ?_
  repeat (refine q_wst rfl rfl rfl ?_)
  refine q_wrs (i + 2) (q_ix i 2 _ rfl) (by omega) rfl (by omega) ?_
  repeat (refine q_wst rfl rfl rfl ?_)
  refine q_wcl rfl rfl rfl ?_
  refine q_wmono (fun r2 h2 hq2 => ?_) hq
  obtain ⟨rfl, b2, m2, rfl, hR2⟩ := hq2
  refine q_wst rfl rfl rfl ?_
  refine q_wif (fun _ => ?_) (fun c => absurd rfl c)
  refine q_wst rfl rfl rfl ?_
  refine q_wst rfl rfl rfl ?_
  exact K b2 m2 _ (q_ix i 5 _ rfl) hR2
theorem q_lc15 {R : Bool → q_M → Prop} {L i : Nat} {xs : Nat → Int32} {b : Bool} {m : q_M} {Q : Option Int32 → q_H → Prop} (hL : L ≤ 320) (hi : i + 5 ≤ L) (hR : R b m) (ho : ∀ (_ : Unit), q_Ob R 74 139 []) (K : ∀ (b : Bool) (m : q_M) (x : Int32), x = nI (i + 5) → R b m → q_WP (some (L, xs)) 100 0 18 (q_lf x) [] (q_hp b m) Q) : q_WP (some (L, xs)) 100 0 695 (q_lf (nI i)) [] (q_hp b m) Q := by
  unfold q_lf

  repeat (refine q_wst rfl rfl rfl ?_)
  refine q_wcl rfl rfl rfl ?_
  refine q_wmono (fun r h1 hq => ?_) (ho () b m hR)
  obtain ⟨v, rfl, b1, m1, rfl, hq⟩ := hq

  repeat (refine q_wst rfl rfl rfl ?_)
  refine q_wcl rfl rfl rfl ?_
  refine q_wmono (fun r2 h2 hq2 => ?_) hq
  obtain ⟨rfl, b2, m2, rfl, hR2⟩ := hq2
  refine q_wst rfl rfl rfl ?_
  refine q_wif (fun _ => ?_) (fun c => absurd rfl c)
  refine q_wst rfl rfl rfl ?_
  refine q_wst rfl rfl rfl ?_
  exact K b2 m2 _ (q_ix i 5 _ rfl) hR2
theorem q_lc16 {R : Bool → q_M → Prop} {L i : Nat} {xs : Nat → Int32} {b : Bool} {m : q_M} {Q : Option Int32 → q_H → Prop} (hL : L ≤ 320) (hi : i + 5 ≤ L) (hR : R b m) (ho : ∀ (a1 : Int32), q_Ob R 76 144 [a1]) (K : ∀ (b : Bool) (m : q_M) (x : Int32), x = nI (i + 5) → R b m → q_WP (some (L, xs)) 100 0 18 (q_lf x) [] (q_hp b m) Q) : q_WP (some (L, xs)) 100 0 708 (q_lf (nI i)) [] (q_hp b m) Q := by
  unfold q_lf
  repeat (refine q_wst rfl rfl rfl ?_)
  refine q_wrs (i + 1) (q_ix i 1 _ rfl) (by omega) rfl (by omega) ?_
  repeat (refine q_wst rfl rfl rfl ?_)
  refine q_wcl rfl rfl rfl ?_
  refine q_wmono (fun r h1 hq => ?_) (ho (xs (i + 1)) b m hR)
  obtain ⟨v, rfl, b1, m1, rfl, hq⟩ := hq
  repeat (refine q_wst rfl rfl rfl ?_)
  refine q_wrs (i + 1) (q_ix i 1 _ rfl) (by omega) rfl (by omega) ?_
  repeat (refine q_wst rfl rfl rfl ?_)
  refine q_wcl rfl rfl rfl ?_
  refine q_wmono (fun r2 h2 hq2 => ?_) hq
  obtain ⟨rfl, b2, m2, rfl, hR2⟩ := hq2
  refine q_wst rfl rfl rfl ?_
  refine q_wif (fun _ => ?_) (fun c => absurd rfl c)
  refine q_wst rfl rfl rfl ?_
  refine q_wst rfl rfl rfl ?_
  exact K b2 m2 _ (q_ix i 5 _ rfl) hR2
theorem q_lc17 {R : Bool → q_M → Prop} {L i : Nat} {xs : Nat → Int32} {b : Bool} {m : q_M} {Q : Option Int32 → q_H → Prop} (hL : L ≤ 320) (hi : i + 5 ≤ L) (hR : R b m) (ho : ∀ (a1 : Int32), q_Ob R 77 145 [a1]) (K : ∀ (b : Bool) (m : q_M) (x : Int32), x = nI (i + 5) → R b m → q_WP (some (L, xs)) 100 0 18 (q_lf x) [] (q_hp b m) Q) : q_WP (some (L, xs)) 100 0 731 (q_lf (nI i)) [] (q_hp b m) Q := by
  unfold q_lf
  repeat (refine q_wst rfl rfl rfl ?_)
  refine q_wrs (i + 1) (q_ix i 1 _ rfl) (by omega) rfl (by omega) ?_
  repeat (refine q_wst rfl rfl rfl ?_)
  refine q_wcl rfl rfl rfl ?_
  refine q_wmono (fun r h1 hq => ?_) (ho (xs (i + 1)) b m hR)
  obtain ⟨v, rfl, b1, m1, rfl, hq⟩ := hq
  repeat (refine q_wst rfl rfl rfl ?_)
  refine q_wrs (i + 1) (q_ix i 1 _ rfl) (by omega) rfl (by omega) ?_
  repeat (refine q_wst rfl rfl rfl ?_)
  refine q_wcl rfl rfl rfl ?_
  refine q_wmono (fun r2 h2 hq2 => ?_) hq
  obtain ⟨rfl, b2, m2, rfl, hR2⟩ := hq2
  refine q_wst rfl rfl rfl ?_
  refine q_wif (fun _ => ?_) (fun c => absurd rfl c)
  refine q_wst rfl rfl rfl ?_
  refine q_wst rfl rfl rfl ?_
  exact K b2 m2 _ (q_ix i 5 _ rfl) hR2
theorem q_lc18 {R : Bool → q_M → Prop} {L i : Nat} {xs : Nat → Int32} {b : Bool} {m : q_M} {Q : Option Int32 → q_H → Prop} (hL : L ≤ 320) (hi : i + 5 ≤ L) (hR : R b m) (ho : ∀ (a1 : Int32), q_Ob R 79 146 [a1]) (K : ∀ (b : Bool) (m : q_M) (x : Int32), x = nI (i + 5) → R b m → q_WP (some (L, xs)) 100 0 18 (q_lf x) [] (q_hp b m) Q) : q_WP (some (L, xs)) 100 0 754 (q_lf (nI i)) [] (q_hp b m) Q := by
  unfold q_lf
  repeat (refine q_wst rfl rfl rfl ?_)
  refine q_wrs (i + 1) (q_ix i 1 _ rfl) (by omega) rfl (by omega) ?_
  repeat (refine q_wst rfl rfl rfl ?_)
  refine q_wcl rfl rfl rfl ?_
  refine q_wmono (fun r h1 hq => ?_) (ho (xs (i + 1)) b m hR)
  obtain ⟨v, rfl, b1, m1, rfl, hq⟩ := hq
  repeat (refine q_wst rfl rfl rfl ?_)
  refine q_wrs (i + 1) (q_ix i 1 _ rfl) (by omega) rfl (by omega) ?_
  repeat (refine q_wst rfl rfl rfl ?_)
  refine q_wcl rfl rfl rfl ?_
  refine q_wmono (fun r2 h2 hq2 => ?_) hq
  obtain ⟨rfl, b2, m2, rfl, hR2⟩ := hq2
  refine q_wst rfl rfl rfl ?_
  refine q_wif (fun _ => ?_) (fun c => absurd rfl c)
  refine q_wst rfl rfl rfl ?_
  refine q_wst rfl rfl rfl ?_
  exact K b2 m2 _ (q_ix i 5 _ rfl) hR2
theorem q_lc19 {R : Bool → q_M → Prop} {L i : Nat} {xs : Nat → Int32} {b : Bool} {m : q_M} {Q : Option Int32 → q_H → Prop} (hL : L ≤ 320) (hi : i + 5 ≤ L) (hR : R b m) (ho : ∀ (a1 a2 : Int32), q_Ob R 80 147 [a1, a2]) (K : ∀ (b : Bool) (m : q_M) (x : Int32), x = nI (i + 5) → R b m → q_WP (some (L, xs)) 100 0 18 (q_lf x) [] (q_hp b m) Q) : q_WP (some (L, xs)) 100 0 777 (q_lf (nI i)) [] (q_hp b m) Q := by
  unfold q_lf
  repeat (refine q_wst rfl rfl rfl ?_)
  refine q_wrs (i + 1) (q_ix i 1 _ rfl) (by omega) rfl (by omega) ?_
  repeat (refine q_wst rfl rfl rfl ?_)
  refine q_wrs (i + 2) (q_ix i 2 _ rfl) (by omega) rfl (by omega) ?_
  repeat (refine q_wst rfl rfl rfl ?_)
  refine q_wcl rfl rfl rfl ?_
  refine q_wmono (fun r h1 hq => ?_) (ho (xs (i + 1)) (xs (i + 2)) b m hR)
  obtain ⟨v, rfl, b1, m1, rfl, hq⟩ := hq
  repeat (refine q_wst rfl rfl rfl ?_)
  refine q_wrs (i + 1) (q_ix i 1 _ rfl) (by omega) rfl (by omega) ?_
  repeat (refine q_wst rfl rfl rfl ?_)
  refine q_wrs (i + 2) (q_ix i 2 _ rfl) (by omega) rfl (by omega) ?_
  repeat (refine q_wst rfl rfl rfl ?_)
  refine q_wcl rfl rfl rfl ?_
  refine q_wmono (fun r2 h2 hq2 => ?_) hq
  obtain ⟨rfl, b2, m2, rfl, hR2⟩ := hq2
  refine q_wst rfl rfl rfl ?_
  refine q_wif (fun _ => ?_) (fun c => absurd rfl c)
  refine q_wst rfl rfl rfl ?_
  refine q_wst rfl rfl rfl ?_
  exact K b2 m2 _ (q_ix i 5 _ rfl) hR2
theorem q_lc20 {R : Bool → q_M → Prop} {L i : Nat} {xs : Nat → Int32} {b : Bool} {m : q_M} {Q : Option Int32 → q_H → Prop} (hL : L ≤ 320) (hi : i + 5 ≤ L) (hR : R b m) (ho : ∀ (a1 a2 : Int32), q_Ob R 81 148 [a1, a2]) (K : ∀ (b : Bool) (m : q_M) (x : Int32), x = nI (i + 5) → R b m → q_WP (some (L, xs)) 100 0 18 (q_lf x) [] (q_hp b m) Q) : q_WP (some (L, xs)) 100 0 810 (q_lf (nI i)) [] (q_hp b m) Q := by
  unfold q_lf
  repeat (refine q_wst rfl rfl rfl ?_)
  refine q_wrs (i + 1) (q_ix i 1 _ rfl) (by omega) rfl (by omega) ?_
  repeat (refine q_wst rfl rfl rfl ?_)
  refine q_wrs (i + 2) (q_ix i 2 _ rfl) (by omega) rfl (by omega) ?_
  repeat (refine q_wst rfl rfl rfl ?_)
  refine q_wcl rfl rfl rfl ?_
  refine q_wmono (fun r h1 hq => ?_) (ho (xs (i + 1)) (xs (i + 2)) b m hR)
  obtain ⟨v, rfl, b1, m1, rfl, hq⟩ := hq
  repeat (refine q_wst rfl rfl rfl ?_)
  refine q_wrs (i + 1) (q_ix i 1 _ rfl) (by omega) rfl (by omega) ?_
  repeat (refine q_wst rfl rfl rfl ?_)
  refine q_wrs (i + 2) (q_ix i 2 _ rfl) (by omega) rfl (by omega) ?_
  repeat (refine q_wst rfl rfl rfl ?_)
  refine q_wcl rfl rfl rfl ?_
  refine q_wmono (fun r2 h2 hq2 => ?_) hq
  obtain ⟨rfl, b2, m2, rfl, hR2⟩ := hq2
  refine q_wst rfl rfl rfl ?_
  refine q_wif (fun _ => ?_) (fun c => absurd rfl c)
  refine q_wst rfl rfl rfl ?_
  refine q_wst rfl rfl rfl ?_
  exact K b2 m2 _ (q_ix i 5 _ rfl) hR2
theorem q_lc21 {R : Bool → q_M → Prop} {L i : Nat} {xs : Nat → Int32} {b : Bool} {m : q_M} {Q : Option Int32 → q_H → Prop} (hL : L ≤ 320) (hi : i + 5 ≤ L) (hR : R b m) (ho : ∀ (a1 a2 : Int32), q_Ob R 82 149 [a1, a2]) (K : ∀ (b : Bool) (m : q_M) (x : Int32), x = nI (i + 5) → R b m → q_WP (some (L, xs)) 100 0 18 (q_lf x) [] (q_hp b m) Q) : q_WP (some (L, xs)) 100 0 843 (q_lf (nI i)) [] (q_hp b m) Q := by
  unfold q_lf
  repeat (refine q_wst rfl rfl rfl ?_)
  refine q_wrs (i + 1) (q_ix i 1 _ rfl) (by omega) rfl (by omega) ?_
  repeat (refine q_wst rfl rfl rfl ?_)
  refine q_wrs (i + 2) (q_ix i 2 _ rfl) (by omega) rfl (by omega) ?_
  repeat (refine q_wst rfl rfl rfl ?_)
  refine q_wcl rfl rfl rfl ?_
  refine q_wmono (fun r h1 hq => ?_) (ho (xs (i + 1)) (xs (i + 2)) b m hR)
  obtain ⟨v, rfl, b1, m1, rfl, hq⟩ := hq
  repeat (refine q_wst rfl rfl rfl ?_)
  refine q_wrs (i + 1) (q_ix i 1 _ rfl) (by omega) rfl (by omega) ?_
  repeat (refine q_wst rfl rfl rfl ?_)
  refine q_wrs (i + 2) (q_ix i 2 _ rfl) (by omega) rfl (by omega) ?_
  repeat (refine q_wst rfl rfl rfl ?_)
  refine q_wcl rfl rfl rfl ?_
  refine q_wmono (fun r2 h2 hq2 => ?_) hq
  obtain ⟨rfl, b2, m2, rfl, hR2⟩ := hq2
  refine q_wst rfl rfl rfl ?_
  refine q_wif (fun _ => ?_) (fun c => absurd rfl c)
  refine q_wst rfl rfl rfl ?_
  refine q_wst rfl rfl rfl ?_
  exact K b2 m2 _ (q_ix i 5 _ rfl) hR2
theorem q_lc22 {R : Bool → q_M → Prop} {L i : Nat} {xs : Nat → Int32} {b : Bool} {m : q_M} {Q : Option Int32 → q_H → Prop} (hL : L ≤ 320) (hi : i + 5 ≤ L) (hR : R b m) (ho : ∀ (a1 a2 : Int32), q_Ob R 83 150 [a1, a2]) (K : ∀ (b : Bool) (m : q_M) (x : Int32), x = nI (i + 5) → R b m → q_WP (some (L, xs)) 100 0 18 (q_lf x) [] (q_hp b m) Q) : q_WP (some (L, xs)) 100 0 876 (q_lf (nI i)) [] (q_hp b m) Q := by
  unfold q_lf
  repeat (refine q_wst rfl rfl rfl ?_)
  refine q_wrs (i + 1) (q_ix i 1 _ rfl) (by omega) rfl (by omega) ?_
  repeat (refine q_wst rfl rfl rfl ?_)
  refine q_wrs (i + 2) (q_ix i 2 _ rfl) (by omega) rfl (by omega) ?_
  repeat (refine q_wst rfl rfl rfl ?_)
  refine q_wcl rfl rfl rfl ?_
  refine q_wmono (fun r h1 hq => ?_) (ho (xs (i + 1)) (xs (i + 2)) b m hR)
  obtain ⟨v, rfl, b1, m1, rfl, hq⟩ := hq
  repeat (refine q_wst rfl rfl rfl ?_)
  refine q_wrs (i + 1) (q_ix i 1 _ rfl) (by omega) rfl (by omega) ?_
  repeat (refine q_wst rfl rfl rfl ?_)
  refine q_wrs (i + 2) (q_ix i 2 _ rfl) (by omega) rfl (by omega) ?_
  repeat (refine q_wst rfl rfl rfl ?_)
  refine q_wcl rfl rfl rfl ?_
  refine q_wmono (fun r2 h2 hq2 => ?_) hq
  obtain ⟨rfl, b2, m2, rfl, hR2⟩ := hq2
  refine q_wst rfl rfl rfl ?_
  refine q_wif (fun _ => ?_) (fun c => absurd rfl c)
  refine q_wst rfl rfl rfl ?_
  refine q_wst rfl rfl rfl ?_
  exact K b2 m2 _ (q_ix i 5 _ rfl) hR2
theorem q_lc23 {R : Bool → q_M → Prop} {L i : Nat} {xs : Nat → Int32} {b : Bool} {m : q_M} {Q : Option Int32 → q_H → Prop} (hL : L ≤ 320) (hi : i + 5 ≤ L) (hR : R b m) (ho : ∀ (a1 : Int32), q_Ob R 86 153 [a1]) (K : ∀ (b : Bool) (m : q_M) (x : Int32), x = nI (i + 5) → R b m → q_WP (some (L, xs)) 100 0 18 (q_lf x) [] (q_hp b m) Q) : q_WP (some (L, xs)) 100 0 909 (q_lf (nI i)) [] (q_hp b m) Q := by
  unfold q_lf
  repeat (refine q_wst rfl rfl rfl ?_)
  refine q_wrs (i + 1) (q_ix i 1 _ rfl) (by omega) rfl (by omega) ?_
  repeat (refine q_wst rfl rfl rfl ?_)
  refine q_wcl rfl rfl rfl ?_
  refine q_wmono (fun r h1 hq => ?_) (ho (xs (i + 1)) b m hR)
  obtain ⟨v, rfl, b1, m1, rfl, hq⟩ := hq
  repeat (refine q_wst rfl rfl rfl ?_)
  refine q_wrs (i + 1) (q_ix i 1 _ rfl) (by omega) rfl (by omega) ?_
  repeat (refine q_wst rfl rfl rfl ?_)
  refine q_wcl rfl rfl rfl ?_
  refine q_wmono (fun r2 h2 hq2 => ?_) hq
  obtain ⟨rfl, b2, m2, rfl, hR2⟩ := hq2
  refine q_wst rfl rfl rfl ?_
  refine q_wif (fun _ => ?_) (fun c => absurd rfl c)
  refine q_wst rfl rfl rfl ?_
  refine q_wst rfl rfl rfl ?_
  exact K b2 m2 _ (q_ix i 5 _ rfl) hR2
theorem q_lc24 {R : Bool → q_M → Prop} {L i : Nat} {xs : Nat → Int32} {b : Bool} {m : q_M} {Q : Option Int32 → q_H → Prop} (hL : L ≤ 320) (hi : i + 5 ≤ L) (hR : R b m) (ho : ∀ (a1 : Int32), q_Ob R 87 154 [a1]) (K : ∀ (b : Bool) (m : q_M) (x : Int32), x = nI (i + 5) → R b m → q_WP (some (L, xs)) 100 0 18 (q_lf x) [] (q_hp b m) Q) : q_WP (some (L, xs)) 100 0 932 (q_lf (nI i)) [] (q_hp b m) Q := by
  unfold q_lf
  repeat (refine q_wst rfl rfl rfl ?_)
  refine q_wrs (i + 1) (q_ix i 1 _ rfl) (by omega) rfl (by omega) ?_
  repeat (refine q_wst rfl rfl rfl ?_)
  refine q_wcl rfl rfl rfl ?_
  refine q_wmono (fun r h1 hq => ?_) (ho (xs (i + 1)) b m hR)
  obtain ⟨v, rfl, b1, m1, rfl, hq⟩ := hq
  repeat (refine q_wst rfl rfl rfl ?_)
  refine q_wrs (i + 1) (q_ix i 1 _ rfl) (by omega) rfl (by omega) ?_
  repeat (refine q_wst rfl rfl rfl ?_)
  refine q_wcl rfl rfl rfl ?_
  refine q_wmono (fun r2 h2 hq2 => ?_) hq
  obtain ⟨rfl, b2, m2, rfl, hR2⟩ := hq2
  refine q_wst rfl rfl rfl ?_
  refine q_wif (fun _ => ?_) (fun c => absurd rfl c)
  refine q_wst rfl rfl rfl ?_
  refine q_wst rfl rfl rfl ?_
  exact K b2 m2 _ (q_ix i 5 _ rfl) hR2
theorem q_lc25 {R : Bool → q_M → Prop} {L i : Nat} {xs : Nat → Int32} {b : Bool} {m : q_M} {Q : Option Int32 → q_H → Prop} (hL : L ≤ 320) (hi : i + 5 ≤ L) (hR : R b m) (ho : ∀ (_ : Unit), q_Ob R 88 159 []) (K : ∀ (b : Bool) (m : q_M) (x : Int32), x = nI (i + 5) → R b m → q_WP (some (L, xs)) 100 0 18 (q_lf x) [] (q_hp b m) Q) : q_WP (some (L, xs)) 100 0 955 (q_lf (nI i)) [] (q_hp b m) Q := by
  unfold q_lf

  repeat (refine q_wst rfl rfl rfl ?_)
  refine q_wcl rfl rfl rfl ?_
  refine q_wmono (fun r h1 hq => ?_) (ho () b m hR)
  obtain ⟨v, rfl, b1, m1, rfl, hq⟩ := hq

  repeat (refine q_wst rfl rfl rfl ?_)
  refine q_wcl rfl rfl rfl ?_
  refine q_wmono (fun r2 h2 hq2 => ?_) hq
  obtain ⟨rfl, b2, m2, rfl, hR2⟩ := hq2
  refine q_wst rfl rfl rfl ?_
  refine q_wif (fun _ => ?_) (fun c => absurd rfl c)
  refine q_wst rfl rfl rfl ?_
  refine q_wst rfl rfl rfl ?_
  exact K b2 m2 _ (q_ix i 5 _ rfl) hR2
theorem q_lc26 {R : Bool → q_M → Prop} {L i : Nat} {xs : Nat → Int32} {b : Bool} {m : q_M} {Q : Option Int32 → q_H → Prop} (hL : L ≤ 320) (hi : i + 5 ≤ L) (hR : R b m) (ho : ∀ (a1 : Int32), q_Ob R 96 165 [a1]) (K : ∀ (b : Bool) (m : q_M) (x : Int32), x = nI (i + 5) → R b m → q_WP (some (L, xs)) 100 0 18 (q_lf x) [] (q_hp b m) Q) : q_WP (some (L, xs)) 100 0 968 (q_lf (nI i)) [] (q_hp b m) Q := by
  unfold q_lf
  repeat (refine q_wst rfl rfl rfl ?_)
  refine q_wrs (i + 1) (q_ix i 1 _ rfl) (by omega) rfl (by omega) ?_
  repeat (refine q_wst rfl rfl rfl ?_)
  refine q_wcl rfl rfl rfl ?_
  refine q_wmono (fun r h1 hq => ?_) (ho (xs (i + 1)) b m hR)
  obtain ⟨v, rfl, b1, m1, rfl, hq⟩ := hq
  repeat (refine q_wst rfl rfl rfl ?_)
  refine q_wrs (i + 1) (q_ix i 1 _ rfl) (by omega) rfl (by omega) ?_
  repeat (refine q_wst rfl rfl rfl ?_)
  refine q_wcl rfl rfl rfl ?_
  refine q_wmono (fun r2 h2 hq2 => ?_) hq
  obtain ⟨rfl, b2, m2, rfl, hR2⟩ := hq2
  refine q_wst rfl rfl rfl ?_
  refine q_wif (fun _ => ?_) (fun c => absurd rfl c)
  refine q_wst rfl rfl rfl ?_
  refine q_wst rfl rfl rfl ?_
  exact K b2 m2 _ (q_ix i 5 _ rfl) hR2
theorem q_lc27 {R : Bool → q_M → Prop} {L i : Nat} {xs : Nat → Int32} {b : Bool} {m : q_M} {Q : Option Int32 → q_H → Prop} (hL : L ≤ 320) (hi : i + 5 ≤ L) (hR : R b m) (ho : ∀ (a1 a2 : Int32), q_Ob R 98 168 [a1, a2]) (K : ∀ (b : Bool) (m : q_M) (x : Int32), x = nI (i + 5) → R b m → q_WP (some (L, xs)) 100 0 18 (q_lf x) [] (q_hp b m) Q) : q_WP (some (L, xs)) 100 0 991 (q_lf (nI i)) [] (q_hp b m) Q := by
  unfold q_lf
  repeat (refine q_wst rfl rfl rfl ?_)
  refine q_wrs (i + 1) (q_ix i 1 _ rfl) (by omega) rfl (by omega) ?_
  repeat (refine q_wst rfl rfl rfl ?_)
  refine q_wrs (i + 2) (q_ix i 2 _ rfl) (by omega) rfl (by omega) ?_
  repeat (refine q_wst rfl rfl rfl ?_)
  refine q_wcl rfl rfl rfl ?_
  refine q_wmono (fun r h1 hq => ?_) (ho (xs (i + 1)) (xs (i + 2)) b m hR)
  obtain ⟨v, rfl, b1, m1, rfl, hq⟩ := hq
  repeat (refine q_wst rfl rfl rfl ?_)
  refine q_wrs (i + 1) (q_ix i 1 _ rfl) (by omega) rfl (by omega) ?_
  repeat (refine q_wst rfl rfl rfl ?_)
  refine q_wrs (i + 2) (q_ix i 2 _ rfl) (by omega) rfl (by omega) ?_
  repeat (refine q_wst rfl rfl rfl ?_)
  refine q_wcl rfl rfl rfl ?_
  refine q_wmono (fun r2 h2 hq2 => ?_) hq
  obtain ⟨rfl, b2, m2, rfl, hR2⟩ := hq2
  refine q_wst rfl rfl rfl ?_
  refine q_wif (fun _ => ?_) (fun c => absurd rfl c)
  refine q_wst rfl rfl rfl ?_
  refine q_wst rfl rfl rfl ?_
  exact K b2 m2 _ (q_ix i 5 _ rfl) hR2
theorem q_lc28 {R : Bool → q_M → Prop} {L i : Nat} {xs : Nat → Int32} {b : Bool} {m : q_M} {Q : Option Int32 → q_H → Prop} (hL : L ≤ 320) (hi : i + 5 ≤ L) (hR : R b m) (ho : ∀ (a1 a2 : Int32), q_Ob R 99 169 [a1, a2]) (K : ∀ (b : Bool) (m : q_M) (x : Int32), x = nI (i + 5) → R b m → q_WP (some (L, xs)) 100 0 18 (q_lf x) [] (q_hp b m) Q) : q_WP (some (L, xs)) 100 0 1024 (q_lf (nI i)) [] (q_hp b m) Q := by
  unfold q_lf
  repeat (refine q_wst rfl rfl rfl ?_)
  refine q_wrs (i + 1) (q_ix i 1 _ rfl) (by omega) rfl (by omega) ?_
  repeat (refine q_wst rfl rfl rfl ?_)
  refine q_wrs (i + 2) (q_ix i 2 _ rfl) (by omega) rfl (by omega) ?_
  repeat (refine q_wst rfl rfl rfl ?_)
  refine q_wcl rfl rfl rfl ?_
  refine q_wmono (fun r h1 hq => ?_) (ho (xs (i + 1)) (xs (i + 2)) b m hR)
  obtain ⟨v, rfl, b1, m1, rfl, hq⟩ := hq
  repeat (refine q_wst rfl rfl rfl ?_)
  refine q_wrs (i + 1) (q_ix i 1 _ rfl) (by omega) rfl (by omega) ?_
  repeat (refine q_wst rfl rfl rfl ?_)
  refine q_wrs (i + 2) (q_ix i 2 _ rfl) (by omega) rfl (by omega) ?_
  repeat (refine q_wst rfl rfl rfl ?_)
  refine q_wcl rfl rfl rfl ?_
  refine q_wmono (fun r2 h2 hq2 => ?_) hq
  obtain ⟨rfl, b2, m2, rfl, hR2⟩ := hq2
  refine q_wst rfl rfl rfl ?_
  refine q_wif (fun _ => ?_) (fun c => absurd rfl c)
  refine q_wst rfl rfl rfl ?_
  refine q_wst rfl rfl rfl ?_
  exact K b2 m2 _ (q_ix i 5 _ rfl) hR2
theorem q_lc29 {R : Bool → q_M → Prop} {L i : Nat} {xs : Nat → Int32} {b : Bool} {m : q_M} {Q : Option Int32 → q_H → Prop} (hL : L ≤ 320) (hi : i + 5 ≤ L) (hR : R b m) (ho : ∀ (a1 : Int32), q_Ob R 100 170 [a1]) (K : ∀ (b : Bool) (m : q_M) (x : Int32), x = nI (i + 5) → R b m → q_WP (some (L, xs)) 100 0 18 (q_lf x) [] (q_hp b m) Q) : q_WP (some (L, xs)) 100 0 1057 (q_lf (nI i)) [] (q_hp b m) Q := by
  unfold q_lf
  repeat (refine q_wst rfl rfl rfl ?_)
  refine q_wrs (i + 1) (q_ix i 1 _ rfl) (by omega) rfl (by omega) ?_
  repeat (refine q_wst rfl rfl rfl ?_)
  refine q_wcl rfl rfl rfl ?_
  refine q_wmono (fun r h1 hq => ?_) (ho (xs (i + 1)) b m hR)
  obtain ⟨v, rfl, b1, m1, rfl, hq⟩ := hq
  repeat (refine q_wst rfl rfl rfl ?_)
  refine q_wrs (i + 1) (q_ix i 1 _ rfl) (by omega) rfl (by omega) ?_
  repeat (refine q_wst rfl rfl rfl ?_)
  refine q_wcl rfl rfl rfl ?_
  refine q_wmono (fun r2 h2 hq2 => ?_) hq
  obtain ⟨rfl, b2, m2, rfl, hR2⟩ := hq2
  refine q_wst rfl rfl rfl ?_
  refine q_wif (fun _ => ?_) (fun c => absurd rfl c)
  refine q_wst rfl rfl rfl ?_
  refine q_wst rfl rfl rfl ?_
  exact K b2 m2 _ (q_ix i 5 _ rfl) hR2
theorem q_lc30 {R : Bool → q_M → Prop} {L i : Nat} {xs : Nat → Int32} {b : Bool} {m : q_M} {Q : Option Int32 → q_H → Prop} (hL : L ≤ 320) (hi : i + 5 ≤ L) (hR : R b m) (ho : ∀ (a1 a2 : Int32), q_Ob R 101 171 [a1, a2]) (K : ∀ (b : Bool) (m : q_M) (x : Int32), x = nI (i + 5) → R b m → q_WP (some (L, xs)) 100 0 18 (q_lf x) [] (q_hp b m) Q) : q_WP (some (L, xs)) 100 0 1080 (q_lf (nI i)) [] (q_hp b m) Q := by
  unfold q_lf
  repeat (refine q_wst rfl rfl rfl ?_)
  refine q_wrs (i + 1) (q_ix i 1 _ rfl) (by omega) rfl (by omega) ?_
  repeat (refine q_wst rfl rfl rfl ?_)
  refine q_wrs (i + 2) (q_ix i 2 _ rfl) (by omega) rfl (by omega) ?_
  repeat (refine q_wst rfl rfl rfl ?_)
  refine q_wcl rfl rfl rfl ?_
  refine q_wmono (fun r h1 hq => ?_) (ho (xs (i + 1)) (xs (i + 2)) b m hR)
  obtain ⟨v, rfl, b1, m1, rfl, hq⟩ := hq
  repeat (refine q_wst rfl rfl rfl ?_)
  refine q_wrs (i + 1) (q_ix i 1 _ rfl) (by omega) rfl (by omega) ?_
  repeat (refine q_wst rfl rfl rfl ?_)
  refine q_wrs (i + 2) (q_ix i 2 _ rfl) (by omega) rfl (by omega) ?_
  repeat (refine q_wst rfl rfl rfl ?_)
  refine q_wcl rfl rfl rfl ?_
  refine q_wmono (fun r2 h2 hq2 => ?_) hq
  obtain ⟨rfl, b2, m2, rfl, hR2⟩ := hq2
  refine q_wst rfl rfl rfl ?_
  refine q_wif (fun _ => ?_) (fun c => absurd rfl c)
  refine q_wst rfl rfl rfl ?_
  refine q_wst rfl rfl rfl ?_
  exact K b2 m2 _ (q_ix i 5 _ rfl) hR2
theorem q_lc31 {R : Bool → q_M → Prop} {L i : Nat} {xs : Nat → Int32} {b : Bool} {m : q_M} {Q : Option Int32 → q_H → Prop} (hL : L ≤ 320) (hi : i + 5 ≤ L) (hR : R b m) (ho : ∀ (_ : Unit), q_Ob R 102 172 []) (K : ∀ (b : Bool) (m : q_M) (x : Int32), x = nI (i + 5) → R b m → q_WP (some (L, xs)) 100 0 18 (q_lf x) [] (q_hp b m) Q) : q_WP (some (L, xs)) 100 0 1113 (q_lf (nI i)) [] (q_hp b m) Q := by
  unfold q_lf

  repeat (refine q_wst rfl rfl rfl ?_)
  refine q_wcl rfl rfl rfl ?_
  refine q_wmono (fun r h1 hq => ?_) (ho () b m hR)
  obtain ⟨v, rfl, b1, m1, rfl, hq⟩ := hq

  repeat (refine q_wst rfl rfl rfl ?_)
  refine q_wcl rfl rfl rfl ?_
  refine q_wmono (fun r2 h2 hq2 => ?_) hq
  obtain ⟨rfl, b2, m2, rfl, hR2⟩ := hq2
  refine q_wst rfl rfl rfl ?_
  refine q_wif (fun _ => ?_) (fun c => absurd rfl c)
  refine q_wst rfl rfl rfl ?_
  refine q_wst rfl rfl rfl ?_
  exact K b2 m2 _ (q_ix i 5 _ rfl) hR2
theorem q_lc32 {R : Bool → q_M → Prop} {L i : Nat} {xs : Nat → Int32} {b : Bool} {m : q_M} {Q : Option Int32 → q_H → Prop} (hL : L ≤ 320) (hi : i + 5 ≤ L) (hR : R b m) (ho : ∀ (_ : Unit), q_Ob R 103 173 []) (K : ∀ (b : Bool) (m : q_M) (x : Int32), x = nI (i + 5) → R b m → q_WP (some (L, xs)) 100 0 18 (q_lf x) [] (q_hp b m) Q) : q_WP (some (L, xs)) 100 0 1126 (q_lf (nI i)) [] (q_hp b m) Q := by
  unfold q_lf

  repeat (refine q_wst rfl rfl rfl ?_)
  refine q_wcl rfl rfl rfl ?_
  refine q_wmono (fun r h1 hq => ?_) (ho () b m hR)
  obtain ⟨v, rfl, b1, m1, rfl, hq⟩ := hq

  repeat (refine q_wst rfl rfl rfl ?_)
  refine q_wcl rfl rfl rfl ?_
  refine q_wmono (fun r2 h2 hq2 => ?_) hq
  obtain ⟨rfl, b2, m2, rfl, hR2⟩ := hq2
  refine q_wst rfl rfl rfl ?_
  refine q_wif (fun _ => ?_) (fun c => absurd rfl c)
  refine q_wst rfl rfl rfl ?_
  refine q_wst rfl rfl rfl ?_
  exact K b2 m2 _ (q_ix i 5 _ rfl) hR2
theorem q_lc33 {R : Bool → q_M → Prop} {L i : Nat} {xs : Nat → Int32} {b : Bool} {m : q_M} {Q : Option Int32 → q_H → Prop} (hL : L ≤ 320) (hi : i + 5 ≤ L) (hR : R b m) (ho : ∀ (_ : Unit), q_Ob R 104 174 []) (K : ∀ (b : Bool) (m : q_M) (x : Int32), x = nI (i + 5) → R b m → q_WP (some (L, xs)) 100 0 18 (q_lf x) [] (q_hp b m) Q) : q_WP (some (L, xs)) 100 0 1139 (q_lf (nI i)) [] (q_hp b m) Q := by
  unfold q_lf

  repeat (refine q_wst rfl rfl rfl ?_)
  refine q_wcl rfl rfl rfl ?_
  refine q_wmono (fun r h1 hq => ?_) (ho () b m hR)
  obtain ⟨v, rfl, b1, m1, rfl, hq⟩ := hq

  repeat (refine q_wst rfl rfl rfl ?_)
  refine q_wcl rfl rfl rfl ?_
  refine q_wmono (fun r2 h2 hq2 => ?_) hq
  obtain ⟨rfl, b2, m2, rfl, hR2⟩ := hq2
  refine q_wst rfl rfl rfl ?_
  refine q_wif (fun _ => ?_) (fun c => absurd rfl c)
  refine q_wst rfl rfl rfl ?_
  refine q_wst rfl rfl rfl ?_
  exact K b2 m2 _ (q_ix i 5 _ rfl) hR2
theorem q_lc34 {R : Bool → q_M → Prop} {L i : Nat} {xs : Nat → Int32} {b : Bool} {m : q_M} {Q : Option Int32 → q_H → Prop} (hL : L ≤ 320) (hi : i + 5 ≤ L) (hR : R b m) (ho : ∀ (a1 : Int32), q_Ob R 105 175 [a1]) (K : ∀ (b : Bool) (m : q_M) (x : Int32), x = nI (i + 5) → R b m → q_WP (some (L, xs)) 100 0 18 (q_lf x) [] (q_hp b m) Q) : q_WP (some (L, xs)) 100 0 1152 (q_lf (nI i)) [] (q_hp b m) Q := by
  unfold q_lf
  repeat (refine q_wst rfl rfl rfl ?_)
  refine q_wrs (i + 1) (q_ix i 1 _ rfl) (by omega) rfl (by omega) ?_
  repeat (refine q_wst rfl rfl rfl ?_)
  refine q_wcl rfl rfl rfl ?_
  refine q_wmono (fun r h1 hq => ?_) (ho (xs (i + 1)) b m hR)
  obtain ⟨v, rfl, b1, m1, rfl, hq⟩ := hq
  repeat (refine q_wst rfl rfl rfl ?_)
  refine q_wrs (i + 1) (q_ix i 1 _ rfl) (by omega) rfl (by omega) ?_
  repeat (refine q_wst rfl rfl rfl ?_)
  refine q_wcl rfl rfl rfl ?_
  refine q_wmono (fun r2 h2 hq2 => ?_) hq
  obtain ⟨rfl, b2, m2, rfl, hR2⟩ := hq2
  refine q_wst rfl rfl rfl ?_
  refine q_wif (fun _ => ?_) (fun c => absurd rfl c)
  refine q_wst rfl rfl rfl ?_
  refine q_wst rfl rfl rfl ?_
  exact K b2 m2 _ (q_ix i 5 _ rfl) hR2
theorem q_lc35 {R : Bool → q_M → Prop} {L i : Nat} {xs : Nat → Int32} {b : Bool} {m : q_M} {Q : Option Int32 → q_H → Prop} (hL : L ≤ 320) (hi : i + 5 ≤ L) (hR : R b m) (ho : ∀ (_ : Unit), q_Ob R 106 176 []) (K : ∀ (b : Bool) (m : q_M) (x : Int32), x = nI (i + 5) → R b m → q_WP (some (L, xs)) 100 0 18 (q_lf x) [] (q_hp b m) Q) : q_WP (some (L, xs)) 100 0 1175 (q_lf (nI i)) [] (q_hp b m) Q := by
  unfold q_lf

  repeat (refine q_wst rfl rfl rfl ?_)
  refine q_wcl rfl rfl rfl ?_
  refine q_wmono (fun r h1 hq => ?_) (ho () b m hR)
  obtain ⟨v, rfl, b1, m1, rfl, hq⟩ := hq

  repeat (refine q_wst rfl rfl rfl ?_)
  refine q_wcl rfl rfl rfl ?_
  refine q_wmono (fun r2 h2 hq2 => ?_) hq
  obtain ⟨rfl, b2, m2, rfl, hR2⟩ := hq2
  refine q_wst rfl rfl rfl ?_
  refine q_wif (fun _ => ?_) (fun c => absurd rfl c)
  refine q_wst rfl rfl rfl ?_
  refine q_wst rfl rfl rfl ?_
  exact K b2 m2 _ (q_ix i 5 _ rfl) hR2
theorem q_lc36 {R : Bool → q_M → Prop} {L i : Nat} {xs : Nat → Int32} {b : Bool} {m : q_M} {Q : Option Int32 → q_H → Prop} (hL : L ≤ 320) (hi : i + 5 ≤ L) (hR : R b m) (ho : ∀ (a1 : Int32), q_Ob R 107 177 [a1]) (K : ∀ (b : Bool) (m : q_M) (x : Int32), x = nI (i + 5) → R b m → q_WP (some (L, xs)) 100 0 18 (q_lf x) [] (q_hp b m) Q) : q_WP (some (L, xs)) 100 0 1188 (q_lf (nI i)) [] (q_hp b m) Q := by
  unfold q_lf
  repeat (refine q_wst rfl rfl rfl ?_)
  refine q_wrs (i + 1) (q_ix i 1 _ rfl) (by omega) rfl (by omega) ?_
  repeat (refine q_wst rfl rfl rfl ?_)
  refine q_wcl rfl rfl rfl ?_
  refine q_wmono (fun r h1 hq => ?_) (ho (xs (i + 1)) b m hR)
  obtain ⟨v, rfl, b1, m1, rfl, hq⟩ := hq
  repeat (refine q_wst rfl rfl rfl ?_)
  refine q_wrs (i + 1) (q_ix i 1 _ rfl) (by omega) rfl (by omega) ?_
  repeat (refine q_wst rfl rfl rfl ?_)
  refine q_wcl rfl rfl rfl ?_
  refine q_wmono (fun r2 h2 hq2 => ?_) hq
  obtain ⟨rfl, b2, m2, rfl, hR2⟩ := hq2
  refine q_wst rfl rfl rfl ?_
  refine q_wif (fun _ => ?_) (fun c => absurd rfl c)
  refine q_wst rfl rfl rfl ?_
  refine q_wst rfl rfl rfl ?_
  exact K b2 m2 _ (q_ix i 5 _ rfl) hR2
theorem q_lc37 {R : Bool → q_M → Prop} {L i : Nat} {xs : Nat → Int32} {b : Bool} {m : q_M} {Q : Option Int32 → q_H → Prop} (hL : L ≤ 320) (hi : i + 5 ≤ L) (hR : R b m) (ho : ∀ (a1 : Int32), q_Ob R 109 180 [a1]) (K : ∀ (b : Bool) (m : q_M) (x : Int32), x = nI (i + 5) → R b m → q_WP (some (L, xs)) 100 0 18 (q_lf x) [] (q_hp b m) Q) : q_WP (some (L, xs)) 100 0 1211 (q_lf (nI i)) [] (q_hp b m) Q := by
  unfold q_lf
  repeat (refine q_wst rfl rfl rfl ?_)
  refine q_wrs (i + 1) (q_ix i 1 _ rfl) (by omega) rfl (by omega) ?_
  repeat (refine q_wst rfl rfl rfl ?_)
  refine q_wcl rfl rfl rfl ?_
  refine q_wmono (fun r h1 hq => ?_) (ho (xs (i + 1)) b m hR)
  obtain ⟨v, rfl, b1, m1, rfl, hq⟩ := hq
  repeat (refine q_wst rfl rfl rfl ?_)
  refine q_wrs (i + 1) (q_ix i 1 _ rfl) (by omega) rfl (by omega) ?_
  repeat (refine q_wst rfl rfl rfl ?_)
  refine q_wcl rfl rfl rfl ?_
  refine q_wmono (fun r2 h2 hq2 => ?_) hq
  obtain ⟨rfl, b2, m2, rfl, hR2⟩ := hq2
  refine q_wst rfl rfl rfl ?_
  refine q_wif (fun _ => ?_) (fun c => absurd rfl c)
  refine q_wst rfl rfl rfl ?_
  refine q_wst rfl rfl rfl ?_
  exact K b2 m2 _ (q_ix i 5 _ rfl) hR2
theorem q_sw (j : Nat) (hj : 38 ≤ j) (h6 : j < 64) {L : Nat} {xs : Nat → Int32} {pl : q_L} {h : q_H} {Q : Option Int32 → q_H → Prop} (g : q_WP (some (L, xs)) 100 0 1234 pl [] h Q) : q_WP (some (L, xs)) 100 0 32 pl [vi (nI j)] h Q := by
  rcases (by omega : j = 38 ∨ j = 39 ∨ j = 40 ∨ j = 41 ∨ j = 42 ∨ j = 43 ∨ j = 44 ∨ j = 45 ∨ j = 46 ∨ j = 47 ∨ j = 48 ∨ j = 49 ∨ j = 50 ∨ j = 51 ∨ j = 52 ∨ j = 53 ∨ j = 54 ∨ j = 55 ∨ j = 56 ∨ j = 57 ∨ j = 58 ∨ j = 59 ∨ j = 60 ∨ j = 61 ∨ j = 62 ∨ j = 63) with rfl | rfl | rfl | rfl | rfl | rfl | rfl | rfl | rfl | rfl | rfl | rfl | rfl | rfl | rfl | rfl | rfl | rfl | rfl | rfl | rfl | rfl | rfl | rfl | rfl | rfl
  · exact q_wst rfl rfl rfl g
  · exact q_wst rfl rfl rfl g
  · exact q_wst rfl rfl rfl g
  · exact q_wst rfl rfl rfl g
  · exact q_wst rfl rfl rfl g
  · exact q_wst rfl rfl rfl g
  · exact q_wst rfl rfl rfl g
  · exact q_wst rfl rfl rfl g
  · exact q_wst rfl rfl rfl g
  · exact q_wst rfl rfl rfl g
  · exact q_wst rfl rfl rfl g
  · exact q_wst rfl rfl rfl g
  · exact q_wst rfl rfl rfl g
  · exact q_wst rfl rfl rfl g
  · exact q_wst rfl rfl rfl g
  · exact q_wst rfl rfl rfl g
  · exact q_wst rfl rfl rfl g
  · exact q_wst rfl rfl rfl g
  · exact q_wst rfl rfl rfl g
  · exact q_wst rfl rfl rfl g
  · exact q_wst rfl rfl rfl g
  · exact q_wst rfl rfl rfl g
  · exact q_wst rfl rfl rfl g
  · exact q_wst rfl rfl rfl g
  · exact q_wst rfl rfl rfl g
  · exact q_wst rfl rfl rfl g
theorem q_loop {R : Bool → q_M → Prop} {L : Nat} {xs : Nat → Int32} {Q : Option Int32 → q_H → Prop} (hL : L ≤ 320) (hQ : ∀ b m, R b m → Q (some 1) (q_hp b m)) (o0 : ∀ (a1 a2 : Int32), q_Ob R 48 111 [a1, a2]) (o1 : ∀ (a1 a2 : Int32), q_Ob R 51 114 [a1, a2]) (o2 : ∀ (a1 a2 a3 a4 : Int32), q_Ob R 55 117 [a1, a2, a3, a4]) (o3 : ∀ (a1 a2 : Int32), q_Ob R 59 122 [a1, a2]) (o4 : ∀ (a1 a2 a3 : Int32), q_Ob R 60 123 [a1, a2, a3]) (o5 : ∀ (a1 a2 : Int32), q_Ob R 63 126 [a1, a2]) (o6 : ∀ (a1 a2 : Int32), q_Ob R 64 128 [a1, a2]) (o7 : ∀ (a1 a2 : Int32), q_Ob R 65 129 [a1, a2]) (o8 : ∀ (a1 : Int32), q_Ob R 66 130 [a1]) (o9 : ∀ (a1 a2 : Int32), q_Ob R 67 131 [a1, a2]) (o10 : ∀ (a1 a2 : Int32), q_Ob R 68 132 [a1, a2]) (o11 : ∀ (a1 a2 : Int32), q_Ob R 69 133 [a1, a2]) (o12 : ∀ (a1 : Int32), q_Ob R 70 134 [a1]) (o13 : ∀ (a1 : Int32), q_Ob R 72 136 [a1]) (o14 : ∀ (a1 a2 : Int32), q_Ob R 73 137 [a1, a2]) (o15 : ∀ (_ : Unit), q_Ob R 74 139 []) (o16 : ∀ (a1 : Int32), q_Ob R 76 144 [a1]) (o17 : ∀ (a1 : Int32), q_Ob R 77 145 [a1]) (o18 : ∀ (a1 : Int32), q_Ob R 79 146 [a1]) (o19 : ∀ (a1 a2 : Int32), q_Ob R 80 147 [a1, a2]) (o20 : ∀ (a1 a2 : Int32), q_Ob R 81 148 [a1, a2]) (o21 : ∀ (a1 a2 : Int32), q_Ob R 82 149 [a1, a2]) (o22 : ∀ (a1 a2 : Int32), q_Ob R 83 150 [a1, a2]) (o23 : ∀ (a1 : Int32), q_Ob R 86 153 [a1]) (o24 : ∀ (a1 : Int32), q_Ob R 87 154 [a1]) (o25 : ∀ (_ : Unit), q_Ob R 88 159 []) (o26 : ∀ (a1 : Int32), q_Ob R 96 165 [a1]) (o27 : ∀ (a1 a2 : Int32), q_Ob R 98 168 [a1, a2]) (o28 : ∀ (a1 a2 : Int32), q_Ob R 99 169 [a1, a2]) (o29 : ∀ (a1 : Int32), q_Ob R 100 170 [a1]) (o30 : ∀ (a1 a2 : Int32), q_Ob R 101 171 [a1, a2]) (o31 : ∀ (_ : Unit), q_Ob R 102 172 []) (o32 : ∀ (_ : Unit), q_Ob R 103 173 []) (o33 : ∀ (_ : Unit), q_Ob R 104 174 []) (o34 : ∀ (a1 : Int32), q_Ob R 105 175 [a1]) (o35 : ∀ (_ : Unit), q_Ob R 106 176 []) (o36 : ∀ (a1 : Int32), q_Ob R 107 177 [a1]) (o37 : ∀ (a1 : Int32), q_Ob R 109 180 [a1]) : ∀ (n i : Nat), L < i + n → i ≤ L → ∀ (b : Bool) (m : q_M) (x : Int32), x = nI i → R b m → q_WP (some (L, xs)) 100 0 18 (q_lf x) [] (q_hp b m) Q := by
  intro n
  induction n with
  | zero => intro i h1 h2; omega
  | succ n ih =>
    intro i h1 h2 b m x hx hR
    subst hx
    have hlen : (nI L - 5).toInt = (L : Int) - 5 := pk_sub_toInt (a := L) (b := 5) (by omega) (by omega)
    have hii : (nI i).toInt = (i : Int) := nI_toInt (by omega)
    unfold q_lf
    repeat (refine q_wst rfl rfl rfl ?_)
    refine q_wif (fun c => ?_) (fun c => ?_)
    · repeat (refine q_wst rfl rfl rfl ?_)
      exact q_wrt rfl rfl rfl (hQ b m hR)
    · have hi : i + 5 ≤ L := by
        have c2 : ¬ nI L - 5 < nI i := c
        rw [Int32.lt_iff_toInt_lt, hlen, hii] at c2
        omega
      have K : ∀ (b : Bool) (m : q_M) (x : Int32), x = nI (i + 5) → R b m → q_WP (some (L, xs)) 100 0 18 (q_lf x) [] (q_hp b m) Q := fun b m x hx hR => ih (i + 5) (by omega) hi b m x hx hR
      repeat (refine q_wst rfl rfl rfl ?_)
      refine q_wrs i rfl (by omega) rfl (by omega) ?_
      refine q_wst rfl rfl rfl ?_
      refine q_wst rfl rfl rfl ?_
      obtain ⟨j, hj, e⟩ := pk_andE (xs i) (m := 63) 6 (by decide)
      have e : xs i &&& 63 = nI j := e
      show q_WP (some (L, xs)) 100 0 32 (q_lf (nI i)) [vi (xs i &&& 63)] (q_hp b m) Q
      rw [e]
      rcases (by omega : j = 0 ∨ j = 1 ∨ j = 2 ∨ j = 3 ∨ j = 4 ∨ j = 5 ∨ j = 6 ∨ j = 7 ∨ j = 8 ∨ j = 9 ∨ j = 10 ∨ j = 11 ∨ j = 12 ∨ j = 13 ∨ j = 14 ∨ j = 15 ∨ j = 16 ∨ j = 17 ∨ j = 18 ∨ j = 19 ∨ j = 20 ∨ j = 21 ∨ j = 22 ∨ j = 23 ∨ j = 24 ∨ j = 25 ∨ j = 26 ∨ j = 27 ∨ j = 28 ∨ j = 29 ∨ j = 30 ∨ j = 31 ∨ j = 32 ∨ j = 33 ∨ j = 34 ∨ j = 35 ∨ j = 36 ∨ j = 37 ∨ 38 ≤ j) with rfl | rfl | rfl | rfl | rfl | rfl | rfl | rfl | rfl | rfl | rfl | rfl | rfl | rfl | rfl | rfl | rfl | rfl | rfl | rfl | rfl | rfl | rfl | rfl | rfl | rfl | rfl | rfl | rfl | rfl | rfl | rfl | rfl | rfl | rfl | rfl | rfl | rfl | h38
      · exact q_wst rfl rfl rfl (q_lc0 hL hi hR o0 K)
      · exact q_wst rfl rfl rfl (q_lc1 hL hi hR o1 K)
      · exact q_wst rfl rfl rfl (q_lc2 hL hi hR o2 K)
      · exact q_wst rfl rfl rfl (q_lc3 hL hi hR o3 K)
      · exact q_wst rfl rfl rfl (q_lc4 hL hi hR o4 K)
      · exact q_wst rfl rfl rfl (q_lc5 hL hi hR o5 K)
      · exact q_wst rfl rfl rfl (q_lc6 hL hi hR o6 K)
      · exact q_wst rfl rfl rfl (q_lc7 hL hi hR o7 K)
      · exact q_wst rfl rfl rfl (q_lc8 hL hi hR o8 K)
      · exact q_wst rfl rfl rfl (q_lc9 hL hi hR o9 K)
      · exact q_wst rfl rfl rfl (q_lc10 hL hi hR o10 K)
      · exact q_wst rfl rfl rfl (q_lc11 hL hi hR o11 K)
      · exact q_wst rfl rfl rfl (q_lc12 hL hi hR o12 K)
      · exact q_wst rfl rfl rfl (q_lc13 hL hi hR o13 K)
      · exact q_wst rfl rfl rfl (q_lc14 hL hi hR o14 K)
      · exact q_wst rfl rfl rfl (q_lc15 hL hi hR o15 K)
      · exact q_wst rfl rfl rfl (q_lc16 hL hi hR o16 K)
      · exact q_wst rfl rfl rfl (q_lc17 hL hi hR o17 K)
      · exact q_wst rfl rfl rfl (q_lc18 hL hi hR o18 K)
      · exact q_wst rfl rfl rfl (q_lc19 hL hi hR o19 K)
      · exact q_wst rfl rfl rfl (q_lc20 hL hi hR o20 K)
      · exact q_wst rfl rfl rfl (q_lc21 hL hi hR o21 K)
      · exact q_wst rfl rfl rfl (q_lc22 hL hi hR o22 K)
      · exact q_wst rfl rfl rfl (q_lc23 hL hi hR o23 K)
      · exact q_wst rfl rfl rfl (q_lc24 hL hi hR o24 K)
      · exact q_wst rfl rfl rfl (q_lc25 hL hi hR o25 K)
      · exact q_wst rfl rfl rfl (q_lc26 hL hi hR o26 K)
      · exact q_wst rfl rfl rfl (q_lc27 hL hi hR o27 K)
      · exact q_wst rfl rfl rfl (q_lc28 hL hi hR o28 K)
      · exact q_wst rfl rfl rfl (q_lc29 hL hi hR o29 K)
      · exact q_wst rfl rfl rfl (q_lc30 hL hi hR o30 K)
      · exact q_wst rfl rfl rfl (q_lc31 hL hi hR o31 K)
      · exact q_wst rfl rfl rfl (q_lc32 hL hi hR o32 K)
      · exact q_wst rfl rfl rfl (q_lc33 hL hi hR o33 K)
      · exact q_wst rfl rfl rfl (q_lc34 hL hi hR o34 K)
      · exact q_wst rfl rfl rfl (q_lc35 hL hi hR o35 K)
      · exact q_wst rfl rfl rfl (q_lc36 hL hi hR o36 K)
      · exact q_wst rfl rfl rfl (q_lc37 hL hi hR o37 K)
      · refine q_sw j h38 hj ?_
        refine q_wst rfl rfl rfl ?_
        refine q_wst rfl rfl rfl ?_
        exact K b m _ (q_ix i 5 _ rfl) hR
