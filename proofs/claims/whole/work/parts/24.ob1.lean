/-! the reference's small methods; obligations: slack, day, tell, purse, column, found -/
theorem t_mwithin (d : Nat) (n lo hi : Int32) (h : q_H) (Q : Option Int32 → q_H → Prop) (ht : lo ≤ n → n ≤ hi → Q (some 1) h) (hf : ¬ (lo ≤ n ∧ n ≤ hi) → Q (some 0) h) : q_Wm d 112 [vi n, vi lo, vi hi] h Q := by
  unfold q_Wm
  repeat (refine q_wst rfl rfl rfl ?_)
  refine q_wif (fun c1 => ?_) (fun c1 => ?_)
  · repeat (refine q_wst rfl rfl rfl ?_)
    exact q_wrt rfl rfl rfl (hf (fun q => absurd q.1 (Int32.not_le.mpr c1)))
  · repeat (refine q_wst rfl rfl rfl ?_)
    refine q_wif (fun c2 => ?_) (fun c2 => ?_)
    · repeat (refine q_wst rfl rfl rfl ?_)
      exact q_wrt rfl rfl rfl (hf (fun q => absurd q.2 (Int32.not_le.mpr c2)))
    · repeat (refine q_wst rfl rfl rfl ?_)
      exact q_wrt rfl rfl rfl (ht (Int32.not_lt.mp c1) (Int32.not_lt.mp c2))
theorem t_mfinding (d : Nat) (b : Bool) (m : q_M) (j : Nat) (x : Int32) (hj : j < 6) (hx : -1000000000 - x = nI j) (Q : Option Int32 → q_H → Prop) (hQ : Q (some x) (q_hp b (q_up m 114 j (m 114 j + 1)))) : q_Wm d 113 [vr 97, vi x] (q_hp b m) Q := by
  unfold q_Wm
  iterate 6 (refine q_wst rfl rfl rfl ?_)
  refine q_wrd j hx hj rfl (q_at114 b) (by decide) ?_
  iterate 2 (refine q_wst rfl rfl rfl ?_)
  refine q_wwr j hx hj rfl (q_at114 b) (by decide) ?_
  repeat (refine q_wst rfl rfl rfl ?_)
  exact q_wrt rfl rfl rfl hQ
section QF
variable {k pc : Nat} {pl : q_L} {b : Bool} {m : q_M} {Q : Option Int32 → q_H → Prop} {i i2 a2 b2 : Nat} {c2 : Int32} {ins : Instr}
/-- the class refuses: its call of finding, and the return -/
theorem q_cf (j : Nat) {x : Int32} (hx : x = nI j) (hj : j < 6) (hc : q_cd k pc = some (.invokevirtual i, 50, 0, 0)) (hc2 : q_cd k (pc + 3) = some (.ireturn, a2, b2, c2)) (hr : q_rt k = some .int) (g : Q (some (-1000000000 - nI j)) (q_hp b (q_up m 36 j (m 36 j + 1)))) : q_WP none 99 k pc pl [vi x, vr 0] (q_hp b m) Q := by
  subst hx
  refine q_wcl hc rfl ?_ ?_
  · rfl
  · refine t_finding 98 b m j hj _ ?_
    refine q_wrt hc2 rfl ?_ g
    unfold q_ro
    rw [hr]
/-- the reference refuses -/
theorem q_mf (j : Nat) {x : Int32} (hx : -1000000000 - x = nI j) (hj : j < 6) (hc : q_cd k pc = some (.invokevirtual i, 113, 0, 0)) (hc2 : q_cd k (pc + 3) = some (.ireturn, a2, b2, c2)) (hr : q_rt k = some .int) (g : Q (some x) (q_hp b (q_up m 114 j (m 114 j + 1)))) : q_WP none 99 k pc pl [vi x, vr 97] (q_hp b m) Q := by
  refine q_wcl hc rfl ?_ ?_
  · rfl
  · refine t_mfinding 98 b m j x hj hx _ ?_
    refine q_wrt hc2 rfl ?_ g
    unfold q_ro
    rw [hr]
end QF
theorem ob_slack (a1 : Int32) : q_Ob q_RR 72 136 [a1] := by
  intro b m hR
  unfold q_Wm
  repeat (refine q_wst rfl rfl rfl ?_)
  refine q_wcl rfl rfl rfl ?_
  refine t_within _ _ _ _ _ _ (fun c1 c2 => ?_) (fun c1 => ?_)
  · repeat (refine q_wst rfl rfl rfl ?_)
    refine q_wrt rfl rfl rfl ⟨_, rfl, b, _, rfl, ?_⟩
    unfold q_Wm
    repeat (refine q_wst rfl rfl rfl ?_)
    refine q_wcl rfl rfl rfl ?_
    refine t_mwithin _ _ _ _ _ _ (fun _ _ => ?_) (fun q => absurd ⟨c1, c2⟩ q)
    repeat (refine q_wst rfl rfl rfl ?_)
    obtain ⟨P, w, ⟨r1, ⟨S, hS, s1, s2⟩, r3, r4, r5, r6, r7, r8, r9, r10, r11, r12, r14⟩, r13⟩ := hR
    obtain ⟨S2, hS2, e2⟩ := nI_of2 (M := 3) (n := 3) rfl (Int32.not_lt.mpr c1) c2
    refine q_wrt rfl rfl rfl ⟨?_, b, _, rfl, ⟨P, w, ⟨r1, ⟨S2, hS2, e2, e2⟩, r3, r4, r5, r6, r7, q_r8_ag (fun c hc => ?_) r8, r9, r10, r11, r12, r14⟩, r13⟩⟩
    · show some (m 97 3) = some (m 0 5)
      rw [s1, s2]
    · show q_up (q_up m 0 5 a1) 97 3 a1 c = m c
      rw [q_up_ne (by omega), q_up_ne (by omega)]
  · repeat (refine q_wst rfl rfl rfl ?_)
    refine q_cf 1 rfl (by decide) rfl rfl rfl ⟨_, rfl, b, _, rfl, ?_⟩
    unfold q_Wm
    repeat (refine q_wst rfl rfl rfl ?_)
    refine q_wcl rfl rfl rfl ?_
    refine t_mwithin _ _ _ _ _ _ (fun x y => absurd ⟨x, y⟩ c1) (fun _ => ?_)
    repeat (refine q_wst rfl rfl rfl ?_)
    exact q_mf 1 rfl (by decide) rfl rfl rfl ⟨rfl, b, _, rfl, q_RR_fnd hR (q_same_rf _)⟩
