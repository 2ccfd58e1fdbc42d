/-! the class: small methods -/
abbrev vi (x : Int32) : q_V := .inl x
abbrev vr (k : Nat) : q_V := .inr (.inl (some k))
theorem t_within (d : Nat) (n lo hi : Int32) (h : q_H) (Q : Option Int32 → q_H → Prop) (ht : lo ≤ n → n ≤ hi → Q (some 1) h) (hf : ¬ (lo ≤ n ∧ n ≤ hi) → Q (some 0) h) : q_Wm d 49 [vi n, vi lo, vi hi] h Q := by
  unfold q_Wm
  repeat (refine q_wst rfl rfl rfl ?_)
  refine q_wif (fun c1 => ?_) (fun c1 => ?_)
  · repeat (refine q_wst rfl rfl rfl ?_)
    exact q_wrt rfl rfl rfl (hf (fun q => absurd q.1 (Int32.not_le.mpr c1)))
  · repeat (refine q_wst rfl rfl rfl ?_)
    refine q_wif (fun c2 => ?_) (fun c2 => ?_)
    · repeat (refine q_wst rfl rfl rfl ?_)
      exact q_wrt rfl rfl rfl (hf (fun q => absurd q.2 (Int32.not_le.mpr c2)))
    · repeat (refine q_wst rfl rfl rfl ?_)
      exact q_wrt rfl rfl rfl (ht (Int32.not_lt.mp c1) (Int32.not_lt.mp c2))
theorem t_isParty (d : Nat) (n : Int32) (h : q_H) (Q : Option Int32 → q_H → Prop) (ht : 0 ≤ n → n ≤ 7 → Q (some 1) h) (hf : ¬ (0 ≤ n ∧ n ≤ 7) → Q (some 0) h) : q_Wm (d + 1) 52 [vi n] h Q := by
  unfold q_Wm
  repeat (refine q_wst rfl rfl rfl ?_)
  refine q_wcl rfl rfl rfl ?_
  refine t_within _ _ _ _ _ _ (fun a1 a2 => ?_) (fun a1 => ?_)
  · exact q_wrt rfl rfl rfl (ht a1 a2)
  · exact q_wrt rfl rfl rfl (hf a1)
theorem t_finding (d : Nat) (b : Bool) (m : q_M) (j : Nat) (hj : j < 6) (Q : Option Int32 → q_H → Prop) (hQ : Q (some (-1000000000 - nI j)) (q_hp b (q_up m 36 j (m 36 j + 1)))) : q_Wm d 50 [vr 0, vi (nI j)] (q_hp b m) Q := by
  unfold q_Wm
  repeat (refine q_wst rfl rfl rfl ?_)
  refine q_wrd j rfl hj rfl (q_at36 b) (by decide) ?_
  repeat (refine q_wst rfl rfl rfl ?_)
  refine q_wwr j rfl hj rfl (q_at36 b) (by decide) ?_
  repeat (refine q_wst rfl rfl rfl ?_)
  exact q_wrt rfl rfl rfl hQ
