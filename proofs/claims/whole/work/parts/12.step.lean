theorem q_bif {x y : Option (Nat × q_L × List q_V × q_H)} {cd : Bool} {z : Nat × q_L × List q_V × q_H} (h : (bif cd then x else y) = some z) : (cd = true ∧ x = some z) ∨ (cd = false ∧ y = some z) := by
  cases cd
  · exact Or.inr ⟨rfl, h⟩
  · exact Or.inl ⟨rfl, h⟩
def q_mo (h h' : q_H) : Prop := h.1.length ≤ h'.1.length ∧ q_slo h.1 ≤ q_slo h'.1
theorem q_mo_rf (h : q_H) : q_mo h h := ⟨Nat.le_refl _, Nat.le_refl _⟩
theorem q_mo_eq {h h' : q_H} (e : h' = h) : q_mo h h' := e ▸ q_mo_rf h
theorem q_mo_app {h h' : q_H} {l : List q_S} (e : h'.1 = h.1 ++ l) : q_mo h h' := by
  unfold q_mo
  rw [e, List.length_append, q_slo_app]
  omega
theorem q_mo_set {h h' : q_H} {k : Nat} {x y : q_S} (hk : h.1[k]? = some x) (e : h'.1 = h.1.set k y) (hz : q_sz y = q_sz x) : q_mo h h' := by
  unfold q_mo
  rw [e, List.length_set, q_slo_set hk hz]
  omega
theorem q_mo_tr {a b c : q_H} (h1 : q_mo a b) (h2 : q_mo b c) : q_mo a c := ⟨Nat.le_trans h1.1 h2.1, Nat.le_trans h1.2 h2.2⟩
section QM
variable {X : q_X} {pc pc' : Nat} {pl pl' : q_L} {st st' : List q_V} {h h' : q_H}
theorem q_m_ild {n i : Nat} (hs : q_ild pc n i pl st h = some (pc', pl', st', h')) : q_mo h h' := by
  unfold q_ild at hs
  split at hs <;> cases hs
  exact q_mo_rf _
theorem q_m_ald {n i : Nat} (hs : q_ald pc n i pl st h = some (pc', pl', st', h')) : q_mo h h' := by
  unfold q_ald at hs
  split at hs <;> cases hs
  · exact q_mo_rf _
  · exact q_mo_rf _
theorem q_m_ist {n i : Nat} (hs : q_ist pc n i pl st h = some (pc', pl', st', h')) : q_mo h h' := by
  unfold q_ist at hs
  split at hs
  · rcases q_bif hs with ⟨-, hs⟩ | ⟨-, hs⟩ <;> cases hs
    exact q_mo_rf _
  · cases hs
theorem q_m_ast {n i : Nat} (hs : q_ast pc n i pl st h = some (pc', pl', st', h')) : q_mo h h' := by
  unfold q_ast at hs
  split at hs
  · rcases q_bif hs with ⟨-, hs⟩ | ⟨-, hs⟩ <;> cases hs
    exact q_mo_rf _
  · cases hs
theorem q_m_bin {f : Int32 → Int32 → Int32} (hs : q_bin f pc pl st h = some (pc', pl', st', h')) : q_mo h h' := by
  unfold q_bin at hs
  split at hs <;> cases hs
  exact q_mo_rf _
theorem q_m_rd {kd : Nat} (hs : q_rd X kd pc pl st h = some (pc', pl', st', h')) : q_mo h h' := by
  unfold q_rd at hs
  split at hs
  · split at hs
    · rcases q_bif hs with ⟨-, hs⟩ | ⟨-, hs⟩ <;> cases hs
      exact q_mo_rf _
    · cases hs
  · split at hs
    · rcases q_bif hs with ⟨-, hs⟩ | ⟨-, hs⟩ <;> cases hs
      exact q_mo_rf _
    · cases hs
  · cases hs
theorem q_m_wr {kd : Nat} (hs : q_wr kd pc pl st h = some (pc', pl', st', h')) : q_mo h h' := by
  unfold q_wr at hs
  split at hs
  · split at hs
    · rcases q_bif hs with ⟨-, hs⟩ | ⟨-, hs⟩ <;> cases hs
      exact q_mo_rf h
    · cases hs
  · cases hs
theorem q_m_ard (hs : q_ard pc pl st h = some (pc', pl', st', h')) : q_mo h h' := by
  unfold q_ard at hs
  split at hs
  · split at hs
    · rcases q_bif hs with ⟨-, hs⟩ | ⟨-, hs⟩ <;> cases hs
      exact q_mo_rf _
    · cases hs
  · cases hs
theorem q_m_awr (hs : q_awr pc pl st h = some (pc', pl', st', h')) : q_mo h h' := by
  unfold q_awr at hs
  split at hs
  · split at hs
    · rename_i hr hv
      rcases q_bif hs with ⟨-, hs⟩ | ⟨-, hs⟩ <;> cases hs
      exact q_mo_set hr rfl (List.length_set)
    · cases hs
  · cases hs
theorem q_m_aln (hs : q_aln X pc pl st h = some (pc', pl', st', h')) : q_mo h h' := by
  unfold q_aln at hs
  split at hs
  · split at hs
    · rcases q_bif hs with ⟨-, hs⟩ | ⟨-, hs⟩ <;> cases hs
      exact q_mo_rf _
    · cases hs
  · split at hs <;> cases hs
    exact q_mo_rf _
  · cases hs
theorem q_m_nwa {kd : Nat} (hs : q_nwa kd pc pl st h = some (pc', pl', st', h')) : q_mo h h' := by
  unfold q_nwa at hs
  split at hs
  · rcases q_bif hs with ⟨-, hs⟩ | ⟨-, hs⟩ <;> cases hs
    exact q_mo_app rfl
  · cases hs
theorem q_m_nwq (hs : q_nwq pc pl st h = some (pc', pl', st', h')) : q_mo h h' := by
  unfold q_nwq at hs
  split at hs
  · rcases q_bif hs with ⟨-, hs⟩ | ⟨-, hs⟩ <;> cases hs
    exact q_mo_app rfl
  · cases hs
theorem q_m_nwm (hs : q_nwm pc pl st h = some (pc', pl', st', h')) : q_mo h h' := by
  unfold q_nwm at hs
  split at hs
  · rcases q_bif hs with ⟨-, hs⟩ | ⟨-, hs⟩ <;> cases hs
    exact q_mo_app rfl
  · cases hs
theorem q_m_nwo {ci : Nat} (hs : q_nwo ci pc pl st h = some (pc', pl', st', h')) : q_mo h h' := by
  unfold q_nwo at hs
  cases hs
  exact q_mo_app rfl
theorem q_m_gf {a b : Nat} (hs : q_gf a b pc pl st h = some (pc', pl', st', h')) : q_mo h h' := by
  unfold q_gf at hs
  split at hs
  · split at hs
    · rcases q_bif hs with ⟨-, hs⟩ | ⟨-, hs⟩
      · split at hs <;> cases hs
        · exact q_mo_rf _
        · exact q_mo_rf _
      · cases hs
    · cases hs
  · cases hs
theorem q_m_pf {a b : Nat} (hs : q_pf a b pc pl st h = some (pc', pl', st', h')) : q_mo h h' := by
  unfold q_pf at hs
  split at hs
  · split at hs
    · rcases q_bif hs with ⟨-, hs⟩ | ⟨-, hs⟩
      · split at hs <;> cases hs
        exact q_mo_rf h
      · cases hs
    · cases hs
  · split at hs
    · rename_i hr
      rcases q_bif hs with ⟨-, hs⟩ | ⟨-, hs⟩
      · split at hs <;> cases hs
        exact q_mo_set hr rfl (List.length_set)
      · cases hs
    · cases hs
  · cases hs
theorem q_m_acp (hs : q_acp pc pl st h = some (pc', pl', st', h')) : q_mo h h' := by
  unfold q_acp at hs
  split at hs
  · split at hs
    · rcases q_bif hs with ⟨-, hs⟩ | ⟨-, hs⟩ <;> cases hs
      exact q_mo_rf h
    · cases hs
  · cases hs
theorem q_m_mx {a : Nat} (hs : q_mx a pc pl st h = some (pc', pl', st', h')) : q_mo h h' := by
  unfold q_mx at hs
  rcases q_bif hs with ⟨-, hs⟩ | ⟨-, hs⟩
  · split at hs
    · rcases q_bif hs with ⟨-, hs⟩ | ⟨-, hs⟩ <;> cases hs
      exact q_mo_rf h
    · cases hs
  · rcases q_bif hs with ⟨-, hs⟩ | ⟨-, hs⟩
    · split at hs
      · rcases q_bif hs with ⟨-, hs⟩ | ⟨-, hs⟩ <;> cases hs
        exact q_mo_rf h
      · cases hs
    · rcases q_bif hs with ⟨-, hs⟩ | ⟨-, hs⟩
      · split at hs
        · rcases q_bif hs with ⟨-, hs⟩ | ⟨-, hs⟩ <;> cases hs
          exact q_mo_rf h
        · cases hs
      · cases hs
theorem q_m_tsw {d lo hi : Int} {offs : Array Int} (hs : q_tsw d lo hi offs pc pl st h = some (pc', pl', st', h')) : q_mo h h' := by
  unfold q_tsw at hs
  split at hs
  · rcases q_bif hs with ⟨-, hs⟩ | ⟨-, hs⟩
    · cases hs
      exact q_mo_rf h
    · split at hs <;> cases hs
      exact q_mo_rf h
  · cases hs
theorem q_m_step {e9 : q_E} (hs : q_step X pc e9 pl st h = some (pc', pl', st', h')) : q_mo h h' := by
  obtain ⟨ins, a, b9, cc⟩ := e9
  cases ins with
  | aload_n i => exact q_m_ald hs
  | aload i => exact q_m_ald hs
  | iload_n i => exact q_m_ild hs
  | iload i => exact q_m_ild hs
  | istore_n i => exact q_m_ist hs
  | istore i => exact q_m_ist hs
  | astore_n i => exact q_m_ast hs
  | astore i => exact q_m_ast hs
  | iconst n => cases hs; exact q_mo_rf h
  | bipush n => cases hs; exact q_mo_rf h
  | sipush n => cases hs; exact q_mo_rf h
  | ldc n => cases hs; exact q_mo_rf h
  | ldc_w n => cases hs; exact q_mo_rf h
  | aconst_null => cases hs; exact q_mo_rf h
  | iinc i n =>
    unfold q_step at hs
    dsimp only at hs
    split at hs
    · rcases q_bif hs with ⟨-, hs⟩ | ⟨-, hs⟩ <;> cases hs
      exact q_mo_rf h
    · cases hs
  | iadd => exact q_m_bin hs
  | isub => exact q_m_bin hs
  | imul => exact q_m_bin hs
  | iand => exact q_m_bin hs
  | ior => exact q_m_bin hs
  | ixor => exact q_m_bin hs
  | ishl => exact q_m_bin hs
  | ishr => exact q_m_bin hs
  | idiv =>
    unfold q_step at hs
    dsimp only at hs
    split at hs
    · rcases q_bif hs with ⟨-, hs⟩ | ⟨-, hs⟩ <;> cases hs
      exact q_mo_rf h
    · cases hs
  | irem =>
    unfold q_step at hs
    dsimp only at hs
    split at hs
    · rcases q_bif hs with ⟨-, hs⟩ | ⟨-, hs⟩ <;> cases hs
      exact q_mo_rf h
    · cases hs
  | dup => unfold q_step at hs; dsimp only at hs; split at hs <;> cases hs; exact q_mo_rf h
  | dup2 => unfold q_step at hs; dsimp only at hs; split at hs <;> cases hs; exact q_mo_rf h
  | pop => unfold q_step at hs; dsimp only at hs; split at hs <;> cases hs; exact q_mo_rf h
  | if_icmp cd off => unfold q_step at hs; dsimp only at hs; split at hs <;> cases hs; exact q_mo_rf h
  | ifCond cd off => unfold q_step at hs; dsimp only at hs; split at hs <;> cases hs; exact q_mo_rf h
  | ifnonnull off =>
    unfold q_step at hs
    dsimp only at hs
    split at hs <;> cases hs
    · exact q_mo_rf h
    · exact q_mo_rf h
  | goto off => cases hs; exact q_mo_rf h
  | tableswitch d lo hi offs => exact q_m_tsw hs
  | arraylength => exact q_m_aln hs
  | iaload => exact q_m_rd hs
  | baload => exact q_m_rd (X := none) hs
  | iastore => exact q_m_wr hs
  | bastore => exact q_m_wr hs
  | aaload => exact q_m_ard hs
  | aastore => exact q_m_awr hs
  | newarray t =>
    cases t with
    | int => exact q_m_nwa hs
    | boolean => exact q_m_nwa hs
    | _ => cases hs
  | anewarray i => exact q_m_nwq hs
  | multianewarray i j => exact q_m_nwm hs
  | new i => exact q_m_nwo hs
  | getfield i => exact q_m_gf hs
  | putfield i => exact q_m_pf hs
  | invokespecial i =>
    unfold q_step at hs
    dsimp only at hs
    rcases q_bif hs with ⟨-, hs⟩ | ⟨-, hs⟩
    · split at hs
      · rcases q_bif hs with ⟨-, hs⟩ | ⟨-, hs⟩ <;> cases hs
        exact q_mo_rf h
      · cases hs
    · cases hs
  | invokestatic i =>
    unfold q_step at hs
    dsimp only at hs
    rcases q_bif hs with ⟨-, hs⟩ | ⟨-, hs⟩
    · exact q_m_acp hs
    · rcases q_bif hs with ⟨-, hs⟩ | ⟨-, hs⟩
      · exact q_m_mx hs
      · cases hs
  | _ => cases hs
theorem q_m_ex : ∀ (n : Nat) (X : q_X) (d k pc : Nat) (pl : q_L) (st : List q_V) (h : q_H) (r : Option Int32) (h' : q_H), q_ex n X d k pc pl st h = some (r, h') → q_mo h h' := by
  intro n
  induction n with
  | zero => intro X d k pc pl st h r h' hs; cases hs
  | succ n ih =>
    intro X d k pc pl st h r h' hs
    unfold q_ex at hs
    split at hs
    · cases hs
    · split at hs
      · split at hs
        · rename_i hst
          exact q_mo_tr (q_m_step hst) (ih _ _ _ _ _ _ _ _ _ hs)
        · cases hs
      · split at hs
        · cases hs
        · rename_i d'
          cases hb : q_okc _ st h with
          | false => rw [hb] at hs; cases hs
          | true =>
            rw [hb] at hs
            dsimp only [cond_true] at hs
            split at hs
            · rename_i hcall
              exact q_mo_tr (ih _ _ _ _ _ _ _ _ _ hcall) (ih _ _ _ _ _ _ _ _ _ hs)
            · rename_i hcall
              exact q_mo_tr (ih _ _ _ _ _ _ _ _ _ hcall) (ih _ _ _ _ _ _ _ _ _ hs)
            · cases hs
      · split at hs
        · cases hb : q_ro k _ with
          | false => rw [hb] at hs; cases hs
          | true => rw [hb] at hs; cases hs; exact q_mo_rf h
        · cases hs
      · split at hs
        · cases hb : (q_rt k).isNone with
          | false => rw [hb] at hs; cases hs
          | true => rw [hb] at hs; cases hs; exact q_mo_rf h
        · cases hs
end QM
