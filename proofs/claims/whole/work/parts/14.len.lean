section QM
variable {X : q_X} {pc pc' : Nat} {pl pl' : q_L} {st st' : List q_V} {h h' : q_H}
theorem q_n_ild {n i : Nat} (hs : q_ild pc n i pl st h = some (pc', pl', st', h')) : pl'.length = pl.length := by
  unfold q_ild at hs
  split at hs <;> cases hs
  exact rfl
theorem q_n_ald {n i : Nat} (hs : q_ald pc n i pl st h = some (pc', pl', st', h')) : pl'.length = pl.length := by
  unfold q_ald at hs
  split at hs <;> cases hs
  · exact rfl
  · exact rfl
theorem q_n_ist {n i : Nat} (hs : q_ist pc n i pl st h = some (pc', pl', st', h')) : pl'.length = pl.length := by
  unfold q_ist at hs
  split at hs
  · rcases q_bif hs with ⟨-, hs⟩ | ⟨-, hs⟩ <;> cases hs
    exact List.length_set
  · cases hs
theorem q_n_ast {n i : Nat} (hs : q_ast pc n i pl st h = some (pc', pl', st', h')) : pl'.length = pl.length := by
  unfold q_ast at hs
  split at hs
  · rcases q_bif hs with ⟨-, hs⟩ | ⟨-, hs⟩ <;> cases hs
    exact List.length_set
  · cases hs
theorem q_n_bin {f : Int32 → Int32 → Int32} (hs : q_bin f pc pl st h = some (pc', pl', st', h')) : pl'.length = pl.length := by
  unfold q_bin at hs
  split at hs <;> cases hs
  exact rfl
theorem q_n_rd {kd : Nat} (hs : q_rd X kd pc pl st h = some (pc', pl', st', h')) : pl'.length = pl.length := by
  unfold q_rd at hs
  split at hs
  · split at hs
    · rcases q_bif hs with ⟨-, hs⟩ | ⟨-, hs⟩ <;> cases hs
      exact rfl
    · cases hs
  · split at hs
    · rcases q_bif hs with ⟨-, hs⟩ | ⟨-, hs⟩ <;> cases hs
      exact rfl
    · cases hs
  · cases hs
theorem q_n_wr {kd : Nat} (hs : q_wr kd pc pl st h = some (pc', pl', st', h')) : pl'.length = pl.length := by
  unfold q_wr at hs
  split at hs
  · split at hs
    · rcases q_bif hs with ⟨-, hs⟩ | ⟨-, hs⟩ <;> cases hs
      exact rfl
    · cases hs
  · cases hs
theorem q_n_ard (hs : q_ard pc pl st h = some (pc', pl', st', h')) : pl'.length = pl.length := by
  unfold q_ard at hs
  split at hs
  · split at hs
    · rcases q_bif hs with ⟨-, hs⟩ | ⟨-, hs⟩ <;> cases hs
      exact rfl
    · cases hs
  · cases hs
theorem q_n_awr (hs : q_awr pc pl st h = some (pc', pl', st', h')) : pl'.length = pl.length := by
  unfold q_awr at hs
  split at hs
  · split at hs
    · rename_i hr hv
      rcases q_bif hs with ⟨-, hs⟩ | ⟨-, hs⟩ <;> cases hs
      exact rfl
    · cases hs
  · cases hs
theorem q_n_aln (hs : q_aln X pc pl st h = some (pc', pl', st', h')) : pl'.length = pl.length := by
  unfold q_aln at hs
  split at hs
  · split at hs
    · rcases q_bif hs with ⟨-, hs⟩ | ⟨-, hs⟩ <;> cases hs
      exact rfl
    · cases hs
  · split at hs <;> cases hs
    exact rfl
  · cases hs
theorem q_n_nwa {kd : Nat} (hs : q_nwa kd pc pl st h = some (pc', pl', st', h')) : pl'.length = pl.length := by
  unfold q_nwa at hs
  split at hs
  · rcases q_bif hs with ⟨-, hs⟩ | ⟨-, hs⟩ <;> cases hs
    exact rfl
  · cases hs
theorem q_n_nwq (hs : q_nwq pc pl st h = some (pc', pl', st', h')) : pl'.length = pl.length := by
  unfold q_nwq at hs
  split at hs
  · rcases q_bif hs with ⟨-, hs⟩ | ⟨-, hs⟩ <;> cases hs
    exact rfl
  · cases hs
theorem q_n_nwm (hs : q_nwm pc pl st h = some (pc', pl', st', h')) : pl'.length = pl.length := by
  unfold q_nwm at hs
  split at hs
  · rcases q_bif hs with ⟨-, hs⟩ | ⟨-, hs⟩ <;> cases hs
    exact rfl
  · cases hs
theorem q_n_nwo {ci : Nat} (hs : q_nwo ci pc pl st h = some (pc', pl', st', h')) : pl'.length = pl.length := by
  unfold q_nwo at hs
  cases hs
  exact rfl
theorem q_n_gf {a b : Nat} (hs : q_gf a b pc pl st h = some (pc', pl', st', h')) : pl'.length = pl.length := by
  unfold q_gf at hs
  split at hs
  · split at hs
    · rcases q_bif hs with ⟨-, hs⟩ | ⟨-, hs⟩
      · split at hs <;> cases hs
        · exact rfl
        · exact rfl
      · cases hs
    · cases hs
  · cases hs
theorem q_n_pf {a b : Nat} (hs : q_pf a b pc pl st h = some (pc', pl', st', h')) : pl'.length = pl.length := by
  unfold q_pf at hs
  split at hs
  · split at hs
    · rcases q_bif hs with ⟨-, hs⟩ | ⟨-, hs⟩
      · split at hs <;> cases hs
        exact rfl
      · cases hs
    · cases hs
  · split at hs
    · rename_i hr
      rcases q_bif hs with ⟨-, hs⟩ | ⟨-, hs⟩
      · split at hs <;> cases hs
        exact rfl
      · cases hs
    · cases hs
  · cases hs
theorem q_n_acp (hs : q_acp pc pl st h = some (pc', pl', st', h')) : pl'.length = pl.length := by
  unfold q_acp at hs
  split at hs
  · split at hs
    · rcases q_bif hs with ⟨-, hs⟩ | ⟨-, hs⟩ <;> cases hs
      exact rfl
    · cases hs
  · cases hs
theorem q_n_mx {a : Nat} (hs : q_mx a pc pl st h = some (pc', pl', st', h')) : pl'.length = pl.length := by
  unfold q_mx at hs
  rcases q_bif hs with ⟨-, hs⟩ | ⟨-, hs⟩
  · split at hs
    · rcases q_bif hs with ⟨-, hs⟩ | ⟨-, hs⟩ <;> cases hs
      exact rfl
    · cases hs
  · rcases q_bif hs with ⟨-, hs⟩ | ⟨-, hs⟩
    · split at hs
      · rcases q_bif hs with ⟨-, hs⟩ | ⟨-, hs⟩ <;> cases hs
        exact rfl
      · cases hs
    · rcases q_bif hs with ⟨-, hs⟩ | ⟨-, hs⟩
      · split at hs
        · rcases q_bif hs with ⟨-, hs⟩ | ⟨-, hs⟩ <;> cases hs
          exact rfl
        · cases hs
      · cases hs
theorem q_n_tsw {d lo hi : Int} {offs : Array Int} (hs : q_tsw d lo hi offs pc pl st h = some (pc', pl', st', h')) : pl'.length = pl.length := by
  unfold q_tsw at hs
  split at hs
  · rcases q_bif hs with ⟨-, hs⟩ | ⟨-, hs⟩
    · cases hs
      exact rfl
    · split at hs <;> cases hs
      exact rfl
  · cases hs
theorem q_n_step {e9 : q_E} (hs : q_step X pc e9 pl st h = some (pc', pl', st', h')) : pl'.length = pl.length := by
  obtain ⟨ins, a, b9, cc⟩ := e9
  cases ins with
  | aload_n i => exact q_n_ald hs
  | aload i => exact q_n_ald hs
  | iload_n i => exact q_n_ild hs
  | iload i => exact q_n_ild hs
  | istore_n i => exact q_n_ist hs
  | istore i => exact q_n_ist hs
  | astore_n i => exact q_n_ast hs
  | astore i => exact q_n_ast hs
  | iconst n => cases hs; exact rfl
  | bipush n => cases hs; exact rfl
  | sipush n => cases hs; exact rfl
  | ldc n => cases hs; exact rfl
  | ldc_w n => cases hs; exact rfl
  | aconst_null => cases hs; exact rfl
  | iinc i n =>
    unfold q_step at hs
    dsimp only at hs
    split at hs
    · rcases q_bif hs with ⟨-, hs⟩ | ⟨-, hs⟩ <;> cases hs
      exact List.length_set
    · cases hs
  | iadd => exact q_n_bin hs
  | isub => exact q_n_bin hs
  | imul => exact q_n_bin hs
  | iand => exact q_n_bin hs
  | ior => exact q_n_bin hs
  | ixor => exact q_n_bin hs
  | ishl => exact q_n_bin hs
  | ishr => exact q_n_bin hs
  | idiv =>
    unfold q_step at hs
    dsimp only at hs
    split at hs
    · rcases q_bif hs with ⟨-, hs⟩ | ⟨-, hs⟩ <;> cases hs
      exact rfl
    · cases hs
  | irem =>
    unfold q_step at hs
    dsimp only at hs
    split at hs
    · rcases q_bif hs with ⟨-, hs⟩ | ⟨-, hs⟩ <;> cases hs
      exact rfl
    · cases hs
  | dup => unfold q_step at hs; dsimp only at hs; split at hs <;> cases hs; exact rfl
  | dup2 => unfold q_step at hs; dsimp only at hs; split at hs <;> cases hs; exact rfl
  | pop => unfold q_step at hs; dsimp only at hs; split at hs <;> cases hs; exact rfl
  | if_icmp cd off => unfold q_step at hs; dsimp only at hs; split at hs <;> cases hs; exact rfl
  | ifCond cd off => unfold q_step at hs; dsimp only at hs; split at hs <;> cases hs; exact rfl
  | ifnonnull off =>
    unfold q_step at hs
    dsimp only at hs
    split at hs <;> cases hs
    · exact rfl
    · exact rfl
  | goto off => cases hs; exact rfl
  | tableswitch d lo hi offs => exact q_n_tsw hs
  | arraylength => exact q_n_aln hs
  | iaload => exact q_n_rd hs
  | baload => exact q_n_rd (X := none) hs
  | iastore => exact q_n_wr hs
  | bastore => exact q_n_wr hs
  | aaload => exact q_n_ard hs
  | aastore => exact q_n_awr hs
  | newarray t =>
    cases t with
    | int => exact q_n_nwa hs
    | boolean => exact q_n_nwa hs
    | _ => cases hs
  | anewarray i => exact q_n_nwq hs
  | multianewarray i j => exact q_n_nwm hs
  | new i => exact q_n_nwo hs
  | getfield i => exact q_n_gf hs
  | putfield i => exact q_n_pf hs
  | invokespecial i =>
    unfold q_step at hs
    dsimp only at hs
    rcases q_bif hs with ⟨-, hs⟩ | ⟨-, hs⟩
    · split at hs
      · rcases q_bif hs with ⟨-, hs⟩ | ⟨-, hs⟩ <;> cases hs
        exact rfl
      · cases hs
    · cases hs
  | invokestatic i =>
    unfold q_step at hs
    dsimp only at hs
    rcases q_bif hs with ⟨-, hs⟩ | ⟨-, hs⟩
    · exact q_n_acp hs
    · rcases q_bif hs with ⟨-, hs⟩ | ⟨-, hs⟩
      · exact q_n_mx hs
      · cases hs
  | _ => cases hs
end QM
