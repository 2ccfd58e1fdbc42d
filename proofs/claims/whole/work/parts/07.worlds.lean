/-! the pure machine's cells as the kit's worlds: cell k lies at base + k -/
def q_ad (base : Nat) (r : Option Nat) : Value := va_rf (r.map (fun k => base + k))
def q_ev (base b : Nat) (v : q_V) : Value := match v with
  | .inl x => .int x
  | .inr (.inl r) => q_ad base r
  | .inr (.inr _) => .ref b
def q_fs (base : Nat) (sl : List (Option (Option Nat))) (f : Nat → Int32) : List Value := sl.mapIdx (fun j s => match s with | none => .int (f j) | some r => q_ad base r)
def q_ent (cs : Nat → ClassId) (base : Nat) (e : q_S) (f : Nat → Int32) : va_E := match e with
  | .inl o => .inr (o.1, q_fs base o.2 f)
  | .inr (.inl o) => .inl (cs o.1, o.2, .inl f)
  | .inr (.inr o) => .inl (cs o.1, o.2.length, .inr (.inr (.inr (.inr (fun j => (o.2.getD j none).map (fun k => base + k))))))
def q_wl (cs : Nat → ClassId) (base : Nat) (sh : List q_S) (m : q_M) : va_W := sh.mapIdx (fun k e => (base + k, q_ent cs base e (m k)))
def q_tys (cs : Nat → ClassId) : List (ClassId × FieldType) := [(cs 0, .int), (cs 1, .boolean), (cs 2, .object "TallyCourt$Piece"), (cs 3, .array .int)]
def q_sz (e : q_S) : Nat := match e with
  | .inl o => o.2.length
  | .inr (.inl o) => o.2
  | .inr (.inr o) => o.2.length
def q_slo (sh : List q_S) : Nat := (sh.map q_sz).sum
def q_A (base : Nat) : Nat → Prop := fun q => base ≤ q
def q_LR (base b : Nat) (ls : Array Slot) (pl : q_L) : Prop := ls.size = pl.length ∧ lv_wf ls ∧ ∀ (i : Nat) (v : q_V), q_lg pl i = some v → ls[i]? = some (.val (q_ev base b v))
theorem q_ev_cat (base b : Nat) (v : q_V) : (q_ev base b v).category = 1 := by
  rcases v with x | r | u
  · rfl
  · cases r <;> rfl
  · rfl
theorem q_lg_lt {pl : q_L} {i : Nat} {v : q_V} (h : q_lg pl i = some v) : i < pl.length := by
  rcases Nat.lt_or_ge i pl.length with g | g
  · exact g
  · unfold q_lg at h
    rw [List.getD_eq_getElem?_getD, List.getElem?_eq_none g] at h
    cases h
def q_ll (base b : Nat) (pl : q_L) : List (Nat × Value) := (List.range pl.length).filterMap (fun i => (q_lg pl i).map (fun v => (i, q_ev base b v)))
theorem q_ll_mem {base b : Nat} {pl : q_L} {q : Nat × Value} : q ∈ q_ll base b pl ↔ ∃ v, q_lg pl q.1 = some v ∧ q.2 = q_ev base b v := by
  unfold q_ll
  rw [List.mem_filterMap]
  constructor
  · rintro ⟨i, -, h⟩
    rw [Option.map_eq_some_iff] at h
    obtain ⟨v, h1, rfl⟩ := h
    exact ⟨v, h1, rfl⟩
  · rintro ⟨v, h1, h2⟩
    refine ⟨q.1, List.mem_range.mpr (q_lg_lt h1), ?_⟩
    rw [h1, Option.map_some, ← h2]
theorem q_LR.has {base b : Nat} {ls : Array Slot} {pl : q_L} (h : q_LR base b ls pl) : lv_has ls pl.length (q_ll base b pl) := by
  refine ⟨h.1, h.2.1, fun q hq => ?_⟩
  obtain ⟨v, h1, h2⟩ := q_ll_mem.mp hq
  rw [h2]
  exact h.2.2 _ _ h1
theorem q_lg_set {pl : q_L} {i j : Nat} {w : Option q_V} : q_lg (pl.set i w) j = if i = j ∧ i < pl.length then w else q_lg pl j := by
  unfold q_lg
  rw [List.getD_eq_getElem?_getD, List.getD_eq_getElem?_getD, List.getElem?_set]
  by_cases h : i = j
  · subst h
    by_cases g : i < pl.length
    · simp [g]
    · simp [g]
  · simp [h]
theorem q_LR.put {base b : Nat} {ls' : Array Slot} {pl : q_L} {i : Nat} {w : q_V} (h : lv_has ls' pl.length ((i, q_ev base b w) :: (q_ll base b pl).filter (fun q => !(q.1 == i) && !(q.1 + 1 == i && q.2.category == 2)))) : q_LR base b ls' (pl.set i (some w)) := by
  refine ⟨by rw [List.length_set]; exact h.1, h.2.1, fun j v hj => ?_⟩
  rw [q_lg_set] at hj
  by_cases g : i = j ∧ i < pl.length
  · rw [if_pos g] at hj
    cases hj
    obtain ⟨rfl, -⟩ := g
    exact h.2.2 (i, q_ev base b w) List.mem_cons_self
  · rw [if_neg g] at hj
    by_cases hij : i = j
    · subst hij
      exact absurd ⟨rfl, q_lg_lt hj⟩ g
    · refine h.2.2 (j, q_ev base b v) (List.mem_cons_of_mem _ (List.mem_filter.mpr ⟨q_ll_mem.mpr ⟨v, hj, rfl⟩, ?_⟩))
      have h1 : (j == i) = false := by simp; exact fun q => hij q.symm
      have h2 : (q_ev base b v).category = 1 := q_ev_cat base b v
      simp [h1, h2]
theorem q_wl_get {cs : Nat → ClassId} {base : Nat} {sh : List q_S} {m : q_M} (k : Nat) : (q_wl cs base sh m)[k]? = (sh[k]?).map (fun e => (base + k, q_ent cs base e (m k))) := by
  unfold q_wl
  rw [List.getElem?_mapIdx]
theorem q_wl_at {cs : Nat → ClassId} {base : Nat} {sh : List q_S} {m : q_M} {k : Nat} {e : q_S} (h : sh[k]? = some e) : (q_wl cs base sh m)[k]? = some (base + k, q_ent cs base e (m k)) := by rw [q_wl_get, h]; rfl
theorem q_wl_D {cs : Nat → ClassId} {base : Nat} {sh : List q_S} {m : q_M} : va_D (q_A base) (q_wl cs base sh m) := by
  refine ⟨fun i j p q hp hq e => ?_, fun k q hk => ?_⟩
  · rw [q_wl_get, Option.map_eq_some_iff] at hp hq
    obtain ⟨_, -, rfl⟩ := hp
    obtain ⟨_, -, rfl⟩ := hq
    have e : base + i = base + j := e
    omega
  · rw [q_wl_get, Option.map_eq_some_iff] at hk
    obtain ⟨_, -, rfl⟩ := hk
    exact Nat.le_add_right _ _
theorem q_wl_set {cs : Nat → ClassId} {base : Nat} {sh : List q_S} {m m' : q_M} {k : Nat} {e e' : q_S} (h : sh[k]? = some e) (hm : ∀ j, j ≠ k → m' j = m j) : (q_wl cs base sh m).set k (base + k, q_ent cs base e' (m' k)) = q_wl cs base (sh.set k e') m' := by
  apply List.ext_getElem?
  intro j
  rw [List.getElem?_set, q_wl_get, q_wl_get, List.getElem?_set]
  have hl : k < sh.length := (List.getElem?_eq_some_iff.mp h).1
  by_cases hj : k = j
  · subst hj
    have hl2 : k < (q_wl cs base sh m).length := by unfold q_wl; rw [List.length_mapIdx]; exact hl
    rw [if_pos rfl, if_pos rfl, if_pos hl2, if_pos hl]
    rfl
  · rw [if_neg hj, if_neg hj, hm j (fun q => hj q.symm)]
theorem q_set_self {sh : List q_S} {k : Nat} {e : q_S} (h : sh[k]? = some e) : sh.set k e = sh := by
  apply List.ext_getElem?
  intro j
  rw [List.getElem?_set]
  have hl : k < sh.length := (List.getElem?_eq_some_iff.mp h).1
  by_cases hj : k = j
  · subst hj
    rw [if_pos rfl, if_pos hl, h]
  · rw [if_neg hj]
theorem q_wl_len {cs : Nat → ClassId} {base : Nat} {sh : List q_S} {m : q_M} : (q_wl cs base sh m).length = sh.length := by unfold q_wl; rw [List.length_mapIdx]
/-- new cells behind the old ones -/
theorem q_wl_app {cs : Nat → ClassId} {base : Nat} {sh l : List q_S} {m m' : q_M} (hm : ∀ j, j < sh.length → m' j = m j) : q_wl cs base (sh ++ l) m' = q_wl cs base sh m ++ l.mapIdx (fun k e => (base + (sh.length + k), q_ent cs base e (m' (sh.length + k)))) := by
  apply List.ext_getElem?
  intro j
  rw [q_wl_get]
  by_cases hj : j < sh.length
  · rw [List.getElem?_append_left hj, List.getElem?_append_left (by rw [q_wl_len]; exact hj), q_wl_get, hm j hj]
  · rw [List.getElem?_append_right (by omega), List.getElem?_append_right (by rw [q_wl_len]; omega), q_wl_len, List.getElem?_mapIdx, show sh.length + (j - sh.length) = j by omega]
theorem q_zr_lt {m : q_M} {k n j : Nat} (h : j < k) : q_zr m k n j = m j := by
  funext b
  unfold q_zr
  rw [if_neg (by omega)]
theorem q_zr_in {m : q_M} {k n j : Nat} (h : k ≤ j) (h2 : j < k + n) : q_zr m k n j = fun _ => 0 := by
  funext b
  unfold q_zr
  rw [if_pos ⟨h, h2⟩]
theorem q_up_ne {m : q_M} {k j i : Nat} {v : Int32} (h : i ≠ k) : q_up m k j v i = m i := by
  funext b
  unfold q_up
  rw [if_neg h]
theorem q_up_eq {m : q_M} {k j : Nat} {v : Int32} : q_up m k j v k = upd (m k) j v := by
  funext b
  unfold q_up upd
  rw [if_pos rfl]
theorem q_cpy_ne {m : q_M} {s sp d dp n i : Nat} (h : i ≠ d) : q_cpy m s sp d dp n i = m i := by
  funext b
  unfold q_cpy
  rw [if_neg h]
theorem q_cpy_eq {m : q_M} {s sp d dp n : Nat} : q_cpy m s sp d dp n d = va_cpy (m s) (m d) sp dp n := by
  funext b
  unfold q_cpy va_cpy
  rw [if_pos rfl]
theorem q_slo_app (a b : List q_S) : q_slo (a ++ b) = q_slo a + q_slo b := by unfold q_slo; rw [List.map_append, List.sum_append]
theorem q_slo_set {sh : List q_S} {k : Nat} {e e' : q_S} (h : sh[k]? = some e) (hz : q_sz e' = q_sz e) : q_slo (sh.set k e') = q_slo sh := by
  have h2 : (sh.map q_sz).set k (q_sz e) = sh.map q_sz := by rw [← List.map_set, q_set_self h]
  unfold q_slo
  rw [List.map_set, hz, h2]
