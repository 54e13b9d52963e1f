/-! the world: where each cell lies, what it holds -/
abbrev Geo : Type := Nat × (Nat → Nat) × va_G × (Nat → ClassId)
abbrev AH : Type := Nat × (Nat → Nat → Int)
abbrev vI (x : Int) : Value := .int (Int32.ofInt x)
abbrev vJ (x : Int) : Value := .long (Int64.ofInt x)
abbrev vA (G : Geo) (a : Nat) : Value := .ref (G.1 + a)
def vR (G : Geo) (x : Int) : Value := if x < 0 then .null else .ref (G.1 + x.toNat)
abbrev vS (G : Geo) (k : Nat) : Value := .ref (G.2.1 k)
def shp (a : Nat) : Nat × Nat := if a < 93 then SH0.getD a (0, 0) else SHT.getD ((a - 93) % 26) (0, 0)
def sz (n : Nat) : Nat := 93 + 26 * n
def sl (n : Nat) : Nat := 21089 + 1235 * n
theorem sz_mono {n m : Nat} (h : n ≤ m) : sz n ≤ sz m := by unfold sz; omega
theorem sl_mono {n m : Nat} (h : n ≤ m) : sl n ≤ sl m := by unfold sl; omega
def oR (G : Geo) (x : Int) : Option Nat := if x < 0 then none else some (G.1 + x.toNat)
theorem rf_oR (G : Geo) (x : Int) : va_rf (oR G x) = vR G x := by
  unfold oR vR
  split <;> rfl
def fv (G : Geo) (a : Nat) (t : Option Nat) (x : Int) : Value := match t with
  | none => vI x
  | some off => .ref (G.1 + (a + off))
def ftk (ci k : Nat) : Option Nat := (FT.getD ci []).getD k none
def aF (G : Geo) (a : Nat) (row : Nat → Int) : List Value := (List.range (shp a).2).map (fun k => fv G a (ftk ((shp a).1 - 10) k) (row k))
/-- a cell: 0 to 2 rows of ints, bytes, booleans; 3 images; 4 to 6 what is told by places; from 10 on objects -/
def aE (G : Geo) (a : Nat) (row : Nat → Int) : va_E := match (shp a).1 with
  | 0 => .inl (G.2.2.2 0, (shp a).2, .inl (fun j => Int32.ofInt (row j)))
  | 1 => .inl (G.2.2.2 1, (shp a).2, .inl (fun j => Int32.ofInt (row j)))
  | 2 => .inl (G.2.2.2 2, (shp a).2, .inl (fun j => Int32.ofInt (row j)))
  | 3 => .inl (G.2.2.2 3, (shp a).2, .inr (.inr (.inr (.inr (fun j => oR G (row j))))))
  | 4 => .inl (G.2.2.2 4, (shp a).2, .inr (.inr (.inr (.inr (fun j => some (G.1 + (a + 3 + 10 * j)))))))
  | 5 => .inl (G.2.2.2 5, (shp a).2, .inr (.inr (.inr (.inr (fun j => some (G.1 + (a + 8 + 10 * j)))))))
  | 6 => .inl (G.2.2.2 5, (shp a).2, .inr (.inr (.inr (.inr (fun j => some (G.1 + (a + 9 + 10 * j)))))))
  | t => .inr (t - 10, aF G a row)
def aW (G : Geo) (h : AH) : va_W := (List.range (sz h.1)).map (fun a => (G.1 + a, aE G a (h.2 a)))
def gA (G : Geo) : Nat → Prop := fun q => G.1 ≤ q
def wr (h : AH) (a k : Nat) (x : Int) : AH := (h.1, fun b j => if b = a ∧ j = k then x else h.2 b j)
theorem aW_get (G : Geo) (h : AH) {a : Nat} (ha : a < sz h.1) : (aW G h)[a]? = some (G.1 + a, aE G a (h.2 a)) := by
  unfold aW
  rw [List.getElem?_map, List.getElem?_range ha]
  rfl
theorem aW_len (G : Geo) (h : AH) : (aW G h).length = sz h.1 := by
  unfold aW
  rw [List.length_map, List.length_range]
theorem aW_inv {G : Geo} {h : AH} {a : Nat} {q : Nat × va_E} (hq : (aW G h)[a]? = some q) : a < sz h.1 ∧ q = (G.1 + a, aE G a (h.2 a)) := by
  have hl : a < sz h.1 := by
    have := (List.getElem?_eq_some_iff.mp hq).1
    rwa [aW_len] at this
  rw [aW_get G h hl] at hq
  exact ⟨hl, (Option.some.inj hq).symm⟩
theorem aW_D (G : Geo) (h : AH) : va_D (gA G) (aW G h) := by
  refine ⟨fun i j p q hp hq e => ?_, fun k q hq => ?_⟩
  · obtain ⟨-, rfl⟩ := aW_inv hp
    obtain ⟨-, rfl⟩ := aW_inv hq
    dsimp only at e
    omega
  · obtain ⟨-, rfl⟩ := aW_inv hq
    exact Nat.le_add_right _ _
theorem aW_set (G : Geo) (h : AH) {a : Nat} (f : Nat → Int) : (aW G h).set a (G.1 + a, aE G a f) = aW G (h.1, fun b j => if b = a then f j else h.2 b j) := by
  apply List.ext_getElem?
  intro i
  by_cases hi : i < sz h.1
  · rw [aW_get G (h.1, fun b j => if b = a then f j else h.2 b j) (a := i) hi, List.getElem?_set]
    by_cases e : a = i
    · subst e
      rw [if_pos rfl, if_pos (by rw [aW_len]; exact hi)]
      simp
    · rw [if_neg e, aW_get G h hi]
      have : ¬ i = a := fun q => e q.symm
      simp [this]
  · have h1 : (aW G (h.1, fun b j => if b = a then f j else h.2 b j)).length ≤ i := by rw [aW_len]; exact Nat.not_lt.mp hi
    rw [List.getElem?_eq_none h1, List.getElem?_eq_none]
    rw [List.length_set, aW_len]
    exact Nat.not_lt.mp hi
theorem aW_wr (G : Geo) (h : AH) {a : Nat} {k : Nat} {x : Int} : (aW G h).set a (G.1 + a, aE G a (fun j => if j = k then x else h.2 a j)) = aW G (wr h a k x) := by
  rw [aW_set]
  congr 1
  unfold wr
  congr 1
  funext b j
  by_cases hb : b = a
  · subst hb
    by_cases hj : j = k <;> simp [hj]
  · simp [hb]
theorem upd_of (row : Nat → Int) (k : Nat) (x : Int) : upd (fun j => Int32.ofInt (row j)) k (Int32.ofInt x) = fun j => Int32.ofInt (if j = k then x else row j) := by
  funext j
  unfold upd
  split <;> rfl
theorem up_oR (G : Geo) (row : Nat → Int) (k : Nat) (x : Int) : va_up (fun j => oR G (row j)) k (oR G x) = fun j => oR G (if j = k then x else row j) := by
  funext j
  unfold va_up
  split <;> rfl
theorem aF_set (G : Geo) (a : Nat) (row : Nat → Int) {k : Nat} {x : Int} (hk : ftk ((shp a).1 - 10) k = none) : (aF G a row).set k (vI x) = aF G a (fun j => if j = k then x else row j) := by
  unfold aF
  apply List.ext_getElem?
  intro i
  by_cases hi : i < (shp a).2
  · rw [List.getElem?_map, List.getElem?_range hi, List.getElem?_set]
    by_cases e : k = i
    · subst e
      rw [if_pos rfl, if_pos (by rw [List.length_map, List.length_range]; exact hi)]
      simp [hk, fv]
    · rw [if_neg e, List.getElem?_map, List.getElem?_range hi]
      have : ¬ i = k := fun q => e q.symm
      simp [this]
  · rw [List.getElem?_eq_none, List.getElem?_eq_none]
    · rw [List.length_map, List.length_range]; exact Nat.not_lt.mp hi
    · rw [List.length_set, List.length_map, List.length_range]; exact Nat.not_lt.mp hi
theorem aF_get (G : Geo) (a : Nat) (row : Nat → Int) {k : Nat} (hk : k < (shp a).2) : (aF G a row)[k]? = some (fv G a (ftk ((shp a).1 - 10) k) (row k)) := by
  unfold aF
  rw [List.getElem?_map, List.getElem?_range hk]
  rfl
theorem aF_len (G : Geo) (a : Nat) (row : Nat → Int) : (aF G a row).length = (shp a).2 := by
  unfold aF
  rw [List.length_map, List.length_range]
theorem aE_obj {G : Geo} {a ci N : Nat} {row : Nat → Int} (h : shp a = (ci + 10, N)) : aE G a row = .inr (ci, aF G a row) := by
  unfold aE
  rw [h]
  rfl
theorem aE_0 {G : Geo} {a N : Nat} {row : Nat → Int} (h : shp a = (0, N)) : aE G a row = .inl (G.2.2.2 0, N, .inl (fun j => Int32.ofInt (row j))) := by
  unfold aE
  rw [h]
  rfl
theorem aE_1 {G : Geo} {a N : Nat} {row : Nat → Int} (h : shp a = (1, N)) : aE G a row = .inl (G.2.2.2 1, N, .inl (fun j => Int32.ofInt (row j))) := by
  unfold aE
  rw [h]
  rfl
theorem aE_2 {G : Geo} {a N : Nat} {row : Nat → Int} (h : shp a = (2, N)) : aE G a row = .inl (G.2.2.2 2, N, .inl (fun j => Int32.ofInt (row j))) := by
  unfold aE
  rw [h]
  rfl
theorem aE_3 {G : Geo} {a N : Nat} {row : Nat → Int} (h : shp a = (3, N)) : aE G a row = .inl (G.2.2.2 3, N, .inr (.inr (.inr (.inr (fun j => oR G (row j)))))) := by
  unfold aE
  rw [h]
  rfl
theorem aE_4 {G : Geo} {a N : Nat} {row : Nat → Int} (h : shp a = (4, N)) : aE G a row = .inl (G.2.2.2 4, N, .inr (.inr (.inr (.inr (fun j => some (G.1 + (a + 3 + 10 * j))))))) := by
  unfold aE
  rw [h]
  rfl
theorem aE_5 {G : Geo} {a N : Nat} {row : Nat → Int} (h : shp a = (5, N)) : aE G a row = .inl (G.2.2.2 5, N, .inr (.inr (.inr (.inr (fun j => some (G.1 + (a + 8 + 10 * j))))))) := by
  unfold aE
  rw [h]
  rfl
theorem aE_6 {G : Geo} {a N : Nat} {row : Nat → Int} (h : shp a = (6, N)) : aE G a row = .inl (G.2.2.2 5, N, .inr (.inr (.inr (.inr (fun j => some (G.1 + (a + 9 + 10 * j))))))) := by
  unfold aE
  rw [h]
  rfl
/-- locals by their places -/
def lvl (L : List (Option Value)) : List (Nat × Value) := L.zipIdx.filterMap (fun q => q.1.map (fun v => (q.2, v)))
theorem mem_lvl {L : List (Option Value)} {i : Nat} {v : Value} : (i, v) ∈ lvl L ↔ L[i]? = some (some v) := by
  unfold lvl
  rw [List.mem_filterMap]
  constructor
  · rintro ⟨⟨o, j⟩, hm, he⟩
    have hm := List.mem_zipIdx_iff_getElem?.mp hm
    cases o with
    | none => cases he
    | some u =>
      cases he
      exact hm
  · intro h
    exact ⟨(some v, i), List.mem_zipIdx_iff_getElem?.mpr h, rfl⟩
def Lv (ls : Array Slot) (n : Nat) (L : List (Option Value)) : Prop := lv_has ls n (lvl L)
theorem Lv.at {ls : Array Slot} {n : Nat} {L : List (Option Value)} (h : Lv ls n L) {i : Nat} {v : Value} (hi : L[i]? = some (some v)) : ls[i]? = some (.val v) := h.2.2 (i, v) (mem_lvl.mpr hi)
theorem Lv.size {ls : Array Slot} {n : Nat} {L : List (Option Value)} (h : Lv ls n L) : ls.size = n := h.1
/-- a place ahead of a store: a value of two words is gone then -/
def kl (o : Option Value) : Option Value := match o with
  | some (.long _) => none
  | some (.double _) => none
  | o => o
theorem kl_vR (G : Geo) (x : Int) : kl (some (vR G x)) = some (vR G x) := by
  unfold vR
  split <;> rfl
/-- locals behind a store of a value of one word, of two words -/
def st1 (L : List (Option Value)) (i : Nat) (v : Value) : List (Option Value) := L.zipIdx.map (fun q => if q.2 = i then some v else if q.2 + 1 = i then kl q.1 else q.1)
def st2 (L : List (Option Value)) (i : Nat) (v : Value) : List (Option Value) := L.zipIdx.map (fun q => if q.2 = i then some v else if q.2 = i + 1 then none else if q.2 + 1 = i then kl q.1 else q.1)
theorem Lv.weak {ls : Array Slot} {n : Nat} {L : List (Option Value)} {l : List (Nat × Value)} (h : lv_has ls n l) (hs : ∀ i v, L[i]? = some (some v) → (i, v) ∈ l) : Lv ls n L := ⟨h.1, h.2.1, fun q hq => h.2.2 q (by obtain ⟨i, v⟩ := q; exact hs i v (mem_lvl.mp hq))⟩
theorem st1_mem {L : List (Option Value)} {i j : Nat} {v u : Value} (h : (st1 L i v)[j]? = some (some u)) : (j, u) ∈ (i, v) :: (lvl L).filter (fun q => !(q.1 == i) && !(q.1 + 1 == i && q.2.category == 2)) := by
  unfold st1 at h
  rw [List.getElem?_map, List.getElem?_zipIdx] at h
  cases hL : L[j]? with
  | none => rw [hL] at h; cases h
  | some o =>
    rw [hL] at h
    simp only [Option.map_some, Option.some.injEq, Nat.zero_add] at h
    by_cases hj : j = i
    · rw [if_pos hj] at h
      cases h
      rw [hj]
      exact List.mem_cons_self
    · rw [if_neg hj] at h
      refine List.mem_cons_of_mem _ (List.mem_filter.mpr ?_)
      by_cases hj2 : j + 1 = i
      · rw [if_pos hj2] at h
        have ho : o = some u ∧ u.category ≠ 2 := by
          unfold kl at h
          cases o with
          | none => cases h
          | some w => cases w <;> first | (cases h; done) | (cases h; exact ⟨rfl, by simp [Value.category]⟩)
        rw [ho.1] at hL
        exact ⟨mem_lvl.mpr hL, by simp [hj, ho.2]⟩
      · rw [if_neg hj2] at h
        rw [h] at hL
        exact ⟨mem_lvl.mpr hL, by simp [hj, hj2]⟩
theorem st2_mem {L : List (Option Value)} {i j : Nat} {v u : Value} (h : (st2 L i v)[j]? = some (some u)) : (j, u) ∈ (i, v) :: (lvl L).filter (fun q => !(q.1 == i) && (!(q.1 == i + 1) && !(q.1 + 1 == i && q.2.category == 2))) := by
  unfold st2 at h
  rw [List.getElem?_map, List.getElem?_zipIdx] at h
  cases hL : L[j]? with
  | none => rw [hL] at h; cases h
  | some o =>
    rw [hL] at h
    simp only [Option.map_some, Option.some.injEq, Nat.zero_add] at h
    by_cases hj : j = i
    · rw [if_pos hj] at h
      cases h
      rw [hj]
      exact List.mem_cons_self
    · rw [if_neg hj] at h
      by_cases hj3 : j = i + 1
      · rw [if_pos hj3] at h
        cases h
      · rw [if_neg hj3] at h
        refine List.mem_cons_of_mem _ (List.mem_filter.mpr ?_)
        by_cases hj2 : j + 1 = i
        · rw [if_pos hj2] at h
          have ho : o = some u ∧ u.category ≠ 2 := by
            unfold kl at h
            cases o with
            | none => cases h
            | some w => cases w <;> first | (cases h; done) | (cases h; exact ⟨rfl, by simp [Value.category]⟩)
          rw [ho.1] at hL
          exact ⟨mem_lvl.mpr hL, by simp [hj, hj3, ho.2]⟩
        · rw [if_neg hj2] at h
          rw [h] at hL
          exact ⟨mem_lvl.mpr hL, by simp [hj, hj2, hj3]⟩
