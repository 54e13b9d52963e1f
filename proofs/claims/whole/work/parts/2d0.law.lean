/-! the law: from its entry to its end (the frame of this text is the kit's skeleton) -/
def R_law : String := "QuarrelOvensLaw"
def lw_P (b : Addr) (xs : List Int32) (args : Array Value) (s : State) : Prop := args = #[.ref b] ∧ s.IntsAt b xs ∧ xs.length ≤ 3584 ∧ (Jvm.Cond.and given_1 narrow_1).before args s = true
def lw_Q (_ : Array Value) (s : State) (o : Outcome) (t : State) : Prop := o = .returned (some (.int 1)) ∧ Framed s o t [] 600000 7302250
def lw_Z (below : List Frame) (a : Array Value) (s : State) : State → Prop := fun t => ∃ o, t.status = .running ∧ Ended t below o ∧ lw_Q a s o t
/-- the law's own end, with 1 on the stack, nothing written that was there before, its room as the claim has it -/
theorem lw_ret {p : Program} {l : Launch} {e : Env} {s : State} {m : MethodId} {below : List Frame} {meth : Method} {c : Code} {b : Nat} (hx : p.tables.exec = Jvm.exec) (hb : c.code = code) (hr : meth.sig.returnType = ret) (hlocks : meth.locks = false) {pc : Nat} {H : Heap} {ls : Array Slot} (hdg : decode code pc = .ok (.ireturn, 1)) : W p l e room_1 s m #[Value.ref b] below meth c H [] 600000 7302250 (lw_Z below #[Value.ref b] s) (F0 m pc ls [.int 1]) := by
  intro T hT X
  obtain ⟨fs, hret, hrun, hended, hW, hframe⟩ := X.leave (v := some (.int 1)) (hlocks := hlocks) (fun h => by rw [hr] at h; cases h)
  have hmeth' : T.vm.method? m = some meth := X.method'
  refine ⟨T.setFrames fs, ?_, .returned (some (.int 1)), hrun, hended, rfl, ⟨_, rfl⟩, hW, hframe⟩
  jvm_step X.here [X.here.top, hx, hb, hdg, hmeth', hr, ret, narrow_b1]
  (try refine ⟨rfl, ?_⟩); (try refine ⟨rfl, ?_⟩)
  first | (intro acts; rw [hret _ acts rfl rfl rfl]) | rw [hret _ _ rfl rfl rfl]
  exact Steps.refl _
/-- what holds at the law's entry: the machine, the code, the tables' words (any of lw_tbl by 'hts w (by decide +kernel)'), the script of L ints xs at the cell b, what the Statement gives of the start (any of its parts by flat_of_before) -/
def lw_At (p : Program) (s : State) (m : MethodId) (meth : Method) (c : Code) (b L : Nat) (xs : Nat → Int32) : Prop :=
  p.tables.exec = Jvm.exec ∧ c.code = code ∧ meth.sig.returnType = ret ∧ c.maxLocals = 4 ∧ s.vm.findClass R_law = some m.cls ∧ (∀ w ∈ lw_tbl, w.before #[Value.ref b] s = true) ∧ va_X b L xs s s.heap ∧ b < s.heap.size ∧ meth.locks = false ∧ (Jvm.Cond.and given_1 narrow_1).before #[Value.ref b] s = true
theorem lw_c1 {w : Cond} {j : Nat} (hj : tables_1_1[j]? = some w) : w ∈ lw_tbl := by
  have h := List.mem_of_getElem? hj
  exact List.mem_append_right _ (show w ∈ tables_1 from List.mem_append_left _ h)
theorem lw_c2 {w : Cond} {j : Nat} (hj : tables_1_2[j]? = some w) : w ∈ lw_tbl := by
  have h := List.mem_of_getElem? hj
  exact List.mem_append_right _ (show w ∈ tables_1 from List.mem_append_right _ (List.mem_append_left _ h))
theorem lw_c3 {w : Cond} {j : Nat} (hj : tables_1_3[j]? = some w) : w ∈ lw_tbl := by
  have h := List.mem_of_getElem? hj
  exact List.mem_append_right _ (show w ∈ tables_1 from List.mem_append_right _ (List.mem_append_right _ (List.mem_append_left _ h)))
theorem lw_c4 {w : Cond} {j : Nat} (hj : tables_1_4[j]? = some w) : w ∈ lw_tbl := by
  have h := List.mem_of_getElem? hj
  exact List.mem_append_right _ (show w ∈ tables_1 from List.mem_append_right _ (List.mem_append_right _ (List.mem_append_right _ (List.mem_append_left _ h))))
theorem lw_c5 {w : Cond} {j : Nat} (hj : tables_1_5[j]? = some w) : w ∈ lw_tbl := by
  have h := List.mem_of_getElem? hj
  exact List.mem_append_right _ (show w ∈ tables_1 from List.mem_append_right _ (List.mem_append_right _ (List.mem_append_right _ (List.mem_append_right _ (List.mem_append_left _ h)))))
theorem lw_c6 {w : Cond} {j : Nat} (hj : tables_1_6[j]? = some w) : w ∈ lw_tbl := by
  have h := List.mem_of_getElem? hj
  exact List.mem_append_right _ (show w ∈ tables_1 from List.mem_append_right _ (List.mem_append_right _ (List.mem_append_right _ (List.mem_append_right _ (List.mem_append_right _ (List.mem_append_left _ h))))))
theorem lw_c7 {w : Cond} {j : Nat} (hj : tables_1_7[j]? = some w) : w ∈ lw_tbl := by
  have h := List.mem_of_getElem? hj
  exact List.mem_append_right _ (show w ∈ tables_1 from List.mem_append_right _ (List.mem_append_right _ (List.mem_append_right _ (List.mem_append_right _ (List.mem_append_right _ (List.mem_append_right _ (List.mem_append_left _ h)))))))
theorem lw_c8 {w : Cond} {j : Nat} (hj : tables_1_8[j]? = some w) : w ∈ lw_tbl := by
  have h := List.mem_of_getElem? hj
  exact List.mem_append_right _ (show w ∈ tables_1 from List.mem_append_right _ (List.mem_append_right _ (List.mem_append_right _ (List.mem_append_right _ (List.mem_append_right _ (List.mem_append_right _ (List.mem_append_right _ (h))))))))
theorem fn_14_7 : FN RC14 7 10 [.null, .null, .null, .null, .null, .null, .null, .null, .null] := ⟨RC10, TC10, 9, yC10, rfl, iC10, yC10_ok, tW_c1 (j := 21) rfl rfl, tW_c1 (j := 22) rfl rfl, tW_c1 (j := 1) rfl rfl, by decide +kernel, rfl⟩
theorem fn_14_10 : FN RC14 10 11 [.null, .null, vI 0, vI 0, vI 0, vI 0, vI 0, vI 0, vI 0, vI 0, vI 0, .null, vI 0, vI 0, vI 0, vI 0, .null, .null, .null, .null, .null, .null, .null, .null, .null, .null, .null, .null, .null, .null, .null, vI 0, vI 0, vI 0, vI 0, vI 0, vI 0, .null, .null, .null, .null, vI 0, .null, vI 0] := ⟨RC11, TC11, 44, yC11, rfl, iC11, yC11_ok, tW_c5 (j := 190) rfl rfl, tW_c5 (j := 191) rfl rfl, tW_c1 (j := 12) rfl rfl, by decide +kernel, rfl⟩
theorem fi_14_9 : FI RC14 9 m10_init 0 := ⟨Or.inl (tW_c1 (j := 23) rfl rfl), ⟨tW_c1 (j := 24) rfl rfl, tW_c1 (j := 1) rfl rfl, tW_c1 (j := 25) rfl rfl⟩, ⟨by decide, by decide, by decide +kernel⟩, by decide, rfl, rfl⟩
theorem fi_14_12 : FI RC14 12 m11_init 0 := ⟨Or.inl (tW_c5 (j := 192) rfl rfl), ⟨tW_c5 (j := 193) rfl rfl, tW_c1 (j := 12) rfl rfl, tW_c5 (j := 194) rfl rfl⟩, ⟨by decide, by decide, by decide +kernel⟩, by decide, rfl, rfl⟩
theorem d14_law_0 : decode m14_law.2.1 0 = .ok (.new 7, 3) := by decide +kernel
theorem d14_law_3 : decode m14_law.2.1 3 = .ok (.dup, 1) := by decide +kernel
theorem d14_law_4 : decode m14_law.2.1 4 = .ok (.invokespecial 9, 3) := by decide +kernel
theorem d14_law_7 : decode m14_law.2.1 7 = .ok (.astore_n 1, 1) := by decide +kernel
theorem d14_law_8 : decode m14_law.2.1 8 = .ok (.new 10, 3) := by decide +kernel
theorem d14_law_11 : decode m14_law.2.1 11 = .ok (.dup, 1) := by decide +kernel
theorem d14_law_12 : decode m14_law.2.1 12 = .ok (.invokespecial 12, 3) := by decide +kernel
theorem d14_law_15 : decode m14_law.2.1 15 = .ok (.astore_n 2, 1) := by decide +kernel
theorem d14_law_16 : decode m14_law.2.1 16 = .ok (.iconst 0, 1) := by decide +kernel
theorem d14_law_17 : decode m14_law.2.1 17 = .ok (.istore_n 3, 1) := by decide +kernel
theorem wi_0 : Cond.instantiable RC0 5 ∈ tW := tW_c2 (j := 83) rfl rfl
theorem wi_1 : Cond.instantiable RC1 3 ∈ tW := tW_c2 (j := 19) rfl rfl
theorem wi_2 : Cond.instantiable RC2 4 ∈ tW := tW_c2 (j := 107) rfl rfl
theorem wi_3 : Cond.instantiable RC3 2 ∈ tW := tW_c2 (j := 70) rfl rfl
theorem wi_4 : Cond.instantiable RC4 8 ∈ tW := tW_c2 (j := 36) rfl rfl
theorem wi_5 : Cond.instantiable RC5 13 ∈ tW := tW_c1 (j := 158) rfl rfl
theorem wi_6 : Cond.instantiable RC6 4 ∈ tW := tW_c1 (j := 104) rfl rfl
theorem wi_7 : Cond.instantiable RC7 11 ∈ tW := tW_c1 (j := 213) rfl rfl
theorem wi_8 : Cond.instantiable RC8 8 ∈ tW := tW_c1 (j := 30) rfl rfl
theorem wi_9 : Cond.instantiable RC9 9 ∈ tW := tW_c1 (j := 39) rfl rfl
theorem wi_10 : Cond.instantiable RC10 9 ∈ tW := tW_c1 (j := 22) rfl rfl
theorem wi_11 : Cond.instantiable RC11 44 ∈ tW := tW_c5 (j := 191) rfl rfl
def tmS (i : Nat) : Term := Term.string "QuarrelOvens$Reader" (strT.getD i (0, "")).1
theorem s_ex {args : Array Value} {s : State} (hs : ∀ c ∈ flatC (Jvm.Cond.and given_1 narrow_1), c.before args s = true) : ∀ i : Nat, i < 11 → (Cond.exactly (tmS i) "java/lang/String").before args s = true := by
  intro i hi
  match i, hi with
  | 0, _ => exact hs _ (by decide +kernel)
  | 1, _ => exact hs _ (by decide +kernel)
  | 2, _ => exact hs _ (by decide +kernel)
  | 3, _ => exact hs _ (by decide +kernel)
  | 4, _ => exact hs _ (by decide +kernel)
  | 5, _ => exact hs _ (by decide +kernel)
  | 6, _ => exact hs _ (by decide +kernel)
  | 7, _ => exact hs _ (by decide +kernel)
  | 8, _ => exact hs _ (by decide +kernel)
  | 9, _ => exact hs _ (by decide +kernel)
  | 10, _ => exact hs _ (by decide +kernel)
  | i + 11, hi => exact absurd hi (by omega)
theorem s_co {args : Array Value} {s : State} (hs : ∀ c ∈ flatC (Jvm.Cond.and given_1 narrow_1), c.before args s = true) : ∀ i : Nat, i < 11 → (Cond.eq (.field (tmS i) "java/lang/String" "coder" "B") (.int 0)).before args s = true := by
  intro i hi
  match i, hi with
  | 0, _ => exact hs _ (by decide +kernel)
  | 1, _ => exact hs _ (by decide +kernel)
  | 2, _ => exact hs _ (by decide +kernel)
  | 3, _ => exact hs _ (by decide +kernel)
  | 4, _ => exact hs _ (by decide +kernel)
  | 5, _ => exact hs _ (by decide +kernel)
  | 6, _ => exact hs _ (by decide +kernel)
  | 7, _ => exact hs _ (by decide +kernel)
  | 8, _ => exact hs _ (by decide +kernel)
  | 9, _ => exact hs _ (by decide +kernel)
  | 10, _ => exact hs _ (by decide +kernel)
  | i + 11, hi => exact absurd hi (by omega)
theorem s_ar {args : Array Value} {s : State} (hs : ∀ c ∈ flatC (Jvm.Cond.and given_1 narrow_1), c.before args s = true) : ∀ i : Nat, i < 11 → (Cond.arrayOf (.field (tmS i) "java/lang/String" "value" "[B") .byte).before args s = true := by
  intro i hi
  match i, hi with
  | 0, _ => exact hs _ (by decide +kernel)
  | 1, _ => exact hs _ (by decide +kernel)
  | 2, _ => exact hs _ (by decide +kernel)
  | 3, _ => exact hs _ (by decide +kernel)
  | 4, _ => exact hs _ (by decide +kernel)
  | 5, _ => exact hs _ (by decide +kernel)
  | 6, _ => exact hs _ (by decide +kernel)
  | 7, _ => exact hs _ (by decide +kernel)
  | 8, _ => exact hs _ (by decide +kernel)
  | 9, _ => exact hs _ (by decide +kernel)
  | 10, _ => exact hs _ (by decide +kernel)
  | i + 11, hi => exact absurd hi (by omega)
theorem s_le {args : Array Value} {s : State} (hs : ∀ c ∈ flatC (Jvm.Cond.and given_1 narrow_1), c.before args s = true) : ∀ i : Nat, i < 11 → (Cond.eq (.length (.field (tmS i) "java/lang/String" "value" "[B")) (.int (Int32.ofNat (strLn.getD i 0)))).before args s = true := by
  intro i hi
  match i, hi with
  | 0, _ => exact hs _ (by decide +kernel)
  | 1, _ => exact hs _ (by decide +kernel)
  | 2, _ => exact hs _ (by decide +kernel)
  | 3, _ => exact hs _ (by decide +kernel)
  | 4, _ => exact hs _ (by decide +kernel)
  | 5, _ => exact hs _ (by decide +kernel)
  | 6, _ => exact hs _ (by decide +kernel)
  | 7, _ => exact hs _ (by decide +kernel)
  | 8, _ => exact hs _ (by decide +kernel)
  | 9, _ => exact hs _ (by decide +kernel)
  | 10, _ => exact hs _ (by decide +kernel)
  | i + 11, hi => exact absurd hi (by omega)
theorem s_el {args : Array Value} {s : State} (hs : ∀ c ∈ flatC (Jvm.Cond.and given_1 narrow_1), c.before args s = true) : ∀ i : Nat, i < 11 → ∀ j : Nat, j < strLn.getD i 0 → (Cond.eq (.elem (.field (tmS i) "java/lang/String" "value" "[B") (.int (Int32.ofNat j))) (.int ((strBt.getD i []).getD j 0))).before args s = true := by
  intro i hi j hj
  match i, hi, j, hj with
  | 0, _, 0, _ => exact hs _ (by decide +kernel)
  | 0, _, 1, _ => exact hs _ (by decide +kernel)
  | 0, _, 2, _ => exact hs _ (by decide +kernel)
  | 0, _, 3, _ => exact hs _ (by decide +kernel)
  | 0, _, 4, _ => exact hs _ (by decide +kernel)
  | 0, _, 5, _ => exact hs _ (by decide +kernel)
  | 0, _, j + 6, hj => exact absurd (show j + 6 < 6 from hj) (by omega)
  | 1, _, 0, _ => exact hs _ (by decide +kernel)
  | 1, _, 1, _ => exact hs _ (by decide +kernel)
  | 1, _, 2, _ => exact hs _ (by decide +kernel)
  | 1, _, 3, _ => exact hs _ (by decide +kernel)
  | 1, _, 4, _ => exact hs _ (by decide +kernel)
  | 1, _, j + 5, hj => exact absurd (show j + 5 < 5 from hj) (by omega)
  | 2, _, 0, _ => exact hs _ (by decide +kernel)
  | 2, _, 1, _ => exact hs _ (by decide +kernel)
  | 2, _, 2, _ => exact hs _ (by decide +kernel)
  | 2, _, 3, _ => exact hs _ (by decide +kernel)
  | 2, _, 4, _ => exact hs _ (by decide +kernel)
  | 2, _, 5, _ => exact hs _ (by decide +kernel)
  | 2, _, 6, _ => exact hs _ (by decide +kernel)
  | 2, _, j + 7, hj => exact absurd (show j + 7 < 7 from hj) (by omega)
  | 3, _, 0, _ => exact hs _ (by decide +kernel)
  | 3, _, 1, _ => exact hs _ (by decide +kernel)
  | 3, _, 2, _ => exact hs _ (by decide +kernel)
  | 3, _, 3, _ => exact hs _ (by decide +kernel)
  | 3, _, 4, _ => exact hs _ (by decide +kernel)
  | 3, _, 5, _ => exact hs _ (by decide +kernel)
  | 3, _, j + 6, hj => exact absurd (show j + 6 < 6 from hj) (by omega)
  | 4, _, 0, _ => exact hs _ (by decide +kernel)
  | 4, _, 1, _ => exact hs _ (by decide +kernel)
  | 4, _, 2, _ => exact hs _ (by decide +kernel)
  | 4, _, 3, _ => exact hs _ (by decide +kernel)
  | 4, _, 4, _ => exact hs _ (by decide +kernel)
  | 4, _, j + 5, hj => exact absurd (show j + 5 < 5 from hj) (by omega)
  | 5, _, 0, _ => exact hs _ (by decide +kernel)
  | 5, _, 1, _ => exact hs _ (by decide +kernel)
  | 5, _, 2, _ => exact hs _ (by decide +kernel)
  | 5, _, 3, _ => exact hs _ (by decide +kernel)
  | 5, _, 4, _ => exact hs _ (by decide +kernel)
  | 5, _, 5, _ => exact hs _ (by decide +kernel)
  | 5, _, 6, _ => exact hs _ (by decide +kernel)
  | 5, _, j + 7, hj => exact absurd (show j + 7 < 7 from hj) (by omega)
  | 6, _, 0, _ => exact hs _ (by decide +kernel)
  | 6, _, 1, _ => exact hs _ (by decide +kernel)
  | 6, _, 2, _ => exact hs _ (by decide +kernel)
  | 6, _, 3, _ => exact hs _ (by decide +kernel)
  | 6, _, 4, _ => exact hs _ (by decide +kernel)
  | 6, _, j + 5, hj => exact absurd (show j + 5 < 5 from hj) (by omega)
  | 7, _, 0, _ => exact hs _ (by decide +kernel)
  | 7, _, 1, _ => exact hs _ (by decide +kernel)
  | 7, _, 2, _ => exact hs _ (by decide +kernel)
  | 7, _, 3, _ => exact hs _ (by decide +kernel)
  | 7, _, j + 4, hj => exact absurd (show j + 4 < 4 from hj) (by omega)
  | 8, _, 0, _ => exact hs _ (by decide +kernel)
  | 8, _, 1, _ => exact hs _ (by decide +kernel)
  | 8, _, 2, _ => exact hs _ (by decide +kernel)
  | 8, _, 3, _ => exact hs _ (by decide +kernel)
  | 8, _, j + 4, hj => exact absurd (show j + 4 < 4 from hj) (by omega)
  | 9, _, 0, _ => exact hs _ (by decide +kernel)
  | 9, _, 1, _ => exact hs _ (by decide +kernel)
  | 9, _, 2, _ => exact hs _ (by decide +kernel)
  | 9, _, 3, _ => exact hs _ (by decide +kernel)
  | 9, _, j + 4, hj => exact absurd (show j + 4 < 4 from hj) (by omega)
  | 10, _, 0, _ => exact hs _ (by decide +kernel)
  | 10, _, 1, _ => exact hs _ (by decide +kernel)
  | 10, _, 2, _ => exact hs _ (by decide +kernel)
  | 10, _, 3, _ => exact hs _ (by decide +kernel)
  | 10, _, 4, _ => exact hs _ (by decide +kernel)
  | 10, _, 5, _ => exact hs _ (by decide +kernel)
  | 10, _, j + 6, hj => exact absurd (show j + 6 < 6 from hj) (by omega)
  | i + 11, hi, _, _ => exact absurd hi (by omega)
theorem s_ne {args : Array Value} {s : State} (hs : ∀ c ∈ flatC (Jvm.Cond.and given_1 narrow_1), c.before args s = true) : ∀ i j : Nat, i < 11 → j < 11 → i ≠ j → (Cond.not (Cond.eq (tmS i) (tmS j))).before args s = true ∨ (Cond.not (Cond.eq (tmS j) (tmS i))).before args s = true := by
  intro i j hi hj hij
  match i, hi, j, hj with
  | 0, _, 0, _ => exact absurd rfl hij
  | 0, _, 1, _ => exact Or.inl (hs _ (by decide +kernel))
  | 0, _, 2, _ => exact Or.inl (hs _ (by decide +kernel))
  | 0, _, 3, _ => exact Or.inl (hs _ (by decide +kernel))
  | 0, _, 4, _ => exact Or.inl (hs _ (by decide +kernel))
  | 0, _, 5, _ => exact Or.inl (hs _ (by decide +kernel))
  | 0, _, 6, _ => exact Or.inl (hs _ (by decide +kernel))
  | 0, _, 7, _ => exact Or.inl (hs _ (by decide +kernel))
  | 0, _, 8, _ => exact Or.inl (hs _ (by decide +kernel))
  | 0, _, 9, _ => exact Or.inl (hs _ (by decide +kernel))
  | 0, _, 10, _ => exact Or.inl (hs _ (by decide +kernel))
  | 1, _, 0, _ => exact Or.inr (hs _ (by decide +kernel))
  | 1, _, 1, _ => exact absurd rfl hij
  | 1, _, 2, _ => exact Or.inl (hs _ (by decide +kernel))
  | 1, _, 3, _ => exact Or.inl (hs _ (by decide +kernel))
  | 1, _, 4, _ => exact Or.inl (hs _ (by decide +kernel))
  | 1, _, 5, _ => exact Or.inl (hs _ (by decide +kernel))
  | 1, _, 6, _ => exact Or.inl (hs _ (by decide +kernel))
  | 1, _, 7, _ => exact Or.inl (hs _ (by decide +kernel))
  | 1, _, 8, _ => exact Or.inl (hs _ (by decide +kernel))
  | 1, _, 9, _ => exact Or.inl (hs _ (by decide +kernel))
  | 1, _, 10, _ => exact Or.inl (hs _ (by decide +kernel))
  | 2, _, 0, _ => exact Or.inr (hs _ (by decide +kernel))
  | 2, _, 1, _ => exact Or.inr (hs _ (by decide +kernel))
  | 2, _, 2, _ => exact absurd rfl hij
  | 2, _, 3, _ => exact Or.inl (hs _ (by decide +kernel))
  | 2, _, 4, _ => exact Or.inl (hs _ (by decide +kernel))
  | 2, _, 5, _ => exact Or.inl (hs _ (by decide +kernel))
  | 2, _, 6, _ => exact Or.inl (hs _ (by decide +kernel))
  | 2, _, 7, _ => exact Or.inl (hs _ (by decide +kernel))
  | 2, _, 8, _ => exact Or.inl (hs _ (by decide +kernel))
  | 2, _, 9, _ => exact Or.inl (hs _ (by decide +kernel))
  | 2, _, 10, _ => exact Or.inl (hs _ (by decide +kernel))
  | 3, _, 0, _ => exact Or.inr (hs _ (by decide +kernel))
  | 3, _, 1, _ => exact Or.inr (hs _ (by decide +kernel))
  | 3, _, 2, _ => exact Or.inr (hs _ (by decide +kernel))
  | 3, _, 3, _ => exact absurd rfl hij
  | 3, _, 4, _ => exact Or.inl (hs _ (by decide +kernel))
  | 3, _, 5, _ => exact Or.inl (hs _ (by decide +kernel))
  | 3, _, 6, _ => exact Or.inl (hs _ (by decide +kernel))
  | 3, _, 7, _ => exact Or.inl (hs _ (by decide +kernel))
  | 3, _, 8, _ => exact Or.inl (hs _ (by decide +kernel))
  | 3, _, 9, _ => exact Or.inl (hs _ (by decide +kernel))
  | 3, _, 10, _ => exact Or.inl (hs _ (by decide +kernel))
  | 4, _, 0, _ => exact Or.inr (hs _ (by decide +kernel))
  | 4, _, 1, _ => exact Or.inr (hs _ (by decide +kernel))
  | 4, _, 2, _ => exact Or.inr (hs _ (by decide +kernel))
  | 4, _, 3, _ => exact Or.inr (hs _ (by decide +kernel))
  | 4, _, 4, _ => exact absurd rfl hij
  | 4, _, 5, _ => exact Or.inl (hs _ (by decide +kernel))
  | 4, _, 6, _ => exact Or.inl (hs _ (by decide +kernel))
  | 4, _, 7, _ => exact Or.inl (hs _ (by decide +kernel))
  | 4, _, 8, _ => exact Or.inl (hs _ (by decide +kernel))
  | 4, _, 9, _ => exact Or.inl (hs _ (by decide +kernel))
  | 4, _, 10, _ => exact Or.inl (hs _ (by decide +kernel))
  | 5, _, 0, _ => exact Or.inr (hs _ (by decide +kernel))
  | 5, _, 1, _ => exact Or.inr (hs _ (by decide +kernel))
  | 5, _, 2, _ => exact Or.inr (hs _ (by decide +kernel))
  | 5, _, 3, _ => exact Or.inr (hs _ (by decide +kernel))
  | 5, _, 4, _ => exact Or.inr (hs _ (by decide +kernel))
  | 5, _, 5, _ => exact absurd rfl hij
  | 5, _, 6, _ => exact Or.inl (hs _ (by decide +kernel))
  | 5, _, 7, _ => exact Or.inl (hs _ (by decide +kernel))
  | 5, _, 8, _ => exact Or.inl (hs _ (by decide +kernel))
  | 5, _, 9, _ => exact Or.inl (hs _ (by decide +kernel))
  | 5, _, 10, _ => exact Or.inl (hs _ (by decide +kernel))
  | 6, _, 0, _ => exact Or.inr (hs _ (by decide +kernel))
  | 6, _, 1, _ => exact Or.inr (hs _ (by decide +kernel))
  | 6, _, 2, _ => exact Or.inr (hs _ (by decide +kernel))
  | 6, _, 3, _ => exact Or.inr (hs _ (by decide +kernel))
  | 6, _, 4, _ => exact Or.inr (hs _ (by decide +kernel))
  | 6, _, 5, _ => exact Or.inr (hs _ (by decide +kernel))
  | 6, _, 6, _ => exact absurd rfl hij
  | 6, _, 7, _ => exact Or.inl (hs _ (by decide +kernel))
  | 6, _, 8, _ => exact Or.inl (hs _ (by decide +kernel))
  | 6, _, 9, _ => exact Or.inl (hs _ (by decide +kernel))
  | 6, _, 10, _ => exact Or.inl (hs _ (by decide +kernel))
  | 7, _, 0, _ => exact Or.inr (hs _ (by decide +kernel))
  | 7, _, 1, _ => exact Or.inr (hs _ (by decide +kernel))
  | 7, _, 2, _ => exact Or.inr (hs _ (by decide +kernel))
  | 7, _, 3, _ => exact Or.inr (hs _ (by decide +kernel))
  | 7, _, 4, _ => exact Or.inr (hs _ (by decide +kernel))
  | 7, _, 5, _ => exact Or.inr (hs _ (by decide +kernel))
  | 7, _, 6, _ => exact Or.inr (hs _ (by decide +kernel))
  | 7, _, 7, _ => exact absurd rfl hij
  | 7, _, 8, _ => exact Or.inl (hs _ (by decide +kernel))
  | 7, _, 9, _ => exact Or.inl (hs _ (by decide +kernel))
  | 7, _, 10, _ => exact Or.inl (hs _ (by decide +kernel))
  | 8, _, 0, _ => exact Or.inr (hs _ (by decide +kernel))
  | 8, _, 1, _ => exact Or.inr (hs _ (by decide +kernel))
  | 8, _, 2, _ => exact Or.inr (hs _ (by decide +kernel))
  | 8, _, 3, _ => exact Or.inr (hs _ (by decide +kernel))
  | 8, _, 4, _ => exact Or.inr (hs _ (by decide +kernel))
  | 8, _, 5, _ => exact Or.inr (hs _ (by decide +kernel))
  | 8, _, 6, _ => exact Or.inr (hs _ (by decide +kernel))
  | 8, _, 7, _ => exact Or.inr (hs _ (by decide +kernel))
  | 8, _, 8, _ => exact absurd rfl hij
  | 8, _, 9, _ => exact Or.inl (hs _ (by decide +kernel))
  | 8, _, 10, _ => exact Or.inl (hs _ (by decide +kernel))
  | 9, _, 0, _ => exact Or.inr (hs _ (by decide +kernel))
  | 9, _, 1, _ => exact Or.inr (hs _ (by decide +kernel))
  | 9, _, 2, _ => exact Or.inr (hs _ (by decide +kernel))
  | 9, _, 3, _ => exact Or.inr (hs _ (by decide +kernel))
  | 9, _, 4, _ => exact Or.inr (hs _ (by decide +kernel))
  | 9, _, 5, _ => exact Or.inr (hs _ (by decide +kernel))
  | 9, _, 6, _ => exact Or.inr (hs _ (by decide +kernel))
  | 9, _, 7, _ => exact Or.inr (hs _ (by decide +kernel))
  | 9, _, 8, _ => exact Or.inr (hs _ (by decide +kernel))
  | 9, _, 9, _ => exact absurd rfl hij
  | 9, _, 10, _ => exact Or.inl (hs _ (by decide +kernel))
  | 10, _, 0, _ => exact Or.inr (hs _ (by decide +kernel))
  | 10, _, 1, _ => exact Or.inr (hs _ (by decide +kernel))
  | 10, _, 2, _ => exact Or.inr (hs _ (by decide +kernel))
  | 10, _, 3, _ => exact Or.inr (hs _ (by decide +kernel))
  | 10, _, 4, _ => exact Or.inr (hs _ (by decide +kernel))
  | 10, _, 5, _ => exact Or.inr (hs _ (by decide +kernel))
  | 10, _, 6, _ => exact Or.inr (hs _ (by decide +kernel))
  | 10, _, 7, _ => exact Or.inr (hs _ (by decide +kernel))
  | 10, _, 8, _ => exact Or.inr (hs _ (by decide +kernel))
  | 10, _, 9, _ => exact Or.inr (hs _ (by decide +kernel))
  | 10, _, 10, _ => exact absurd rfl hij
  | i + 11, hi, _, _ => exact absurd hi (by omega)
  | _, _, j + 11, hj => exact absurd hj (by omega)
theorem t_el0 {args : Array Value} {s : State} (hs : ∀ c ∈ flatC (Jvm.Cond.and given_1 narrow_1), c.before args s = true) : ∀ j : Nat, j < 11 → (Cond.eq (.elem (.static "QuarrelOvens$Reader" "NUMBERS" "[I") (.int (Int32.ofNat j))) (.int (Int32.ofInt ((stV 0).getD j 0)))).before args s = true := by
  intro i hi
  match i, hi with
  | 0, _ => exact hs _ (by decide +kernel)
  | 1, _ => exact hs _ (by decide +kernel)
  | 2, _ => exact hs _ (by decide +kernel)
  | 3, _ => exact hs _ (by decide +kernel)
  | 4, _ => exact hs _ (by decide +kernel)
  | 5, _ => exact hs _ (by decide +kernel)
  | 6, _ => exact hs _ (by decide +kernel)
  | 7, _ => exact hs _ (by decide +kernel)
  | 8, _ => exact hs _ (by decide +kernel)
  | 9, _ => exact hs _ (by decide +kernel)
  | 10, _ => exact hs _ (by decide +kernel)
  | i + 11, hi => exact absurd hi (by omega)
theorem t_ok0 {args : Array Value} {s : State} (hs : ∀ c ∈ flatC (Jvm.Cond.and given_1 narrow_1), c.before args s = true) {A : Nat → Prop} (hl : (Cond.laysStatic "QuarrelOvens$Reader" "NUMBERS" "[I").before args s = true) (hini : (Cond.initialized "QuarrelOvens$Reader").before args s = true) (hA : ∀ a : Nat, a < s.heap.size → ¬ A a) : ∃ t : Nat, va_Z "QuarrelOvens$Reader" (stN 0) "[I" (.ref t) A s s.heap ∧ va_T .int t (stV 0).length (fun j => .int (Int32.ofInt ((stV 0).getD j 0))) A s s.heap := by
  obtain ⟨t, h1, h2⟩ := va_Tof (N := 11) (f := fun j => .int (Int32.ofInt ((stV 0).getD j 0))) (by decide) (hs _ (by decide +kernel) : (Cond.arrayOf (.static "QuarrelOvens$Reader" "NUMBERS" "[I") .int).before args s = true) (va_eqt (hs _ (by decide +kernel) : (Cond.eq (.length (.static "QuarrelOvens$Reader" "NUMBERS" "[I")) (.int (Int32.ofNat 11))).before args s = true)) (fun j hj => va_eqt (t_el0 hs j hj)) hA
  exact ⟨t, va_Zref hl hini h1 hA, h2⟩
theorem t_el1 {args : Array Value} {s : State} (hs : ∀ c ∈ flatC (Jvm.Cond.and given_1 narrow_1), c.before args s = true) : ∀ j : Nat, j < 44 → (Cond.eq (.elem (.static "QuarrelOvens$Reader" "LEAST" "[I") (.int (Int32.ofNat j))) (.int (Int32.ofInt ((stV 1).getD j 0)))).before args s = true := by
  intro i hi
  match i, hi with
  | 0, _ => exact hs _ (by decide +kernel)
  | 1, _ => exact hs _ (by decide +kernel)
  | 2, _ => exact hs _ (by decide +kernel)
  | 3, _ => exact hs _ (by decide +kernel)
  | 4, _ => exact hs _ (by decide +kernel)
  | 5, _ => exact hs _ (by decide +kernel)
  | 6, _ => exact hs _ (by decide +kernel)
  | 7, _ => exact hs _ (by decide +kernel)
  | 8, _ => exact hs _ (by decide +kernel)
  | 9, _ => exact hs _ (by decide +kernel)
  | 10, _ => exact hs _ (by decide +kernel)
  | 11, _ => exact hs _ (by decide +kernel)
  | 12, _ => exact hs _ (by decide +kernel)
  | 13, _ => exact hs _ (by decide +kernel)
  | 14, _ => exact hs _ (by decide +kernel)
  | 15, _ => exact hs _ (by decide +kernel)
  | 16, _ => exact hs _ (by decide +kernel)
  | 17, _ => exact hs _ (by decide +kernel)
  | 18, _ => exact hs _ (by decide +kernel)
  | 19, _ => exact hs _ (by decide +kernel)
  | 20, _ => exact hs _ (by decide +kernel)
  | 21, _ => exact hs _ (by decide +kernel)
  | 22, _ => exact hs _ (by decide +kernel)
  | 23, _ => exact hs _ (by decide +kernel)
  | 24, _ => exact hs _ (by decide +kernel)
  | 25, _ => exact hs _ (by decide +kernel)
  | 26, _ => exact hs _ (by decide +kernel)
  | 27, _ => exact hs _ (by decide +kernel)
  | 28, _ => exact hs _ (by decide +kernel)
  | 29, _ => exact hs _ (by decide +kernel)
  | 30, _ => exact hs _ (by decide +kernel)
  | 31, _ => exact hs _ (by decide +kernel)
  | 32, _ => exact hs _ (by decide +kernel)
  | 33, _ => exact hs _ (by decide +kernel)
  | 34, _ => exact hs _ (by decide +kernel)
  | 35, _ => exact hs _ (by decide +kernel)
  | 36, _ => exact hs _ (by decide +kernel)
  | 37, _ => exact hs _ (by decide +kernel)
  | 38, _ => exact hs _ (by decide +kernel)
  | 39, _ => exact hs _ (by decide +kernel)
  | 40, _ => exact hs _ (by decide +kernel)
  | 41, _ => exact hs _ (by decide +kernel)
  | 42, _ => exact hs _ (by decide +kernel)
  | 43, _ => exact hs _ (by decide +kernel)
  | i + 44, hi => exact absurd hi (by omega)
theorem t_ok1 {args : Array Value} {s : State} (hs : ∀ c ∈ flatC (Jvm.Cond.and given_1 narrow_1), c.before args s = true) {A : Nat → Prop} (hl : (Cond.laysStatic "QuarrelOvens$Reader" "LEAST" "[I").before args s = true) (hini : (Cond.initialized "QuarrelOvens$Reader").before args s = true) (hA : ∀ a : Nat, a < s.heap.size → ¬ A a) : ∃ t : Nat, va_Z "QuarrelOvens$Reader" (stN 1) "[I" (.ref t) A s s.heap ∧ va_T .int t (stV 1).length (fun j => .int (Int32.ofInt ((stV 1).getD j 0))) A s s.heap := by
  obtain ⟨t, h1, h2⟩ := va_Tof (N := 44) (f := fun j => .int (Int32.ofInt ((stV 1).getD j 0))) (by decide) (hs _ (by decide +kernel) : (Cond.arrayOf (.static "QuarrelOvens$Reader" "LEAST" "[I") .int).before args s = true) (va_eqt (hs _ (by decide +kernel) : (Cond.eq (.length (.static "QuarrelOvens$Reader" "LEAST" "[I")) (.int (Int32.ofNat 44))).before args s = true)) (fun j hj => va_eqt (t_el1 hs j hj)) hA
  exact ⟨t, va_Zref hl hini h1 hA, h2⟩
theorem t_el2 {args : Array Value} {s : State} (hs : ∀ c ∈ flatC (Jvm.Cond.and given_1 narrow_1), c.before args s = true) : ∀ j : Nat, j < 44 → (Cond.eq (.elem (.static "QuarrelOvens$Reader" "MOST" "[I") (.int (Int32.ofNat j))) (.int (Int32.ofInt ((stV 2).getD j 0)))).before args s = true := by
  intro i hi
  match i, hi with
  | 0, _ => exact hs _ (by decide +kernel)
  | 1, _ => exact hs _ (by decide +kernel)
  | 2, _ => exact hs _ (by decide +kernel)
  | 3, _ => exact hs _ (by decide +kernel)
  | 4, _ => exact hs _ (by decide +kernel)
  | 5, _ => exact hs _ (by decide +kernel)
  | 6, _ => exact hs _ (by decide +kernel)
  | 7, _ => exact hs _ (by decide +kernel)
  | 8, _ => exact hs _ (by decide +kernel)
  | 9, _ => exact hs _ (by decide +kernel)
  | 10, _ => exact hs _ (by decide +kernel)
  | 11, _ => exact hs _ (by decide +kernel)
  | 12, _ => exact hs _ (by decide +kernel)
  | 13, _ => exact hs _ (by decide +kernel)
  | 14, _ => exact hs _ (by decide +kernel)
  | 15, _ => exact hs _ (by decide +kernel)
  | 16, _ => exact hs _ (by decide +kernel)
  | 17, _ => exact hs _ (by decide +kernel)
  | 18, _ => exact hs _ (by decide +kernel)
  | 19, _ => exact hs _ (by decide +kernel)
  | 20, _ => exact hs _ (by decide +kernel)
  | 21, _ => exact hs _ (by decide +kernel)
  | 22, _ => exact hs _ (by decide +kernel)
  | 23, _ => exact hs _ (by decide +kernel)
  | 24, _ => exact hs _ (by decide +kernel)
  | 25, _ => exact hs _ (by decide +kernel)
  | 26, _ => exact hs _ (by decide +kernel)
  | 27, _ => exact hs _ (by decide +kernel)
  | 28, _ => exact hs _ (by decide +kernel)
  | 29, _ => exact hs _ (by decide +kernel)
  | 30, _ => exact hs _ (by decide +kernel)
  | 31, _ => exact hs _ (by decide +kernel)
  | 32, _ => exact hs _ (by decide +kernel)
  | 33, _ => exact hs _ (by decide +kernel)
  | 34, _ => exact hs _ (by decide +kernel)
  | 35, _ => exact hs _ (by decide +kernel)
  | 36, _ => exact hs _ (by decide +kernel)
  | 37, _ => exact hs _ (by decide +kernel)
  | 38, _ => exact hs _ (by decide +kernel)
  | 39, _ => exact hs _ (by decide +kernel)
  | 40, _ => exact hs _ (by decide +kernel)
  | 41, _ => exact hs _ (by decide +kernel)
  | 42, _ => exact hs _ (by decide +kernel)
  | 43, _ => exact hs _ (by decide +kernel)
  | i + 44, hi => exact absurd hi (by omega)
theorem t_ok2 {args : Array Value} {s : State} (hs : ∀ c ∈ flatC (Jvm.Cond.and given_1 narrow_1), c.before args s = true) {A : Nat → Prop} (hl : (Cond.laysStatic "QuarrelOvens$Reader" "MOST" "[I").before args s = true) (hini : (Cond.initialized "QuarrelOvens$Reader").before args s = true) (hA : ∀ a : Nat, a < s.heap.size → ¬ A a) : ∃ t : Nat, va_Z "QuarrelOvens$Reader" (stN 2) "[I" (.ref t) A s s.heap ∧ va_T .int t (stV 2).length (fun j => .int (Int32.ofInt ((stV 2).getD j 0))) A s s.heap := by
  obtain ⟨t, h1, h2⟩ := va_Tof (N := 44) (f := fun j => .int (Int32.ofInt ((stV 2).getD j 0))) (by decide) (hs _ (by decide +kernel) : (Cond.arrayOf (.static "QuarrelOvens$Reader" "MOST" "[I") .int).before args s = true) (va_eqt (hs _ (by decide +kernel) : (Cond.eq (.length (.static "QuarrelOvens$Reader" "MOST" "[I")) (.int (Int32.ofNat 44))).before args s = true)) (fun j hj => va_eqt (t_el2 hs j hj)) hA
  exact ⟨t, va_Zref hl hini h1 hA, h2⟩
