/-! rows of Den that write -/
section DenRows3
variable {l : Launch} {G : Geo} {μ : Mu} {rv : Int → Option Value} {d pc : Nat} {L L2 : List (Option Value)} {st : List Value} {h : AH} {res : Option (Int × AH)}
theorem Wd.put {h2 : AH} {s : State} {H H1 : Heap} {locs locs1 : List Loc} (hw : Wd G h s H locs) (hn : h2.1 = h.1) (hz : H1.size = H.size) (hP : va_P G.2.2.1 CC (aW G h2) H1) (hS : va_S (gA G) s.heap H1 locs1) : Wd G h2 s H1 locs1 := ⟨hP, hw.2.1, hS, by rw [hz, hn]; exact hw.2.2.2.1, hw.2.2.2.2⟩
theorem den_putT {a idx ci k : Nat} {ty : FieldType} {x : Int} (f : FP μ.2.2.2.2 idx ci k ty) (hok : ok h.1 a ci) (hn : narrow ty (vI x) = vI x) (hfit : fits ty (vI x) = true) (hd : decode μ.2.1 pc = .ok (.putfield idx, 3)) (kk : Den l G μ rv d (pc + 3) L st (wr h a k x) res) : Den l G μ rv d pc L (vI x :: vA G a :: st) h res := by
  obtain ⟨C, T, N, ty0, f1, f2, f3, f4, f5, f6, f7, f8, f9, f10⟩ := f
  have hs : shp a = (ci + 10, N) := by rw [hok.2, f6]
  refine den_goH (h2 := wr h a k x) rfl (fun ls Cc hw _ _ _ _ k2 => ?_) kk
  have hts := Cc.2.2.2.2.2.2
  have hD := aW_D G h
  have he : (aW G h)[a]? = some (G.1 + a, .inr (ci, aF G a (h.2 a))) := by rw [aW_get G h hok.1, aE_obj hs]
  have hl : k < (aF G a (h.2 a)).length := by rw [aF_len, hs]; exact f5
  have hset : (aW G h).set a (G.1 + a, .inr (ci, (aF G a (h.2 a)).set k (vI x))) = aW G (wr h a k x) := by
    rw [aF_set G a (h.2 a) (by rw [hs]; show ftk (ci + 10 - 10) k = none; rw [Nat.add_sub_cancel]; exact f8), ← aW_wr, aE_obj hs]
  have hap := va_apart (own := μ.2.2.2.2) hts f2 ty0 f3 f4 hw.2.1 f1
  obtain ⟨r, h1, cell, q1, q2, q3, q4⟩ := hw.1 a _ he
  have hr : r = (C, T, N) := Option.some.inj (h1.symm.trans f1)
  subst hr
  obtain ⟨hS, hfc, kC, hkC, hkind⟩ := hw.2.1.1 ci _ f1
  obtain ⟨cf, kf, fi, fd, hi, hsl⟩ := hS k f5
  have hlay := hts _ (f2 _ (u_in_lay f5))
  unfold u_lay at hlay
  rw [if_neg (by rw [f9]; decide)] at hlay
  have hst := (u_facts hfc hkC (u_lays hts f2 f5) hi).1
  have h6 := u_store hfc hkC hkind hlay hi f10 hn hfit
  refine W.putK Cc.1 Cc.2.1 (f := fd) ⟨Cc.2.2.2.2.2.1, hts _ f7, ⟨_, _, _, hi⟩, hst⟩ (by rw [q2]; exact h6) q1 q3 (by rw [hsl]; exact k2_hasslot (q4 k f5)) rfl rfl hd fun H' e1 e2 e3 => ?_
  rw [hsl] at e1 ⊢
  have hP := hw.1.set hD he (e := .inr (ci, (aF G a (h.2 a)).set k (vI x))) ⟨_, f1, t_OB.to (V := updV (vp_V (aF G a (h.2 a))) k (vI x)) ⟨_, e1, q2, q3, t_set q4 hap f5 (vI x)⟩ (fun j _ => vp_updV_set hl (vI x) j)⟩ e3
  rw [hset] at hP
  exact k2 H' _ (hw.put rfl e2 hP (hw.2.2.1.put e2 e3 (hD.2 a _ he)))
theorem den_putI {a idx ci k : Nat} {x : Int} (f : FP μ.2.2.2.2 idx ci k .int) (hok : ok h.1 a ci) (hd : decode μ.2.1 pc = .ok (.putfield idx, 3)) (kk : Den l G μ rv d (pc + 3) L st (wr h a k x) res) : Den l G μ rv d pc L (vI x :: vA G a :: st) h res := den_putT f hok rfl rfl hd kk
theorem den_iaload {a N : Nat} {i M : Int} (hs : shp a = (0, N)) (ha : a < sz h.1) (hM : (N : Int) = M) (hin : 0 ≤ w32 i ∧ w32 i < M) (hd : decode μ.2.1 pc = .ok (.iaload, 1)) (kk : Den l G μ rv d (pc + 1) L (vI (h.2 a (w32 i).toNat) :: st) h res) : Den l G μ rv d pc L (vI i :: vA G a :: st) h res := by
  subst hM
  refine den_go (fun _ C hw _ k2 => ?_) kk
  exact va_iald C.1 C.2.1 hw.2.1 hw.1 a 0 (f := fun j => Int32.ofInt (h.2 a j)) (by rw [aW_get G h ha, aE_0 hs]) rfl (vp_in_w hin) hd (by rw [clamp_w]; exact k2)
theorem den_baload {a N : Nat} {i M : Int} (hs : shp a = (1, N)) (ha : a < sz h.1) (hM : (N : Int) = M) (hin : 0 ≤ w32 i ∧ w32 i < M) (hd : decode μ.2.1 pc = .ok (.baload, 1)) (kk : Den l G μ rv d (pc + 1) L (vI (h.2 a (w32 i).toNat) :: st) h res) : Den l G μ rv d pc L (vI i :: vA G a :: st) h res := by
  subst hM
  refine den_go (fun _ C hw _ k2 => ?_) kk
  exact va_bald C.1 C.2.1 hw.2.1 hw.1 a 1 (f := fun j => Int32.ofInt (h.2 a j)) (by rw [aW_get G h ha, aE_1 hs]) rfl (vp_in_w hin) hd (by rw [clamp_w]; exact k2)
theorem den_zaload {a N : Nat} {i M : Int} (hs : shp a = (2, N)) (ha : a < sz h.1) (hM : (N : Int) = M) (hin : 0 ≤ w32 i ∧ w32 i < M) (hd : decode μ.2.1 pc = .ok (.baload, 1)) (kk : Den l G μ rv d (pc + 1) L (vI (h.2 a (w32 i).toNat) :: st) h res) : Den l G μ rv d pc L (vI i :: vA G a :: st) h res := by
  subst hM
  refine den_go (fun _ C hw _ k2 => ?_) kk
  exact va_zald C.1 C.2.1 hw.2.1 hw.1 a 2 (f := fun j => Int32.ofInt (h.2 a j)) (by rw [aW_get G h ha, aE_2 hs]) rfl (vp_in_w hin) hd (by rw [clamp_w]; exact k2)
theorem dn_set {a N t : Nat} {k : Nat} {x : Int} {e1 : va_E} (he : aE G a (fun j => if j = k then x else h.2 a j) = e1) : (aW G h).set a (G.1 + a, e1) = aW G (wr h a k x) := by rw [← he, aW_wr]
theorem updV_int (row : Nat → Int) (k : Nat) (x : Int) : updV (fun j => Value.int (Int32.ofInt (row j))) k (.int (Int32.ofInt x)) = fun j => Value.int (Int32.ofInt (if j = k then x else row j)) := by
  funext j
  unfold updV
  split <;> simp_all
theorem den_iastore {a N : Nat} {i M x : Int} (hs : shp a = (0, N)) (ha : a < sz h.1) (hM : (N : Int) = M) (hin : 0 ≤ w32 i ∧ w32 i < M) (hd : decode μ.2.1 pc = .ok (.iastore, 1)) (kk : Den l G μ rv d (pc + 1) L st (wr h a (w32 i).toNat x) res) : Den l G μ rv d pc L (vI x :: vI i :: vA G a :: st) h res := by
  subst hM
  refine den_goH (h2 := wr h a (w32 i).toNat x) rfl (fun ls C hw _ _ _ _ k2 => ?_) kk
  have hD := aW_D G h
  have he : (aW G h)[a]? = some (G.1 + a, .inl (G.2.2.2 0, N, .inl (fun j => Int32.ofInt (h.2 a j)))) := by rw [aW_get G h ha, aE_0 hs]
  have hset := dn_set (G := G) (h := h) (a := a) (N := N) (t := 0) (k := (w32 i).toNat) (x := x) (aE_0 hs)
  refine W.iast C.1 C.2.1 (hw.1 a _ he) ((hw.2.1.2 0 _ rfl).1 N (fun j => .int (Int32.ofInt (h.2 a j)))) (fun q => by cases q) (by show ¬ (_ < 0 ∨ (arrV _ _ _).slots.size ≤ _); rw [arrV_size]; exact vp_in_w hin) rfl rfl hd fun H1 e z oq => ?_
  have hP := hw.1.set hD he (e := .inl (G.2.2.2 0, N, .inl (fun j => Int32.ofInt (if j = (w32 i).toNat then x else h.2 a j)))) (show H1[G.1 + a]? = some (vp_cell _ _) by rw [e, vp_cell_i, vp_cell_i, arrV_store, clamp_w, updV_int]) oq
  rw [hset] at hP
  exact k2 H1 _ (hw.put rfl z hP (hw.2.2.1.put z oq (hD.2 a _ he)))
theorem nar_b (x : Int) : vp_nar .byte (Int32.ofInt x) = Int32.ofInt (i2b x) := by rw [vp_nar_byte, i32_i2b]
theorem nar_z (x : Int) : vp_nar .boolean (Int32.ofInt x) = Int32.ofInt (nz x) := by unfold nz; rw [Int32.ofInt_toInt]

theorem nar_b2 (x : Int) : narrow .byte (.int (Int32.ofInt x)) = .int (Int32.ofInt (i2b x)) := by
  show Value.int (Int32.ofInt x).toInt8.toInt32 = _
  rw [i32_i2b]
theorem nar_z2 (x : Int) : narrow .boolean (.int (Int32.ofInt x)) = .int (Int32.ofInt (nz x)) := by
  unfold nz
  rw [Int32.ofInt_toInt]
  rfl
theorem den_bastore {a N : Nat} {i M x : Int} (hs : shp a = (1, N)) (ha : a < sz h.1) (hM : (N : Int) = M) (hin : 0 ≤ w32 i ∧ w32 i < M) (hd : decode μ.2.1 pc = .ok (.bastore, 1)) (kk : Den l G μ rv d (pc + 1) L st (wr h a (w32 i).toNat (i2b x)) res) : Den l G μ rv d pc L (vI x :: vI i :: vA G a :: st) h res := by
  subst hM
  refine den_goH (h2 := wr h a (w32 i).toNat (i2b x)) rfl (fun ls C hw _ _ _ _ k2 => ?_) kk
  have hD := aW_D G h
  have he : (aW G h)[a]? = some (G.1 + a, .inl (G.2.2.2 1, N, .inl (fun j => Int32.ofInt (h.2 a j)))) := by rw [aW_get G h ha, aE_1 hs]
  have hset := dn_set (G := G) (h := h) (a := a) (N := N) (t := 0) (k := (w32 i).toNat) (x := i2b x) (aE_1 hs)
  refine W.bast C.1 C.2.1 (hw.1 a _ he) ((hw.2.1.2 1 _ rfl).1 N (fun j => .int (Int32.ofInt (h.2 a j)))) (fun q => by cases q) (by show ¬ (_ < 0 ∨ (arrV _ _ _).slots.size ≤ _); rw [arrV_size]; exact vp_in_w hin) rfl rfl hd fun H1 e z oq => ?_
  have hP := hw.1.set hD he (e := .inl (G.2.2.2 1, N, .inl (fun j => Int32.ofInt (if j = (w32 i).toNat then i2b x else h.2 a j)))) (show H1[G.1 + a]? = some (vp_cell _ _) by rw [e, vp_cell_i, vp_cell_i, arrV_store, clamp_w, nar_b2, updV_int]) oq
  rw [hset] at hP
  exact k2 H1 _ (hw.put rfl z hP (hw.2.2.1.put z oq (hD.2 a _ he)))
theorem den_zastore {a N : Nat} {i M x : Int} (hs : shp a = (2, N)) (ha : a < sz h.1) (hM : (N : Int) = M) (hin : 0 ≤ w32 i ∧ w32 i < M) (hd : decode μ.2.1 pc = .ok (.bastore, 1)) (kk : Den l G μ rv d (pc + 1) L st (wr h a (w32 i).toNat (nz x)) res) : Den l G μ rv d pc L (vI x :: vI i :: vA G a :: st) h res := by
  subst hM
  refine den_goH (h2 := wr h a (w32 i).toNat (nz x)) rfl (fun ls C hw _ _ _ _ k2 => ?_) kk
  have hD := aW_D G h
  have he : (aW G h)[a]? = some (G.1 + a, .inl (G.2.2.2 2, N, .inl (fun j => Int32.ofInt (h.2 a j)))) := by rw [aW_get G h ha, aE_2 hs]
  have hset := dn_set (G := G) (h := h) (a := a) (N := N) (t := 0) (k := (w32 i).toNat) (x := nz x) (aE_2 hs)
  refine W.zast C.1 C.2.1 (hw.1 a _ he) ((hw.2.1.2 2 _ rfl).1 N (fun j => .int (Int32.ofInt (h.2 a j)))) (fun q => by cases q) (by show ¬ (_ < 0 ∨ (arrV _ _ _).slots.size ≤ _); rw [arrV_size]; exact vp_in_w hin) rfl rfl hd fun H1 e z oq => ?_
  have hP := hw.1.set hD he (e := .inl (G.2.2.2 2, N, .inl (fun j => Int32.ofInt (if j = (w32 i).toNat then nz x else h.2 a j)))) (show H1[G.1 + a]? = some (vp_cell _ _) by rw [e, vp_cell_i, vp_cell_i, arrV_store, clamp_w, nar_z2, updV_int]) oq
  rw [hset] at hP
  exact k2 H1 _ (hw.put rfl z hP (hw.2.2.1.put z oq (hD.2 a _ he)))
theorem den_aaload3 {a N : Nat} {i M : Int} (hs : shp a = (3, N)) (ha : a < sz h.1) (hM : (N : Int) = M) (hin : 0 ≤ w32 i ∧ w32 i < M) (hd : decode μ.2.1 pc = .ok (.aaload, 1)) (kk : Den l G μ rv d (pc + 1) L (vR G (h.2 a (w32 i).toNat) :: st) h res) : Den l G μ rv d pc L (vI i :: vA G a :: st) h res := by
  subst hM
  refine den_go (fun _ C hw _ k2 => ?_) kk
  exact va_aldq C.1 C.2.1 hw.2.1 hw.1 a 3 (C := "QuarrelOvens$Told") (f := fun j => oR G (h.2 a j)) (by rw [aW_get G h ha, aE_3 hs]) rfl (vp_in_w hin) hd (by rw [clamp_w, rf_oR]; exact k2)
theorem den_aaload4 {a N : Nat} {i M : Int} (hs : shp a = (4, N)) (ha : a < sz h.1) (hM : (N : Int) = M) (hin : 0 ≤ w32 i ∧ w32 i < M) (hd : decode μ.2.1 pc = .ok (.aaload, 1)) (kk : Den l G μ rv d (pc + 1) L (vA G (a + 3 + 10 * (w32 i).toNat) :: st) h res) : Den l G μ rv d pc L (vI i :: vA G a :: st) h res := by
  subst hM
  refine den_go (fun _ C hw _ k2 => ?_) kk
  exact va_aldq C.1 C.2.1 hw.2.1 hw.1 a 4 (C := "QuarrelOvens$Village") (f := fun j => some (G.1 + (a + 3 + 10 * j))) (by rw [aW_get G h ha, aE_4 hs]) rfl (vp_in_w hin) hd (by rw [clamp_w]; exact k2)
theorem den_aaload5 {a N : Nat} {i M : Int} (hs : shp a = (5, N)) (ha : a < sz h.1) (hM : (N : Int) = M) (hin : 0 ≤ w32 i ∧ w32 i < M) (hd : decode μ.2.1 pc = .ok (.aaload, 1)) (kk : Den l G μ rv d (pc + 1) L (vA G (a + 8 + 10 * (w32 i).toNat) :: st) h res) : Den l G μ rv d pc L (vI i :: vA G a :: st) h res := by
  subst hM
  refine den_go (fun _ C hw _ k2 => ?_) kk
  exact va_aldq C.1 C.2.1 hw.2.1 hw.1 a 5 (C := "QuarrelOvens$Rows") (f := fun j => some (G.1 + (a + 8 + 10 * j))) (by rw [aW_get G h ha, aE_5 hs]) rfl (vp_in_w hin) hd (by rw [clamp_w]; exact k2)
theorem den_aaload6 {a N : Nat} {i M : Int} (hs : shp a = (6, N)) (ha : a < sz h.1) (hM : (N : Int) = M) (hin : 0 ≤ w32 i ∧ w32 i < M) (hd : decode μ.2.1 pc = .ok (.aaload, 1)) (kk : Den l G μ rv d (pc + 1) L (vA G (a + 9 + 10 * (w32 i).toNat) :: st) h res) : Den l G μ rv d pc L (vI i :: vA G a :: st) h res := by
  subst hM
  refine den_go (fun _ C hw _ k2 => ?_) kk
  exact va_aldq C.1 C.2.1 hw.2.1 hw.1 a 5 (C := "QuarrelOvens$Rows") (f := fun j => some (G.1 + (a + 9 + 10 * j))) (by rw [aW_get G h ha, aE_6 hs]) rfl (vp_in_w hin) hd (by rw [clamp_w]; exact k2)
theorem den_alen0 {a N : Nat} {M : Int} (hs : shp a = (0, N)) (ha : a < sz h.1) (hM : (N : Int) = M) (hd : decode μ.2.1 pc = .ok (.arraylength, 1)) (kk : Den l G μ rv d (pc + 1) L (vI M :: st) h res) : Den l G μ rv d pc L (vA G a :: st) h res := by
  subst hM
  refine den_go (fun _ C hw _ k2 => ?_) kk
  exact va_alen C.1 C.2.1 hw.2.1 hw.1 a 0 (ty := .int) (by rw [aW_get G h ha, aE_0 hs]) rfl (v := Int32.ofInt N) rfl hd k2
theorem den_alen1 {a N : Nat} {M : Int} (hs : shp a = (1, N)) (ha : a < sz h.1) (hM : (N : Int) = M) (hd : decode μ.2.1 pc = .ok (.arraylength, 1)) (kk : Den l G μ rv d (pc + 1) L (vI M :: st) h res) : Den l G μ rv d pc L (vA G a :: st) h res := by
  subst hM
  refine den_go (fun _ C hw _ k2 => ?_) kk
  exact va_alen C.1 C.2.1 hw.2.1 hw.1 a 1 (ty := .byte) (by rw [aW_get G h ha, aE_1 hs]) rfl (v := Int32.ofInt N) rfl hd k2
/-- the reader's tables -/
theorem den_gets {idx k : Nat} (hk : k < 3) (hl : Cond.fieldLink μ.2.2.2.2 idx "QuarrelOvens$Reader" (stN k) "[I" ∈ tW) (hd : decode μ.2.1 pc = .ok (.getstatic idx, 3)) (kk : Den l G μ rv d (pc + 3) L (vS G k :: st) h res) : Den l G μ rv d pc L st h res := by
  refine den_go (fun _ C hw _ k2 => ?_) kk
  exact va_gets C.1 C.2.1 (hw.2.2.2.2.2.1 k hk).1 hw.2.2.1 C.2.2.2.2.2.1 (C.2.2.2.2.2.2 _ hl) (fun _ q => q) hd k2
theorem den_saload {k : Nat} {i M : Int} (hk : k < 3) (hM : ((stV k).length : Int) = M) (hin : 0 ≤ w32 i ∧ w32 i < M) (hd : decode μ.2.1 pc = .ok (.iaload, 1)) (kk : Den l G μ rv d (pc + 1) L (vI ((stV k).getD (w32 i).toNat 0) :: st) h res) : Den l G μ rv d pc L (vI i :: vS G k :: st) h res := by
  subst hM
  refine den_go (fun _ C hw _ k2 => ?_) kk
  exact va_ti C.1 C.2.1 (hw.2.2.2.2.2.1 k hk).2 hw.2.2.1 (vp_in_w hin) (by rw [clamp_w]) hd k2
theorem den_ldcS {idx i : Nat} (hi : i < 11) (he : (strT.getD i (0, "")).1 = idx) (ho : μ.2.2.2.2 = "QuarrelOvens$Reader") (hd : decode μ.2.1 pc = .ok (.ldc idx, 2)) (kk : Den l G μ rv d (pc + 2) L (vS G (3 + i) :: st) h res) : Den l G μ rv d pc L st h res := by
  refine den_go (fun _ C hw _ k2 => ?_) kk
  subst he
  exact va_ldcS C.1 C.2.1 (by rw [← ho]; exact C.2.2.2.2.2.1) (hw.2.2.2.2.2.2.2.1 i hi) hd k2
/-- Math's -/
def FM (own : String) (idx : Nat) (y : MethodName) (cc : ByteArray) (n : Nat) : Prop := Cond.methodLink own idx y ∈ tW ∧ Cond.static y ∈ tW ∧ Cond.initialized "java/lang/Math" ∈ tW ∧ Cond.code y cc n (some .int) ∈ tW
theorem den_max {idx : Nat} {x y : Int} (f : FM μ.2.2.2.2 idx Lib.Math.max.name Lib.Math.max.code 2) (hst : (st.map fun v => v.category).sum ≤ 8) (hd1 : 1 ≤ d) (hd : decode μ.2.1 pc = .ok (.invokestatic idx, 3)) (kk : Den l G μ rv d (pc + 3) L (vI (max32 x y) :: st) h res) : Den l G μ rv d pc L (vI y :: vI x :: st) h res := by
  refine den_goH (h2 := h) rfl (fun ls C hw hl hR hc hs k2 => ?_) kk
  refine va_mmax C.1 C.2.1 (by rw [C.2.2.1, hl.size]) C.2.2.2.2.2.1 (C.2.2.2.2.2.2 _ f.1) (C.2.2.2.2.2.2 _ f.2.1) (C.2.2.2.2.2.2 _ f.2.2.1) (C.2.2.2.2.2.2 _ f.2.2.2) (Nat.le_trans hd1 hR.1) (by have := hR.2.1; omega) hc hs hd ?_
  have e : (if Int32.ofInt x < Int32.ofInt y then Int32.ofInt y else Int32.ofInt x) = Int32.ofInt (max32 x y) := by
    unfold max32
    by_cases q : w32 x < w32 y
    · rw [if_pos q, if_pos (i32_lt.mpr q)]
    · rw [if_neg q, if_neg (fun z => q (i32_lt.mp z))]
  rw [e]
  exact k2 _ _ hw
theorem den_min {idx : Nat} {x y : Int} (f : FM μ.2.2.2.2 idx Lib.Math.min.name Lib.Math.min.code 2) (hst : (st.map fun v => v.category).sum ≤ 8) (hd1 : 1 ≤ d) (hd : decode μ.2.1 pc = .ok (.invokestatic idx, 3)) (kk : Den l G μ rv d (pc + 3) L (vI (min32 x y) :: st) h res) : Den l G μ rv d pc L (vI y :: vI x :: st) h res := by
  refine den_goH (h2 := h) rfl (fun ls C hw hl hR hc hs k2 => ?_) kk
  refine va_mmin C.1 C.2.1 (by rw [C.2.2.1, hl.size]) C.2.2.2.2.2.1 (C.2.2.2.2.2.2 _ f.1) (C.2.2.2.2.2.2 _ f.2.1) (C.2.2.2.2.2.2 _ f.2.2.1) (C.2.2.2.2.2.2 _ f.2.2.2) (Nat.le_trans hd1 hR.1) (by have := hR.2.1; omega) hc hs hd ?_
  have e : (if Int32.ofInt y < Int32.ofInt x then Int32.ofInt y else Int32.ofInt x) = Int32.ofInt (min32 x y) := by
    unfold min32
    by_cases q : w32 y < w32 x
    · rw [if_pos q, if_pos (i32_lt.mpr q)]
    · rw [if_neg q, if_neg (fun z => q (i32_lt.mp z))]
  rw [e]
  exact k2 _ _ hw
theorem den_abs {idx : Nat} {x : Int} (f : FM μ.2.2.2.2 idx Lib.Math.abs.name Lib.Math.abs.code 1) (hst : (st.map fun v => v.category).sum ≤ 8) (hd1 : 1 ≤ d) (hd : decode μ.2.1 pc = .ok (.invokestatic idx, 3)) (kk : Den l G μ rv d (pc + 3) L (vI (abs32 x) :: st) h res) : Den l G μ rv d pc L (vI x :: st) h res := by
  refine den_goH (h2 := h) rfl (fun ls C hw hl hR hc hs k2 => ?_) kk
  refine va_mabs C.1 C.2.1 (by rw [C.2.2.1, hl.size]) C.2.2.2.2.2.1 (C.2.2.2.2.2.2 _ f.1) (C.2.2.2.2.2.2 _ f.2.1) (C.2.2.2.2.2.2 _ f.2.2.1) (C.2.2.2.2.2.2 _ f.2.2.2) (Nat.le_trans hd1 hR.1) (by have := hR.2.1; omega) hc hs hd ?_
  have e : (if 0 ≤ Int32.ofInt x then Int32.ofInt x else 0 - Int32.ofInt x) = Int32.ofInt (abs32 x) := by
    unfold abs32
    by_cases q : 0 ≤ w32 x
    · rw [if_pos q, if_pos (i32_0le.mpr q)]
    · rw [if_neg q, if_neg (fun z => q (i32_0le.mp z))]
      exact i32_sub 0 x
  rw [e]
  exact k2 _ _ hw
end DenRows3
