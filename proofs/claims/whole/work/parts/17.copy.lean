/-! System.arraycopy of ints, of bytes -/
def cpy (h : AH) (a0 a sp dp n : Nat) : AH := (h.1, fun b j => if b = a ∧ dp ≤ j ∧ j < dp + n then h.2 a0 (sp + (j - dp)) else h.2 b j)
def FC (own : String) (idx : Nat) : Prop := Cond.methodLink own idx arraycopyName ∈ tW ∧ Cond.native arraycopyName ∈ tW ∧ Cond.static arraycopyName ∈ tW ∧ Cond.initialized "java/lang/System" ∈ tW
section Copy
variable {l : Launch} {G : Geo} {μ : Mu} {rv : Int → Option Value} {d pc : Nat} {L : List (Option Value)} {st : List Value} {h : AH} {res : Option (Int × AH)}
theorem dn_nn {z : Int32} (hz : ¬ z < 0) : z.toInt = (z.toNatClampNeg : Int) := by
  have hz0 : (0 : Int) ≤ z.toInt := by
    have := Int32.not_lt.mp hz
    simpa using Int32.le_iff_toInt_le.mp this
  show z.toInt = ((z.toInt.toNat : Nat) : Int)
  omega
theorem dn_cpy_set {a0 a sp dp n : Nat} {e1 : va_E} (he : aE G a (fun j => if dp ≤ j ∧ j < dp + n then h.2 a0 (sp + (j - dp)) else h.2 a j) = e1) : (aW G h).set a (G.1 + a, e1) = aW G (cpy h a0 a sp dp n) := by
  rw [← he, aW_set]
  congr 1
  unfold cpy
  congr 1
  funext b j
  by_cases hb : b = a
  · subst hb
    simp
  · simp [hb]
theorem dn_cpy_fun (f g : Nat → Int) (sp dp n : Nat) : va_cpy (fun j => Int32.ofInt (f j)) (fun j => Int32.ofInt (g j)) sp dp n = fun j => Int32.ofInt (if dp ≤ j ∧ j < dp + n then f (sp + (j - dp)) else g j) := by
  funext j
  unfold va_cpy
  split <;> rfl
theorem den_copy {t : Nat} {ty : FieldType} (hty : (tyl G)[t]? = some (G.2.2.2 t, ty)) (hprim : refKind ty = false) (haE : ∀ {a N : Nat} {row : Nat → Int}, shp a = (t, N) → aE G a row = .inl (G.2.2.2 t, N, .inl (fun j => Int32.ofInt (row j)))) {a0 a N0 N1 idx : Nat} {sp dp n M0 M1 : Int} (f : FC μ.2.2.2.2 idx) (hs0 : shp a0 = (t, N0)) (ha0 : a0 < sz h.1) (hs1 : shp a = (t, N1)) (ha : a < sz h.1) (hM0 : (N0 : Int) = M0) (hM1 : (N1 : Int) = M1) (hd2 : 2 ≤ d)
    (hq : 0 ≤ w32 sp ∧ 0 ≤ w32 dp ∧ 0 ≤ w32 n ∧ w32 sp + w32 n ≤ M0 ∧ w32 dp + w32 n ≤ M1) (hfit : ∀ i, i < (w32 n).toNat → fits ty (vI (h.2 a0 ((w32 sp).toNat + i))) = true) (hst : (st.map fun v => v.category).sum ≤ 8) (hd : decode μ.2.1 pc = .ok (.invokestatic idx, 3)) (kk : Den l G μ rv d (pc + 3) L st (cpy h a0 a (w32 sp).toNat (w32 dp).toNat (w32 n).toNat) res) : Den l G μ rv d pc L (vI n :: vI dp :: vA G a :: vI sp :: vA G a0 :: st) h res := by
  subst hM0; subst hM1
  obtain ⟨q1, q2, q3, q4, q5⟩ := hq
  refine den_goH (h2 := cpy h a0 a (w32 sp).toNat (w32 dp).toNat (w32 n).toNat) rfl (fun {p e R s m args below meth c H locs cells slots Q} ls C hw hl hR hc hs k2 => ?_) kk
  have hD := aW_D G h
  have he0 : (aW G h)[a0]? = some (G.1 + a0, .inl (G.2.2.2 t, N0, .inl (fun j => Int32.ofInt (h.2 a0 j)))) := by rw [aW_get G h ha0, haE hs0]
  have he1 : (aW G h)[a]? = some (G.1 + a, .inl (G.2.2.2 t, N1, .inl (fun j => Int32.ofInt (h.2 a j)))) := by rw [aW_get G h ha, haE hs1]
  have hset := dn_cpy_set (G := G) (h := h) (a0 := a0) (a := a) (sp := (w32 sp).toNat) (dp := (w32 dp).toNat) (n := (w32 n).toNat) (haE hs1)
  have hts := C.2.2.2.2.2.2
  have h1 : ¬ Int32.ofInt sp < 0 := fun z => by rw [i32_lt0] at z; omega
  have h2 : ¬ Int32.ofInt dp < 0 := fun z => by rw [i32_lt0] at z; omega
  have h3 : ¬ Int32.ofInt n < 0 := fun z => by rw [i32_lt0] at z; omega
  have c1 := clamp_w sp
  have c2 := clamp_w dp
  have c3 := clamp_w n
  have hc0 : H[G.1 + a0]? = some (vp_cell (G.2.2.2 t) (N0, .inl (fun j => Int32.ofInt (h.2 a0 j)))) := hw.1 a0 _ he0
  have hc1 : H[G.1 + a]? = some (vp_cell (G.2.2.2 t) (N1, .inl (fun j => Int32.ofInt (h.2 a j)))) := hw.1 a _ he1
  have hlocs : 2 * 0 + (st.map fun v => v.category).sum + (nativeFrameWords "java/lang/System" "arraycopy" 5 + 11) ≤ R.locals := by
    have e0 : nativeFrameWords "java/lang/System" "arraycopy" 5 + 11 ≤ 100 := by decide
    have e1 := hR.2.1
    omega
  intro T hT X
  obtain ⟨-, k0, hk0, cm0, hkk0⟩ := (hw.2.1.2 t _ hty).1 N0 (fun j => .int (Int32.ofInt (h.2 a0 j)))
  obtain ⟨-, k1, hk1, cm1, hkk1⟩ := (hw.2.1.2 t _ hty).1 N1 (fun j => .int (Int32.ofInt (h.2 a j)))
  obtain ⟨vm', X', step⟩ := X.arraycopy C.1 C.2.2.2.2.2.1 (hts _ f.1) (hts _ f.2.1) (hts _ f.2.2.1) (hts _ f.2.2.2) (src := G.1 + a0) (dst := G.1 + a) (cs := vp_cell (G.2.2.2 t) (N0, .inl (fun j => Int32.ofInt (h.2 a0 j)))) (cd := vp_cell (G.2.2.2 t) (N1, .inl (fun j => Int32.ofInt (h.2 a j)))) (srcPos := Int32.ofInt sp) (destPos := Int32.ofInt dp) (n := Int32.ofInt n) (by rw [hT]; exact hc0) (by rw [hT]; exact hc1)
    (fun _ h => by cases h) (fun _ h => by cases h) (fun h => by cases h) (fun h => by cases h) hk0 hk1 hkk0 hkk1 (by simp [hprim]) h1 h2 h3
    (by rw [w32_toInt, w32_toInt]; show ¬ _ > ((arrV _ N0 _).slots.size : Int); rw [arrV_size]; omega)
    (by rw [w32_toInt, w32_toInt]; show ¬ _ > ((arrV _ N1 _).slots.size : Int); rw [arrV_size]; omega)
    (fun vm₁ _ i hi => by
      rw [c3] at hi
      have e : (vp_cell (G.2.2.2 t) (N0, .inl (fun j => Int32.ofInt (h.2 a0 j)))).slots.getD ((Int32.ofInt sp).toNatClampNeg + i) .null = .int (Int32.ofInt (h.2 a0 ((Int32.ofInt sp).toNatClampNeg + i))) := by
        show (arrV _ N0 _).slots.getD _ _ = _
        rw [Array.getD_eq_getD_getElem?, arrV_read _ _ (by rw [c1]; omega)]
        rfl
      refine ⟨?_, ?_⟩
      · rw [e, c1]
        exact hfit i hi
      · rw [e]
        exact trivial)
    (g := F0 m pc ls (vI n :: vI dp :: vA G a :: vI sp :: vA G a0 :: st)) rfl (by show ls.size = _; rw [hl.size, C.2.2.1]) (rest := st) rfl (by rw [C.2.1]; exact hd) (Nat.le_trans (by omega) hR.1) hlocs
  have e1 : copied (vp_cell (G.2.2.2 t) (N0, .inl (fun j => Int32.ofInt (h.2 a0 j)))) (vp_cell (G.2.2.2 t) (N1, .inl (fun j => Int32.ofInt (h.2 a j)))) (Int32.ofInt sp) (Int32.ofInt dp) (Int32.ofInt n) = vp_cell (G.2.2.2 t) (N1, .inl (fun j => Int32.ofInt (if (w32 dp).toNat ≤ j ∧ j < (w32 dp).toNat + (w32 n).toNat then h.2 a0 ((w32 sp).toNat + (j - (w32 dp).toNat)) else h.2 a j))) := by
    have ec : copied (vp_cell (G.2.2.2 t) (N0, .inl (fun j => Int32.ofInt (h.2 a0 j)))) (vp_cell (G.2.2.2 t) (N1, .inl (fun j => Int32.ofInt (h.2 a j)))) (Int32.ofInt sp) (Int32.ofInt dp) (Int32.ofInt n) = vp_cell (G.2.2.2 t) (N1, .inl (va_cpy (fun j => Int32.ofInt (h.2 a0 j)) (fun j => Int32.ofInt (h.2 a j)) (Int32.ofInt sp).toNatClampNeg (Int32.ofInt dp).toNatClampNeg (Int32.ofInt n).toNatClampNeg)) := va_copied (fun z => .int z) (G.2.2.2 t) (G.2.2.2 t) (fun j => Int32.ofInt (h.2 a0 j)) (fun j => Int32.ofInt (h.2 a j)) (by rw [c1, c3]; omega)
    rw [ec, c1, c2, c3, dn_cpy_fun]
  rw [e1] at X' step
  have hlt : G.1 + a < H.size := (Array.getElem?_eq_some_iff.mp hc1).1
  generalize hcell : vp_cell (G.2.2.2 t) (N1, .inl (fun j => Int32.ofInt (if (w32 dp).toNat ≤ j ∧ j < (w32 dp).toNat + (w32 n).toNat then h.2 a0 ((w32 sp).toNat + (j - (w32 dp).toNat)) else h.2 a j))) = cell at X' step
  have hheap : ((T.setVm vm').setCell (G.1 + a) cell).heap = H.setIfInBounds (G.1 + a) cell := by rw [← hT]; rfl
  have oq : ∀ q : Nat, q ≠ G.1 + a → (H.setIfInBounds (G.1 + a) cell)[q]? = H[q]? := fun q hq => by simp [Array.getElem?_setIfInBounds, Ne.symm hq]
  have hP := hw.1.set hD he1 (e := .inl (G.2.2.2 t, N1, .inl (fun j => Int32.ofInt (if (w32 dp).toNat ≤ j ∧ j < (w32 dp).toNat + (w32 n).toNat then h.2 a0 ((w32 sp).toNat + (j - (w32 dp).toNat)) else h.2 a j)))) (show (H.setIfInBounds (G.1 + a) cell)[G.1 + a]? = some (vp_cell _ _) by rw [hcell]; simp [Array.getElem?_setIfInBounds, hlt]) oq
  rw [hset] at hP
  have hS := hw.2.2.1
  obtain ⟨t, a1, b1⟩ := k2 _ _ (hw.put rfl (by simp) hP ⟨by simp; exact hS.1, fun q g1 g2 => by
      rw [oq q (fun e => g2 (by rw [e]; exact hD.2 a _ he1))]
      exact hS.2.1 q g1 g2, fun q hq => by
      rcases List.mem_append.mp hq with z | z
      · exact hS.2.2 q z
      · obtain ⟨z, -, hz⟩ := List.mem_map.mp z
        rw [← hz]
        exact hD.2 a _ he1⟩) _ hheap X'
  exact ⟨t, step t a1, b1⟩
theorem den_copyI {a0 a N0 N1 idx : Nat} {sp dp n M0 M1 : Int} (f : FC μ.2.2.2.2 idx) (hs0 : shp a0 = (0, N0)) (ha0 : a0 < sz h.1) (hs1 : shp a = (0, N1)) (ha : a < sz h.1) (hM0 : (N0 : Int) = M0) (hM1 : (N1 : Int) = M1) (hd2 : 2 ≤ d)
    (hq : 0 ≤ w32 sp ∧ 0 ≤ w32 dp ∧ 0 ≤ w32 n ∧ w32 sp + w32 n ≤ M0 ∧ w32 dp + w32 n ≤ M1) (hst : (st.map fun v => v.category).sum ≤ 8) (hd : decode μ.2.1 pc = .ok (.invokestatic idx, 3)) (kk : Den l G μ rv d (pc + 3) L st (cpy h a0 a (w32 sp).toNat (w32 dp).toNat (w32 n).toNat) res) : Den l G μ rv d pc L (vI n :: vI dp :: vA G a :: vI sp :: vA G a0 :: st) h res :=
  den_copy (t := 0) (ty := .int) rfl rfl aE_0 f hs0 ha0 hs1 ha hM0 hM1 hd2 hq (fun _ _ => rfl) hst hd kk
theorem den_copyB {a0 a N0 N1 idx : Nat} {sp dp n M0 M1 : Int} (f : FC μ.2.2.2.2 idx) (hs0 : shp a0 = (1, N0)) (ha0 : a0 < sz h.1) (hs1 : shp a = (1, N1)) (ha : a < sz h.1) (hM0 : (N0 : Int) = M0) (hM1 : (N1 : Int) = M1) (hd2 : 2 ≤ d)
    (hq : (0 ≤ w32 sp ∧ 0 ≤ w32 dp ∧ 0 ≤ w32 n ∧ w32 sp + w32 n ≤ M0 ∧ w32 dp + w32 n ≤ M1) ∧ ∀ i, i < (w32 n).toNat → -128 ≤ w32 (h.2 a0 ((w32 sp).toNat + i)) ∧ w32 (h.2 a0 ((w32 sp).toNat + i)) ≤ 127) (hst : (st.map fun v => v.category).sum ≤ 8) (hd : decode μ.2.1 pc = .ok (.invokestatic idx, 3)) (kk : Den l G μ rv d (pc + 3) L st (cpy h a0 a (w32 sp).toNat (w32 dp).toNat (w32 n).toNat) res) : Den l G μ rv d pc L (vI n :: vI dp :: vA G a :: vI sp :: vA G a0 :: st) h res :=
  den_copy (t := 1) (ty := .byte) rfl rfl aE_1 f hs0 ha0 hs1 ha hM0 hM1 hd2 hq.1 (fun i hi => by
    obtain ⟨g1, g2⟩ := hq.2 i hi
    show (decide (-128 ≤ Int32.ofInt _) && decide (Int32.ofInt _ ≤ 127)) = true
    rw [Bool.and_eq_true, decide_eq_true_eq, decide_eq_true_eq]
    have e1 : (-128 : Int32) = Int32.ofInt (-128) := by decide
    have e2 : (127 : Int32) = Int32.ofInt 127 := by decide
    rw [e1, e2, i32_le, i32_le]
    exact ⟨g1, g2⟩) hst hd kk
end Copy
