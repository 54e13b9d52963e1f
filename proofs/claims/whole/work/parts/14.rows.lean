/-! the rows of Den, an instruction each -/
def FA (own : String) (idx ci k : Nat) (t : Option Nat) : Prop := ∃ (C : String) (T : u_T) (N : Nat), CC[ci]? = some (C, T, N) ∧ (∀ w ∈ u_ws C T N, w ∈ tW) ∧ k < N ∧ (FT.getD ci []).length = N ∧ Cond.fieldLink own idx (T k).1 (T k).2.1 (T k).2.2.1 ∈ tW ∧ ftk ci k = t
def FP (own : String) (idx ci k : Nat) (ty : FieldType) : Prop := ∃ (C : String) (T : u_T) (N : Nat) (ty0 : Nat → FieldType), CC[ci]? = some (C, T, N) ∧ (∀ w ∈ u_ws C T N, w ∈ tW) ∧ (∀ k, k < N → parseFieldDescriptor (T k).2.2.1 = some (ty0 k)) ∧ (∀ a, a < N → ∀ b, b < N → a ≠ b → (T a).2.1 ≠ (T b).2.1) ∧ k < N ∧ (FT.getD ci []).length = N ∧ Cond.fieldLink own idx (T k).1 (T k).2.1 (T k).2.2.1 ∈ tW ∧ ftk ci k = none ∧ (T k).2.2.2 = false ∧ parseFieldDescriptor (T k).2.2.1 = some ty
theorem sz_lt {n a : Nat} (h : a < 93) : a < sz n := by unfold sz; omega
theorem lt_mono {n m a : Nat} (h : a < sz n) (hm : n ≤ m) : a < sz m := Nat.lt_of_lt_of_le h (sz_mono hm)
def wsM (μ : Mu) : List Cond := Cond.code μ.1 μ.2.1 μ.2.2.1 μ.2.2.2.1 :: tW
theorem tW_good : GoodIn tW tW := fun w h => ⟨h, good_of_word (List.mem_filter.mp h).2⟩
theorem vR_neg (G : Geo) {x : Int} (h : x < 0) : vR G x = .null := if_pos h
theorem vR_pos (G : Geo) {x : Int} (h : ¬ x < 0) : vR G x = vA G x.toNat := if_neg h
section DenRows2
variable {l : Launch} {G : Geo} {μ : Mu} {rv : Int → Option Value} {d pc : Nat} {L L2 : List (Option Value)} {st : List Value} {h : AH} {res : Option (Int × AH)}
theorem den_iconst {n : Int} (hd : decode μ.2.1 pc = .ok (.iconst n, 1)) (k : Den l G μ rv d (pc + 1) L (vI n :: st) h res) : Den l G μ rv d pc L st h res := den_go (fun _ C _ _ k => lv_iconst C.1 C.2.1 hd rfl k) k
theorem den_bipush {n : Int} (hd : decode μ.2.1 pc = .ok (.bipush n, 2)) (hv : (Int8.ofInt n).toInt32 = Int32.ofInt n) (k : Den l G μ rv d (pc + 2) L (vI n :: st) h res) : Den l G μ rv d pc L st h res := den_go (fun _ C _ _ k => lv_bipush C.1 C.2.1 hd hv k) k
theorem den_sipush {n : Int} (hd : decode μ.2.1 pc = .ok (.sipush n, 3)) (hv : (Int16.ofInt n).toInt32 = Int32.ofInt n) (k : Den l G μ rv d (pc + 3) L (vI n :: st) h res) : Den l G μ rv d pc L st h res := den_go (fun _ C _ _ k => lv_sipush C.1 C.2.1 hd hv k) k
theorem den_lconst {n : Fin 2} {x : Int} (hd : decode μ.2.1 pc = .ok (.lconst n, 1)) (hv : Int64.ofNat (n : Nat) = Int64.ofInt x) (k : Den l G μ rv d (pc + 1) L (vJ x :: st) h res) : Den l G μ rv d pc L st h res := den_go (fun _ C _ _ k => lv_lconst C.1 C.2.1 hd hv k) k
theorem den_ldc {idx : Nat} {x : Int} (hc : Cond.constant μ.2.2.2.2 idx (Int32.ofInt x) ∈ tW) (hd : decode μ.2.1 pc = .ok (.ldc idx, 2)) (k : Den l G μ rv d (pc + 2) L (vI x :: st) h res) : Den l G μ rv d pc L st h res := den_go (fun _ C _ _ k => lv_ldc C.1 C.2.1 C.2.2.2.2.2.1 (C.2.2.2.2.2.2 _ hc) hd k) k
theorem den_ldc_w {idx : Nat} {x : Int} (hc : Cond.constant μ.2.2.2.2 idx (Int32.ofInt x) ∈ tW) (hd : decode μ.2.1 pc = .ok (.ldc_w idx, 3)) (k : Den l G μ rv d (pc + 3) L (vI x :: st) h res) : Den l G μ rv d pc L st h res := den_go (fun _ C _ _ k => lv_ldcw C.1 C.2.1 C.2.2.2.2.2.1 (C.2.2.2.2.2.2 _ hc) hd k) k
theorem den_ldc2 {idx : Nat} {x : Int} (hc : Cond.constantLong μ.2.2.2.2 idx (Int64.ofInt x) ∈ tW) (hd : decode μ.2.1 pc = .ok (.ldc2_w idx, 3)) (k : Den l G μ rv d (pc + 3) L (vJ x :: st) h res) : Den l G μ rv d pc L st h res := den_go (fun _ C _ _ k => lv_ldc2 C.1 C.2.1 C.2.2.2.2.2.1 (C.2.2.2.2.2.2 _ hc) hd k) k
theorem den_null (hd : decode μ.2.1 pc = .ok (.aconst_null, 1)) (k : Den l G μ rv d (pc + 1) L (vR G (-1) :: st) h res) : Den l G μ rv d pc L st h res := den_go (fun _ C _ _ k => lv_null C.1 C.2.1 hd k) k
theorem den_iload_n {k : Fin 4} {i : Nat} {x : Int} (hd : decode μ.2.1 pc = .ok (.iload_n k, 1)) (hi : (k : Nat) = i) (hl : L[i]? = some (some (vI x))) (k2 : Den l G μ rv d (pc + 1) L (vI x :: st) h res) : Den l G μ rv d pc L st h res := den_go (fun _ C _ hL kk => lv_iload_n C.1 C.2.1 hd hi (hL.at hl) kk) k2
theorem den_iload {i : Nat} {x : Int} (hd : decode μ.2.1 pc = .ok (.iload i, 2)) (hl : L[i]? = some (some (vI x))) (k2 : Den l G μ rv d (pc + 2) L (vI x :: st) h res) : Den l G μ rv d pc L st h res := den_go (fun _ C _ hL kk => lv_iload C.1 C.2.1 hd (hL.at hl) kk) k2
theorem den_lload_n {k : Fin 4} {i : Nat} {x : Int} (hd : decode μ.2.1 pc = .ok (.lload_n k, 1)) (hi : (k : Nat) = i) (hl : L[i]? = some (some (vJ x))) (k2 : Den l G μ rv d (pc + 1) L (vJ x :: st) h res) : Den l G μ rv d pc L st h res := den_go (fun _ C _ hL kk => lv_lload_n C.1 C.2.1 hd hi (hL.at hl) kk) k2
theorem den_lload {i : Nat} {x : Int} (hd : decode μ.2.1 pc = .ok (.lload i, 2)) (hl : L[i]? = some (some (vJ x))) (k2 : Den l G μ rv d (pc + 2) L (vJ x :: st) h res) : Den l G μ rv d pc L st h res := den_go (fun _ C _ hL kk => lv_lload C.1 C.2.1 hd (hL.at hl) kk) k2
theorem den_aload_n {k : Fin 4} {i x : Nat} (hd : decode μ.2.1 pc = .ok (.aload_n k, 1)) (hi : (k : Nat) = i) (hl : L[i]? = some (some (vA G x))) (k2 : Den l G μ rv d (pc + 1) L (vA G x :: st) h res) : Den l G μ rv d pc L st h res := den_go (fun _ C _ hL kk => lv_aload_n C.1 C.2.1 hd hi (hL.at hl) kk) k2
theorem den_aload {i x : Nat} (hd : decode μ.2.1 pc = .ok (.aload i, 2)) (hl : L[i]? = some (some (vA G x))) (k2 : Den l G μ rv d (pc + 2) L (vA G x :: st) h res) : Den l G μ rv d pc L st h res := den_go (fun _ C _ hL kk => lv_aload C.1 C.2.1 hd (hL.at hl) kk) k2
theorem den_aloadS_n {k : Fin 4} {i x : Nat} (hd : decode μ.2.1 pc = .ok (.aload_n k, 1)) (hi : (k : Nat) = i) (hl : L[i]? = some (some (vS G x))) (k2 : Den l G μ rv d (pc + 1) L (vS G x :: st) h res) : Den l G μ rv d pc L st h res := den_go (fun _ C _ hL kk => lv_aload_n C.1 C.2.1 hd hi (hL.at hl) kk) k2
theorem den_aloadR_n {k : Fin 4} {i : Nat} {x : Int} (hd : decode μ.2.1 pc = .ok (.aload_n k, 1)) (hi : (k : Nat) = i) (hl : L[i]? = some (some (vR G x))) (k2 : Den l G μ rv d (pc + 1) L (vR G x :: st) h res) : Den l G μ rv d pc L st h res := den_go (fun _ C _ hL kk => by
  have h0 := hL.at hl
  by_cases hx : x < 0
  · rw [vR_neg G hx] at h0 kk
    exact lv_aload_nN C.1 C.2.1 hd hi h0 kk
  · rw [vR_pos G hx] at h0 kk
    exact lv_aload_n C.1 C.2.1 hd hi h0 kk) k2
theorem den_aloadR {i : Nat} {x : Int} (hd : decode μ.2.1 pc = .ok (.aload i, 2)) (hl : L[i]? = some (some (vR G x))) (k2 : Den l G μ rv d (pc + 2) L (vR G x :: st) h res) : Den l G μ rv d pc L st h res := den_go (fun _ C _ hL kk => by
  have h0 := hL.at hl
  by_cases hx : x < 0
  · rw [vR_neg G hx] at h0 kk
    exact lv_aloadN C.1 C.2.1 hd h0 kk
  · rw [vR_pos G hx] at h0 kk
    exact lv_aload C.1 C.2.1 hd h0 kk) k2
theorem Lv_st1 {ls : Array Slot} {n i : Nat} {v : Value} {L L2 : List (Option Value)} (h : lv_has ls n ((i, v) :: (lvl L).filter (fun q => !(q.1 == i) && !(q.1 + 1 == i && q.2.category == 2)))) (hL : st1 L i v = L2) : Lv ls n L2 := Lv.weak h (fun j u hu => by rw [← hL] at hu; exact st1_mem hu)
theorem Lv_st2 {ls : Array Slot} {n i : Nat} {v : Value} {L L2 : List (Option Value)} (h : lv_has ls n ((i, v) :: (lvl L).filter (fun q => !(q.1 == i) && (!(q.1 == i + 1) && !(q.1 + 1 == i && q.2.category == 2))))) (hL : st2 L i v = L2) : Lv ls n L2 := Lv.weak h (fun j u hu => by rw [← hL] at hu; exact st2_mem hu)
theorem den_istore_n {k : Fin 4} {i : Nat} {x : Int} (hd : decode μ.2.1 pc = .ok (.istore_n k, 1)) (hi : (k : Nat) = i) (hn : i < μ.2.2.1) (hL : st1 L i (vI x) = L2) (k2 : Den l G μ rv d (pc + 1) L2 st h res) : Den l G μ rv d pc L (vI x :: st) h res := den_goL (fun _ C hl kk => lv_istore_n C.1 C.2.1 hd hi hl hn rfl (fun ls h1 => kk ls (Lv_st1 h1 hL))) k2
theorem den_istore {i : Nat} {x : Int} (hd : decode μ.2.1 pc = .ok (.istore i, 2)) (hn : i < μ.2.2.1) (hL : st1 L i (vI x) = L2) (k2 : Den l G μ rv d (pc + 2) L2 st h res) : Den l G μ rv d pc L (vI x :: st) h res := den_goL (fun _ C hl kk => lv_istore C.1 C.2.1 hd hl hn rfl (fun ls h1 => kk ls (Lv_st1 h1 hL))) k2
theorem den_lstore_n {k : Fin 4} {i : Nat} {x : Int} (hd : decode μ.2.1 pc = .ok (.lstore_n k, 1)) (hi : (k : Nat) = i) (hn : i + 1 < μ.2.2.1) (hL : st2 L i (vJ x) = L2) (k2 : Den l G μ rv d (pc + 1) L2 st h res) : Den l G μ rv d pc L (vJ x :: st) h res := den_goL (fun _ C hl kk => lv_lstore_n C.1 C.2.1 hd hi hl hn rfl (fun ls h1 => kk ls (Lv_st2 h1 hL))) k2
theorem den_lstore {i : Nat} {x : Int} (hd : decode μ.2.1 pc = .ok (.lstore i, 2)) (hn : i + 1 < μ.2.2.1) (hL : st2 L i (vJ x) = L2) (k2 : Den l G μ rv d (pc + 2) L2 st h res) : Den l G μ rv d pc L (vJ x :: st) h res := den_goL (fun _ C hl kk => lv_lstore C.1 C.2.1 hd hl hn rfl (fun ls h1 => kk ls (Lv_st2 h1 hL))) k2
theorem den_astore_n {k : Fin 4} {i : Nat} {x : Nat} (hd : decode μ.2.1 pc = .ok (.astore_n k, 1)) (hi : (k : Nat) = i) (hn : i < μ.2.2.1) (hL : st1 L i (vA G x) = L2) (k2 : Den l G μ rv d (pc + 1) L2 st h res) : Den l G μ rv d pc L (vA G x :: st) h res := den_goL (fun _ C hl kk => lv_astore_n C.1 C.2.1 hd hi hl hn rfl (fun ls h1 => kk ls (Lv_st1 h1 hL))) k2
theorem den_astore {i : Nat} {x : Nat} (hd : decode μ.2.1 pc = .ok (.astore i, 2)) (hn : i < μ.2.2.1) (hL : st1 L i (vA G x) = L2) (k2 : Den l G μ rv d (pc + 2) L2 st h res) : Den l G μ rv d pc L (vA G x :: st) h res := den_goL (fun _ C hl kk => lv_astore C.1 C.2.1 hd hl hn rfl (fun ls h1 => kk ls (Lv_st1 h1 hL))) k2
theorem den_astoreR_n {k : Fin 4} {i : Nat} {x : Int} (hd : decode μ.2.1 pc = .ok (.astore_n k, 1)) (hi : (k : Nat) = i) (hn : i < μ.2.2.1) (hL : st1 L i (vR G x) = L2) (k2 : Den l G μ rv d (pc + 1) L2 st h res) : Den l G μ rv d pc L (vR G x :: st) h res := den_goL (fun _ C hl kk => by
  by_cases hx : x < 0
  · rw [vR_neg G hx] at hL ⊢
    exact lv_astore_nN C.1 C.2.1 hd hi hl hn rfl (fun ls h1 => kk ls (Lv_st1 h1 hL))
  · rw [vR_pos G hx] at hL ⊢
    exact lv_astore_n C.1 C.2.1 hd hi hl hn rfl (fun ls h1 => kk ls (Lv_st1 h1 hL))) k2
theorem den_astoreR {i : Nat} {x : Int} (hd : decode μ.2.1 pc = .ok (.astore i, 2)) (hn : i < μ.2.2.1) (hL : st1 L i (vR G x) = L2) (k2 : Den l G μ rv d (pc + 2) L2 st h res) : Den l G μ rv d pc L (vR G x :: st) h res := den_goL (fun _ C hl kk => by
  by_cases hx : x < 0
  · rw [vR_neg G hx] at hL ⊢
    exact lv_astoreN C.1 C.2.1 hd hl hn rfl (fun ls h1 => kk ls (Lv_st1 h1 hL))
  · rw [vR_pos G hx] at hL ⊢
    exact lv_astore C.1 C.2.1 hd hl hn rfl (fun ls h1 => kk ls (Lv_st1 h1 hL))) k2
theorem den_iinc {i : Nat} {n x : Int} (hd : decode μ.2.1 pc = .ok (.iinc i n, 3)) (hn : i < μ.2.2.1) (hl : L[i]? = some (some (vI x))) (hL : st1 L i (vI (x + n)) = L2) (k2 : Den l G μ rv d (pc + 3) L2 st h res) : Den l G μ rv d pc L st h res := den_goL (fun _ C hv kk => by
  obtain ⟨q, hq⟩ := List.getElem?_of_mem (mem_lvl.mpr hl)
  exact lv_iinc C.1 C.2.1 hd hv hq (i32_add x n) hn rfl (fun ls h1 => kk ls (Lv_st1 h1 hL))) k2
theorem den_iadd {x y : Int} (hd : decode μ.2.1 pc = .ok (.iadd, 1)) (k : Den l G μ rv d (pc + 1) L (vI (x + y) :: st) h res) : Den l G μ rv d pc L (vI y :: vI x :: st) h res := den_go (fun _ C _ _ k => lv_iadd C.1 C.2.1 hd (by rw [i32_add]; exact k)) k
theorem den_isub {x y : Int} (hd : decode μ.2.1 pc = .ok (.isub, 1)) (k : Den l G μ rv d (pc + 1) L (vI (x - y) :: st) h res) : Den l G μ rv d pc L (vI y :: vI x :: st) h res := den_go (fun _ C _ _ k => lv_isub C.1 C.2.1 hd (by rw [i32_sub]; exact k)) k
theorem den_imul {x y : Int} (hd : decode μ.2.1 pc = .ok (.imul, 1)) (k : Den l G μ rv d (pc + 1) L (vI (x * y) :: st) h res) : Den l G μ rv d pc L (vI y :: vI x :: st) h res := den_go (fun _ C _ _ k => lv_imul C.1 C.2.1 hd (by rw [i32_mul]; exact k)) k
theorem den_ladd {x y : Int} (hd : decode μ.2.1 pc = .ok (.ladd, 1)) (k : Den l G μ rv d (pc + 1) L (vJ (x + y) :: st) h res) : Den l G μ rv d pc L (vJ y :: vJ x :: st) h res := den_go (fun _ C _ _ k => lv_ladd C.1 C.2.1 hd (by rw [i64_add]; exact k)) k
theorem den_lsub {x y : Int} (hd : decode μ.2.1 pc = .ok (.lsub, 1)) (k : Den l G μ rv d (pc + 1) L (vJ (x - y) :: st) h res) : Den l G μ rv d pc L (vJ y :: vJ x :: st) h res := den_go (fun _ C _ _ k => lv_lsub C.1 C.2.1 hd (by rw [i64_sub]; exact k)) k
theorem den_lmul {x y : Int} (hd : decode μ.2.1 pc = .ok (.lmul, 1)) (k : Den l G μ rv d (pc + 1) L (vJ (x * y) :: st) h res) : Den l G μ rv d pc L (vJ y :: vJ x :: st) h res := den_go (fun _ C _ _ k => lv_lmul C.1 C.2.1 hd (by rw [i64_mul]; exact k)) k
theorem den_ineg {x : Int} (hd : decode μ.2.1 pc = .ok (.ineg, 1)) (k : Den l G μ rv d (pc + 1) L (vI (-x) :: st) h res) : Den l G μ rv d pc L (vI x :: st) h res := den_go (fun _ C _ _ k => lv_ineg C.1 C.2.1 hd (by rw [i32_neg]; exact k)) k
theorem den_iand {x y : Int} (hd : decode μ.2.1 pc = .ok (.iand, 1)) (k : Den l G μ rv d (pc + 1) L (vI (and32 x y) :: st) h res) : Den l G μ rv d pc L (vI y :: vI x :: st) h res := den_go (fun _ C _ _ k => lv_iand C.1 C.2.1 hd (by rw [show vI (and32 x y) = _ from congrArg Value.int (Int32.ofInt_toInt _)] at k; exact k)) k
theorem den_ior {x y : Int} (hd : decode μ.2.1 pc = .ok (.ior, 1)) (k : Den l G μ rv d (pc + 1) L (vI (or32 x y) :: st) h res) : Den l G μ rv d pc L (vI y :: vI x :: st) h res := den_go (fun _ C _ _ k => lv_ior C.1 C.2.1 hd (by rw [show vI (or32 x y) = _ from congrArg Value.int (Int32.ofInt_toInt _)] at k; exact k)) k
theorem den_ixor {x y : Int} (hd : decode μ.2.1 pc = .ok (.ixor, 1)) (k : Den l G μ rv d (pc + 1) L (vI (xor32 x y) :: st) h res) : Den l G μ rv d pc L (vI y :: vI x :: st) h res := den_go (fun _ C _ _ k => lv_ixor C.1 C.2.1 hd (by rw [show vI (xor32 x y) = _ from congrArg Value.int (Int32.ofInt_toInt _)] at k; exact k)) k
theorem den_ishl {x y : Int} (hd : decode μ.2.1 pc = .ok (.ishl, 1)) (k : Den l G μ rv d (pc + 1) L (vI (shl32 x y) :: st) h res) : Den l G μ rv d pc L (vI y :: vI x :: st) h res := den_go (fun _ C _ _ k => lv_ishl C.1 C.2.1 hd (by rw [show vI (shl32 x y) = _ from congrArg Value.int (Int32.ofInt_toInt _)] at k; exact k)) k
theorem den_ishr {x y : Int} (hd : decode μ.2.1 pc = .ok (.ishr, 1)) (k : Den l G μ rv d (pc + 1) L (vI (shr32 x y) :: st) h res) : Den l G μ rv d pc L (vI y :: vI x :: st) h res := den_go (fun _ C _ _ k => lv_ishr C.1 C.2.1 hd (by rw [show vI (shr32 x y) = _ from congrArg Value.int (Int32.ofInt_toInt _)] at k; exact k)) k
theorem den_iushr {x y : Int} (hd : decode μ.2.1 pc = .ok (.iushr, 1)) (k : Den l G μ rv d (pc + 1) L (vI (ush32 x y) :: st) h res) : Den l G μ rv d pc L (vI y :: vI x :: st) h res := den_go (fun _ C _ _ k => lv_iushr C.1 C.2.1 hd (by unfold ush32; rw [Int32.ofInt_toInt]) k) k
theorem den_idiv {x y : Int} (hd : decode μ.2.1 pc = .ok (.idiv, 1)) (hy : ¬ w32 y = 0) (k : Den l G μ rv d (pc + 1) L (vI (dv32 x y) :: st) h res) : Den l G μ rv d pc L (vI y :: vI x :: st) h res := den_go (fun _ C _ _ k => lv_idiv C.1 C.2.1 hd (fun q => hy (i32_eq0.mp q)) (by rw [i32_div]; exact k)) k
theorem den_irem {x y : Int} (hd : decode μ.2.1 pc = .ok (.irem, 1)) (hy : ¬ w32 y = 0) (k : Den l G μ rv d (pc + 1) L (vI (rm32 x y) :: st) h res) : Den l G μ rv d pc L (vI y :: vI x :: st) h res := den_go (fun _ C _ _ k => lv_irem C.1 C.2.1 hd (fun q => hy (i32_eq0.mp q)) (by rw [i32_rem]; exact k)) k
theorem den_ldiv {x y : Int} (hd : decode μ.2.1 pc = .ok (.ldiv, 1)) (hy : ¬ w64 y = 0) (k : Den l G μ rv d (pc + 1) L (vJ (dv64 x y) :: st) h res) : Den l G μ rv d pc L (vJ y :: vJ x :: st) h res := den_go (fun _ C _ _ k => lv_ldiv C.1 C.2.1 hd (fun q => hy (i64_eq0.mp q)) (by rw [i64_div]; exact k)) k
theorem den_lrem {x y : Int} (hd : decode μ.2.1 pc = .ok (.lrem, 1)) (hy : ¬ w64 y = 0) (k : Den l G μ rv d (pc + 1) L (vJ (rm64 x y) :: st) h res) : Den l G μ rv d pc L (vJ y :: vJ x :: st) h res := den_go (fun _ C _ _ k => lv_lrem C.1 C.2.1 hd (fun q => hy (i64_eq0.mp q)) (by rw [i64_rem]; exact k)) k
theorem den_lcmp {x y : Int} (hd : decode μ.2.1 pc = .ok (.lcmp, 1)) (k : Den l G μ rv d (pc + 1) L (vI (cmp64 x y) :: st) h res) : Den l G μ rv d pc L (vJ y :: vJ x :: st) h res := den_go (fun _ C _ _ k => W.lcmp C.1 C.2.1 hd (by rw [i32_cmp]; exact k)) k
theorem den_i2l {x : Int} (hd : decode μ.2.1 pc = .ok (.i2l, 1)) (k : Den l G μ rv d (pc + 1) L (vJ (w32 x) :: st) h res) : Den l G μ rv d pc L (vI x :: st) h res := den_go (fun _ C _ _ k => lv_i2l C.1 C.2.1 hd (i32_i2l x) k) k
theorem den_i2b {x : Int} (hd : decode μ.2.1 pc = .ok (.i2b, 1)) (k : Den l G μ rv d (pc + 1) L (vI (i2b x) :: st) h res) : Den l G μ rv d pc L (vI x :: st) h res := den_go (fun _ C _ _ k => lv_i2b C.1 C.2.1 hd (i32_i2b x) k) k
theorem den_dup {v : Value} (hd : decode μ.2.1 pc = .ok (.dup, 1)) (hv : v.category = 1) (k : Den l G μ rv d (pc + 1) L (v :: v :: st) h res) : Den l G μ rv d pc L (v :: st) h res := den_go (fun _ C _ _ k => lv_dup C.1 C.2.1 hd hv k) k
theorem den_dup2 {v u : Value} (hd : decode μ.2.1 pc = .ok (.dup2, 1)) (hv : v.category = 1) (hu : u.category = 1) (k : Den l G μ rv d (pc + 1) L (v :: u :: v :: u :: st) h res) : Den l G μ rv d pc L (v :: u :: st) h res := den_go (fun _ C _ _ k => lv_dup2_11 C.1 C.2.1 hd hv hu k) k
theorem den_pop {v : Value} (hd : decode μ.2.1 pc = .ok (.pop, 1)) (hv : v.category = 1) (k : Den l G μ rv d (pc + 1) L st h res) : Den l G μ rv d pc L (v :: st) h res := den_go (fun _ C _ _ k => lv_pop C.1 C.2.1 hd hv k) k
theorem den_icmp_eq {x y X Y : Int} {off : Int} {tgt : Nat} {rt rf : Option (Int × AH)} (hd : decode μ.2.1 pc = .ok (.if_icmp .eq off, 3)) (ht : (pc : Int) + off = (tgt : Int)) (hX : w32 x = X) (hY : w32 y = Y) (kt : X = Y → Den l G μ rv d tgt L st h rt) (kf : ¬ (X = Y) → Den l G μ rv d (pc + 3) L st h rf) : Den l G μ rv d pc L (vI y :: vI x :: st) h (if X = Y then rt else rf) := by
  subst hX; subst hY
  exact den_br (fun _ C kt kf => lv_icmp_eq C.1 C.2.1 hd ht (fun q => kt (by rw [i32_eq] at q; exact q)) (fun q => kf (by rw [i32_eq] at q; first | exact q | exact fun z => z q))) kt kf
theorem den_if_eq {x X : Int} {off : Int} {tgt : Nat} {rt rf : Option (Int × AH)} (hd : decode μ.2.1 pc = .ok (.ifCond .eq off, 3)) (ht : (pc : Int) + off = (tgt : Int)) (hX : w32 x = X) (kt : X = 0 → Den l G μ rv d tgt L st h rt) (kf : ¬ (X = 0) → Den l G μ rv d (pc + 3) L st h rf) : Den l G μ rv d pc L (vI x :: st) h (if X = 0 then rt else rf) := by
  subst hX
  exact den_br (fun _ C kt kf => lv_if_eq C.1 C.2.1 hd ht (fun q => kt (by rw [i32_eq0] at q; exact q)) (fun q => kf (by rw [i32_eq0] at q; first | exact q | exact fun z => z q))) kt kf
theorem den_icmp_ne {x y X Y : Int} {off : Int} {tgt : Nat} {rt rf : Option (Int × AH)} (hd : decode μ.2.1 pc = .ok (.if_icmp .ne off, 3)) (ht : (pc : Int) + off = (tgt : Int)) (hX : w32 x = X) (hY : w32 y = Y) (kt : ¬ X = Y → Den l G μ rv d tgt L st h rt) (kf : ¬ (¬ X = Y) → Den l G μ rv d (pc + 3) L st h rf) : Den l G μ rv d pc L (vI y :: vI x :: st) h (if ¬ X = Y then rt else rf) := by
  subst hX; subst hY
  exact den_br (fun _ C kt kf => lv_icmp_ne C.1 C.2.1 hd ht (fun q => kt (by rw [i32_eq] at q; exact q)) (fun q => kf (by rw [i32_eq] at q; first | exact q | exact fun z => z q))) kt kf
theorem den_if_ne {x X : Int} {off : Int} {tgt : Nat} {rt rf : Option (Int × AH)} (hd : decode μ.2.1 pc = .ok (.ifCond .ne off, 3)) (ht : (pc : Int) + off = (tgt : Int)) (hX : w32 x = X) (kt : ¬ X = 0 → Den l G μ rv d tgt L st h rt) (kf : ¬ (¬ X = 0) → Den l G μ rv d (pc + 3) L st h rf) : Den l G μ rv d pc L (vI x :: st) h (if ¬ X = 0 then rt else rf) := by
  subst hX
  exact den_br (fun _ C kt kf => lv_if_ne C.1 C.2.1 hd ht (fun q => kt (by rw [i32_eq0] at q; exact q)) (fun q => kf (by rw [i32_eq0] at q; first | exact q | exact fun z => z q))) kt kf
theorem den_icmp_lt {x y X Y : Int} {off : Int} {tgt : Nat} {rt rf : Option (Int × AH)} (hd : decode μ.2.1 pc = .ok (.if_icmp .lt off, 3)) (ht : (pc : Int) + off = (tgt : Int)) (hX : w32 x = X) (hY : w32 y = Y) (kt : X < Y → Den l G μ rv d tgt L st h rt) (kf : ¬ (X < Y) → Den l G μ rv d (pc + 3) L st h rf) : Den l G μ rv d pc L (vI y :: vI x :: st) h (if X < Y then rt else rf) := by
  subst hX; subst hY
  exact den_br (fun _ C kt kf => lv_icmp_lt C.1 C.2.1 hd ht (fun q => kt (by rw [i32_lt] at q; exact q)) (fun q => kf (by rw [i32_lt] at q; first | exact q | exact fun z => z q))) kt kf
theorem den_if_lt {x X : Int} {off : Int} {tgt : Nat} {rt rf : Option (Int × AH)} (hd : decode μ.2.1 pc = .ok (.ifCond .lt off, 3)) (ht : (pc : Int) + off = (tgt : Int)) (hX : w32 x = X) (kt : X < 0 → Den l G μ rv d tgt L st h rt) (kf : ¬ (X < 0) → Den l G μ rv d (pc + 3) L st h rf) : Den l G μ rv d pc L (vI x :: st) h (if X < 0 then rt else rf) := by
  subst hX
  exact den_br (fun _ C kt kf => lv_if_lt C.1 C.2.1 hd ht (fun q => kt (by rw [i32_lt0] at q; exact q)) (fun q => kf (by rw [i32_lt0] at q; first | exact q | exact fun z => z q))) kt kf
theorem den_icmp_ge {x y X Y : Int} {off : Int} {tgt : Nat} {rt rf : Option (Int × AH)} (hd : decode μ.2.1 pc = .ok (.if_icmp .ge off, 3)) (ht : (pc : Int) + off = (tgt : Int)) (hX : w32 x = X) (hY : w32 y = Y) (kt : Y ≤ X → Den l G μ rv d tgt L st h rt) (kf : ¬ (Y ≤ X) → Den l G μ rv d (pc + 3) L st h rf) : Den l G μ rv d pc L (vI y :: vI x :: st) h (if Y ≤ X then rt else rf) := by
  subst hX; subst hY
  exact den_br (fun _ C kt kf => lv_icmp_ge C.1 C.2.1 hd ht (fun q => kt (by rw [i32_le] at q; exact q)) (fun q => kf (by rw [i32_le] at q; first | exact q | exact fun z => z q))) kt kf
theorem den_if_ge {x X : Int} {off : Int} {tgt : Nat} {rt rf : Option (Int × AH)} (hd : decode μ.2.1 pc = .ok (.ifCond .ge off, 3)) (ht : (pc : Int) + off = (tgt : Int)) (hX : w32 x = X) (kt : 0 ≤ X → Den l G μ rv d tgt L st h rt) (kf : ¬ (0 ≤ X) → Den l G μ rv d (pc + 3) L st h rf) : Den l G μ rv d pc L (vI x :: st) h (if 0 ≤ X then rt else rf) := by
  subst hX
  exact den_br (fun _ C kt kf => lv_if_ge C.1 C.2.1 hd ht (fun q => kt (by rw [i32_0le] at q; exact q)) (fun q => kf (by rw [i32_0le] at q; first | exact q | exact fun z => z q))) kt kf
theorem den_icmp_gt {x y X Y : Int} {off : Int} {tgt : Nat} {rt rf : Option (Int × AH)} (hd : decode μ.2.1 pc = .ok (.if_icmp .gt off, 3)) (ht : (pc : Int) + off = (tgt : Int)) (hX : w32 x = X) (hY : w32 y = Y) (kt : Y < X → Den l G μ rv d tgt L st h rt) (kf : ¬ (Y < X) → Den l G μ rv d (pc + 3) L st h rf) : Den l G μ rv d pc L (vI y :: vI x :: st) h (if Y < X then rt else rf) := by
  subst hX; subst hY
  exact den_br (fun _ C kt kf => lv_icmp_gt C.1 C.2.1 hd ht (fun q => kt (by rw [i32_lt] at q; exact q)) (fun q => kf (by rw [i32_lt] at q; first | exact q | exact fun z => z q))) kt kf
theorem den_if_gt {x X : Int} {off : Int} {tgt : Nat} {rt rf : Option (Int × AH)} (hd : decode μ.2.1 pc = .ok (.ifCond .gt off, 3)) (ht : (pc : Int) + off = (tgt : Int)) (hX : w32 x = X) (kt : 0 < X → Den l G μ rv d tgt L st h rt) (kf : ¬ (0 < X) → Den l G μ rv d (pc + 3) L st h rf) : Den l G μ rv d pc L (vI x :: st) h (if 0 < X then rt else rf) := by
  subst hX
  exact den_br (fun _ C kt kf => lv_if_gt C.1 C.2.1 hd ht (fun q => kt (by rw [i32_0lt] at q; exact q)) (fun q => kf (by rw [i32_0lt] at q; first | exact q | exact fun z => z q))) kt kf
theorem den_icmp_le {x y X Y : Int} {off : Int} {tgt : Nat} {rt rf : Option (Int × AH)} (hd : decode μ.2.1 pc = .ok (.if_icmp .le off, 3)) (ht : (pc : Int) + off = (tgt : Int)) (hX : w32 x = X) (hY : w32 y = Y) (kt : X ≤ Y → Den l G μ rv d tgt L st h rt) (kf : ¬ (X ≤ Y) → Den l G μ rv d (pc + 3) L st h rf) : Den l G μ rv d pc L (vI y :: vI x :: st) h (if X ≤ Y then rt else rf) := by
  subst hX; subst hY
  exact den_br (fun _ C kt kf => lv_icmp_le C.1 C.2.1 hd ht (fun q => kt (by rw [i32_le] at q; exact q)) (fun q => kf (by rw [i32_le] at q; first | exact q | exact fun z => z q))) kt kf
theorem den_if_le {x X : Int} {off : Int} {tgt : Nat} {rt rf : Option (Int × AH)} (hd : decode μ.2.1 pc = .ok (.ifCond .le off, 3)) (ht : (pc : Int) + off = (tgt : Int)) (hX : w32 x = X) (kt : X ≤ 0 → Den l G μ rv d tgt L st h rt) (kf : ¬ (X ≤ 0) → Den l G μ rv d (pc + 3) L st h rf) : Den l G μ rv d pc L (vI x :: st) h (if X ≤ 0 then rt else rf) := by
  subst hX
  exact den_br (fun _ C kt kf => lv_if_le C.1 C.2.1 hd ht (fun q => kt (by rw [i32_le0] at q; exact q)) (fun q => kf (by rw [i32_le0] at q; first | exact q | exact fun z => z q))) kt kf
theorem den_goto {off : Int} {tgt : Nat} (hd : decode μ.2.1 pc = .ok (.goto off, 3)) (ht : (pc : Int) + off = (tgt : Int)) (k : Den l G μ rv d tgt L st h res) : Den l G μ rv d pc L st h res := den_go (fun _ C _ _ k => lv_goto C.1 C.2.1 hd ht k) k
theorem den_ifnull {x : Int} {off : Int} {tgt : Nat} {rt rf : Option (Int × AH)} (hd : decode μ.2.1 pc = .ok (.ifnull off, 3)) (ht : (pc : Int) + off = (tgt : Int)) (kt : x < 0 → Den l G μ rv d tgt L st h rt) (kf : ¬ x < 0 → Den l G μ rv d (pc + 3) L st h rf) : Den l G μ rv d pc L (vR G x :: st) h (if x < 0 then rt else rf) :=
  den_br (fun _ C kt kf => by
    by_cases hx : x < 0
    · rw [vR_neg G hx]
      exact lv_ifnullN C.1 C.2.1 hd ht (kt hx)
    · rw [vR_pos G hx]
      exact lv_ifnull C.1 C.2.1 hd (kf hx)) kt kf
theorem den_ifnonnull {x : Int} {off : Int} {tgt : Nat} {rt rf : Option (Int × AH)} (hd : decode μ.2.1 pc = .ok (.ifnonnull off, 3)) (ht : (pc : Int) + off = (tgt : Int)) (kt : x < 0 → Den l G μ rv d (pc + 3) L st h rt) (kf : ¬ x < 0 → Den l G μ rv d tgt L st h rf) : Den l G μ rv d pc L (vR G x :: st) h (if x < 0 then rt else rf) :=
  den_br (fun _ C kt kf => by
    by_cases hx : x < 0
    · rw [vR_neg G hx]
      exact lv_ifnonnullN C.1 C.2.1 hd (kt hx)
    · rw [vR_pos G hx]
      exact lv_ifnonnull C.1 C.2.1 hd ht (kf hx)) kt kf
theorem den_tableOut {dflt lo hi : Int} {offs : Array Int} {len tgt : Nat} {x : Int} (hd : decode μ.2.1 pc = .ok (.tableswitch dflt lo hi offs, len)) (h : w32 x < lo ∨ hi < w32 x) (ht : (pc : Int) + dflt = (tgt : Int)) {hh : AH} (k : Den l G μ rv d tgt L st hh res) : Den l G μ rv d pc L (vI x :: st) hh res := den_go (fun _ C _ _ k => lv_tableOut C.1 C.2.1 hd (by rw [w32_toInt]; exact h) ht k) k
theorem den_tableIn {dflt lo hi : Int} {offs : Array Int} {len tgt : Nat} {x off : Int} (hd : decode μ.2.1 pc = .ok (.tableswitch dflt lo hi offs, len)) (h1 : ¬ w32 x < lo) (h2 : ¬ hi < w32 x) (ho : offs[(w32 x - lo).toNat]? = some off) (ht : (pc : Int) + off = (tgt : Int)) (k : Den l G μ rv d tgt L st h res) : Den l G μ rv d pc L (vI x :: st) h res := den_go (fun _ C _ _ k => lv_tableIn C.1 C.2.1 hd (by rw [w32_toInt]; exact h1) (by rw [w32_toInt]; exact h2) (by rw [w32_toInt]; exact ho) ht k) k
theorem den_lookup {dflt : Int} {ps : Array (Int × Int)} {len tgt : Nat} {x off : Int} (hd : decode μ.2.1 pc = .ok (.lookupswitch dflt ps, len)) (hp : (ps.toList.zip (ps.toList.drop 1)).all (fun (a, next) => a.1 < next.1) = true) (ho : Op.lookupswitch.offset ps.toList dflt (w32 x) = off) (ht : (pc : Int) + off = (tgt : Int)) (k : Den l G μ rv d tgt L st h res) : Den l G μ rv d pc L (vI x :: st) h res := den_go (fun _ C _ _ k => lv_lookup C.1 C.2.1 hd hp (by rw [w32_toInt]; exact ho) ht k) k
theorem den_ite {c : Prop} [Decidable c] {rt rf : Option (Int × AH)} (kt : c → Den l G μ rv d pc L st h rt) (kf : ¬ c → Den l G μ rv d pc L st h rf) : Den l G μ rv d pc L st h (if c then rt else rf) := by
  by_cases hc : c
  · rw [if_pos hc]; exact kt hc
  · rw [if_neg hc]; exact kf hc
theorem den_getI {a idx ci k : Nat} (f : FA μ.2.2.2.2 idx ci k none) (hok : ok h.1 a ci) (hd : decode μ.2.1 pc = .ok (.getfield idx, 3)) (kk : Den l G μ rv d (pc + 3) L (vI (h.2 a k) :: st) h res) : Den l G μ rv d pc L (vA G a :: st) h res := by
  obtain ⟨C, T, N, f1, f2, f3, f4, f5, f6⟩ := f
  have hs : shp a = (ci + 10, N) := by rw [hok.2, f4]
  refine den_go (fun _ Cc hw _ k2 => ?_) kk
  exact va_get (D := G.2.2.1) (ci := ci) (v := vI (h.2 a k)) (C := C) (T := T) (N := N) Cc.1 Cc.2.1 Cc.2.2.2.2.2.2 f2 Cc.2.2.2.2.2.1 hw.2.1 hw.1 a (by rw [aW_get G h hok.1, aE_obj hs]) f1 k f3 (Cc.2.2.2.2.2.2 _ f5) (fun _ q => q) (by rw [aF_get _ _ _ (by rw [hs]; exact f3), hs]; show some (fv G a (ftk (ci + 10 - 10) k) _) = _; rw [Nat.add_sub_cancel, f6]; rfl) hd k2
theorem den_getR {a b idx ci k off : Nat} (f : FA μ.2.2.2.2 idx ci k (some off)) (hok : ok h.1 a ci) (hb : a + off = b) (hd : decode μ.2.1 pc = .ok (.getfield idx, 3)) (kk : Den l G μ rv d (pc + 3) L (vA G b :: st) h res) : Den l G μ rv d pc L (vA G a :: st) h res := by
  obtain ⟨C, T, N, f1, f2, f3, f4, f5, f6⟩ := f
  have hs : shp a = (ci + 10, N) := by rw [hok.2, f4]
  subst hb
  refine den_go (fun _ Cc hw _ k2 => ?_) kk
  exact va_get (D := G.2.2.1) (ci := ci) (v := vA G (a + off)) (C := C) (T := T) (N := N) Cc.1 Cc.2.1 Cc.2.2.2.2.2.2 f2 Cc.2.2.2.2.2.1 hw.2.1 hw.1 a (by rw [aW_get G h hok.1, aE_obj hs]) f1 k f3 (Cc.2.2.2.2.2.2 _ f5) (fun _ q => q) (by rw [aF_get _ _ _ (by rw [hs]; exact f3), hs]; show some (fv G a (ftk (ci + 10 - 10) k) _) = _; rw [Nat.add_sub_cancel, f6]; rfl) hd k2

end DenRows2
