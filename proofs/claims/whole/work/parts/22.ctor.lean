/-! making objects: the heap as a row of cells from G.1 on -/
def eSl (e : va_E) : Nat := match e with
  | .inl a => a.2.1
  | .inr o => o.2.length
def tsl (es : List va_E) : Nat := (es.map eSl).sum
def rW (G : Geo) (es : List va_E) : va_W := es.zipIdx.map (fun q => (G.1 + q.2, q.1))
theorem tsl_app (a b : List va_E) : tsl (a ++ b) = tsl a + tsl b := by unfold tsl; rw [List.map_append, List.sum_append]
theorem rW_get (G : Geo) (es : List va_E) (i : Nat) : (rW G es)[i]? = es[i]?.map (fun e => (G.1 + i, e)) := by
  unfold rW
  rw [List.getElem?_map, List.getElem?_zipIdx]
  cases es[i]? <;> simp
theorem rW_len (G : Geo) (es : List va_E) : (rW G es).length = es.length := by unfold rW; rw [List.length_map, List.length_zipIdx]
theorem rW_inv {G : Geo} {es : List va_E} {i : Nat} {q : Nat × va_E} (h : (rW G es)[i]? = some q) : q.1 = G.1 + i ∧ es[i]? = some q.2 := by
  rw [rW_get] at h
  cases he : es[i]? with
  | none => rw [he] at h; cases h
  | some e => rw [he] at h; cases h; exact ⟨rfl, rfl⟩
theorem rW_D (G : Geo) (es : List va_E) : va_D (gA G) (rW G es) := by
  refine ⟨fun i j p q hp hq e => ?_, fun k q hq => ?_⟩
  · have h1 := (rW_inv hp).1
    have h2 := (rW_inv hq).1
    omega
  · show G.1 ≤ q.1
    rw [(rW_inv hq).1]
    exact Nat.le_add_right _ _
theorem rW_set (G : Geo) (es : List va_E) (i : Nat) (e : va_E) : (rW G es).set i (G.1 + i, e) = rW G (es.set i e) := by
  apply List.ext_getElem?
  intro j
  rw [List.getElem?_set, rW_get, rW_get, List.getElem?_set, rW_len]
  by_cases h : i = j
  · subst h
    rw [if_pos rfl, if_pos rfl]
    split <;> rfl
  · rw [if_neg h, if_neg h]
theorem rW_app (G : Geo) (es : List va_E) (e : va_E) : rW G (es ++ [e]) = rW G es ++ [(G.1 + es.length, e)] := by
  apply List.ext_getElem?
  intro j
  rw [rW_get, List.getElem?_append, List.getElem?_append, rW_len, rW_get]
  split
  · rfl
  · rename_i hj
    cases hk : j - es.length with
    | zero =>
      have : j = es.length := by omega
      subst this
      rfl
    | succ k => rfl
theorem tsl_set {es : List va_E} {i : Nat} {e0 e : va_E} (h : es[i]? = some e0) (he : eSl e = eSl e0) : tsl (es.set i e) = tsl es := by
  unfold tsl
  induction es generalizing i with
  | nil => cases h
  | cons a l ih =>
    cases i with
    | zero => cases h; simp [he]
    | succ i => simp only [List.set_cons_succ, List.map_cons, List.sum_cons]; rw [ih h]
def Rd (G : Geo) (es : List va_E) (s : State) (H : Heap) (locs : List Loc) : Prop :=
  va_P G.2.2.1 CC (rW G es) H ∧ va_K G.2.2.1 CC (tyl G) s ∧ va_S (gA G) s.heap H locs ∧ H.size = G.1 + es.length ∧ G.1 ≤ s.heap.size ∧ Bn s
def Rm2 (d k n : Nat) (R : Room) : Prop := d ≤ R.frames ∧ 64 * d ≤ R.locals ∧ k ≤ R.cells ∧ n ≤ R.slots
def RD (l : Launch) (G : Geo) (μ : Mu) (d pc : Nat) (L : List (Option Value)) (st : List Value) (es es' : List va_E) : Prop :=
  (es.length ≤ es'.length ∧ tsl es ≤ tsl es') ∧
    ∀ (p : Program) (e : Env) (s : State) (m : MethodId) (args : Array Value) (below : List Frame) (meth : Method) (c : Code) (R : Room) (Q : State → Prop) (n0 w0 : Nat) (H : Heap) (locs : List Loc) (ls : Array Slot),
      Cx μ p s m args meth c → meth.name = "<init>" → Rm2 d (es'.length - n0) (tsl es' - w0) R → n0 ≤ es.length → w0 ≤ tsl es → Rd G es s H locs → Lv ls μ.2.2.1 L →
      (∀ (H1 : Heap) (locs1 : List Loc) (pc1 : Nat) (ls1 : Array Slot), Rd G es' s H1 locs1 → decode μ.2.1 pc1 = .ok (.return_, 1) → W p l e R s m args below meth c H1 locs1 (es'.length - n0) (tsl es' - w0) Q (F0 m pc1 ls1 [])) →
      W p l e R s m args below meth c H locs (es.length - n0) (tsl es - w0) Q (F0 m pc ls st)
section RDs
variable {l : Launch} {G : Geo} {μ ν : Mu} {d d2 pc pc2 : Nat} {L L2 : List (Option Value)} {st st2 : List Value} {es es2 es' : List va_E}
theorem rd_go (go : ∀ {p : Program} {e : Env} {R : Room} {s : State} {m : MethodId} {args : Array Value} {below : List Frame} {meth : Method} {c : Code} {H : Heap} {locs : List Loc} {cells slots : Nat} {Q : State → Prop} (ls : Array Slot), Cx μ p s m args meth c → Rd G es s H locs → Lv ls μ.2.2.1 L → d ≤ R.frames → 64 * d ≤ R.locals → W p l e R s m args below meth c H locs cells slots Q (F0 m pc2 ls st2) → W p l e R s m args below meth c H locs cells slots Q (F0 m pc ls st))
    (k : RD l G μ d pc2 L st2 es es') : RD l G μ d pc L st es es' :=
  ⟨k.1, fun p e s m args below meth c R Q n0 w0 H locs ls C hin hR h1 h2 hw hl ht => go ls C hw hl hR.1 hR.2.1 (k.2 p e s m args below meth c R Q n0 w0 H locs ls C hin hR h1 h2 hw hl ht)⟩
theorem rd_goL (go : ∀ {p : Program} {e : Env} {R : Room} {s : State} {m : MethodId} {args : Array Value} {below : List Frame} {meth : Method} {c : Code} {H : Heap} {locs : List Loc} {cells slots : Nat} {Q : State → Prop} (ls : Array Slot), Cx μ p s m args meth c → Lv ls μ.2.2.1 L → (∀ ls' : Array Slot, Lv ls' μ.2.2.1 L2 → W p l e R s m args below meth c H locs cells slots Q (F0 m pc2 ls' st2)) → W p l e R s m args below meth c H locs cells slots Q (F0 m pc ls st))
    (k : RD l G μ d pc2 L2 st2 es es') : RD l G μ d pc L st es es' :=
  ⟨k.1, fun p e s m args below meth c R Q n0 w0 H locs ls C hin hR h1 h2 hw hl ht => go ls C hl (fun ls' hl' => k.2 p e s m args below meth c R Q n0 w0 H locs ls' C hin hR h1 h2 hw hl' ht)⟩
theorem rd_iconst {n : Int} (hd : decode μ.2.1 pc = .ok (.iconst n, 1)) (k : RD l G μ d (pc + 1) L (vI n :: st) es es') : RD l G μ d pc L st es es' := rd_go (fun _ C _ _ _ _ k => lv_iconst C.1 C.2.1 hd rfl k) k
theorem rd_bipush {n : Int} (hd : decode μ.2.1 pc = .ok (.bipush n, 2)) (hv : (Int8.ofInt n).toInt32 = Int32.ofInt n) (k : RD l G μ d (pc + 2) L (vI n :: st) es es') : RD l G μ d pc L st es es' := rd_go (fun _ C _ _ _ _ k => lv_bipush C.1 C.2.1 hd hv k) k
theorem rd_sipush {n : Int} (hd : decode μ.2.1 pc = .ok (.sipush n, 3)) (hv : (Int16.ofInt n).toInt32 = Int32.ofInt n) (k : RD l G μ d (pc + 3) L (vI n :: st) es es') : RD l G μ d pc L st es es' := rd_go (fun _ C _ _ _ _ k => lv_sipush C.1 C.2.1 hd hv k) k
theorem rd_iload_n {k : Fin 4} {i : Nat} {x : Int} (hd : decode μ.2.1 pc = .ok (.iload_n k, 1)) (hi : (k : Nat) = i) (hl : L[i]? = some (some (vI x))) (k2 : RD l G μ d (pc + 1) L (vI x :: st) es es') : RD l G μ d pc L st es es' := rd_go (fun _ C _ hL _ _ kk => lv_iload_n C.1 C.2.1 hd hi (hL.at hl) kk) k2
theorem rd_aload_n {k : Fin 4} {i x : Nat} (hd : decode μ.2.1 pc = .ok (.aload_n k, 1)) (hi : (k : Nat) = i) (hl : L[i]? = some (some (vA G x))) (k2 : RD l G μ d (pc + 1) L (vA G x :: st) es es') : RD l G μ d pc L st es es' := rd_go (fun _ C _ hL _ _ kk => lv_aload_n C.1 C.2.1 hd hi (hL.at hl) kk) k2
theorem rd_dup {v : Value} (hd : decode μ.2.1 pc = .ok (.dup, 1)) (hv : v.category = 1) (k : RD l G μ d (pc + 1) L (v :: v :: st) es es') : RD l G μ d pc L (v :: st) es es' := rd_go (fun _ C _ _ _ _ k => lv_dup C.1 C.2.1 hd hv k) k
theorem rd_imul {x y : Int} (hd : decode μ.2.1 pc = .ok (.imul, 1)) (k : RD l G μ d (pc + 1) L (vI (x * y) :: st) es es') : RD l G μ d pc L (vI y :: vI x :: st) es es' := rd_go (fun _ C _ _ _ _ k => lv_imul C.1 C.2.1 hd (by rw [i32_mul]; exact k)) k
theorem rd_istore_n {k : Fin 4} {i : Nat} {x : Int} (hd : decode μ.2.1 pc = .ok (.istore_n k, 1)) (hi : (k : Nat) = i) (hn : i < μ.2.2.1) (hL : st1 L i (vI x) = L2) (k2 : RD l G μ d (pc + 1) L2 st es es') : RD l G μ d pc L (vI x :: st) es es' := rd_goL (fun _ C hl kk => lv_istore_n C.1 C.2.1 hd hi hl hn rfl (fun ls h1 => kk ls (Lv_st1 h1 hL))) k2
theorem rd_iinc {i : Nat} {n x : Int} (hd : decode μ.2.1 pc = .ok (.iinc i n, 3)) (hn : i < μ.2.2.1) (hl : L[i]? = some (some (vI x))) (hL : st1 L i (vI (x + n)) = L2) (k2 : RD l G μ d (pc + 3) L2 st es es') : RD l G μ d pc L st es es' := rd_goL (fun _ C hv kk => by
  obtain ⟨q, hq⟩ := List.getElem?_of_mem (mem_lvl.mpr hl)
  exact lv_iinc C.1 C.2.1 hd hv hq (i32_add x n) hn rfl (fun ls h1 => kk ls (Lv_st1 h1 hL))) k2
theorem rd_geT {x y off : Int} {tgt : Nat} (hd : decode μ.2.1 pc = .ok (.if_icmp .ge off, 3)) (ht : (pc : Int) + off = (tgt : Int)) (hc : w32 y ≤ w32 x) (k : RD l G μ d tgt L st es es') : RD l G μ d pc L (vI y :: vI x :: st) es es' := rd_go (fun _ C _ _ _ _ k => lv_icmp_ge C.1 C.2.1 hd ht (fun _ => k) (fun q => absurd (i32_le.mpr hc) q)) k
theorem rd_geF {x y off : Int} {tgt : Nat} (hd : decode μ.2.1 pc = .ok (.if_icmp .ge off, 3)) (ht : (pc : Int) + off = (tgt : Int)) (hc : ¬ w32 y ≤ w32 x) (k : RD l G μ d (pc + 3) L st es es') : RD l G μ d pc L (vI y :: vI x :: st) es es' := rd_go (fun _ C _ _ _ _ k => lv_icmp_ge C.1 C.2.1 hd ht (fun q => absurd (i32_le.mp q) hc) (fun _ => k)) k
theorem rd_goto {off : Int} {tgt : Nat} (hd : decode μ.2.1 pc = .ok (.goto off, 3)) (ht : (pc : Int) + off = (tgt : Int)) (k : RD l G μ d tgt L st es es') : RD l G μ d pc L st es es' := rd_go (fun _ C _ _ _ _ k => lv_goto C.1 C.2.1 hd ht k) k
theorem rd_obj {idx a : Nat} (w : Cond.methodLink μ.2.2.2.2 idx Lib.objectInit ∈ tW ∧ Cond.instanceMethod Lib.objectInit ∈ tW ∧ Cond.code Lib.objectInit ⟨#[0xb1]⟩ 1 none ∈ tW) (hst : (st.map fun v => v.category).sum ≤ 8) (hd1 : 1 ≤ d) (hd : decode μ.2.1 pc = .ok (.invokespecial idx, 3)) (k : RD l G μ d (pc + 3) L st es es') : RD l G μ d pc L (vA G a :: st) es es' := rd_go (fun ls C _ hl h1 h2 k => W.objInit C.1 C.2.1 C.2.2.2.2.2.1 (C.2.2.2.2.2.2 _ w.1) (C.2.2.2.2.2.2 _ w.2.1) (C.2.2.2.2.2.2 _ w.2.2) rfl (by show ls.size = _; rw [hl.size, C.2.2.1]) rfl hd (by omega) (by show 2 * 0 + _ + 12 ≤ _; omega) k) k
theorem rd_ret (hd : decode μ.2.1 pc = .ok (.return_, 1)) : RD l G μ d pc L [] es es := ⟨⟨Nat.le_refl _, Nat.le_refl _⟩, fun p e s m args below meth c R Q n0 w0 H locs ls C hin hR h1 h2 hw hl ht => ht H locs pc ls hw hd⟩
/-- a field of the object under way -/
def FQ (own : String) (idx ci k : Nat) (ty : FieldType) (fin : Bool) : Prop := ∃ (C : String) (T : u_T) (N : Nat) (ty0 : Nat → FieldType), CC[ci]? = some (C, T, N) ∧ (∀ w ∈ u_ws C T N, w ∈ tW) ∧ (∀ k, k < N → parseFieldDescriptor (T k).2.2.1 = some (ty0 k)) ∧ (∀ a, a < N → ∀ b, b < N → a ≠ b → (T a).2.1 ≠ (T b).2.1) ∧ k < N ∧ Cond.fieldLink own idx (T k).1 (T k).2.1 (T k).2.2.1 ∈ tW ∧ (T k).2.2.2 = fin ∧ parseFieldDescriptor (T k).2.2.1 = some ty ∧ (T k).1 = own
theorem rd_put {i idx ci k : Nat} {ty : FieldType} {fin : Bool} {fs : List Value} {v : Value} (f : FQ μ.2.2.2.2 idx ci k ty fin) (hi : es[i]? = some (.inr (ci, fs))) (hk : k < fs.length) (hn : narrow ty v = v) (hfit : fits ty v = true) (he2 : es.set i (.inr (ci, fs.set k v)) = es2) (hd : decode μ.2.1 pc = .ok (.putfield idx, 3)) (kk : RD l G μ d (pc + 3) L st es2 es') : RD l G μ d pc L (v :: vA G i :: st) es es' := by
  subst he2
  have hlen : (es.set i (.inr (ci, fs.set k v))).length = es.length := List.length_set
  have htsl : tsl (es.set i (.inr (ci, fs.set k v))) = tsl es := tsl_set hi (by show (fs.set k v).length = fs.length; rw [List.length_set])
  obtain ⟨k1, k2⟩ := kk
  rw [hlen, htsl] at k1 k2
  refine ⟨k1, fun p e s m args below meth c R Q n0 w0 H locs ls Cc hin hR h1 h2 hw hl ht => ?_⟩
  obtain ⟨C, T, N, ty0, f1, f2, f3, f4, f5, f7, f9, f10, f11⟩ := f
  have hts := Cc.2.2.2.2.2.2
  have hD := rW_D G es
  have he : (rW G es)[i]? = some (G.1 + i, .inr (ci, fs)) := by rw [rW_get, hi]; rfl
  have hap := va_apart (own := μ.2.2.2.2) hts f2 ty0 f3 f4 hw.2.1 f1
  obtain ⟨r, h1', cell, q1, q2, q3, q4⟩ := hw.1 i _ he
  have hr : r = (C, T, N) := Option.some.inj (h1'.symm.trans f1)
  subst hr
  obtain ⟨hS, hfc, kC, hkC, hkind⟩ := hw.2.1.1 ci _ f1
  obtain ⟨cf, kf, fi, fd, hi2, hsl⟩ := hS k f5
  have hlay := hts _ (f2 _ (u_in_lay f5))
  unfold u_lay at hlay
  have hst := (u_facts hfc hkC (u_lays hts f2 f5) hi2).1
  have fini : ∀ (H' : Heap) (locs' : List Loc), H'[G.1 + i]? = some (cell.setSlot (G.2.2.1.2 ci k) v) → H'.size = H.size → (∀ q, q ≠ G.1 + i → H'[q]? = H[q]?) → locs' = locs ++ [⟨G.1 + i, G.2.2.1.2 ci k⟩] → W p l e R s m args below meth c H' locs' (es.length - n0) (tsl es - w0) Q (F0 m (pc + 3) ls st) := by
    intro H' locs' e1 e2 e3 e4
    subst e4
    have hP := hw.1.set hD he (e := .inr (ci, fs.set k v)) ⟨_, f1, t_OB.to (V := updV (vp_V fs) k v) ⟨_, e1, q2, q3, t_set q4 hap f5 v⟩ (fun j _ => vp_updV_set hk v j)⟩ e3
    rw [rW_set] at hP
    exact k2 p e s m args below meth c R Q n0 w0 H' _ ls Cc hin hR h1 h2 ⟨hP, hw.2.1, hw.2.2.1.put e2 e3 (hD.2 i _ he), by rw [e2, hlen]; exact hw.2.2.2.1, hw.2.2.2.2⟩ hl ht
  cases fin with
  | false =>
    rw [if_neg (by rw [f9]; decide)] at hlay
    have h6 := u_store hfc hkC hkind hlay hi2 f10 hn hfit
    refine W.putK Cc.1 Cc.2.1 (f := fd) ⟨Cc.2.2.2.2.2.1, hts _ f7, ⟨_, _, _, hi2⟩, hst⟩ (by rw [q2]; exact h6) q1 q3 (by rw [hsl]; exact k2_hasslot (q4 k f5)) rfl rfl hd fun H' e1 e2 e3 => ?_
    rw [hsl] at e1 ⊢
    exact fini H' _ e1 e2 e3 rfl
  | true =>
    rw [if_pos f9] at hlay
    have hcf : m.cls = cf := by
      obtain ⟨_, _, c', _, _, _, -, -, hf', -, -, -, hown2, -⟩ := Cond.laysFinal_spec hlay
      have e1 : c' = cf := by have := hi2.symm.trans hf'; simp at this; exact this.1.symm
      rw [f11] at hown2
      rw [← e1]; exact Option.some.inj (Cc.2.2.2.2.2.1.symm.trans hown2)
    have h6 := u_fits hfc hkC hkind (Or.inr hlay) hi2 f10 hn hfit
    refine W.putFinK Cc.1 Cc.2.1 Cc.2.2.2.2.2.1 (hts _ f7) hi2 hst hcf hin (by rw [q2]; exact h6) q1 q3 (by rw [hsl]; exact k2_hasslot (q4 k f5)) rfl rfl hd fun H' e1 e2 e3 => ?_
    rw [hsl] at e1 ⊢
    exact fini H' _ e1 e2 e3 rfl
/-- a cell more -/
theorem rd_push {cell0 : va_E} (hsl : eSl cell0 = d2) (go : ∀ {p : Program} {e : Env} {R : Room} {s : State} {m : MethodId} {args : Array Value} {below : List Frame} {meth : Method} {c : Code} {H : Heap} {locs : List Loc} {cells slots : Nat} {Q : State → Prop} (ls : Array Slot), Cx μ p s m args meth c → Rd G es s H locs → cells + 1 ≤ R.cells → slots + d2 ≤ R.slots → (∀ (H1 : Heap), va_at G.2.2.1 CC (H.size, cell0) H1 → H1.size = H.size + 1 → (∀ q, q < H.size → H1[q]? = H[q]?) → W p l e R s m args below meth c H1 locs (cells + 1) (slots + d2) Q (F0 m pc2 ls st2)) → W p l e R s m args below meth c H locs cells slots Q (F0 m pc ls st))
    (k : RD l G μ d pc2 L st2 (es ++ [cell0]) es') : RD l G μ d pc L st es es' := by
  obtain ⟨⟨k1, k1'⟩, k2⟩ := k
  have hln : (es ++ [cell0]).length = es.length + 1 := by simp
  have hts : tsl (es ++ [cell0]) = tsl es + d2 := by rw [tsl_app]; unfold tsl; simp [hsl]
  rw [hln] at k1 k2
  rw [hts] at k1' k2
  refine ⟨⟨by omega, by omega⟩, fun p e s m args below meth c R Q n0 w0 H locs ls C hin hR h1 h2 hw hl ht => ?_⟩
  have hR3 := hR.2.2.1
  have hR4 := hR.2.2.2
  refine go ls C hw (by omega) (by omega) (fun H1 hat hz ho => ?_)
  have hsz := hw.2.2.2.1
  have hS := hw.2.2.1
  have hw1 : Rd G (es ++ [cell0]) s H1 locs := by
    refine ⟨?_, hw.2.1, ⟨Nat.le_trans hS.1 (by omega), fun q g1 g2 => ?_, hS.2.2⟩, by rw [hz, hln, hsz]; rfl, hw.2.2.2.2⟩
    · rw [rW_app]
      refine va_P.app (fun k q hq => ?_) (fun k q hq => ?_)
      · have hlt := (hw.1 k q hq).lt
        exact (hw.1 k q hq).kept (ho q.1 hlt)
      · have hk : k < 1 := (List.getElem?_eq_some_iff.mp hq).1
        rw [show k = 0 by omega] at hq
        cases hq
        rw [← hsz]
        exact hat
    · rw [ho q (Nat.lt_of_lt_of_le g1 hS.1)]
      exact hS.2.1 q g1 g2
  have := k2 p e s m args below meth c R Q n0 w0 H1 locs ls C hin hR (by omega) (by omega) hw1 hl ht
  rw [show es.length - n0 + 1 = es.length + 1 - n0 by omega, show tsl es - w0 + d2 = tsl es + d2 - w0 by omega]
  exact this
theorem rd_newI {x : Int} {N : Nat} (w : Cond.arrayClass .int ∈ tW) (hx : 0 ≤ w32 x ∧ (w32 x).toNat = N) (hb4 : N * componentBytes .int ≤ 536870912) (hd : decode μ.2.1 pc = .ok (.newarray .int, 2)) (k : RD l G μ d (pc + 2) L (vA G es.length :: st) (es ++ [.inl (G.2.2.2 0, N, .inl (fun _ => Int32.ofInt 0))]) es') : RD l G μ d pc L (vI x :: st) es es' := by
  refine rd_push (d2 := N) rfl (fun ls C hw hc hs kk => ?_) k
  refine va_newaK C.1 C.2.1 (atype := .int) (C.2.2.2.2.2.2 _ w) (g := F0 _ pc ls (vI x :: st)) rfl hd rfl (fun q => by rw [i32_lt0] at q; omega) (by rw [clamp_w]; exact hx.2) hb4 hc hs rfl (fun H1 cA e1 e2 e3 _ e5 => ?_)
  have hcA : cA = G.2.2.2 0 := Option.some.inj (e5.symm.trans (hw.2.1.2 0 _ rfl).2)
  subst hcA
  have hk := kk H1 (show H1[_]? = some (vp_cell _ _) from e1) e2 e3
  rw [hw.2.2.2.1] 
  exact hk
theorem rd_newB {x : Int} {N : Nat} (w : Cond.arrayClass .byte ∈ tW) (hx : 0 ≤ w32 x ∧ (w32 x).toNat = N) (hb4 : N * componentBytes .byte ≤ 536870912) (hd : decode μ.2.1 pc = .ok (.newarray .byte, 2)) (k : RD l G μ d (pc + 2) L (vA G es.length :: st) (es ++ [.inl (G.2.2.2 1, N, .inl (fun _ => Int32.ofInt 0))]) es') : RD l G μ d pc L (vI x :: st) es es' := by
  refine rd_push (d2 := N) rfl (fun ls C hw hc hs kk => ?_) k
  refine va_newaK C.1 C.2.1 (atype := .byte) (C.2.2.2.2.2.2 _ w) (g := F0 _ pc ls (vI x :: st)) rfl hd rfl (fun q => by rw [i32_lt0] at q; omega) (by rw [clamp_w]; exact hx.2) hb4 hc hs rfl (fun H1 cA e1 e2 e3 _ e5 => ?_)
  have hcA : cA = G.2.2.2 1 := Option.some.inj (e5.symm.trans (hw.2.1.2 1 _ rfl).2)
  subst hcA
  have hk := kk H1 (show H1[_]? = some (vp_cell _ _) from e1) e2 e3
  rw [hw.2.2.2.1]
  exact hk
theorem rd_newZ {x : Int} {N : Nat} (w : Cond.arrayClass .boolean ∈ tW) (hx : 0 ≤ w32 x ∧ (w32 x).toNat = N) (hb4 : N * componentBytes .boolean ≤ 536870912) (hd : decode μ.2.1 pc = .ok (.newarray .boolean, 2)) (k : RD l G μ d (pc + 2) L (vA G es.length :: st) (es ++ [.inl (G.2.2.2 2, N, .inl (fun _ => Int32.ofInt 0))]) es') : RD l G μ d pc L (vI x :: st) es es' := by
  refine rd_push (d2 := N) rfl (fun ls C hw hc hs kk => ?_) k
  refine va_newaK C.1 C.2.1 (atype := .boolean) (C.2.2.2.2.2.2 _ w) (g := F0 _ pc ls (vI x :: st)) rfl hd rfl (fun q => by rw [i32_lt0] at q; omega) (by rw [clamp_w]; exact hx.2) hb4 hc hs rfl (fun H1 cA e1 e2 e3 _ e5 => ?_)
  have hcA : cA = G.2.2.2 2 := Option.some.inj (e5.symm.trans (hw.2.1.2 2 _ rfl).2)
  subst hcA
  have hk := kk H1 (show H1[_]? = some (vp_cell _ _) from e1) e2 e3
  rw [hw.2.2.2.1]
  exact hk
theorem rd_anew {x : Int} {N t idx : Nat} {C : String} (ht : (tyl G)[t]? = some (G.2.2.2 t, .object C)) (hAO : ∀ s, Bn s → va_AO C s) (w : Cond.classLink μ.2.2.2.2 idx C ∈ tW) (hx : 0 ≤ w32 x ∧ (w32 x).toNat = N) (hb4 : N * 4 ≤ 536870912) (hd : decode μ.2.1 pc = .ok (.anewarray idx, 3)) (k : RD l G μ d (pc + 3) L (vA G es.length :: st) (es ++ [.inl (G.2.2.2 t, N, .inr (.inr (.inr (.inr (fun _ => none)))))]) es') : RD l G μ d pc L (vI x :: st) es es' := by
  refine rd_push (d2 := N) rfl (fun {p e R s m args below meth c H locs cells slots Q} ls Cc hw hc hs kk => ?_) k
  have hcl : (Int32.ofInt x).toNatClampNeg = N := by rw [clamp_w]; exact hx.2
  refine W.anew Cc.1 Cc.2.1 Cc.2.2.2.2.2.1 (Cc.2.2.2.2.2.2 _ w) (va_AO.use (hAO s hw.2.2.2.2.2)) (g := F0 m pc ls (vI x :: st)) rfl hd rfl (fun q => by rw [i32_lt0] at q; omega) (by rw [hcl]; exact hb4) hc (by rw [hcl]; exact hs) (fun cA kA comp e1 e2 e3 e4 => ?_)
  have hcA : cA = G.2.2.2 t := by
    obtain ⟨kA', comp', r1, r2, r3, r4⟩ := (hw.2.1.2 t _ ht).2
    exact Option.some.inj (e1.symm.trans r4)
  subst hcA
  rw [hcl]
  generalize hH1 : H.push ({ cls := G.2.2.2 t, slots := Array.replicate N .null, vm := .none } : Cell) = H1
  have z1 : H1.size = H.size + 1 := by rw [← hH1, Array.size_push]
  have e5 : H1[H.size]? = some (arrV (G.2.2.2 t) N (fun _ => .null)) := by rw [← hH1, Array.getElem?_push_size, ← arrV_new]
  have e6 : ∀ q, q < H.size → H1[q]? = H[q]? := fun q hq => by rw [← hH1, Array.getElem?_push, if_neg (Nat.ne_of_lt hq)]
  have hk := kk H1 (show H1[_]? = some (vp_cell _ _) from e5) z1 e6
  rw [hw.2.2.2.1]
  exact hk
/-- a reference of the object under way; a row of references, filled -/
theorem rd_getR {i b idx ci k : Nat} {ty : FieldType} {fin : Bool} {fs : List Value} (f : FQ μ.2.2.2.2 idx ci k ty fin) (hi : es[i]? = some (.inr (ci, fs))) (hk : fs[k]? = some (vA G b)) (hd : decode μ.2.1 pc = .ok (.getfield idx, 3)) (kk : RD l G μ d (pc + 3) L (vA G b :: st) es es') : RD l G μ d pc L (vA G i :: st) es es' := by
  obtain ⟨C, T, N, ty0, f1, f2, f3, f4, f5, f7, f9, f10, f11⟩ := f
  refine rd_go (fun _ Cc hw _ _ _ k2 => ?_) kk
  exact va_get (D := G.2.2.1) (ci := ci) (v := vA G b) (C := C) (T := T) (N := N) Cc.1 Cc.2.1 Cc.2.2.2.2.2.2 f2 Cc.2.2.2.2.2.1 hw.2.1 hw.1 i (by rw [rW_get, hi]; rfl) f1 k f5 (Cc.2.2.2.2.2.2 _ f7) (fun _ q => q) hk hd k2
theorem rd_goH (hlen : es2.length = es.length) (htsl : tsl es2 = tsl es) (go : ∀ {p : Program} {e : Env} {R : Room} {s : State} {m : MethodId} {args : Array Value} {below : List Frame} {meth : Method} {c : Code} {H : Heap} {locs : List Loc} {cells slots : Nat} {Q : State → Prop} (ls : Array Slot), Cx μ p s m args meth c → Rd G es s H locs → (∀ (H1 : Heap) (locs1 : List Loc), va_P G.2.2.1 CC (rW G es2) H1 → va_S (gA G) s.heap H1 locs1 → H1.size = H.size → W p l e R s m args below meth c H1 locs1 cells slots Q (F0 m pc2 ls st2)) → W p l e R s m args below meth c H locs cells slots Q (F0 m pc ls st))
    (k : RD l G μ d pc2 L st2 es2 es') : RD l G μ d pc L st es es' := by
  obtain ⟨k1, k2⟩ := k
  rw [hlen, htsl] at k1 k2
  refine ⟨k1, fun p e s m args below meth c R Q n0 w0 H locs ls Cc hin hR h1 h2 hw hl ht => ?_⟩
  exact go ls Cc hw (fun H1 locs1 hP hS hz => k2 p e s m args below meth c R Q n0 w0 H1 locs1 ls Cc hin hR h1 h2 ⟨hP, hw.2.1, hS, by rw [hz, hlen]; exact hw.2.2.2.1, hw.2.2.2.2⟩ hl ht)
theorem rd_aast {ia iv ci t N j : Nat} {C : String} {T : u_T} {NN : Nat} {x : Int} {f : Nat → Option Nat} {vs : List Value} (ht : (tyl G)[t]? = some (G.2.2.2 t, .object C)) (ha : es[ia]? = some (.inl (G.2.2.2 t, N, .inr (.inr (.inr (.inr f)))))) (hv : es[iv]? = some (.inr (ci, vs))) (hc : CC[ci]? = some (C, T, NN)) (hx : 0 ≤ w32 x ∧ (w32 x).toNat = j) (hj : j < N) (he2 : es.set ia (.inl (G.2.2.2 t, N, .inr (.inr (.inr (.inr (va_up f j (some (G.1 + iv)))))))) = es2) (hd : decode μ.2.1 pc = .ok (.aastore, 1)) (kk : RD l G μ d (pc + 1) L st es2 es') : RD l G μ d pc L (vA G iv :: vI x :: vA G ia :: st) es es' := by
  subst he2
  refine rd_goH (es2 := es.set ia (.inl (G.2.2.2 t, N, .inr (.inr (.inr (.inr (va_up f j (some (G.1 + iv))))))))) List.length_set (tsl_set ha rfl) (fun ls Cc hw k2 => ?_) kk
  have hD := rW_D G es
  have he : (rW G es)[ia]? = some (G.1 + ia, .inl (G.2.2.2 t, N, .inr (.inr (.inr (.inr f))))) := by rw [rW_get, ha]; rfl
  have hev : (rW G es)[iv]? = some (G.1 + iv, .inr (ci, vs)) := by rw [rW_get, hv]; rfl
  have hcl : (Int32.ofInt x).toNatClampNeg = j := by rw [clamp_w]; exact hx.2
  have h0 : ¬ Int32.ofInt x < 0 := fun q => by rw [i32_lt0] at q; omega
  obtain ⟨r', hr', cellV, g1, g2, g3, -⟩ := hw.1 iv _ hev
  have hcls := (hw.2.1.1 ci _ hc).2
  obtain ⟨kA, comp, k1, k2', k3, -⟩ := (hw.2.1.2 t _ ht).2
  have hcomp : comp = G.2.2.1.1 ci := Option.some.inj (k3.symm.trans hcls.1)
  subst hcomp
  obtain ⟨kC, hkC, -⟩ := hcls.2
  refine W.aast Cc.1 Cc.2.1 (hw.1 ia _ he) (fun q h => by cases h) (fun h => by cases h) k1 k2' rfl hkC ⟨h0, by show _ < (arrV _ _ _).slots.size; rw [arrV_size, hcl]; exact hj⟩ g1 (fun q h => by rw [g3] at h; cases h) (by rw [g2]; exact hkC) (by rw [g2]; exact va_assign hcls) rfl rfl hd fun H1 e z oq => ?_
  have hP := hw.1.set hD he (e := .inl (G.2.2.2 t, N, .inr (.inr (.inr (.inr (va_up f j (some (G.1 + iv)))))))) (show H1[G.1 + ia]? = some (vp_cell _ _) by
    rw [e, vp_cell_q, vp_cell_q, arrV_store, hcl]
    congr 2
    funext q
    by_cases hq : q = j
    · subst hq
      simp [updV, va_up, va_rf]
    · simp [updV, va_up, hq]) oq
  rw [rW_set] at hP
  exact k2 H1 _ hP (hw.2.2.1.put z oq (hD.2 ia _ he)) z
theorem rd_iast {ia N j : Nat} {x y : Int} {f : Nat → Int} (ha : es[ia]? = some (.inl (G.2.2.2 0, N, .inl (fun q => Int32.ofInt (f q))))) (hx : 0 ≤ w32 x ∧ (w32 x).toNat = j) (hj : j < N) (he2 : es.set ia (.inl (G.2.2.2 0, N, .inl (fun q => Int32.ofInt (if q = j then y else f q)))) = es2) (hd : decode μ.2.1 pc = .ok (.iastore, 1)) (kk : RD l G μ d (pc + 1) L st es2 es') : RD l G μ d pc L (vI y :: vI x :: vA G ia :: st) es es' := by
  subst he2
  refine rd_goH (es2 := es.set ia (.inl (G.2.2.2 0, N, .inl (fun q => Int32.ofInt (if q = j then y else f q))))) List.length_set (tsl_set ha rfl) (fun ls Cc hw k2 => ?_) kk
  have hD := rW_D G es
  have he : (rW G es)[ia]? = some (G.1 + ia, .inl (G.2.2.2 0, N, .inl (fun q => Int32.ofInt (f q)))) := by rw [rW_get, ha]; rfl
  have hcl : (Int32.ofInt x).toNatClampNeg = j := by rw [clamp_w]; exact hx.2
  have hjx : w32 x < (N : Int) := by
    have q1 := hx.1
    have q2 := hx.2
    omega
  refine W.iast Cc.1 Cc.2.1 (hw.1 ia _ he) ((hw.2.1.2 0 _ rfl).1 N (fun q => .int (Int32.ofInt (f q)))) (fun q => by cases q) (by show ¬ (_ < 0 ∨ (arrV _ _ _).slots.size ≤ _); rw [arrV_size]; exact vp_in_w ⟨hx.1, hjx⟩) rfl rfl hd fun H1 e z oq => ?_
  have hP := hw.1.set hD he (e := .inl (G.2.2.2 0, N, .inl (fun q => Int32.ofInt (if q = j then y else f q)))) (show H1[G.1 + ia]? = some (vp_cell _ _) by rw [e, vp_cell_i, vp_cell_i, arrV_store, hcl, updV_int]) oq
  rw [rW_set] at hP
  exact k2 H1 _ hP (hw.2.2.1.put z oq (hD.2 ia _ he)) z
/-- new -/
def FN (own : String) (idx ci : Nat) (fs : List Value) : Prop := ∃ (C : String) (T : u_T) (N : Nat) (ty0 : Nat → FieldType), CC[ci]? = some (C, T, N) ∧ (∀ w ∈ u_ws C T N, w ∈ tW) ∧ (∀ k, k < N → parseFieldDescriptor (T k).2.2.1 = some (ty0 k)) ∧ Cond.classLink own idx C ∈ tW ∧ Cond.instantiable C N ∈ tW ∧ Cond.initialized C ∈ tW ∧ (∀ j, j < N → defaultValue (ty0 j) = vp_V fs j) ∧ fs.length = N
theorem rd_new {idx ci : Nat} {fs : List Value} (f : FN μ.2.2.2.2 idx ci fs) (hd : decode μ.2.1 pc = .ok (.new idx, 3)) (k : RD l G μ d (pc + 3) L (vA G es.length :: st) (es ++ [.inr (ci, fs)]) es') : RD l G μ d pc L st es es' := by
  obtain ⟨C, T, N, ty0, f1, f2, f3, f4, f5, f6, f7, f8⟩ := f
  refine rd_push (d2 := N) (cell0 := .inr (ci, fs)) f8 (fun {p e R s m args below meth c H locs cells slots Q} ls Cc hw hc hs kk => ?_) k
  have hts := Cc.2.2.2.2.2.2
  have hKn := hw.2.1.1 ci _ f1
  refine W.newcK Cc.1 Cc.2.1 Cc.2.2.2.2.2.1 (hts _ f4) (hts _ f5) (hts _ f6) (g := F0 m pc ls st) rfl hd hc hs hKn.2.1 rfl (fun H1 kC hkC e1 z1 o1 => ?_)
  have hk := kk H1 ⟨_, f1, (u_born ty0 hts f2 hKn hkC e1 f3).to f7⟩ z1 o1
  rw [hw.2.2.2.1]
  exact hk
def QR (G : Geo) (es' : List va_E) : Array Value → State → Outcome → State → Prop := fun _ st oc t => oc = .returned none ∧ t.heap.size = G.1 + es'.length ∧ va_P G.2.2.1 CC (rW G es') t.heap ∧ va_F (gA G) st t
def PR (G : Geo) (es : List va_E) (U : State) : Prop := U.heap.size = G.1 + es.length ∧ va_P G.2.2.1 CC (rW G es) U.heap ∧ va_K G.2.2.1 CC (tyl G) U ∧ Bn U
def RCon (l : Launch) (G : Geo) (μ : Mu) (d : Nat) (As : List Value) (es es' : List va_E) : Prop :=
  (es.length ≤ es'.length ∧ tsl es ≤ tsl es') ∧ Met l μ.1 (wsM μ) ({ frames := d, cells := es'.length - es.length, slots := tsl es' - tsl es, locals := 64 * d }) (va_Pc As (PR G es)) (QR G es') (es'.length - es.length) (tsl es' - tsl es) (gA G)
theorem rcon_of {As : List Value} {L : List (Option Value)} (hr : μ.2.2.2.1 = none) (hnm : μ.1.name = "<init>") (hy : plainName μ.1.cls = true) (hown : μ.1.cls = μ.2.2.2.2) (hL : lvl L = lv_args 0 As) (hlen : (lg_sl As).length ≤ μ.2.2.1) (hD : RD l G μ d 0 L [] es es') : RCon l G μ d As es es' := by
  obtain ⟨hm, k⟩ := hD
  refine ⟨hm, Met.ofW (cc := μ.2.1) (maxL := μ.2.2.1) (ret := μ.2.2.2.1) hy rfl ?_⟩
  intro p e s m args below meth c s₁ B hml hv
  obtain ⟨rfl, hsz, hP, hK, hBn⟩ := hv
  have hts := atoms_spec (ws := wsM μ) B.pre
  have hown2 : s.vm.findClass μ.2.2.2.2 = some m.cls := by rw [← hown]; exact findClass_of_methodNamed B.named
  have hin : meth.name = "<init>" := by rw [(name_of_methodNamed B.named B.method).1]; exact hnm
  have hl := lv_entry As (n := μ.2.2.1) hlen
  rw [lg_entry_eq]
  generalize (lg_sl As ++ List.replicate (μ.2.2.1 - (lg_sl As).length) Slot.unset).toArray = ls at hl ⊢
  have hw : Rd G es s s.heap [] := ⟨hP, hK, va_S.rf, hsz, by rw [hsz]; exact Nat.le_add_right _ _, hBn⟩
  have hret := B.returns
  rw [hr] at hret
  have := k p e s m As.toArray below meth c (headSpec (wsM μ) ({ frames := d, cells := es'.length - es.length, slots := tsl es' - tsl es, locals := 64 * d })).room (MQ below (QR G es') As.toArray s (es'.length - es.length) (tsl es' - tsl es) (gA G)) es.length (tsl es) s.heap [] ls ⟨B.exec, B.bytes, hml, B.returns, B.notSynchronized, hown2, fun w hw => hts w (List.mem_cons_of_mem _ hw)⟩ hin ⟨Nat.le_refl _, Nat.le_refl _, Nat.le_refl _, Nat.le_refl _⟩ (Nat.le_refl _) (Nat.le_refl _) hw (by unfold Lv; rw [hL]; exact hl)
    (fun H1 locs1 pc1 ls1 hw1 hd1 => W.vret B.exec B.bytes hret (fun t ht hW => ⟨rfl, by rw [ht]; exact hw1.2.2.2.1, by rw [ht]; exact hw1.1, hw1.2.2.1.F ht⟩) hw1.2.2.1.2.2 hd1 B.notSynchronized)
  rwa [Nat.sub_self, Nat.sub_self] at this
theorem PR_blind {As : List Value} : FrameBlind (va_Pc As (PR G es)) := fun a U g mk q => by
  obtain ⟨q0, q1, q2, q3, q4⟩ := q
  exact ⟨q0, q1, q2, va_K.moved (u := U) (U := U.calling g mk a) (Vm.Alike.refl U.vm) q3, Bn.same (u := U) (U := U.calling g mk a) rfl q4⟩
theorem PR_of {s U : State} {H : Heap} {locs : List Loc} (hw : Rd G es s H locs) (hU : U.heap = H) (hW : s.WarmedH U.vm) : PR G es U := by
  refine ⟨by rw [hU]; exact hw.2.2.2.1, by rw [hU]; exact hw.1, va_K.moved hW.alike hw.2.1, hw.2.2.2.2.2.warm hW⟩
theorem dn_runR {p : Program} {e : Env} {R : Room} {s : State} {m : MethodId} {args : Array Value} {below : List Frame} {meth : Method} {c : Code} {H : Heap} {locs : List Loc} {cells slots mc ms : Nat} {Q : State → Prop} {ls : Array Slot} {st0 rest : List Value} {a : Array Value}
    (hr : va_Run p l e R s m args below meth c H locs cells slots mc ms (F0 m pc ls st0) rest (QR G es2 a) (gA G)) (hw : Rd G es s H locs)
    (kk : ∀ (H1 : Heap) (locs1 : List Loc), Rd G es2 s H1 locs1 → W p l e R s m args below meth c H1 locs1 (cells + mc) (slots + ms) Q (F0 m (pc + 3) ls rest)) : W p l e R s m args below meth c H locs cells slots Q (F0 m pc ls st0) := by
  intro T hT X
  obtain ⟨v', st₀, t, T', Lc, h0, X', hL, e1, e2, ⟨hv, hz, hP, hF⟩, stp⟩ := hr T hT X
  cases hv
  have hS := hw.2.2.1
  obtain ⟨hF1, hF2⟩ := hF
  rw [h0] at hF1 hF2
  have hw1 : Rd G es2 s T'.heap (locs ++ Lc) := by
    refine ⟨by rw [e1]; exact hP, hw.2.1, ⟨by rw [e1]; exact Nat.le_trans hS.1 hF1, fun q g1 g2 => ?_, fun q hq => ?_⟩, by rw [e1]; exact hz, hw.2.2.2.2⟩
    · rw [e1, hF2 q (Nat.lt_of_lt_of_le g1 hS.1) g2]
      exact hS.2.1 q g1 g2
    · rcases List.mem_append.mp hq with z | z
      · exact hS.2.2 q z
      · exact hL q z
  obtain ⟨t2, a1, b1⟩ := kk T'.heap _ hw1 T' rfl X'
  exact ⟨t2, stp t2 a1, b1⟩
/-- a maker that is called: by a plain link, or as a nest mate's -/
def FI (own : String) (idx : Nat) (ν : Mu) (n : Nat) : Prop := (Cond.methodLink own idx ν.1 ∈ tW ∨ (own, idx, ν.1.cls) ∈ nestL ∧ ν.1.desc = "()V") ∧ (Cond.instanceMethod ν.1 ∈ tW ∧ Cond.initialized ν.1.cls ∈ tW ∧ Cond.code ν.1 ν.2.1 ν.2.2.1 ν.2.2.2.1 ∈ tW) ∧ (ν.1.cls ≠ "java/lang/invoke/MethodHandle" ∧ ν.1.cls ≠ "java/lang/invoke/VarHandle" ∧ (parseMethodDescriptor ν.1.desc).map (fun d => d.parameters.length) = some n) ∧ ν.2.2.1 ≤ 45 ∧ ν.1.name = "<init>" ∧ ν.2.2.2.1 = none
theorem rd_callI {S As : List Value} {a idx n : Nat} (w : FI μ.2.2.2.2 idx ν n) (hS : S = As.reverse ++ vA G a :: st) (hn : As.length = n) (hst : (st.map fun v => v.category).sum ≤ 8) (hdd : d2 + 1 ≤ d) (hd : decode μ.2.1 pc = .ok (.invokespecial idx, 3)) (con : RCon l G ν d2 (vA G a :: As) es es2) (k : RD l G μ d (pc + 3) L st es2 es') : RD l G μ d pc L S es es' := by
  subst hS
  obtain ⟨⟨hm, hm'⟩, hM⟩ := con
  obtain ⟨⟨k1, k1'⟩, k2⟩ := k
  refine ⟨⟨by omega, by omega⟩, fun p e s m args below meth c R Q n0 w0 H locs ls C hin hR h1 h2 hw hl ht => ?_⟩
  obtain ⟨w1, ⟨w2, w4, w5⟩, w6, w7, w8, w9⟩ := w
  have hts := C.2.2.2.2.2.2
  have hR1 := hR.1
  have hR2 := hR.2.1
  have hR3 := hR.2.2.1
  have hR4 := hR.2.2.2
  have hG : GoodIn tW (wsM ν) := dn_good (ws := []) (fun _ q => by cases q) w5
  have hrun : va_Run p l e R s m args below meth c H locs (es.length - n0) (tsl es - w0) (es2.length - es.length) (tsl es2 - tsl es) (F0 m pc ls (As.reverse ++ vA G a :: st)) st (QR G es2 (Value.ref (G.1 + a) :: As).toArray) (gA G) := by
    rcases w1 with w1 | ⟨w1, w1d⟩
    · refine va_runI (As := As) (rest := st) (g := F0 m pc ls (As.reverse ++ vA G a :: st)) ⟨C.1, C.2.1, C.2.2.1, C.2.2.2.2.2.1, hts⟩ hM
        ⟨callB_of n hts hG (by unfold wsM; rw [w9]) rfl rfl (hts _ w4) (hts _ w1) w6 ⟨Nat.le_trans hdd hR1, by dsimp only; omega⟩, w8, hts _ w2⟩
        ⟨PR_blind, fun U hU hW => ⟨rfl, PR_of hw hU hW⟩⟩ rfl hn hl.size rfl (lv_room hst) hd ⟨by omega, by omega⟩
    · have hnw := hw.2.2.2.2.2.2 _ w1
      have hy : (⟨ν.1.cls, "<init>", "()V"⟩ : MethodName) = ν.1 := by rw [← w8, ← w1d]
      rw [hy] at hnw
      refine va_runIN (As := As) (rest := st) (g := F0 m pc ls (As.reverse ++ vA G a :: st)) ⟨C.1, C.2.1, C.2.2.1, C.2.2.2.2.2.1, hts⟩ hM
        ⟨va_cnB n hts hG (by unfold wsM; rw [w9]) rfl rfl hnw (hts _ w4) w6 ⟨Nat.le_trans hdd hR1, by dsimp only; omega⟩, w8, hts _ w2⟩
        ⟨PR_blind, fun U hU hW => ⟨rfl, PR_of hw hU hW⟩⟩ rfl hn hl.size rfl (lv_room hst) hd ⟨by omega, by omega⟩
  refine dn_runR hrun hw (fun H1 locs1 hw1 => ?_)
  have := k2 p e s m args below meth c R Q n0 w0 H1 locs1 ls C hin hR (by omega) (by omega) hw1 hl ht
  rw [dn_cnt h1 hm, dn_cnt h2 hm']
  exact this
/-- the same over a row that goes on from ws -/
theorem app_get {ws cells : List va_E} {k : Nat} {e : va_E} (h : cells[k]? = some e) : (ws ++ cells)[ws.length + k]? = some e := by rw [List.getElem?_append_right (Nat.le_add_right _ _), Nat.add_sub_cancel_left]; exact h
theorem app_set {ws cells cells' : List va_E} {k : Nat} {e : va_E} (h : cells.set k e = cells') : (ws ++ cells).set (ws.length + k) e = ws ++ cells' := by rw [List.set_append_right _ _ (Nat.le_add_right _ _), Nat.add_sub_cancel_left, h]
section RXs
variable {l : Launch} {G : Geo} {μ ν : Mu} {d d2 pc k : Nat} {L L2 : List (Option Value)} {st : List Value} {ws cells cells' es' : List va_E}
theorem rx_newI {x : Int} {N : Nat} (w : Cond.arrayClass .int ∈ tW) (hx : 0 ≤ w32 x ∧ (w32 x).toNat = N) (hb4 : N * componentBytes .int ≤ 536870912) (hk : cells.length = k) (hc : cells ++ [.inl (G.2.2.2 0, N, .inl (fun _ => Int32.ofInt 0))] = cells') (hd : decode μ.2.1 pc = .ok (.newarray .int, 2)) (kk : RD l G μ d (pc + 2) L (vA G (ws.length + k) :: st) (ws ++ cells') es') : RD l G μ d pc L (vI x :: st) (ws ++ cells) es' := rd_newI w hx hb4 hd (by rw [List.append_assoc, hc, List.length_append, hk]; exact kk)
theorem rx_newB {x : Int} {N : Nat} (w : Cond.arrayClass .byte ∈ tW) (hx : 0 ≤ w32 x ∧ (w32 x).toNat = N) (hb4 : N * componentBytes .byte ≤ 536870912) (hk : cells.length = k) (hc : cells ++ [.inl (G.2.2.2 1, N, .inl (fun _ => Int32.ofInt 0))] = cells') (hd : decode μ.2.1 pc = .ok (.newarray .byte, 2)) (kk : RD l G μ d (pc + 2) L (vA G (ws.length + k) :: st) (ws ++ cells') es') : RD l G μ d pc L (vI x :: st) (ws ++ cells) es' := rd_newB w hx hb4 hd (by rw [List.append_assoc, hc, List.length_append, hk]; exact kk)
theorem rx_newZ {x : Int} {N : Nat} (w : Cond.arrayClass .boolean ∈ tW) (hx : 0 ≤ w32 x ∧ (w32 x).toNat = N) (hb4 : N * componentBytes .boolean ≤ 536870912) (hk : cells.length = k) (hc : cells ++ [.inl (G.2.2.2 2, N, .inl (fun _ => Int32.ofInt 0))] = cells') (hd : decode μ.2.1 pc = .ok (.newarray .boolean, 2)) (kk : RD l G μ d (pc + 2) L (vA G (ws.length + k) :: st) (ws ++ cells') es') : RD l G μ d pc L (vI x :: st) (ws ++ cells) es' := rd_newZ w hx hb4 hd (by rw [List.append_assoc, hc, List.length_append, hk]; exact kk)
theorem rx_anew {x : Int} {N t idx : Nat} {C : String} (ht : (tyl G)[t]? = some (G.2.2.2 t, .object C)) (hAO : ∀ s, Bn s → va_AO C s) (w : Cond.classLink μ.2.2.2.2 idx C ∈ tW) (hx : 0 ≤ w32 x ∧ (w32 x).toNat = N) (hb4 : N * 4 ≤ 536870912) (hk : cells.length = k) (hc : cells ++ [.inl (G.2.2.2 t, N, .inr (.inr (.inr (.inr (fun _ => none)))))] = cells') (hd : decode μ.2.1 pc = .ok (.anewarray idx, 3)) (kk : RD l G μ d (pc + 3) L (vA G (ws.length + k) :: st) (ws ++ cells') es') : RD l G μ d pc L (vI x :: st) (ws ++ cells) es' := rd_anew ht hAO w hx hb4 hd (by rw [List.append_assoc, hc, List.length_append, hk]; exact kk)
theorem rx_new {idx ci : Nat} {fs : List Value} (f : FN μ.2.2.2.2 idx ci fs) (hk : cells.length = k) (hc : cells ++ [.inr (ci, fs)] = cells') (hd : decode μ.2.1 pc = .ok (.new idx, 3)) (kk : RD l G μ d (pc + 3) L (vA G (ws.length + k) :: st) (ws ++ cells') es') : RD l G μ d pc L st (ws ++ cells) es' := rd_new f hd (by rw [List.append_assoc, hc, List.length_append, hk]; exact kk)
theorem rx_put {idx ci j : Nat} {ty : FieldType} {fin : Bool} {fs : List Value} {v : Value} (f : FQ μ.2.2.2.2 idx ci j ty fin) (hi : cells[k]? = some (.inr (ci, fs))) (hj : j < fs.length) (hn : narrow ty v = v) (hfit : fits ty v = true) (hc : cells.set k (.inr (ci, fs.set j v)) = cells') (hd : decode μ.2.1 pc = .ok (.putfield idx, 3)) (kk : RD l G μ d (pc + 3) L st (ws ++ cells') es') : RD l G μ d pc L (v :: vA G (ws.length + k) :: st) (ws ++ cells) es' := rd_put f (app_get hi) hj hn hfit (app_set hc) hd kk
theorem rx_getR {b idx ci j : Nat} {ty : FieldType} {fin : Bool} {fs : List Value} (f : FQ μ.2.2.2.2 idx ci j ty fin) (hi : cells[k]? = some (.inr (ci, fs))) (hj : fs[j]? = some (vA G b)) (hd : decode μ.2.1 pc = .ok (.getfield idx, 3)) (kk : RD l G μ d (pc + 3) L (vA G b :: st) (ws ++ cells) es') : RD l G μ d pc L (vA G (ws.length + k) :: st) (ws ++ cells) es' := rd_getR f (app_get hi) hj hd kk
theorem rx_aast {ka kv ci t N j : Nat} {C : String} {T : u_T} {NN : Nat} {x : Int} {f : Nat → Option Nat} {vs : List Value} (ht : (tyl G)[t]? = some (G.2.2.2 t, .object C)) (ha : cells[ka]? = some (.inl (G.2.2.2 t, N, .inr (.inr (.inr (.inr f)))))) (hv : cells[kv]? = some (.inr (ci, vs))) (hc : CC[ci]? = some (C, T, NN)) (hx : 0 ≤ w32 x ∧ (w32 x).toNat = j) (hj : j < N) (he : cells.set ka (.inl (G.2.2.2 t, N, .inr (.inr (.inr (.inr (va_up f j (some (G.1 + (ws.length + kv))))))))) = cells') (hd : decode μ.2.1 pc = .ok (.aastore, 1)) (kk : RD l G μ d (pc + 1) L st (ws ++ cells') es') : RD l G μ d pc L (vA G (ws.length + kv) :: vI x :: vA G (ws.length + ka) :: st) (ws ++ cells) es' := rd_aast ht (app_get ha) (app_get hv) hc hx hj (app_set he) hd kk
theorem rx_iast {ka N j : Nat} {x y : Int} {f : Nat → Int} (ha : cells[ka]? = some (.inl (G.2.2.2 0, N, .inl (fun q => Int32.ofInt (f q))))) (hx : 0 ≤ w32 x ∧ (w32 x).toNat = j) (hj : j < N) (he : cells.set ka (.inl (G.2.2.2 0, N, .inl (fun q => Int32.ofInt (if q = j then y else f q)))) = cells') (hd : decode μ.2.1 pc = .ok (.iastore, 1)) (kk : RD l G μ d (pc + 1) L st (ws ++ cells') es') : RD l G μ d pc L (vI y :: vI x :: vA G (ws.length + ka) :: st) (ws ++ cells) es' := rd_iast (app_get ha) hx hj (app_set he) hd kk
theorem rx_callI {S As : List Value} {idx n : Nat} {obj : va_E} {cN : Nat → List va_E} (w : FI μ.2.2.2.2 idx ν n) (hS : S = As.reverse ++ vA G (ws.length + k) :: st) (hn : As.length = n) (hst : (st.map fun v => v.category).sum ≤ 8) (hdd : d2 + 1 ≤ d) (hd : decode μ.2.1 pc = .ok (.invokespecial idx, 3)) (con : ∀ ws' : List va_E, RCon l G ν d2 (vA G ws'.length :: As) (ws' ++ [obj]) (ws' ++ cN ws'.length)) (hk : cells.length = k) {cells2 : List va_E} (hc : cells ++ [obj] = cells2) (hc2 : cells ++ cN (ws.length + k) = cells') (kk : RD l G μ d (pc + 3) L st (ws ++ cells') es') : RD l G μ d pc L S (ws ++ cells2) es' := by
  have hcon := con (ws ++ cells)
  rw [List.length_append, hk, List.append_assoc, List.append_assoc, hc, hc2] at hcon
  exact rd_callI w hS hn hst hdd hd hcon kk
end RXs
end RDs
