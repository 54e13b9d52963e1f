/-! making objects: the heap as a row of cells from G.1 on -/
def eSl (e : va_E) : Nat := match e with
  | .inl a => a.2.1
  | .inr o => o.2.length
def tsl (es : List va_E) : Nat := (es.map eSl).sum
def rW (G : Geo) (es : List va_E) : va_W := es.zipIdx.map (fun q => (G.1 + q.2, q.1))
theorem tsl_app (a b : List va_E) : tsl (a ++ b) = tsl a + tsl b := by unfold tsl; rw [List.map_append, List.sum_append]
theorem rW_get (G : Geo) (es : List va_E) (i : Nat) : (rW G es)[i]? = es[i]?.map (fun e => (G.1 + i, e)) := by
  unfold rW
  rw [List.getElem?_map, List.getElem?_zipIdx]
  cases es[i]? <;> simp
theorem rW_len (G : Geo) (es : List va_E) : (rW G es).length = es.length := by unfold rW; rw [List.length_map, List.length_zipIdx]
theorem rW_inv {G : Geo} {es : List va_E} {i : Nat} {q : Nat × va_E} (h : (rW G es)[i]? = some q) : q.1 = G.1 + i ∧ es[i]? = some q.2 := by
  rw [rW_get] at h
  cases he : es[i]? with
  | none => rw [he] at h; cases h
  | some e => rw [he] at h; cases h; exact ⟨rfl, rfl⟩
theorem rW_D (G : Geo) (es : List va_E) : va_D (gA G) (rW G es) := by
  refine ⟨fun i j p q hp hq e => ?_, fun k q hq => ?_⟩
  · have h1 := (rW_inv hp).1
    have h2 := (rW_inv hq).1
    omega
  · show G.1 ≤ q.1
    rw [(rW_inv hq).1]
    exact Nat.le_add_right _ _
theorem rW_set (G : Geo) (es : List va_E) (i : Nat) (e : va_E) : (rW G es).set i (G.1 + i, e) = rW G (es.set i e) := by
  apply List.ext_getElem?
  intro j
  rw [List.getElem?_set, rW_get, rW_get, List.getElem?_set, rW_len]
  by_cases h : i = j
  · subst h
    rw [if_pos rfl, if_pos rfl]
    split <;> rfl
  · rw [if_neg h, if_neg h]
theorem rW_app (G : Geo) (es : List va_E) (e : va_E) : rW G (es ++ [e]) = rW G es ++ [(G.1 + es.length, e)] := by
  apply List.ext_getElem?
  intro j
  rw [rW_get, List.getElem?_append, List.getElem?_append, rW_len, rW_get]
  split
  · rfl
  · rename_i hj
    cases hk : j - es.length with
    | zero =>
      have : j = es.length := by omega
      subst this
      rfl
    | succ k => rfl
theorem tsl_set {es : List va_E} {i : Nat} {e0 e : va_E} (h : es[i]? = some e0) (he : eSl e = eSl e0) : tsl (es.set i e) = tsl es := by
  unfold tsl
  induction es generalizing i with
  | nil => cases h
  | cons a l ih =>
    cases i with
    | zero => cases h; simp [he]
    | succ i => simp only [List.set_cons_succ, List.map_cons, List.sum_cons]; rw [ih h]
def Rd (G : Geo) (es : List va_E) (s : State) (H : Heap) (locs : List Loc) : Prop :=
  va_P G.2.2.1 CC (rW G es) H ∧ va_K G.2.2.1 CC (tyl G) s ∧ va_S (gA G) s.heap H locs ∧ H.size = G.1 + es.length ∧ G.1 ≤ s.heap.size ∧ Bn s
def Rm2 (d k n : Nat) (R : Room) : Prop := d ≤ R.frames ∧ 64 * d ≤ R.locals ∧ k ≤ R.cells ∧ n ≤ R.slots
def RD (l : Launch) (G : Geo) (μ : Mu) (d pc : Nat) (L : List (Option Value)) (st : List Value) (es es' : List va_E) : Prop :=
  (es.length ≤ es'.length ∧ tsl es ≤ tsl es') ∧
    ∀ (p : Program) (e : Env) (s : State) (m : MethodId) (args : Array Value) (below : List Frame) (meth : Method) (c : Code) (R : Room) (Q : State → Prop) (n0 w0 : Nat) (H : Heap) (locs : List Loc) (ls : Array Slot),
      Cx μ p s m args meth c → meth.name = "<init>" → Rm2 d (es'.length - n0) (tsl es' - w0) R → n0 ≤ es.length → w0 ≤ tsl es → Rd G es s H locs → Lv ls μ.2.2.1 L →
      (∀ (H1 : Heap) (locs1 : List Loc) (pc1 : Nat) (ls1 : Array Slot), Rd G es' s H1 locs1 → decode μ.2.1 pc1 = .ok (.return_, 1) → W p l e R s m args below meth c H1 locs1 (es'.length - n0) (tsl es' - w0) Q (F0 m pc1 ls1 [])) →
      W p l e R s m args below meth c H locs (es.length - n0) (tsl es - w0) Q (F0 m pc ls st)
section RDs
variable {l : Launch} {G : Geo} {μ ν : Mu} {d d2 pc pc2 : Nat} {L L2 : List (Option Value)} {st st2 : List Value} {es es2 es' : List va_E}
theorem rd_go (go : ∀ {p : Program} {e : Env} {R : Room} {s : State} {m : MethodId} {args : Array Value} {below : List Frame} {meth : Method} {c : Code} {H : Heap} {locs : List Loc} {cells slots : Nat} {Q : State → Prop} (ls : Array Slot), Cx μ p s m args meth c → Rd G es s H locs → Lv ls μ.2.2.1 L → d ≤ R.frames → 64 * d ≤ R.locals → W p l e R s m args below meth c H locs cells slots Q (F0 m pc2 ls st2) → W p l e R s m args below meth c H locs cells slots Q (F0 m pc ls st))
    (k : RD l G μ d pc2 L st2 es es') : RD l G μ d pc L st es es' :=
  ⟨k.1, fun p e s m args below meth c R Q n0 w0 H locs ls C hin hR h1 h2 hw hl ht => go ls C hw hl hR.1 hR.2.1 (k.2 p e s m args below meth c R Q n0 w0 H locs ls C hin hR h1 h2 hw hl ht)⟩
theorem rd_goL (go : ∀ {p : Program} {e : Env} {R : Room} {s : State} {m : MethodId} {args : Array Value} {below : List Frame} {meth : Method} {c : Code} {H : Heap} {locs : List Loc} {cells slots : Nat} {Q : State → Prop} (ls : Array Slot), Cx μ p s m args meth c → Lv ls μ.2.2.1 L → (∀ ls' : Array Slot, Lv ls' μ.2.2.1 L2 → W p l e R s m args below meth c H locs cells slots Q (F0 m pc2 ls' st2)) → W p l e R s m args below meth c H locs cells slots Q (F0 m pc ls st))
    (k : RD l G μ d pc2 L2 st2 es es') : RD l G μ d pc L st es es' :=
  ⟨k.1, fun p e s m args below meth c R Q n0 w0 H locs ls C hin hR h1 h2 hw hl ht => go ls C hl (fun ls' hl' => k.2 p e s m args below meth c R Q n0 w0 H locs ls' C hin hR h1 h2 hw hl' ht)⟩
theorem rd_iconst {n : Int} (hd : decode μ.2.1 pc = .ok (.iconst n, 1)) (k : RD l G μ d (pc + 1) L (vI n :: st) es es') : RD l G μ d pc L st es es' := rd_go (fun _ C _ _ _ _ k => lv_iconst C.1 C.2.1 hd rfl k) k
theorem rd_bipush {n : Int} (hd : decode μ.2.1 pc = .ok (.bipush n, 2)) (hv : (Int8.ofInt n).toInt32 = Int32.ofInt n) (k : RD l G μ d (pc + 2) L (vI n :: st) es es') : RD l G μ d pc L st es es' := rd_go (fun _ C _ _ _ _ k => lv_bipush C.1 C.2.1 hd hv k) k
theorem rd_sipush {n : Int} (hd : decode μ.2.1 pc = .ok (.sipush n, 3)) (hv : (Int16.ofInt n).toInt32 = Int32.ofInt n) (k : RD l G μ d (pc + 3) L (vI n :: st) es es') : RD l G μ d pc L st es es' := rd_go (fun _ C _ _ _ _ k => lv_sipush C.1 C.2.1 hd hv k) k
theorem rd_iload_n {k : Fin 4} {i : Nat} {x : Int} (hd : decode μ.2.1 pc = .ok (.iload_n k, 1)) (hi : (k : Nat) = i) (hl : L[i]? = some (some (vI x))) (k2 : RD l G μ d (pc + 1) L (vI x :: st) es es') : RD l G μ d pc L st es es' := rd_go (fun _ C _ hL _ _ kk => lv_iload_n C.1 C.2.1 hd hi (hL.at hl) kk) k2
theorem rd_aload_n {k : Fin 4} {i x : Nat} (hd : decode μ.2.1 pc = .ok (.aload_n k, 1)) (hi : (k : Nat) = i) (hl : L[i]? = some (some (vA G x))) (k2 : RD l G μ d (pc + 1) L (vA G x :: st) es es') : RD l G μ d pc L st es es' := rd_go (fun _ C _ hL _ _ kk => lv_aload_n C.1 C.2.1 hd hi (hL.at hl) kk) k2
theorem rd_dup {v : Value} (hd : decode μ.2.1 pc = .ok (.dup, 1)) (hv : v.category = 1) (k : RD l G μ d (pc + 1) L (v :: v :: st) es es') : RD l G μ d pc L (v :: st) es es' := rd_go (fun _ C _ _ _ _ k => lv_dup C.1 C.2.1 hd hv k) k
theorem rd_imul {x y : Int} (hd : decode μ.2.1 pc = .ok (.imul, 1)) (k : RD l G μ d (pc + 1) L (vI (x * y) :: st) es es') : RD l G μ d pc L (vI y :: vI x :: st) es es' := rd_go (fun _ C _ _ _ _ k => lv_imul C.1 C.2.1 hd (by rw [i32_mul]; exact k)) k
theorem rd_istore_n {k : Fin 4} {i : Nat} {x : Int} (hd : decode μ.2.1 pc = .ok (.istore_n k, 1)) (hi : (k : Nat) = i) (hn : i < μ.2.2.1) (hL : st1 L i (vI x) = L2) (k2 : RD l G μ d (pc + 1) L2 st es es') : RD l G μ d pc L (vI x :: st) es es' := rd_goL (fun _ C hl kk => lv_istore_n C.1 C.2.1 hd hi hl hn rfl (fun ls h1 => kk ls (Lv_st1 h1 hL))) k2
theorem rd_iinc {i : Nat} {n x : Int} (hd : decode μ.2.1 pc = .ok (.iinc i n, 3)) (hn : i < μ.2.2.1) (hl : L[i]? = some (some (vI x))) (hL : st1 L i (vI (x + n)) = L2) (k2 : RD l G μ d (pc + 3) L2 st es es') : RD l G μ d pc L st es es' := rd_goL (fun _ C hv kk => by
  obtain ⟨q, hq⟩ := List.getElem?_of_mem (mem_lvl.mpr hl)
  exact lv_iinc C.1 C.2.1 hd hv hq (i32_add x n) hn rfl (fun ls h1 => kk ls (Lv_st1 h1 hL))) k2
theorem rd_geT {x y off : Int} {tgt : Nat} (hd : decode μ.2.1 pc = .ok (.if_icmp .ge off, 3)) (ht : (pc : Int) + off = (tgt : Int)) (hc : w32 y ≤ w32 x) (k : RD l G μ d tgt L st es es') : RD l G μ d pc L (vI y :: vI x :: st) es es' := rd_go (fun _ C _ _ _ _ k => lv_icmp_ge C.1 C.2.1 hd ht (fun _ => k) (fun q => absurd (i32_le.mpr hc) q)) k
theorem rd_geF {x y off : Int} {tgt : Nat} (hd : decode μ.2.1 pc = .ok (.if_icmp .ge off, 3)) (ht : (pc : Int) + off = (tgt : Int)) (hc : ¬ w32 y ≤ w32 x) (k : RD l G μ d (pc + 3) L st es es') : RD l G μ d pc L (vI y :: vI x :: st) es es' := rd_go (fun _ C _ _ _ _ k => lv_icmp_ge C.1 C.2.1 hd ht (fun q => absurd (i32_le.mp q) hc) (fun _ => k)) k
theorem rd_goto {off : Int} {tgt : Nat} (hd : decode μ.2.1 pc = .ok (.goto off, 3)) (ht : (pc : Int) + off = (tgt : Int)) (k : RD l G μ d tgt L st es es') : RD l G μ d pc L st es es' := rd_go (fun _ C _ _ _ _ k => lv_goto C.1 C.2.1 hd ht k) k
theorem rd_obj {idx a : Nat} (w : Cond.methodLink μ.2.2.2.2 idx Lib.objectInit ∈ tW ∧ Cond.instanceMethod Lib.objectInit ∈ tW ∧ Cond.code Lib.objectInit ⟨#[0xb1]⟩ 1 none ∈ tW) (hst : (st.map fun v => v.category).sum ≤ 8) (hd1 : 1 ≤ d) (hd : decode μ.2.1 pc = .ok (.invokespecial idx, 3)) (k : RD l G μ d (pc + 3) L st es es') : RD l G μ d pc L (vA G a :: st) es es' := rd_go (fun ls C _ hl h1 h2 k => W.objInit C.1 C.2.1 C.2.2.2.2.2.1 (C.2.2.2.2.2.2 _ w.1) (C.2.2.2.2.2.2 _ w.2.1) (C.2.2.2.2.2.2 _ w.2.2) rfl (by show ls.size = _; rw [hl.size, C.2.2.1]) rfl hd (by omega) (by show 2 * 0 + _ + 12 ≤ _; omega) k) k
theorem rd_ret (hd : decode μ.2.1 pc = .ok (.return_, 1)) : RD l G μ d pc L [] es es := ⟨⟨Nat.le_refl _, Nat.le_refl _⟩, fun p e s m args below meth c R Q n0 w0 H locs ls C hin hR h1 h2 hw hl ht => ht H locs pc ls hw hd⟩
/-- a field of the object under way -/
def FQ (own : String) (idx ci k : Nat) (ty : FieldType) (fin : Bool) : Prop := ∃ (C : String) (T : u_T) (N : Nat) (ty0 : Nat → FieldType), CC[ci]? = some (C, T, N) ∧ (∀ w ∈ u_ws C T N, w ∈ tW) ∧ (∀ k, k < N → parseFieldDescriptor (T k).2.2.1 = some (ty0 k)) ∧ (∀ a, a < N → ∀ b, b < N → a ≠ b → (T a).2.1 ≠ (T b).2.1) ∧ k < N ∧ Cond.fieldLink own idx (T k).1 (T k).2.1 (T k).2.2.1 ∈ tW ∧ (T k).2.2.2 = fin ∧ parseFieldDescriptor (T k).2.2.1 = some ty ∧ (T k).1 = own
theorem rd_put {i idx ci k : Nat} {ty : FieldType} {fin : Bool} {fs : List Value} {v : Value} (f : FQ μ.2.2.2.2 idx ci k ty fin) (hi : es[i]? = some (.inr (ci, fs))) (hk : k < fs.length) (hn : narrow ty v = v) (hfit : fits ty v = true) (he2 : es.set i (.inr (ci, fs.set k v)) = es2) (hd : decode μ.2.1 pc = .ok (.putfield idx, 3)) (kk : RD l G μ d (pc + 3) L st es2 es') : RD l G μ d pc L (v :: vA G i :: st) es es' := by
  subst he2
  have hlen : (es.set i (.inr (ci, fs.set k v))).length = es.length := List.length_set
  have htsl : tsl (es.set i (.inr (ci, fs.set k v))) = tsl es := tsl_set hi (by show (fs.set k v).length = fs.length; rw [List.length_set])
  obtain ⟨k1, k2⟩ := kk
  rw [hlen, htsl] at k1 k2
  refine ⟨k1, fun p e s m args below meth c R Q n0 w0 H locs ls Cc hin hR h1 h2 hw hl ht => ?_⟩
  obtain ⟨C, T, N, ty0, f1, f2, f3, f4, f5, f7, f9, f10, f11⟩ := f
  have hts := Cc.2.2.2.2.2.2
  have hD := rW_D G es
  have he : (rW G es)[i]? = some (G.1 + i, .inr (ci, fs)) := by rw [rW_get, hi]; rfl
  have hap := va_apart (own := μ.2.2.2.2) hts f2 ty0 f3 f4 hw.2.1 f1
  obtain ⟨r, h1', cell, q1, q2, q3, q4⟩ := hw.1 i _ he
  have hr : r = (C, T, N) := Option.some.inj (h1'.symm.trans f1)
  subst hr
  obtain ⟨hS, hfc, kC, hkC, hkind⟩ := hw.2.1.1 ci _ f1
  obtain ⟨cf, kf, fi, fd, hi2, hsl⟩ := hS k f5
  have hlay := hts _ (f2 _ (u_in_lay f5))
  unfold u_lay at hlay
  have hst := (u_facts hfc hkC (u_lays hts f2 f5) hi2).1
  have fini : ∀ (H' : Heap) (locs' : List Loc), H'[G.1 + i]? = some (cell.setSlot (G.2.2.1.2 ci k) v) → H'.size = H.size → (∀ q, q ≠ G.1 + i → H'[q]? = H[q]?) → locs' = locs ++ [⟨G.1 + i, G.2.2.1.2 ci k⟩] → W p l e R s m args below meth c H' locs' (es.length - n0) (tsl es - w0) Q (F0 m (pc + 3) ls st) := by
    intro H' locs' e1 e2 e3 e4
    subst e4
    have hP := hw.1.set hD he (e := .inr (ci, fs.set k v)) ⟨_, f1, t_OB.to (V := updV (vp_V fs) k v) ⟨_, e1, q2, q3, t_set q4 hap f5 v⟩ (fun j _ => vp_updV_set hk v j)⟩ e3
    rw [rW_set] at hP
    exact k2 p e s m args below meth c R Q n0 w0 H' _ ls Cc hin hR h1 h2 ⟨hP, hw.2.1, hw.2.2.1.put e2 e3 (hD.2 i _ he), by rw [e2, hlen]; exact hw.2.2.2.1, hw.2.2.2.2⟩ hl ht
  cases fin with
  | false =>
    rw [if_neg (by rw [f9]; decide)] at hlay
    have h6 := u_store hfc hkC hkind hlay hi2 f10 hn hfit
    refine W.putK Cc.1 Cc.2.1 (f := fd) ⟨Cc.2.2.2.2.2.1, hts _ f7, ⟨_, _, _, hi2⟩, hst⟩ (by rw [q2]; exact h6) q1 q3 (by rw [hsl]; exact k2_hasslot (q4 k f5)) rfl rfl hd fun H' e1 e2 e3 => ?_
    rw [hsl] at e1 ⊢
    exact fini H' _ e1 e2 e3 rfl
  | true =>
    rw [if_pos f9] at hlay
    have hcf : m.cls = cf := by
      obtain ⟨_, _, c', _, _, _, -, -, hf', -, -, -, hown2, -⟩ := Cond.laysFinal_spec hlay
      have e1 : c' = cf := by have := hi2.symm.trans hf'; simp at this; exact this.1.symm
      rw [f11] at hown2
      rw [← e1]; exact Option.some.inj (Cc.2.2.2.2.2.1.symm.trans hown2)
    have h6 := u_fits hfc hkC hkind (Or.inr hlay) hi2 f10 hn hfit
    refine W.putFinK Cc.1 Cc.2.1 Cc.2.2.2.2.2.1 (hts _ f7) hi2 hst hcf hin (by rw [q2]; exact h6) q1 q3 (by rw [hsl]; exact k2_hasslot (q4 k f5)) rfl rfl hd fun H' e1 e2 e3 => ?_
    rw [hsl] at e1 ⊢
    exact fini H' _ e1 e2 e3 rfl
end RDs
