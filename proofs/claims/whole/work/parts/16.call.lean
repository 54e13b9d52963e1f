/-! calls: a method's contract out of Den, and its use; System.arraycopy -/
def QU (G : Geo) (v : Option Value) (h' : AH) : Array Value → State → Outcome → State → Prop := fun _ st oc t => oc = .returned v ∧ t.heap.size = G.1 + sz h'.1 ∧ va_P G.2.2.1 CC (aW G h') t.heap ∧ va_F (gA G) st t
def PU (G : Geo) (h : AH) (U : State) : Prop := U.heap.size = G.1 + sz h.1 ∧ va_P G.2.2.1 CC (aW G h) U.heap ∧ va_K G.2.2.1 CC (tyl G) U ∧ Sp G U U.heap
def Con (l : Launch) (G : Geo) (μ : Mu) (rv : Int → Option Value) (d : Nat) (As : List Value) (h : AH) (f : Option (Int × AH)) : Prop :=
  ∀ (r : Int) (h' : AH), f = some (r, h') → (h.1 ≤ h'.1 ∧ RO μ.2.2.2.1 r h'.1) ∧ Met l μ.1 (wsM μ) ({ frames := d, cells := sz h'.1 - sz h.1, slots := sl h'.1 - sl h.1, locals := 64 * d }) (va_Pc As (PU G h)) (QU G (rv r) h') (sz h'.1 - sz h.1) (sl h'.1 - sl h.1) (gA G)
section Calls2
variable {l : Launch} {G : Geo} {μ ν : Mu} {rv rw : Int → Option Value} {d d2 pc : Nat} {L : List (Option Value)} {st : List Value} {h : AH} {res : Option (Int × AH)}
theorem con_of {As : List Value} {f : Option (Int × AH)} {L : List (Option Value)} (hy : plainName μ.1.cls = true) (hown : μ.1.cls = μ.2.2.2.2) (hL : lvl L = lv_args 0 As) (hlen : (lg_sl As).length ≤ μ.2.2.1)
    (hret : ∀ {p : Program} {e : Env} {R : Room} {s : State} {m : MethodId} {args : Array Value} {below : List Frame} {meth : Method} {c : Code} {H : Heap} {locs : List Loc} {cells slots : Nat} {Qc : Array Value → State → Outcome → State → Prop} {free : Addr → Prop} {r : Int} {pc : Nat} {ls : Array Slot}, (∃ h' : AH, f = some (r, h')) → p.tables.exec = Jvm.exec → c.code = μ.2.1 → meth.sig.returnType = μ.2.2.2.1 → meth.locks = false → RK μ.2.2.2.1 r → (∀ t : State, t.heap = H → s.WarmedH t.vm → Qc args s (.returned (rv r)) t) → (∀ q ∈ locs, free q.base) → decode μ.2.1 pc = .ok (rti μ.2.2.2.1, 1) → W p l e R s m args below meth c H locs cells slots (MQ below Qc args s cells slots free) (F0 m pc ls (rv r).toList))
    (hD : Den l G μ rv d 0 L [] h f) : Con l G μ rv d As h f := by
  intro r h' hf
  obtain ⟨hm, k⟩ := hD r h' hf
  refine ⟨hm, Met.ofW (cc := μ.2.1) (maxL := μ.2.2.1) (ret := μ.2.2.2.1) hy rfl ?_⟩
  intro p e s m args below meth c s₁ B hml hv
  obtain ⟨rfl, hsz, hP, hK, hSp⟩ := hv
  have hts := atoms_spec (ws := wsM μ) B.pre
  have hown2 : s.vm.findClass μ.2.2.2.2 = some m.cls := by rw [← hown]; exact findClass_of_methodNamed B.named
  have hl := lv_entry As (n := μ.2.2.1) hlen
  rw [lg_entry_eq]
  generalize (lg_sl As ++ List.replicate (μ.2.2.1 - (lg_sl As).length) Slot.unset).toArray = ls at hl ⊢
  have hw : Wd G h s s.heap [] := ⟨hP, hK, va_S.rf, hsz, by rw [hsz]; exact Nat.le_add_right _ _, hSp⟩
  have := k p e s m As.toArray below meth c (headSpec (wsM μ) ({ frames := d, cells := sz h'.1 - sz h.1, slots := sl h'.1 - sl h.1, locals := 64 * d })).room (MQ below (QU G (rv r) h') As.toArray s (sz h'.1 - sz h.1) (sl h'.1 - sl h.1) (gA G)) (sz h.1, sl h.1) s.heap [] ls ⟨B.exec, B.bytes, hml, B.returns, B.notSynchronized, hown2, fun w hw => hts w (List.mem_cons_of_mem _ hw)⟩ ⟨Nat.le_refl _, Nat.le_refl _, Nat.le_refl _, Nat.le_refl _⟩ ⟨Nat.le_refl _, Nat.le_refl _⟩ hw (by unfold Lv; rw [hL]; exact hl)
    (fun H1 locs1 pc1 ls1 hw1 hd1 hk1 => hret ⟨h', hf⟩ B.exec B.bytes B.returns B.notSynchronized hk1 (fun t ht hW => ⟨rfl, by rw [ht]; exact hw1.2.2.2.1, by rw [ht]; exact hw1.1, hw1.2.2.1.F ht⟩) hw1.2.2.1.2.2 hd1)
  rwa [Nat.sub_self, Nat.sub_self] at this
theorem con_I {As : List Value} {f : Option (Int × AH)} {L : List (Option Value)} (hr : μ.2.2.2.1 = some .int) (hy : plainName μ.1.cls = true) (hown : μ.1.cls = μ.2.2.2.2) (hL : lvl L = lv_args 0 As) (hlen : (lg_sl As).length ≤ μ.2.2.1) (hD : Den l G μ rvI d 0 L [] h f) : Con l G μ rvI d As h f := by
  refine con_of hy hown hL hlen (fun _ hx hb hrt hlk _ hq hf hd => ?_) hD
  rw [hr] at hrt hd
  exact W.iret hx hb hrt hq hf hd hlk
theorem con_Z {As : List Value} {f : Option (Int × AH)} {L : List (Option Value)} (hr : μ.2.2.2.1 = some .boolean) (hy : plainName μ.1.cls = true) (hown : μ.1.cls = μ.2.2.2.2) (hL : lvl L = lv_args 0 As) (hlen : (lg_sl As).length ≤ μ.2.2.1) (hD : Den l G μ rvI d 0 L [] h f) : Con l G μ rvI d As h f := by
  refine con_of hy hown hL hlen (fun {_ _ _ _ _ _ _ _ _ _ _ _ _ _ _ r _ _} _ hx hb hrt hlk hk hq hf hd => ?_) hD
  rw [hr] at hrt hd hk
  refine W.zret hx hb hrt ?_ hq hf hd hlk
  have e : Int32.ofInt r = 0 ∨ Int32.ofInt r = 1 := hk.elim (fun q => Or.inl (i32_eq0.mpr q)) (fun q => Or.inr ((i32_eq (y := 1)).mpr q))
  rcases e with e | e <;> rw [e] <;> rfl
theorem con_J {As : List Value} {f : Option (Int × AH)} {L : List (Option Value)} (hr : μ.2.2.2.1 = some .long) (hy : plainName μ.1.cls = true) (hown : μ.1.cls = μ.2.2.2.2) (hL : lvl L = lv_args 0 As) (hlen : (lg_sl As).length ≤ μ.2.2.1) (hD : Den l G μ rvJ d 0 L [] h f) : Con l G μ rvJ d As h f := by
  refine con_of hy hown hL hlen (fun _ hx hb hrt hlk _ hq hf hd => ?_) hD
  rw [hr] at hrt hd
  exact W.lret hx hb hrt hq hf hd hlk
theorem con_V {As : List Value} {f : Option (Int × AH)} {L : List (Option Value)} (hr : μ.2.2.2.1 = none) (hy : plainName μ.1.cls = true) (hown : μ.1.cls = μ.2.2.2.2) (hL : lvl L = lv_args 0 As) (hlen : (lg_sl As).length ≤ μ.2.2.1) (hD : Den l G μ rvV d 0 L [] h f) : Con l G μ rvV d As h f := by
  refine con_of hy hown hL hlen (fun _ hx hb hrt hlk _ hq hf hd => ?_) hD
  rw [hr] at hrt hd
  exact W.vret hx hb hrt hq hf hd hlk
theorem con_R {As : List Value} {f : Option (Int × AH)} {L : List (Option Value)} {C : String} (hr : μ.2.2.2.1 = some (.object C)) (hy : plainName μ.1.cls = true) (hown : μ.1.cls = μ.2.2.2.2) (hL : lvl L = lv_args 0 As) (hlen : (lg_sl As).length ≤ μ.2.2.1) (hD : Den l G μ (rvR G) d 0 L [] h f) : Con l G μ (rvR G) d As h f := by
  refine con_of hy hown hL hlen (fun {_ _ _ _ _ _ _ _ _ _ _ _ _ _ _ r _ _} _ hx hb hrt hlk _ hq hf hd => ?_) hD
  rw [hr] at hrt hd
  refine W.aret hx hb hrt (Or.inl ⟨C, rfl⟩) ?_ hq hf hd hlk
  by_cases q : r < 0
  · exact Or.inl (vR_neg G q)
  · exact Or.inr ⟨_, vR_pos G q⟩
theorem con_T {As : List Value} {f : Option (Int × AH)} {L : List (Option Value)} {ty : FieldType} (hr : μ.2.2.2.1 = some ty) (hi : rti (some ty) = .ireturn) (hn : ∀ (r : Int) (h' : AH), f = some (r, h') → narrow ty (vI r) = vI r) (hy : plainName μ.1.cls = true) (hown : μ.1.cls = μ.2.2.2.2) (hL : lvl L = lv_args 0 As) (hlen : (lg_sl As).length ≤ μ.2.2.1) (hD : Den l G μ rvI d 0 L [] h f) : Con l G μ rvI d As h f := by
  refine con_of hy hown hL hlen (fun hf hx hb hrt hlk _ hq hfr hd => ?_) hD
  rw [hr] at hrt hd
  rw [hi] at hd
  obtain ⟨h', hf⟩ := hf
  exact W.zret hx hb hrt (hn _ h' hf) hq hfr hd hlk
theorem PU_blind {As : List Value} : FrameBlind (va_Pc As (PU G h)) := fun a U g mk q => by
  obtain ⟨q0, q1, q2, q3, q4⟩ := q
  exact ⟨q0, q1, q2, va_K.moved (u := U) (U := U.calling g mk a) (Vm.Alike.refl U.vm) q3, Sp.same (u := U) (U := U.calling g mk a) rfl q4⟩
theorem PU_of {s U : State} {H : Heap} {locs : List Loc} (hw : Wd G h s H locs) (hU : U.heap = H) (hW : s.WarmedH U.vm) : PU G h U := by
  refine ⟨by rw [hU]; exact hw.2.2.2.1, by rw [hU]; exact hw.1, va_K.moved hW.alike hw.2.1, ?_⟩
  rw [hU]
  exact Sp.warm hW (Sp.kept hw.2.2.1.2.1 hw.2.2.2.2.2)
theorem dn_run {p : Program} {e : Env} {R : Room} {s : State} {m : MethodId} {args : Array Value} {below : List Frame} {meth : Method} {c : Code} {H : Heap} {locs : List Loc} {cells slots mc ms : Nat} {Q : State → Prop} {ls : Array Slot} {st0 rest : List Value} {a : Array Value} {v : Option Value} {h1 : AH}
    (hr : va_Run p l e R s m args below meth c H locs cells slots mc ms (F0 m pc ls st0) rest (QU G v h1 a) (gA G)) (hw : Wd G h s H locs)
    (kk : ∀ (H1 : Heap) (locs1 : List Loc), Wd G h1 s H1 locs1 → W p l e R s m args below meth c H1 locs1 (cells + mc) (slots + ms) Q (F0 m (pc + 3) ls (v.toList ++ rest))) : W p l e R s m args below meth c H locs cells slots Q (F0 m pc ls st0) := by
  intro T hT X
  obtain ⟨v', st₀, t, T', Lc, h0, X', hL, e1, e2, ⟨hv, hz, hP, hF⟩, stp⟩ := hr T hT X
  cases hv
  have hS := hw.2.2.1
  obtain ⟨hF1, hF2⟩ := hF
  rw [h0] at hF1 hF2
  have hw1 : Wd G h1 s T'.heap (locs ++ Lc) := by
    refine ⟨by rw [e1]; exact hP, hw.2.1, ⟨by rw [e1]; exact Nat.le_trans hS.1 hF1, fun q g1 g2 => ?_, fun q hq => ?_⟩, by rw [e1]; exact hz, hw.2.2.2.2⟩
    · rw [e1, hF2 q (Nat.lt_of_lt_of_le g1 hS.1) g2]
      exact hS.2.1 q g1 g2
    · rcases List.mem_append.mp hq with z | z
      · exact hS.2.2 q z
      · exact hL q z
  obtain ⟨t2, a1, b1⟩ := kk T'.heap _ hw1 T' rfl X'
  exact ⟨t2, stp t2 a1, b1⟩
/-- a method of ours that is called on an object; one that is static -/
def FV (own : String) (idx : Nat) (ν : Mu) (ci n : Nat) : Prop := (Cond.methodLink own idx ν.1 ∈ tW ∧ Cond.instanceMethod ν.1 ∈ tW ∧ Cond.selects ν.1.cls ν.1 ν.1 ∈ tW ∧ Cond.initialized ν.1.cls ∈ tW ∧ Cond.code ν.1 ν.2.1 ν.2.2.1 ν.2.2.2.1 ∈ tW) ∧ (ν.1.cls ≠ "java/lang/invoke/MethodHandle" ∧ ν.1.cls ≠ "java/lang/invoke/VarHandle" ∧ (parseMethodDescriptor ν.1.desc).map (fun d => d.parameters.length) = some n) ∧ ν.2.2.1 ≤ 45 ∧ (CC[ci]?).map (fun q => q.1) = some ν.1.cls
def FS (own : String) (idx : Nat) (ν : Mu) (n : Nat) : Prop := (Cond.methodLink own idx ν.1 ∈ tW ∧ Cond.static ν.1 ∈ tW ∧ Cond.initialized ν.1.cls ∈ tW ∧ Cond.code ν.1 ν.2.1 ν.2.2.1 ν.2.2.2.1 ∈ tW) ∧ (ν.1.cls ≠ "java/lang/invoke/MethodHandle" ∧ ν.1.cls ≠ "java/lang/invoke/VarHandle" ∧ (parseMethodDescriptor ν.1.desc).map (fun d => d.parameters.length) = some n) ∧ ν.2.2.1 ≤ 45
theorem dn_good {ws : List Cond} (h1 : ∀ w ∈ ws, w ∈ tW) (hc : Cond.code ν.1 ν.2.1 ν.2.2.1 ν.2.2.2.1 ∈ tW) : GoodIn tW (ws ++ wsM ν) := by
  intro w hw
  refine tW_good w ?_
  rcases List.mem_append.mp hw with q | q
  · exact h1 w q
  · rcases List.mem_cons.mp q with q | q
    · rw [q]; exact hc
    · exact q
theorem dn_cnt {a b c : Nat} (h1 : c ≤ a) (h2 : a ≤ b) : (a - c) + (b - a) = b - c := by omega
def FK (own : String) (idx : Nat) (ν : Mu) (n : Nat) : Prop := (Cond.methodLink own idx ν.1 ∈ tW ∧ Cond.instanceMethod ν.1 ∈ tW ∧ Cond.selects ν.1.cls ν.1 ν.1 ∈ tW ∧ Cond.initialized ν.1.cls ∈ tW ∧ Cond.code ν.1 ν.2.1 ν.2.2.1 ν.2.2.2.1 ∈ tW) ∧ (ν.1.cls ≠ "java/lang/invoke/MethodHandle" ∧ ν.1.cls ≠ "java/lang/invoke/VarHandle" ∧ (parseMethodDescriptor ν.1.desc).map (fun d => d.parameters.length) = some n) ∧ ν.2.2.1 ≤ 45
theorem den_callK {S As : List Value} {b idx n : Nat} {f : Option (Int × AH)} {K : Int → AH → Option (Int × AH)} (w : FK μ.2.2.2.2 idx ν n) (hS : S = As.reverse ++ Value.ref b :: st) (hn : As.length = n) (hrec : ∀ {s : State} {H : Heap} {locs : List Loc}, Wd G h s H locs → ∃ cell : Cell, H[b]? = some cell ∧ cell.vm.isStatics = false ∧ s.vm.findClass ν.1.cls = some cell.cls) (hst : (st.map fun v => v.category).sum ≤ 8) (hdd : d2 + 1 ≤ d) (hd : decode μ.2.1 pc = .ok (.invokevirtual idx, 3)) (con : Con l G ν rw d2 (Value.ref b :: As) h f)
    (k : ∀ (r : Int) (h1 : AH), f = some (r, h1) → h.1 ≤ h1.1 → RO ν.2.2.2.1 r h1.1 → Den l G μ rv d (pc + 3) L ((rw r).toList ++ st) h1 (K r h1)) : Den l G μ rv d pc L S h (bnd f K) := by
  intro r h' hr
  subst hS
  cases hf : f with
  | none => rw [hf] at hr; cases hr
  | some z =>
    obtain ⟨r1, h1⟩ := z
    rw [hf, bnd_some] at hr
    obtain ⟨⟨hm, hro⟩, hM⟩ := con r1 h1 hf
    obtain ⟨⟨hm2, hro2⟩, k2⟩ := k r1 h1 hf hm hro r h' hr
    refine ⟨⟨Nat.le_trans hm hm2, hro2⟩, fun p e s m args below meth c R Q n0 H locs ls C hR hn0 hw hl ht => ?_⟩
    obtain ⟨⟨w1, w2, w3, w4, w5⟩, w6, w7⟩ := w
    have hts := C.2.2.2.2.2.2
    have hrecv := hrec hw
    have hG : GoodIn tW (wsV μ.2.2.2.2 idx ν.1.cls ν.1 (wsM ν)) := dn_good (by
      intro x hx
      simp only [List.mem_cons, List.not_mem_nil, or_false] at hx
      rcases hx with rfl | rfl | rfl | rfl
      · exact w1
      · exact w2
      · exact w3
      · exact w4) w5
    have hz1 := hn0.1
    have hz2 := sz_mono hm
    have hz3 := sz_mono hm2
    have hy1 := hn0.2
    have hy2 := sl_mono hm
    have hy3 := sl_mono hm2
    have hR3 := hR.2.2.1
    have hR4 := hR.2.2.2
    have hR1 := hR.1
    have hR2 := hR.2.1
    have hrun := va_runV (As := As) (rest := st) (g := F0 m pc ls (As.reverse ++ Value.ref b :: st)) (cells := sz h.1 - n0.1) (slots := sl h.1 - n0.2) (below := below) (meth := meth) (locs := locs) (e := e) ⟨C.1, C.2.1, C.2.2.1, C.2.2.2.2.2.1, hts⟩ hM
      (cwV n hts hG rfl rfl rfl ⟨rfl, w6⟩ ⟨Nat.le_trans hdd hR1, by dsimp only; omega⟩)
      ⟨PU_blind, hrecv, fun U hU hW => ⟨rfl, PU_of hw hU hW⟩⟩ rfl hn hl.size rfl (lv_room hst) hd ⟨by omega, by omega⟩
    refine dn_run hrun hw (fun H1 locs1 hw1 => ?_)
    have := k2 p e s m args below meth c R Q n0 H1 locs1 ls C hR ⟨Nat.le_trans hn0.1 hz2, Nat.le_trans hn0.2 hy2⟩ hw1 hl ht
    rw [dn_cnt hz1 hz2, dn_cnt hy1 hy2]
    exact this
theorem den_callV {S As : List Value} {a idx ci n : Nat} {f : Option (Int × AH)} {K : Int → AH → Option (Int × AH)} (w : FV μ.2.2.2.2 idx ν ci n) (hS : S = As.reverse ++ vA G a :: st) (hn : As.length = n) (hok : ok h.1 a ci) (hst : (st.map fun v => v.category).sum ≤ 8) (hdd : d2 + 1 ≤ d) (hd : decode μ.2.1 pc = .ok (.invokevirtual idx, 3)) (con : Con l G ν rw d2 (vA G a :: As) h f)
    (k : ∀ (r : Int) (h1 : AH), h.1 ≤ h1.1 → RO ν.2.2.2.1 r h1.1 → Den l G μ rv d (pc + 3) L ((rw r).toList ++ st) h1 (K r h1)) : Den l G μ rv d pc L S h (bnd f K) := by
  intro r h' hr
  subst hS
  cases hf : f with
  | none => rw [hf] at hr; cases hr
  | some z =>
    obtain ⟨r1, h1⟩ := z
    rw [hf, bnd_some] at hr
    obtain ⟨⟨hm, hro⟩, hM⟩ := con r1 h1 hf
    obtain ⟨⟨hm2, hro2⟩, k2⟩ := k r1 h1 hm hro r h' hr
    refine ⟨⟨Nat.le_trans hm hm2, hro2⟩, fun p e s m args below meth c R Q n0 H locs ls C hR hn0 hw hl ht => ?_⟩
    obtain ⟨⟨w1, w2, w3, w4, w5⟩, w6, w7, w8⟩ := w
    have hts := C.2.2.2.2.2.2
    have hcl : ∃ q : vw_C, CC[ci]? = some q ∧ q.1 = ν.1.cls := by
      cases hc : CC[ci]? with
      | none => rw [hc] at w8; cases w8
      | some q => rw [hc] at w8; exact ⟨q, rfl, Option.some.inj w8⟩
    obtain ⟨q, hq1, hq2⟩ := hcl
    have he : (aW G h)[a]? = some (G.1 + a, .inr (ci, aF G a (h.2 a))) := by rw [aW_get G h hok.1, aE_obj hok.2]
    have hrecv := va_recv hw.2.1 hw.1 hq1 he
    rw [hq2] at hrecv
    have hG : GoodIn tW (wsV μ.2.2.2.2 idx ν.1.cls ν.1 (wsM ν)) := dn_good (by
      intro x hx
      simp only [List.mem_cons, List.not_mem_nil, or_false] at hx
      rcases hx with rfl | rfl | rfl | rfl
      · exact w1
      · exact w2
      · exact w3
      · exact w4) w5
    have hz1 := hn0.1
    have hz2 := sz_mono hm
    have hz3 := sz_mono hm2
    have hy1 := hn0.2
    have hy2 := sl_mono hm
    have hy3 := sl_mono hm2
    have hR3 := hR.2.2.1
    have hR4 := hR.2.2.2
    have hR1 := hR.1
    have hR2 := hR.2.1
    have hrun := va_runV (As := As) (rest := st) (g := F0 m pc ls (As.reverse ++ vA G a :: st)) (cells := sz h.1 - n0.1) (slots := sl h.1 - n0.2) (below := below) (meth := meth) (locs := locs) (e := e) ⟨C.1, C.2.1, C.2.2.1, C.2.2.2.2.2.1, hts⟩ hM
      (cwV n hts hG rfl rfl rfl ⟨rfl, w6⟩ ⟨Nat.le_trans hdd hR1, by dsimp only; omega⟩)
      ⟨PU_blind, hrecv, fun U hU hW => ⟨rfl, PU_of hw hU hW⟩⟩ rfl hn hl.size rfl (lv_room hst) hd ⟨by omega, by omega⟩
    refine dn_run hrun hw (fun H1 locs1 hw1 => ?_)
    have := k2 p e s m args below meth c R Q n0 H1 locs1 ls C hR ⟨Nat.le_trans hn0.1 hz2, Nat.le_trans hn0.2 hy2⟩ hw1 hl ht
    rw [dn_cnt hz1 hz2, dn_cnt hy1 hy2]
    exact this
theorem den_callS {S As : List Value} {idx n : Nat} {f : Option (Int × AH)} {K : Int → AH → Option (Int × AH)} (w : FS μ.2.2.2.2 idx ν n) (hS : S = As.reverse ++ st) (hn : As.length = n) (hst : (st.map fun v => v.category).sum ≤ 8) (hdd : d2 + 1 ≤ d) (hd : decode μ.2.1 pc = .ok (.invokestatic idx, 3)) (con : Con l G ν rw d2 As h f)
    (k : ∀ (r : Int) (h1 : AH), h.1 ≤ h1.1 → RO ν.2.2.2.1 r h1.1 → Den l G μ rv d (pc + 3) L ((rw r).toList ++ st) h1 (K r h1)) : Den l G μ rv d pc L S h (bnd f K) := by
  intro r h' hr
  subst hS
  cases hf : f with
  | none => rw [hf] at hr; cases hr
  | some z =>
    obtain ⟨r1, h1⟩ := z
    rw [hf, bnd_some] at hr
    obtain ⟨⟨hm, hro⟩, hM⟩ := con r1 h1 hf
    obtain ⟨⟨hm2, hro2⟩, k2⟩ := k r1 h1 hm hro r h' hr
    refine ⟨⟨Nat.le_trans hm hm2, hro2⟩, fun p e s m args below meth c R Q n0 H locs ls C hR hn0 hw hl ht => ?_⟩
    obtain ⟨⟨w1, w2, w3, w4⟩, w6, w7⟩ := w
    have hts := C.2.2.2.2.2.2
    have hG : GoodIn tW (va_wsS μ.2.2.2.2 idx ν.1 (wsM ν)) := dn_good (by
      intro x hx
      simp only [List.mem_cons, List.not_mem_nil, or_false] at hx
      rcases hx with rfl | rfl | rfl
      · exact w1
      · exact w2
      · exact w3) w4
    have hz1 := hn0.1
    have hz2 := sz_mono hm
    have hz3 := sz_mono hm2
    have hy1 := hn0.2
    have hy2 := sl_mono hm
    have hy3 := sl_mono hm2
    have hR3 := hR.2.2.1
    have hR4 := hR.2.2.2
    have hR1 := hR.1
    have hR2 := hR.2.1
    have hrun := va_runS (As := As) (rest := st) (g := F0 m pc ls (As.reverse ++ st)) (cells := sz h.1 - n0.1) (slots := sl h.1 - n0.2) (below := below) (meth := meth) (locs := locs) (e := e) ⟨C.1, C.2.1, C.2.2.1, C.2.2.2.2.2.1, hts⟩ hM
      (va_cwS n hts hG rfl rfl rfl w6 ⟨Nat.le_trans hdd hR1, by dsimp only; omega⟩)
      ⟨PU_blind, fun U hU hW => ⟨rfl, PU_of hw hU hW⟩⟩ rfl hn hl.size rfl (lv_room hst) hd ⟨by omega, by omega⟩
    refine dn_run hrun hw (fun H1 locs1 hw1 => ?_)
    have := k2 p e s m args below meth c R Q n0 H1 locs1 ls C hR ⟨Nat.le_trans hn0.1 hz2, Nat.le_trans hn0.2 hy2⟩ hw1 hl ht
    rw [dn_cnt hz1 hz2, dn_cnt hy1 hy2]
    exact this
theorem den_callSK {S As : List Value} {idx n : Nat} {f : Option (Int × AH)} {K : Int → AH → Option (Int × AH)} (w : FS μ.2.2.2.2 idx ν n) (hS : S = As.reverse ++ st) (hn : As.length = n) (hst : (st.map fun v => v.category).sum ≤ 8) (hdd : d2 + 1 ≤ d) (hd : decode μ.2.1 pc = .ok (.invokestatic idx, 3)) (con : Con l G ν rw d2 As h f)
    (k : ∀ (r : Int) (h1 : AH), f = some (r, h1) → h.1 ≤ h1.1 → RO ν.2.2.2.1 r h1.1 → Den l G μ rv d (pc + 3) L ((rw r).toList ++ st) h1 (K r h1)) : Den l G μ rv d pc L S h (bnd f K) := by
  intro r h' hr
  subst hS
  cases hf : f with
  | none => rw [hf] at hr; cases hr
  | some z =>
    obtain ⟨r1, h1⟩ := z
    rw [hf, bnd_some] at hr
    obtain ⟨⟨hm, hro⟩, hM⟩ := con r1 h1 hf
    obtain ⟨⟨hm2, hro2⟩, k2⟩ := k r1 h1 hf hm hro r h' hr
    refine ⟨⟨Nat.le_trans hm hm2, hro2⟩, fun p e s m args below meth c R Q n0 H locs ls C hR hn0 hw hl ht => ?_⟩
    obtain ⟨⟨w1, w2, w3, w4⟩, w6, w7⟩ := w
    have hts := C.2.2.2.2.2.2
    have hG : GoodIn tW (va_wsS μ.2.2.2.2 idx ν.1 (wsM ν)) := dn_good (by
      intro x hx
      simp only [List.mem_cons, List.not_mem_nil, or_false] at hx
      rcases hx with rfl | rfl | rfl
      · exact w1
      · exact w2
      · exact w3) w4
    have hz1 := hn0.1
    have hz2 := sz_mono hm
    have hz3 := sz_mono hm2
    have hy1 := hn0.2
    have hy2 := sl_mono hm
    have hy3 := sl_mono hm2
    have hR3 := hR.2.2.1
    have hR4 := hR.2.2.2
    have hR1 := hR.1
    have hR2 := hR.2.1
    have hrun := va_runS (As := As) (rest := st) (g := F0 m pc ls (As.reverse ++ st)) (cells := sz h.1 - n0.1) (slots := sl h.1 - n0.2) (below := below) (meth := meth) (locs := locs) (e := e) ⟨C.1, C.2.1, C.2.2.1, C.2.2.2.2.2.1, hts⟩ hM
      (va_cwS n hts hG rfl rfl rfl w6 ⟨Nat.le_trans hdd hR1, by dsimp only; omega⟩)
      ⟨PU_blind, fun U hU hW => ⟨rfl, PU_of hw hU hW⟩⟩ rfl hn hl.size rfl (lv_room hst) hd ⟨by omega, by omega⟩
    refine dn_run hrun hw (fun H1 locs1 hw1 => ?_)
    have := k2 p e s m args below meth c R Q n0 H1 locs1 ls C hR ⟨Nat.le_trans hn0.1 hz2, Nat.le_trans hn0.2 hy2⟩ hw1 hl ht
    rw [dn_cnt hz1 hz2, dn_cnt hy1 hy2]
    exact this
/-- returns -/
theorem den_iret {x : Int} (hr : μ.2.2.2.1 = some .int) (hd : decode μ.2.1 pc = .ok (.ireturn, 1)) : Den l G μ rvI d pc L [vI x] h (some (x, h)) := by
  intro r h' e
  cases e
  refine ⟨⟨Nat.le_refl _, by rw [hr]; trivial⟩, fun p e s m args below meth c R Q n0 H locs ls C hR hn0 hw hl ht => ht H locs pc ls hw (by rw [hr]; exact hd) (by rw [hr]; trivial)⟩
theorem den_zret {x : Int} (hr : μ.2.2.2.1 = some .boolean) (hx : w32 x = 0 ∨ w32 x = 1) (hd : decode μ.2.1 pc = .ok (.ireturn, 1)) : Den l G μ rvI d pc L [vI x] h (some (x, h)) := by
  intro r h' e
  cases e
  refine ⟨⟨Nat.le_refl _, by rw [hr]; trivial⟩, fun p e s m args below meth c R Q n0 H locs ls C hR hn0 hw hl ht => ht H locs pc ls hw (by rw [hr]; exact hd) (by rw [hr]; exact hx)⟩
theorem den_tret {x : Int} {ty : FieldType} (hr : μ.2.2.2.1 = some ty) (hi : rti (some ty) = .ireturn) (hro : ∀ n, RO (some ty) x n) (hrk : RK (some ty) x) (hd : decode μ.2.1 pc = .ok (.ireturn, 1)) : Den l G μ rvI d pc L [vI x] h (some (x, h)) := by
  intro r h' e
  cases e
  refine ⟨⟨Nat.le_refl _, by rw [hr]; exact hro _⟩, fun p e s m args below meth c R Q n0 H locs ls C hR hn0 hw hl ht => ht H locs pc ls hw (by rw [hr, hi]; exact hd) (by rw [hr]; exact hrk)⟩
theorem den_lret {x : Int} (hr : μ.2.2.2.1 = some .long) (hd : decode μ.2.1 pc = .ok (.lreturn, 1)) : Den l G μ rvJ d pc L [vJ x] h (some (x, h)) := by
  intro r h' e
  cases e
  refine ⟨⟨Nat.le_refl _, by rw [hr]; trivial⟩, fun p e s m args below meth c R Q n0 H locs ls C hR hn0 hw hl ht => ht H locs pc ls hw (by rw [hr]; exact hd) (by rw [hr]; trivial)⟩
theorem den_vret (hr : μ.2.2.2.1 = none) (hd : decode μ.2.1 pc = .ok (.return_, 1)) : Den l G μ rvV d pc L [] h (some (0, h)) := by
  intro r h' e
  cases e
  refine ⟨⟨Nat.le_refl _, by rw [hr]; trivial⟩, fun p e s m args below meth c R Q n0 H locs ls C hR hn0 hw hl ht => ht H locs pc ls hw (by rw [hr]; exact hd) (by rw [hr]; trivial)⟩
theorem den_aret {x : Int} {C : String} (hr : μ.2.2.2.1 = some (.object C)) (hx : RO (some (.object C)) x h.1) (hd : decode μ.2.1 pc = .ok (.areturn, 1)) : Den l G μ (rvR G) d pc L [vR G x] h (some (x, h)) := by
  intro r h' e
  cases e
  refine ⟨⟨Nat.le_refl _, by rw [hr]; exact hx⟩, fun p e s m args below meth c R Q n0 H locs ls C hR hn0 hw hl ht => ht H locs pc ls hw (by rw [hr]; exact hd) (by rw [hr]; trivial)⟩
end Calls2
