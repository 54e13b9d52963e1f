/-! Den: from here on the method's code ends as a plain function says -/
abbrev Mu : Type := MethodName × ByteArray × Nat × Option FieldType × String
def tyl (G : Geo) : List (ClassId × FieldType) := [(G.2.2.2 0, .int), (G.2.2.2 1, .byte), (G.2.2.2 2, .boolean), (G.2.2.2 3, .object "QuarrelOvens$Told"), (G.2.2.2 4, .object "QuarrelOvens$Village"), (G.2.2.2 5, .object "QuarrelOvens$Rows")]
def stN (k : Nat) : String := ["NUMBERS", "LEAST", "MOST"].getD k ""
def stV (k : Nat) : List Int := [[1, 1, 2, 2, 3, 4, 3, 3, 2, 0, 3], [0, 0, 0, 0, 0, 0, 0, 0, 1, 1, 0, 0, 1, 1, 0, 0, 0, 0, 0, 0, 0, 0, 0, 0, 0, 0, 0, 0, 0, 0, 0, 0, 0, 0, 0, 0, 0, 0, 0, 0, 0, 0, 0, 0], [8, 0, 0, 0, 9, 0, 0, 0, 9, 9, 0, 0, 60, 99, 0, 0, 7, 5, 9, 0, 7, 7, 5, 3, 7, 7, 5, 0, 7, 7, 5, 0, 5, 9, 0, 0, 0, 0, 0, 0, 7, 7, 99, 0]].getD k []
def strT : List (Nat × String) := [(137, "people"), (138, "cools"), (140, "subject"), (142, "hearth"), (144, "holds"), (146, "quarrel"), (148, "agree"), (150, "deny"), (152, "news"), (154, "hour"), (131, "burned")]
def strB (i : Nat) : List Int := ((strT.getD i (0, "")).2.toList).map (fun ch => (ch.toNat : Int))
def strLn : List Nat := [6, 5, 7, 6, 5, 7, 5, 4, 4, 4, 6]
def strBt : List (List Int32) := [[112, 101, 111, 112, 108, 101], [99, 111, 111, 108, 115], [115, 117, 98, 106, 101, 99, 116], [104, 101, 97, 114, 116, 104], [104, 111, 108, 100, 115], [113, 117, 97, 114, 114, 101, 108], [97, 103, 114, 101, 101], [100, 101, 110, 121], [110, 101, 119, 115], [104, 111, 117, 114], [98, 117, 114, 110, 101, 100]]
def nestL : List (String × Nat × String) := [("QuarrelOvens$Told", 38, "QuarrelOvens$Village"), ("QuarrelOvens", 22, "QuarrelOvens$Reader"), ("QuarrelOvens$Reader", 11, "QuarrelOvens$Village"), ("QuarrelOvens", 29, "QuarrelOvens$Scene"), ("QuarrelOvens$Scene", 11, "QuarrelOvens$Village"), ("QuarrelOvens", 36, "QuarrelOvens$Couples"), ("QuarrelOvens", 43, "QuarrelOvens$Quarrels"), ("QuarrelOvens", 50, "QuarrelOvens$Keeper"), ("QuarrelOvens", 57, "QuarrelOvens$Chain"), ("QuarrelOvens", 64, "QuarrelOvens$Guess")]
/-- words of the tables that are carried: rows of references, makers of nest mates -/
def Bn (U : State) : Prop := (va_AO "QuarrelOvens$Told" U ∧ va_AO "QuarrelOvens$Village" U ∧ va_AO "QuarrelOvens$Rows" U) ∧ ∀ q ∈ nestL, va_Nw (.methodLinkNest q.1 q.2.1 ⟨q.2.2, "<init>", "()V"⟩ "QuarrelOvens") U
theorem Bn.warm {s U : State} (hW : s.WarmedH U.vm) (h : Bn s) : Bn U := ⟨⟨va_AO.moved hW.alike h.1.1, va_AO.moved hW.alike h.1.2.1, va_AO.moved hW.alike h.1.2.2⟩, fun q hq => va_Nw.warmM hW (h.2 q hq)⟩
theorem Bn.same {u U : State} (hv : U.vm = u.vm) (h : Bn u) : Bn U := by
  have ha : u.vm.Alike U.vm := by rw [hv]; exact Vm.Alike.refl _
  exact ⟨⟨va_AO.moved ha h.1.1, va_AO.moved ha h.1.2.1, va_AO.moved ha h.1.2.2⟩, fun q hq => va_Nw.same rfl hv.symm (h.2 q hq)⟩
/-- the script, as the places tell it -/
def scr (G : Geo) (j : Nat) : Int := ((G.2.1 (100 + j) : Nat) : Int) - 2147483648
/-- what lies there from the start: the reader's tables, the words, the script -/
def Sp (G : Geo) (U : State) (H : Heap) : Prop :=
  (∀ k, k < 3 → va_Z "QuarrelOvens$Reader" (stN k) "[I" (.ref (G.2.1 k)) (gA G) U H ∧ va_T .int (G.2.1 k) (stV k).length (fun j => .int (Int32.ofInt ((stV k).getD j 0))) (gA G) U H) ∧
  vk_S 11 strLn strBt (fun i => G.2.1 (3 + i)) (fun i => G.2.1 (14 + i)) (gA G) U H ∧
  (∀ i, i < 11 → vk_R "QuarrelOvens$Reader" (strT.getD i (0, "")).1 (strT.getD i (0, "")).2 (G.2.1 (3 + i)) U) ∧
  va_Z "java/lang/String" "COMPACT_STRINGS" "Z" (.int 1) (gA G) U H ∧
  va_Zq "jdk/internal/util/Preconditions" "SIOOBE_FORMATTER" "Ljava/util/function/BiFunction;" (gA G) U H ∧ Bn U ∧
  va_T .int (G.2.1 25) (G.2.1 26) (fun j => .int (Int32.ofInt (scr G j))) (gA G) U H
theorem Sp.warm {G : Geo} {s U : State} {H : Heap} (hW : s.WarmedH U.vm) (h : Sp G s H) : Sp G U H :=
  ⟨fun k hk => ⟨va_Z.moved hW.alike (h.1 k hk).1, va_T.moved hW.alike (h.1 k hk).2⟩, vk_S.moved hW.alike h.2.1, fun i hi => vk_R.warm hW (h.2.2.1 i hi), va_Z.moved hW.alike h.2.2.2.1, va_Zq.moved hW.alike h.2.2.2.2.1, h.2.2.2.2.2.1.warm hW, va_T.moved hW.alike h.2.2.2.2.2.2⟩
theorem Sp.same {G : Geo} {u U : State} {H : Heap} (hv : U.vm = u.vm) (h : Sp G u H) : Sp G U H := by
  have ha : u.vm.Alike U.vm := by rw [hv]; exact Vm.Alike.refl _
  exact ⟨fun k hk => ⟨va_Z.moved ha (h.1 k hk).1, va_T.moved ha (h.1 k hk).2⟩, vk_S.moved ha h.2.1, fun i hi => vk_R.same hv (h.2.2.1 i hi), va_Z.moved ha h.2.2.2.1, va_Zq.moved ha h.2.2.2.2.1, h.2.2.2.2.2.1.same hv, va_T.moved ha h.2.2.2.2.2.2⟩
theorem Sp.kept {G : Geo} {U : State} {H H1 : Heap} (hq : ∀ a : Nat, a < H.size → ¬ gA G a → H1[a]? = H[a]?) (h : Sp G U H) : Sp G U H1 :=
  ⟨fun k hk => ⟨(h.1 k hk).1.kept hq, (h.1 k hk).2.kept hq⟩, h.2.1.kept hq, h.2.2.1, h.2.2.2.1.kept hq, h.2.2.2.2.1.kept hq, h.2.2.2.2.2.1, h.2.2.2.2.2.2.kept hq⟩
def Cx (μ : Mu) (p : Program) (s : State) (m : MethodId) (args : Array Value) (meth : Method) (c : Code) : Prop :=
  p.tables.exec = Jvm.exec ∧ c.code = μ.2.1 ∧ c.maxLocals = μ.2.2.1 ∧ meth.sig.returnType = μ.2.2.2.1 ∧ meth.locks = false ∧ s.vm.findClass μ.2.2.2.2 = some m.cls ∧ ∀ w ∈ tW, w.before args s = true
/-- the heap holds the world h -/
def Wd (G : Geo) (h : AH) (s : State) (H : Heap) (locs : List Loc) : Prop :=
  va_P G.2.2.1 CC (aW G h) H ∧ va_K G.2.2.1 CC (tyl G) s ∧ va_S (gA G) s.heap H locs ∧ H.size = G.1 + sz h.1 ∧ G.1 ≤ s.heap.size ∧ Sp G s s.heap
def Rm (d : Nat) (n0 : Nat × Nat) (n1 : Nat) (R : Room) : Prop := d ≤ R.frames ∧ 64 * d ≤ R.locals ∧ sz n1 - n0.1 ≤ R.cells ∧ sl n1 - n0.2 ≤ R.slots
def rti (t : Option FieldType) : Instr := match t with
  | none => .return_
  | some .long => .lreturn
  | some (.object _) => .areturn
  | some (.array _) => .areturn
  | some _ => .ireturn
def ok (n a ci : Nat) : Prop := a < sz n ∧ shp a = (ci + 10, (FT.getD ci []).length)
theorem ok.mono {n m a ci : Nat} (h : ok n a ci) (hm : n ≤ m) : ok m a ci := ⟨Nat.lt_of_lt_of_le h.1 (sz_mono hm), h.2⟩
/-- what is said of an answer: a boolean is 0 or 1; a reference is null, or of its class -/
def RK (t : Option FieldType) (r : Int) : Prop := match t with
  | some .boolean => w32 r = 0 ∨ w32 r = 1
  | _ => True
def RO (t : Option FieldType) (r : Int) (n : Nat) : Prop := match t with
  | some (.object c) => r < 0 ∨ (c = "QuarrelOvens$Village" → ok n r.toNat 9) ∧ (c = "QuarrelOvens$Rows" → ok n r.toNat 6)
  | _ => True
def Den (l : Launch) (G : Geo) (μ : Mu) (rv : Int → Option Value) (d pc : Nat) (L : List (Option Value)) (st : List Value) (h : AH) (res : Option (Int × AH)) : Prop :=
  ∀ (r : Int) (h' : AH), res = some (r, h') → (h.1 ≤ h'.1 ∧ RO μ.2.2.2.1 r h'.1) ∧
    ∀ (p : Program) (e : Env) (s : State) (m : MethodId) (args : Array Value) (below : List Frame) (meth : Method) (c : Code) (R : Room) (Q : State → Prop) (n0 : Nat × Nat) (H : Heap) (locs : List Loc) (ls : Array Slot),
      Cx μ p s m args meth c → Rm d n0 h'.1 R → n0.1 ≤ sz h.1 ∧ n0.2 ≤ sl h.1 → Wd G h s H locs → Lv ls μ.2.2.1 L →
      (∀ (H1 : Heap) (locs1 : List Loc) (pc1 : Nat) (ls1 : Array Slot), Wd G h' s H1 locs1 → decode μ.2.1 pc1 = .ok (rti μ.2.2.2.1, 1) → RK μ.2.2.2.1 r → W p l e R s m args below meth c H1 locs1 (sz h'.1 - n0.1) (sl h'.1 - n0.2) Q (F0 m pc1 ls1 (rv r).toList)) →
      W p l e R s m args below meth c H locs (sz h.1 - n0.1) (sl h.1 - n0.2) Q (F0 m pc ls st)
/-- plain answers -/
def asrt (p : Prop) [Decidable p] (k : Option (Int × AH)) : Option (Int × AH) := if p then k else none
def bnd (m : Option (Int × AH)) (k : Int → AH → Option (Int × AH)) : Option (Int × AH) := match m with
  | none => none
  | some z => k z.1 z.2
def fx {α : Type} (F : (α → Option (Int × AH)) → α → Option (Int × AH)) : Nat → α → Option (Int × AH)
  | 0 => fun _ => none
  | n + 1 => F (fx F n)
theorem asrt_t {p : Prop} [Decidable p] (h : p) (k : Option (Int × AH)) : asrt p k = k := if_pos h
theorem bnd_some (r : Int) (h : AH) (k : Int → AH → Option (Int × AH)) : bnd (some (r, h)) k = k r h := rfl
theorem fx_succ {α : Type} (F : (α → Option (Int × AH)) → α → Option (Int × AH)) (n : Nat) (z : α) : fx F (n + 1) z = F (fx F n) z := rfl
def rvI (x : Int) : Option Value := some (vI x)
def rvJ (x : Int) : Option Value := some (vJ x)
def rvV (_ : Int) : Option Value := none
def rvR (G : Geo) (x : Int) : Option Value := some (vR G x)
section DenRows
variable {l : Launch} {G : Geo} {μ : Mu} {rv : Int → Option Value} {d pc pc2 : Nat} {L L2 : List (Option Value)} {st st2 : List Value} {h h2 : AH} {res res2 : Option (Int × AH)}
theorem den_none : Den l G μ rv d pc L st h none := fun _ _ q => by cases q
/-- a step that changes neither heap nor locals -/
theorem den_go (go : ∀ {p : Program} {e : Env} {R : Room} {s : State} {m : MethodId} {args : Array Value} {below : List Frame} {meth : Method} {c : Code} {H : Heap} {locs : List Loc} {cells slots : Nat} {Q : State → Prop} (ls : Array Slot), Cx μ p s m args meth c → Wd G h s H locs → Lv ls μ.2.2.1 L → W p l e R s m args below meth c H locs cells slots Q (F0 m pc2 ls st2) → W p l e R s m args below meth c H locs cells slots Q (F0 m pc ls st))
    (k : Den l G μ rv d pc2 L st2 h res) : Den l G μ rv d pc L st h res :=
  fun r h' hr => ⟨(k r h' hr).1, fun p e s m args below meth c R Q n0 H locs ls C hR hn hw hl ht => go ls C hw hl ((k r h' hr).2 p e s m args below meth c R Q n0 H locs ls C hR hn hw hl ht)⟩
/-- a step that stores into locals -/
theorem den_goL (go : ∀ {p : Program} {e : Env} {R : Room} {s : State} {m : MethodId} {args : Array Value} {below : List Frame} {meth : Method} {c : Code} {H : Heap} {locs : List Loc} {cells slots : Nat} {Q : State → Prop} (ls : Array Slot), Cx μ p s m args meth c → Lv ls μ.2.2.1 L → (∀ ls' : Array Slot, Lv ls' μ.2.2.1 L2 → W p l e R s m args below meth c H locs cells slots Q (F0 m pc2 ls' st2)) → W p l e R s m args below meth c H locs cells slots Q (F0 m pc ls st))
    (k : Den l G μ rv d pc2 L2 st2 h res) : Den l G μ rv d pc L st h res :=
  fun r h' hr => ⟨(k r h' hr).1, fun p e s m args below meth c R Q n0 H locs ls C hR hn hw hl ht => go ls C hl (fun ls' hl' => (k r h' hr).2 p e s m args below meth c R Q n0 H locs ls' C hR hn hw hl' ht)⟩
/-- a step that changes the heap, not its cells -/
theorem den_goH (he : h2.1 = h.1) (go : ∀ {p : Program} {e : Env} {R : Room} {s : State} {m : MethodId} {args : Array Value} {below : List Frame} {meth : Method} {c : Code} {H : Heap} {locs : List Loc} {cells slots : Nat} {Q : State → Prop} (ls : Array Slot), Cx μ p s m args meth c → Wd G h s H locs → Lv ls μ.2.2.1 L → Rm d (sz 0, sl 0) 0 R → cells ≤ R.cells → slots ≤ R.slots → (∀ (H1 : Heap) (locs1 : List Loc), Wd G h2 s H1 locs1 → W p l e R s m args below meth c H1 locs1 cells slots Q (F0 m pc2 ls st2)) → W p l e R s m args below meth c H locs cells slots Q (F0 m pc ls st))
    (k : Den l G μ rv d pc2 L st2 h2 res) : Den l G μ rv d pc L st h res :=
  fun r h' hr => by
    obtain ⟨k1, k2⟩ := k r h' hr
    rw [he] at k1
    refine ⟨k1, fun p e s m args below meth c R Q n0 H locs ls C hR hn hw hl ht => ?_⟩
    have hc1 : sz h.1 - n0.1 ≤ R.cells := Nat.le_trans (Nat.sub_le_sub_right (sz_mono k1.1) _) hR.2.2.1
    have hc2 : sl h.1 - n0.2 ≤ R.slots := Nat.le_trans (Nat.sub_le_sub_right (sl_mono k1.1) _) hR.2.2.2
    refine go ls C hw hl ⟨hR.1, hR.2.1, by simp, by simp⟩ hc1 hc2 (fun H1 locs1 hw1 => ?_)
    have := k2 p e s m args below meth c R Q n0 H1 locs1 ls C hR (by rw [he]; exact hn) hw1 hl ht
    rwa [he] at this
/-- a branch -/
theorem den_br {cnd : Prop} [Decidable cnd] {pcT pcF : Nat} {resT resF : Option (Int × AH)} (go : ∀ {p : Program} {e : Env} {R : Room} {s : State} {m : MethodId} {args : Array Value} {below : List Frame} {meth : Method} {c : Code} {H : Heap} {locs : List Loc} {cells slots : Nat} {Q : State → Prop} (ls : Array Slot), Cx μ p s m args meth c → (cnd → W p l e R s m args below meth c H locs cells slots Q (F0 m pcT ls st2)) → (¬ cnd → W p l e R s m args below meth c H locs cells slots Q (F0 m pcF ls st2)) → W p l e R s m args below meth c H locs cells slots Q (F0 m pc ls st))
    (kt : cnd → Den l G μ rv d pcT L st2 h resT) (kf : ¬ cnd → Den l G μ rv d pcF L st2 h resF) : Den l G μ rv d pc L st h (if cnd then resT else resF) := by
  intro r h' hr
  by_cases hc : cnd
  · rw [if_pos hc] at hr
    exact ⟨(kt hc r h' hr).1, fun p e s m args below meth c R Q n0 H locs ls C hR hn hw hl ht => go ls C (fun _ => (kt hc r h' hr).2 p e s m args below meth c R Q n0 H locs ls C hR hn hw hl ht) (fun q => absurd hc q)⟩
  · rw [if_neg hc] at hr
    exact ⟨(kf hc r h' hr).1, fun p e s m args below meth c R Q n0 H locs ls C hR hn hw hl ht => go ls C (fun q => absurd q hc) (fun _ => (kf hc r h' hr).2 p e s m args below meth c R Q n0 H locs ls C hR hn hw hl ht)⟩
/-- what must hold, as the function says -/
theorem den_asrt {q : Prop} [Decidable q] (k : q → Den l G μ rv d pc L st h res) : Den l G μ rv d pc L st h (asrt q res) := by
  intro r h' hr
  unfold asrt at hr
  by_cases hq : q
  · rw [if_pos hq] at hr
    exact k hq r h' hr
  · rw [if_neg hq] at hr
    cases hr
theorem den_fx {α : Type} {F : (α → Option (Int × AH)) → α → Option (Int × AH)} {fL : α → List (Option Value)} {fs : α → List Value} {fh : α → AH} {P : α → Prop} (stp : ∀ rec : α → Option (Int × AH), (∀ z, P z → Den l G μ rv d pc (fL z) (fs z) (fh z) (rec z)) → ∀ z, P z → Den l G μ rv d pc (fL z) (fs z) (fh z) (F rec z)) : ∀ (n : Nat) (z : α), P z → Den l G μ rv d pc (fL z) (fs z) (fh z) (fx F n z) := by
  intro n
  induction n with
  | zero => intro z _; exact den_none
  | succ n ih => intro z hz; exact stp (fx F n) ih z hz
end DenRows
