/-! between the row of cells and the world; a Told more; the images' row -/
def Sim (e e2 : va_E) : Prop := e = e2 ∨ ∃ (cA : ClassId) (N : Nat) (f g : Nat → Option Nat), e = .inl (cA, N, .inr (.inr (.inr (.inr f)))) ∧ e2 = .inl (cA, N, .inr (.inr (.inr (.inr g)))) ∧ ∀ j, j < N → f j = g j
theorem arrV_ext {cI : ClassId} {N : Nat} {f g : Nat → Value} (h : ∀ j, j < N → f j = g j) : arrV cI N f = arrV cI N g := by
  unfold arrV
  congr 2
  funext j
  exact h j.val j.isLt
theorem Sim.at {D : va_G} {cl : List vw_C} {a : Nat} {e e2 : va_E} {H : Heap} (h : Sim e e2) (ha : va_at D cl (a, e) H) : va_at D cl (a, e2) H := by
  rcases h with rfl | ⟨cA, N, f, g, rfl, rfl, hj⟩
  · exact ha
  · show H[a]? = some (vp_cell _ _)
    rw [vp_cell_q, ← arrV_ext (f := fun j => va_rf (f j)) (fun j hj' => by rw [hj j hj']), ← vp_cell_q]
    exact ha
def aL (G : Geo) (h : AH) : List va_E := (List.range (sz h.1)).map (fun a => aE G a (h.2 a))
theorem aL_len (G : Geo) (h : AH) : (aL G h).length = sz h.1 := by unfold aL; rw [List.length_map, List.length_range]
theorem rW_aL (G : Geo) (h : AH) : rW G (aL G h) = aW G h := by
  apply List.ext_getElem?
  intro i
  rw [rW_get]
  unfold aL aW
  rw [List.getElem?_map, List.getElem?_map]
  by_cases hi : i < sz h.1
  · rw [List.getElem?_range hi]; rfl
  · rw [List.getElem?_eq_none (by rw [List.length_range]; omega)]; rfl
theorem toRd {G : Geo} {h : AH} {s : State} {H : Heap} {locs : List Loc} (hw : Wd G h s H locs) : Rd G (aL G h) s H locs := ⟨by rw [rW_aL]; exact hw.1, hw.2.1, hw.2.2.1, by rw [aL_len]; exact hw.2.2.2.1, hw.2.2.2.2.1, hw.2.2.2.2.2.2.2.2.2.2.1⟩
theorem toWd {G : Geo} {h : AH} {es : List va_E} {s : State} {H : Heap} {locs : List Loc} (hw : Rd G es s H locs) (hl : es.length = sz h.1) (hs : ∀ a, a < sz h.1 → ∃ e, es[a]? = some e ∧ Sim e (aE G a (h.2 a))) (hSp : Sp G s s.heap) : Wd G h s H locs := by
  refine ⟨fun k q hq => ?_, hw.2.1, hw.2.2.1, by rw [← hl]; exact hw.2.2.2.1, hw.2.2.2.2.1, hSp⟩
  obtain ⟨hk, rfl⟩ := aW_inv hq
  obtain ⟨e, he, hsim⟩ := hs k hk
  exact hsim.at (hw.1 k (G.1 + k, e) (by rw [rW_get, he]; rfl))
theorem aF_eq {G : Geo} {a ci N : Nat} {row : Nat → Int} (hs : shp a = (ci + 10, N)) : aF G a row = (List.range N).map (fun k => fv G a (ftk ci k) (row k)) := by
  unfold aF
  rw [hs]
  rfl
theorem shp_T {n r : Nat} (hr : r < 26) : shp (93 + 26 * n + r) = SHT.getD r (0, 0) := by
  unfold shp
  rw [if_neg (by omega)]
  congr 1
  omega
def tInit (r j : Nat) : Int := match r with
  | 0 => if j = 3 then -1 else 0
  | 6 => if j = 3 then 2 else 0
  | 16 => if j = 3 then 2 else 0
  | 12 => if j = 0 then 5 else if j = 1 then 40 else 0
  | 22 => if j = 0 then 5 else if j = 1 then 40 else 0
  | 14 => if j = 0 then 3 else if j = 1 then 8 else 0
  | 24 => if j = 0 then 3 else if j = 1 then 8 else 0
  | _ => 0
def newT (h : AH) : AH := (h.1 + 1, fun a j => if sz h.1 ≤ a then tInit (a - sz h.1) j else h.2 a j)
theorem ok_newT (h : AH) : ok (newT h).1 (sz h.1) 8 := ⟨by show sz h.1 < sz (h.1 + 1); unfold sz; omega, by
  have := shp_T (n := h.1) (r := 0) (by decide)
  unfold sz
  exact this⟩
theorem told_sim (G : Geo) (n : Nat) : ∀ r, r < 26 → ∃ e, (cE8 G (sz n))[r]? = some e ∧ Sim e (aE G (sz n + r) (tInit r)) := by
  intro r hr
  have hs := shp_T (n := n) hr
  have e0 : sz n = 93 + 26 * n := rfl
  match r, hr, hs with
  | 0, _, hs => exact ⟨_, rfl, Or.inl (by rw [e0, aE_obj (ci := 8) (N := 8) hs, aF_eq (ci := 8) (N := 8) hs]; rfl)⟩
  | 1, _, hs => exact ⟨_, rfl, Or.inl (by rw [e0, aE_1 (N := 600) hs]; rfl)⟩
  | 2, _, hs => exact ⟨_, rfl, Or.inl (by rw [e0, aE_0 (N := 3) hs]; rfl)⟩
  | 3, _, hs => exact ⟨_, rfl, Or.inr ⟨_, _, _, _, rfl, by rw [e0, aE_4 (N := 2) hs], fun j hj => by match j, hj with | 0, _ => rfl | 1, _ => rfl⟩⟩
  | 4, _, hs => exact ⟨_, rfl, Or.inr ⟨_, _, _, _, rfl, by rw [e0, aE_5 (N := 2) hs], fun j hj => by match j, hj with | 0, _ => rfl | 1, _ => rfl⟩⟩
  | 5, _, hs => exact ⟨_, rfl, Or.inr ⟨_, _, _, _, rfl, by rw [e0, aE_6 (N := 2) hs], fun j hj => by match j, hj with | 0, _ => rfl | 1, _ => rfl⟩⟩
  | 6, _, hs => exact ⟨_, rfl, Or.inl (by rw [e0, aE_obj (ci := 9) (N := 9) hs, aF_eq (ci := 9) (N := 9) hs]; rfl)⟩
  | 7, _, hs => exact ⟨_, rfl, Or.inl (by rw [e0, aE_0 (N := 6) hs]; rfl)⟩
  | 8, _, hs => exact ⟨_, rfl, Or.inl (by rw [e0, aE_0 (N := 6) hs]; rfl)⟩
  | 9, _, hs => exact ⟨_, rfl, Or.inl (by rw [e0, aE_0 (N := 4) hs]; rfl)⟩
  | 10, _, hs => exact ⟨_, rfl, Or.inl (by rw [e0, aE_0 (N := 4) hs]; rfl)⟩
  | 11, _, hs => exact ⟨_, rfl, Or.inl (by rw [e0, aE_0 (N := 48) hs]; rfl)⟩
  | 12, _, hs => exact ⟨_, rfl, Or.inl (by rw [e0, aE_obj (ci := 6) (N := 4) hs, aF_eq (ci := 6) (N := 4) hs]; rfl)⟩
  | 13, _, hs => exact ⟨_, rfl, Or.inl (by rw [e0, aE_0 (N := 200) hs]; rfl)⟩
  | 14, _, hs => exact ⟨_, rfl, Or.inl (by rw [e0, aE_obj (ci := 6) (N := 4) hs, aF_eq (ci := 6) (N := 4) hs]; rfl)⟩
  | 15, _, hs => exact ⟨_, rfl, Or.inl (by rw [e0, aE_0 (N := 24) hs]; rfl)⟩
  | 16, _, hs => exact ⟨_, rfl, Or.inl (by rw [e0, aE_obj (ci := 9) (N := 9) hs, aF_eq (ci := 9) (N := 9) hs]; rfl)⟩
  | 17, _, hs => exact ⟨_, rfl, Or.inl (by rw [e0, aE_0 (N := 6) hs]; rfl)⟩
  | 18, _, hs => exact ⟨_, rfl, Or.inl (by rw [e0, aE_0 (N := 6) hs]; rfl)⟩
  | 19, _, hs => exact ⟨_, rfl, Or.inl (by rw [e0, aE_0 (N := 4) hs]; rfl)⟩
  | 20, _, hs => exact ⟨_, rfl, Or.inl (by rw [e0, aE_0 (N := 4) hs]; rfl)⟩
  | 21, _, hs => exact ⟨_, rfl, Or.inl (by rw [e0, aE_0 (N := 48) hs]; rfl)⟩
  | 22, _, hs => exact ⟨_, rfl, Or.inl (by rw [e0, aE_obj (ci := 6) (N := 4) hs, aF_eq (ci := 6) (N := 4) hs]; rfl)⟩
  | 23, _, hs => exact ⟨_, rfl, Or.inl (by rw [e0, aE_0 (N := 200) hs]; rfl)⟩
  | 24, _, hs => exact ⟨_, rfl, Or.inl (by rw [e0, aE_obj (ci := 6) (N := 4) hs, aF_eq (ci := 6) (N := 4) hs]; rfl)⟩
  | 25, _, hs => exact ⟨_, rfl, Or.inl (by rw [e0, aE_0 (N := 24) hs]; rfl)⟩
  | r + 26, hr, _ => exact absurd hr (by omega)
def c0 : Nat → Nat → Int := fun a j => match a with
  | 1 => if j = 3 then -1 else 0
  | 7 => if j = 3 then 2 else 0
  | 17 => if j = 3 then 2 else 0
  | 13 => if j = 0 then 5 else if j = 1 then 40 else 0
  | 23 => if j = 0 then 5 else if j = 1 then 40 else 0
  | 15 => if j = 0 then 3 else if j = 1 then 8 else 0
  | 25 => if j = 0 then 3 else if j = 1 then 8 else 0
  | 27 => -1
  | 29 => if j = 3 then 2 else 0
  | 35 => if j = 0 then 5 else if j = 1 then 40 else 0
  | 37 => if j = 0 then 3 else if j = 1 then 8 else 0
  | 42 => if j = 3 then 2 else 0
  | 70 => if j = 6 then -1 else 0
  | _ => 0
set_option maxRecDepth 100000 in
theorem init_sim (G : Geo) : ∀ a, a < 93 → ∃ e, (cE10 G 0 ++ cE11 G 69)[a]? = some e ∧ Sim e (aE G a (c0 a)) := by
  intro a ha
  match a, ha with
  | 0, _ => exact ⟨_, rfl, Or.inl rfl⟩
  | 1, _ => exact ⟨_, rfl, Or.inl rfl⟩
  | 2, _ => exact ⟨_, rfl, Or.inl rfl⟩
  | 3, _ => exact ⟨_, rfl, Or.inl rfl⟩
  | 4, _ => exact ⟨_, rfl, Or.inr ⟨_, _, _, _, rfl, rfl, fun j hj => by match j, hj with | 0, _ => rfl | 1, _ => rfl⟩⟩
  | 5, _ => exact ⟨_, rfl, Or.inr ⟨_, _, _, _, rfl, rfl, fun j hj => by match j, hj with | 0, _ => rfl | 1, _ => rfl⟩⟩
  | 6, _ => exact ⟨_, rfl, Or.inr ⟨_, _, _, _, rfl, rfl, fun j hj => by match j, hj with | 0, _ => rfl | 1, _ => rfl⟩⟩
  | 7, _ => exact ⟨_, rfl, Or.inl rfl⟩
  | 8, _ => exact ⟨_, rfl, Or.inl rfl⟩
  | 9, _ => exact ⟨_, rfl, Or.inl rfl⟩
  | 10, _ => exact ⟨_, rfl, Or.inl rfl⟩
  | 11, _ => exact ⟨_, rfl, Or.inl rfl⟩
  | 12, _ => exact ⟨_, rfl, Or.inl rfl⟩
  | 13, _ => exact ⟨_, rfl, Or.inl rfl⟩
  | 14, _ => exact ⟨_, rfl, Or.inl rfl⟩
  | 15, _ => exact ⟨_, rfl, Or.inl rfl⟩
  | 16, _ => exact ⟨_, rfl, Or.inl rfl⟩
  | 17, _ => exact ⟨_, rfl, Or.inl rfl⟩
  | 18, _ => exact ⟨_, rfl, Or.inl rfl⟩
  | 19, _ => exact ⟨_, rfl, Or.inl rfl⟩
  | 20, _ => exact ⟨_, rfl, Or.inl rfl⟩
  | 21, _ => exact ⟨_, rfl, Or.inl rfl⟩
  | 22, _ => exact ⟨_, rfl, Or.inl rfl⟩
  | 23, _ => exact ⟨_, rfl, Or.inl rfl⟩
  | 24, _ => exact ⟨_, rfl, Or.inl rfl⟩
  | 25, _ => exact ⟨_, rfl, Or.inl rfl⟩
  | 26, _ => exact ⟨_, rfl, Or.inl rfl⟩
  | 27, _ => exact ⟨_, rfl, Or.inl rfl⟩
  | 28, _ => exact ⟨_, rfl, Or.inl rfl⟩
  | 29, _ => exact ⟨_, rfl, Or.inl rfl⟩
  | 30, _ => exact ⟨_, rfl, Or.inl rfl⟩
  | 31, _ => exact ⟨_, rfl, Or.inl rfl⟩
  | 32, _ => exact ⟨_, rfl, Or.inl rfl⟩
  | 33, _ => exact ⟨_, rfl, Or.inl rfl⟩
  | 34, _ => exact ⟨_, rfl, Or.inl rfl⟩
  | 35, _ => exact ⟨_, rfl, Or.inl rfl⟩
  | 36, _ => exact ⟨_, rfl, Or.inl rfl⟩
  | 37, _ => exact ⟨_, rfl, Or.inl rfl⟩
  | 38, _ => exact ⟨_, rfl, Or.inl rfl⟩
  | 39, _ => exact ⟨_, rfl, Or.inl rfl⟩
  | 40, _ => exact ⟨_, rfl, Or.inl rfl⟩
  | 41, _ => exact ⟨_, rfl, Or.inl rfl⟩
  | 42, _ => exact ⟨_, rfl, Or.inl rfl⟩
  | 43, _ => exact ⟨_, rfl, Or.inl rfl⟩
  | 44, _ => exact ⟨_, rfl, Or.inl rfl⟩
  | 45, _ => exact ⟨_, rfl, Or.inl rfl⟩
  | 46, _ => exact ⟨_, rfl, Or.inl rfl⟩
  | 47, _ => exact ⟨_, rfl, Or.inl rfl⟩
  | 48, _ => exact ⟨_, rfl, Or.inl rfl⟩
  | 49, _ => exact ⟨_, rfl, Or.inl rfl⟩
  | 50, _ => exact ⟨_, rfl, Or.inl rfl⟩
  | 51, _ => exact ⟨_, rfl, Or.inl rfl⟩
  | 52, _ => exact ⟨_, rfl, Or.inl rfl⟩
  | 53, _ => exact ⟨_, rfl, Or.inl rfl⟩
  | 54, _ => exact ⟨_, rfl, Or.inl rfl⟩
  | 55, _ => exact ⟨_, rfl, Or.inl rfl⟩
  | 56, _ => exact ⟨_, rfl, Or.inl rfl⟩
  | 57, _ => exact ⟨_, rfl, Or.inl rfl⟩
  | 58, _ => exact ⟨_, rfl, Or.inl rfl⟩
  | 59, _ => exact ⟨_, rfl, Or.inl rfl⟩
  | 60, _ => exact ⟨_, rfl, Or.inl rfl⟩
  | 61, _ => exact ⟨_, rfl, Or.inl rfl⟩
  | 62, _ => exact ⟨_, rfl, Or.inl rfl⟩
  | 63, _ => exact ⟨_, rfl, Or.inl rfl⟩
  | 64, _ => exact ⟨_, rfl, Or.inl rfl⟩
  | 65, _ => exact ⟨_, rfl, Or.inl rfl⟩
  | 66, _ => exact ⟨_, rfl, Or.inl rfl⟩
  | 67, _ => exact ⟨_, rfl, Or.inl rfl⟩
  | 68, _ => exact ⟨_, rfl, Or.inl rfl⟩
  | 69, _ => exact ⟨_, rfl, Or.inl rfl⟩
  | 70, _ => exact ⟨_, rfl, Or.inl rfl⟩
  | 71, _ => exact ⟨_, rfl, Or.inl rfl⟩
  | 72, _ => exact ⟨_, rfl, Or.inl rfl⟩
  | 73, _ => exact ⟨_, rfl, Or.inl rfl⟩
  | 74, _ => exact ⟨_, rfl, Or.inl rfl⟩
  | 75, _ => exact ⟨_, rfl, Or.inl rfl⟩
  | 76, _ => exact ⟨_, rfl, Or.inl rfl⟩
  | 77, _ => exact ⟨_, rfl, Or.inl rfl⟩
  | 78, _ => exact ⟨_, rfl, Or.inl rfl⟩
  | 79, _ => exact ⟨_, rfl, Or.inl rfl⟩
  | 80, _ => exact ⟨_, rfl, Or.inl rfl⟩
  | 81, _ => exact ⟨_, rfl, Or.inl rfl⟩
  | 82, _ => exact ⟨_, rfl, Or.inl rfl⟩
  | 83, _ => exact ⟨_, rfl, Or.inl rfl⟩
  | 84, _ => exact ⟨_, rfl, Or.inl rfl⟩
  | 85, _ => exact ⟨_, rfl, Or.inl rfl⟩
  | 86, _ => exact ⟨_, rfl, Or.inl rfl⟩
  | 87, _ => exact ⟨_, rfl, Or.inl rfl⟩
  | 88, _ => exact ⟨_, rfl, Or.inl rfl⟩
  | 89, _ => exact ⟨_, rfl, Or.inl rfl⟩
  | 90, _ => exact ⟨_, rfl, Or.inl rfl⟩
  | 91, _ => exact ⟨_, rfl, Or.inl rfl⟩
  | 92, _ => exact ⟨_, rfl, Or.inl rfl⟩
  | a + 93, ha => exact absurd ha (by omega)
section W24
variable {l : Launch} {G : Geo} {μ ν : Mu} {d d2 pc : Nat} {L : List (Option Value)} {st : List Value} {es es2 : List va_E}
variable {p : Program} {e : Env} {R : Room} {s : State} {m : MethodId} {args : Array Value} {below : List Frame} {meth : Method} {c : Code} {H : Heap} {locs : List Loc} {cells slots : Nat} {Q : State → Prop} {ls : Array Slot}
theorem w_new {idx ci : Nat} {fs : List Value} (C : Cx μ p s m args meth c) (hw : Rd G es s H locs) (f : FN μ.2.2.2.2 idx ci fs) (hc : cells + 1 ≤ R.cells) (hs : slots + fs.length ≤ R.slots) (hd : decode μ.2.1 pc = .ok (.new idx, 3))
    (kk : ∀ H1 : Heap, Rd G (es ++ [.inr (ci, fs)]) s H1 locs → W p l e R s m args below meth c H1 locs (cells + 1) (slots + fs.length) Q (F0 m (pc + 3) ls (vA G es.length :: st))) : W p l e R s m args below meth c H locs cells slots Q (F0 m pc ls st) := by
  obtain ⟨Cn, T, N, ty0, f1, f2, f3, f4, f5, f6, f7, f8⟩ := f
  have hts := C.2.2.2.2.2.2
  have hKn := hw.2.1.1 ci _ f1
  have hsz := hw.2.2.2.1
  have hS := hw.2.2.1
  refine W.newcK C.1 C.2.1 C.2.2.2.2.2.1 (hts _ f4) (hts _ f5) (hts _ f6) (g := F0 m pc ls st) rfl hd hc (by rw [← f8]; exact hs) hKn.2.1 rfl (fun H1 kC hkC e1 z1 o1 => ?_)
  have hw1 : Rd G (es ++ [.inr (ci, fs)]) s H1 locs := by
    refine ⟨?_, hw.2.1, ⟨Nat.le_trans hS.1 (by omega), fun q g1 g2 => ?_, hS.2.2⟩, by rw [z1, List.length_append, hsz]; rfl, hw.2.2.2.2⟩
    · rw [rW_app]
      refine va_P.app (fun k q hq => ?_) (fun k q hq => ?_)
      · have hlt := (hw.1 k q hq).lt
        exact (hw.1 k q hq).kept (o1 q.1 hlt)
      · have hk : k < 1 := (List.getElem?_eq_some_iff.mp hq).1
        rw [show k = 0 by omega] at hq
        cases hq
        rw [← hsz]
        exact ⟨_, f1, (u_born ty0 hts f2 hKn hkC e1 f3).to f7⟩
    · rw [o1 q (Nat.lt_of_lt_of_le g1 hS.1)]
      exact hS.2.1 q g1 g2
  have := kk H1 hw1
  rw [f8] at this
  rw [hsz]
  exact this
theorem w_callI {S As : List Value} {a idx n : Nat} (C : Cx μ p s m args meth c) (hw : Rd G es s H locs) (hl : ls.size = μ.2.2.1) (w : FI μ.2.2.2.2 idx ν n) (hS : S = As.reverse ++ vA G a :: st) (hn : As.length = n) (hst : (st.map fun v => v.category).sum ≤ 8) (hdd : d2 + 1 ≤ R.frames) (hdl : 64 * (d2 + 1) ≤ R.locals) (hd : decode μ.2.1 pc = .ok (.invokespecial idx, 3)) (con : RCon l G ν d2 (vA G a :: As) es es2) (hc : cells + (es2.length - es.length) ≤ R.cells ∧ slots + (tsl es2 - tsl es) ≤ R.slots)
    (kk : ∀ (H1 : Heap) (locs1 : List Loc), Rd G es2 s H1 locs1 → W p l e R s m args below meth c H1 locs1 (cells + (es2.length - es.length)) (slots + (tsl es2 - tsl es)) Q (F0 m (pc + 3) ls st)) : W p l e R s m args below meth c H locs cells slots Q (F0 m pc ls S) := by
  subst hS
  obtain ⟨⟨hm, hm'⟩, hM⟩ := con
  obtain ⟨w1, ⟨w2, w4, w5⟩, w6, w7, w8, w9⟩ := w
  have hts := C.2.2.2.2.2.2
  have hG : GoodIn tW (wsM ν) := dn_good (ws := []) (fun _ q => by cases q) w5
  have hrun : va_Run p l e R s m args below meth c H locs cells slots (es2.length - es.length) (tsl es2 - tsl es) (F0 m pc ls (As.reverse ++ vA G a :: st)) st (QR G es2 (Value.ref (G.1 + a) :: As).toArray) (gA G) := by
    rcases w1 with w1 | ⟨w1, w1d⟩
    · refine va_runI (As := As) (rest := st) (g := F0 m pc ls (As.reverse ++ vA G a :: st)) ⟨C.1, C.2.1, C.2.2.1, C.2.2.2.2.2.1, hts⟩ hM
        ⟨callB_of n hts hG (by unfold wsM; rw [w9]) rfl rfl (hts _ w4) (hts _ w1) w6 ⟨hdd, by dsimp only; omega⟩, w8, hts _ w2⟩
        ⟨PR_blind, fun U hU hW => ⟨rfl, PR_of hw hU hW⟩⟩ rfl hn hl rfl (lv_room hst) hd hc
    · have hnw := hw.2.2.2.2.2.2 _ w1
      have hy : (⟨ν.1.cls, "<init>", "()V"⟩ : MethodName) = ν.1 := by rw [← w8, ← w1d]
      rw [hy] at hnw
      refine va_runIN (As := As) (rest := st) (g := F0 m pc ls (As.reverse ++ vA G a :: st)) ⟨C.1, C.2.1, C.2.2.1, C.2.2.2.2.2.1, hts⟩ hM
        ⟨va_cnB n hts hG (by unfold wsM; rw [w9]) rfl rfl hnw (hts _ w4) w6 ⟨hdd, by dsimp only; omega⟩, w8, hts _ w2⟩
        ⟨PR_blind, fun U hU hW => ⟨rfl, PR_of hw hU hW⟩⟩ rfl hn hl rfl (lv_room hst) hd hc
  exact dn_runR hrun hw kk
theorem tsl_E8 (G : Geo) (n : Nat) : tsl (cE8 G n) = 1235 := by simp [tsl, cE8, cE9, cE6, eSl]
theorem len_E8 (G : Geo) (n : Nat) : (cE8 G n).length = 26 := rfl
theorem den_newT {rv : Int → Option Value} {h : AH} {res : Option (Int × AH)} {i1 i2 : Nat} (f : FN μ.2.2.2.2 i1 8 [.null, vI 0, vI 0, vI 0, .null, .null, .null, .null]) (w : FI μ.2.2.2.2 i2 m8_init 0) (hst : (st.map fun v => v.category).sum ≤ 7) (hd4 : 4 ≤ d) (h1 : decode μ.2.1 pc = .ok (.new i1, 3)) (h2 : decode μ.2.1 (pc + 3) = .ok (.dup, 1)) (h3 : decode μ.2.1 (pc + 4) = .ok (.invokespecial i2, 3)) (k : Den l G μ rv d (pc + 7) L (vA G (sz h.1) :: st) (newT h) res) : Den l G μ rv d pc L st h res := by
  intro r h' hr
  obtain ⟨⟨k1, k1'⟩, k2⟩ := k r h' hr
  have k1 : h.1 + 1 ≤ h'.1 := k1
  refine ⟨⟨by omega, k1'⟩, fun p e s m args below meth c R Q n0 H locs ls C hR hn hw hl ht => ?_⟩
  have hz : sz (h.1 + 1) ≤ sz h'.1 := sz_mono k1
  have hy : sl (h.1 + 1) ≤ sl h'.1 := sl_mono k1
  have ez : sz (h.1 + 1) = sz h.1 + 26 := by unfold sz; omega
  have ey : sl (h.1 + 1) = sl h.1 + 1235 := by unfold sl; omega
  have hR1 := hR.1
  have hR2 := hR.2.1
  have hR3 := hR.2.2.1
  have hR4 := hR.2.2.2
  have hn1 := hn.1
  have hn2 := hn.2
  have hr0 := toRd hw
  refine w_new C hr0 f (by omega) (by show _ + 8 ≤ _; omega) h1 (fun H1 hr1 => ?_)
  rw [aL_len]
  refine lv_dup C.1 C.2.1 h2 rfl ?_
  have hcon := cR8 l G (aL G h)
  rw [aL_len] at hcon
  have el : (aL G h ++ cE8 G (sz h.1)).length - (aL G h ++ ([.inr (8, [.null, vI 0, vI 0, vI 0, .null, .null, .null, .null])] : List va_E)).length = 25 := by rw [List.length_append, List.length_append, len_E8]; show _ + 26 - (_ + 1) = 25; omega
  have et : tsl (aL G h ++ cE8 G (sz h.1)) - tsl (aL G h ++ [.inr (8, [.null, vI 0, vI 0, vI 0, .null, .null, .null, .null])]) = 1227 := by rw [tsl_app, tsl_app, tsl_E8]; show _ + 1235 - (_ + 8) = 1227; omega
  refine w_callI (As := []) (st := vA G (sz h.1) :: st) (pc := pc + 4) (d2 := 3) C hr1 hl.size w rfl rfl (by show 1 + (st.map fun v => v.category).sum ≤ 8; omega) (by omega) (by omega) h3 hcon ?_ (fun H2 locs2 hr2 => ?_)
  · rw [el, et]
    exact ⟨by omega, by show sl h.1 - n0.2 + 8 + 1227 ≤ _; omega⟩
  · rw [el, et]
    have hw2 : Wd G (newT h) s H2 locs2 := by
      refine toWd hr2 (by rw [List.length_append, len_E8, aL_len]; exact ez.symm) (fun a ha => ?_) hw.2.2.2.2.2
      by_cases hlt : a < sz h.1
      · refine ⟨aE G a (h.2 a), ?_, Or.inl ?_⟩
        · rw [List.getElem?_append_left (by rw [aL_len]; exact hlt)]
          unfold aL
          rw [List.getElem?_map, List.getElem?_range hlt]
          rfl
        · congr 1
          funext j
          show h.2 a j = if sz h.1 ≤ a then _ else _
          rw [if_neg (by omega)]
      · obtain ⟨r, rfl⟩ : ∃ r, a = sz h.1 + r := ⟨a - sz h.1, by omega⟩
        have hr26 : r < 26 := by
          have : sz h.1 + r < sz (h.1 + 1) := ha
          omega
        obtain ⟨e1, he1, hs1⟩ := told_sim G h.1 r hr26
        refine ⟨e1, ?_, ?_⟩
        · rw [List.getElem?_append_right (by rw [aL_len]; omega), aL_len, Nat.add_sub_cancel_left]
          exact he1
        · have e2 : (newT h).2 (sz h.1 + r) = tInit r := by
            funext j
            show (if sz h.1 ≤ sz h.1 + r then tInit (sz h.1 + r - sz h.1) j else _) = _
            rw [if_pos (by omega), Nat.add_sub_cancel_left]
          rw [e2]
          exact hs1
    have := k2 p e s m args below meth c R Q n0 H2 locs2 ls C hR ⟨by show n0.1 ≤ sz (h.1 + 1); omega, by show n0.2 ≤ sl (h.1 + 1); omega⟩ hw2 hl ht
    have c1 : sz (newT h).1 - n0.1 = sz h.1 - n0.1 + 1 + 25 := by show sz (h.1 + 1) - n0.1 = _; omega
    have c2 : sl (newT h).1 - n0.2 = sl h.1 - n0.2 + ([Value.null, vI 0, vI 0, vI 0, .null, .null, .null, .null] : List Value).length + 1227 := by show sl (h.1 + 1) - n0.2 = sl h.1 - n0.2 + 8 + 1227; omega
    rw [c1, c2] at this
    exact this
theorem den_aast3 {rv : Int → Option Value} {h : AH} {res : Option (Int × AH)} {t : Nat} {i : Int} (hok : ok h.1 t 8) (hin : 0 ≤ w32 i ∧ w32 i < 3) (hd : decode μ.2.1 pc = .ok (.aastore, 1)) (kk : Den l G μ rv d (pc + 1) L st (wr h 27 (w32 i).toNat (t : Int)) res) : Den l G μ rv d pc L (vA G t :: vI i :: vA G 27 :: st) h res := by
  refine den_goH (h2 := wr h 27 (w32 i).toNat (t : Int)) rfl (fun ls C hw _ _ _ _ k2 => ?_) kk
  have hD := aW_D G h
  have hs : shp 27 = (3, 3) := sh_27
  have ha : 27 < sz h.1 := sz_lt (by decide)
  have he : (aW G h)[27]? = some (G.1 + 27, .inl (G.2.2.2 3, 3, .inr (.inr (.inr (.inr (fun j => oR G (h.2 27 j))))))) := by rw [aW_get G h ha, aE_3 hs]
  have hev : (aW G h)[t]? = some (G.1 + t, .inr (8, aF G t (h.2 t))) := by rw [aW_get G h hok.1, aE_obj hok.2]
  have hset := dn_set (G := G) (h := h) (a := 27) (N := 3) (t := 0) (k := (w32 i).toNat) (x := (t : Int)) (aE_3 hs)
  have hc : CC[8]? = some (RC8, TC8, 8) := rfl
  have htt : (tyl G)[3]? = some (G.2.2.2 3, .object RC8) := rfl
  have h0 : ¬ Int32.ofInt i < 0 := fun q => by rw [i32_lt0] at q; omega
  have hlt3 : (w32 i).toNat < 3 := by
    have q1 := hin.1
    have q2 := hin.2
    omega
  obtain ⟨r', hr', cellV, g1, g2, g3, -⟩ := hw.1 t _ hev
  have hcls := (hw.2.1.1 8 _ hc).2
  obtain ⟨kA, comp, k1, k2', k3, -⟩ := (hw.2.1.2 3 _ htt).2
  have hcomp : comp = G.2.2.1.1 8 := Option.some.inj (k3.symm.trans hcls.1)
  subst hcomp
  obtain ⟨kC, hkC, -⟩ := hcls.2
  refine W.aast C.1 C.2.1 (hw.1 27 _ he) (fun q h => by cases h) (fun h => by cases h) k1 k2' rfl hkC ⟨h0, by show _ < (arrV _ _ _).slots.size; rw [arrV_size, clamp_w]; exact hlt3⟩ g1 (fun q h => by rw [g3] at h; cases h) (by rw [g2]; exact hkC) (by rw [g2]; exact va_assign hcls) rfl rfl hd fun H1 e z oq => ?_
  have hP := hw.1.set hD he (e := .inl (G.2.2.2 3, 3, .inr (.inr (.inr (.inr (fun j => oR G (if j = (w32 i).toNat then (t : Int) else h.2 27 j))))))) (show H1[G.1 + 27]? = some (vp_cell _ _) by
    rw [e, vp_cell_q, vp_cell_q, arrV_store, clamp_w]
    refine congrArg some (arrV_ext (fun q _ => ?_))
    unfold updV
    by_cases hq : q = (w32 i).toNat
    · rw [if_pos hq, if_pos hq, rf_oR, vR_nat]
    · rw [if_neg hq, if_neg hq]) oq
  rw [hset] at hP
  exact k2 H1 _ (hw.put rfl z hP (hw.2.2.1.put z oq (hD.2 27 _ he)))
/-- the script -/
theorem den_scrLen {rv : Int → Option Value} {h : AH} {res : Option (Int × AH)} (hd : decode μ.2.1 pc = .ok (.arraylength, 1)) (k : Den l G μ rv d (pc + 1) L (vI (G.2.1 26 : Nat) :: st) h res) : Den l G μ rv d pc L (vS G 25 :: st) h res := den_go (fun _ C hw _ k => va_tlen C.1 C.2.1 hw.2.2.2.2.2.2.2.2.2.2.2 hw.2.2.1 rfl hd k) k
theorem den_scrAt {rv : Int → Option Value} {h : AH} {res : Option (Int × AH)} {i : Int} (hi : 0 ≤ w32 i ∧ w32 i < (G.2.1 26 : Nat)) (hd : decode μ.2.1 pc = .ok (.iaload, 1)) (k : Den l G μ rv d (pc + 1) L (vI (scr G (w32 i).toNat) :: st) h res) : Den l G μ rv d pc L (vI i :: vS G 25 :: st) h res := den_go (fun _ C hw _ k => va_ti C.1 C.2.1 hw.2.2.2.2.2.2.2.2.2.2.2 hw.2.2.1 (vp_in_w hi) (by rw [clamp_w]) hd k) k
end W24
