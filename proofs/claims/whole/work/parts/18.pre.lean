/-! what the printed rows stand on -/
def FU : Nat := 1000000000000
def lt {α : Type} (v : α) (k : α → Option (Int × AH)) : Option (Int × AH) := k v
theorem lt_eq {α : Type} (v : α) (k : α → Option (Int × AH)) : lt v k = k v := rfl
def msk : List Bool → List (Option Value) → List (Option Value)
  | b :: bs, o :: os => (if b then o else none) :: msk bs os
  | _, _ => []
theorem msk_get : ∀ {ks : List Bool} {L : List (Option Value)} {i : Nat} {v : Value}, (msk ks L)[i]? = some (some v) → L[i]? = some (some v)
  | [], L, i, v, h => by cases L <;> cases h
  | b :: bs, [], i, v, h => by cases h
  | b :: bs, o :: os, 0, v, h => by
    cases b with
    | true => exact h
    | false => cases h
  | b :: bs, o :: os, i + 1, v, h => msk_get (ks := bs) (L := os) (i := i) h
section Pre
variable {l : Launch} {G : Geo} {μ ν : Mu} {rv : Int → Option Value} {d d2 pc : Nat} {L : List (Option Value)} {st : List Value} {h : AH} {res : Option (Int × AH)}
theorem den_wk (ks : List Bool) {L2 : List (Option Value)} (hk : msk ks L = L2) (k : Den l G μ rv d pc L2 st h res) : Den l G μ rv d pc L st h res := by
  subst hk
  exact fun r h' hr => ⟨(k r h' hr).1, fun p e s m args below meth c R Q n0 H locs ls C hR hn hw hl ht => (k r h' hr).2 p e s m args below meth c R Q n0 H locs ls C hR hn hw (Lv.weak hl (fun i v hv => mem_lvl.mpr (msk_get hv))) ht⟩
theorem den_ltH {v : AH} {K : AH → Option (Int × AH)} (k : ∀ h1 : AH, v.1 ≤ h1.1 → Den l G μ rv d pc L st h1 (K h1)) : Den l G μ rv d pc L st v (lt v K) := k v (Nat.le_refl _)
theorem den_istoreL {i : Nat} {x : Int} {L2 : Int → List (Option Value)} {K : Int → Option (Int × AH)} (hd : decode μ.2.1 pc = .ok (.istore i, 2)) (hn : i < μ.2.2.1) (hL : ∀ y, st1 L i (vI y) = L2 y) (k2 : ∀ y, Den l G μ rv d (pc + 2) (L2 y) st h (K y)) : Den l G μ rv d pc L (vI x :: st) h (lt x K) := den_istore hd hn (hL x) (k2 x)
theorem den_istore_nL {k : Fin 4} {i : Nat} {x : Int} {L2 : Int → List (Option Value)} {K : Int → Option (Int × AH)} (hd : decode μ.2.1 pc = .ok (.istore_n k, 1)) (hi : (k : Nat) = i) (hn : i < μ.2.2.1) (hL : ∀ y, st1 L i (vI y) = L2 y) (k2 : ∀ y, Den l G μ rv d (pc + 1) (L2 y) st h (K y)) : Den l G μ rv d pc L (vI x :: st) h (lt x K) := den_istore_n hd hi hn (hL x) (k2 x)
theorem den_lstoreL {i : Nat} {x : Int} {L2 : Int → List (Option Value)} {K : Int → Option (Int × AH)} (hd : decode μ.2.1 pc = .ok (.lstore i, 2)) (hn : i + 1 < μ.2.2.1) (hL : ∀ y, st2 L i (vJ y) = L2 y) (k2 : ∀ y, Den l G μ rv d (pc + 2) (L2 y) st h (K y)) : Den l G μ rv d pc L (vJ x :: st) h (lt x K) := den_lstore hd hn (hL x) (k2 x)
theorem den_lstore_nL {k : Fin 4} {i : Nat} {x : Int} {L2 : Int → List (Option Value)} {K : Int → Option (Int × AH)} (hd : decode μ.2.1 pc = .ok (.lstore_n k, 1)) (hi : (k : Nat) = i) (hn : i + 1 < μ.2.2.1) (hL : ∀ y, st2 L i (vJ y) = L2 y) (k2 : ∀ y, Den l G μ rv d (pc + 1) (L2 y) st h (K y)) : Den l G μ rv d pc L (vJ x :: st) h (lt x K) := den_lstore_n hd hi hn (hL x) (k2 x)
theorem den_callVI {S As : List Value} {a idx ci n : Nat} {f : Option (Int × AH)} {K : Int → AH → Option (Int × AH)} (w : FV μ.2.2.2.2 idx ν ci n) (hS : S = As.reverse ++ vA G a :: st) (hn : As.length = n) (hok : ok h.1 a ci) (hst : (st.map fun v => v.category).sum ≤ 8) (hdd : d2 + 1 ≤ d) (hd : decode μ.2.1 pc = .ok (.invokevirtual idx, 3)) (con : Con l G ν rvI d2 (vA G a :: As) h f) (k : ∀ (r : Int) (h1 : AH), h.1 ≤ h1.1 → RO ν.2.2.2.1 r h1.1 → Den l G μ rv d (pc + 3) L (vI r :: st) h1 (K r h1)) : Den l G μ rv d pc L S h (bnd f K) := den_callV w hS hn hok hst hdd hd con k
theorem den_callSI {S As : List Value} {idx n : Nat} {f : Option (Int × AH)} {K : Int → AH → Option (Int × AH)} (w : FS μ.2.2.2.2 idx ν n) (hS : S = As.reverse ++ st) (hn : As.length = n) (hst : (st.map fun v => v.category).sum ≤ 8) (hdd : d2 + 1 ≤ d) (hd : decode μ.2.1 pc = .ok (.invokestatic idx, 3)) (con : Con l G ν rvI d2 As h f) (k : ∀ (r : Int) (h1 : AH), h.1 ≤ h1.1 → RO ν.2.2.2.1 r h1.1 → Den l G μ rv d (pc + 3) L (vI r :: st) h1 (K r h1)) : Den l G μ rv d pc L S h (bnd f K) := den_callS w hS hn hst hdd hd con k
theorem den_callVJ {S As : List Value} {a idx ci n : Nat} {f : Option (Int × AH)} {K : Int → AH → Option (Int × AH)} (w : FV μ.2.2.2.2 idx ν ci n) (hS : S = As.reverse ++ vA G a :: st) (hn : As.length = n) (hok : ok h.1 a ci) (hst : (st.map fun v => v.category).sum ≤ 8) (hdd : d2 + 1 ≤ d) (hd : decode μ.2.1 pc = .ok (.invokevirtual idx, 3)) (con : Con l G ν rvJ d2 (vA G a :: As) h f) (k : ∀ (r : Int) (h1 : AH), h.1 ≤ h1.1 → RO ν.2.2.2.1 r h1.1 → Den l G μ rv d (pc + 3) L (vJ r :: st) h1 (K r h1)) : Den l G μ rv d pc L S h (bnd f K) := den_callV w hS hn hok hst hdd hd con k
theorem den_callSJ {S As : List Value} {idx n : Nat} {f : Option (Int × AH)} {K : Int → AH → Option (Int × AH)} (w : FS μ.2.2.2.2 idx ν n) (hS : S = As.reverse ++ st) (hn : As.length = n) (hst : (st.map fun v => v.category).sum ≤ 8) (hdd : d2 + 1 ≤ d) (hd : decode μ.2.1 pc = .ok (.invokestatic idx, 3)) (con : Con l G ν rvJ d2 As h f) (k : ∀ (r : Int) (h1 : AH), h.1 ≤ h1.1 → RO ν.2.2.2.1 r h1.1 → Den l G μ rv d (pc + 3) L (vJ r :: st) h1 (K r h1)) : Den l G μ rv d pc L S h (bnd f K) := den_callS w hS hn hst hdd hd con k
theorem den_callVV {S As : List Value} {a idx ci n : Nat} {f : Option (Int × AH)} {K : Int → AH → Option (Int × AH)} (w : FV μ.2.2.2.2 idx ν ci n) (hS : S = As.reverse ++ vA G a :: st) (hn : As.length = n) (hok : ok h.1 a ci) (hst : (st.map fun v => v.category).sum ≤ 8) (hdd : d2 + 1 ≤ d) (hd : decode μ.2.1 pc = .ok (.invokevirtual idx, 3)) (con : Con l G ν rvV d2 (vA G a :: As) h f) (k : ∀ (r : Int) (h1 : AH), h.1 ≤ h1.1 → RO ν.2.2.2.1 r h1.1 → Den l G μ rv d (pc + 3) L (st) h1 (K r h1)) : Den l G μ rv d pc L S h (bnd f K) := den_callV w hS hn hok hst hdd hd con k
theorem den_callSV {S As : List Value} {idx n : Nat} {f : Option (Int × AH)} {K : Int → AH → Option (Int × AH)} (w : FS μ.2.2.2.2 idx ν n) (hS : S = As.reverse ++ st) (hn : As.length = n) (hst : (st.map fun v => v.category).sum ≤ 8) (hdd : d2 + 1 ≤ d) (hd : decode μ.2.1 pc = .ok (.invokestatic idx, 3)) (con : Con l G ν rvV d2 As h f) (k : ∀ (r : Int) (h1 : AH), h.1 ≤ h1.1 → RO ν.2.2.2.1 r h1.1 → Den l G μ rv d (pc + 3) L (st) h1 (K r h1)) : Den l G μ rv d pc L S h (bnd f K) := den_callS w hS hn hst hdd hd con k
theorem den_callVR {S As : List Value} {a idx ci n : Nat} {f : Option (Int × AH)} {K : Int → AH → Option (Int × AH)} (w : FV μ.2.2.2.2 idx ν ci n) (hS : S = As.reverse ++ vA G a :: st) (hn : As.length = n) (hok : ok h.1 a ci) (hst : (st.map fun v => v.category).sum ≤ 8) (hdd : d2 + 1 ≤ d) (hd : decode μ.2.1 pc = .ok (.invokevirtual idx, 3)) (con : Con l G ν (rvR G) d2 (vA G a :: As) h f) (k : ∀ (r : Int) (h1 : AH), h.1 ≤ h1.1 → RO ν.2.2.2.1 r h1.1 → Den l G μ rv d (pc + 3) L (vR G r :: st) h1 (K r h1)) : Den l G μ rv d pc L S h (bnd f K) := den_callV w hS hn hok hst hdd hd con k
theorem den_callSR {S As : List Value} {idx n : Nat} {f : Option (Int × AH)} {K : Int → AH → Option (Int × AH)} (w : FS μ.2.2.2.2 idx ν n) (hS : S = As.reverse ++ st) (hn : As.length = n) (hst : (st.map fun v => v.category).sum ≤ 8) (hdd : d2 + 1 ≤ d) (hd : decode μ.2.1 pc = .ok (.invokestatic idx, 3)) (con : Con l G ν (rvR G) d2 As h f) (k : ∀ (r : Int) (h1 : AH), h.1 ≤ h1.1 → RO ν.2.2.2.1 r h1.1 → Den l G μ rv d (pc + 3) L (vR G r :: st) h1 (K r h1)) : Den l G μ rv d pc L S h (bnd f K) := den_callS w hS hn hst hdd hd con k
theorem vR_nat (G : Geo) (a : Nat) : vR G (a : Int) = vA G a := by
  rw [vR_pos G (by omega)]
  rfl
theorem den_aretAV {a : Nat} (hr : μ.2.2.2.1 = some (.object "QuarrelOvens$Village")) (hk : ok h.1 a 9) (hd : decode μ.2.1 pc = .ok (.areturn, 1)) : Den l G μ (rvR G) d pc L [vA G a] h (some ((a : Int), h)) := by
  rw [← vR_nat]
  exact den_aret hr (Or.inr ⟨fun _ => hk, fun q => absurd q (by decide)⟩) hd
theorem den_aretAW {a : Nat} (hr : μ.2.2.2.1 = some (.object "QuarrelOvens$Rows")) (hk : ok h.1 a 6) (hd : decode μ.2.1 pc = .ok (.areturn, 1)) : Den l G μ (rvR G) d pc L [vA G a] h (some ((a : Int), h)) := by
  rw [← vR_nat]
  exact den_aret hr (Or.inr ⟨fun q => absurd q (by decide), fun _ => hk⟩) hd
end Pre
theorem RO.v {r : Int} {n : Nat} (h : RO (some (.object "QuarrelOvens$Village")) r n) : r < 0 ∨ ok n r.toNat 9 := Or.imp id (fun q => q.1 rfl) h
theorem RO.r {r : Int} {n : Nat} (h : RO (some (.object "QuarrelOvens$Rows")) r n) : r < 0 ∨ ok n r.toNat 6 := Or.imp id (fun q => q.2 rfl) h
theorem nxt_ok {n a off : Nat} {k0 k1 : Nat × Nat} (ha : a < sz n) (hs : shp a = k0) (h1 : ∀ b, b < 93 → SH0.getD b (0, 0) = k0 → SH0.getD (b + off) (0, 0) = k1 ∧ b + off < 93) (h2 : ∀ r, r < 26 → SHT.getD r (0, 0) = k0 → SHT.getD (r + off) (0, 0) = k1 ∧ r + off < 26) : shp (a + off) = k1 ∧ a + off < sz n := by
  unfold shp at hs ⊢
  unfold sz at ha ⊢
  by_cases h : a < 93
  · rw [if_pos h] at hs
    obtain ⟨q1, q2⟩ := h1 a h hs
    rw [if_pos q2]
    exact ⟨q1, by omega⟩
  · rw [if_neg h] at hs
    obtain ⟨q1, q2⟩ := h2 _ (Nat.mod_lt _ (by decide)) hs
    rw [if_neg (by omega)]
    have e : (a + off - 93) % 26 = (a - 93) % 26 + off := by omega
    rw [e]
    exact ⟨q1, by omega⟩
theorem vil_1 {n a : Nat} (h : ok n a 9) : shp (a + 1) = (0, 6) ∧ a + 1 < sz n := nxt_ok (k0 := (19, 9)) h.1 h.2 (by decide +kernel) (by decide +kernel)
theorem vil_s1 {n a : Nat} (h : ok n a 9) : shp (a + 1) = (0, 6) := (vil_1 h).1
theorem vil_l1 {n a : Nat} (h : ok n a 9) : a + 1 < sz n := (vil_1 h).2
theorem vil_2 {n a : Nat} (h : ok n a 9) : shp (a + 2) = (0, 6) ∧ a + 2 < sz n := nxt_ok (k0 := (19, 9)) h.1 h.2 (by decide +kernel) (by decide +kernel)
theorem vil_s2 {n a : Nat} (h : ok n a 9) : shp (a + 2) = (0, 6) := (vil_2 h).1
theorem vil_l2 {n a : Nat} (h : ok n a 9) : a + 2 < sz n := (vil_2 h).2
theorem vil_3 {n a : Nat} (h : ok n a 9) : shp (a + 3) = (0, 4) ∧ a + 3 < sz n := nxt_ok (k0 := (19, 9)) h.1 h.2 (by decide +kernel) (by decide +kernel)
theorem vil_s3 {n a : Nat} (h : ok n a 9) : shp (a + 3) = (0, 4) := (vil_3 h).1
theorem vil_l3 {n a : Nat} (h : ok n a 9) : a + 3 < sz n := (vil_3 h).2
theorem vil_4 {n a : Nat} (h : ok n a 9) : shp (a + 4) = (0, 4) ∧ a + 4 < sz n := nxt_ok (k0 := (19, 9)) h.1 h.2 (by decide +kernel) (by decide +kernel)
theorem vil_s4 {n a : Nat} (h : ok n a 9) : shp (a + 4) = (0, 4) := (vil_4 h).1
theorem vil_l4 {n a : Nat} (h : ok n a 9) : a + 4 < sz n := (vil_4 h).2
theorem vil_5 {n a : Nat} (h : ok n a 9) : shp (a + 5) = (0, 48) ∧ a + 5 < sz n := nxt_ok (k0 := (19, 9)) h.1 h.2 (by decide +kernel) (by decide +kernel)
theorem vil_s5 {n a : Nat} (h : ok n a 9) : shp (a + 5) = (0, 48) := (vil_5 h).1
theorem vil_l5 {n a : Nat} (h : ok n a 9) : a + 5 < sz n := (vil_5 h).2
theorem tol_1 {n a : Nat} (h : ok n a 8) : shp (a + 1) = (1, 600) ∧ a + 1 < sz n := nxt_ok (k0 := (18, 8)) h.1 h.2 (by decide +kernel) (by decide +kernel)
theorem tol_s1 {n a : Nat} (h : ok n a 8) : shp (a + 1) = (1, 600) := (tol_1 h).1
theorem tol_l1 {n a : Nat} (h : ok n a 8) : a + 1 < sz n := (tol_1 h).2
theorem tol_2 {n a : Nat} (h : ok n a 8) : shp (a + 2) = (0, 3) ∧ a + 2 < sz n := nxt_ok (k0 := (18, 8)) h.1 h.2 (by decide +kernel) (by decide +kernel)
theorem tol_s2 {n a : Nat} (h : ok n a 8) : shp (a + 2) = (0, 3) := (tol_2 h).1
theorem tol_l2 {n a : Nat} (h : ok n a 8) : a + 2 < sz n := (tol_2 h).2
theorem tol_3 {n a : Nat} (h : ok n a 8) : shp (a + 3) = (4, 2) ∧ a + 3 < sz n := nxt_ok (k0 := (18, 8)) h.1 h.2 (by decide +kernel) (by decide +kernel)
theorem tol_s3 {n a : Nat} (h : ok n a 8) : shp (a + 3) = (4, 2) := (tol_3 h).1
theorem tol_l3 {n a : Nat} (h : ok n a 8) : a + 3 < sz n := (tol_3 h).2
theorem tol_4 {n a : Nat} (h : ok n a 8) : shp (a + 4) = (5, 2) ∧ a + 4 < sz n := nxt_ok (k0 := (18, 8)) h.1 h.2 (by decide +kernel) (by decide +kernel)
theorem tol_s4 {n a : Nat} (h : ok n a 8) : shp (a + 4) = (5, 2) := (tol_4 h).1
theorem tol_l4 {n a : Nat} (h : ok n a 8) : a + 4 < sz n := (tol_4 h).2
theorem tol_5 {n a : Nat} (h : ok n a 8) : shp (a + 5) = (6, 2) ∧ a + 5 < sz n := nxt_ok (k0 := (18, 8)) h.1 h.2 (by decide +kernel) (by decide +kernel)
theorem tol_s5 {n a : Nat} (h : ok n a 8) : shp (a + 5) = (6, 2) := (tol_5 h).1
theorem tol_l5 {n a : Nat} (h : ok n a 8) : a + 5 < sz n := (tol_5 h).2
theorem row_1 {n a : Nat} (h : ok n a 6) : (shp (a + 1)).1 = 0 ∧ a + 1 < sz n := by
  obtain ⟨ha, hs⟩ := h
  have g1 : ∀ b, b < 93 → SH0.getD b (0, 0) = (16, 4) → (SH0.getD (b + 1) (0, 0)).1 = 0 ∧ b + 1 < 93 := by decide +kernel
  have g2 : ∀ r, r < 26 → SHT.getD r (0, 0) = (16, 4) → (SHT.getD (r + 1) (0, 0)).1 = 0 ∧ r + 1 < 26 := by decide +kernel
  have hs : shp a = (16, 4) := hs
  unfold shp at hs ⊢
  unfold sz at ha ⊢
  by_cases h : a < 93
  · rw [if_pos h] at hs
    obtain ⟨q1, q2⟩ := g1 a h hs
    rw [if_pos q2]
    exact ⟨q1, by omega⟩
  · rw [if_neg h] at hs
    obtain ⟨q1, q2⟩ := g2 _ (Nat.mod_lt _ (by decide)) hs
    rw [if_neg (by omega)]
    have e : (a + 1 - 93) % 26 = (a - 93) % 26 + 1 := by omega
    rw [e]
    exact ⟨q1, by omega⟩
theorem row_s1 {n a : Nat} (h : ok n a 6) : shp (a + 1) = (0, (shp (a + 1)).2) := Prod.ext (row_1 h).1 rfl
theorem row_l1 {n a : Nat} (h : ok n a 6) : a + 1 < sz n := (row_1 h).2
theorem two_of {i : Int} (h : 0 ≤ w32 i ∧ w32 i < 2) : (w32 i).toNat = 0 ∨ (w32 i).toNat = 1 := by omega
theorem ok_e4 {n a : Nat} {i : Int} (hs : shp a = (4, 2)) (ha : a < sz n) (h : 0 ≤ w32 i ∧ w32 i < 2) : ok n (a + 3 + 10 * (w32 i).toNat) 9 := by
  rcases two_of h with e | e <;> rw [e]
  · have := nxt_ok (off := 3) (k0 := (4, 2)) (k1 := (19, 9)) ha hs (by decide +kernel) (by decide +kernel)
    exact ⟨this.2, this.1⟩
  · have := nxt_ok (off := 13) (k0 := (4, 2)) (k1 := (19, 9)) ha hs (by decide +kernel) (by decide +kernel)
    exact ⟨this.2, this.1⟩
theorem ok_e5 {n a : Nat} {i : Int} (hs : shp a = (5, 2)) (ha : a < sz n) (h : 0 ≤ w32 i ∧ w32 i < 2) : ok n (a + 8 + 10 * (w32 i).toNat) 6 := by
  rcases two_of h with e | e <;> rw [e]
  · have := nxt_ok (off := 8) (k0 := (5, 2)) (k1 := (16, 4)) ha hs (by decide +kernel) (by decide +kernel)
    exact ⟨this.2, this.1⟩
  · have := nxt_ok (off := 18) (k0 := (5, 2)) (k1 := (16, 4)) ha hs (by decide +kernel) (by decide +kernel)
    exact ⟨this.2, this.1⟩
theorem ok_e6 {n a : Nat} {i : Int} (hs : shp a = (6, 2)) (ha : a < sz n) (h : 0 ≤ w32 i ∧ w32 i < 2) : ok n (a + 9 + 10 * (w32 i).toNat) 6 := by
  rcases two_of h with e | e <;> rw [e]
  · have := nxt_ok (off := 9) (k0 := (6, 2)) (k1 := (16, 4)) ha hs (by decide +kernel) (by decide +kernel)
    exact ⟨this.2, this.1⟩
  · have := nxt_ok (off := 19) (k0 := (6, 2)) (k1 := (16, 4)) ha hs (by decide +kernel) (by decide +kernel)
    exact ⟨this.2, this.1⟩
theorem ok_0 (n : Nat) : ok n 0 10 := ⟨sz_lt (by decide), by decide⟩
theorem ok_1 (n : Nat) : ok n 1 8 := ⟨sz_lt (by decide), by decide⟩
theorem sh_2 : shp 2 = (1, 600) := by decide
theorem sh_3 : shp 3 = (0, 3) := by decide
theorem sh_4 : shp 4 = (4, 2) := by decide
theorem sh_5 : shp 5 = (5, 2) := by decide
theorem sh_6 : shp 6 = (6, 2) := by decide
theorem ok_7 (n : Nat) : ok n 7 9 := ⟨sz_lt (by decide), by decide⟩
theorem sh_8 : shp 8 = (0, 6) := by decide
theorem sh_9 : shp 9 = (0, 6) := by decide
theorem sh_10 : shp 10 = (0, 4) := by decide
theorem sh_11 : shp 11 = (0, 4) := by decide
theorem sh_12 : shp 12 = (0, 48) := by decide
theorem ok_13 (n : Nat) : ok n 13 6 := ⟨sz_lt (by decide), by decide⟩
theorem sh_14 : shp 14 = (0, 200) := by decide
theorem ok_15 (n : Nat) : ok n 15 6 := ⟨sz_lt (by decide), by decide⟩
theorem sh_16 : shp 16 = (0, 24) := by decide
theorem ok_17 (n : Nat) : ok n 17 9 := ⟨sz_lt (by decide), by decide⟩
theorem sh_18 : shp 18 = (0, 6) := by decide
theorem sh_19 : shp 19 = (0, 6) := by decide
theorem sh_20 : shp 20 = (0, 4) := by decide
theorem sh_21 : shp 21 = (0, 4) := by decide
theorem sh_22 : shp 22 = (0, 48) := by decide
theorem ok_23 (n : Nat) : ok n 23 6 := ⟨sz_lt (by decide), by decide⟩
theorem sh_24 : shp 24 = (0, 200) := by decide
theorem ok_25 (n : Nat) : ok n 25 6 := ⟨sz_lt (by decide), by decide⟩
theorem sh_26 : shp 26 = (0, 24) := by decide
theorem sh_27 : shp 27 = (3, 3) := by decide
theorem ok_28 (n : Nat) : ok n 28 5 := ⟨sz_lt (by decide), by decide⟩
theorem ok_29 (n : Nat) : ok n 29 9 := ⟨sz_lt (by decide), by decide⟩
theorem sh_30 : shp 30 = (0, 6) := by decide
theorem sh_31 : shp 31 = (0, 6) := by decide
theorem sh_32 : shp 32 = (0, 4) := by decide
theorem sh_33 : shp 33 = (0, 4) := by decide
theorem sh_34 : shp 34 = (0, 48) := by decide
theorem ok_35 (n : Nat) : ok n 35 6 := ⟨sz_lt (by decide), by decide⟩
theorem sh_36 : shp 36 = (0, 200) := by decide
theorem ok_37 (n : Nat) : ok n 37 6 := ⟨sz_lt (by decide), by decide⟩
theorem sh_38 : shp 38 = (0, 24) := by decide
theorem sh_39 : shp 39 = (1, 600) := by decide
theorem sh_40 : shp 40 = (0, 4) := by decide
theorem ok_41 (n : Nat) : ok n 41 7 := ⟨sz_lt (by decide), by decide⟩
theorem ok_42 (n : Nat) : ok n 42 9 := ⟨sz_lt (by decide), by decide⟩
theorem sh_43 : shp 43 = (0, 6) := by decide
theorem sh_44 : shp 44 = (0, 6) := by decide
theorem sh_45 : shp 45 = (0, 4) := by decide
theorem sh_46 : shp 46 = (0, 4) := by decide
theorem sh_47 : shp 47 = (0, 48) := by decide
theorem sh_48 : shp 48 = (0, 4) := by decide
theorem sh_49 : shp 49 = (0, 8) := by decide
theorem ok_50 (n : Nat) : ok n 50 1 := ⟨sz_lt (by decide), by decide⟩
theorem sh_51 : shp 51 = (0, 8) := by decide
theorem sh_52 : shp 52 = (0, 64) := by decide
theorem ok_53 (n : Nat) : ok n 53 4 := ⟨sz_lt (by decide), by decide⟩
theorem sh_54 : shp 54 = (0, 4) := by decide
theorem sh_55 : shp 55 = (0, 168) := by decide
theorem sh_56 : shp 56 = (0, 168) := by decide
theorem sh_57 : shp 57 = (0, 168) := by decide
theorem sh_58 : shp 58 = (0, 8192) := by decide
theorem ok_59 (n : Nat) : ok n 59 3 := ⟨sz_lt (by decide), by decide⟩
theorem sh_60 : shp 60 = (0, 100) := by decide
theorem sh_61 : shp 61 = (0, 100) := by decide
theorem ok_62 (n : Nat) : ok n 62 0 := ⟨sz_lt (by decide), by decide⟩
theorem sh_63 : shp 63 = (0, 8) := by decide
theorem sh_64 : shp 64 = (0, 8) := by decide
theorem sh_65 : shp 65 = (0, 8) := by decide
theorem ok_66 (n : Nat) : ok n 66 2 := ⟨sz_lt (by decide), by decide⟩
theorem sh_67 : shp 67 = (0, 60) := by decide
theorem sh_68 : shp 68 = (0, 82) := by decide
theorem ok_69 (n : Nat) : ok n 69 11 := ⟨sz_lt (by decide), by decide⟩
theorem sh_70 : shp 70 = (0, 4824) := by decide
theorem sh_71 : shp 71 = (2, 3) := by decide
theorem sh_72 : shp 72 = (0, 201) := by decide
theorem sh_73 : shp 73 = (0, 5) := by decide
theorem sh_74 : shp 74 = (0, 5) := by decide
theorem sh_75 : shp 75 = (0, 5) := by decide
theorem sh_76 : shp 76 = (0, 5) := by decide
theorem sh_77 : shp 77 = (0, 4) := by decide
theorem sh_78 : shp 78 = (0, 8) := by decide
theorem sh_79 : shp 79 = (0, 256) := by decide
theorem sh_80 : shp 80 = (0, 6) := by decide
theorem sh_81 : shp 81 = (0, 20) := by decide
theorem sh_82 : shp 82 = (2, 1000) := by decide
theorem sh_83 : shp 83 = (2, 1000) := by decide
theorem sh_84 : shp 84 = (0, 8) := by decide
theorem sh_85 : shp 85 = (0, 2) := by decide
theorem sh_86 : shp 86 = (0, 64) := by decide
theorem sh_87 : shp 87 = (0, 2048) := by decide
theorem sh_88 : shp 88 = (0, 4) := by decide
theorem sh_89 : shp 89 = (0, 6) := by decide
theorem sh_90 : shp 90 = (0, 48) := by decide
theorem sh_91 : shp 91 = (0, 8) := by decide
theorem sh_92 : shp 92 = (0, 82) := by decide
