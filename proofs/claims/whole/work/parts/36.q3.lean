/-! more plain questions -/
def sHire (V : Nat → Int) (b s : Int) : Int := if sHeld V b s = -1 then 0 else (if 0 ≤ 9 - sHeld V b s - sHeld V b s then 9 - sHeld V b s - sHeld V b s else -(9 - sHeld V b s - sHeld V b s)) * sHeat V s
theorem sHire_rng {V : Nat → Int} (hV : VOK V) (b s : Int) : 0 ≤ sHire V b s ∧ sHire V b s ≤ 81 := by
  unfold sHire
  have h1 := sHeld_rng hV b s
  split
  · omega
  · exact mul_rng (a := 9) (b := 9) (by split <;> omega) (sHeat_rng hV s)
theorem v_hire {h : AH} {v : Nat} {V : Nat → Int} (hV : VOK V) (hc : VC h.2 v V) (b s : Int) : f9_burningByHire v b s h = some (sHire V (w32 b) (w32 s), h) := by
  have h1 := sHeld_rng hV (w32 b) (w32 s)
  unfold f9_burningByHire sHire
  rw [v_held hV hc, bnd_some, v_heat hV hc, bnd_some, w32_id (x := sHeld V (w32 b) (w32 s)) (by omega) (by omega), abs32_s (by omega) (by omega)]
  repeat' split
  all_goals first | rfl | omega
theorem q_hired {x1 x2 x3 x4 : Int} (hx1 : Rg x1) (hx2 : Rg x2) (hx3 : Rg x3) (hx4 : x4 = 0 ∨ x4 = 1) : Agr (f10_hired x1 x2 x3 x4) (f11_hired x1 x2 x3 x4) := by
  have e5 : w32 x4 = x4 := w32_id (by omega) (by omega)
  refine agr_v hx1 (fun h e => ⟨-1, ?_, fun e2 => ?_⟩) (fun h v V hV hc h7 h17 e => ⟨if x2 ≠ x3 ∧ (0 ≤ x2 ∧ x2 < V 0) ∧ (0 ≤ x3 ∧ x3 < V 0) then (if (bst (fun s => sHire V x3 s) (V 1).toNat).1 = -1 ∨ x4 = 0 then (bst (fun s => sHire V x3 s) (V 1).toNat).1 else (bst (fun s => sHire V x3 s) (V 1).toNat).2) else -1, h, ?_, PK.rf h, fun hs e1 hm => ⟨hs, ?_, PK.rf hs⟩⟩)
  · unfold f10_hired
    simp (disch := omega) only [w32_id, w32_0, w32_1, w32_m, if_pos, if_neg, bnd_some, lt_eq, asrt_t, ite10_0, ite10_or, e]
  · unfold f11_hired
    rw [e2, bnd_some, ite_w0]
  · have h1 := hV.2.1
    unfold f10_hired
    rw [e, bnd_some, if_neg (by omega), Int.toNat_natCast, v_hasC hV hc, bnd_some, w32_id hx2.1 hx2.2, w32_id hx3.1 hx3.2]
    simp only [ite10_0]
    by_cases hC : x2 ≠ x3 ∧ (0 ≤ x2 ∧ x2 < V 0) ∧ (0 ≤ x3 ∧ x3 < V 0)
    · rw [if_pos (fun q => q hC), if_pos hC]
      unfold l10_hired_36
      refine loop3 (fun i => bst (fun s => sHire V x3 s) i) (V 1).toNat h (fun i hi rec => ?_) (fun rec => ?_) (by omega)
      · have r1 := bst_rng (f := fun s : Nat => sHire V x3 s) (n := i) (hi := 81) (by omega) (fun j _ => (sHire_rng hV _ _).2)
        have r5 := sHire_rng hV x3 (i : Int)
        unfold b10_hired_36 b10_hired_71
        dsimp only
        rw [hc.2.1, w32_id (x := V 1) (by omega) (by omega), v_hire hV hc, bnd_some, w32_id hx3.1 hx3.2, w32_id (x := (i : Int)) (by omega) (by omega), if_neg (by omega), w32_id (x := sHire V x3 (i : Int)) (by omega) (by omega), w32_id (x := (bst (fun s : Nat => sHire V x3 s) i).2) (by omega) (by omega)]
        simp only [bst]
        repeat' split
        all_goals first | rfl | omega
      · have r1 := bst_rng (f := fun s : Nat => sHire V x3 s) (n := (V 1).toNat) (hi := 81) (by omega) (fun j _ => (sHire_rng hV _ _).2)
        unfold b10_hired_36
        dsimp only
        rw [hc.2.1, w32_id (x := V 1) (by omega) (by omega), w32_id (x := ((V 1).toNat : Int)) (by omega) (by omega), if_pos (by omega), e5, w32_id (x := (bst (fun s : Nat => sHire V x3 s) (V 1).toNat).1) (by omega) (by omega)]
        repeat' split
        all_goals first | rfl | omega
    · rw [if_neg (fun q => q hC), if_neg hC]
  · have h1 := hV.2.1
    have h0 := hV.1
    unfold f11_hired
    rw [e1, bnd_some, ite_w1, m_two hV hm, bnd_some, w32_id hx2.1 hx2.2, w32_id hx3.1 hx3.2]
    simp only [ite10_0]
    by_cases hC : x2 ≠ x3 ∧ (0 ≤ x2 ∧ x2 < V 0) ∧ (0 ≤ x3 ∧ x3 < V 0)
    · rw [if_pos (fun q => q hC), if_pos hC]
      unfold l11_hired_28
      refine loop3 (fun i => bst (fun s => sHire V x3 s) i) (V 1).toNat hs (fun i hi rec => ?_) (fun rec => ?_) (by omega)
      · have r1 := bst_rng (f := fun s : Nat => sHire V x3 s) (n := i) (hi := 81) (by omega) (fun j _ => (sHire_rng hV _ _).2)
        have r5 := sHire_rng hV x3 (i : Int)
        have r6 := sHeld_rng hV x3 (i : Int)
        have r7 : f11_heldOf x3 (i : Int) hs = some (sHeld V x3 (i : Int), hs) := by rw [m_held hm x3 i (by omega) (by omega), sHeld_in (fun _ => trivial) (by omega)]
        have r8 : f11_heatOf (i : Int) hs = some (sHeat V (i : Int), hs) := by rw [m_heat hm i (by omega), sHeat_in (V := V) (by omega)]
        unfold b11_hired_28 b11_hired_79 b11_hired_99
        dsimp only
        rw [vm_S hm, w32_id (x := V 1) (by omega) (by omega), w32_id (x := (i : Int)) (by omega) (by omega), if_neg (by omega)]
        simp only [r7, r8, bnd_some]
        rw [m_off _ _ _ (by omega) (by omega), bnd_some, r8, bnd_some, w32_id (x := sHeld V x3 (i : Int)) (by omega) (by omega), w32_id (x := (bst (fun s : Nat => sHire V x3 s) i).2) (by omega) (by omega), w32_0]
        have r9 : sHeld V x3 (i : Int) ≠ -1 → (if sHeld V x3 (i : Int) ≤ 9 - sHeld V x3 (i : Int) then 9 - sHeld V x3 (i : Int) - sHeld V x3 (i : Int) else sHeld V x3 (i : Int) - (9 - sHeld V x3 (i : Int))) * sHeat V (i : Int) = sHire V x3 (i : Int) := by
          intro q
          unfold sHire
          rw [if_neg q]
          congr 1
          repeat' split
          all_goals omega
        have r10 : sHeld V x3 (i : Int) = -1 → sHire V x3 (i : Int) = 0 := fun q => by unfold sHire; rw [if_pos q]
        simp only [bst]
        by_cases hD : sHeld V x3 (i : Int) = -1
        · rw [if_neg (fun q => q hD), r10 hD]
          repeat' split
          all_goals first | rfl | omega
        · rw [if_pos hD, r9 hD, w32_id (x := sHire V x3 (i : Int)) (by omega) (by omega)]
          repeat' split
          all_goals first | rfl | omega
      · have r1 := bst_rng (f := fun s : Nat => sHire V x3 s) (n := (V 1).toNat) (hi := 81) (by omega) (fun j _ => (sHire_rng hV _ _).2)
        unfold b11_hired_28
        dsimp only
        rw [vm_S hm, w32_id (x := V 1) (by omega) (by omega), w32_id (x := ((V 1).toNat : Int)) (by omega) (by omega), if_pos (by omega), e5, w32_id (x := (bst (fun s : Nat => sHire V x3 s) (V 1).toNat).1) (by omega) (by omega)]
        repeat' split
        all_goals first | rfl | omega
    · rw [if_neg (fun q => q hC), if_neg hC]
/-- farthest: the couple and how far, so far -/
def gFar (V : Nat → Int) (s : Int) (a b : Nat) (z : Int × Int) : Int × Int := if z.2 < sGap V a b s then (10 * (a : Int) + b, sGap V a b s) else z
theorem gFar_rng {V : Nat → Int} (hV : VOK V) (s : Int) (a b : Nat) {z : Int × Int} (h : -1 ≤ z.2 ∧ z.2 ≤ 9) : -1 ≤ (gFar V s a b z).2 ∧ (gFar V s a b z).2 ≤ 9 := by
  unfold gFar
  have := sGap_rng hV a b s
  split <;> (try simp only) <;> omega
theorem q_farthest {x1 x2 x3 : Int} (hx1 : Rg x1) (hx2 : Rg x2) (hx3 : x3 = 0 ∨ x3 = 1) : Agr (f10_farthest x1 x2 x3) (f11_farthest x1 x2 x3) := by
  have e5 : w32 x3 = x3 := w32_id (by omega) (by omega)
  refine agr_v hx1 (fun h e => ⟨-1, ?_, fun e2 => ?_⟩) (fun h v V hV hc h7 h17 e => ⟨if x3 = 0 then (itp (gFar V x2) (V 0).toNat (-1, -1)).1 else (itp (gFar V x2) (V 0).toNat (-1, -1)).2, h, ?_, PK.rf h, fun hs e1 hm => ⟨hs, ?_, PK.rf hs⟩⟩)
  · unfold f10_farthest
    simp (disch := omega) only [w32_id, w32_0, w32_1, w32_m, if_pos, if_neg, bnd_some, lt_eq, asrt_t, ite10_0, ite10_or, e]
  · unfold f11_farthest
    rw [e2, bnd_some, ite_w0]
  · have h0 := hV.1
    unfold f10_farthest
    rw [e, bnd_some, if_neg (by omega), Int.toNat_natCast]
    unfold l10_farthest_26 itp
    have key := for_run (F := fun rec (z : Int × Int × Int × AH) => b10_farthest_26 rec x2 x3 v z.1 z.2.1 z.2.2.1 z.2.2.2) (fun (z : Int × Int) i => (z.1, z.2, i, h)) (fun a s => itf (gFar V x2 a) (a + 1) ((V 0).toNat - (a + 1)) s) (K := fun z => some (if x3 = 0 then z.1 else z.2, h)) (fun _ z => -1 ≤ z.2 ∧ z.2 ≤ 9) 0 (V 0).toNat (by omega) (by omega) (-1, -1) (by decide) (fun a z _ ha hz => ?_) (fun z hz rec => ?_)
    · exact key
    · refine ⟨itf_inv (fun _ (z : Int × Int) => -1 ≤ z.2 ∧ z.2 ≤ 9) hz (fun i s _ _ q => gFar_rng hV x2 a i q), fun rec => ?_⟩
      unfold b10_farthest_26 l10_farthest_42
      dsimp only
      rw [hc.1, w32_id (x := V 0) (by omega) (by omega), w32_id (x := (a : Int)) (by omega) (by omega), if_neg (by omega), lt_eq]
      have k2 := for_run (F := fun rec42 (z : Int × Int × Int × AH) => b10_farthest_42 rec42 rec x2 x3 v a z.1 z.2.1 z.2.2.1 z.2.2.2) (fun (z : Int × Int) i => (z.1, z.2, i, h)) (gFar V x2 a) (K := fun z => rec (z.1, z.2, (a : Int) + 1, h)) (fun _ z => -1 ≤ z.2 ∧ z.2 ≤ 9) (a + 1) (V 0).toNat (by omega) (by omega) z hz (fun b z _ hb hz => ⟨gFar_rng hV x2 a b hz, fun rec => ?_⟩) (fun z hz rec => ?_)
      · exact k2
      · unfold b10_farthest_42 b10_farthest_85
        dsimp only
        have := sGap_rng hV a b x2
        rw [hc.1, w32_id (x := V 0) (by omega) (by omega), v_gap hV hc, bnd_some, w32_id (x := (a : Int)) (by omega) (by omega), w32_id (x := (b : Int)) (by omega) (by omega), w32_id hx2.1 hx2.2, if_neg (by omega), w32_id (x := z.2) (by omega) (by omega), w32_id (x := sGap V a b x2) (by omega) (by omega), lt_eq]
        unfold gFar
        repeat' split
        all_goals first | rfl | omega
      · unfold b10_farthest_42
        dsimp only
        rw [hc.1, w32_id (x := V 0) (by omega) (by omega), w32_id (x := ((V 0).toNat : Int)) (by omega) (by omega), if_pos (by omega)]
    · unfold b10_farthest_26
      dsimp only
      rw [hc.1, w32_id (x := V 0) (by omega) (by omega), w32_id (x := ((V 0).toNat : Int)) (by omega) (by omega), if_pos (by omega), e5]
      repeat' split
      all_goals first | rfl | omega
  · have h0 := hV.1
    unfold f11_farthest
    rw [e1, bnd_some, ite_w1, m_isS hV hm, bnd_some, w32_id hx2.1 hx2.2]
    simp only [ite10_0]
    by_cases hC : 0 ≤ x2 ∧ x2 < V 1
    · rw [if_pos (fun q => q hC)]
      unfold l11_farthest_27 itp
      have key := for_run (F := fun rec (z : Int × Int × Int × AH) => b11_farthest_27 rec x2 x3 z.1 z.2.1 z.2.2.1 z.2.2.2) (fun (z : Int × Int) i => (z.1, z.2, i, hs)) (fun a s => itf (gFar V x2 a) (a + 1) ((V 0).toNat - (a + 1)) s) (K := fun z => some (if x3 = 0 then z.1 else z.2, hs)) (fun _ z => -1 ≤ z.2 ∧ z.2 ≤ 9) 0 (V 0).toNat (by omega) (by omega) (-1, -1) (by decide) (fun a z _ ha hz => ?_) (fun z hz rec => ?_)
      · exact key
      · refine ⟨itf_inv (fun _ (z : Int × Int) => -1 ≤ z.2 ∧ z.2 ≤ 9) hz (fun i s _ _ q => gFar_rng hV x2 a i q), fun rec => ?_⟩
        unfold b11_farthest_27 l11_farthest_42
        dsimp only
        rw [vm_P hm, w32_id (x := V 0) (by omega) (by omega), w32_id (x := (a : Int)) (by omega) (by omega), if_neg (by omega), lt_eq]
        have k2 := for_run (F := fun rec42 (z : Int × Int × Int × AH) => b11_farthest_42 rec42 rec x2 x3 a z.1 z.2.1 z.2.2.1 z.2.2.2) (fun (z : Int × Int) i => (z.1, z.2, i, hs)) (gFar V x2 a) (K := fun z => rec (z.1, z.2, (a : Int) + 1, hs)) (fun _ z => -1 ≤ z.2 ∧ z.2 ≤ 9) (a + 1) (V 0).toNat (by omega) (by omega) z hz (fun b z _ hb hz => ⟨gFar_rng hV x2 a b hz, fun rec => ?_⟩) (fun z hz rec => ?_)
        · exact k2
        · unfold b11_farthest_42 b11_farthest_89
          dsimp only
          have := sGap_rng hV a b x2
          rw [vm_P hm, w32_id (x := V 0) (by omega) (by omega), w32_id (x := (b : Int)) (by omega) (by omega), if_neg (by omega), m_apart hV hm a b x2 (by omega) (by omega) hC (by omega), bnd_some, m_apart hV hm a b x2 (by omega) (by omega) hC (by omega), bnd_some, w32_id (x := z.2) (by omega) (by omega), w32_id (x := sGap V a b x2) (by omega) (by omega), lt_eq]
          unfold gFar
          repeat' split
          all_goals first | rfl | omega
        · unfold b11_farthest_42
          dsimp only
          rw [vm_P hm, w32_id (x := V 0) (by omega) (by omega), w32_id (x := ((V 0).toNat : Int)) (by omega) (by omega), if_pos (by omega)]
      · unfold b11_farthest_27
        dsimp only
        rw [vm_P hm, w32_id (x := V 0) (by omega) (by omega), w32_id (x := ((V 0).toNat : Int)) (by omega) (by omega), if_pos (by omega), e5]
        repeat' split
        all_goals first | rfl | omega
    · rw [if_neg (fun q => q hC)]
      have : itp (gFar V x2) (V 0).toNat (-1, -1) = (-1, -1) := by
        unfold itp
        refine itf_inv (fun _ z => z = (-1, -1)) rfl (fun a z _ _ q => ?_)
        refine itf_inv (fun _ z => z = (-1, -1)) q (fun b z _ _ q => ?_)
        unfold gFar
        rw [sGap_no (fun q => hC q.2.2.2), q]
        rfl
      rw [this]
      repeat' split
      all_goals first | rfl | omega
