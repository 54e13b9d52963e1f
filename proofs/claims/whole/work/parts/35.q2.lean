/-! loops as repeated steps -/
def itf {σ : Type} (g : Nat → σ → σ) (lo : Nat) : Nat → σ → σ
  | 0, s => s
  | n + 1, s => g (lo + n) (itf g lo n s)
theorem itf_inv {σ : Type} {g : Nat → σ → σ} {lo n : Nat} {s : σ} (p : Nat → σ → Prop) (h0 : p lo s) (hs : ∀ i s, lo ≤ i → i < lo + n → p i s → p (i + 1) (g i s)) : p (lo + n) (itf g lo n s) := by
  induction n with
  | zero => exact h0
  | succ n ih => exact hs (lo + n) _ (by omega) (by omega) (ih (fun i s a b => hs i s a (by omega)))
theorem for_run {α σ : Type} {F : (α → Option (Int × AH)) → α → Option (Int × AH)} (mk : σ → Int → α) (g : Nat → σ → σ) {K : σ → Option (Int × AH)} (p : Nat → σ → Prop) (lo N : Nat) (hle : lo ≤ N) (hN : N < 1000000) (s : σ) (h0 : p lo s) (hs : ∀ i s, lo ≤ i → i < N → p i s → p (i + 1) (g i s) ∧ ∀ rec, F rec (mk s (i : Int)) = rec (mk (g i s) ((i : Int) + 1))) (he : ∀ s, p N s → ∀ rec, F rec (mk s (N : Int)) = K s) : fx F FU (mk s (lo : Int)) = K (itf g lo (N - lo) s) := by
  have hp : ∀ i, i ≤ N - lo → p (lo + i) (itf g lo i s) := fun i hi => itf_inv p h0 (fun j s a b c => (hs j s a (by omega) c).1)
  have key := fx_run (F := F) (X := K (itf g lo (N - lo) s)) (fun i => mk (itf g lo i s) ((lo + i : Nat) : Int)) (N - lo) (fun i hi rec => ?_) (fun rec => ?_) (n := FU) (FU_big (by omega))
  · exact key
  · show F rec (mk (itf g lo i s) ((lo + i : Nat) : Int)) = rec (mk (g (lo + i) (itf g lo i s)) ((lo + (i + 1) : Nat) : Int))
    rw [(hs (lo + i) _ (by omega) (by omega) (hp i (by omega))).2 rec]
    rfl
  · have e : lo + (N - lo) = N := by omega
    have hq := hp (N - lo) (Nat.le_refl _)
    rw [e] at hq
    have := he _ hq rec
    simp only [e]
    exact this
/-- two of n, the first below the second, in their order -/
def itp {σ : Type} (g : Nat → Nat → σ → σ) (n : Nat) (s : σ) : σ := itf (fun a s => itf (g a) (a + 1) (n - (a + 1)) s) 0 n s
theorem sGap_no {V : Nat → Int} {a b s : Int} (h : ¬ (a ≠ b ∧ (0 ≤ a ∧ a < V 0) ∧ (0 ≤ b ∧ b < V 0) ∧ (0 ≤ s ∧ s < V 1))) : sGap V a b s = -1 := by
  unfold sGap sHeld
  repeat' split
  all_goals first | rfl | omega
theorem sBurn_no {V : Nat → Int} {a b s : Int} (h : ¬ (a ≠ b ∧ (0 ≤ a ∧ a < V 0) ∧ (0 ≤ b ∧ b < V 0) ∧ (0 ≤ s ∧ s < V 1))) : sBurn V a b s = 0 := by
  unfold sBurn mx
  rw [sGap_no h, if_neg (by decide), Int.zero_mul]
theorem bst_val (f : Nat → Int) (n : Nat) : ((bst f n).1 = -1 ∧ (bst f n).2 = 0) ∨ ∃ k : Nat, k < n ∧ (bst f n).1 = k ∧ (bst f n).2 = f k := by
  induction n with
  | zero => left; exact ⟨rfl, rfl⟩
  | succ n ih =>
    simp only [bst]
    split
    · right; exact ⟨n, by omega, rfl, rfl⟩
    · rcases ih with ih | ⟨k, h1, h2⟩
      · left; exact ih
      · right; exact ⟨k, by omega, h2⟩
theorem bst_none {f : Nat → Int} {n : Nat} (h : ∀ i, i < n → f i ≤ 0) : bst f n = (-1, 0) := by
  induction n with
  | zero => rfl
  | succ n ih =>
    simp only [bst]
    rw [ih (fun i hi => h i (by omega)), if_neg (by have := h n (by omega); simp only; omega)]
theorem vm_P {c : Nat → Nat → Int} {V : Nat → Int} (hm : VM c V) : c 69 13 = V 0 := by
  obtain ⟨o, m0, m1, m2, m3, m4, m5⟩ := hm; exact m2
theorem vm_S {c : Nat → Nat → Int} {V : Nat → Int} (hm : VM c V) : c 69 14 = V 1 := by
  obtain ⟨o, m0, m1, m2, m3, m4, m5⟩ := hm; exact m3
theorem vm_H {c : Nat → Nat → Int} {V : Nat → Int} (hm : VM c V) : c 69 15 = V 2 := by
  obtain ⟨o, m0, m1, m2, m3, m4, m5⟩ := hm; exact m4
theorem q_apart {x1 x2 x3 x4 x5 : Int} (hx1 : Rg x1) (hx2 : Rg x2) (hx3 : Rg x3) (hx4 : Rg x4) (hx5 : x5 = 0 ∨ x5 = 1) : Agr (f10_apart x1 x2 x3 x4 x5) (f11_apart x1 x2 x3 x4 x5) := by
  refine agr_v hx1 (fun h e => ⟨-1, ?_, fun e2 => ?_⟩) (fun h v V hV hc h7 h17 e => ⟨if sGap V x2 x3 x4 = -1 then -1 else if x5 = 0 then sGap V x2 x3 x4 else sBurn V x2 x3 x4, h, ?_, PK.rf h, fun hs e1 hm => ⟨hs, ?_, PK.rf hs⟩⟩)
  · unfold f10_apart
    simp (disch := omega) only [w32_id, w32_0, w32_1, w32_m, if_pos, if_neg, bnd_some, lt_eq, asrt_t, ite10_0, ite10_or, e]
  · unfold f11_apart
    rw [e2, bnd_some, ite_w0]
  · have r1 := sGap_rng hV x2 x3 x4
    have e5 : w32 x5 = x5 := w32_id (by omega) (by omega)
    unfold f10_apart
    rw [e, bnd_some, if_neg (by omega), Int.toNat_natCast, v_gap hV hc, bnd_some, v_burn hV hc, bnd_some, w32_id hx2.1 hx2.2, w32_id hx3.1 hx3.2, w32_id hx4.1 hx4.2, w32_id (x := sGap V x2 x3 x4) (by omega) (by omega), e5]
    repeat' split
    all_goals first | rfl | omega | (congr 2)
  · have r1 := sGap_rng hV x2 x3 x4
    have e5 : w32 x5 = x5 := w32_id (by omega) (by omega)
    have h1 := hV.2.1
    unfold f11_apart
    rw [e1, bnd_some, ite_w1, m_two hV hm, bnd_some, m_isS hV hm, bnd_some, w32_id hx2.1 hx2.2, w32_id hx3.1 hx3.2, w32_id hx4.1 hx4.2, e5]
    simp only [ite10_0]
    by_cases hC : x2 ≠ x3 ∧ (0 ≤ x2 ∧ x2 < V 0) ∧ (0 ≤ x3 ∧ x3 < V 0) ∧ (0 ≤ x4 ∧ x4 < V 1)
    · rw [if_neg (by omega), if_neg (by omega), m_apart hV hm x2 x3 x4 hC.2.1 hC.2.2.1 hC.2.2.2 hC.1, bnd_some, m_apart hV hm x2 x3 x4 hC.2.1 hC.2.2.1 hC.2.2.2 hC.1, bnd_some, m_heat hm x4 (by omega), bnd_some, w32_id (x := sGap V x2 x3 x4) (by omega) (by omega)]
      unfold sBurn mx
      rw [sHeat_in (V := V) hC.2.2.2]
      repeat' split
      all_goals first | rfl | omega | (rw [Int.mul_one]) | (congr 2; rw [show sGap V x2 x3 x4 = 0 by omega])
    · rw [sGap_no hC]
      repeat' split
      all_goals first | rfl | omega
theorem q_keenest {x1 x2 x3 x4 : Int} (hx1 : Rg x1) (hx2 : Rg x2) (hx3 : Rg x3) (hx4 : x4 = 0 ∨ x4 = 1) : Agr (f10_keenest x1 x2 x3 x4) (f11_keenest x1 x2 x3 x4) := by
  have e5 : w32 x4 = x4 := w32_id (by omega) (by omega)
  refine agr_v hx1 (fun h e => ⟨-1, ?_, fun e2 => ?_⟩) (fun h v V hV hc h7 h17 e => ⟨if (sHot V x2 x3).1 = -1 ∨ x4 = 0 then (sHot V x2 x3).1 else (sHot V x2 x3).2, h, ?_, PK.rf h, fun hs e1 hm => ⟨hs, ?_, PK.rf hs⟩⟩)
  · unfold f10_keenest
    simp (disch := omega) only [w32_id, w32_0, w32_1, w32_m, if_pos, if_neg, bnd_some, lt_eq, asrt_t, ite10_0, ite10_or, e]
  · unfold f11_keenest
    rw [e2, bnd_some, ite_w0]
  · have h1 := hV.2.1
    have r1 := bst_rng (f := fun s : Nat => sBurn V x2 x3 s) (n := (V 1).toNat) (hi := 81) (by omega) (fun j _ => (sBurn_rng hV _ _ _).2)
    have r2 := bst_val (fun s : Nat => sBurn V x2 x3 s) (V 1).toNat
    unfold f10_keenest
    rw [e, bnd_some, if_neg (by omega), Int.toNat_natCast, v_hot hV hc, bnd_some, v_burn hV hc, bnd_some, w32_id hx2.1 hx2.2, w32_id hx3.1 hx3.2, e5]
    unfold sHot
    rw [w32_id (x := (bst (fun s : Nat => sBurn V x2 x3 s) (V 1).toNat).1) (by omega) (by omega)]
    rcases r2 with r2 | ⟨k, r2, r3, r4⟩
    · rw [r2.1, if_pos rfl, if_pos (Or.inl rfl)]
    · rw [r4, r3, if_neg (by omega)]
      repeat' split
      all_goals first | rfl | omega
  · have h1 := hV.2.1
    unfold f11_keenest
    rw [e1, bnd_some, ite_w1, m_two hV hm, bnd_some, w32_id hx2.1 hx2.2, w32_id hx3.1 hx3.2]
    simp only [ite10_0]
    by_cases hC : x2 ≠ x3 ∧ (0 ≤ x2 ∧ x2 < V 0) ∧ (0 ≤ x3 ∧ x3 < V 0)
    · rw [if_pos (fun q => q hC)]
      unfold l11_keenest_25 sHot
      refine loop2 (fun i => (bst (fun s => sBurn V x2 x3 s) i).1) (V 1).toNat hs (fun i hi rec => ?_) (fun rec => ?_) (by omega)
      · have r1 := bst_rng (f := fun s : Nat => sBurn V x2 x3 s) (n := i) (hi := 81) (by omega) (fun j _ => (sBurn_rng hV _ _ _).2)
        have r2 := bst_val (fun s : Nat => sBurn V x2 x3 s) i
        have r5 := sBurn_rng hV x2 x3 (i : Int)
        unfold b11_keenest_25 b11_keenest_60 b11_keenest_67
        dsimp only
        rw [vm_S hm, w32_id (x := V 1) (by omega) (by omega), w32_id (x := (i : Int)) (by omega) (by omega), if_neg (by omega), m_burns hV hm x2 x3 i hC.2.1 hC.2.2 (by omega) hC.1, bnd_some, w32_id (x := sBurn V x2 x3 (i : Int)) (by omega) (by omega), w32_id (x := (bst (fun s : Nat => sBurn V x2 x3 s) i).1) (by omega) (by omega)]
        simp only [bst]
        rcases r2 with r2 | ⟨k, r2, r3, r4⟩
        · rw [r2.1, r2.2, if_neg (by omega), w32_0]
          repeat' split
          all_goals first | rfl | (rw [r2.1]; done) | omega
        · rw [r4, r3, if_pos (by omega), m_burns hV hm x2 x3 k hC.2.1 hC.2.2 (by omega) hC.1, bnd_some, w32_id (x := sBurn V x2 x3 (k : Int)) (by omega) (by omega)]
          repeat' split
          all_goals first | rfl | (rw [r3]; done) | omega
      · have r1 := bst_rng (f := fun s : Nat => sBurn V x2 x3 s) (n := (V 1).toNat) (hi := 81) (by omega) (fun j _ => (sBurn_rng hV _ _ _).2)
        have r2 := bst_val (fun s : Nat => sBurn V x2 x3 s) (V 1).toNat
        unfold b11_keenest_25
        dsimp only
        rw [vm_S hm, w32_id (x := V 1) (by omega) (by omega), w32_id (x := ((V 1).toNat : Int)) (by omega) (by omega), if_pos (by omega), w32_id (x := (bst (fun s : Nat => sBurn V x2 x3 s) (V 1).toNat).1) (by omega) (by omega), e5]
        rcases r2 with r2 | ⟨k, r2, r3, r4⟩
        · rw [r2.1, if_pos rfl, if_pos (Or.inl rfl)]
        · rw [r4, r3, if_neg (by omega), m_burns hV hm x2 x3 k hC.2.1 hC.2.2 (by omega) hC.1, bnd_some]
          repeat' split
          all_goals first | rfl | omega
    · rw [if_neg (fun q => q hC)]
      unfold sHot
      rw [bst_none (fun i hi => by rw [sBurn_no (by omega)]; omega)]
      rfl
theorem q_lasts {x1 x2 x3 x4 x5 : Int} (hx1 : Rg x1) (hx2 : Rg x2) (hx3 : Rg x3) (hx4 : Rg x4) (hx5 : x5 = 0 ∨ x5 = 1) : Agr (f10_lasts x1 x2 x3 x4 x5) (f11_lasts x1 x2 x3 x4 x5) := by
  have e5 : w32 x5 = x5 := w32_id (by omega) (by omega)
  refine agr_v hx1 (fun h e => ⟨-1, ?_, fun e2 => ?_⟩) (fun h v V hV hc h7 h17 e => ⟨if sGap V x2 x3 x4 = -1 then -1 else if x5 = 0 then sQIA V x2 x3 x4 else sBIA V x2 x3 x4, h, ?_, PK.rf h, fun hs e1 hm => ⟨hs, ?_, PK.rf hs⟩⟩)
  · unfold f10_lasts
    simp (disch := omega) only [w32_id, w32_0, w32_1, w32_m, if_pos, if_neg, bnd_some, lt_eq, asrt_t, ite10_0, ite10_or, e]
  · unfold f11_lasts
    rw [e2, bnd_some, ite_w0]
  · have r1 := sGap_rng hV x2 x3 x4
    unfold f10_lasts
    rw [e, bnd_some, if_neg (by omega), Int.toNat_natCast, v_gap hV hc, bnd_some, v_QIA hV hc, bnd_some, v_BIA hV hc, bnd_some, w32_id hx2.1 hx2.2, w32_id hx3.1 hx3.2, w32_id hx4.1 hx4.2, w32_id (x := sGap V x2 x3 x4) (by omega) (by omega), e5]
    repeat' split
    all_goals first | rfl | omega | (congr 2)
  · have r1 := sGap_rng hV x2 x3 x4
    have h1 := hV.2.1
    unfold f11_lasts
    rw [e1, bnd_some, ite_w1, m_two hV hm, bnd_some, m_isS hV hm, bnd_some, w32_id hx2.1 hx2.2, w32_id hx3.1 hx3.2, w32_id hx4.1 hx4.2, e5]
    simp only [ite10_0]
    by_cases hC : x2 ≠ x3 ∧ (0 ≤ x2 ∧ x2 < V 0) ∧ (0 ≤ x3 ∧ x3 < V 0) ∧ (0 ≤ x4 ∧ x4 < V 1)
    · rw [if_neg (by omega), if_neg (by omega), m_apart hV hm x2 x3 x4 hC.2.1 hC.2.2.1 hC.2.2.2 hC.1, bnd_some, m_often hV hm x2 x3 x4 hC.2.1 hC.2.2.1 hC.2.2.2 hC.1, bnd_some, m_lasts hV hm x2 x3 x4 hC.2.1 hC.2.2.1 hC.2.2.2 hC.1, bnd_some, w32_id (x := sGap V x2 x3 x4) (by omega) (by omega)]
      repeat' split
      all_goals first | rfl | omega
    · rw [sGap_no hC]
      repeat' split
      all_goals first | rfl | omega
theorem q_together {x1 x2 x3 : Int} (hx1 : Rg x1) (hx2 : Rg x2) (hx3 : Rg x3) : Agr (f10_together x1 x2 x3) (f11_together x1 x2 x3) := by
  refine agr_v hx1 (fun h e => ⟨-1, ?_, fun e2 => ?_⟩) (fun h v V hV hc h7 h17 e => ⟨if x2 ≠ x3 ∧ (0 ≤ x2 ∧ x2 < V 0) ∧ (0 ≤ x3 ∧ x3 < V 0) then sBOA V x2 x3 else -1, h, ?_, PK.rf h, fun hs e1 hm => ⟨hs, ?_, PK.rf hs⟩⟩)
  · unfold f10_together
    simp (disch := omega) only [w32_id, w32_0, w32_1, w32_m, if_pos, if_neg, bnd_some, lt_eq, asrt_t, ite10_0, ite10_or, e]
  · unfold f11_together
    rw [e2, bnd_some, ite_w0]
  · unfold f10_together
    rw [e, bnd_some, if_neg (by omega), Int.toNat_natCast, v_hasC hV hc, bnd_some, v_BOA hV hc, bnd_some, w32_id hx2.1 hx2.2, w32_id hx3.1 hx3.2]
    simp only [ite10_0]
    repeat' split
    all_goals first | rfl | omega
  · unfold f11_together
    rw [e1, bnd_some, ite_w1, m_two hV hm, bnd_some, w32_id hx2.1 hx2.2, w32_id hx3.1 hx3.2]
    simp only [ite10_0]
    by_cases hC : x2 ≠ x3 ∧ (0 ≤ x2 ∧ x2 < V 0) ∧ (0 ≤ x3 ∧ x3 < V 0)
    · rw [if_neg (fun q => q hC), if_pos hC, m_tog hV hm x2 x3 hC.2.1 hC.2.2 hC.1, bnd_some]
    · rw [if_pos hC, if_neg hC]
