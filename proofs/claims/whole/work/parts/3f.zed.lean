/-! a village in the course of a day: heats may be gone -/
def VOK0 (V : Nat → Int) : Prop := (0 ≤ V 0 ∧ V 0 ≤ 8) ∧ (0 ≤ V 1 ∧ V 1 ≤ 6) ∧ (0 ≤ V 2 ∧ V 2 ≤ 4) ∧ (0 ≤ V 3 ∧ V 3 ≤ 9) ∧ (∀ s : Nat, (s : Int) < V 1 → (0 ≤ V (4 + 2 * s) ∧ V (4 + 2 * s) ≤ 9) ∧ (1 ≤ V (5 + 2 * s) ∧ V (5 + 2 * s) ≤ 9)) ∧ (∀ q : Nat, (q : Int) < V 2 → (1 ≤ V (16 + 2 * q) ∧ V (16 + 2 * q) ≤ 60) ∧ (V (16 + 2 * q) ≤ V (17 + 2 * q) ∧ V (17 + 2 * q) ≤ 99)) ∧ ∀ q : Nat, q < 48 → -1 ≤ V (24 + q) ∧ V (24 + q) ≤ 9
section ZV
variable {h : AH} {v : Nat} {V : Nat → Int}
theorem zHeld_rng (hV : VOK0 V) (p s : Int) : -1 ≤ sHeld V p s ∧ sHeld V p s ≤ 9 := by
  unfold sHeld
  obtain ⟨h0, h1, -, -, -, -, h6⟩ := hV
  split
  · exact h6 _ (by omega)
  · omega
theorem z_held (hV : VOK0 V) (hc : VC h.2 v V) (p s : Int) : f9_held v p s h = some (sHeld V (w32 p) (w32 s), h) := by
  obtain ⟨c0, c1, c2, c3, c4, c5, c6⟩ := hc
  obtain ⟨h0, h1, -⟩ := hV
  unfold f9_held b9_held_28 b9_held_29 sHeld
  rw [c0, c1, w32_id (x := V 0) (by omega) (by omega), w32_id (x := V 1) (by omega) (by omega)]
  simp only [ite_w0, ite_w1]
  by_cases hC : 0 ≤ w32 p ∧ w32 p < V 0 ∧ 0 ≤ w32 s ∧ w32 s < V 1
  · rw [if_neg (by omega), if_neg (by omega), if_neg (by omega), if_neg (by omega), if_pos hC]
    have e : w32 (p * 6 + s) = 6 * w32 p + w32 s := by unfold w32 at *; omega
    rw [e, asrt_t (by omega), c6 _ (by omega), show (6 * w32 p + w32 s).toNat = 6 * (w32 p).toNat + (w32 s).toNat by omega]
  · rw [if_neg hC]
    repeat' split
    all_goals first | rfl | omega
theorem zGap_rng (hV : VOK0 V) (a b s : Int) : -1 ≤ sGap V a b s ∧ sGap V a b s ≤ 9 := by
  unfold sGap
  have h1 := zHeld_rng hV a s
  have h2 := zHeld_rng hV b s
  repeat' split
  all_goals omega
theorem z_gap (hV : VOK0 V) (hc : VC h.2 v V) (a b s : Int) : f9_gap v a b s h = some (sGap V (w32 a) (w32 b) (w32 s), h) := by
  have r1 := zHeld_rng hV (w32 a) (w32 s)
  have r2 := zHeld_rng hV (w32 b) (w32 s)
  unfold f9_gap sGap
  rw [z_held hV hc, bnd_some, z_held hV hc, bnd_some]
  generalize sHeld V (w32 a) (w32 s) = x at *
  generalize sHeld V (w32 b) (w32 s) = y at *
  rw [abs32_s (by omega) (by omega), w32_id (x := x) (by omega) (by omega), w32_id (x := y) (by omega) (by omega)]
  repeat' split
  all_goals first | rfl | omega | (congr 2; omega)
theorem zHeat_rng (hV : VOK0 V) (s : Int) : 0 ≤ sHeat V s ∧ sHeat V s ≤ 9 := by
  unfold sHeat
  split
  · have := hV.2.2.2.2.1 s.toNat (by omega)
    omega
  · omega
theorem zAft_rng (hV : VOK0 V) (s : Int) {i : Int} (hi : 0 ≤ i) : 0 ≤ sAft V s i ∧ sAft V s i ≤ 9 := by
  unfold sAft mx
  split
  · have h1 := hV.2.2.2.2.1 s.toNat (by omega)
    have h2 : 0 ≤ i * V (5 + 2 * s.toNat) := Int.mul_nonneg hi (by omega)
    split <;> omega
  · omega
theorem zBurn_rng (hV : VOK0 V) (a b s : Int) : 0 ≤ sBurn V a b s ∧ sBurn V a b s ≤ 81 := mul_rng (mx0_rng (zGap_rng hV a b s).2 (by omega)) (zHeat_rng hV s)
theorem z_hasS (hV : VOK0 V) (hc : VC h.2 v V) (s : Int) : f9_hasSubject v s h = some (if 0 ≤ w32 s ∧ w32 s < V 1 then 1 else 0, h) := by
  have h1 := hV.2.1
  unfold f9_hasSubject
  rw [hc.2.1, w32_id (x := V 1) (by omega) (by omega)]
  repeat' split
  all_goals first | rfl | omega
theorem z_hasP (hV : VOK0 V) (hc : VC h.2 v V) (s : Int) : f9_hasPerson v s h = some (if 0 ≤ w32 s ∧ w32 s < V 0 then 1 else 0, h) := by
  have h1 := hV.1
  unfold f9_hasPerson
  rw [hc.1, w32_id (x := V 0) (by omega) (by omega)]
  repeat' split
  all_goals first | rfl | omega
theorem z_hasH (hV : VOK0 V) (hc : VC h.2 v V) (s : Int) : f9_hasHearth v s h = some (if 0 ≤ w32 s ∧ w32 s < V 2 then 1 else 0, h) := by
  have h1 := hV.2.2.1
  unfold f9_hasHearth
  rw [hc.2.2.1, w32_id (x := V 2) (by omega) (by omega)]
  repeat' split
  all_goals first | rfl | omega
theorem z_hasC (hV : VOK0 V) (hc : VC h.2 v V) (a b : Int) : f9_hasCouple v a b h = some (if w32 a ≠ w32 b ∧ (0 ≤ w32 a ∧ w32 a < V 0) ∧ (0 ≤ w32 b ∧ w32 b < V 0) then 1 else 0, h) := by
  unfold f9_hasCouple
  rw [z_hasP hV hc, bnd_some, z_hasP hV hc, bnd_some]
  simp only [ite10_0]
  repeat' split
  all_goals first | rfl | omega
theorem z_heat (hV : VOK0 V) (hc : VC h.2 v V) (s : Int) : f9_heat v s h = some (sHeat V (w32 s), h) := by
  have h1 := hV.2.1
  unfold f9_heat sHeat
  rw [z_hasS hV hc, bnd_some]
  simp only [ite10_0]
  by_cases hC : 0 ≤ w32 s ∧ w32 s < V 1
  · rw [if_neg (fun q => q hC), if_pos hC, asrt_t (by omega), (hc.2.2.2.2.1 (w32 s).toNat (by omega)).1]
  · rw [if_pos hC, if_neg hC]
theorem z_burn (hV : VOK0 V) (hc : VC h.2 v V) (a b s : Int) : f9_burning v a b s h = some (sBurn V (w32 a) (w32 b) (w32 s), h) := by
  have h1 := zGap_rng hV (w32 a) (w32 b) (w32 s)
  unfold f9_burning sBurn
  rw [z_gap hV hc, bnd_some, z_heat hV hc, bnd_some, max32_s (by omega) (by omega) (by omega) (by omega)]
  rfl
theorem z_aft (hV : VOK0 V) (hc : VC h.2 v V) (s i : Int) (hi : 0 ≤ i ∧ i ≤ 1000) : f9_heatAfter v s i h = some (sAft V (w32 s) i, h) := by
  have h1 := hV.2.1
  unfold f9_heatAfter sAft
  rw [z_hasS hV hc, bnd_some]
  simp only [ite10_0]
  by_cases hC : 0 ≤ w32 s ∧ w32 s < V 1
  · have h2 := hV.2.2.2.2.1 (w32 s).toNat (by omega)
    have h3 := mul_rng (x := i) (y := V (5 + 2 * (w32 s).toNat)) hi ⟨by omega, h2.2.2⟩
    rw [if_neg (fun q => q hC), if_pos hC, asrt_t (by omega), asrt_t (by omega), (hc.2.2.2.2.1 (w32 s).toNat (by omega)).1, (hc.2.2.2.2.1 (w32 s).toNat (by omega)).2, max32_s (by omega) (by omega) (by omega) (by omega)]
    rfl
  · rw [if_pos hC, if_neg hC]
theorem z_hot (hV : VOK0 V) (hc : VC h.2 v V) (a b : Int) : f9_hottestBetween v a b h = some ((sHot V (w32 a) (w32 b)).1, h) := by
  have h1 := hV.2.1
  unfold f9_hottestBetween l9_hottestBetween_8
  refine loop3 (fun i => bst (fun s => sBurn V (w32 a) (w32 b) s) i) (V 1).toNat h (fun i hi rec => ?_) (fun rec => ?_) (by omega)
  · unfold b9_hottestBetween_8 b9_hottestBetween_41
    dsimp only
    have h2 := zBurn_rng hV (w32 a) (w32 b) (i : Int)
    have h3 := bst_rng (f := fun s : Nat => sBurn V (w32 a) (w32 b) s) (n := i) (hi := 81) (by omega) (fun j _ => (zBurn_rng hV _ _ _).2)
    rw [hc.2.1, w32_id (x := V 1) (by omega) (by omega), w32_id (x := (i : Int)) (by omega) (by omega), if_neg (by omega), z_burn hV hc, bnd_some, w32_id (x := (i : Int)) (by omega) (by omega), w32_id (x := sBurn V (w32 a) (w32 b) (i : Int)) (by omega) (by omega), w32_id (x := (bst (fun s : Nat => sBurn V (w32 a) (w32 b) s) i).2) (by omega) (by omega)]
    simp only [bst]
    by_cases hC : (bst (fun s : Nat => sBurn V (w32 a) (w32 b) s) i).2 < sBurn V (w32 a) (w32 b) (i : Int)
    · rw [if_neg (by omega), if_pos hC]
    · rw [if_pos (by omega), if_neg hC]
  · unfold b9_hottestBetween_8
    dsimp only
    rw [hc.2.1, w32_id (x := V 1) (by omega) (by omega), w32_id (x := ((V 1).toNat : Int)) (by omega) (by omega), if_pos (by omega)]
    rfl
theorem z_ansH (hV : VOK0 V) (hc : VC h.2 v V) (x : Int) (hx : 100 ≤ x ∧ x < 2147483648) : f9_answerHeld v x h = some (sAnsH V x, h) := by
  have h0 := hV.1
  have h1 := hV.2.1
  have q1 : 0 ≤ (x - 100) / 10 ∧ (x - 100) / 10 < 2147483648 := by omega
  have q2 : 0 ≤ x % 10 ∧ x % 10 < 10 ∧ (x - 100) % 10 = x % 10 := by omega
  unfold f9_answerHeld sAnsH
  simp only [lt_eq]
  rw [dv32_10 (by omega) (by omega), rm32_10 (by omega) (by omega), q2.2.2, w32_id (x := x) (by omega) (by omega), if_neg (by omega), z_hasP hV hc, bnd_some, z_hasS hV hc, bnd_some, z_held hV hc, bnd_some]
  generalize (x - 100) / 10 = p at *
  generalize x % 10 = s at *
  rw [w32_id (x := p) (by omega) (by omega), w32_id (x := s) (by omega) (by omega)]
  simp only [ite10_0]
  unfold sHeld
  repeat' split
  all_goals first | rfl | omega
end ZV
