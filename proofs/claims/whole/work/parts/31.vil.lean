/-! the class's village, read -/
def sm (f : Nat → Int) : Nat → Int
  | 0 => 0
  | n + 1 => sm f n + f n
def mx (x y : Int) : Int := if x < y then y else x
/-- the first of the greatest above 0: which, and how much -/
def bst (f : Nat → Int) : Nat → Int × Int
  | 0 => (-1, 0)
  | n + 1 => if (bst f n).2 < f n then ((n : Int), f n) else bst f n
theorem sm_rng {f : Nat → Int} {n : Nat} {lo hi : Int} (h : ∀ i, i < n → lo ≤ f i ∧ f i ≤ hi) : n * lo ≤ sm f n ∧ sm f n ≤ n * hi := by
  induction n with
  | zero => simp [sm]
  | succ n ih =>
    have h1 := ih (fun i hi => h i (by omega))
    have h2 := h n (by omega)
    simp only [sm, Int.natCast_add, Int.natCast_one, Int.add_mul, Int.one_mul]
    omega
theorem bst_rng {f : Nat → Int} {n : Nat} {hi : Int} (h0 : 0 ≤ hi) (h : ∀ i, i < n → f i ≤ hi) : (0 ≤ (bst f n).2 ∧ (bst f n).2 ≤ hi) ∧ -1 ≤ (bst f n).1 ∧ (bst f n).1 < n := by
  induction n with
  | zero => simp [bst, h0]
  | succ n ih =>
    have h1 := ih (fun i hi => h i (by omega))
    have h2 := h n (by omega)
    simp only [bst]
    split <;> simp only [Int.natCast_add, Int.natCast_one] <;> omega
theorem loop1 {F : (Int × AH → Option (Int × AH)) → Int × AH → Option (Int × AH)} {X : Option (Int × AH)} (N : Nat) (h : AH) (hs : ∀ i, i < N → ∀ rec, F rec ((i : Int), h) = rec ((i : Int) + 1, h)) (he : ∀ rec, F rec ((N : Int), h) = X) (hN : N < 1000000000000) : fx F FU (0, h) = X := fx_run (fun i => ((i : Int), h)) N hs he (FU_big hN)
theorem loop2 {F : (Int × Int × AH → Option (Int × AH)) → Int × Int × AH → Option (Int × AH)} {X : Option (Int × AH)} (ac : Nat → Int) (N : Nat) (h : AH) (hs : ∀ i, i < N → ∀ rec, F rec (ac i, (i : Int), h) = rec (ac (i + 1), (i : Int) + 1, h)) (he : ∀ rec, F rec (ac N, (N : Int), h) = X) (hN : N < 1000000000000) : fx F FU (ac 0, 0, h) = X := fx_run (fun i => (ac i, (i : Int), h)) N hs he (FU_big hN)
theorem loop3 {F : (Int × Int × Int × AH → Option (Int × AH)) → Int × Int × Int × AH → Option (Int × AH)} {X : Option (Int × AH)} (ac : Nat → Int × Int) (N : Nat) (h : AH) (hs : ∀ i, i < N → ∀ rec, F rec ((ac i).1, (ac i).2, (i : Int), h) = rec ((ac (i + 1)).1, (ac (i + 1)).2, (i : Int) + 1, h)) (he : ∀ rec, F rec ((ac N).1, (ac N).2, (N : Int), h) = X) (hN : N < 1000000000000) : fx F FU ((ac 0).1, (ac 0).2, 0, h) = X := fx_run (fun i => ((ac i).1, (ac i).2, (i : Int), h)) N hs he (FU_big hN)
def sHeat (V : Nat → Int) (s : Int) : Int := if 0 ≤ s ∧ s < V 1 then V (4 + 2 * s.toNat) else 0
def sAft (V : Nat → Int) (s i : Int) : Int := if 0 ≤ s ∧ s < V 1 then mx 0 (V (4 + 2 * s.toNat) - i * V (5 + 2 * s.toNat)) else 0
def sBurn (V : Nat → Int) (a b s : Int) : Int := mx 0 (sGap V a b s) * sHeat V s
def sQIA (V : Nat → Int) (a b s : Int) : Int := if sGap V a b s ≤ 0 then 0 else sm (fun i => if sAft V s i ≤ 0 then 0 else 1) 9
def sBIA (V : Nat → Int) (a b s : Int) : Int := mx 0 (sGap V a b s) * sm (fun i => sAft V s i) 9
def sBOA (V : Nat → Int) (a b : Int) : Int := sm (fun s => sBIA V a b s) (V 1).toNat
def sHot (V : Nat → Int) (a b : Int) : Int × Int := bst (fun s => sBurn V a b s) (V 1).toNat
theorem sHeat_rng {V : Nat → Int} (hV : VOK V) (s : Int) : 0 ≤ sHeat V s ∧ sHeat V s ≤ 9 := by
  unfold sHeat
  split
  · have := hV.2.2.2.2.1 s.toNat (by omega)
    omega
  · omega
theorem sAft_rng {V : Nat → Int} (hV : VOK V) (s : Int) {i : Int} (hi : 0 ≤ i) : 0 ≤ sAft V s i ∧ sAft V s i ≤ 9 := by
  unfold sAft mx
  split
  · have h1 := hV.2.2.2.2.1 s.toNat (by omega)
    have h2 : 0 ≤ i * V (5 + 2 * s.toNat) := Int.mul_nonneg hi (by omega)
    split <;> omega
  · omega
theorem mul_rng {x y a b : Int} (h1 : 0 ≤ x ∧ x ≤ a) (h2 : 0 ≤ y ∧ y ≤ b) : 0 ≤ x * y ∧ x * y ≤ a * b := ⟨Int.mul_nonneg h1.1 h2.1, Int.mul_le_mul h1.2 h2.2 h2.1 (Int.le_trans h1.1 h1.2)⟩
theorem mx0_rng {x hi : Int} (h : x ≤ hi) (h0 : 0 ≤ hi) : 0 ≤ mx 0 x ∧ mx 0 x ≤ hi := by unfold mx; split <;> omega
theorem sBurn_rng {V : Nat → Int} (hV : VOK V) (a b s : Int) : 0 ≤ sBurn V a b s ∧ sBurn V a b s ≤ 81 := mul_rng (mx0_rng (sGap_rng hV a b s).2 (by omega)) (sHeat_rng hV s)
theorem sAfts_rng {V : Nat → Int} (hV : VOK V) (s : Int) : 0 ≤ sm (fun i => sAft V s i) 9 ∧ sm (fun i => sAft V s i) 9 ≤ 81 := by
  have := sm_rng (f := fun i : Nat => sAft V s i) (n := 9) (lo := 0) (hi := 9) (fun i _ => sAft_rng hV s (by omega))
  omega
theorem sBIA_rng {V : Nat → Int} (hV : VOK V) (a b s : Int) : 0 ≤ sBIA V a b s ∧ sBIA V a b s ≤ 729 := mul_rng (mx0_rng (sGap_rng hV a b s).2 (by omega)) (sAfts_rng hV s)
theorem sBOA_rng {V : Nat → Int} (hV : VOK V) (a b : Int) : 0 ≤ sBOA V a b ∧ sBOA V a b ≤ 4374 := by
  have h1 := hV.2.1
  have := sm_rng (f := fun s : Nat => sBIA V a b s) (n := (V 1).toNat) (lo := 0) (hi := 729) (fun i _ => sBIA_rng hV a b i)
  unfold sBOA
  omega
section VilC
variable {h : AH} {v : Nat} {V : Nat → Int}
theorem v_hasS (hV : VOK V) (hc : VC h.2 v V) (s : Int) : f9_hasSubject v s h = some (if 0 ≤ w32 s ∧ w32 s < V 1 then 1 else 0, h) := by
  have h1 := hV.2.1
  unfold f9_hasSubject
  rw [hc.2.1, w32_id (x := V 1) (by omega) (by omega)]
  repeat' split
  all_goals first | rfl | omega
theorem v_hasP (hV : VOK V) (hc : VC h.2 v V) (s : Int) : f9_hasPerson v s h = some (if 0 ≤ w32 s ∧ w32 s < V 0 then 1 else 0, h) := by
  have h1 := hV.1
  unfold f9_hasPerson
  rw [hc.1, w32_id (x := V 0) (by omega) (by omega)]
  repeat' split
  all_goals first | rfl | omega
theorem v_hasH (hV : VOK V) (hc : VC h.2 v V) (s : Int) : f9_hasHearth v s h = some (if 0 ≤ w32 s ∧ w32 s < V 2 then 1 else 0, h) := by
  have h1 := hV.2.2.1
  unfold f9_hasHearth
  rw [hc.2.2.1, w32_id (x := V 2) (by omega) (by omega)]
  repeat' split
  all_goals first | rfl | omega
theorem ite10 {p : Prop} [Decidable p] : w32 (if p then 1 else 0) = if p then 1 else 0 := by split <;> decide
theorem ite10_0 {p : Prop} [Decidable p] : (w32 (if p then 1 else 0) = 0) ↔ ¬ p := by split <;> simp_all [w32_0, w32_1]
theorem v_hasC (hV : VOK V) (hc : VC h.2 v V) (a b : Int) : f9_hasCouple v a b h = some (if w32 a ≠ w32 b ∧ (0 ≤ w32 a ∧ w32 a < V 0) ∧ (0 ≤ w32 b ∧ w32 b < V 0) then 1 else 0, h) := by
  unfold f9_hasCouple
  rw [v_hasP hV hc, bnd_some, v_hasP hV hc, bnd_some]
  simp only [ite10_0]
  repeat' split
  all_goals first | rfl | omega
theorem v_heat (hV : VOK V) (hc : VC h.2 v V) (s : Int) : f9_heat v s h = some (sHeat V (w32 s), h) := by
  have h1 := hV.2.1
  unfold f9_heat sHeat
  rw [v_hasS hV hc, bnd_some]
  simp only [ite10_0]
  by_cases hC : 0 ≤ w32 s ∧ w32 s < V 1
  · rw [if_neg (fun q => q hC), if_pos hC, asrt_t (by omega), (hc.2.2.2.2.1 (w32 s).toNat (by omega)).1]
  · rw [if_pos hC, if_neg hC]
theorem v_burn (hV : VOK V) (hc : VC h.2 v V) (a b s : Int) : f9_burning v a b s h = some (sBurn V (w32 a) (w32 b) (w32 s), h) := by
  have h1 := sGap_rng hV (w32 a) (w32 b) (w32 s)
  unfold f9_burning sBurn
  rw [v_gap hV hc, bnd_some, v_heat hV hc, bnd_some, max32_s (by omega) (by omega) (by omega) (by omega)]
  rfl
theorem v_aft (hV : VOK V) (hc : VC h.2 v V) (s i : Int) (hi : 0 ≤ i ∧ i ≤ 1000) : f9_heatAfter v s i h = some (sAft V (w32 s) i, h) := by
  have h1 := hV.2.1
  unfold f9_heatAfter sAft
  rw [v_hasS hV hc, bnd_some]
  simp only [ite10_0]
  by_cases hC : 0 ≤ w32 s ∧ w32 s < V 1
  · have h2 := hV.2.2.2.2.1 (w32 s).toNat (by omega)
    have h3 := mul_rng (x := i) (y := V (5 + 2 * (w32 s).toNat)) hi ⟨by omega, h2.2.2⟩
    rw [if_neg (fun q => q hC), if_pos hC, asrt_t (by omega), asrt_t (by omega), (hc.2.2.2.2.1 (w32 s).toNat (by omega)).1, (hc.2.2.2.2.1 (w32 s).toNat (by omega)).2, max32_s (by omega) (by omega) (by omega) (by omega)]
    rfl
  · rw [if_pos hC, if_neg hC]
theorem v_BIA (hV : VOK V) (hc : VC h.2 v V) (a b s : Int) : f9_burningInAll v a b s h = some (sBIA V (w32 a) (w32 b) (w32 s), h) := by
  have h1 := sGap_rng hV (w32 a) (w32 b) (w32 s)
  unfold f9_burningInAll l9_burningInAll_6
  refine loop2 (fun i => sm (fun i => sAft V (w32 s) i) i) 9 h (fun i hi rec => ?_) (fun rec => ?_) (by omega)
  · unfold b9_burningInAll_6
    dsimp only
    rw [w32_id (x := (i : Int)) (by omega) (by omega), if_neg (by omega), v_aft hV hc _ _ (by omega), bnd_some]
    rfl
  · unfold b9_burningInAll_6
    dsimp only
    rw [if_pos (by decide), v_gap hV hc, bnd_some, max32_s (by omega) (by omega) (by omega) (by omega)]
    rfl
theorem v_BOA (hV : VOK V) (hc : VC h.2 v V) (a b : Int) : f9_burningOnAll v a b h = some (sBOA V (w32 a) (w32 b), h) := by
  have h1 := hV.2.1
  unfold f9_burningOnAll l9_burningOnAll_5
  refine loop2 (fun i => sm (fun s => sBIA V (w32 a) (w32 b) s) i) (V 1).toNat h (fun i hi rec => ?_) (fun rec => ?_) (by omega)
  · unfold b9_burningOnAll_5
    dsimp only
    rw [hc.2.1, w32_id (x := V 1) (by omega) (by omega), w32_id (x := (i : Int)) (by omega) (by omega), if_neg (by omega), v_BIA hV hc, bnd_some, w32_id (x := (i : Int)) (by omega) (by omega)]
    rfl
  · unfold b9_burningOnAll_5
    dsimp only
    rw [hc.2.1, w32_id (x := V 1) (by omega) (by omega), w32_id (x := ((V 1).toNat : Int)) (by omega) (by omega), if_pos (by omega)]
    rfl
theorem v_QIA (hV : VOK V) (hc : VC h.2 v V) (a b s : Int) : f9_quarrelsInAll v a b s h = some (sQIA V (w32 a) (w32 b) (w32 s), h) := by
  have h1 := sGap_rng hV (w32 a) (w32 b) (w32 s)
  unfold f9_quarrelsInAll sQIA
  rw [v_gap hV hc, bnd_some, w32_id (x := sGap V (w32 a) (w32 b) (w32 s)) (by omega) (by omega)]
  split
  · rfl
  · unfold l9_quarrelsInAll_16
    refine loop2 (fun i => sm (fun i => if sAft V (w32 s) i ≤ 0 then 0 else 1) i) 9 h (fun i hi rec => ?_) (fun rec => ?_) (by omega)
    · unfold b9_quarrelsInAll_16 b9_quarrelsInAll_40
      dsimp only
      have h2 := sAft_rng hV (w32 s) (i := (i : Int)) (by omega)
      rw [w32_id (x := (i : Int)) (by omega) (by omega), if_neg (by omega), v_aft hV hc _ _ (by omega), bnd_some, w32_id (x := sAft V (w32 s) (i : Int)) (by omega) (by omega)]
      simp only [lt_eq, sm]
      split <;> rfl
    · unfold b9_quarrelsInAll_16
      dsimp only
      rw [if_pos (by decide)]
theorem v_hot (hV : VOK V) (hc : VC h.2 v V) (a b : Int) : f9_hottestBetween v a b h = some ((sHot V (w32 a) (w32 b)).1, h) := by
  have h1 := hV.2.1
  unfold f9_hottestBetween l9_hottestBetween_8
  refine loop3 (fun i => bst (fun s => sBurn V (w32 a) (w32 b) s) i) (V 1).toNat h (fun i hi rec => ?_) (fun rec => ?_) (by omega)
  · unfold b9_hottestBetween_8 b9_hottestBetween_41
    dsimp only
    have h2 := sBurn_rng hV (w32 a) (w32 b) (i : Int)
    have h3 := bst_rng (f := fun s : Nat => sBurn V (w32 a) (w32 b) s) (n := i) (hi := 81) (by omega) (fun j _ => (sBurn_rng hV _ _ _).2)
    rw [hc.2.1, w32_id (x := V 1) (by omega) (by omega), w32_id (x := (i : Int)) (by omega) (by omega), if_neg (by omega), v_burn hV hc, bnd_some, w32_id (x := (i : Int)) (by omega) (by omega), w32_id (x := sBurn V (w32 a) (w32 b) (i : Int)) (by omega) (by omega), w32_id (x := (bst (fun s : Nat => sBurn V (w32 a) (w32 b) s) i).2) (by omega) (by omega)]
    simp only [bst]
    by_cases hC : (bst (fun s : Nat => sBurn V (w32 a) (w32 b) s) i).2 < sBurn V (w32 a) (w32 b) (i : Int)
    · rw [if_neg (by omega), if_pos hC]
    · rw [if_pos (by omega), if_neg hC]
  · unfold b9_hottestBetween_8
    dsimp only
    rw [hc.2.1, w32_id (x := V 1) (by omega) (by omega), w32_id (x := ((V 1).toNat : Int)) (by omega) (by omega), if_pos (by omega)]
    rfl
end VilC
