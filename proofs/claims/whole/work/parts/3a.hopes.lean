/-! hopes -/
theorem qia_split {V : Nat → Int} (hV : VOK V) {a b s : Int} (hs : 0 ≤ s ∧ s < V 1) (hg : 0 < sGap V a b s) : ∃ n : Nat, sQIA V a b s = n ∧ 1 ≤ n ∧ n ≤ 9 ∧ (∀ k : Nat, k < n → sAft V s k = V (4 + 2 * s.toNat) - k * V (5 + 2 * s.toNat)) ∧ ∀ k : Nat, n ≤ k → sAft V s k = 0 := by
  have q3 := hV.2.2.2.2.1 s.toNat (by omega)
  obtain ⟨t, ht⟩ : ∃ t : Nat, V (4 + 2 * s.toNat) = t := ⟨(V (4 + 2 * s.toNat)).toNat, by omega⟩
  obtain ⟨f, hf⟩ : ∃ f : Nat, V (5 + 2 * s.toNat) = f := ⟨(V (5 + 2 * s.toNat)).toNat, by omega⟩
  have hk := oft_ok t (by omega) f (by omega) (by omega)
  have e5 : ∀ i : Nat, sAft V s i = mx 0 ((t : Int) - i * (f : Int)) := fun i => by unfold sAft; rw [if_pos hs, ht, hf]
  have hdiv : (t + f - 1) / f ≤ 9 := by
    have := sm_rng (f := fun i : Nat => if mx 0 ((t : Int) - i * (f : Int)) ≤ 0 then (0 : Int) else 1) (n := 9) (lo := 0) (hi := 1) (fun i _ => by split <;> omega)
    rw [hk.1] at this
    omega
  have h1 := Nat.div_add_mod (t + f - 1) f
  have h2 : (t + f - 1) % f < f := Nat.mod_lt _ (by omega)
  have h3 : f * ((t + f - 1) / f) = (t + f - 1) / f * f := Nat.mul_comm _ _
  refine ⟨(t + f - 1) / f, ?_, ?_, hdiv, fun k hk2 => ?_, fun k hk2 => ?_⟩
  · unfold sQIA
    rw [if_neg (by omega)]
    simp only [e5]
    exact hk.1
  · rcases Nat.eq_zero_or_pos ((t + f - 1) / f) with q | q
    · rw [q, Nat.mul_zero] at h1; omega
    · omega
  · have h4 : (k + 1) * f ≤ (t + f - 1) / f * f := Nat.mul_le_mul_right _ hk2
    have h5 : (k + 1) * f = k * f + f := by rw [Nat.add_mul, Nat.one_mul]
    have hc1 : ((k * f : Nat) : Int) = (k : Int) * (f : Int) := Int.natCast_mul k f
    rw [e5, ht, hf]
    unfold mx
    rw [if_pos (by omega)]
  · have h4 : (t + f - 1) / f * f ≤ k * f := Nat.mul_le_mul_right _ hk2
    have hc1 : ((k * f : Nat) : Int) = (k : Int) * (f : Int) := Int.natCast_mul k f
    rw [e5]
    unfold mx
    rw [if_neg (by omega)]
def hopA (q : Int) (B : Nat → Int) : Nat → Int
  | 0 => 0
  | i + 1 => ((B (8 - i)) * 10) * 10 ^ i + q * hopA q B i
theorem pow10_pos (i : Nat) : (0 : Int) < 10 ^ i := Int.pow_pos (by decide)
theorem hopA_rng {q : Int} {B : Nat → Int} (hq : 0 ≤ q ∧ q ≤ 10) (hB : ∀ i, 0 ≤ B i ∧ B i ≤ 81) (i : Nat) : 0 ≤ hopA q B i ∧ hopA q B i ≤ 81 * i * 10 ^ i := by
  induction i with
  | zero => simp [hopA]
  | succ i ih =>
    have h1 := pow10_pos i
    have h2 := mul_rng (x := B (8 - i) * 10) (y := 10 ^ i) (a := 810) (b := 10 ^ i) (by have := hB (8 - i); omega) (by omega)
    have h3 := mul_rng hq ih
    simp only [hopA, Int.pow_succ]
    have h4 : 81 * ((i + 1 : Nat) : Int) * (10 ^ i * 10) = 810 * 10 ^ i + 10 * (81 * i * 10 ^ i) := by
      rw [Int.natCast_add]; grind
    omega
def hopU (n : Nat) (q : Int) (B : Nat → Int) (k : Nat) : Int := sm (fun k => (B k * q ^ k) * 10 ^ (n - 1 - k)) k
theorem hop_eq {q : Int} {B : Nat → Int} {n : Nat} (h1 : 1 ≤ n) (h9 : n ≤ 9) (hB : ∀ k, n ≤ k → B k = 0) : hopA q B 9 = 10 ^ (10 - n) * hopU n q B n := by
  simp only [hopA, hopU]
  rcases (show n = 1 ∨ n = 2 ∨ n = 3 ∨ n = 4 ∨ n = 5 ∨ n = 6 ∨ n = 7 ∨ n = 8 ∨ n = 9 by omega) with rfl | rfl | rfl | rfl | rfl | rfl | rfl | rfl | rfl
  all_goals simp only [sm]
  all_goals have z1 := hB 1
  all_goals have z2 := hB 2
  all_goals have z3 := hB 3
  all_goals have z4 := hB 4
  all_goals have z5 := hB 5
  all_goals have z6 := hB 6
  all_goals have z7 := hB 7
  all_goals have z8 := hB 8
  all_goals grind
theorem m_power (x : Int) (n : Nat) (hn : n < 1000) (h : AH) : f11_power x n h = some (x ^ n, h) := by
  unfold f11_power l11_power_5
  have key := loop2 (F := fun rec (z : Int × Int × AH) => b11_power_5 rec x n z.1 z.2.1 z.2.2) (X := some (x ^ n, h)) (fun i => x ^ i) n h (fun i hi rec => ?_) (fun rec => ?_) (by omega)
  · rw [Int.pow_zero] at key
    exact key
  · unfold b11_power_5
    dsimp only
    rw [w32_id (x := (n : Int)) (by omega) (by omega), w32_id (x := (i : Int)) (by omega) (by omega), if_neg (by omega), lt_eq, Int.pow_succ]
  · unfold b11_power_5
    dsimp only
    rw [if_pos (Int.le_refl _)]
def sHop (V : Nat → Int) (a b s p u : Int) : Int := if (0 ≤ p ∧ p ≤ 10) ∧ sGap V a b s ≠ -1 then (if u = 0 then (((hopA (10 - p) (fun i => sGap V a b s * sAft V s i) 9).toNat / Nat.gcd (hopA (10 - p) (fun i => sGap V a b s * sAft V s i) 9).toNat 1000000000 : Nat) : Int) else ((1000000000 / Nat.gcd (hopA (10 - p) (fun i => sGap V a b s * sAft V s i) 9).toNat 1000000000 : Nat) : Int)) else -1
theorem c_hopes {h : AH} {v : Nat} {V : Nat → Int} (hV : VOK V) (hc : VC h.2 v V) {x2 x3 x4 x5 x6 : Int} (hx2 : Rg x2) (hx3 : Rg x3) (hx4 : Rg x4) (hx5 : 0 ≤ x5 ∧ x5 ≤ 10) (hx6 : x6 = 0 ∨ x6 = 1) (hg : sGap V x2 x3 x4 ≠ -1) : l10_hopes_54 x2 x3 x4 x5 x6 v 0 1 8 h = some (sHop V x2 x3 x4 x5 x6, h) := by
  have r1 := sGap_rng hV x2 x3 x4
  have rB : ∀ i : Nat, 0 ≤ sGap V x2 x3 x4 * sAft V x4 i ∧ sGap V x2 x3 x4 * sAft V x4 i ≤ 81 := fun i => mul_rng (a := 9) (b := 9) (by omega) (sAft_rng hV x4 (by omega))
  unfold l10_hopes_54 sHop
  rw [if_pos ⟨hx5, hg⟩]
  refine fx_run (P := fun i : Nat => (hopA (10 - x5) (fun i => sGap V x2 x3 x4 * sAft V x4 i) i, (10 : Int) ^ i, 8 - (i : Int), h)) 9 (fun i hi rec => ?_) (fun rec => ?_) (FU_big (by omega))
  · unfold b10_hopes_54
    dsimp only
    have r2 := sAft_rng hV x4 (i := 8 - (i : Int)) (by omega)
    rw [w32_id (x := 8 - (i : Int)) (by omega) (by omega), if_neg (by omega), v_gap hV hc, bnd_some, v_aft hV hc _ _ (by omega), bnd_some, w32_id hx2.1 hx2.2, w32_id hx3.1 hx3.2, w32_id hx4.1 hx4.2, w32_id (x := sGap V x2 x3 x4) (by omega) (by omega), w32_id (x := sAft V x4 (8 - (i : Int))) (by omega) (by omega), w32_id (x := 10 - x5) (by omega) (by omega), lt_eq, lt_eq, lt_eq]
    simp only [hopA]
    rw [show ((8 - i : Nat) : Int) = 8 - (i : Int) by omega, show (8 : Int) - ((i + 1 : Nat) : Int) = 8 - (i : Int) + -1 by omega, Int.pow_succ, Int.mul_comm 10 (10 ^ i)]
  · unfold b10_hopes_54
    dsimp only
    rw [if_pos (by decide)]
    have r3 := hopA_rng (q := 10 - x5) (B := fun i => sGap V x2 x3 x4 * sAft V x4 i) (by omega) rB 9
    generalize hopA (10 - x5) (fun i => sGap V x2 x3 x4 * sAft V x4 i) 9 = A at *
    obtain ⟨A, rfl⟩ : ∃ B : Nat, A = B := ⟨A.toNat, by omega⟩
    rw [show (10 : Int) ^ 9 = ((1000000000 : Nat) : Int) by decide] at r3 ⊢
    rw [c_lowest (by omega) (by omega) (by omega) x6 hx6, bnd_some]
    rfl
theorem m_hopes {h : AH} {V : Nat → Int} (hV : VOK V) (hm : VM h.2 V) {x2 x3 x4 x5 x6 : Int} (hx5 : 0 ≤ x5 ∧ x5 ≤ 10) (hx6 : x6 = 0 ∨ x6 = 1) (hC : x2 ≠ x3 ∧ (0 ≤ x2 ∧ x2 < V 0) ∧ (0 ≤ x3 ∧ x3 < V 0) ∧ (0 ≤ x4 ∧ x4 < V 1)) (hg : 0 < sGap V x2 x3 x4) : ∃ n : Nat, sQIA V x2 x3 x4 = n ∧ 1 ≤ n ∧ n ≤ 9 ∧ l11_hopes_85 x2 x3 x4 x5 x6 n 0 0 h = some (sHop V x2 x3 x4 x5 x6, h) := by
  have r1 := sGap_rng hV x2 x3 x4
  have h1 := hV.2.1
  have e6 : w32 x6 = x6 := w32_id (by omega) (by omega)
  have rB : ∀ i : Nat, 0 ≤ sGap V x2 x3 x4 * sAft V x4 i ∧ sGap V x2 x3 x4 * sAft V x4 i ≤ 81 := fun i => mul_rng (a := 9) (b := 9) (by omega) (sAft_rng hV x4 (by omega))
  obtain ⟨n, n1, n2, n3, n4, n5⟩ := qia_split hV hC.2.2.2 hg
  refine ⟨n, n1, n2, n3, ?_⟩
  have r3 := hopA_rng (q := 10 - x5) (B := fun i => sGap V x2 x3 x4 * sAft V x4 i) (by omega) rB 9
  have r4 := hop_eq (q := 10 - x5) (B := fun i => sGap V x2 x3 x4 * sAft V x4 i) n2 n3 (fun k hk => by rw [n5 k hk, Int.mul_zero])
  unfold l11_hopes_85 sHop
  rw [if_pos ⟨hx5, by omega⟩]
  refine loop2 (fun k => hopU n (10 - x5) (fun i => sGap V x2 x3 x4 * sAft V x4 i) k) n h (fun k hk rec => ?_) (fun rec => ?_) (by omega)
  · unfold b11_hopes_85
    dsimp only
    have q1 := rB k
    rw [n4 k hk] at q1
    rw [w32_id (x := (n : Int)) (by omega) (by omega), w32_id (x := (k : Int)) (by omega) (by omega), if_neg (by omega), m_apart hV hm x2 x3 x4 hC.2.1 hC.2.2.1 hC.2.2.2 hC.1, bnd_some, m_heat hm x4 (by omega), bnd_some, m_fades hm x4 (by omega), bnd_some, m_power _ _ (by omega), bnd_some, show (n : Int) - 1 - (k : Int) = ((n - 1 - k : Nat) : Int) by omega, m_power _ _ (by omega), bnd_some, lt_eq, w32_id (x := 10 - x5) (by omega) (by omega), w32_id (x := sGap V x2 x3 x4 * (V (4 + 2 * x4.toNat) - k * V (5 + 2 * x4.toNat))) (by omega) (by omega)]
    simp only [hopU, sm]
    rw [n4 k hk]
  · unfold b11_hopes_85
    dsimp only
    have p1 := pow10_pos (10 - n)
    rw [if_pos (Int.le_refl _), show (n : Int) - 1 = ((n - 1 : Nat) : Int) by omega, m_power _ _ (by omega), bnd_some, e6]
    generalize hopA (10 - x5) (fun i => sGap V x2 x3 x4 * sAft V x4 i) 9 = A at *
    generalize hopU n (10 - x5) (fun i => sGap V x2 x3 x4 * sAft V x4 i) n = U at *
    have u0 : 0 ≤ U := by
      rcases Int.lt_or_le U 0 with q | q
      · have := Int.mul_neg_of_pos_of_neg p1 q
        omega
      · exact q
    have u1 : U ≤ A := by
      have : 1 * U ≤ 10 ^ (10 - n) * U := Int.mul_le_mul_of_nonneg_right (by omega) u0
      omega
    obtain ⟨U, rfl⟩ : ∃ B : Nat, U = B := ⟨U.toNat, by omega⟩
    have eA : A = ((10 ^ (10 - n) * U : Nat) : Int) := by rw [r4, Int.natCast_mul, Int.natCast_pow]; rfl
    have eD : (1000000000 : Nat) = 10 ^ (10 - n) * 10 ^ (n - 1) := by
      rw [← Nat.pow_add, show 10 - n + (n - 1) = 9 by omega]
    have eP : (10 : Int) ^ (n - 1) = ((10 ^ (n - 1) : Nat) : Int) := by rw [Int.natCast_pow]; rfl
    have p2 : 0 < 10 ^ (10 - n) := Nat.pow_pos (by omega)
    have p3 : 0 < 10 ^ (n - 1) := Nat.pow_pos (by omega)
    have p4 : 10 ^ (n - 1) ≤ 1000000000 := by
      rw [eD]; exact Nat.le_mul_of_pos_left _ p2
    have eT : A.toNat = 10 ^ (10 - n) * U := by rw [eA]; rfl
    rw [eT, eP, eD, Nat.gcd_mul_left, Nat.mul_div_mul_left _ _ p2, Nat.mul_div_mul_left _ _ p2]
    have hg : Nat.gcd U (10 ^ (n - 1)) ≤ 10 ^ (n - 1) := Nat.le_of_dvd p3 (Nat.gcd_dvd_right _ _)
    have hg0 : 0 < Nat.gcd U (10 ^ (n - 1)) := Nat.gcd_pos_of_pos_right _ p3
    have uA : (U : Int) ≤ 81 * 9 * 1000000000 := by
      have := r3.2
      rw [show (10 : Int) ^ 9 = 1000000000 by decide] at this
      omega
    generalize 10 ^ (n - 1) = D at *
    unfold b11_hopes_179
    rw [m_common (by omega) (by omega), bnd_some, w64_s (by omega) (by omega), asrt_t (by omega), dv64_nat (by omega) (by omega), bnd_some, w64_s (by omega) (by omega), asrt_t (by omega), dv64_nat (by omega) (by omega)]
    split <;> rfl
theorem hop_zero {V : Nat → Int} {a b s p u : Int} (hp : 0 ≤ p ∧ p ≤ 10) (hg : sGap V a b s = 0) : sHop V a b s p u = if u = 0 then 0 else 1 := by
  unfold sHop
  rw [hg, if_pos ⟨hp, by decide⟩]
  have : hopA (10 - p) (fun i => 0 * sAft V s i) 9 = 0 := by simp [hopA]
  rw [this]
  split <;> decide
theorem q_hopes {x1 x2 x3 x4 x5 x6 : Int} (hx1 : Rg x1) (hx2 : Rg x2) (hx3 : Rg x3) (hx4 : Rg x4) (hx5 : Rg x5) (hx6 : x6 = 0 ∨ x6 = 1) : Agr (f10_hopes x1 x2 x3 x4 x5 x6) (f11_hopes x1 x2 x3 x4 x5 x6) := by
  have e6 : w32 x6 = x6 := w32_id (by omega) (by omega)
  by_cases hp : 0 ≤ x5 ∧ x5 ≤ 10
  · refine agr_v hx1 (fun h e => ⟨-1, ?_, fun e2 => ?_⟩) (fun h v V hV hc h7 h17 e => ⟨sHop V x2 x3 x4 x5 x6, h, ?_, PK.rf h, fun hs e1 hm => ⟨hs, ?_, PK.rf hs⟩⟩)
    · unfold f10_hopes
      simp (disch := omega) only [w32_id, w32_0, w32_1, w32_m, if_pos, if_neg, bnd_some, lt_eq, asrt_t, ite10_0, ite10_or, e]
    · unfold f11_hopes
      rw [m_isIn, bnd_some, w32_id hx5.1 hx5.2, w32_0, show w32 10 = 10 by decide]
      simp only [ite10_0]
      rw [if_neg (fun q => q hp), e2, bnd_some, ite_w0]
    · have r1 := sGap_rng hV x2 x3 x4
      unfold f10_hopes
      rw [e, bnd_some, if_neg (by omega), w32_id hx5.1 hx5.2, if_neg (by omega), if_neg (by omega), Int.toNat_natCast, v_gap hV hc, bnd_some, w32_id hx2.1 hx2.2, w32_id hx3.1 hx3.2, w32_id hx4.1 hx4.2, w32_id (x := sGap V x2 x3 x4) (by omega) (by omega)]
      by_cases hg : sGap V x2 x3 x4 = -1
      · rw [if_neg (fun q => q hg)]
        unfold sHop
        rw [if_neg (fun q => q.2 hg)]
      · rw [if_pos hg, c_hopes hV hc hx2 hx3 hx4 hp hx6 hg]
    · have r1 := sGap_rng hV x2 x3 x4
      unfold f11_hopes
      rw [m_isIn, bnd_some, w32_id hx5.1 hx5.2, w32_0, show w32 10 = 10 by decide]
      simp only [ite10_0]
      rw [if_neg (fun q => q hp), e1, bnd_some, ite_w1, m_two hV hm, bnd_some, m_isS hV hm, bnd_some, w32_id hx2.1 hx2.2, w32_id hx3.1 hx3.2, w32_id hx4.1 hx4.2]
      simp only [ite10_0]
      by_cases hC : x2 ≠ x3 ∧ (0 ≤ x2 ∧ x2 < V 0) ∧ (0 ≤ x3 ∧ x3 < V 0) ∧ (0 ≤ x4 ∧ x4 < V 1)
      · rw [if_neg (by omega), if_neg (by omega), m_apart hV hm x2 x3 x4 hC.2.1 hC.2.2.1 hC.2.2.2 hC.1, bnd_some, w32_id (x := sGap V x2 x3 x4) (by omega) (by omega)]
        by_cases hg : sGap V x2 x3 x4 = -1
        · rw [if_neg (fun q => q hg)]
          unfold sHop
          rw [if_neg (fun q => q.2 hg)]
        · rw [if_pos hg, m_often hV hm x2 x3 x4 hC.2.1 hC.2.2.1 hC.2.2.2 hC.1, bnd_some]
          by_cases hg0 : 0 < sGap V x2 x3 x4
          · obtain ⟨n, n1, n2, n3, n4⟩ := m_hopes hV hm hp hx6 hC hg0
            rw [n1, w32_id (x := (n : Int)) (by omega) (by omega), if_pos (by omega), n4]
          · have : sQIA V x2 x3 x4 = 0 := by unfold sQIA; rw [if_pos (by omega)]
            rw [this, if_neg (by decide), e6, hop_zero hp (by omega)]
            split <;> rfl
      · have hn := sGap_no hC
        have hz : sHop V x2 x3 x4 x5 x6 = -1 := by
          unfold sHop
          rw [if_neg (fun q => q.2 hn)]
        rw [hz]
        by_cases c1 : x2 ≠ x3 ∧ (0 ≤ x2 ∧ x2 < V 0) ∧ (0 ≤ x3 ∧ x3 < V 0)
        · rw [if_neg (fun q => q c1), if_pos (by omega)]
        · rw [if_pos c1]
  · intro h hI
    have a1 := c_villageAt hI x1
    refine ⟨-1, h, h, ?_, ?_, hI⟩
    · unfold f10_hopes
      rw [a1, bnd_some, w32_id hx5.1 hx5.2]
      repeat' split
      all_goals first | rfl | omega
    · unfold f11_hopes
      rw [m_isIn, bnd_some, w32_id hx5.1 hx5.2, w32_0, show w32 10 = 10 by decide]
      simp only [ite10_0]
      rw [if_pos hp]
