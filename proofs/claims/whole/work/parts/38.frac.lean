/-! fractions: the common divisor, mean -/
theorem w64_s {x : Int} (h1 : -9223372036854775808 ≤ x) (h2 : x < 9223372036854775808) : w64 x = x := by unfold w64; omega
theorem cmp64_s {x y : Int} (h1 : -9223372036854775808 ≤ x) (h2 : x < 9223372036854775808) (h3 : -9223372036854775808 ≤ y) (h4 : y < 9223372036854775808) : w32 (cmp64 x y) = if y < x then 1 else if x = y then 0 else -1 := by
  unfold cmp64
  rw [w64_s h1 h2, w64_s h3 h4]
  repeat' split
  all_goals decide
theorem cmp64_0 {x : Int} (h1 : 0 ≤ x) (h2 : x < 9223372036854775808) : (w32 (cmp64 x 0) = 0) ↔ x = 0 := by
  rw [cmp64_s (by omega) h2 (by omega) (by omega)]
  repeat' split
  all_goals omega
theorem cmp64_1 {x : Int} (h1 : 0 ≤ x) (h2 : x < 9223372036854775808) : (0 ≤ w32 (cmp64 x 1)) ↔ 1 ≤ x := by
  rw [cmp64_s (by omega) h2 (by omega) (by omega)]
  repeat' split
  all_goals omega
theorem gcd_run {α : Type} {F : (α → Option (Int × AH)) → α → Option (Int × AH)} (mk : Nat → Nat → Int → α) {K : Nat → Option (Int × AH)} {B : Nat} (hs : ∀ rec a b (i : Nat), i < 200 → 0 < b → a < B → b < B → F rec (mk a b i) = rec (mk b (a % b) ((i : Int) + 1))) (he : ∀ rec a (i : Nat), a < B → i < 200 → F rec (mk a 0 i) = K a) : ∀ (k a b i n : Nat), a < B → b < B → b < 2 ^ k → 2 * k < n → i + 2 * k < 200 → fx F n (mk a b i) = K (Nat.gcd a b) := by
  intro k
  induction k with
  | zero =>
    intro a b i n ha hb hk hn hi
    obtain ⟨m, rfl⟩ : ∃ m, n = m + 1 := ⟨n - 1, by omega⟩
    have : b = 0 := by simp at hk; exact hk
    subst this
    rw [fx_succ, he _ _ _ ha (by omega), Nat.gcd_zero_right]
  | succ k ih =>
    intro a b i n ha hb hk hn hi
    obtain ⟨m, rfl⟩ : ∃ m, n = m + 2 := ⟨n - 2, by omega⟩
    rcases Nat.eq_zero_or_pos b with h0 | h0
    · subst h0
      rw [fx_succ, he _ _ _ ha (by omega), Nat.gcd_zero_right]
    · have hr : a % b < b := Nat.mod_lt _ h0
      rw [fx_succ, hs _ _ _ _ (by omega) h0 ha hb, fx_succ]
      have e1 : Nat.gcd a b = Nat.gcd b (a % b) := by rw [Nat.gcd_comm a b, Nat.gcd_rec b a, Nat.gcd_comm]
      rw [e1, show ((i : Int) + 1) = ((i + 1 : Nat) : Int) by omega]
      rcases Nat.eq_zero_or_pos (a % b) with h1 | h1
      · rw [h1, he _ _ _ hb (by omega), Nat.gcd_zero_right]
      · rw [hs _ _ _ _ (by omega) h1 hb (by omega)]
        have e2 : Nat.gcd b (a % b) = Nat.gcd (a % b) (b % (a % b)) := by rw [Nat.gcd_comm b, Nat.gcd_rec (a % b) b, Nat.gcd_comm]
        have h2 : b % (a % b) < a % b := Nat.mod_lt _ h1
        have h3 : 2 * (b % (a % b)) < b := by
          rcases Nat.lt_or_ge (2 * (a % b)) (b + 1) with q | q
          · omega
          · have : b % (a % b) = b - a % b := by
              rw [Nat.mod_eq_sub_mod (by omega), Nat.mod_eq_of_lt (by omega)]
            omega
        rw [e2, show (((i + 1 : Nat) : Int) + 1) = ((i + 2 : Nat) : Int) by omega]
        exact ih _ _ _ _ (by omega) (by omega) (by rw [Nat.pow_succ] at hk; omega) (by omega) (by omega)
theorem rm64_nat {a b : Nat} (ha : a < 2 ^ 62) (hb : b < 2 ^ 62) : rm64 (a : Int) (b : Int) = ((a % b : Nat) : Int) := by
  unfold rm64
  rw [w64_s (by omega) (by omega), w64_s (by omega) (by omega)]
  rfl
theorem dv64_nat {a b : Nat} (ha : a < 2 ^ 62) (hb : b < 2 ^ 62) : dv64 (a : Int) (b : Int) = ((a / b : Nat) : Int) := by
  unfold dv64
  rw [w64_s (by omega) (by omega), w64_s (by omega) (by omega)]
  rfl
theorem m_common {a b : Nat} (ha : a < 2 ^ 62) (hb : b < 2 ^ 62) (h : AH) : f11_common a b h = some (((Nat.gcd a b : Nat) : Int), h) := by
  unfold f11_common l11_common_6
  have key := gcd_run (F := fun rec (z : Int × Int × AH) => b11_common_6 rec z.1 z.2.1 z.2.2) (fun a b _ => ((a : Int), (b : Int), h)) (K := fun a => some ((a : Int), h)) (B := 2 ^ 62) (fun rec a b i hi hb0 ha hb => ?_) (fun rec a i ha hi => ?_) 62 a b 0 FU ha hb hb (by decide) (by omega)
  · exact key
  · unfold b11_common_6
    dsimp only
    rw [if_neg (by rw [cmp64_0 (by omega) (by omega)]; omega), w64_s (by omega) (by omega), asrt_t (by omega), lt_eq, rm64_nat ha hb]
  · unfold b11_common_6
    dsimp only
    rw [if_pos (by rw [cmp64_0 (by omega) (by omega)]; omega)]
theorem c_lowest {a b : Nat} (ha : a < 2 ^ 62) (hb : b < 2 ^ 62) (hb0 : 0 < b) (u : Int) (hu : u = 0 ∨ u = 1) (h : AH) : f10_lowest a b u h = some (if u = 0 then ((a / Nat.gcd a b : Nat) : Int) else ((b / Nat.gcd a b : Nat) : Int), h) := by
  unfold f10_lowest l10_lowest_9
  have hu2 : w32 u = u := w32_id (by omega) (by omega)
  have hg : Nat.gcd a b ≤ b := Nat.le_of_dvd hb0 (Nat.gcd_dvd_right a b)
  have hg0 : 0 < Nat.gcd a b := Nat.gcd_pos_of_pos_right a hb0
  have e1 : ∀ g : Nat, b10_lowest_45 a b u g h = if 0 < g then (if g < 2 ^ 62 then some (if u = 0 then ((a / g : Nat) : Int) else ((b / g : Nat) : Int), h) else b10_lowest_45 a b u g h) else b10_lowest_45 a b u g h := by
    intro g
    split
    · split
      · unfold b10_lowest_45
        rw [hu2, w64_s (by omega) (by omega), if_pos (by rw [cmp64_1 (by omega) (by omega)]; omega), asrt_t (by omega), asrt_t (by omega), dv64_nat ha (by omega), dv64_nat hb (by omega)]
        repeat' split
        all_goals first | rfl | omega
      · rfl
    · rfl
  have key := gcd_run (F := fun rec (z : Int × Int × Int × AH) => b10_lowest_9 rec a b u z.1 z.2.1 z.2.2.1 z.2.2.2) (fun a b i => ((a : Int), (b : Int), i, h)) (K := fun g => b10_lowest_45 a b u g h) (B := 2 ^ 62) (fun rec a b i hi hb0 ha hb => ?_) (fun rec a i ha hi => ?_) 62 a b 0 FU ha hb hb (by decide) (by omega)
  · rw [show ((0 : Int)) = ((0 : Nat) : Int) from rfl, key, e1, if_pos hg0, if_pos (by omega)]
    rfl
  · unfold b10_lowest_9
    dsimp only
    rw [w32_id (by omega) (by omega), if_neg (by omega), if_neg (by rw [cmp64_0 (by omega) (by omega)]; omega), w64_s (by omega) (by omega), asrt_t (by omega), lt_eq, rm64_nat ha hb]
  · unfold b10_lowest_9
    dsimp only
    rw [w32_id (by omega) (by omega), if_neg (by omega), if_pos (by rw [cmp64_0 (by omega) (by omega)]; omega)]
