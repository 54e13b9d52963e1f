/-! the pure part: tools -/
theorem fx_run {α : Type} {F : (α → Option (Int × AH)) → α → Option (Int × AH)} {X : Option (Int × AH)} (P : Nat → α) (N : Nat) (hs : ∀ i, i < N → ∀ rec : α → Option (Int × AH), F rec (P i) = rec (P (i + 1))) (he : ∀ rec : α → Option (Int × AH), F rec (P N) = X) {n : Nat} (hn : N < n) : fx F n (P 0) = X := by
  have key : ∀ (k i n : Nat), i + k = N → k < n → fx F n (P i) = X := by
    intro k
    induction k with
    | zero =>
      intro i n hi hn
      obtain ⟨m, rfl⟩ : ∃ m, n = m + 1 := ⟨n - 1, by omega⟩
      rw [fx_succ, show i = N by omega]
      exact he _
    | succ k ih =>
      intro i n hi hn
      obtain ⟨m, rfl⟩ : ∃ m, n = m + 1 := ⟨n - 1, by omega⟩
      rw [fx_succ, hs i (by omega)]
      exact ih (i + 1) m (by omega) (by omega)
  exact key N 0 n (by omega) hn
theorem FU_big {n : Nat} (h : n < 1000000000000) : n < FU := h
theorem wr_1 (h : AH) (a k : Nat) (x : Int) : (wr h a k x).1 = h.1 := rfl
theorem wr_2 (h : AH) (a k : Nat) (x : Int) (b j : Nat) : (wr h a k x).2 b j = if b = a ∧ j = k then x else h.2 b j := rfl
theorem wr_ne {h : AH} {a k : Nat} {x : Int} {b : Nat} (hb : b ≠ a) : (wr h a k x).2 b = h.2 b := by
  funext j
  rw [wr_2, if_neg (fun q => hb q.1)]
theorem wr_at {h : AH} {a k : Nat} {x : Int} : (wr h a k x).2 a k = x := by rw [wr_2, if_pos ⟨rfl, rfl⟩]
theorem wr_nk {h : AH} {a k : Nat} {x : Int} {j : Nat} (hj : j ≠ k) : (wr h a k x).2 a j = h.2 a j := by rw [wr_2, if_neg (fun q => hj q.2)]
theorem abs32_s {x : Int} (h1 : -2147483648 < x) (h2 : x < 2147483648) : abs32 x = if 0 ≤ x then x else -x := by
  unfold abs32
  rw [w32_id (by omega) h2]
  split <;> omega
theorem max32_s {x y : Int} (h1 : -2147483648 ≤ x) (h2 : x < 2147483648) (h3 : -2147483648 ≤ y) (h4 : y < 2147483648) : max32 x y = if x < y then y else x := by
  unfold max32
  rw [w32_id h1 h2, w32_id h3 h4]
theorem min32_s {x y : Int} (h1 : -2147483648 ≤ x) (h2 : x < 2147483648) (h3 : -2147483648 ≤ y) (h4 : y < 2147483648) : min32 x y = if y < x then y else x := by
  unfold min32
  rw [w32_id h1 h2, w32_id h3 h4]
theorem w32_0 : w32 0 = 0 := by decide
theorem w32_1 : w32 1 = 1 := by decide
theorem w32_m : w32 (-1) = -1 := by decide
theorem ite_w0 {α : Type} (a b : α) : (if w32 0 = 0 then a else b) = a := if_pos (by decide)
theorem ite_w1 {α : Type} (a b : α) : (if w32 1 = 0 then a else b) = b := if_neg (by decide)
theorem ite_nw0 {α : Type} (a b : α) : (if ¬ w32 0 = 0 then a else b) = b := if_neg (by decide)
theorem ite_nw1 {α : Type} (a b : α) : (if ¬ w32 1 = 0 then a else b) = a := if_pos (by decide)
/-! a village as the model's row of 72 numbers: people, subjects, hearths, cools; 4 on heat and fading by turns; 16 on wants and cracks; 24 on what each holds -/
def VOK (V : Nat → Int) : Prop := (0 ≤ V 0 ∧ V 0 ≤ 8) ∧ (0 ≤ V 1 ∧ V 1 ≤ 6) ∧ (0 ≤ V 2 ∧ V 2 ≤ 4) ∧ (0 ≤ V 3 ∧ V 3 ≤ 9) ∧ (∀ s : Nat, (s : Int) < V 1 → (1 ≤ V (4 + 2 * s) ∧ V (4 + 2 * s) ≤ 9) ∧ (1 ≤ V (5 + 2 * s) ∧ V (5 + 2 * s) ≤ 9)) ∧ (∀ q : Nat, (q : Int) < V 2 → (1 ≤ V (16 + 2 * q) ∧ V (16 + 2 * q) ≤ 60) ∧ (V (16 + 2 * q) ≤ V (17 + 2 * q) ∧ V (17 + 2 * q) ≤ 99)) ∧ ∀ q : Nat, q < 48 → -1 ≤ V (24 + q) ∧ V (24 + q) ≤ 9
/-- the class's village at the place v is V -/
def VC (c : Nat → Nat → Int) (v : Nat) (V : Nat → Int) : Prop := c v 0 = V 0 ∧ c v 1 = V 1 ∧ c v 2 = V 2 ∧ c v 3 = V 3 ∧ (∀ s : Nat, (s : Int) < V 1 → c (v + 1) s = V (4 + 2 * s) ∧ c (v + 2) s = V (5 + 2 * s)) ∧ (∀ q : Nat, (q : Int) < V 2 → c (v + 3) q = V (16 + 2 * q) ∧ c (v + 4) q = V (17 + 2 * q)) ∧ ∀ q : Nat, q < 48 → c (v + 5) q = V (24 + q)
/-- the model's village under its hands is V -/
def VM (c : Nat → Nat → Int) (V : Nat → Int) : Prop := ∃ o : Nat, o + 72 ≤ 4824 ∧ c 69 12 = o ∧ c 69 13 = V 0 ∧ c 69 14 = V 1 ∧ c 69 15 = V 2 ∧ ∀ j : Nat, j < 72 → c 70 (o + j) = V j
def sHeld (V : Nat → Int) (p s : Int) : Int := if 0 ≤ p ∧ p < V 0 ∧ 0 ≤ s ∧ s < V 1 then V (24 + (6 * p.toNat + s.toNat)) else -1
theorem sHeld_rng {V : Nat → Int} (hV : VOK V) (p s : Int) : -1 ≤ sHeld V p s ∧ sHeld V p s ≤ 9 := by
  unfold sHeld
  obtain ⟨h0, h1, -, -, -, -, h6⟩ := hV
  split
  · exact h6 _ (by omega)
  · omega
section VillageC
variable {h : AH} {v : Nat} {V : Nat → Int}
theorem v_held (hV : VOK V) (hc : VC h.2 v V) (p s : Int) : f9_held v p s h = some (sHeld V (w32 p) (w32 s), h) := by
  obtain ⟨c0, c1, c2, c3, c4, c5, c6⟩ := hc
  obtain ⟨h0, h1, -⟩ := hV
  unfold f9_held b9_held_28 b9_held_29 sHeld
  rw [c0, c1, w32_id (x := V 0) (by omega) (by omega), w32_id (x := V 1) (by omega) (by omega)]
  simp only [ite_w0, ite_w1]
  by_cases hC : 0 ≤ w32 p ∧ w32 p < V 0 ∧ 0 ≤ w32 s ∧ w32 s < V 1
  · rw [if_neg (by omega), if_neg (by omega), if_neg (by omega), if_neg (by omega), if_pos hC]
    have e : w32 (p * 6 + s) = 6 * w32 p + w32 s := by unfold w32 at *; omega
    rw [e, asrt_t (by omega), c6 _ (by omega), show (6 * w32 p + w32 s).toNat = 6 * (w32 p).toNat + (w32 s).toNat by omega]
  · rw [if_neg hC]
    repeat' split
    all_goals first | rfl | omega
def sGap (V : Nat → Int) (a b s : Int) : Int := if a = b then -1 else if sHeld V a s = -1 ∨ sHeld V b s = -1 then -1 else if sHeld V b s ≤ sHeld V a s then sHeld V a s - sHeld V b s else sHeld V b s - sHeld V a s
theorem sGap_rng {V : Nat → Int} (hV : VOK V) (a b s : Int) : -1 ≤ sGap V a b s ∧ sGap V a b s ≤ 9 := by
  unfold sGap
  have h1 := sHeld_rng hV a s
  have h2 := sHeld_rng hV b s
  repeat' split
  all_goals omega
theorem v_gap (hV : VOK V) (hc : VC h.2 v V) (a b s : Int) : f9_gap v a b s h = some (sGap V (w32 a) (w32 b) (w32 s), h) := by
  have r1 := sHeld_rng hV (w32 a) (w32 s)
  have r2 := sHeld_rng hV (w32 b) (w32 s)
  unfold f9_gap sGap
  rw [v_held hV hc, bnd_some, v_held hV hc, bnd_some]
  generalize sHeld V (w32 a) (w32 s) = x at *
  generalize sHeld V (w32 b) (w32 s) = y at *
  rw [abs32_s (by omega) (by omega), w32_id (x := x) (by omega) (by omega), w32_id (x := y) (by omega) (by omega)]
  repeat' split
  all_goals first | rfl | omega | (congr 2; omega)
end VillageC
