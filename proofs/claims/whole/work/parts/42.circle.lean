/-! circle: rows of people, each apart from the next -/
def cnd (ap : Nat → Nat → Bool) (S : Nat) (l : Int) (a : Nat) : Bool := !S.testBit a && (decide (l = -1) || ap l.toNat a)
def lpN (ap : Nat → Nat → Bool) (n : Nat) : Nat → Nat → Int → Int × Int
  | 0, _, _ => (-1, 0)
  | m + 1, S, l => bst (fun a => if cnd ap S l a then 1 + (lpN ap n m (S ||| 2 ^ a) a).2 else 0) n
/-- how many are still free -/
def fre (S n : Nat) : Nat := fc (fun i => !S.testBit i) n
/-- the j-th of the row that goes on -/
def gpN (ap : Nat → Nat → Bool) (n : Nat) : Nat → Nat → Int → Nat → Int
  | 0, _, _, _ => 0
  | m + 1, S, l, 0 => (lpN ap n (m + 1) S l).1
  | m + 1, S, l, j + 1 => gpN ap n m (S ||| 2 ^ (lpN ap n (m + 1) S l).1.toNat) (lpN ap n (m + 1) S l).1 j
theorem fc_cong {p q : Nat → Bool} {n : Nat} (h : ∀ i, i < n → p i = q i) : fc p n = fc q n := by
  induction n with
  | zero => rfl
  | succ n ih => simp only [fc]; rw [ih (fun i hi => h i (by omega)), h n (by omega)]
theorem fre_set {S n a : Nat} (ha : a < n) (hS : S.testBit a = false) : fre (S ||| 2 ^ a) n + 1 = fre S n := by
  unfold fre
  have tb : ∀ i, (S ||| 2 ^ a).testBit i = (S.testBit i || decide (a = i)) := fun i => by rw [Nat.testBit_or, Nat.testBit_two_pow]
  induction n with
  | zero => omega
  | succ n ih =>
    rcases Nat.lt_or_ge a n with q | q
    · have := ih q
      have e : (S ||| 2 ^ a).testBit n = S.testBit n := by rw [tb n, decide_eq_false (show ¬ a = n by omega), Bool.or_false]
      cases z : S.testBit n
      · rw [fc_s1 (p := fun i => !(S ||| 2 ^ a).testBit i) (by rw [e, z]; rfl), fc_s1 (p := fun i => !S.testBit i) (by rw [z]; rfl)]
        omega
      · rw [fc_s0 (p := fun i => !(S ||| 2 ^ a).testBit i) (by rw [e, z]; rfl), fc_s0 (p := fun i => !S.testBit i) (by rw [z]; rfl)]
        omega
    · have : a = n := by omega
      subst this
      rw [fc_s0 (p := fun i => !(S ||| 2 ^ a).testBit i) (by rw [tb a, decide_eq_true rfl, Bool.or_true]; rfl), fc_s1 (p := fun i => !S.testBit i) (by rw [hS]; rfl), fc_cong (p := fun i => !(S ||| 2 ^ a).testBit i) (q := fun i => !S.testBit i) (fun i hi => by rw [tb i, decide_eq_false (show ¬ a = i by omega), Bool.or_false])]
theorem fre_z {S n a : Nat} (ha : a < n) (h : fre S n = 0) : S.testBit a = true := by
  cases q : S.testBit a
  · have := fre_set ha q
    omega
  · rfl
theorem lpN_rng (ap : Nat → Nat → Bool) (n m S : Nat) (l : Int) : (0 ≤ (lpN ap n m S l).2 ∧ (lpN ap n m S l).2 ≤ m) ∧ -1 ≤ (lpN ap n m S l).1 ∧ (lpN ap n m S l).1 < n := by
  induction m generalizing S l with
  | zero => exact ⟨⟨Int.le_refl _, Int.le_refl _⟩, Int.le_refl _, show (-1 : Int) < n by omega⟩
  | succ m ih =>
    simp only [lpN]
    exact bst_rng (f := fun a => if cnd ap S l a then 1 + (lpN ap n m (S ||| 2 ^ a) a).2 else 0) (n := n) (hi := ((m + 1 : Nat) : Int)) (by omega) (fun i _ => by
      have := (ih (S ||| 2 ^ i) i).1
      split <;> omega)
theorem bst_max (f : Nat → Int) (n j : Nat) (hj : j < n) : f j ≤ (bst f n).2 := by
  induction n with
  | zero => omega
  | succ n ih =>
    simp only [bst]
    split
    · rename_i c
      rcases Nat.lt_or_ge j n with q | q
      · have := ih q
        simp only; omega
      · rw [show j = n by omega]; simp only; omega
    · rename_i c
      rcases Nat.lt_or_ge j n with q | q
      · exact ih q
      · rw [show j = n by omega]; omega
theorem bst_first {f : Nat → Int} {n j : Nat} (h : (j : Int) < (bst f n).1) : f j < (bst f n).2 := by
  induction n with
  | zero => simp only [bst] at h; omega
  | succ n ih =>
    simp only [bst] at h ⊢
    split
    · rename_i c
      rw [if_pos c] at h
      simp only at h ⊢
      have nn := bst_max f n j (by omega)
      omega
    · rename_i c
      rw [if_neg c] at h
      exact ih h
theorem bst_top {f : Nat → Int} {p n : Nat} (hpn : p ≤ n) (h : ∀ i, p ≤ i → i < n → f i ≤ (bst f p).2) : bst f n = bst f p := by
  induction n with
  | zero => rw [show p = 0 by omega]
  | succ n ih =>
    rcases Nat.lt_or_ge p (n + 1) with q | q
    · have e := ih (by omega) (fun i h1 h2 => h i h1 (by omega))
      have := h n (by omega) (by omega)
      simp only [bst]
      rw [e, if_neg (by omega)]
    · rw [show p = n + 1 by omega]
theorem andn_nat {x y : Nat} (hx : x < 2147483648) (hy : y < 2147483648) : and32 x (xor32 y (-1)) = ((x &&& (y ^^^ 4294967295) : Nat) : Int) := by
  have h1 : x &&& (y ^^^ 4294967295) < 2147483648 := Nat.lt_of_le_of_lt Nat.and_le_left hx
  have h2 : y ^^^ 4294967295 < 4294967296 := Nat.xor_lt_two_pow (n := 32) (by omega) (by omega)
  unfold and32 xor32
  rw [← bv_int h1, Int32.ofInt_toInt]
  show (Int32.ofInt x &&& (Int32.ofInt y ^^^ Int32.ofInt (-1))).toBitVec.toInt = _
  rw [Int32.toBitVec_and, Int32.toBitVec_xor, i32_bv, i32_bv, show (Int32.ofInt (-1)).toBitVec = BitVec.ofNat 32 4294967295 from rfl]
  congr 1
  apply BitVec.eq_of_toNat_eq
  simp only [BitVec.toNat_and, BitVec.toNat_xor, BitVec.toNat_ofNat]
  rw [Nat.mod_eq_of_lt (show x < 2 ^ 32 by omega), Nat.mod_eq_of_lt (show y < 2 ^ 32 by omega), Nat.mod_eq_of_lt (show 4294967295 < 2 ^ 32 by omega), Nat.mod_eq_of_lt (show x &&& (y ^^^ 4294967295) < 2 ^ 32 by omega)]
theorem bit_n {x y k : Nat} (hx : x < 2147483648) (hy : y < 2147483648) (hk : k < 31) : (w32 (and32 (and32 x (xor32 y (-1))) (shl32 1 k)) = 0) ↔ (x.testBit k && !y.testBit k) = false := by
  have h1 : x &&& (y ^^^ 4294967295) < 2147483648 := Nat.lt_of_le_of_lt Nat.and_le_left hx
  rw [andn_nat hx hy, bit_a h1 hk, Nat.testBit_and, Nat.testBit_xor, show 4294967295 = 2 ^ 32 - 1 from rfl, Nat.testBit_two_pow_sub_one, decide_eq_true (show k < 32 by omega)]
  cases x.testBit k <;> cases y.testBit k <;> simp
section Circle
variable {V : Nat → Int}
def apV (V : Nat → Int) (a b : Nat) : Bool := sAp V a b
/-- the class's chain: people, who is against whom -/
def CH (V : Nat → Int) (h : AH) : Prop := h.2 62 4 = V 0 ∧ ∀ a : Nat, (a : Int) < V 0 → h.2 65 a = ((bs (fun b => sAp V a b) (V 0).toNat : Nat) : Int)
def kCh (a k : Nat) : Prop := (a = 62 ∧ k = 1) ∨ a = 63 ∨ a = 64
theorem CH.ky {h w : AH} (hC : CH V h) (k : Ky kCh h w) : CH V w := ⟨(k.2 _ _ (by unfold kCh; omega)).trans hC.1, fun a ha => (k.2 _ _ (by unfold kCh; omega)).trans (hC.2 a ha)⟩
/-- what grow leaves: B with the row, or what was -/
def GW (h h1 : AH) (count : Nat) (L : Int) (g : Nat → Int) : Prop :=
  (h.2 62 1 < count + L → h1.2 62 1 = count + L ∧ ∀ i : Nat, (i : Int) < count + L → h1.2 63 i = if i < count then h.2 64 i else g (i - count)) ∧
  (¬ h.2 62 1 < count + L → h1.2 62 1 = h.2 62 1 ∧ ∀ i : Nat, (i : Int) < h.2 62 1 → h1.2 63 i = h.2 63 i)
/-- what grow has done behind p tries -/
theorem c_grow (hV : VOK V) (m : Nat) : ∀ (fuel count S may : Nat) (l : Int) (h : AH), m + 1 ≤ fuel → count + m = (V 0).toNat → fre S (V 0).toNat = m → S < 256 → may < 256 → (∀ a, a < (V 0).toNat → S.testBit a = false → may.testBit a = (decide (l = -1) || apV V l.toNat a)) → CH V h → 0 ≤ h.2 62 1 ∧ h.2 62 1 ≤ 8 → ∃ h1, f0_grow fuel count may S h = some (0, h1) ∧ Ky kCh h h1 ∧ (∀ i, i < count → h1.2 64 i = h.2 64 i) ∧ GW h h1 count (lpN (apV V) (V 0).toNat m S l).2 (fun j => gpN (apV V) (V 0).toNat m S l j) := by
  have v0 := hV.1
  -- the first step: is the row the longest so far?
  have first : ∀ (self : Int → Int → Int → AH → Option (Int × AH)) (count S may : Nat) (h : AH), count ≤ 8 → 0 ≤ h.2 62 1 ∧ h.2 62 1 ≤ 8 → ∃ w, e0_grow self count may S h = b0_grow_28 self count may S w ∧ Ky kCh h w ∧ (∀ i, w.2 64 i = h.2 64 i) ∧ (h.2 62 1 < count → w.2 62 1 = count ∧ ∀ i, i < count → w.2 63 i = h.2 64 i) ∧ (¬ h.2 62 1 < count → w = h) := fun self count S may h hc hB => by
    unfold e0_grow
    rw [w32_id (x := (count : Int)) (by omega) (by omega), w32_id (x := h.2 62 1) (by omega) (by omega)]
    by_cases q : (count : Int) ≤ h.2 62 1
    · rw [if_pos q]
      exact ⟨h, rfl, Ky.rf h, fun i => rfl, fun z => by omega, fun _ => rfl⟩
    · rw [if_neg q, lt_eq, asrt_t (by decide), lt_eq, show (w32 0).toNat = 0 from rfl, show (w32 8).toNat = 8 from rfl]
      refine ⟨_, rfl, ⟨rfl, fun a k hk => ?_⟩, fun i => ?_, fun _ => ⟨?_, fun i hi => ?_⟩, fun z => by omega⟩
      · rw [cpy_e (by unfold kCh at hk; omega), wr_e (by unfold kCh at hk; omega)]
      · rw [cpy_e (by omega), wr_e (by omega)]
      · rw [cpy_e (by omega), wr_at]
      · rw [cpy_0 (by omega), wr_e (by omega)]
  induction m with
  | zero =>
    intro fuel count S may l h hf hcm hfr hS hmay hok hC hB
    obtain ⟨f, rfl⟩ : ∃ f, fuel = f + 1 := ⟨fuel - 1, by omega⟩
    obtain ⟨w, a1, a2, a3, a4, a5⟩ := first (f0_grow f) count S may h (by omega) hB
    have e0 : (lpN (apV V) (V 0).toNat 0 S l).2 = 0 := rfl
    rw [e0]
    show ∃ h1, e0_grow (f0_grow f) count may S h = some (0, h1) ∧ _
    have hw := hC.ky a2
    have wB : 0 ≤ w.2 62 1 ∧ w.2 62 1 ≤ 8 := by
      by_cases z : h.2 62 1 < count
      · rw [(a4 z).1]; omega
      · rw [a5 z]; exact hB
    refine ⟨w, ?_, a2, fun i _ => a3 i, fun z => ?_, fun z => ?_⟩
    · rw [a1]
      unfold b0_grow_28
      rw [w32_id (x := (count : Int)) (by omega) (by omega)]
      by_cases q : (count : Int) < 8
      · rw [if_pos q]
        unfold l0_grow_38
        refine fr (fun X => X = some (0, w)) (fun (_ : Unit) i => (i, w)) (fun _ _ => True) 0 (V 0).toNat () trivial (by omega) (by omega) (fun p _ _ hp _ rec => ?_) (fun _ _ rec => ?_)
        · unfold b0_grow_38 b0_grow_99
          dsimp only
          rw [hw.1, w32_id (x := V 0) (by omega) (by omega), w32_id (x := (p : Int)) (by omega) (by omega), if_neg (by omega), w32_id (x := w.2 62 1) (by omega) (by omega)]
          by_cases t : V 0 ≤ w.2 62 1
          · left; rw [if_pos t]
          · right
            rw [if_neg t, if_pos ((bit_n (by omega) (by omega) (by omega)).mpr (by rw [fre_z hp hfr]; simp))]
            exact ⟨(), trivial, rfl⟩
        · unfold b0_grow_38
          dsimp only
          rw [hw.1, w32_id (x := V 0) (by omega) (by omega), w32_id (x := ((V 0).toNat : Int)) (by omega) (by omega), if_pos (by omega)]
      · rw [if_neg q]
    · have := a4 (by omega)
      refine ⟨by omega, fun i hi => ?_⟩
      rw [if_pos (by omega)]
      exact this.2 i (by omega)
    · rw [a5 (by omega)]
      exact ⟨rfl, fun i _ => rfl⟩
  | succ m ih =>
    intro fuel count S may l h hf hcm hfr hS hmay hok hC hB
    obtain ⟨f, rfl⟩ : ∃ f, fuel = f + 1 := ⟨fuel - 1, by omega⟩
    obtain ⟨w, a1, a2, a3, a4, a5⟩ := first (f0_grow f) count S may h (by omega) hB
    show ∃ h1, e0_grow (f0_grow f) count may S h = some (0, h1) ∧ _
    have wB : 0 ≤ w.2 62 1 ∧ w.2 62 1 ≤ 8 := by
      by_cases z : h.2 62 1 < count
      · rw [(a4 z).1]; omega
      · rw [a5 z]; exact hB
    have lpe : lpN (apV V) (V 0).toNat (m + 1) S l = bst (fun a => if cnd (apV V) S l a then 1 + (lpN (apV V) (V 0).toNat m (S ||| 2 ^ a) a).2 else 0) (V 0).toNat := rfl
    have gpe : ∀ j, gpN (apV V) (V 0).toNat (m + 1) S l j = if j = 0 then (lpN (apV V) (V 0).toNat (m + 1) S l).1 else gpN (apV V) (V 0).toNat m (S ||| 2 ^ (lpN (apV V) (V 0).toNat (m + 1) S l).1.toNat) (lpN (apV V) (V 0).toNat (m + 1) S l).1 (j - 1) := fun j => by
      cases j with
      | zero => rfl
      | succ j => rfl
    have lpr := lpN_rng (apV V) (V 0).toNat (m + 1) S l
    have crg : ∀ a, 0 ≤ (if cnd (apV V) S l a then 1 + (lpN (apV V) (V 0).toNat m (S ||| 2 ^ a) a).2 else 0) ∧ (if cnd (apV V) S l a then 1 + (lpN (apV V) (V 0).toNat m (S ||| 2 ^ a) a).2 else 0) ≤ m + 1 := fun a => by
      have := (lpN_rng (apV V) (V 0).toNat m (S ||| 2 ^ a) a).1
      split <;> omega
    generalize hF : (fun a : Nat => if cnd (apV V) S l a then 1 + (lpN (apV V) (V 0).toNat m (S ||| 2 ^ a) a).2 else 0) = F at *
    have Fe : ∀ a, F a = if cnd (apV V) S l a then 1 + (lpN (apV V) (V 0).toNat m (S ||| 2 ^ a) a).2 else 0 := fun a => by rw [← hF]
    have crg2 : ∀ a, 0 ≤ F a ∧ F a ≤ ((m + 1 : Nat) : Int) := fun a => by
      have := crg a
      rw [← Fe a] at this
      omega
    have hw := hC.ky a2
    have wc : (count : Int) ≤ w.2 62 1 := by
      by_cases z : h.2 62 1 < count
      · rw [(a4 z).1]; omega
      · rw [a5 z]; omega
    have main : ∃ u, b0_grow_28 (f0_grow f) count may S w = some (0, u) ∧ Ky kCh w u ∧ (∀ i, i < count → u.2 64 i = w.2 64 i) ∧ GW w u count (bst F (V 0).toNat).2 (fun j => if j = 0 then (bst F (V 0).toNat).1 else gpN (apV V) (V 0).toNat m (S ||| 2 ^ (bst F (V 0).toNat).1.toNat) (bst F (V 0).toNat).1 (j - 1)) := by
      unfold b0_grow_28 l0_grow_38
      rw [w32_id (x := (count : Int)) (by omega) (by omega), if_pos (by omega)]
      refine fr (fun X => ∃ u, X = some (0, u) ∧ Ky kCh w u ∧ (∀ i, i < count → u.2 64 i = w.2 64 i) ∧ GW w u count (bst F (V 0).toNat).2 (fun j => if j = 0 then (bst F (V 0).toNat).1 else gpN (apV V) (V 0).toNat m (S ||| 2 ^ (bst F (V 0).toNat).1.toNat) (bst F (V 0).toNat).1 (j - 1))) (fun (u : AH) i => (i, u)) (fun p u => Ky kCh w u ∧ (∀ i, i < count → u.2 64 i = w.2 64 i) ∧ GW w u count (bst F p).2 (fun j => if j = 0 then (bst F p).1 else gpN (apV V) (V 0).toNat m (S ||| 2 ^ (bst F p).1.toNat) (bst F p).1 (j - 1))) 0 (V 0).toNat w ⟨Ky.rf w, fun i _ => rfl, fun z => absurd z (show ¬ w.2 62 1 < (count : Int) + 0 by omega), fun _ => ⟨rfl, fun i _ => rfl⟩⟩ (by omega) (by omega) (fun p u _ hp hI rec => ?_) (fun u hI rec => ?_)
      · obtain ⟨i1, i2, i3, i4⟩ := hI
        have hu := hw.ky i1
        have br := bst_rng (f := F) (n := p) (hi := ((m + 1 : Nat) : Int)) (by omega) (fun i _ => (crg2 i).2)
        have uB : (0 ≤ u.2 62 1 ∧ u.2 62 1 ≤ 8) ∧ (w.2 62 1 < count + (bst F p).2 ∧ u.2 62 1 = count + (bst F p).2 ∨ ¬ w.2 62 1 < count + (bst F p).2 ∧ u.2 62 1 = w.2 62 1) := by
          by_cases z : w.2 62 1 < count + (bst F p).2
          · have := (i3 z).1; omega
          · have := (i4 z).1; omega
        unfold b0_grow_38 b0_grow_99
        dsimp only
        rw [hu.1, w32_id (x := V 0) (by omega) (by omega), w32_id (x := (p : Int)) (by omega) (by omega), if_neg (by omega), w32_id (x := u.2 62 1) (by omega) (by omega)]
        by_cases t : V 0 ≤ u.2 62 1
        · left
          rw [if_pos t]
          refine ⟨u, rfl, i1, i2, ?_⟩
          rcases uB.2 with ⟨z1, z2⟩ | ⟨z1, z2⟩
          · have e := bst_top (f := F) (p := p) (n := (V 0).toNat) (by omega) (fun i _ _ => by have := (crg2 i).2; omega)
            rw [e]
            exact ⟨i3, i4⟩
          · have br2 := bst_rng (f := F) (n := (V 0).toNat) (hi := ((m + 1 : Nat) : Int)) (by omega) (fun i _ => (crg2 i).2)
            refine ⟨fun z => by omega, fun _ => i4 z1⟩
        · right
          rw [if_neg t]
          have cn : cnd (apV V) S l p = (may.testBit p && !S.testBit p) := by
            unfold cnd
            cases z : S.testBit p
            · rw [hok p hp z]; simp
            · simp
          cases tb : (may.testBit p && !S.testBit p)
          · rw [if_pos ((bit_n (by omega) (by omega) (by omega)).mpr tb)]
            have F0 : F p = 0 := by rw [Fe p, cn, tb]; rfl
            have e : bst F (p + 1) = bst F p := by
              simp only [bst]
              rw [if_neg (by omega)]
            exact ⟨u, ⟨i1, i2, by rw [e]; exact ⟨i3, i4⟩⟩, rfl⟩
          · have nz : ¬ w32 (and32 (and32 (may : Int) (xor32 (S : Int) (-1))) (shl32 1 (p : Int))) = 0 := fun z => by
              rw [(bit_n (by omega) (by omega) (by omega)).mp z] at tb
              exact absurd tb (by decide)
            have Sp : S.testBit p = false := by
              cases z : S.testBit p
              · rfl
              · rw [z] at tb; simp at tb
            have fs := fre_set hp Sp
            have F1 : F p = 1 + (lpN (apV V) (V 0).toNat m (S ||| 2 ^ p) p).2 := by rw [Fe p, cn, tb]; rfl
            have lr := (lpN_rng (apV V) (V 0).toNat m (S ||| 2 ^ p) p).1
            have k2 : Ky kCh u (wr u 64 count p) := Ky.w1 (Or.inr (Or.inr rfl))
            have hu2 := hu.ky k2
            have bl := bs_lt (fun b => sAp V p b) (V 0).toNat
            have pn := pow_n hV
            obtain ⟨u3, g1, g2, g3, g4, g5⟩ := ih f (count + 1) (S ||| 2 ^ p) (bs (fun b => sAp V p b) (V 0).toNat) p (wr u 64 count p) (by omega) (by omega) (by omega) (or_lt256 hS (pow_lt256 (by omega))) (by omega) (fun a ha _ => by
              rw [bs_tb, decide_eq_true ha, decide_eq_false (show ¬ (p : Int) = -1 by omega), Int.toNat_natCast]
              rfl) hu2 (by rw [wr_e (by omega)]; exact uB.1)
            have wB2 : (wr u 64 count (p : Int)).2 62 1 = u.2 62 1 := wr_e (by omega)
            have w63 : ∀ i, (wr u 64 count (p : Int)).2 63 i = u.2 63 i := fun i => wr_e (by omega)
            rw [wB2] at g4 g5
            rw [if_neg nz, w32_id (x := (count : Int)) (by omega) (by omega), asrt_t (by omega), lt_eq, asrt_t (by omega), Int.toNat_natCast, Int.toNat_natCast, hu2.2 p (by omega), show (count : Int) + 1 = ((count + 1 : Nat) : Int) from rfl, shl32_1 (by omega), or32_nat (by omega) (pow_lt31 (by omega)), g1, bnd_some]
            refine ⟨u3, ⟨i1.tr (k2.tr g2), fun i hi => ?_, ?_⟩, rfl⟩
            · rw [g3 i (by omega), wr_e (by omega)]; exact i2 i hi
            · by_cases z : (bst F p).2 < F p
              · have e : bst F (p + 1) = ((p : Int), F p) := by
                  simp only [bst]
                  rw [if_pos z]
                rw [e]
                refine ⟨fun y => ?_, fun y => ?_⟩
                · simp only at y
                  obtain ⟨s1, s2⟩ := g4 (by omega)
                  refine ⟨by simp only; omega, fun i hi => ?_⟩
                  simp only at hi
                  rw [s2 i (by omega)]
                  by_cases x1 : i < count
                  · rw [if_pos (by omega), if_pos x1, wr_e (by omega)]; exact i2 i x1
                  · by_cases x2 : i = count
                    · subst x2
                      rw [if_pos (by omega), if_neg (by omega), wr_at, Nat.sub_self]
                      rfl
                    · rw [if_neg (by omega), if_neg x1]
                      dsimp only
                      rw [if_neg (by omega), Int.toNat_natCast, show i - count - 1 = i - (count + 1) by omega]
                · simp only at y
                  obtain ⟨s1, s2⟩ := g5 (by omega)
                  obtain ⟨s3, s4⟩ := i4 (by omega)
                  refine ⟨by omega, fun i hi => ?_⟩
                  rw [s2 i (by omega), w63]; exact s4 i hi
              · have e : bst F (p + 1) = bst F p := by
                  simp only [bst]
                  rw [if_neg z]
                rw [e]
                obtain ⟨s1, s2⟩ := g5 (by omega)
                refine ⟨fun y => ?_, fun y => ?_⟩
                · obtain ⟨s3, s4⟩ := i3 y
                  refine ⟨by omega, fun i hi => ?_⟩
                  rw [s2 i (by omega), w63]; exact s4 i hi
                · obtain ⟨s3, s4⟩ := i4 y
                  refine ⟨by omega, fun i hi => ?_⟩
                  rw [s2 i (by omega), w63]; exact s4 i hi
      · refine ⟨u, ?_, hI⟩
        unfold b0_grow_38
        dsimp only
        rw [(hw.ky hI.1).1, w32_id (x := V 0) (by omega) (by omega), w32_id (x := ((V 0).toNat : Int)) (by omega) (by omega), if_pos (by omega)]
    obtain ⟨u, b1, b2, b3, b4, b5⟩ := main
    rw [lpe] at lpr
    refine ⟨u, by rw [a1, b1], a2.tr b2, fun i hi => by rw [b3 i hi, a3], ?_⟩
    rw [lpe]
    have gp2 : ∀ j, gpN (apV V) (V 0).toNat (m + 1) S l j = if j = 0 then (bst F (V 0).toNat).1 else gpN (apV V) (V 0).toNat m (S ||| 2 ^ (bst F (V 0).toNat).1.toNat) (bst F (V 0).toNat).1 (j - 1) := fun j => by rw [gpe j, lpe]
    by_cases z : h.2 62 1 < count
    · obtain ⟨z1, z2⟩ := a4 z
      refine ⟨fun _ => ?_, fun y => by omega⟩
      by_cases y : w.2 62 1 < count + (bst F (V 0).toNat).2
      · obtain ⟨s1, s2⟩ := b4 y
        refine ⟨s1, fun i hi => ?_⟩
        rw [s2 i hi]
        simp only [gp2, a3]
      · obtain ⟨s1, s2⟩ := b5 y
        refine ⟨by omega, fun i hi => ?_⟩
        rw [if_pos (by omega), s2 i (by omega), z2 i (by omega)]
    · have e := a5 z
      subst e
      refine ⟨fun y => ?_, b5⟩
      obtain ⟨s1, s2⟩ := b4 y
      refine ⟨s1, fun i hi => ?_⟩
      rw [s2 i hi]
      simp only [gp2]
end Circle
