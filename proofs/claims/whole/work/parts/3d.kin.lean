/-! sums by loops; kindred's parts, quiet -/
theorem loopS {F : (Int × Int × AH → Option (Int × AH)) → Int × Int × AH → Option (Int × AH)} {X : Option (Int × AH)} (f : Nat → Int) (c : Int) (lo N : Nat) (h : AH) (hle : lo ≤ N) (hN : N < 1000000) (hs : ∀ i, lo ≤ i → i < N → ∀ x rec, F rec (x, (i : Int), h) = rec (x + f i, (i : Int) + 1, h)) (he : ∀ rec, F rec (c + sm (fun j => f (lo + j)) (N - lo), (N : Int), h) = X) : fx F FU (c, (lo : Int), h) = X := by
  have key := fx_run (F := F) (X := X) (fun i => (c + sm (fun j => f (lo + j)) i, ((lo + i : Nat) : Int), h)) (N - lo) (fun i hi rec => ?_) (fun rec => ?_) (n := FU) (FU_big (by omega))
  · simp only [sm, Int.add_zero, Nat.add_zero] at key
    exact key
  · show F rec (c + sm (fun j => f (lo + j)) i, ((lo + i : Nat) : Int), h) = rec (c + (sm (fun j => f (lo + j)) i + f (lo + i)), ((lo + (i + 1) : Nat) : Int), h)
    rw [hs (lo + i) (by omega) (by omega), ← Int.add_assoc]
    rfl
  · have e : lo + (N - lo) = N := by omega
    have := he rec
    simp only [e]
    exact this
theorem loopS0 {F : (Int × Int × AH → Option (Int × AH)) → Int × Int × AH → Option (Int × AH)} {X : Option (Int × AH)} (f : Nat → Int) (N : Nat) (h : AH) (hN : N < 1000000) (hs : ∀ i, i < N → ∀ x rec, F rec (x, (i : Int), h) = rec (x + f i, (i : Int) + 1, h)) (he : ∀ rec, F rec (sm f N, (N : Int), h) = X) : fx F FU (0, 0, h) = X := by
  refine loopS f 0 0 N h (by omega) hN (fun i _ hi => hs i hi) (fun rec => ?_)
  have := he rec
  simpa using this
/-- the first below n for which f holds, or -1 -/
def ff (f : Nat → Bool) : Nat → Int
  | 0 => -1
  | n + 1 => if ff f n = -1 then (if f n then (n : Int) else -1) else ff f n
theorem ff_none {f : Nat → Bool} {n : Nat} (h : ∀ i, i < n → f i = false) : ff f n = -1 := by
  induction n with
  | zero => rfl
  | succ n ih => simp only [ff]; rw [ih (fun i hi => h i (by omega)), if_pos rfl, h n (by omega)]; rfl
theorem ff_hit {f : Nat → Bool} {n i : Nat} (hi : i < n) (h : ∀ j, j < i → f j = false) (hf : f i = true) : ff f n = i := by
  induction n with
  | zero => omega
  | succ n ih =>
    simp only [ff]
    rcases Nat.lt_or_ge i n with q | q
    · rw [ih q, if_neg (by omega)]
    · have : i = n := by omega
      subst this
      rw [ff_none h, if_pos rfl, hf]; rfl
theorem ite_b {b : Bool} : w32 (if b then 1 else 0) = if b then 1 else 0 := by cases b <;> decide
theorem ite_b0 {b : Bool} : (w32 (if b = true then 1 else 0) = 0) ↔ b = false := by cases b <;> decide
def sKin (V : Nat → Int) (a b : Int) : Bool := al (fun s => decide (sHeld V a s = sHeld V b s)) (V 1).toNat
def sKO (V : Nat → Int) (a : Int) (n : Nat) : Int := sm (fun b => if sKin V a b then 1 else 0) n
theorem sKO_rng (V : Nat → Int) (a : Int) {n : Nat} (hn : n ≤ 8) : 0 ≤ sKO V a n ∧ sKO V a n ≤ 8 := by
  have := sm_rng (f := fun b : Nat => if sKin V a b then (1 : Int) else 0) (n := n) (lo := 0) (hi := 1) (fun i _ => by split <;> omega)
  unfold sKO
  omega
section KinS
variable {h : AH} {v : Nat} {V : Nat → Int}
theorem c_sameKin (hV : VOK V) (hc : VC h.2 v V) (a b : Int) : f9_sameKin v a b h = some (if sKin V (w32 a) (w32 b) then 1 else 0, h) := by
  have h1 := hV.2.1
  unfold f9_sameKin l9_sameKin_2
  refine fr (fun X => X = some (if sKin V (w32 a) (w32 b) then 1 else 0, h)) (fun (_ : Unit) i => (i, h)) (fun i _ => ∀ j : Nat, j < i → sHeld V (w32 a) j = sHeld V (w32 b) j) 0 (V 1).toNat () (fun j hj => by omega) (by omega) (by omega) (fun i _ _ hi hI rec => ?_) (fun _ hI rec => ?_)
  · have r := sHeld_rng hV (w32 a) (i : Int)
    have r2 := sHeld_rng hV (w32 b) (i : Int)
    unfold b9_sameKin_2
    dsimp only
    rw [hc.2.1, w32_id (x := V 1) (by omega) (by omega), v_held hV hc, bnd_some, v_held hV hc, bnd_some, w32_id (x := (i : Int)) (by omega) (by omega), if_neg (by omega), w32_id (x := sHeld V (w32 a) (i : Int)) (by omega) (by omega), w32_id (x := sHeld V (w32 b) (i : Int)) (by omega) (by omega)]
    by_cases q : sHeld V (w32 a) i = sHeld V (w32 b) i
    · right
      refine ⟨(), fun j hj => ?_, by rw [if_pos q]⟩
      rcases Nat.lt_or_ge j i with w | w
      · exact hI j w
      · rw [show j = i by omega]; exact q
    · left
      have : sKin V (w32 a) (w32 b) = false := al_no (i := i) (by omega) (by simp [q])
      rw [if_neg q, this]
      rfl
  · unfold b9_sameKin_2
    dsimp only
    rw [hc.2.1, w32_id (x := V 1) (by omega) (by omega), w32_id (x := ((V 1).toNat : Int)) (by omega) (by omega), if_pos (by omega)]
    have : sKin V (w32 a) (w32 b) = true := al_iff.mpr (fun i hi => by simp [hI i hi])
    rw [this]; rfl
theorem m_isKin (hV : VOK V) (hm : VM h.2 V) (a b : Int) (ha : 0 ≤ a ∧ a < V 0) (hb : 0 ≤ b ∧ b < V 0) : f11_isKin a b h = some (if sKin V a b then 1 else 0, h) := by
  have h1 := hV.2.1
  have h0 := hV.1
  unfold f11_isKin l11_isKin_5
  refine loop2 (fun i => if al (fun s => decide (sHeld V a s = sHeld V b s)) i then 1 else 0) (V 1).toNat h (fun i hi rec => ?_) (fun rec => ?_) (by omega)
  · have r := sHeld_rng hV a (i : Int)
    have r2 := sHeld_rng hV b (i : Int)
    have e1 : f11_heldOf a (i : Int) h = some (sHeld V a (i : Int), h) := by rw [m_held hm a i (by omega) (by omega), sHeld_in (fun _ => trivial) (by omega)]
    have e2 : f11_heldOf b (i : Int) h = some (sHeld V b (i : Int), h) := by rw [m_held hm b i (by omega) (by omega), sHeld_in (fun _ => trivial) (by omega)]
    unfold b11_isKin_5 b11_isKin_39 b11_isKin_40
    dsimp only
    rw [vm_S hm, w32_id (x := V 1) (by omega) (by omega), w32_id (x := (i : Int)) (by omega) (by omega), if_neg (by omega), e1, bnd_some, e2, bnd_some, w32_id (x := sHeld V a (i : Int)) (by omega) (by omega), w32_id (x := sHeld V b (i : Int)) (by omega) (by omega), ite_b]
    simp only [al]
    by_cases q : al (fun s => decide (sHeld V a s = sHeld V b s)) i = true
    · by_cases q2 : sHeld V a (i : Int) = sHeld V b (i : Int) <;> simp [q, q2]
    · simp [q]
  · unfold b11_isKin_5
    dsimp only
    rw [vm_S hm, w32_id (x := V 1) (by omega) (by omega), w32_id (x := ((V 1).toNat : Int)) (by omega) (by omega), if_pos (by omega), ite_b, asrt_t (by split <;> omega)]
    rfl
theorem c_kinFrom (hV : VOK V) (hc : VC h.2 v V) (a : Int) (n : Nat) (hn : n ≤ 8) : f9_kinFrom v 0 n a h = some (sKO V (w32 a) n, h) := by
  unfold f9_kinFrom l9_kinFrom_6
  refine loopS0 (fun b => if sKin V (w32 a) b then 1 else 0) n h (by omega) (fun i hi x rec => ?_) (fun rec => ?_)
  · unfold b9_kinFrom_6 b9_kinFrom_29
    dsimp only
    rw [w32_id (x := (n : Int)) (by omega) (by omega), c_sameKin hV hc, bnd_some, w32_id (x := (i : Int)) (by omega) (by omega), if_neg (by omega), ite_b, lt_eq, lt_eq]
    cases sKin V (w32 a) i <;> rfl
  · unfold b9_kinFrom_6
    dsimp only
    rw [if_pos (by omega)]
    rfl
theorem c_kins (hV : VOK V) (hc : VC h.2 v V) : f9_kins v h = some (sm (fun p => if sKO V p p = 0 then 1 else 0) (V 0).toNat, h) := by
  have h0 := hV.1
  unfold f9_kins l9_kins_4
  refine loopS0 (fun p => if sKO V p p = 0 then 1 else 0) (V 0).toNat h (by omega) (fun i hi x rec => ?_) (fun rec => ?_)
  · have r := sKO_rng V (i : Int) (n := i) (by omega)
    unfold b9_kins_4 b9_kins_28
    dsimp only
    rw [hc.1, w32_id (x := V 0) (by omega) (by omega), c_kinFrom hV hc _ _ (by omega), bnd_some, w32_id (x := (i : Int)) (by omega) (by omega), if_neg (by omega), w32_id (x := sKO V (i : Int) i) (by omega) (by omega), lt_eq, lt_eq]
    repeat' split
    all_goals first | rfl | omega
  · unfold b9_kins_4
    dsimp only
    rw [hc.1, w32_id (x := V 0) (by omega) (by omega), w32_id (x := ((V 0).toNat : Int)) (by omega) (by omega), if_pos (by omega)]
theorem c_largest (hV : VOK V) (hc : VC h.2 v V) : f9_largestKin v h = some (mxs (fun p => sKO V p (V 0).toNat) (V 0).toNat, h) := by
  have h0 := hV.1
  unfold f9_largestKin l9_largestKin_4
  refine loop2 (fun i => mxs (fun p => sKO V p (V 0).toNat) i) (V 0).toNat h (fun i hi rec => ?_) (fun rec => ?_) (by omega)
  · have r := sKO_rng V (i : Int) (n := (V 0).toNat) (by omega)
    have r2 := mxs_rng (f := fun p : Nat => sKO V p (V 0).toNat) (n := i) (hi := 8) (by omega) (fun j _ => (sKO_rng V (j : Int) (by omega)).2)
    have e : f9_kinFrom v 0 (V 0) (i : Int) h = some (sKO V (i : Int) (V 0).toNat, h) := by
      have := c_kinFrom hV hc (i : Int) (V 0).toNat (by omega)
      rw [w32_id (x := (i : Int)) (by omega) (by omega), show ((V 0).toNat : Int) = V 0 by omega] at this
      exact this
    unfold b9_largestKin_4
    dsimp only
    rw [hc.1, w32_id (x := V 0) (by omega) (by omega), e, bnd_some, w32_id (x := (i : Int)) (by omega) (by omega), if_neg (by omega), lt_eq, max32_s (by omega) (by omega) (by omega) (by omega)]
    rfl
  · unfold b9_largestKin_4
    dsimp only
    rw [hc.1, w32_id (x := V 0) (by omega) (by omega), w32_id (x := ((V 0).toNat : Int)) (by omega) (by omega), if_pos (by omega)]
theorem m_kinOf (hV : VOK V) (hm : VM h.2 V) (a : Int) (ha : 0 ≤ a ∧ a < V 0) (n : Nat) (hn : (n : Int) ≤ V 0) : f11_kinOf a n h = some (sKO V a n, h) := by
  have h0 := hV.1
  unfold f11_kinOf l11_kinOf_5
  refine loopS0 (fun b => if sKin V a b then 1 else 0) n h (by omega) (fun i hi x rec => ?_) (fun rec => ?_)
  · unfold b11_kinOf_5 b11_kinOf_27
    dsimp only
    rw [w32_id (x := (n : Int)) (by omega) (by omega), m_isKin hV hm a i ha (by omega), bnd_some, w32_id (x := (i : Int)) (by omega) (by omega), if_neg (by omega), ite_b, lt_eq, lt_eq]
    cases sKin V a i <;> rfl
  · unfold b11_kinOf_5
    dsimp only
    rw [if_pos (by omega)]
    rfl
end KinS
/-! threes -/
def bcv (x : Int) : Int := and32 ((fun u5 : Int => u5 + ush32 u5 16) ((fun u4 : Int => u4 + ush32 u4 8) (and32 ((fun u2 : Int => u2 + ush32 u2 4) ((fun u1 : Int => and32 u1 858993459 + and32 (ush32 u1 2) 858993459) (x - and32 (ush32 x 1) 1431655765))) 252645135))) 63
theorem bc_eq (x : Int) (h : AH) : f13_bitCount x h = some (bcv x, h) := rfl
theorem bc8 : ∀ x : Nat, x < 256 → bcv x = sm (fun i => if x.testBit i then 1 else 0) 8 := by decide +kernel
def sT3 (V : Nat → Int) (a b : Nat) : Int := sm (fun j => if sAp V a (b + 1 + j : Nat) && sAp V b (b + 1 + j : Nat) then 1 else 0) ((V 0).toNat - (b + 1))
def sTri (V : Nat → Int) : Int := sm (fun a => sm (fun j => if sAp V a (a + 1 + j : Nat) then sT3 V a (a + 1 + j) else 0) ((V 0).toNat - (a + 1))) (V 0).toNat
theorem sAp_out {V : Nat → Int} (hV : VOK V) {a c : Int} (h : V 0 ≤ c) : sAp V a c = false := by
  cases q : sAp V a c
  · rfl
  · obtain ⟨s, h1, h2⟩ := (sAp_iff hV).mp q
    rw [sGap_no (by omega)] at h2
    omega
theorem sm_more {f : Nat → Int} {m n : Nat} (hmn : m ≤ n) (hz : ∀ i, m ≤ i → i < n → f i = 0) : sm f n = sm f m := by
  obtain ⟨k, rfl⟩ : ∃ k, n = m + k := ⟨n - m, by omega⟩
  rw [← sm_shift, sm_zero (fun i hi => hz (m + i) (by omega) (by omega)), Int.zero_add]
theorem c_trios {h : AH} {V : Nat → Int} (hV : VOK V) (hp : h.2 62 4 = V 0) (hg : ∀ a : Nat, (a : Int) < V 0 → h.2 65 a = ((bs (fun b => sAp V a b) (V 0).toNat : Nat) : Int)) : f0_trios h = some (sTri V, h) := by
  have h0 := hV.1
  unfold f0_trios l0_trios_4
  refine loopS0 (fun a => sm (fun j => if sAp V a (a + 1 + j : Nat) then sT3 V a (a + 1 + j) else 0) ((V 0).toNat - (a + 1))) (V 0).toNat h (by omega) (fun a ha x rec => ?_) (fun rec => ?_)
  · unfold b0_trios_4 l0_trios_16
    dsimp only
    rw [hp, w32_id (x := V 0) (by omega) (by omega), w32_id (x := (a : Int)) (by omega) (by omega), if_neg (by omega), lt_eq]
    refine loopS (fun b => if sAp V a (b : Nat) then sT3 V a b else 0) x (a + 1) (V 0).toNat h (by omega) (by omega) (fun b hb1 hb x rec2 => ?_) (fun rec2 => ?_)
    · have l1 := bs_lt31 (fun b => sAp V a b) (n := (V 0).toNat) (by omega)
      have l2 := bs_lt31 (fun c => sAp V b c) (n := (V 0).toNat) (by omega)
      have l3 := bs_lt (fun b => sAp V a b) (V 0).toNat
      have l4 : 2 ^ (V 0).toNat ≤ 2 ^ 8 := Nat.pow_le_pow_right (by omega) (by omega)
      unfold b0_trios_16 b0_trios_60
      dsimp only
      rw [hp, w32_id (x := V 0) (by omega) (by omega), w32_id (x := (a : Int)) (by omega) (by omega), w32_id (x := (b : Int)) (by omega) (by omega), if_neg (by omega), asrt_t (by omega), asrt_t (by omega), asrt_t (by omega), Int.toNat_natCast, Int.toNat_natCast, hg a (by omega), hg b (by omega), bc_eq, bnd_some, lt_eq]
      simp only [bit_a l1 (show b < 31 by omega), bs_tb, show b < (V 0).toNat from hb, decide_true, Bool.true_and]
      have l5 : bs (fun b => sAp V a b) (V 0).toNat &&& bs (fun c => sAp V b c) (V 0).toNat < 256 := Nat.lt_of_le_of_lt Nat.and_le_left (by omega)
      rw [and32_nat l1 l2, show (b : Int) + 1 = ((b + 1 : Nat) : Int) from rfl, ush32_nat (by omega) (by omega), bc8 _ (Nat.lt_of_le_of_lt (Nat.shiftRight_le _ _) l5)]
      cases q : sAp V a b
      · simp
      · rw [if_neg (by decide), if_pos rfl]
        congr 2
        congr 1
        unfold sT3
        rw [← sm_more (m := (V 0).toNat - (b + 1)) (n := 8) (by omega)]
        · apply sm_cong
          intro i hi
          simp only [Nat.testBit_shiftRight, Nat.testBit_and, bs_tb]
          by_cases w : b + 1 + i < (V 0).toNat
          · simp [w]
          · have o1 := sAp_out hV (a := (a : Int)) (c := ((b + 1 + i : Nat) : Int)) (by omega)
            simp only [w, o1, decide_false, Bool.false_and]
        · intro i i1 i2
          have o1 := sAp_out hV (a := (a : Int)) (c := ((b + 1 + i : Nat) : Int)) (by omega)
          simp only [o1, Bool.false_and]
          rfl
    · unfold b0_trios_16
      dsimp only
      rw [hp, w32_id (x := V 0) (by omega) (by omega), w32_id (x := ((V 0).toNat : Int)) (by omega) (by omega), if_pos (by omega)]
  · unfold b0_trios_4
    dsimp only
    rw [hp, w32_id (x := V 0) (by omega) (by omega), w32_id (x := ((V 0).toNat : Int)) (by omega) (by omega), if_pos (by omega)]
    rfl
theorem m_trios {h : AH} {V : Nat → Int} (hV : VOK V) (hm : VM h.2 V) : f11_triosOf h = some (sTri V, h) := by
  have h0 := hV.1
  unfold f11_triosOf l11_triosOf_4
  refine loopS0 (fun a => sm (fun j => if sAp V a (a + 1 + j : Nat) then sT3 V a (a + 1 + j) else 0) ((V 0).toNat - (a + 1))) (V 0).toNat h (by omega) (fun a ha x rec => ?_) (fun rec => ?_)
  · unfold b11_triosOf_4 l11_triosOf_16
    dsimp only
    rw [vm_P hm, w32_id (x := V 0) (by omega) (by omega), w32_id (x := (a : Int)) (by omega) (by omega), if_neg (by omega), lt_eq]
    refine loopS (fun b => if sAp V a (b : Nat) then sT3 V a b else 0) x (a + 1) (V 0).toNat h (by omega) (by omega) (fun b hb1 hb x rec2 => ?_) (fun rec2 => ?_)
    · unfold b11_triosOf_16 l11_triosOf_29
      dsimp only
      rw [vm_P hm, w32_id (x := V 0) (by omega) (by omega), w32_id (x := (b : Int)) (by omega) (by omega), if_neg (by omega), lt_eq]
      refine loopS (fun c => if sAp V a b && (sAp V a c && sAp V b c) then 1 else 0) x (b + 1) (V 0).toNat h (by omega) (by omega) (fun c hc1 hc x rec3 => ?_) (fun rec3 => ?_)
      · unfold b11_triosOf_29 b11_triosOf_72 b11_triosOf_73
        dsimp only
        rw [vm_P hm, w32_id (x := V 0) (by omega) (by omega), w32_id (x := (c : Int)) (by omega) (by omega), if_neg (by omega), m_isAp hV hm a b (by omega) (by omega), bnd_some, m_isAp hV hm a c (by omega) (by omega), bnd_some, m_isAp hV hm b c (by omega) (by omega), bnd_some]
        cases sAp V a b <;> cases sAp V a c <;> cases sAp V b c <;> rfl
      · unfold b11_triosOf_29
        dsimp only
        rw [vm_P hm, w32_id (x := V 0) (by omega) (by omega), w32_id (x := ((V 0).toNat : Int)) (by omega) (by omega), if_pos (by omega)]
        cases q : sAp V a b
        · simp only [Bool.false_and]
          rw [sm_zero (f := fun j => if false = true then 1 else 0) (fun i hi => rfl)]
          rfl
        · simp only [Bool.true_and]
          rfl
    · unfold b11_triosOf_16
      dsimp only
      rw [vm_P hm, w32_id (x := V 0) (by omega) (by omega), w32_id (x := ((V 0).toNat : Int)) (by omega) (by omega), if_pos (by omega)]
  · unfold b11_triosOf_4
    dsimp only
    rw [vm_P hm, w32_id (x := V 0) (by omega) (by omega), w32_id (x := ((V 0).toNat : Int)) (by omega) (by omega), if_pos (by omega)]
    rfl
/-! quiet -/
def sQui (V : Nat → Int) : Nat := bs (fun a => al (fun b => !sAp V a b) (V 0).toNat) (V 0).toNat
theorem c_alone {h : AH} {V : Nat → Int} (hV : VOK V) (hp : h.2 62 4 = V 0) (hg : ∀ a : Nat, (a : Int) < V 0 → h.2 65 a = ((bs (fun b => sAp V a b) (V 0).toNat : Nat) : Int)) : f0_alone h = some ((sQui V : Int), h) := by
  have h0 := hV.1
  unfold f0_alone l0_alone_4
  refine loop2 (fun i => ((bs (fun a => al (fun b => !sAp V a b) (V 0).toNat) i : Nat) : Int)) (V 0).toNat h (fun i hi rec => ?_) (fun rec => ?_) (by omega)
  · have l1 := bs_lt31 (fun b => sAp V i b) (n := (V 0).toNat) (by omega)
    unfold b0_alone_4 b0_alone_29
    dsimp only
    rw [hp, w32_id (x := V 0) (by omega) (by omega), w32_id (x := (i : Int)) (by omega) (by omega), if_neg (by omega), asrt_t (by omega), Int.toNat_natCast, hg i (by omega), w32_id (x := ((bs (fun b => sAp V i b) (V 0).toNat : Nat) : Int)) (by omega) (by omega), lt_eq, lt_eq]
    cases q : al (fun b => !sAp V i b) (V 0).toNat
    · rw [or_bs0 (f := fun a => al (fun b => !sAp V a b) (V 0).toNat) (by omega) q, if_pos]
      intro q2
      have q3 := bs_z.mp (show bs (fun b => sAp V i b) (V 0).toNat = 0 by omega)
      rw [al_iff.mpr (fun j hj => by rw [q3 j hj]; rfl)] at q
      cases q
    · rw [or_bs1 (f := fun a => al (fun b => !sAp V a b) (V 0).toNat) (by omega) q, if_neg]
      have : bs (fun b => sAp V i b) (V 0).toNat = 0 := bs_z.mpr (fun j hj => by have := al_iff.mp q j hj; simpa using this)
      omega
  · unfold b0_alone_4
    dsimp only
    rw [hp, w32_id (x := V 0) (by omega) (by omega), w32_id (x := ((V 0).toNat : Int)) (by omega) (by omega), if_pos (by omega)]
    rfl
theorem m_quiet {h : AH} {V : Nat → Int} (hV : VOK V) (hm : VM h.2 V) : l11_quiet_14 0 0 h = some ((sQui V : Int), h) := by
  have h0 := hV.1
  unfold l11_quiet_14
  refine loop2 (fun i => ((bs (fun a => al (fun b => !sAp V a b) (V 0).toNat) i : Nat) : Int)) (V 0).toNat h (fun i hi rec => ?_) (fun rec => ?_) (by omega)
  · unfold b11_quiet_14 l11_quiet_28
    dsimp only
    rw [vm_P hm, w32_id (x := V 0) (by omega) (by omega), w32_id (x := (i : Int)) (by omega) (by omega), if_neg (by omega)]
    refine loop2 (fun j => if al (fun b => !sAp V i b) j then 1 else 0) (V 0).toNat h (fun j hj rec2 => ?_) (fun rec2 => ?_) (by omega)
    · unfold b11_quiet_28 b11_quiet_56 b11_quiet_57
      dsimp only
      rw [vm_P hm, w32_id (x := V 0) (by omega) (by omega), w32_id (x := (j : Int)) (by omega) (by omega), if_neg (by omega), m_isAp hV hm i j (by omega) (by omega), bnd_some, ite_b, ite_b]
      simp only [al]
      by_cases q : al (fun b => !sAp V i b) j = true <;> by_cases q2 : sAp V i j = true <;> simp [q, q2]
    · unfold b11_quiet_28 b11_quiet_78
      dsimp only
      rw [vm_P hm, w32_id (x := V 0) (by omega) (by omega), w32_id (x := ((V 0).toNat : Int)) (by omega) (by omega), if_pos (by omega), ite_b, lt_eq, lt_eq]
      cases q : al (fun b => !sAp V i b) (V 0).toNat
      · rw [or_bs0 (f := fun a => al (fun b => !sAp V a b) (V 0).toNat) (by omega) q]; rfl
      · rw [or_bs1 (f := fun a => al (fun b => !sAp V a b) (V 0).toNat) (by omega) q]; rfl
  · unfold b11_quiet_14
    dsimp only
    rw [vm_P hm, w32_id (x := V 0) (by omega) (by omega), w32_id (x := ((V 0).toNat : Int)) (by omega) (by omega), if_pos (by omega)]
    rfl
theorem q_quiet {x1 : Int} (hx1 : Rg x1) : Agr (f10_quiet x1) (f11_quiet x1) := by
  refine agr_v hx1 (fun h e => ⟨-1, ?_, fun e2 => ?_⟩) (fun h v V hV hc h7 h17 e => ?_)
  · unfold f10_quiet
    simp (disch := omega) only [w32_id, w32_0, w32_1, w32_m, if_pos, if_neg, bnd_some, lt_eq, asrt_t, ite10_0, ite10_or, e]
  · unfold f11_quiet
    rw [e2, bnd_some, ite_nw0]
  · obtain ⟨h1, k1, k2, k3, k4⟩ := c_gatherCh hV hc (by omega)
    refine ⟨(sQui V : Int), h1, ?_, k2.pk (fun a k q => by omega), fun hs e1 hm => ⟨hs, ?_, PK.rf hs⟩⟩
    · unfold f10_quiet
      rw [e, bnd_some, if_neg (by omega), Int.toNat_natCast, k1, bnd_some, c_alone hV k3 k4, bnd_some]
    · unfold f11_quiet
      rw [e1, bnd_some, ite_nw1, m_quiet hV hm]
