/-! married: the most heat of couples -/
def rmv (S : Nat → Bool) (x : Nat) : Nat → Bool := fun i => S i && decide (i ≠ x)
def vld : List (Nat × Nat) → (Nat → Bool) → Prop
  | [], _ => True
  | (x, y) :: l, S => S x = true ∧ S y = true ∧ x ≠ y ∧ vld l (rmv (rmv S x) y)
def wt (w : Nat → Nat → Int) : List (Nat × Nat) → Int
  | [] => 0
  | (x, y) :: l => w x y + wt w l
def IsM (w : Nat → Nat → Int) (S : Nat → Bool) (v : Int) : Prop := (∃ l, vld l S ∧ wt w l = v) ∧ ∀ l, vld l S → wt w l ≤ v
theorem IsM.uq {w : Nat → Nat → Int} {S : Nat → Bool} {v u : Int} (h1 : IsM w S v) (h2 : IsM w S u) : v = u := by
  obtain ⟨⟨l, a1, a2⟩, a3⟩ := h1
  obtain ⟨⟨k, b1, b2⟩, b3⟩ := h2
  have := a3 k b1
  have := b3 l a1
  omega
theorem rmv_in {S : Nat → Bool} {x i : Nat} (h : rmv S x i = true) : S i = true ∧ i ≠ x := by
  unfold rmv at h
  simp at h
  exact h
theorem rmv_mk {S : Nat → Bool} {x i : Nat} (h : S i = true) (hx : i ≠ x) : rmv S x i = true := by
  unfold rmv
  rw [h, decide_eq_true hx]
  rfl
theorem rmv_comm (S : Nat → Bool) (x y : Nat) : rmv (rmv S x) y = rmv (rmv S y) x := by
  funext i
  unfold rmv
  rw [Bool.and_assoc, Bool.and_comm (decide (i ≠ x)), ← Bool.and_assoc]
theorem vld_up {l : List (Nat × Nat)} : ∀ {S T : Nat → Bool}, (∀ i, S i = true → T i = true) → vld l S → vld l T := by
  induction l with
  | nil => intro S T _ _; exact trivial
  | cons p l ih =>
    intro S T h hv
    obtain ⟨x, y⟩ := p
    obtain ⟨h1, h2, h3, h4⟩ := hv
    exact ⟨h x h1, h y h2, h3, ih (fun i hi => by
      obtain ⟨q1, q2⟩ := rmv_in hi
      obtain ⟨q3, q4⟩ := rmv_in q1
      exact rmv_mk (rmv_mk (h i q3) q4) q2) h4⟩
theorem vld_ex {w : Nat → Nat → Int} (hw : ∀ a b, w a b = w b a) (x : Nat) {l : List (Nat × Nat)} : ∀ {S : Nat → Bool}, vld l S → vld l (rmv S x) ∨ ∃ y k, S y = true ∧ y ≠ x ∧ vld k (rmv (rmv S x) y) ∧ wt w l = w x y + wt w k := by
  induction l with
  | nil => intro S _; exact Or.inl trivial
  | cons p l ih =>
    intro S hv
    obtain ⟨a, b⟩ := p
    obtain ⟨h1, h2, h3, h4⟩ := hv
    by_cases e1 : a = x
    · subst e1
      exact Or.inr ⟨b, l, h2, fun z => h3 z.symm, h4, rfl⟩
    by_cases e2 : b = x
    · subst e2
      refine Or.inr ⟨a, l, h1, h3, ?_, ?_⟩
      · rw [rmv_comm]; exact h4
      · show w a b + wt w l = _
        rw [hw]
    rcases ih h4 with q | ⟨y, k, q1, q2, q3, q4⟩
    · left
      refine ⟨rmv_mk h1 e1, rmv_mk h2 e2, h3, ?_⟩
      rw [rmv_comm S x a, rmv_comm (rmv S a) x b]
      exact q
    · right
      obtain ⟨r1, r2⟩ := rmv_in q1
      obtain ⟨r3, r4⟩ := rmv_in r1
      refine ⟨y, (a, b) :: k, r3, q2, ⟨rmv_mk (rmv_mk h1 e1) (fun z => r4 z.symm), rmv_mk (rmv_mk h2 e2) (fun z => r2 z.symm), h3, ?_⟩, ?_⟩
      · have e : rmv (rmv (rmv (rmv S x) y) a) b = rmv (rmv (rmv (rmv S a) b) x) y := by
          rw [rmv_comm (rmv S x) y a, rmv_comm S x a, rmv_comm (rmv (rmv S a) x) y b, rmv_comm (rmv S a) x b]
        rw [e]; exact q3
      · show w a b + wt w l = w x y + (w a b + wt w k)
        omega
/-- the one x is left out, or goes with one of the others -/
theorem IsM_mk {w : Nat → Nat → Int} (hw : ∀ a b, w a b = w b a) {S : Nat → Bool} {x : Nat} {v : Int} (h1 : ∃ l, vld l S ∧ wt w l = v) (h2 : ∀ l, vld l (rmv S x) → wt w l ≤ v) (h3 : ∀ y, S y = true → y ≠ x → ∀ l, vld l (rmv (rmv S x) y) → w x y + wt w l ≤ v) : IsM w S v := by
  refine ⟨h1, fun l hl => ?_⟩
  rcases vld_ex hw x hl with q | ⟨y, k, q1, q2, q3, q4⟩
  · exact h2 l q
  · rw [q4]; exact h3 y q1 q2 k q3
theorem IsM_0 {w : Nat → Nat → Int} {S : Nat → Bool} (h : ∀ i, S i = false) : IsM w S 0 := by
  refine ⟨⟨[], trivial, rfl⟩, fun l hl => ?_⟩
  cases l with
  | nil => exact Int.le_refl _
  | cons p l =>
    obtain ⟨x, y⟩ := p
    have h1 : S x = true := hl.1
    rw [h x] at h1
    exact absurd h1 (by decide)
section Most
variable {V : Nat → Int} {h : AH}
def wB (V : Nat → Int) (a b : Nat) : Int := sBOA V a b
theorem wB_s (V : Nat → Int) (a b : Nat) : wB V a b = wB V b a := sBOA_comm V a b
def sC (n a T : Nat) : Nat → Bool := fun i => decide (a ≤ i) && decide (i < n) && !T.testBit i
theorem sC_1 {n a T : Nat} : rmv (sC n a T) a = sC n (a + 1) T := by
  funext i
  unfold rmv sC
  by_cases z : i = a
  · rw [decide_eq_false (show ¬ i ≠ a by omega), Bool.and_false, decide_eq_false (show ¬ a + 1 ≤ i by omega)]; rfl
  · rw [decide_eq_true (show i ≠ a by omega), Bool.and_true]
    by_cases y : a ≤ i
    · rw [decide_eq_true y, decide_eq_true (show a + 1 ≤ i by omega)]
    · rw [decide_eq_false y, decide_eq_false (show ¬ a + 1 ≤ i by omega)]
theorem sC_2 {n a T y : Nat} : rmv (sC n a T) y = sC n a (T ||| 2 ^ y) := by
  funext i
  unfold rmv sC
  rw [Nat.testBit_or, Nat.testBit_two_pow]
  by_cases z : i = y
  · rw [decide_eq_false (show ¬ i ≠ y by omega), Bool.and_false, decide_eq_true (show y = i by omega), Bool.or_true]; simp
  · rw [decide_eq_true (show i ≠ y by omega), Bool.and_true, decide_eq_false (show ¬ y = i by omega), Bool.or_false]
theorem sC_3 {n a T : Nat} (h : T.testBit a = true) : sC n a T = sC n (a + 1) T := by
  funext i
  unfold sC
  by_cases z : i = a
  · subst z; rw [h]; simp
  · by_cases y : a ≤ i
    · rw [decide_eq_true y, decide_eq_true (show a + 1 ≤ i by omega)]
    · rw [decide_eq_false y, decide_eq_false (show ¬ a + 1 ≤ i by omega)]
theorem c_mostFrom (hV : VOK V) (hT : TB h V (fun a b => sBOA V a b)) (m : Nat) : ∀ (fuel a T : Nat), m + 1 ≤ fuel → a + m = (V 0).toNat → T < 256 → ∃ v : Int, f1_mostFrom fuel a T h = some (v, h) ∧ (0 ≤ v ∧ v ≤ 4374 * m) ∧ IsM (wB V) (sC (V 0).toNat a T) v := by
  have v0 := hV.1
  induction m with
  | zero =>
    intro fuel a T hf ha hT2
    obtain ⟨f, rfl⟩ : ∃ f, fuel = f + 1 := ⟨fuel - 1, by omega⟩
    refine ⟨0, ?_, by omega, IsM_0 (fun i => ?_)⟩
    · show e1_mostFrom (f1_mostFrom f) a T h = _
      unfold e1_mostFrom
      rw [hT.1, w32_id (x := V 0) (by omega) (by omega), w32_id (x := (a : Int)) (by omega) (by omega), if_neg (by omega)]
    · unfold sC
      by_cases y : a ≤ i
      · rw [decide_eq_false (show ¬ i < (V 0).toNat by omega), Bool.and_false]; rfl
      · rw [decide_eq_false y]; rfl
  | succ m ih =>
    intro fuel a T hf ha hT2
    obtain ⟨f, rfl⟩ : ∃ f, fuel = f + 1 := ⟨fuel - 1, by omega⟩
    obtain ⟨v, b1, b2, b3⟩ := ih f (a + 1) T (by omega) (by omega) hT2
    show ∃ v, e1_mostFrom (f1_mostFrom f) a T h = some (v, h) ∧ _
    unfold e1_mostFrom
    rw [hT.1, w32_id (x := V 0) (by omega) (by omega), w32_id (x := (a : Int)) (by omega) (by omega), if_pos (by omega), show (a : Int) + 1 = ((a + 1 : Nat) : Int) from rfl, b1, bnd_some]
    cases q : T.testBit a
    · rw [if_pos ((bit_a (by omega) (by omega)).mpr q), lt_eq]
      unfold l1_mostFrom_34
      have Sa : sC (V 0).toNat a T a = true := by
        unfold sC
        rw [decide_eq_true (Nat.le_refl a), decide_eq_true (show a < (V 0).toNat by omega), q]; rfl
      refine fr (fun X => ∃ v : Int, X = some (v, h) ∧ (0 ≤ v ∧ v ≤ 4374 * ((m + 1 : Nat) : Int)) ∧ IsM (wB V) (sC (V 0).toNat a T) v) (fun (z : Int) i => (z, i, h)) (fun b z => (0 ≤ z ∧ z ≤ 4374 * ((m + 1 : Nat) : Int)) ∧ (∃ l, vld l (sC (V 0).toNat a T) ∧ wt (wB V) l = z) ∧ (∀ l, vld l (rmv (sC (V 0).toNat a T) a) → wt (wB V) l ≤ z) ∧ ∀ y, y < b → sC (V 0).toNat a T y = true → y ≠ a → ∀ l, vld l (rmv (rmv (sC (V 0).toNat a T) a) y) → wB V a y + wt (wB V) l ≤ z) (a + 1) (V 0).toNat v ⟨by omega, ?_, ?_, fun y y1 y2 y3 => ?_⟩ (by omega) (by omega) (fun b z hb1 hb hI rec => ?_) (fun z hI rec => ?_)
      · obtain ⟨l, l1, l2⟩ := b3.1
        refine ⟨l, vld_up (fun i hi => ?_) l1, l2⟩
        rw [← sC_1] at hi
        exact (rmv_in hi).1
      · intro l hl
        rw [sC_1] at hl
        exact b3.2 l hl
      · unfold sC at y2
        simp at y2
        omega
      · right
        obtain ⟨i1, i2, i3, i4⟩ := hI
        have r := sBOA_rng hV a b
        unfold b1_mostFrom_34 b1_mostFrom_87
        dsimp only
        rw [hT.1, w32_id (x := V 0) (by omega) (by omega), w32_id (x := (b : Int)) (by omega) (by omega), if_neg (by omega)]
        cases qb : T.testBit b
        · obtain ⟨u, c1, c2, c3⟩ := ih f (a + 1) (T ||| 2 ^ b) (by omega) (by omega) (or_lt256 hT2 (pow_lt256 (by omega)))
          have Sb : sC (V 0).toNat a T b = true := by
            unfold sC
            rw [decide_eq_true (show a ≤ b by omega), decide_eq_true hb, qb]; rfl
          have es : rmv (rmv (sC (V 0).toNat a T) a) b = sC (V 0).toNat (a + 1) (T ||| 2 ^ b) := by rw [sC_1, sC_2]
          rw [if_neg (fun y => y ((bit_a (by omega) (by omega)).mpr qb)), w32_id (x := ((a : Int) * 8 + b)) (by omega) (by omega), asrt_t (by omega), shl32_1 (by omega), or32_nat (by omega) (pow_lt31 (by omega)), show (a : Int) + 1 = ((a + 1 : Nat) : Int) from rfl, c1, bnd_some, show ((a : Int) * 8 + b).toNat = 8 * a + b by omega, show h.2 52 (8 * a + b) = sBOA V a b from hT.2 a b (by omega) (by omega) (by omega), lt_eq, lt_eq, max32_s (by omega) (by omega) (by omega) (by omega)]
          have wab : wB V a b = sBOA V a b := rfl
          refine ⟨_, ⟨?_, ?_, fun l hl => ?_, fun y y1 y2 y3 l hl => ?_⟩, rfl⟩
          · split <;> omega
          · by_cases g : z < sBOA V a b + u
            · rw [if_pos g]
              obtain ⟨l, l1, l2⟩ := c3.1
              refine ⟨(a, b) :: l, ⟨Sa, Sb, by omega, by rw [es]; exact l1⟩, ?_⟩
              show wB V a b + wt (wB V) l = _
              rw [l2, wab]
            · rw [if_neg g]; exact i2
          · have := i3 l hl
            split <;> omega
          · rcases Nat.lt_or_ge y b with g | g
            · have := i4 y g y2 y3 l hl
              split <;> omega
            · have e : y = b := by omega
              subst e
              rw [es] at hl
              have := c3.2 l hl
              rw [wab]
              split <;> omega
        · rw [if_pos (fun y => by rw [(bit_a (by omega) (by omega)).mp y] at qb; exact absurd qb (by decide))]
          refine ⟨z, ⟨i1, i2, i3, fun y y1 y2 y3 => ?_⟩, rfl⟩
          rcases Nat.lt_or_ge y b with g | g
          · exact i4 y g y2 y3
          · have e : y = b := by omega
            subst e
            unfold sC at y2
            rw [qb] at y2
            simp at y2
      · obtain ⟨i1, i2, i3, i4⟩ := hI
        refine ⟨z, ?_, i1, IsM_mk (wB_s V) i2 i3 (fun y y1 y2 => i4 y ?_ y1 y2)⟩
        · unfold b1_mostFrom_34
          dsimp only
          rw [hT.1, w32_id (x := V 0) (by omega) (by omega), w32_id (x := ((V 0).toNat : Int)) (by omega) (by omega), if_pos (by omega)]
        · unfold sC at y1
          simp at y1
          omega
    · rw [if_neg (fun y => by rw [(bit_a (by omega) (by omega)).mp y] at q; exact absurd q (by decide))]
      exact ⟨v, rfl, by omega, by rw [sC_3 q]; exact b3⟩
def sT (T : Nat) : Nat → Bool := fun i => T.testBit i
theorem xor_tb {T k : Nat} (i : Nat) (h : T.testBit k = true) : (T ^^^ 2 ^ k).testBit i = (T.testBit i && decide (i ≠ k)) := by
  rw [Nat.testBit_xor, Nat.testBit_two_pow]
  by_cases z : i = k
  · subst z
    rw [h, decide_eq_true rfl, decide_eq_false (show ¬ i ≠ i from fun y => y rfl)]; rfl
  · rw [decide_eq_false (show ¬ k = i by omega), decide_eq_true (show i ≠ k by omega)]; simp
theorem sT_1 {T k : Nat} (h : T.testBit k = true) : rmv (sT T) k = sT (T ^^^ 2 ^ k) := by
  funext i
  unfold rmv sT
  rw [xor_tb i h]
theorem xor_lt {T k : Nat} (h : T.testBit k = true) : T ^^^ 2 ^ k < T := by
  have h1 : (T ^^^ 2 ^ k).testBit k = false := by rw [xor_tb k h, decide_eq_false (show ¬ k ≠ k from fun y => y rfl), Bool.and_false]
  have h2 : (T ^^^ 2 ^ k) ||| 2 ^ k = T := by
    apply Nat.eq_of_testBit_eq
    intro i
    rw [Nat.testBit_or, xor_tb i h, Nat.testBit_two_pow]
    by_cases z : i = k
    · subst z; rw [h, decide_eq_true rfl]; simp
    · rw [decide_eq_true (show i ≠ k by omega), decide_eq_false (show ¬ k = i by omega)]; simp
  have := or_pow h1
  omega
def kMo (a _k : Nat) : Prop := a = 79
theorem VM.mo {w : AH} (hm : VM h.2 V) (k : Ky kMo h w) : VM w.2 V := k.vm (fun k _ _ => by unfold kMo; omega) (fun k => by unfold kMo; omega) hm
/-- the most of all sets below T are known -/
def MO (V : Nat → Int) (h : AH) (T : Nat) : Prop := ∀ R, R < T → (0 ≤ h.2 79 R ∧ h.2 79 R ≤ 4374 * R) ∧ IsM (wB V) (sT R) (h.2 79 R)
theorem m_set (hV : VOK V) (hm : VM h.2 V) {T : Nat} (hT0 : 0 < T) (hT : T < 2 ^ (V 0).toNat) (hM : MO V h T) (rec9 : Int × AH → Option (Int × AH)) : ∃ h1, l11_mostTogether_22 rec9 T 7 h = rec9 ((T : Int) + 1, h1) ∧ Ky kMo h h1 ∧ MO V h1 (T + 1) := by
  have v0 := hV.1
  have pn := pow_n hV
  unfold l11_mostTogether_22
  refine wh (fun m (z : Int × AH) => z.1 = (m : Int) ∧ z.2 = h ∧ m ≤ 7 ∧ ∀ j, m < j → T.testBit j = false) (fun X => ∃ h1, X = rec9 ((T : Int) + 1, h1) ∧ Ky kMo h h1 ∧ MO V h1 (T + 1)) (fun k z hp rec => ?_) FU 7 (7, h) ⟨rfl, rfl, by omega, fun j hj => Nat.testBit_lt_two_pow (Nat.lt_of_lt_of_le (show T < 2 ^ 8 by omega) (Nat.pow_le_pow_right (by omega) (show 8 ≤ j by omega)))⟩ (FU_big (by omega))
  obtain ⟨z1, z⟩ := z
  obtain ⟨p1, p2, p3, p4⟩ := hp
  simp only at p1 p2
  subst p1
  subst p2
  unfold b11_mostTogether_22
  dsimp only
  rw [bit_s (by omega) (by omega), ite_b]
  cases q : T.testBit k
  · right
    rw [if_neg (by decide)]
    have k0 : k ≠ 0 := fun e => by
      subst e
      have : T = 0 := Nat.eq_of_testBit_eq (fun i => by
        rw [Nat.zero_testBit]
        rcases Nat.eq_zero_or_pos i with e | e
        · rw [e]; exact q
        · exact p4 i e)
      omega
    refine ⟨k - 1, ((k : Int) + (-1), z), by omega, ⟨by simp only; omega, rfl, by omega, fun j hj => ?_⟩, rfl⟩
    rcases Nat.lt_or_ge k j with e | e
    · exact p4 j e
    · rw [show j = k by omega]; exact q
  · left
    have kn : k < (V 0).toNat := by
      rcases Nat.lt_or_ge k (V 0).toNat with e | e
      · exact e
      · rw [Nat.testBit_lt_two_pow (Nat.lt_of_lt_of_le hT (Nat.pow_le_pow_right (by omega) e))] at q
        exact absurd q (by decide)
    have xl := xor_lt q
    have hr := hM (T ^^^ 2 ^ k) xl
    have e1 := sT_1 q
    rw [if_pos (by decide), shl32_1 (by omega), xor32_nat (by omega) (pow_lt31 (by omega)), lt_eq, w32_id (x := ((T ^^^ 2 ^ k : Nat) : Int)) (by omega) (by omega), w32_id (x := (T : Int)) (by omega) (by omega), asrt_t (by omega), asrt_t (by omega), lt_eq, Int.toNat_natCast, Int.toNat_natCast]
    unfold l11_mostTogether_57
    refine fr (fun X => ∃ h1, X = rec9 ((T : Int) + 1, h1) ∧ Ky kMo z h1 ∧ MO V h1 (T + 1)) (fun (s : AH) i => (i, s)) (fun a u => Ky kMo z u ∧ (∀ R, R < T → u.2 79 R = z.2 79 R) ∧ (0 ≤ u.2 79 T ∧ u.2 79 T ≤ 4374 * T) ∧ (∃ l, vld l (sT T) ∧ wt (wB V) l = u.2 79 T) ∧ (∀ l, vld l (rmv (sT T) k) → wt (wB V) l ≤ u.2 79 T) ∧ ∀ y, y < a → sT T y = true → y ≠ k → ∀ l, vld l (rmv (rmv (sT T) k) y) → wB V k y + wt (wB V) l ≤ u.2 79 T) 0 k (wr z 79 T (z.2 79 (T ^^^ 2 ^ k))) ⟨Ky.w1 rfl, fun R hR => wr_e (by omega), by rw [wr_at]; omega, ?_, ?_, fun y y1 => by omega⟩ (by omega) (by omega) (fun a u _ ha hI rec2 => ?_) (fun u hI rec2 => ?_)
    · rw [wr_at]
      obtain ⟨l, l1, l2⟩ := hr.2.1
      refine ⟨l, vld_up (fun i hi => ?_) l1, l2⟩
      rw [← e1] at hi
      exact (rmv_in hi).1
    · intro l hl
      rw [e1] at hl
      rw [wr_at]
      exact hr.2.2 l hl
    · right
      obtain ⟨i1, i2, i3, i4, i5, i6⟩ := hI
      have r := sBOA_rng hV a k
      have hm2 := hm.mo i1
      have tb : (T ^^^ 2 ^ k).testBit a = T.testBit a := by rw [xor_tb a q, decide_eq_true (show a ≠ k by omega), Bool.and_true]
      unfold b11_mostTogether_57 b11_mostTogether_126
      dsimp only
      rw [w32_id (x := (k : Int)) (by omega) (by omega), w32_id (x := (a : Int)) (by omega) (by omega), if_neg (by omega), bit_s (by omega) (by omega), tb, ite_b]
      cases qa : T.testBit a
      · rw [if_pos (by decide)]
        refine ⟨u, ⟨i1, i2, i3, i4, i5, fun y y1 y2 y3 => ?_⟩, rfl⟩
        rcases Nat.lt_or_ge y a with g | g
        · exact i6 y g y2 y3
        · have e : y = a := by omega
          subst e
          unfold sT at y2
          rw [qa] at y2
          exact absurd y2 (by decide)
      · have tb2 : (T ^^^ 2 ^ k).testBit a = true := by rw [tb]; exact qa
        have xl2 := xor_lt tb2
        have hr2 := hM (T ^^^ 2 ^ k ^^^ 2 ^ a) (by omega)
        have es : rmv (rmv (sT T) k) a = sT (T ^^^ 2 ^ k ^^^ 2 ^ a) := by rw [e1, sT_1 tb2]
        have eu := i2 (T ^^^ 2 ^ k ^^^ 2 ^ a) (by omega)
        have wak : wB V k a = sBOA V a k := wB_s V k a
        rw [if_neg (by decide), shl32_1 (by omega), xor32_nat (by omega) (pow_lt31 (by omega)), w32_id (x := ((T ^^^ 2 ^ k ^^^ 2 ^ a : Nat) : Int)) (by omega) (by omega), asrt_t (by omega), m_tog hV hm2 a k (by omega) (by omega) (by omega), bnd_some, w32_id (x := (T : Int)) (by omega) (by omega), asrt_t (by omega), asrt_t (by omega), m_tog hV hm2 a k (by omega) (by omega) (by omega), bnd_some, asrt_t (by omega), Int.toNat_natCast, Int.toNat_natCast, eu, lt_eq, w32_id (x := (z.2 79 (T ^^^ 2 ^ k ^^^ 2 ^ a) + sBOA V a k)) (by omega) (by omega), w32_id (x := u.2 79 T) (by omega) (by omega)]
        by_cases g : z.2 79 (T ^^^ 2 ^ k ^^^ 2 ^ a) + sBOA V a k ≤ u.2 79 T
        · rw [if_pos g]
          refine ⟨u, ⟨i1, i2, i3, i4, i5, fun y y1 y2 y3 l hl => ?_⟩, rfl⟩
          rcases Nat.lt_or_ge y a with g2 | g2
          · exact i6 y g2 y2 y3 l hl
          · have e : y = a := by omega
            subst e
            rw [es] at hl
            have := hr2.2.2 l hl
            rw [wak]; omega
        · rw [if_neg g]
          refine ⟨wr u 79 T (z.2 79 (T ^^^ 2 ^ k ^^^ 2 ^ a) + sBOA V a k), ⟨i1.w2 rfl, fun R hR => by rw [wr_e (by omega)]; exact i2 R hR, by rw [wr_at]; omega, ?_, fun l hl => ?_, fun y y1 y2 y3 l hl => ?_⟩, rfl⟩
          · rw [wr_at]
            obtain ⟨l, l1, l2⟩ := hr2.2.1
            refine ⟨(k, a) :: l, ⟨q, qa, by omega, by rw [es]; exact l1⟩, ?_⟩
            show wB V k a + wt (wB V) l = _
            rw [l2, wak]; omega
          · rw [wr_at]
            have := i5 l hl
            omega
          · rw [wr_at]
            rcases Nat.lt_or_ge y a with g2 | g2
            · have := i6 y g2 y2 y3 l hl
              omega
            · have e : y = a := by omega
              subst e
              rw [es] at hl
              have := hr2.2.2 l hl
              rw [wak]; omega
    · obtain ⟨i1, i2, i3, i4, i5, i6⟩ := hI
      refine ⟨u, ?_, i1, fun R hR => ?_⟩
      · unfold b11_mostTogether_57
        dsimp only
        rw [w32_id (x := (k : Int)) (by omega) (by omega), if_pos (by omega)]
      · rcases Nat.lt_or_ge R T with g | g
        · rw [i2 R g]; exact hM R g
        · rw [show R = T by omega]
          refine ⟨i3, IsM_mk (wB_s V) i4 i5 (fun y y1 y2 => i6 y ?_ y1 y2)⟩
          rcases Nat.lt_or_ge y k with e | e
          · exact e
          · have := p4 y (by omega)
            unfold sT at y1
            rw [this] at y1
            exact absurd y1 (by decide)
theorem m_most (hV : VOK V) (hm : VM h.2 V) : ∃ (v : Int) (h1 : AH), f11_mostTogether h = some (v, h1) ∧ Ky kMo h h1 ∧ IsM (wB V) (sT (2 ^ (V 0).toNat - 1)) v := by
  have v0 := hV.1
  have pn := pow_n hV
  have pp : 0 < 2 ^ (V 0).toNat := Nat.pow_pos (by omega)
  unfold f11_mostTogether l11_mostTogether_9
  rw [asrt_t (by decide), lt_eq, show (w32 0).toNat = 0 from rfl]
  have key := fr (F := fun rec (z : Int × AH) => b11_mostTogether_9 rec z.1 z.2) (fun X => ∃ (v : Int) (h1 : AH), X = some (v, h1) ∧ Ky kMo h h1 ∧ IsM (wB V) (sT (2 ^ (V 0).toNat - 1)) v) (fun (s : AH) i => (i, s)) (fun T w => Ky kMo h w ∧ MO V w T) 1 (2 ^ (V 0).toNat) (wr h 79 0 0) ⟨Ky.w1 rfl, fun R hR => ?_⟩ pp (by omega) (fun T w hT1 hT hI rec => ?_) (fun w hI rec => ?_)
  · exact key
  · rw [show R = 0 by omega, wr_at]
    exact ⟨by omega, IsM_0 (fun i => Nat.zero_testBit i)⟩
  · right
    obtain ⟨h1, a1, a2, a3⟩ := m_set hV (hm.mo hI.1) (by omega) hT hI.2 rec
    refine ⟨h1, ⟨hI.1.tr a2, a3⟩, ?_⟩
    unfold b11_mostTogether_9
    dsimp only
    rw [vm_P (hm.mo hI.1), shl_n hV, w32_id (x := ((2 ^ (V 0).toNat : Nat) : Int)) (by omega) (by omega), w32_id (x := (T : Int)) (by omega) (by omega), if_neg (by omega), a1]
  · have hr := hI.2 (2 ^ (V 0).toNat - 1) (by omega)
    refine ⟨_, w, ?_, hI.1, hr.2⟩
    unfold b11_mostTogether_9
    dsimp only
    rw [vm_P (hm.mo hI.1), shl_n hV, if_pos (Int.le_refl _), show ((2 ^ (V 0).toNat : Nat) : Int) - 1 = ((2 ^ (V 0).toNat - 1 : Nat) : Int) by omega, w32_id (x := ((2 ^ (V 0).toNat - 1 : Nat) : Int)) (by omega) (by omega), asrt_t (by omega), Int.toNat_natCast]
end Most
theorem q_married {x1 x2 : Int} (hx1 : Rg x1) (hx2 : Rg x2) : Agr (f10_married x1 x2) (f11_married x1 x2) := by
  refine agr_v hx1 (fun h e => ⟨-2, ?_, fun e2 => ?_⟩) (fun h v V hV hc h7 h17 e => ?_)
  · unfold f10_married
    simp (disch := omega) only [w32_id, w32_0, w32_1, w32_m, if_pos, if_neg, bnd_some, lt_eq, asrt_t, ite10_0, ite10_or, e]
  · unfold f11_married
    rw [e2, bnd_some, ite_w0]
  · have v0 := hV.1
    obtain ⟨h1, a1, a2, a3⟩ := c_gathT hV hc (by omega)
    have pk1 := a2.pk (fun a k z => by unfold kB at z; omega)
    by_cases d0 : x2 = -1
    · obtain ⟨r, b1, b2, b3⟩ := c_mostFrom hV a3 (V 0).toNat 10 0 0 (by omega) (by omega) (by omega)
      refine ⟨r, h1, ?_, pk1, fun hs e1 hm => ?_⟩
      · unfold f10_married b10_married_29 f1_mostInAll
        rw [show (((0 : Nat) : Int)) = 0 from rfl] at b1
        rw [e, bnd_some, if_neg (by omega), w32_id hx2.1 hx2.2, if_pos d0, Int.toNat_natCast, a1, bnd_some, if_neg (fun w => w d0), b1, bnd_some, bnd_some]
      · obtain ⟨u, h2, c1, c2, c3⟩ := m_most hV hm
        have es : sT (2 ^ (V 0).toNat - 1) = sC (V 0).toNat 0 0 := by
          funext i
          unfold sT sC
          rw [Nat.testBit_two_pow_sub_one, Nat.zero_testBit]
          simp
        rw [es] at c3
        have eu := c3.uq b3
        subst eu
        refine ⟨h2, ?_, c2.pk (fun a k z => by unfold kMo at z; omega)⟩
        unfold f11_married b11_married_24
        rw [e1, bnd_some, ite_w1, w32_id hx2.1 hx2.2, if_pos d0, if_neg (fun w => w d0), c1, bnd_some]
    · by_cases d1 : 0 ≤ x2 ∧ x2 < V 0
      · obtain ⟨x, rfl⟩ : ∃ x : Nat, x2 = x := ⟨x2.toNat, by omega⟩
        obtain ⟨h2, b1, b2, b3⟩ := c_marry hV a3
        refine ⟨mKs V 8 x, h2, ?_, pk1.tr (b2.pk (fun a k z => by omega)), fun hs e1 hm => ?_⟩
        · unfold f10_married b10_married_29
          rw [e, bnd_some, if_neg (by omega), w32_id hx2.1 hx2.2, if_neg d0, Int.toNat_natCast, v_hasP hV hc, bnd_some, w32_id hx2.1 hx2.2, if_pos (c := 0 ≤ (x : Int) ∧ _) d1, if_pos (by decide), a1, bnd_some, if_pos d0, b1, bnd_some, asrt_t (by omega), Int.toNat_natCast, b3 x (by omega)]
        · obtain ⟨h3, c1, c2⟩ := m_marry hV hm (x := x) (by omega)
          refine ⟨h3, ?_, c2.pk (fun a k z => by omega)⟩
          unfold f11_married b11_married_24
          rw [e1, bnd_some, ite_w1, w32_id hx2.1 hx2.2, if_neg d0, m_isP hV hm, bnd_some, w32_id hx2.1 hx2.2, if_pos (c := 0 ≤ (x : Int) ∧ _) d1, if_pos (by decide), if_pos d0, c1]
      · refine ⟨-2, h, ?_, PK.rf h, fun hs e1 hm => ⟨hs, ?_, PK.rf hs⟩⟩
        · unfold f10_married
          rw [e, bnd_some, if_neg (by omega), w32_id hx2.1 hx2.2, if_neg d0, Int.toNat_natCast, v_hasP hV hc, bnd_some, w32_id hx2.1 hx2.2, if_neg (c := 0 ≤ x2 ∧ _) d1, if_neg (by decide)]
        · unfold f11_married
          rw [e1, bnd_some, ite_w1, w32_id hx2.1 hx2.2, if_neg d0, m_isP hV hm, bnd_some, w32_id hx2.1 hx2.2, if_neg (c := 0 ≤ x2 ∧ _) d1, if_neg (by decide)]
