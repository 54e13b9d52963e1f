/-! what holds between the calls: the class's Told and the model's row agree -/
def rowV (c : Nat → Nat → Int) (o : Nat) : Nat → Int := fun j => c 70 (o + j)
/-- a day's row: how many deeds; five numbers each -/
def DOK (D : Nat → Int) : Prop := (0 ≤ D 0 ∧ D 0 ≤ 40) ∧ ∀ q : Nat, (q : Int) < D 0 →
  (D (1 + 5 * q) = 0 ∧ (0 ≤ D (2 + 5 * q) ∧ D (2 + 5 * q) ≤ 7) ∧ (0 ≤ D (3 + 5 * q) ∧ D (3 + 5 * q) ≤ 7) ∧ D (2 + 5 * q) ≠ D (3 + 5 * q) ∧ (0 ≤ D (4 + 5 * q) ∧ D (4 + 5 * q) ≤ 5) ∧ (0 ≤ D (5 + 5 * q) ∧ D (5 + 5 * q) ≤ 3)) ∨
  ((D (1 + 5 * q) = 1 ∨ D (1 + 5 * q) = 2) ∧ (0 ≤ D (2 + 5 * q) ∧ D (2 + 5 * q) ≤ 7) ∧ (0 ≤ D (3 + 5 * q) ∧ D (3 + 5 * q) ≤ 7) ∧ D (2 + 5 * q) ≠ D (3 + 5 * q) ∧ (0 ≤ D (4 + 5 * q) ∧ D (4 + 5 * q) ≤ 5) ∧ D (5 + 5 * q) = -1) ∨
  (D (1 + 5 * q) = 3 ∧ (0 ≤ D (2 + 5 * q) ∧ D (2 + 5 * q) ≤ 5) ∧ (0 ≤ D (3 + 5 * q) ∧ D (3 + 5 * q) ≤ 9) ∧ D (4 + 5 * q) = -1 ∧ D (5 + 5 * q) = -1) ∨
  (D (1 + 5 * q) = 4 ∧ D (2 + 5 * q) = -1 ∧ D (3 + 5 * q) = -1 ∧ D (4 + 5 * q) = -1 ∧ D (5 + 5 * q) = -1)
def LOK (D : Nat → Int) : Prop := (0 ≤ D 0 ∧ D 0 ≤ 8) ∧ ∀ q : Nat, (q : Int) < D 0 → (0 ≤ D (1 + 3 * q) ∧ D (1 + 3 * q) ≤ 7) ∧ (0 ≤ D (2 + 3 * q) ∧ D (2 + 3 * q) ≤ 7) ∧ D (1 + 3 * q) ≠ D (2 + 3 * q) ∧ (0 ≤ D (3 + 3 * q) ∧ D (3 + 3 * q) ≤ 99)
/-- the class's rows at r are the row D, w numbers wide -/
def RC (c : Nat → Nat → Int) (r : Nat) (w : Nat) (D : Nat → Int) : Prop := c r 3 = D 0 ∧ ∀ i : Nat, (i : Int) < w * D 0 → c (r + 1) i = D (1 + i)
def TR (c : Nat → Nat → Int) (t o : Nat) : Prop :=
  (∀ q : Nat, q < 3 → c (t + 2) q = c 70 (o + q) ∧ 0 ≤ c 70 (o + q) ∧ c 70 (o + q) ≤ 2) ∧
  (c t 1 = c 70 (o + 4) ∧ (0 ≤ c 70 (o + 4) ∧ c 70 (o + 4) ≤ 600) ∧ c t 2 = c 70 (o + 5) ∧ c t 3 = c 70 (o + 6)) ∧
  (∀ i : Nat, i < 600 → (0 ≤ c 70 (o + 10 + i) ∧ c 70 (o + 10 + i) ≤ 255) ∧ c (t + 1) i = i2b (c 70 (o + 10 + i))) ∧
  (∀ k : Nat, (k : Int) < c 70 o → VOK (rowV c (o + 610 + 72 * k)) ∧ VC c (t + 6 + 10 * k) (rowV c (o + 610 + 72 * k))) ∧
  (∀ k : Nat, (k : Int) < c 70 (o + 1) → DOK (rowV c (o + 754 + 201 * k)) ∧ RC c (t + 12 + 10 * k) 5 (rowV c (o + 754 + 201 * k))) ∧
  (∀ k : Nat, (k : Int) < c 70 (o + 2) → LOK (rowV c (o + 1156 + 25 * k)) ∧ RC c (t + 14 + 10 * k) 3 (rowV c (o + 1156 + 25 * k))) ∧
  ∀ k : Nat, k < 2 → (c (t + 12 + 10 * k) 0 = 5 ∧ c (t + 12 + 10 * k) 1 = 40) ∧ (c (t + 14 + 10 * k) 0 = 3 ∧ c (t + 14 + 10 * k) 1 = 8)
def JI (n : Nat) (c : Nat → Nat → Int) : Prop :=
  TR c 1 0 ∧ ((n : Int) = sm (fun k => if c 71 k = 0 then 0 else 1) 3) ∧
  (∀ k : Nat, k < 3 → (c 27 k = -1 ∧ c 71 k = 0) ∨ ∃ j : Nat, j < n ∧ c 27 k = ((93 + 26 * j : Nat) : Int) ∧ c 71 k = 1 ∧ TR c (93 + 26 * j) (1206 * (k + 1))) ∧
  ∀ k q : Nat, k < 3 → q < 3 → c 27 k = c 27 q → c 27 k = -1 ∨ k = q
/-- the cells that last -/
def pv (c : Nat → Nat → Int) : Nat → Nat → Int := fun a => if a < 28 ∨ a = 70 ∨ a = 71 ∨ 92 < a then c a else fun _ => 0
def Inv (h : AH) : Prop := JI h.1 (pv h.2) ∧ (h.2 35 0 = 5 ∧ h.2 35 1 = 40) ∧ (h.2 37 0 = 3 ∧ h.2 37 1 = 8)
def PK (h h1 : AH) : Prop := h1.1 = h.1 ∧ (∀ a, a < 28 ∨ a = 70 ∨ a = 71 ∨ 92 < a → h1.2 a = h.2 a) ∧ (h1.2 35 0 = h.2 35 0 ∧ h1.2 35 1 = h.2 35 1) ∧ (h1.2 37 0 = h.2 37 0 ∧ h1.2 37 1 = h.2 37 1)
theorem PK.rf (h : AH) : PK h h := ⟨rfl, fun _ _ => rfl, ⟨rfl, rfl⟩, rfl, rfl⟩
theorem PK.tr {h h1 h2 : AH} (a : PK h h1) (b : PK h1 h2) : PK h h2 := ⟨b.1.trans a.1, fun q hq => (b.2.1 q hq).trans (a.2.1 q hq), ⟨b.2.2.1.1.trans a.2.2.1.1, b.2.2.1.2.trans a.2.2.1.2⟩, b.2.2.2.1.trans a.2.2.2.1, b.2.2.2.2.trans a.2.2.2.2⟩
theorem PK.same {h h1 : AH} (k : PK h h1) : pv h1.2 = pv h.2 := by
  funext a
  show (if a < 28 ∨ a = 70 ∨ a = 71 ∨ 92 < a then h1.2 a else fun _ => 0) = if a < 28 ∨ a = 70 ∨ a = 71 ∨ 92 < a then h.2 a else fun _ => 0
  split
  · exact k.2.1 a (by assumption)
  · rfl
theorem Inv.keep {h h1 : AH} (k : PK h h1) (hI : Inv h) : Inv h1 := by
  obtain ⟨a, b, c⟩ := hI
  refine ⟨by rw [k.same, k.1]; exact a, ?_, ?_⟩
  · rw [k.2.2.1.1, k.2.2.1.2]; exact b
  · rw [k.2.2.2.1, k.2.2.2.2]; exact c
theorem pv_at {c : Nat → Nat → Int} {a : Nat} (h : a < 28 ∨ a = 70 ∨ a = 71 ∨ 92 < a) : pv c a = c a := if_pos h
theorem pv_70 (c : Nat → Nat → Int) : pv c 70 = c 70 := pv_at (by omega)
theorem rowV_pv (c : Nat → Nat → Int) (o : Nat) : rowV (pv c) o = rowV c o := by unfold rowV; rw [pv_70]
theorem VC_pv {c : Nat → Nat → Int} {v : Nat} {V : Nat → Int} (hv : v + 5 < 28 ∨ 92 < v) (h : VC (pv c) v V) : VC c v V := by
  unfold VC at *
  rwa [pv_at (by omega), pv_at (by omega), pv_at (by omega), pv_at (by omega), pv_at (by omega), pv_at (by omega)] at h
/-- of the villages told -/
theorem Inv.vil {h : AH} (hI : Inv h) : (0 ≤ h.2 70 0 ∧ h.2 70 0 ≤ 2) ∧ h.2 3 0 = h.2 70 0 ∧ ∀ k : Nat, (k : Int) < h.2 70 0 → VOK (rowV h.2 (610 + 72 * k)) ∧ VC h.2 (7 + 10 * k) (rowV h.2 (610 + 72 * k)) := by
  obtain ⟨⟨⟨a1, a2, a3, a4, -⟩, -⟩, -⟩ := hI
  have b1 := a1 0 (by omega)
  rw [pv_70, pv_at (by omega)] at b1
  refine ⟨⟨b1.2.1, b1.2.2⟩, b1.1, fun k hk => ?_⟩
  have hk2 : (k : Int) < 2 := Int.lt_of_lt_of_le hk b1.2.2
  have b4 := a4 k (by rw [pv_70]; exact hk)
  rw [rowV_pv] at b4
  have e1 : 0 + 610 + 72 * k = 610 + 72 * k := by omega
  have e2 : 1 + 6 + 10 * k = 7 + 10 * k := by omega
  rw [e1, e2] at b4
  exact ⟨b4.1, VC_pv (by omega) b4.2⟩
theorem c_villageAt {h : AH} (hI : Inv h) (x : Int) : f8_villageAt 1 x h = some (if 0 ≤ w32 x ∧ w32 x < h.2 70 0 then ((7 + 10 * (w32 x).toNat : Nat) : Int) else -1, h) := by
  obtain ⟨a, b, -⟩ := hI.vil
  unfold f8_villageAt f8_isThere
  rw [asrt_t (by decide), w32_0, show (0 : Int).toNat = 0 from rfl, b, w32_id (x := h.2 70 0) (by omega) (by omega)]
  by_cases hC : 0 ≤ w32 x ∧ w32 x < h.2 70 0
  · rw [if_neg (by omega), if_neg (by omega), if_neg (by omega), bnd_some, ite_w1, asrt_t (by omega), if_pos hC]
  · rw [if_neg hC]
    repeat' split
    all_goals first | (rw [bnd_some, ite_w0]; done) | omega
/-- the model's village taken up -/
def setV (h : AH) (k : Nat) : AH := wr (wr (wr (wr h 69 12 ((610 + 72 * k : Nat) : Int)) 69 13 (h.2 70 (610 + 72 * k))) 69 14 (h.2 70 (610 + 72 * k + 1))) 69 15 (h.2 70 (610 + 72 * k + 2))
theorem setV_ne {h : AH} {k a : Nat} (ha : a ≠ 69) : (setV h k).2 a = h.2 a := by
  unfold setV
  rw [wr_ne ha, wr_ne ha, wr_ne ha, wr_ne ha]
theorem setV_VM {h : AH} {k : Nat} (hk : k < 2) : VM (setV h k).2 (rowV h.2 (610 + 72 * k)) := by
  refine ⟨610 + 72 * k, by omega, ?_, ?_, ?_, ?_, fun j hj => ?_⟩
  · unfold setV; simp [wr_2]
  · unfold setV rowV; simp [wr_2]
  · unfold setV rowV; simp [wr_2]
  · unfold setV rowV; simp [wr_2]
  · rw [setV_ne (by decide)]; rfl
theorem setV_PK {h : AH} {k : Nat} : PK h (setV h k) := ⟨rfl, fun a ha => setV_ne (by omega), ⟨by rw [setV_ne (by decide)], by rw [setV_ne (by decide)]⟩, by rw [setV_ne (by decide)], by rw [setV_ne (by decide)]⟩
theorem setV_w1 {h : AH} {k : Nat} : wr (wr h 69 12 ((610 + 72 * k : Nat) : Int)) 69 13 (h.2 70 (610 + 72 * k)) = wr (wr h 69 12 ((610 + 72 * k : Nat) : Int)) 69 13 ((wr h 69 12 ((610 + 72 * k : Nat) : Int)).2 70 (610 + 72 * k)) := by
  rw [wr_ne (b := 70) (by decide)]
theorem m_place (k : Nat) (h : AH) : f11_placeOf 0 (k : Int) h = some (((610 + 72 * k : Nat) : Int), h) := by
  unfold f11_placeOf
  rw [ite_nw0]
  congr 2
theorem m_isV0 {h : AH} {k : Nat} (hk : k < 2) {x : Int} (hx : x = ((610 + 72 * k : Nat) : Int)) : (lt (wr h 69 12 x) fun h9 =>
    asrt (0 ≤ w32 (h9.2 69 12) ∧ w32 (h9.2 69 12) < 4824) <|
    lt (wr h9 69 13 (h9.2 70 (w32 (h9.2 69 12)).toNat)) fun h12 =>
    asrt (0 ≤ w32 ((h12.2 69 12) + 1) ∧ w32 ((h12.2 69 12) + 1) < 4824) <|
    lt (wr h12 69 14 (h12.2 70 (w32 ((h12.2 69 12) + 1)).toNat)) fun h15 =>
    asrt (0 ≤ w32 ((h15.2 69 12) + 2) ∧ w32 ((h15.2 69 12) + 2) < 4824) <|
    lt (wr h15 69 15 (h15.2 70 (w32 ((h15.2 69 12) + 2)).toNat)) fun h18 =>
    some (1, h18)) = some (1, setV h k) := by
  have w0 : w32 x = x := w32_id (by omega) (by omega)
  have w1 : w32 (x + 1) = x + 1 := w32_id (by omega) (by omega)
  have w2 : w32 (x + 2) = x + 2 := w32_id (by omega) (by omega)
  have t0 : x.toNat = 610 + 72 * k := by omega
  have t1 : (x + 1).toNat = 610 + 72 * k + 1 := by omega
  have t2 : (x + 2).toNat = 610 + 72 * k + 2 := by omega
  have n1 : ∀ y : Int, (wr (wr h 69 12 x) 69 13 y).2 69 12 = x := fun y => by rw [wr_nk (by decide), wr_at]
  have n2 : ∀ y z : Int, (wr (wr (wr h 69 12 x) 69 13 y) 69 14 z).2 69 12 = x := fun y z => by rw [wr_nk (by decide), n1]
  rw [lt_eq, wr_at, w0, asrt_t (by omega), wr_ne (b := 70) (by decide), t0, lt_eq, n1, w1, asrt_t (by omega), wr_ne (b := 70) (by decide), wr_ne (b := 70) (by decide), t1, lt_eq, n2, w2, asrt_t (by omega), wr_ne (b := 70) (by decide), wr_ne (b := 70) (by decide), wr_ne (b := 70) (by decide), t2, lt_eq]
  unfold setV
  rw [hx]
theorem m_isV {h : AH} (hI : Inv h) (x : Int) (hx : -2147483648 ≤ x ∧ x < 2147483648) : f11_isVillage x h = if 0 ≤ x ∧ x < h.2 70 0 then some (1, setV h x.toNat) else some (0, h) := by
  obtain ⟨a, -, -⟩ := hI.vil
  have ex := w32_id hx.1 hx.2
  unfold f11_isVillage f11_isOf
  rw [asrt_t (by decide), w32_0, show (0 : Int).toNat = 0 from rfl, m_isIn, bnd_some, asrt_t ite10_or, bnd_some]
  simp only [ite10_0]
  rw [w32_0, ex, w32_id (x := h.2 70 0 - 1) (by omega) (by omega)]
  by_cases hC : 0 ≤ x ∧ x < h.2 70 0
  · rw [if_pos (by omega), if_pos hC]
    obtain ⟨k, rfl⟩ : ∃ k : Nat, x = k := ⟨x.toNat, by omega⟩
    rw [m_place, bnd_some]
    exact m_isV0 (by omega) rfl
  · rw [if_neg (by omega), if_neg hC]
