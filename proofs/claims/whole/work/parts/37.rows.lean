/-! days and logs -/
theorem RC_pv {c : Nat → Nat → Int} {r w : Nat} {D : Nat → Int} (hv : r + 1 < 28 ∨ 92 < r) (h : RC (pv c) r w D) : RC c r w D := by
  unfold RC at *
  rwa [pv_at (by omega), pv_at (by omega)] at h
/-- rows as they are read: width, most, and what they hold -/
def RW (c : Nat → Nat → Int) (r w m : Nat) (D : Nat → Int) : Prop := (c r 0 = w ∧ c r 1 = m) ∧ RC c r w D ∧ (0 ≤ D 0 ∧ D 0 ≤ m) ∧ (shp (r + 1)).2 = w * m
theorem Inv.day {h : AH} (hI : Inv h) : (0 ≤ h.2 70 1 ∧ h.2 70 1 ≤ 2) ∧ h.2 3 1 = h.2 70 1 ∧ ∀ k : Nat, (k : Int) < h.2 70 1 → DOK (rowV h.2 (754 + 201 * k)) ∧ RW h.2 (13 + 10 * k) 5 40 (rowV h.2 (754 + 201 * k)) := by
  obtain ⟨⟨⟨a1, a2, a3, -, a5, -, a7⟩, -⟩, -⟩ := hI
  have b1 := a1 1 (by omega)
  rw [pv_70, pv_at (by omega), Nat.zero_add] at b1
  refine ⟨⟨b1.2.1, b1.2.2⟩, b1.1, fun k hk => ?_⟩
  have hk2 : k < 2 := by have := b1.2.2; omega
  have b4 := a5 k (by rw [pv_70]; exact hk)
  rw [rowV_pv] at b4
  have e1 : 0 + 754 + 201 * k = 754 + 201 * k := by omega
  have e2 : 1 + 12 + 10 * k = 13 + 10 * k := by omega
  rw [e1, e2] at b4
  have b5 := (a7 k hk2).1
  rw [e2, pv_at (by omega)] at b5
  refine ⟨b4.1, b5, RC_pv (by omega) b4.2, b4.1.1, ?_⟩
  rcases (show k = 0 ∨ k = 1 by omega) with rfl | rfl <;> decide
theorem Inv.log {h : AH} (hI : Inv h) : (0 ≤ h.2 70 2 ∧ h.2 70 2 ≤ 2) ∧ h.2 3 2 = h.2 70 2 ∧ ∀ k : Nat, (k : Int) < h.2 70 2 → LOK (rowV h.2 (1156 + 25 * k)) ∧ RW h.2 (15 + 10 * k) 3 8 (rowV h.2 (1156 + 25 * k)) := by
  obtain ⟨⟨⟨a1, a2, a3, -, -, a6, a7⟩, -⟩, -⟩ := hI
  have b1 := a1 2 (by omega)
  rw [pv_70, pv_at (by omega), Nat.zero_add] at b1
  refine ⟨⟨b1.2.1, b1.2.2⟩, b1.1, fun k hk => ?_⟩
  have hk2 : k < 2 := by have := b1.2.2; omega
  have b4 := a6 k (by rw [pv_70]; exact hk)
  rw [rowV_pv] at b4
  have e1 : 0 + 1156 + 25 * k = 1156 + 25 * k := by omega
  have e2 : 1 + 14 + 10 * k = 15 + 10 * k := by omega
  rw [e1, e2] at b4
  have b5 := (a7 k hk2).2
  rw [e2, pv_at (by omega)] at b5
  refine ⟨b4.1, b5, RC_pv (by omega) b4.2, b4.1.1, ?_⟩
  rcases (show k = 0 ∨ k = 1 by omega) with rfl | rfl <;> decide
theorem c_there {h : AH} {n q : Int} {j : Nat} (hj : q = j) (hj3 : j < 3) (e : h.2 3 j = n) (hn : 0 ≤ n ∧ n ≤ 2) (x : Int) : f8_isThere 1 q x h = some (if 0 ≤ w32 x ∧ w32 x < n then 1 else 0, h) := by
  unfold f8_isThere
  have e1 : w32 q = q := w32_id (by omega) (by omega)
  have e2 : q.toNat = j := by omega
  rw [e1, asrt_t (by omega), e2, show 1 + 2 = 3 from rfl, e, w32_id (x := n) (by omega) (by omega)]
  repeat' split
  all_goals first | rfl | omega
theorem c_dayAt {h : AH} (hI : Inv h) (x : Int) : f8_dayAt 1 x h = some (if 0 ≤ w32 x ∧ w32 x < h.2 70 1 then ((13 + 10 * (w32 x).toNat : Nat) : Int) else -1, h) := by
  obtain ⟨a, b, -⟩ := hI.day
  unfold f8_dayAt
  rw [c_there (q := 1) (n := h.2 70 1) (j := 1) rfl (by omega) b a, bnd_some]
  simp only [ite10_0]
  by_cases hC : 0 ≤ w32 x ∧ w32 x < h.2 70 1
  · rw [if_neg (fun q => q hC), if_pos hC, asrt_t (by omega)]
  · rw [if_pos hC, if_neg hC]
theorem c_logAt {h : AH} (hI : Inv h) (x : Int) : f8_logAt 1 x h = some (if 0 ≤ w32 x ∧ w32 x < h.2 70 2 then ((15 + 10 * (w32 x).toNat : Nat) : Int) else -1, h) := by
  obtain ⟨a, b, -⟩ := hI.log
  unfold f8_logAt
  rw [c_there (q := 2) (n := h.2 70 2) (j := 2) rfl (by omega) b a, bnd_some]
  simp only [ite10_0]
  by_cases hC : 0 ≤ w32 x ∧ w32 x < h.2 70 2
  · rw [if_neg (fun q => q hC), if_pos hC, asrt_t (by omega)]
  · rw [if_pos hC, if_neg hC]
theorem m_isOf {h : AH} {q n : Int} {j : Nat} (hj : q = j) (hj3 : j < 3) (e : h.2 70 j = n) (hn : 0 ≤ n ∧ n ≤ 2) (x : Int) : f11_isOf q x h = some (if 0 ≤ w32 x ∧ w32 x < n then 1 else 0, h) := by
  unfold f11_isOf
  have e1 : w32 q = q := w32_id (by omega) (by omega)
  have e2 : q.toNat = j := by omega
  rw [e1, asrt_t (by omega), e2, e, m_isIn, bnd_some, asrt_t ite10_or, w32_0, w32_id (x := n - 1) (by omega) (by omega)]
  congr 2
  repeat' split
  all_goals first | rfl | omega
theorem m_isD {h : AH} (hI : Inv h) (x : Int) : f11_isDay x h = if 0 ≤ w32 x ∧ w32 x < h.2 70 1 then some (1, wr h 69 31 (754 + 201 * x)) else some (0, h) := by
  obtain ⟨a, -⟩ := hI.day
  unfold f11_isDay f11_placeOf
  rw [m_isOf (q := 1) (n := h.2 70 1) (j := 1) rfl (by omega) rfl a, bnd_some]
  simp only [ite10_0]
  by_cases hC : 0 ≤ w32 x ∧ w32 x < h.2 70 1
  · rw [if_pos (fun q => q hC), if_pos hC, if_pos (by decide), if_neg (by decide), bnd_some, lt_eq]
  · rw [if_neg (fun q => q hC), if_neg hC]
theorem m_isL {h : AH} (hI : Inv h) (x : Int) : f11_isLog x h = if 0 ≤ w32 x ∧ w32 x < h.2 70 2 then some (1, wr h 69 41 (1156 + 25 * x)) else some (0, h) := by
  obtain ⟨a, -⟩ := hI.log
  unfold f11_isLog f11_placeOf
  rw [m_isOf (q := 2) (n := h.2 70 2) (j := 2) rfl (by omega) rfl a, bnd_some]
  simp only [ite10_0]
  by_cases hC : 0 ≤ w32 x ∧ w32 x < h.2 70 2
  · rw [if_pos (fun q => q hC), if_pos hC, if_pos (by decide), if_pos (by decide), bnd_some, lt_eq]
  · rw [if_neg (fun q => q hC), if_neg hC]
theorem wr_PK {h : AH} {a k : Nat} {x : Int} (ha : (27 < a ∧ a < 35) ∨ (37 < a ∧ a < 70) ∨ (71 < a ∧ a < 93)) : PK h (wr h a k x) :=
  ⟨rfl, fun b hb => wr_ne (by omega), ⟨by rw [wr_ne (by omega)], by rw [wr_ne (by omega)]⟩, by rw [wr_ne (by omega)], by rw [wr_ne (by omega)]⟩
def sCell (w : Int) (D : Nat → Int) (k i : Int) : Int := if 0 ≤ k ∧ k < D 0 ∧ 0 ≤ i ∧ i < w then D (1 + (k * w + i).toNat) else -2
theorem c_cell {h : AH} {r w m : Nat} {D : Nat → Int} (hw : w ≤ 5) (hm : m ≤ 40) (hR : RW h.2 r w m D) (k i : Int) : f6_cell r k i h = some (sCell w D (w32 k) (w32 i), h) := by
  obtain ⟨⟨a0, a1⟩, ⟨a2, a3⟩, a4, a5⟩ := hR
  unfold f6_cell sCell
  rw [a2, a0, w32_id (x := D 0) (by omega) (by omega), w32_id (x := (w : Int)) (by omega) (by omega), a5]
  by_cases hC : 0 ≤ w32 k ∧ w32 k < D 0 ∧ 0 ≤ w32 i ∧ w32 i < w
  · rw [if_neg (by omega), if_neg (by omega), if_neg (by omega), if_neg (by omega), if_pos hC]
    have b1 : 0 ≤ w32 k * w ∧ w32 k * w ≤ 39 * 5 := mul_rng (by omega) (by omega)
    have b2 : (w32 k + 1) * w ≤ m * w := Int.mul_le_mul_of_nonneg_right (by omega) (by omega)
    have b3 : (w32 k + 1) * w = w32 k * w + w := by rw [Int.add_mul, Int.one_mul]
    have b6 : (w32 k + 1) * w ≤ D 0 * w := Int.mul_le_mul_of_nonneg_right (by omega) (by omega)
    have b7 : (w : Int) * D 0 = D 0 * w := Int.mul_comm _ _
    have e : w32 (k * w + i) = w32 k * w + w32 i := by
      have c1 : ∃ q : Int, k = w32 k + 4294967296 * q := ⟨(k + 2147483648) / 4294967296, by unfold w32; omega⟩
      have c2 : ∃ q : Int, i = w32 i + 4294967296 * q := ⟨(i + 2147483648) / 4294967296, by unfold w32; omega⟩
      obtain ⟨q1, c1⟩ := c1
      obtain ⟨q2, c2⟩ := c2
      have c3 : k * w + i = w32 k * w + w32 i + 4294967296 * (q1 * w + q2) := by
        rw [show k * (w : Int) = (w32 k + 4294967296 * q1) * w by rw [← c1], Int.add_mul, Int.mul_assoc]
        omega
      rw [c3]
      generalize q1 * (w : Int) + q2 = q at *
      have := w32_id (x := w32 k * w + w32 i) (by omega) (by omega)
      unfold w32 at this ⊢
      omega
    have b4 : ((w * m : Nat) : Int) = m * w := by rw [Int.natCast_mul, Int.mul_comm]
    rw [e, asrt_t (by omega), a3 _ (by omega)]
  · rw [if_neg hC]
    repeat' split
    all_goals first | rfl | omega
def sAnsR (w : Int) (D : Nat → Int) (k i : Int) : Int := if k = -1 then (if i = 0 then D 0 else -2) else sCell w D k i
theorem c_ansR {h : AH} {r w m : Nat} {D : Nat → Int} (hw : w ≤ 5) (hm : m ≤ 40) (hR : RW h.2 r w m D) (k i : Int) : f6_answer r k i h = some (sAnsR w D (w32 k) (w32 i), h) := by
  unfold f6_answer sAnsR
  rw [c_cell hw hm hR, bnd_some, hR.2.1.1]
  repeat' split
  all_goals first | rfl | omega
theorem q_deed {x1 x2 x3 : Int} (hx1 : Rg x1) (hx2 : Rg x2) (hx3 : Rg x3) : Agr (f10_deed x1 x2 x3) (f11_deed x1 x2 x3) := by
  intro h hI
  have a1 := c_dayAt hI x1
  have a2 := m_isD hI x1
  obtain ⟨a3, -, a4⟩ := hI.day
  have ew := w32_id hx1.1 hx1.2
  rw [ew] at a1 a2
  by_cases hC : 0 ≤ x1 ∧ x1 < h.2 70 1
  · have a5 := a4 x1.toNat (by omega)
    obtain ⟨d, rfl⟩ : ∃ d : Nat, x1 = d := ⟨x1.toNat, by omega⟩
    rw [Int.toNat_natCast] at a5 a1
    have hd : d < 2 := by omega
    have eD : ∀ j : Nat, (wr h 69 31 (754 + 201 * (d : Int))).2 70 (754 + 201 * d + j) = rowV h.2 (754 + 201 * d) j := fun j => by rw [wr_ne (by decide)]; rfl
    generalize rowV h.2 (754 + 201 * d) = D at *
    refine ⟨sAnsR 5 D x2 x3, h, wr h 69 31 (754 + 201 * (d : Int)), ?_, ?_, hI.keep (wr_PK (by omega))⟩
    · unfold f10_deed
      rw [a1, if_pos hC, bnd_some, if_neg (by omega), Int.toNat_natCast, c_ansR (by omega) (by omega) a5.2, bnd_some, w32_id hx2.1 hx2.2, w32_id hx3.1 hx3.2]
      rfl
    · unfold f11_deed sAnsR sCell
      have b0 := a5.1.1
      have b1 : w32 (754 + 201 * (d : Int)) = 754 + 201 * d := w32_id (by omega) (by omega)
      have b2 : (754 + 201 * (d : Int)).toNat = 754 + 201 * d + 0 := by omega
      rw [a2, if_pos hC, bnd_some, ite_nw1, wr_at, b1, b2, eD, m_isIn, bnd_some, m_isIn, bnd_some]
      simp only [ite10_0]
      rw [w32_id hx2.1 hx2.2, w32_id hx3.1 hx3.2, w32_0, w32_id (x := D 0 - 1) (by omega) (by omega), show w32 4 = 4 by decide]
      by_cases d1 : x2 = -1
      · rw [if_neg (fun q => q d1), if_pos d1, asrt_t (by omega)]
        repeat' split
        all_goals first | rfl | omega
      · rw [if_pos d1, if_neg d1, asrt_t (by omega)]
        by_cases d2 : 0 ≤ x2 ∧ x2 < D 0 ∧ 0 ≤ x3 ∧ x3 < 5
        · rw [if_neg (by omega), if_neg (by omega), if_pos d2]
          have b3 : w32 (754 + 201 * (d : Int) + 1 + 5 * x2 + x3) = 754 + 201 * (d : Int) + 1 + 5 * x2 + x3 := w32_id (by omega) (by omega)
          rw [wr_at, b3, asrt_t (by omega), show (754 + 201 * (d : Int) + 1 + 5 * x2 + x3).toNat = 754 + 201 * d + (1 + (x2 * 5 + x3).toNat) by omega, eD]
        · rw [if_neg d2]
          repeat' split
          all_goals first | rfl | omega
  · refine ⟨-2, h, h, ?_, ?_, hI⟩
    · unfold f10_deed
      rw [a1, if_neg hC, bnd_some, if_pos (by decide)]
    · unfold f11_deed
      rw [a2, if_neg hC, bnd_some, ite_nw0]
theorem q_fact {x1 x2 x3 : Int} (hx1 : Rg x1) (hx2 : Rg x2) (hx3 : Rg x3) : Agr (f10_fact x1 x2 x3) (f11_fact x1 x2 x3) := by
  intro h hI
  have a1 := c_logAt hI x1
  have a2 := m_isL hI x1
  obtain ⟨a3, -, a4⟩ := hI.log
  have ew := w32_id hx1.1 hx1.2
  rw [ew] at a1 a2
  by_cases hC : 0 ≤ x1 ∧ x1 < h.2 70 2
  · have a5 := a4 x1.toNat (by omega)
    obtain ⟨d, rfl⟩ : ∃ d : Nat, x1 = d := ⟨x1.toNat, by omega⟩
    rw [Int.toNat_natCast] at a5 a1
    have hd : d < 2 := by omega
    have eD : ∀ j : Nat, (wr h 69 41 (1156 + 25 * (d : Int))).2 70 (1156 + 25 * d + j) = rowV h.2 (1156 + 25 * d) j := fun j => by rw [wr_ne (by decide)]; rfl
    generalize rowV h.2 (1156 + 25 * d) = D at *
    refine ⟨sAnsR 3 D x2 x3, h, wr h 69 41 (1156 + 25 * (d : Int)), ?_, ?_, hI.keep (wr_PK (by omega))⟩
    · unfold f10_fact
      rw [a1, if_pos hC, bnd_some, if_neg (by omega), Int.toNat_natCast, c_ansR (by omega) (by omega) a5.2, bnd_some, w32_id hx2.1 hx2.2, w32_id hx3.1 hx3.2]
      rfl
    · unfold f11_fact sAnsR sCell
      have b0 := a5.1.1
      have b1 : w32 (1156 + 25 * (d : Int)) = 1156 + 25 * d := w32_id (by omega) (by omega)
      have b2 : (1156 + 25 * (d : Int)).toNat = 1156 + 25 * d + 0 := by omega
      rw [a2, if_pos hC, bnd_some, ite_nw1, wr_at, b1, b2, eD, m_isIn, bnd_some, m_isIn, bnd_some]
      simp only [ite10_0]
      rw [w32_id hx2.1 hx2.2, w32_id hx3.1 hx3.2, w32_0, w32_id (x := D 0 - 1) (by omega) (by omega), show w32 2 = 2 by decide]
      by_cases d1 : x2 = -1
      · rw [if_neg (fun q => q d1), if_pos d1, asrt_t (by omega)]
        repeat' split
        all_goals first | rfl | omega
      · rw [if_pos d1, if_neg d1, asrt_t (by omega)]
        by_cases d2 : 0 ≤ x2 ∧ x2 < D 0 ∧ 0 ≤ x3 ∧ x3 < 3
        · rw [if_neg (by omega), if_neg (by omega), if_pos d2]
          have b3 : w32 (1156 + 25 * (d : Int) + 1 + 3 * x2 + x3) = 1156 + 25 * (d : Int) + 1 + 3 * x2 + x3 := w32_id (by omega) (by omega)
          rw [wr_at, b3, asrt_t (by omega), show (1156 + 25 * (d : Int) + 1 + 3 * x2 + x3).toNat = 1156 + 25 * d + (1 + (x2 * 3 + x3).toNat) by omega, eD]
        · rw [if_neg d2]
          repeat' split
          all_goals first | rfl | omega
  · refine ⟨-2, h, h, ?_, ?_, hI⟩
    · unfold f10_fact
      rw [a1, if_neg hC, bnd_some, if_pos (by decide)]
    · unfold f11_fact
      rw [a2, if_neg hC, bnd_some, ite_nw0]
theorem q_fault {x1 : Int} (hx1 : Rg x1) : Agr (f10_fault x1) (f11_fault x1) := by
  intro h hI
  obtain ⟨⟨⟨-, a2, -⟩, -⟩, -⟩ := id hI
  rw [pv_at (by omega), pv_70] at a2
  refine ⟨if x1 = 0 then h.2 70 5 else if x1 = 1 then h.2 70 6 else -1, h, h, ?_, ?_, hI⟩
  · unfold f10_fault
    rw [w32_id hx1.1 hx1.2, a2.2.2.1, a2.2.2.2]
    repeat' split
    all_goals first | rfl | omega
  · unfold f11_fault
    rw [w32_id hx1.1 hx1.2, asrt_t (by decide), asrt_t (by decide), show (w32 6).toNat = 6 by decide, show (w32 5).toNat = 5 by decide]
    repeat' split
    all_goals first | rfl | omega
theorem q_count {x1 : Int} (hx1 : Rg x1) : Agr (f10_count x1) (f11_count x1) := by
  intro h hI
  obtain ⟨⟨⟨a1, -⟩, -⟩, -⟩ := id hI
  refine ⟨if 0 ≤ x1 ∧ x1 < 3 then h.2 70 x1.toNat else -2, h, h, ?_, ?_, hI⟩
  · unfold f10_count
    rw [w32_id hx1.1 hx1.2]
    by_cases hC : 0 ≤ x1 ∧ x1 < 3
    · have b1 := a1 x1.toNat (by omega)
      rw [pv_70, pv_at (by omega), show 0 + x1.toNat = x1.toNat by omega] at b1
      rw [if_neg (by omega), if_pos (by omega), asrt_t hC, if_pos hC, b1.1]
    · rw [if_neg hC]
      repeat' split
      all_goals first | rfl | omega
  · unfold f11_count
    rw [m_isIn, bnd_some, w32_id hx1.1 hx1.2, w32_0, show w32 2 = 2 by decide]
    simp only [ite10_0]
    by_cases hC : 0 ≤ x1 ∧ x1 < 3
    · rw [if_neg (by omega), asrt_t (by omega), if_pos hC]
    · rw [if_pos (by omega), if_neg hC]
