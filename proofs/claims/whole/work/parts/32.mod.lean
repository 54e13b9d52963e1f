/-! the model's village, read -/
theorem oft_ok : ∀ t : Nat, t < 10 → ∀ f : Nat, f < 10 → 1 ≤ f → (sm (fun i => if mx 0 ((t : Int) - i * (f : Int)) ≤ 0 then 0 else 1) 9 = (((t + f - 1) / f : Nat) : Int)) ∧ sm (fun i => mx 0 ((t : Int) - i * (f : Int))) 9 = sm (fun i => (t : Int) - i * (f : Int)) ((t + f - 1) / f) := by decide +kernel
section ModV
variable {h : AH} {V : Nat → Int}
theorem m_isIn (x lo hi : Int) (h : AH) : f11_isIn x lo hi h = some (if w32 lo ≤ w32 x ∧ w32 x ≤ w32 hi then 1 else 0, h) := by
  unfold f11_isIn
  repeat' split
  all_goals first | rfl | omega
theorem ite10_or {p : Prop} [Decidable p] : w32 (if p then 1 else 0) = 0 ∨ w32 (if p then 1 else 0) = 1 := by split <;> decide
theorem m_isP (hV : VOK V) (hm : VM h.2 V) (x : Int) : f11_isPerson x h = some (if 0 ≤ w32 x ∧ w32 x < V 0 then 1 else 0, h) := by
  obtain ⟨o, m0, m1, m2, m3, m4, m5⟩ := hm
  have h0 := hV.1
  unfold f11_isPerson
  rw [m_isIn, bnd_some, asrt_t ite10_or, m2, w32_0, w32_id (x := V 0 - 1) (by omega) (by omega)]
  congr 2
  repeat' split
  all_goals first | rfl | omega
theorem m_isS (hV : VOK V) (hm : VM h.2 V) (x : Int) : f11_isSubject x h = some (if 0 ≤ w32 x ∧ w32 x < V 1 then 1 else 0, h) := by
  obtain ⟨o, m0, m1, m2, m3, m4, m5⟩ := hm
  have h0 := hV.2.1
  unfold f11_isSubject
  rw [m_isIn, bnd_some, asrt_t ite10_or, m3, w32_0, w32_id (x := V 1 - 1) (by omega) (by omega)]
  congr 2
  repeat' split
  all_goals first | rfl | omega
theorem m_two (hV : VOK V) (hm : VM h.2 V) (a b : Int) : f11_isTwo a b h = some (if w32 a ≠ w32 b ∧ (0 ≤ w32 a ∧ w32 a < V 0) ∧ (0 ≤ w32 b ∧ w32 b < V 0) then 1 else 0, h) := by
  unfold f11_isTwo
  rw [m_isP hV hm, bnd_some, m_isP hV hm, bnd_some]
  simp only [ite10_0]
  repeat' split
  all_goals first | rfl | omega
theorem m_at (hm : VM h.2 V) (j : Nat) (hj : j < 72) {e : Int} (he : ∀ o : Int, h.2 69 12 = o → e = o + j) : (0 ≤ w32 e ∧ w32 e < 4824) ∧ h.2 70 (w32 e).toNat = V j := by
  obtain ⟨o, m0, m1, m2, m3, m4, m5⟩ := hm
  have e1 : e = ((o + j : Nat) : Int) := by rw [he _ m1]; omega
  rw [e1, w32_id (by omega) (by omega)]
  refine ⟨by omega, ?_⟩
  rw [Int.toNat_natCast]
  exact m5 j hj
theorem m_held (hm : VM h.2 V) (a s : Int) (ha : 0 ≤ a ∧ a < 8) (hs : 0 ≤ s ∧ s < 6) : f11_heldOf a s h = some (V (24 + (6 * a.toNat + s.toNat)), h) := by
  have := m_at hm (24 + (6 * a.toNat + s.toNat)) (by omega) (e := (((h.2 69 12) + 24) + (6 * a)) + s) (fun o ho => by rw [ho]; omega)
  unfold f11_heldOf
  rw [asrt_t this.1, this.2]
theorem m_heat (hm : VM h.2 V) (s : Int) (hs : 0 ≤ s ∧ s < 6) : f11_heatOf s h = some (V (4 + 2 * s.toNat), h) := by
  have := m_at hm (4 + 2 * s.toNat) (by omega) (e := ((h.2 69 12) + 4) + (2 * s)) (fun o ho => by rw [ho]; omega)
  unfold f11_heatOf
  rw [asrt_t this.1, this.2]
theorem m_fades (hm : VM h.2 V) (s : Int) (hs : 0 ≤ s ∧ s < 6) : f11_fadesOf s h = some (V (5 + 2 * s.toNat), h) := by
  have := m_at hm (5 + 2 * s.toNat) (by omega) (e := (((h.2 69 12) + 4) + 1) + (2 * s)) (fun o ho => by rw [ho]; omega)
  unfold f11_fadesOf
  rw [asrt_t this.1, this.2]
theorem m_wants (hm : VM h.2 V) (s : Int) (hs : 0 ≤ s ∧ s < 4) : f11_wantsOf s h = some (V (16 + 2 * s.toNat), h) := by
  have := m_at hm (16 + 2 * s.toNat) (by omega) (e := ((h.2 69 12) + 16) + (2 * s)) (fun o ho => by rw [ho]; omega)
  unfold f11_wantsOf
  rw [asrt_t this.1, this.2]
theorem m_cracks (hm : VM h.2 V) (s : Int) (hs : 0 ≤ s ∧ s < 4) : f11_cracksOf s h = some (V (17 + 2 * s.toNat), h) := by
  have := m_at hm (17 + 2 * s.toNat) (by omega) (e := (((h.2 69 12) + 16) + 1) + (2 * s)) (fun o ho => by rw [ho]; omega)
  unfold f11_cracksOf
  rw [asrt_t this.1, this.2]
theorem sHeld_in (hC : ∀ _ : Unit, True) {p s : Int} (h : 0 ≤ p ∧ p < V 0 ∧ 0 ≤ s ∧ s < V 1) : sHeld V p s = V (24 + (6 * p.toNat + s.toNat)) := if_pos h
theorem m_off (x y : Int) (h : AH) (hx : -1000 ≤ x ∧ x ≤ 1000) (hy : -1000 ≤ y ∧ y ≤ 1000) : f11_off x y h = some (if y ≤ x then x - y else y - x, h) := by
  unfold f11_off
  rw [w32_id (x := x) (by omega) (by omega), w32_id (x := y) (by omega) (by omega)]
  repeat' split
  all_goals first | rfl | omega | (congr 2; omega)
theorem m_apart (hV : VOK V) (hm : VM h.2 V) (a b s : Int) (ha : 0 ≤ a ∧ a < V 0) (hb : 0 ≤ b ∧ b < V 0) (hs : 0 ≤ s ∧ s < V 1) (hab : a ≠ b) : f11_apartOf a b s h = some (sGap V a b s, h) := by
  have r1 := sHeld_rng hV a s
  have r2 := sHeld_rng hV b s
  have q1 := hV.1
  have q2 := hV.2.1
  have e1 := m_held hm a s (by omega) (by omega)
  have e2 := m_held hm b s (by omega) (by omega)
  rw [← sHeld_in (fun _ => trivial) (V := V) (p := a) (s := s) (by omega)] at e1
  rw [← sHeld_in (fun _ => trivial) (V := V) (p := b) (s := s) (by omega)] at e2
  unfold f11_apartOf sGap
  rw [if_neg hab]
  simp only [e1, e2, bnd_some]
  rw [m_off _ _ _ (by omega) (by omega), bnd_some]
  generalize sHeld V a s = x at *
  generalize sHeld V b s = y at *
  rw [w32_id (x := x) (by omega) (by omega), w32_id (x := y) (by omega) (by omega)]
  repeat' split
  all_goals first | rfl | omega
theorem sHeat_in {s : Int} (h : 0 ≤ s ∧ s < V 1) : sHeat V s = V (4 + 2 * s.toNat) := if_pos h
theorem m_burns (hV : VOK V) (hm : VM h.2 V) (a b s : Int) (ha : 0 ≤ a ∧ a < V 0) (hb : 0 ≤ b ∧ b < V 0) (hs : 0 ≤ s ∧ s < V 1) (hab : a ≠ b) : f11_burnsOf a b s h = some (sBurn V a b s, h) := by
  have r1 := sGap_rng hV a b s
  have q2 := hV.2.1
  have e3 := m_heat hm s (by omega)
  rw [← sHeat_in (V := V) hs] at e3
  unfold f11_burnsOf sBurn mx
  simp only [m_apart hV hm a b s ha hb hs hab, bnd_some, e3]
  rw [w32_id (x := sGap V a b s) (by omega) (by omega)]
  by_cases hC : sGap V a b s = -1
  · rw [if_neg (fun q => q hC), hC]; simp
  · rw [if_pos hC]
    congr 2
    split
    · rfl
    · rw [show sGap V a b s = 0 by omega]
theorem m_often (hV : VOK V) (hm : VM h.2 V) (a b s : Int) (ha : 0 ≤ a ∧ a < V 0) (hb : 0 ≤ b ∧ b < V 0) (hs : 0 ≤ s ∧ s < V 1) (hab : a ≠ b) : f11_oftenOf a b s h = some (sQIA V a b s, h) := by
  have r1 := sGap_rng hV a b s
  have q2 := hV.2.1
  have q3 := hV.2.2.2.2.1 s.toNat (by omega)
  have e3 := m_heat hm s (by omega)
  have e4 := m_fades hm s (by omega)
  obtain ⟨t, ht⟩ : ∃ t : Nat, V (4 + 2 * s.toNat) = t := ⟨(V (4 + 2 * s.toNat)).toNat, by omega⟩
  obtain ⟨f, hf⟩ : ∃ f : Nat, V (5 + 2 * s.toNat) = f := ⟨(V (5 + 2 * s.toNat)).toNat, by omega⟩
  have hk := (oft_ok t (by omega) f (by omega) (by omega)).1
  unfold f11_oftenOf sQIA
  rw [m_apart hV hm a b s ha hb hs hab, bnd_some, w32_id (x := sGap V a b s) (by omega) (by omega), e3, bnd_some]
  by_cases hC : 0 < sGap V a b s
  · rw [if_pos hC, if_neg (by omega)]
    have e5 : ∀ i : Nat, sAft V s i = mx 0 ((t : Int) - i * (f : Int)) := fun i => by unfold sAft; rw [if_pos hs, ht, hf]
    simp only [e5]
    rw [hk, ht]
    unfold l11_oftenOf_22
    have hdiv : (t + f - 1) / f ≤ 9 := by
      have : (t + f - 1) / f ≤ (t + f - 1) := Nat.div_le_self _ _
      rcases Nat.lt_or_ge f 2 with q | q
      · have : f = 1 := by omega
        subst this
        simp
        omega
      · have : (t + f - 1) / f < 10 := Nat.div_lt_of_lt_mul (by
          have : 10 * 2 ≤ f * 10 := by omega
          omega)
        omega
    rw [show ((0 : Int), (t : Int), h) = (fun i : Nat => ((i : Int), (t : Int) - i * (f : Int), h)) 0 from by simp]
    refine fx_run (P := fun i : Nat => ((i : Int), (t : Int) - i * (f : Int), h)) ((t + f - 1) / f) (fun i hi rec => ?_) (fun rec => ?_) (FU_big (by omega))
    · unfold b11_oftenOf_22
      dsimp only
      have hlt : i * f < t := by
        have h1 : (i + 1) * f ≤ (t + f - 1) / f * f := Nat.mul_le_mul_right _ hi
        have h2 : (t + f - 1) / f * f ≤ t + f - 1 := Nat.div_mul_le_self _ _
        have h3 : (i + 1) * f = i * f + f := by rw [Nat.add_mul, Nat.one_mul]
        omega
      have hc1 : ((i * f : Nat) : Int) = (i : Int) * (f : Int) := Int.natCast_mul i f
      rw [← hc1, w32_id (by omega) (by omega), if_neg (by omega), e4, bnd_some, lt_eq, hf]
      congr 2
      congr 1
      rw [Int.natCast_add, Int.add_mul, hc1]
      omega
    · unfold b11_oftenOf_22
      dsimp only
      have hge : t ≤ (t + f - 1) / f * f := by
        have h1 := Nat.div_add_mod (t + f - 1) f
        have h2 : (t + f - 1) % f < f := Nat.mod_lt _ (by omega)
        have h3 : f * ((t + f - 1) / f) = (t + f - 1) / f * f := Nat.mul_comm _ _
        omega
      have hle : (t + f - 1) / f * f ≤ t + f - 1 := Nat.div_mul_le_self _ _
      have hc1 : (((t + f - 1) / f * f : Nat) : Int) = (((t + f - 1) / f : Nat) : Int) * (f : Int) := Int.natCast_mul _ f
      rw [← hc1, w32_id (by omega) (by omega), if_pos (by omega)]
  · rw [if_neg hC, if_pos (by omega)]
theorem sm_mul (g : Int) (f : Nat → Int) (n : Nat) : g * sm f n = sm (fun i => g * f i) n := by
  induction n with
  | zero => simp [sm]
  | succ n ih => simp only [sm, Int.mul_add, ih]
theorem sBIA_sm (hV : VOK V) (a b s : Int) (hs : 0 ≤ s ∧ s < V 1) : ∃ N : Nat, sQIA V a b s = N ∧ N ≤ 9 ∧ sBIA V a b s = sm (fun i => sGap V a b s * (V (4 + 2 * s.toNat) - i * V (5 + 2 * s.toNat))) N := by
  have q3 := hV.2.2.2.2.1 s.toNat (by omega)
  obtain ⟨t, ht⟩ : ∃ t : Nat, V (4 + 2 * s.toNat) = t := ⟨(V (4 + 2 * s.toNat)).toNat, by omega⟩
  obtain ⟨f, hf⟩ : ∃ f : Nat, V (5 + 2 * s.toNat) = f := ⟨(V (5 + 2 * s.toNat)).toNat, by omega⟩
  have hk := oft_ok t (by omega) f (by omega) (by omega)
  have e5 : ∀ i : Nat, sAft V s i = mx 0 ((t : Int) - i * (f : Int)) := fun i => by unfold sAft; rw [if_pos hs, ht, hf]
  have hdiv : (t + f - 1) / f ≤ 9 := by
    have := sm_rng (f := fun i : Nat => if mx 0 ((t : Int) - i * (f : Int)) ≤ 0 then (0 : Int) else 1) (n := 9) (lo := 0) (hi := 1) (fun i _ => by split <;> omega)
    rw [hk.1] at this
    omega
  unfold sQIA sBIA
  simp only [e5]
  rw [hk.1, hk.2, ht, hf]
  by_cases hC : sGap V a b s ≤ 0
  · refine ⟨0, if_pos hC, by omega, ?_⟩
    unfold mx
    rw [if_neg (by omega), Int.zero_mul]
    rfl
  · refine ⟨_, if_neg hC, hdiv, ?_⟩
    unfold mx
    rw [if_pos (by omega), sm_mul]
theorem m_lasts (hV : VOK V) (hm : VM h.2 V) (a b s : Int) (ha : 0 ≤ a ∧ a < V 0) (hb : 0 ≤ b ∧ b < V 0) (hs : 0 ≤ s ∧ s < V 1) (hab : a ≠ b) : f11_lastsOf a b s h = some (sBIA V a b s, h) := by
  have q2 := hV.2.1
  have e3 := m_heat hm s (by omega)
  have e4 := m_fades hm s (by omega)
  obtain ⟨N, hN, hN9, hB⟩ := sBIA_sm hV a b s hs
  rw [hB]
  unfold f11_lastsOf l11_lastsOf_6
  refine loop2 (fun i => sm (fun i => sGap V a b s * (V (4 + 2 * s.toNat) - i * V (5 + 2 * s.toNat))) i) N h (fun i hi rec => ?_) (fun rec => ?_) (by omega)
  · unfold b11_lastsOf_6
    dsimp only
    rw [m_often hV hm a b s ha hb hs hab, bnd_some, hN, w32_id (x := (N : Int)) (by omega) (by omega), w32_id (x := (i : Int)) (by omega) (by omega), if_neg (by omega), m_apart hV hm a b s ha hb hs hab, bnd_some, e3, bnd_some, e4, bnd_some, lt_eq]
    rfl
  · unfold b11_lastsOf_6
    dsimp only
    rw [m_often hV hm a b s ha hb hs hab, bnd_some, hN, if_pos (Int.le_refl _)]
theorem m_tog (hV : VOK V) (hm : VM h.2 V) (a b : Int) (ha : 0 ≤ a ∧ a < V 0) (hb : 0 ≤ b ∧ b < V 0) (hab : a ≠ b) : f11_togetherOf a b h = some (sBOA V a b, h) := by
  have q2 := hV.2.1
  have hs3 : h.2 69 14 = V 1 := by obtain ⟨o, m0, m1, m2, m3, m4, m5⟩ := hm; exact m3
  unfold f11_togetherOf l11_togetherOf_5 sBOA
  refine loop2 (fun i => sm (fun s => sBIA V a b s) i) (V 1).toNat h (fun i hi rec => ?_) (fun rec => ?_) (by omega)
  · unfold b11_togetherOf_5
    dsimp only
    rw [hs3, w32_id (x := V 1) (by omega) (by omega), w32_id (x := (i : Int)) (by omega) (by omega), if_neg (by omega), m_lasts hV hm a b i ha hb (by omega) hab, bnd_some]
    rfl
  · unfold b11_togetherOf_5
    dsimp only
    rw [hs3, w32_id (x := V 1) (by omega) (by omega), w32_id (x := ((V 1).toNat : Int)) (by omega) (by omega), if_pos (by omega)]
end ModV
