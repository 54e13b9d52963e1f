/-! reading side by side: subjects and hearths -/
section VLine2
variable {z w z1 w1 : AH} {n : Nat} {bt : Nat → Int} {kd f t : Nat}
theorem mayH {r v0 : Int} {F0 : Prop} (hr : 1 ≤ r ∧ (r ≤ 60 ∨ r = 1)) (hv : 0 ≤ v0 ∧ v0 ≤ 99) (e40 : z.2 40 0 = v0) (hok : z.2 28 3 = 0 → F0 ∧ r = v0 ∧ 1 ≤ v0 ∧ v0 ≤ 60 ∧ True) (v : Int) (u : AH) (v1 : 0 ≤ v) (v2 : v ≤ 99) (hv2 : u.2 40 1 = v) (hu : ∀ j, j ≠ 1 → u.2 40 j = z.2 40 j) : ∃ b, f5_mayBe ((3 : Nat) : Int) ((1 : Nat) : Int) u = some (b, u) ∧ (b = 0 ∨ b = 1) ∧ (z.2 28 3 = 0 → (b = 1 ↔ r ≤ v ∧ v ≤ 99)) := by
  obtain ⟨b, b1, b2, b3⟩ := c_mayBe (u := u) (v := v) (line := 3) (i := 1) (by omega) (by omega) 1 99 rfl rfl (by omega) (by omega) hv2 ⟨v1, v2⟩ (fun q => by rw [hu 0 (by omega), e40]; exact hv)
  refine ⟨b, b1, b2, fun e => b3.trans ?_⟩
  obtain ⟨-, q1, q2, q3, -⟩ := hok e
  have e0 : u.2 40 0 = r := by rw [hu 0 (by omega), e40, q1]
  constructor
  · intro x
    have := (x.2 rfl).1 rfl
    omega
  · intro x
    exact ⟨by omega, fun _ => ⟨fun _ => by omega, fun q => by omega⟩⟩
def tl2 (r1 r5 : Int) (h6 : AH) : Option (Int × AH) :=
  asrt (0 ≤ w32 1 ∧ w32 1 < 201) <|
  if w32 (h6.2 72 (w32 1).toNat) < 6 then
    asrt (0 ≤ w32 1 ∧ w32 1 < 201) <|
    asrt (0 ≤ w32 (4 + (2 * (h6.2 72 (w32 1).toNat))) ∧ w32 (4 + (2 * (h6.2 72 (w32 1).toNat))) < 201) <|
    lt (wr h6 72 (w32 (4 + (2 * (h6.2 72 (w32 1).toNat)))).toNat r1) fun h12 =>
    asrt (0 ≤ w32 1 ∧ w32 1 < 201) <|
    asrt (0 ≤ w32 (5 + (2 * (h12.2 72 (w32 1).toNat))) ∧ w32 (5 + (2 * (h12.2 72 (w32 1).toNat))) < 201) <|
    lt (wr h12 72 (w32 (5 + (2 * (h12.2 72 (w32 1).toNat)))).toNat r5) fun h16 =>
    asrt (0 ≤ w32 1 ∧ w32 1 < 201) <|
    asrt (0 ≤ w32 1 ∧ w32 1 < 201) <|
    lt (wr h16 72 (w32 1).toNat ((h16.2 72 (w32 1).toNat) + 1)) fun h20 =>
    bnd (f11_endsLine h20) fun _ h23 =>
    some (0, h23)
  else
    bnd (f11_endsLine h6) fun _ h27 =>
    some (0, h27)
theorem tl2_eq {h : AH} {c : Nat} (hc : h.2 72 1 = c) (c6 : c ≤ 6) (r1 r5 : Int) : tl2 r1 r5 h = if c < 6 then bnd (f11_endsLine (wr (wr (wr h 72 (4 + 2 * c) r1) 72 (5 + 2 * c) r5) 72 1 ((c : Int) + 1))) fun _ h => some (0, h) else bnd (f11_endsLine h) fun _ h => some (0, h) := by
  unfold tl2
  rw [asrt_t (by decide), show (w32 1).toNat = 1 from rfl, hc, w32_id (x := (c : Int)) (by omega) (by omega)]
  by_cases y : c < 6
  · rw [if_pos (by omega), if_pos y, asrt_t (by decide), show (4 : Int) + 2 * (c : Int) = ((4 + 2 * c : Nat) : Int) by omega, w32_id (x := ((4 + 2 * c : Nat) : Int)) (by omega) (by omega), asrt_t (by omega), lt_eq, asrt_t (by decide), Int.toNat_natCast, wr_e (by omega), hc, show (5 : Int) + 2 * (c : Int) = ((5 + 2 * c : Nat) : Int) by omega, w32_id (x := ((5 + 2 * c : Nat) : Int)) (by omega) (by omega), asrt_t (by omega), lt_eq, asrt_t (by decide), asrt_t (by decide), lt_eq, Int.toNat_natCast, wr_e (by omega), wr_e (by omega), hc]
  · rw [if_neg (by omega), if_neg y]
theorem tl2_iv {h : AH} {c : Nat} {r1 r5 : Int} (hc : h.2 72 1 = c) (y : c < 6) (hI : IV h) : IV (wr (wr (wr h 72 (4 + 2 * c) r1) 72 (5 + 2 * c) r5) 72 1 ((c : Int) + 1)) := by
  obtain ⟨i1, i2, i3, i4⟩ := hI
  refine ⟨by rw [wr_at]; omega, by rw [wr_e (by omega), wr_e (by omega), wr_e (by omega)]; exact i2, ?_, ?_⟩
  · rw [wr_e (by omega), wr_e (by omega), wr_e (by omega)]; exact i3
  · rw [wr_e (by omega), wr_e (by omega), wr_e (by omega)]; exact i4
theorem tl2_br {u : AH} (r1 r5 : Int) (u8 : u.2 69 8 = 1) (uI : IV u) : BR IV u (tl2 r1 r5 u) := by
  obtain ⟨c, hc⟩ : ∃ c : Nat, u.2 72 1 = c := ⟨(u.2 72 1).toNat, by have := uI.1; have := uI.2.1; omega⟩
  have c6 : c ≤ 6 := by have := uI.1; have := uI.2.1; omega
  rw [tl2_eq hc c6]
  by_cases y : c < 6
  · rw [if_pos y, m_end1 (by rw [wr_e (by omega), wr_e (by omega), wr_e (by omega)]; exact u8), bnd_some]
    exact ⟨_, rfl, ((Ky.w1 (Or.inl rfl)).w2 (Or.inl rfl)).w2 (Or.inl rfl), tl2_iv hc y uI⟩
  · rw [if_neg y, m_end1 u8, bnd_some]
    exact ⟨_, rfl, Ky.rf _, uI⟩
theorem vl2 (hG : TG n bt z w kd f t) (hF : FtA z w f) (hI : IV w) (hC : z.2 28 3 = 0 → CV z w) (hM : z.2 28 3 = 0 → w.2 72 1 < 6) : LnO n bt CV IV 2 0 z w t (b11_villageLine_97 w) := by
  have e : b11_villageLine_97 w = bnd (f11_numbered 1 9 w) fun r1 h2 => bnd (f11_numbered 1 9 h2) fun r5 h6 => tl2 r1 r5 h6 := rfl
  rw [e]
  refine g_num (by omega) (s_num (N := 2) (by omega) rfl (by omega) (by omega) hG hF (by omega) (by omega) (may0 1 9 (by omega) (by omega) rfl rfl (by omega) (by omega) (by omega) (fun q => by omega))) IVk hI (fun u u8 uI => ?_) (fun v r z' w' kd' f' t' kz kw G' F' I' e40 eo hok hr hv => ?_)
  · rw [m_num1 u8, bnd_some]; exact tl2_br _ _ u8 uI
  refine g_num (by omega) (s_num (N := 2) (by omega) rfl (by omega) (by omega) G' F' (by omega) (by omega) (may0 1 9 (by omega) (by omega) rfl rfl (by omega) (by omega) (by omega) (fun q => by rw [e40]; exact hv))) IVk I' (fun u u8 uI => tl2_br _ _ u8 uI) (fun v2 r2 z2 w2 kd2 f2 t2 kz2 kw2 G2 F2 I2 e402 eo2 hok2 hr2 hv2 => ?_)
  obtain ⟨c, hc⟩ : ∃ c : Nat, w2.2 72 1 = c := ⟨(w2.2 72 1).toNat, by have := I2.1; have := I2.2.1; omega⟩
  have c6 : c ≤ 6 := by have := I2.1; have := I2.2.1; omega
  rw [tl2_eq hc c6]
  have cw : w2.2 72 1 = w.2 72 1 := by rw [kRM72 kw2, kRM72 kw]
  by_cases y : c < 6
  · rw [if_pos y]
    have k1 : Ky kWr w2 (wr (wr (wr w2 72 (4 + 2 * c) r) 72 (5 + 2 * c) r2) 72 1 ((c : Int) + 1)) := ((Ky.w1 (Or.inl rfl)).w2 (Or.inl rfl)).w2 (Or.inl rfl)
    refine LnO.pre (g_end (N := 2) (by omega) (s_end (N := 2) (by omega) rfl (by omega) (G2.kw k1) (F2.kw k1)) IVk CVk (tl2_iv hc y I2) (fun e => ?_)) k1
    obtain ⟨e1, rv2, l3, l4, -⟩ := hok2 e
    obtain ⟨e0, rv, l1, l2, -⟩ := hok e1
    obtain ⟨⟨c0, c1, c2, c3, c4, c5, c6'⟩, ⟨d0, d1, d2, d3, d4, d5, d6⟩, c7, c8⟩ := CVk _ _ _ _ kz2 kw2 (CVk _ _ _ _ kz kw (hC e0))
    have a0 : z2.2 40 0 = r := by rw [eo2 0 (by omega), e40, rv]
    have a1 : z2.2 40 1 = r2 := by rw [e402, rv2]
    have dc : z2.2 29 1 = c := by omega
    clear hok hok2 hr hr2 hM hC F2 F' hF
    refine ⟨wr (wr (wr z2 30 c r) 31 c r2) 29 1 ((c : Int) + 1), ?_, ((Ky.w1 (by unfold kTk; omega)).w2 (by unfold kTk; omega)).w2 (by unfold kTk; omega), ⟨?_, ?_, ?_, ?_, ?_, ?_, ?_⟩, ⟨?_, ?_, ?_, ?_, ?_, ?_, ?_⟩, ?_, ?_⟩
    · unfold f5_take f5_takeSubject
      rw [if_neg (by decide), if_neg (by decide), if_pos (by decide), dc, w32_id (x := (c : Int)) (by omega) (by omega), if_neg (by omega), asrt_t (by decide), asrt_t (by omega), lt_eq, asrt_t (by decide), show (w32 0).toNat = 0 from rfl, show (w32 1).toNat = 1 from rfl, wr_e (by omega), dc, w32_id (x := (c : Int)) (by omega) (by omega), asrt_t (by omega), lt_eq, lt_eq, Int.toNat_natCast, wr_e (by omega), wr_e (by omega), wr_e (by omega), a0, a1, dc, bnd_some]
    · rw [wr_e (by omega), wr_e (by omega), wr_e (by omega)]; exact c0
    · rw [wr_at]; omega
    · rw [wr_e (by omega), wr_e (by omega), wr_e (by omega)]; exact c2
    · rw [wr_e (by omega), wr_e (by omega), wr_e (by omega)]; exact c3
    · intro s hs
      rw [wr_at] at hs
      by_cases q : s = c
      · subst q
        rw [wr_e (by omega), wr_e (by omega), wr_at, wr_e (by omega), wr_at]
        omega
      · rw [wr_e (by omega), wr_e (by omega), wr_e (by omega), wr_e (by omega), wr_e (by omega), wr_e (by omega)]; exact c4 s (by omega)
    · intro s hs
      rw [wr_e (by omega), wr_e (by omega), wr_e (by omega)] at hs
      rw [wr_e (by omega), wr_e (by omega), wr_e (by omega), wr_e (by omega), wr_e (by omega), wr_e (by omega)]; exact c5 s hs
    · intro q hq
      rw [wr_e (by omega), wr_e (by omega), wr_e (by omega)]; exact c6' q hq
    · rw [wr_e (by omega), wr_e (by omega), wr_e (by omega), wr_e (by omega), wr_e (by omega), wr_e (by omega)]; exact d0
    · rw [wr_at, wr_at]
    · rw [wr_e (by omega), wr_e (by omega), wr_e (by omega), wr_e (by omega), wr_e (by omega), wr_e (by omega)]; exact d2
    · rw [wr_e (by omega), wr_e (by omega), wr_e (by omega), wr_e (by omega), wr_e (by omega), wr_e (by omega)]; exact d3
    · intro s hs
      rw [wr_at] at hs
      by_cases q : s = c
      · subst q
        constructor
        · rw [wr_e (by omega), wr_e (by omega), wr_at, wr_e (by omega), wr_e (by omega), wr_at]
        · rw [wr_e (by omega), wr_at, wr_e (by omega), wr_at]
      · rw [wr_e (by omega), wr_e (by omega), wr_e (by omega), wr_e (by omega), wr_e (by omega), wr_e (by omega), wr_e (by omega), wr_e (by omega), wr_e (by omega), wr_e (by omega), wr_e (by omega), wr_e (by omega)]; exact d4 s (by omega)
    · intro s hs
      rw [wr_e (by omega), wr_e (by omega), wr_e (by omega)] at hs
      rw [wr_e (by omega), wr_e (by omega), wr_e (by omega), wr_e (by omega), wr_e (by omega), wr_e (by omega), wr_e (by omega), wr_e (by omega), wr_e (by omega), wr_e (by omega), wr_e (by omega), wr_e (by omega)]; exact d5 s hs
    · intro q hq
      rw [wr_e (by omega), wr_e (by omega), wr_e (by omega), wr_e (by omega), wr_e (by omega), wr_e (by omega)]; exact d6 q hq
    · rw [wr_e (by omega), wr_e (by omega), wr_e (by omega), wr_e (by omega), wr_e (by omega), wr_e (by omega)]; exact c7
    · rw [wr_e (by omega), wr_e (by omega), wr_e (by omega), wr_e (by omega), wr_e (by omega), wr_e (by omega)]; exact c8
  · rw [if_neg y]
    refine g_end (N := 2) (by omega) (s_end (N := 2) (by omega) rfl (by omega) G2 F2) IVk CVk I2 (fun e => ?_)
    obtain ⟨e1, -⟩ := hok2 e
    obtain ⟨e0, -⟩ := hok e1
    have := hM e0
    omega
def tl3 (r1 r5 : Int) (h6 : AH) : Option (Int × AH) :=
  asrt (0 ≤ w32 2 ∧ w32 2 < 201) <|
  if w32 (h6.2 72 (w32 2).toNat) < 4 then
    asrt (0 ≤ w32 2 ∧ w32 2 < 201) <|
    asrt (0 ≤ w32 (16 + (2 * (h6.2 72 (w32 2).toNat))) ∧ w32 (16 + (2 * (h6.2 72 (w32 2).toNat))) < 201) <|
    lt (wr h6 72 (w32 (16 + (2 * (h6.2 72 (w32 2).toNat)))).toNat r1) fun h12 =>
    asrt (0 ≤ w32 2 ∧ w32 2 < 201) <|
    asrt (0 ≤ w32 (17 + (2 * (h12.2 72 (w32 2).toNat))) ∧ w32 (17 + (2 * (h12.2 72 (w32 2).toNat))) < 201) <|
    lt (wr h12 72 (w32 (17 + (2 * (h12.2 72 (w32 2).toNat)))).toNat r5) fun h16 =>
    asrt (0 ≤ w32 2 ∧ w32 2 < 201) <|
    asrt (0 ≤ w32 2 ∧ w32 2 < 201) <|
    lt (wr h16 72 (w32 2).toNat ((h16.2 72 (w32 2).toNat) + 1)) fun h20 =>
    bnd (f11_endsLine h20) fun _ h23 =>
    some (0, h23)
  else
    bnd (f11_endsLine h6) fun _ h27 =>
    some (0, h27)
theorem tl3_eq {h : AH} {c : Nat} (hc : h.2 72 2 = c) (c6 : c ≤ 4) (r1 r5 : Int) : tl3 r1 r5 h = if c < 4 then bnd (f11_endsLine (wr (wr (wr h 72 (16 + 2 * c) r1) 72 (17 + 2 * c) r5) 72 2 ((c : Int) + 1))) fun _ h => some (0, h) else bnd (f11_endsLine h) fun _ h => some (0, h) := by
  unfold tl3
  rw [asrt_t (by decide), show (w32 2).toNat = 2 from rfl, hc, w32_id (x := (c : Int)) (by omega) (by omega)]
  by_cases y : c < 4
  · rw [if_pos (by omega), if_pos y, asrt_t (by decide), show (16 : Int) + 2 * (c : Int) = ((16 + 2 * c : Nat) : Int) by omega, w32_id (x := ((16 + 2 * c : Nat) : Int)) (by omega) (by omega), asrt_t (by omega), lt_eq, asrt_t (by decide), Int.toNat_natCast, wr_e (by omega), hc, show (17 : Int) + 2 * (c : Int) = ((17 + 2 * c : Nat) : Int) by omega, w32_id (x := ((17 + 2 * c : Nat) : Int)) (by omega) (by omega), asrt_t (by omega), lt_eq, asrt_t (by decide), asrt_t (by decide), lt_eq, Int.toNat_natCast, wr_e (by omega), wr_e (by omega), hc]
  · rw [if_neg (by omega), if_neg y]
theorem tl3_iv {h : AH} {c : Nat} {r1 r5 : Int} (hc : h.2 72 2 = c) (y : c < 4) (hI : IV h) : IV (wr (wr (wr h 72 (16 + 2 * c) r1) 72 (17 + 2 * c) r5) 72 2 ((c : Int) + 1)) := by
  obtain ⟨i1, i2, i3, i4⟩ := hI
  refine ⟨by rw [wr_e (by omega), wr_e (by omega), wr_e (by omega)]; exact i1, by rw [wr_at]; omega, ?_, ?_⟩
  · rw [wr_e (by omega), wr_e (by omega), wr_e (by omega)]; exact i3
  · rw [wr_e (by omega), wr_e (by omega), wr_e (by omega)]; exact i4
theorem tl3_br {u : AH} (r1 r5 : Int) (u8 : u.2 69 8 = 1) (uI : IV u) : BR IV u (tl3 r1 r5 u) := by
  obtain ⟨c, hc⟩ : ∃ c : Nat, u.2 72 2 = c := ⟨(u.2 72 2).toNat, by have := uI.1; have := uI.2.1; omega⟩
  have c6 : c ≤ 4 := by have := uI.1; have := uI.2.1; omega
  rw [tl3_eq hc c6]
  by_cases y : c < 4
  · rw [if_pos y, m_end1 (by rw [wr_e (by omega), wr_e (by omega), wr_e (by omega)]; exact u8), bnd_some]
    exact ⟨_, rfl, ((Ky.w1 (Or.inl rfl)).w2 (Or.inl rfl)).w2 (Or.inl rfl), tl3_iv hc y uI⟩
  · rw [if_neg y, m_end1 u8, bnd_some]
    exact ⟨_, rfl, Ky.rf _, uI⟩
theorem vl3 (hG : TG n bt z w kd f t) (hF : FtA z w f) (hI : IV w) (hC : z.2 28 3 = 0 → CV z w) (hM : z.2 28 3 = 0 → w.2 72 2 < 4) : LnO n bt CV IV 3 0 z w t (b11_villageLine_190 w) := by
  have e : b11_villageLine_190 w = bnd (f11_numbered 1 60 w) fun r1 h2 => bnd (f11_numbered r1 99 h2) fun r5 h6 => tl3 r1 r5 h6 := rfl
  rw [e]
  refine g_num (by omega) (s_num (N := 2) (by omega) rfl (by omega) (by omega) hG hF (by omega) (by omega) (may0 1 60 (by omega) (by omega) rfl rfl (by omega) (by omega) (by omega) (fun q => by omega))) IVk hI (fun u u8 uI => ?_) (fun v r z' w' kd' f' t' kz kw G' F' I' e40 eo hok hr hv => ?_)
  · rw [m_num1 u8, bnd_some]; exact tl3_br _ _ u8 uI
  refine g_num (by omega) (s_num (N := 2) (by omega) rfl (by omega) (by omega) G' F' (by omega) (by omega) (mayH (r := r) hr hv e40 hok)) IVk I' (fun u u8 uI => tl3_br _ _ u8 uI) (fun v2 r2 z2 w2 kd2 f2 t2 kz2 kw2 G2 F2 I2 e402 eo2 hok2 hr2 hv2 => ?_)
  obtain ⟨c, hc⟩ : ∃ c : Nat, w2.2 72 2 = c := ⟨(w2.2 72 2).toNat, by have := I2.1; have := I2.2.1; omega⟩
  have c6 : c ≤ 4 := by have := I2.1; have := I2.2.1; omega
  rw [tl3_eq hc c6]
  have cw : w2.2 72 2 = w.2 72 2 := by rw [kRM72 kw2, kRM72 kw]
  by_cases y : c < 4
  · rw [if_pos y]
    have k1 : Ky kWr w2 (wr (wr (wr w2 72 (16 + 2 * c) r) 72 (17 + 2 * c) r2) 72 2 ((c : Int) + 1)) := ((Ky.w1 (Or.inl rfl)).w2 (Or.inl rfl)).w2 (Or.inl rfl)
    refine LnO.pre (g_end (N := 2) (by omega) (s_end (N := 2) (by omega) rfl (by omega) (G2.kw k1) (F2.kw k1)) IVk CVk (tl3_iv hc y I2) (fun e => ?_)) k1
    obtain ⟨e1, rv2, l3, l4, -⟩ := hok2 e
    obtain ⟨e0, rv, l1, l2, -⟩ := hok e1
    obtain ⟨⟨c0, c1, c2, c3, c4, c5, c6'⟩, ⟨d0, d1, d2, d3, d4, d5, d6⟩, c7, c8⟩ := CVk _ _ _ _ kz2 kw2 (CVk _ _ _ _ kz kw (hC e0))
    have a0 : z2.2 40 0 = r := by rw [eo2 0 (by omega), e40, rv]
    have a1 : z2.2 40 1 = r2 := by rw [e402, rv2]
    have dc : z2.2 29 2 = c := by omega
    clear hok hok2 hr hr2 hM hC F2 F' hF
    refine ⟨wr (wr (wr z2 32 c r) 33 c r2) 29 2 ((c : Int) + 1), ?_, ((Ky.w1 (by unfold kTk; omega)).w2 (by unfold kTk; omega)).w2 (by unfold kTk; omega), ⟨?_, ?_, ?_, ?_, ?_, ?_, ?_⟩, ⟨?_, ?_, ?_, ?_, ?_, ?_, ?_⟩, ?_, ?_⟩
    · unfold f5_take f5_takeHearth
      rw [if_neg (by decide), if_neg (by decide), if_neg (by decide), if_pos (by decide), dc, w32_id (x := (c : Int)) (by omega) (by omega), if_neg (by omega), asrt_t (by decide), asrt_t (by omega), lt_eq, asrt_t (by decide), show (w32 0).toNat = 0 from rfl, show (w32 1).toNat = 1 from rfl, wr_e (by omega), dc, w32_id (x := (c : Int)) (by omega) (by omega), asrt_t (by omega), lt_eq, lt_eq, Int.toNat_natCast, wr_e (by omega), wr_e (by omega), wr_e (by omega), a0, a1, dc, bnd_some]
    · rw [wr_e (by omega), wr_e (by omega), wr_e (by omega)]; exact c0
    · rw [wr_e (by omega), wr_e (by omega), wr_e (by omega)]; exact c1
    · rw [wr_at]; omega
    · rw [wr_e (by omega), wr_e (by omega), wr_e (by omega)]; exact c3
    · intro s hs
      rw [wr_e (by omega), wr_e (by omega), wr_e (by omega)] at hs
      rw [wr_e (by omega), wr_e (by omega), wr_e (by omega), wr_e (by omega), wr_e (by omega), wr_e (by omega)]; exact c4 s hs
    · intro s hs
      rw [wr_at] at hs
      by_cases q : s = c
      · subst q
        rw [wr_e (by omega), wr_e (by omega), wr_at, wr_e (by omega), wr_at]
        omega
      · rw [wr_e (by omega), wr_e (by omega), wr_e (by omega), wr_e (by omega), wr_e (by omega), wr_e (by omega)]; exact c5 s (by omega)
    · intro q hq
      rw [wr_e (by omega), wr_e (by omega), wr_e (by omega)]; exact c6' q hq
    · rw [wr_e (by omega), wr_e (by omega), wr_e (by omega), wr_e (by omega), wr_e (by omega), wr_e (by omega)]; exact d0
    · rw [wr_e (by omega), wr_e (by omega), wr_e (by omega), wr_e (by omega), wr_e (by omega), wr_e (by omega)]; exact d1
    · rw [wr_at, wr_at]
    · rw [wr_e (by omega), wr_e (by omega), wr_e (by omega), wr_e (by omega), wr_e (by omega), wr_e (by omega)]; exact d3
    · intro s hs
      rw [wr_e (by omega), wr_e (by omega), wr_e (by omega)] at hs
      rw [wr_e (by omega), wr_e (by omega), wr_e (by omega), wr_e (by omega), wr_e (by omega), wr_e (by omega), wr_e (by omega), wr_e (by omega), wr_e (by omega), wr_e (by omega), wr_e (by omega), wr_e (by omega)]; exact d4 s hs
    · intro s hs
      rw [wr_at] at hs
      by_cases q : s = c
      · subst q
        constructor
        · rw [wr_e (by omega), wr_e (by omega), wr_at, wr_e (by omega), wr_e (by omega), wr_at]
        · rw [wr_e (by omega), wr_at, wr_e (by omega), wr_at]
      · rw [wr_e (by omega), wr_e (by omega), wr_e (by omega), wr_e (by omega), wr_e (by omega), wr_e (by omega), wr_e (by omega), wr_e (by omega), wr_e (by omega), wr_e (by omega), wr_e (by omega), wr_e (by omega)]; exact d5 s (by omega)
    · intro q hq
      rw [wr_e (by omega), wr_e (by omega), wr_e (by omega), wr_e (by omega), wr_e (by omega), wr_e (by omega)]; exact d6 q hq
    · rw [wr_e (by omega), wr_e (by omega), wr_e (by omega), wr_e (by omega), wr_e (by omega), wr_e (by omega)]; exact c7
    · rw [wr_e (by omega), wr_e (by omega), wr_e (by omega), wr_e (by omega), wr_e (by omega), wr_e (by omega)]; exact c8
  · rw [if_neg y]
    refine g_end (N := 2) (by omega) (s_end (N := 2) (by omega) rfl (by omega) G2 F2) IVk CVk I2 (fun e => ?_)
    obtain ⟨e1, -⟩ := hok2 e
    obtain ⟨e0, -⟩ := hok e1
    have := hM e0
    omega
end VLine2
