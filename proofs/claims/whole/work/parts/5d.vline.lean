/-! reading side by side: who holds what; a village's line -/
section VLine4
variable {z w z1 w1 : AH} {n : Nat} {bt : Nat → Int} {kd f t : Nat}
def tl4 (r116 r120 : Int) (h121 : AH) : Option (Int × AH) :=
  if w32 r116 ≤ w32 (h121.2 69 9) then
    b11_villageLine_301 r116 r120 (h121.2 69 9) h121
  else
    b11_villageLine_301 r116 r120 r116 h121
def tk4 (x3 x4 r61 : Int) (h62 : AH) : Option (Int × AH) :=
  asrt (0 ≤ w32 ((24 + (6 * x3)) + x4) ∧ w32 ((24 + (6 * x3)) + x4) < 201) <|
  lt (wr h62 72 (w32 ((24 + (6 * x3)) + x4)).toNat r61) fun h66 =>
  bnd (f11_endsLine h66) fun _ h69 =>
  some (0, h69)
def w4 (h : AH) (p s : Nat) : AH := wr (wr h 69 9 (if (p : Int) ≤ h.2 69 9 then h.2 69 9 else p)) 69 10 (if (s : Int) ≤ h.2 69 10 then h.2 69 10 else s)
theorem w4_ky {h : AH} {p s : Nat} : Ky (fun a k => a = 69 ∧ (k = 9 ∨ k = 10)) h (w4 h p s) := (Ky.w1 (by omega)).w2 (by omega)
theorem w4_9 {h : AH} {p s : Nat} : (w4 h p s).2 69 9 = (if (p : Int) ≤ h.2 69 9 then h.2 69 9 else p) ∧ (w4 h p s).2 69 10 = (if (s : Int) ≤ h.2 69 10 then h.2 69 10 else s) := ⟨by unfold w4; rw [wr_e (by omega), wr_at], wr_at⟩
theorem w4_iv {h : AH} {p s : Nat} (hp : p ≤ 7) (hs : s ≤ 5) (hI : IV h) : IV (w4 h p s) := by
  obtain ⟨i1, i2, i3, i4⟩ := hI
  unfold IV
  rw [w4_9.1, w4_9.2, w4_ky.2 72 1 (by omega), w4_ky.2 72 2 (by omega)]
  refine ⟨i1, i2, ?_, ?_⟩
  · split <;> omega
  · split <;> omega
theorem tl4_eq {h : AH} {p s : Nat} (hp : p ≤ 7) (hs : s ≤ 5) (hI : IV h) : tl4 p s h = bnd (f11_numbered 0 9 (w4 h p s)) (tk4 p s) := by
  obtain ⟨i1, i2, i3, i4⟩ := hI
  have e3 : ∀ x : Int, b11_villageLine_301 p s x h = bnd (f11_numbered 0 9 (wr (wr h 69 9 x) 69 10 (if (s : Int) ≤ h.2 69 10 then h.2 69 10 else s))) (tk4 p s) := fun x => by
    unfold b11_villageLine_301 b11_villageLine_323
    rw [lt_eq, wr_e (by omega), w32_id (x := (s : Int)) (by omega) (by omega), w32_id (x := h.2 69 10) (by omega) (by omega)]
    by_cases y : (s : Int) ≤ h.2 69 10
    · rw [if_pos y, if_pos y, lt_eq]; rfl
    · rw [if_neg y, if_neg y, lt_eq]; rfl
  unfold tl4 w4
  rw [e3, e3, w32_id (x := (p : Int)) (by omega) (by omega), w32_id (x := h.2 69 9) (by omega) (by omega)]
  by_cases y : (p : Int) ≤ h.2 69 9
  · rw [if_pos y, if_pos y]
  · rw [if_neg y, if_neg y]
theorem tk4_eq {h : AH} {p s : Nat} (hp : p ≤ 7) (hs : s ≤ 5) (r : Int) : tk4 p s r h = bnd (f11_endsLine (wr h 72 (24 + (6 * p + s)) r)) fun _ h => some (0, h) := by
  unfold tk4
  rw [show (24 : Int) + 6 * (p : Int) + (s : Int) = ((24 + (6 * p + s) : Nat) : Int) by omega, w32_id (x := ((24 + (6 * p + s) : Nat) : Int)) (by omega) (by omega), asrt_t (by omega), lt_eq, Int.toNat_natCast]
theorem iv72 {h : AH} {k : Nat} {r : Int} (hk : 24 ≤ k) (hI : IV h) : IV (wr h 72 k r) := by
  unfold IV
  rw [wr_e (by omega), wr_e (by omega), wr_e (by omega), wr_e (by omega)]; exact hI
theorem tk4_br {u : AH} {p s : Nat} (hp : p ≤ 7) (hs : s ≤ 5) (r : Int) (u8 : u.2 69 8 = 1) (uI : IV u) : BR IV u (tk4 p s r u) := by
  rw [tk4_eq hp hs, m_end1 (by rw [wr_e (by omega)]; exact u8), bnd_some]
  exact ⟨_, rfl, Ky.w1 (Or.inl rfl), iv72 (by omega) uI⟩
theorem tl4_br {u : AH} {p s : Nat} (hp : p ≤ 7) (hs : s ≤ 5) (u8 : u.2 69 8 = 1) (uI : IV u) : BR IV u (tl4 p s u) := by
  have v8 : (w4 u p s).2 69 8 = 1 := by rw [w4_ky.2 69 8 (by omega)]; exact u8
  rw [tl4_eq hp hs uI, m_num1 v8, bnd_some]
  obtain ⟨u', h1, h2, h3⟩ := tk4_br hp hs 0 v8 (w4_iv hp hs uI)
  exact ⟨u', h1, (w4_ky.mono (fun a k q => Or.inr q)).tr h2, h3⟩
theorem vl4 (hG : TG n bt z w kd f t) (hF : FtA z w f) (hI : IV w) (hC : z.2 28 3 = 0 → CV z w) : LnO n bt CV IV 4 0 z w t (bnd (f11_numbered 0 7 w) fun r116 h117 => bnd (f11_numbered 0 5 h117) fun r120 h121 => tl4 r116 r120 h121) := by
  refine g_num (by omega) (s_num (N := 3) (by omega) rfl (by omega) (by omega) hG hF (by omega) (by omega) (may0 0 7 (by omega) (by omega) rfl rfl (by omega) (by omega) (by omega) (fun q => by omega))) IVk hI (fun u u8 uI => ?_) (fun v r z' w' kd' f' t' kz kw G' F' I' e40 eo hok hr hv => ?_)
  · rw [m_num1 u8, bnd_some]; exact tl4_br (p := 0) (s := 0) (by omega) (by omega) u8 uI
  obtain ⟨p, rfl⟩ : ∃ p : Nat, r = p := ⟨r.toNat, by omega⟩
  have hp : p ≤ 7 := by omega
  refine g_num (by omega) (s_num (N := 3) (by omega) rfl (by omega) (by omega) G' F' (by omega) (by omega) (may0 0 5 (by omega) (by omega) rfl rfl (by omega) (by omega) (by omega) (fun q => by rw [e40]; exact hv))) IVk I' (fun u u8 uI => tl4_br (s := 0) hp (by omega) u8 uI) (fun v2 r2 z2 w2 kd2 f2 t2 kz2 kw2 G2 F2 I2 e402 eo2 hok2 hr2 hv2 => ?_)
  obtain ⟨s, rfl⟩ : ∃ s : Nat, r2 = s := ⟨r2.toNat, by omega⟩
  have hs : s ≤ 5 := by omega
  rw [tl4_eq hp hs I2]
  have k4 : Ky kWr w2 (w4 w2 p s) := w4_ky.mono (fun a k q => Or.inr q)
  refine LnO.pre ?_ k4
  have I4 := w4_iv hp hs I2
  have j9 := (w4_9 (h := w2) (p := p) (s := s)).1
  have j10 := (w4_9 (h := w2) (p := p) (s := s)).2
  have j72 : (w4 w2 p s).2 72 = w2.2 72 := funext fun j => w4_ky.2 72 j (by omega)
  have G4 := G2.kw k4
  have F4 := F2.kw k4
  generalize w4 w2 p s = w3 at *
  refine g_num (by omega) (s_num (N := 3) (by omega) rfl (by omega) (by omega) G4 F4 (by omega) (by omega) (may0 0 9 (by omega) (by omega) rfl rfl (by omega) (by omega) (by omega) (fun q => by omega))) IVk I4 (fun u u8 uI => tk4_br hp hs _ u8 uI) (fun v5 r5 z5 w5 kd5 f5 t5 kz5 kw5 G5 F5 I5 e405 eo5 hok5 hr5 hv5 => ?_)
  rw [tk4_eq hp hs]
  have k5 : Ky kWr w5 (wr w5 72 (24 + (6 * p + s)) r5) := Ky.w1 (Or.inl rfl)
  refine LnO.pre (g_end (N := 3) (by omega) (s_end (N := 3) (by omega) rfl (by omega) (G5.kw k5) (F5.kw k5)) IVk CVk (iv72 (by omega) I5) (fun e => ?_)) k5
  obtain ⟨e2, rv5, l5, l6, -⟩ := hok5 e
  obtain ⟨e1, rv2, l3, l4, -⟩ := hok2 e2
  obtain ⟨e0, rv, l1, l2, -⟩ := hok e1
  have CC := CVk _ _ _ _ kz2 kw2 (CVk _ _ _ _ kz kw (hC e0))
  have I2' := I2
  obtain ⟨-, -, i3, i4⟩ := I2'
  have a0 : z5.2 40 0 = p := by rw [eo5 0 (by omega), eo2 0 (by omega), e40, rv]
  have a1 : z5.2 40 1 = s := by rw [eo5 1 (by omega), e402, rv2]
  have a2 : z5.2 40 2 = r5 := by rw [e405, rv5]
  have x72 : w5.2 72 = w2.2 72 := (kRM72 kw5).trans j72
  have x9 : w5.2 69 9 = if (p : Int) ≤ w2.2 69 9 then w2.2 69 9 else p := by rw [kw5.2 69 9 (by unfold kRM; omega)]; exact j9
  have x10 : w5.2 69 10 = if (s : Int) ≤ w2.2 69 10 then w2.2 69 10 else s := by rw [kw5.2 69 10 (by unfold kRM; omega)]; exact j10
  obtain ⟨⟨c0, c1, c2, c3, c4, c5, c6'⟩, D, c7, c8⟩ := CC
  obtain ⟨d0, d1, d2, d3, d4, d5, d6⟩ := kz5.vc (fun a j h1 h2 => by unfold kRC; omega) D
  have b11 : z5.2 28 11 = w2.2 69 9 + 1 := (kz5.2 28 11 (by unfold kRC; omega)).trans c7
  have b12 : z5.2 28 12 = w2.2 69 10 + 1 := (kz5.2 28 12 (by unfold kRC; omega)).trans c8
  rw [← x72] at c0 c1 c2 c3 c4 c5 c6' d0 d1 d2 d3 d4 d5 d6
  clear hok hok2 hok5 hr hr2 hr5 hC F2 F' hF F4 F5 D
  refine ⟨wr (wr (wr z5 34 (6 * p + s) r5) 28 11 (w5.2 69 9 + 1)) 28 12 (w5.2 69 10 + 1), ?_, ((Ky.w1 (by unfold kTk; omega)).w2 (by unfold kTk; omega)).w2 (by unfold kTk; omega), ⟨?_, ?_, ?_, ?_, ?_, ?_, ?_⟩, ⟨?_, ?_, ?_, ?_, ?_, ?_, ?_⟩, ?_, ?_⟩
  · unfold f5_take f9_hold
    rw [if_neg (by decide), if_neg (by decide), if_neg (by decide), if_neg (by decide), if_pos (by decide), asrt_t (by decide), asrt_t (by decide), asrt_t (by decide), show (w32 0).toNat = 0 from rfl, show (w32 1).toNat = 1 from rfl, show (w32 2).toNat = 2 from rfl, a0, a1, a2, w32_id (x := (p : Int)) (by omega) (by omega), w32_id (x := (s : Int)) (by omega) (by omega), if_neg (by omega), if_neg (by omega), if_neg (by omega), if_neg (by omega), show (p : Int) * 6 + (s : Int) = ((6 * p + s : Nat) : Int) by omega, w32_id (x := ((6 * p + s : Nat) : Int)) (by omega) (by omega), asrt_t (by omega), lt_eq, bnd_some, asrt_t (by decide), lt_eq, asrt_t (by decide), lt_eq, Int.toNat_natCast, wr_e (by omega), wr_e (by omega), a0, b11, wr_e (by omega), wr_e (by omega), b12, wr_e (by omega), wr_e (by omega), a1, max32_s (by omega) (by omega) (by omega) (by omega), max32_s (by omega) (by omega) (by omega) (by omega), x9, x10]
    have m1 : (if w2.2 69 9 + 1 < (p : Int) + 1 then (p : Int) + 1 else w2.2 69 9 + 1) = (if (p : Int) ≤ w2.2 69 9 then w2.2 69 9 else p) + 1 := by
      by_cases y : (p : Int) ≤ w2.2 69 9
      · rw [if_neg (by omega), if_pos y]
      · rw [if_pos (by omega), if_neg y]
    have m2 : (if w2.2 69 10 + 1 < (s : Int) + 1 then (s : Int) + 1 else w2.2 69 10 + 1) = (if (s : Int) ≤ w2.2 69 10 then w2.2 69 10 else s) + 1 := by
      by_cases y : (s : Int) ≤ w2.2 69 10
      · rw [if_neg (by omega), if_pos y]
      · rw [if_pos (by omega), if_neg y]
    rw [m1, m2]
  · rw [wr_e (by omega)]; exact c0
  · rw [wr_e (by omega)]; exact c1
  · rw [wr_e (by omega)]; exact c2
  · rw [wr_e (by omega)]; exact c3
  · intro q hq
    rw [wr_e (by omega)] at hq
    rw [wr_e (by omega), wr_e (by omega)]; exact c4 q hq
  · intro q hq
    rw [wr_e (by omega)] at hq
    rw [wr_e (by omega), wr_e (by omega)]; exact c5 q hq
  · intro q hq
    by_cases y : q = 6 * p + s
    · subst y; rw [wr_at]; omega
    · rw [wr_e (by omega)]; exact c6' q hq
  · rw [wr_e (by omega), wr_e (by omega), wr_e (by omega), wr_e (by omega)]; exact d0
  · rw [wr_e (by omega), wr_e (by omega), wr_e (by omega), wr_e (by omega)]; exact d1
  · rw [wr_e (by omega), wr_e (by omega), wr_e (by omega), wr_e (by omega)]; exact d2
  · rw [wr_e (by omega), wr_e (by omega), wr_e (by omega), wr_e (by omega)]; exact d3
  · intro q hq
    rw [wr_e (by omega)] at hq
    rw [wr_e (by omega), wr_e (by omega), wr_e (by omega), wr_e (by omega), wr_e (by omega), wr_e (by omega), wr_e (by omega), wr_e (by omega)]; exact d4 q hq
  · intro q hq
    rw [wr_e (by omega)] at hq
    rw [wr_e (by omega), wr_e (by omega), wr_e (by omega), wr_e (by omega), wr_e (by omega), wr_e (by omega), wr_e (by omega), wr_e (by omega)]; exact d5 q hq
  · intro q hq
    by_cases y : q = 6 * p + s
    · subst y; rw [wr_e (by omega), wr_e (by omega), wr_at, wr_at]
    · rw [wr_e (by omega), wr_e (by omega), wr_e (by omega), wr_e (by omega)]; exact d6 q hq
  · rw [wr_e (by omega), wr_at, wr_e (by omega)]
  · rw [wr_at, wr_e (by omega)]
theorem v_line (hG : TG n bt z w kd f t) (hF : FtA z w f) (hI : IV w) (hC : z.2 28 3 = 0 → CV z w) : LOx n bt CV IV z w t (f5_readLine ((0 : Nat) : Int) z) (f11_villageLine w) := by
  unfold f11_villageLine
  rw [lt_eq]
  rcases s_word (s := 0) (by omega) hG hF with ⟨z', w', r1, r2, r3, r4, r5⟩ | ⟨-, line, w1, hl, r2, k1, w8, hb⟩
  · have r2 : f11_wordIn 1 5 w = some (0, w') := r2
    rw [r2, bnd_some, if_neg (by decide), if_neg (by decide), if_neg (by decide), if_neg (by decide), if_neg (by decide), m_end1 r3.2.2.2, bnd_some]
    exact ⟨z', w', r1, rfl, r4.mono (fun a k q => Or.inl q), r5.mono (fun a k q => Or.inl q), IVk _ _ r5 hI, Or.inl r3⟩
  · have r2 : f11_wordIn 1 5 w = some ((line : Int) + 1, w1) := r2
    have hl : (1 : Int) ≤ (line : Int) + 1 ∧ (line : Int) + 1 ≤ 5 := hl
    obtain ⟨b, m1, m2, m3, m4, m5, -⟩ := c_many (z := z) (line := line) (by omega)
    have e72 := kRM72 k1
    rw [r2, bnd_some]
    by_cases l0 : line = 0 ∨ line = 1 ∨ line = 4
    · have b0 := m3 l0
      obtain ⟨z1, w2, kd', f', t', q1, -, q2, q3, q4, q5, q6, q7, q8⟩ := hb b m1 m2 False (fun _ => ⟨fun q => q.elim, fun q => by omega⟩)
      have q2 := q2 (fun q => q)
      subst q2
      have I1 := IVk _ _ q7 hI
      have C1 : z1.2 28 3 = 0 → CV z1 w2 := fun e => CVk _ _ _ _ q6 q7 (hC (q8 e).1)
      have ht : t ≤ t' := Nat.le_trans q5 q3.rng.1
      rw [q1]
      rcases l0 with rfl | rfl | rfl
      · rw [if_pos (by decide)]
        exact (vl0 q3 q4 I1 C1).fu.st q6 q7 ht
      · rw [if_neg (by decide), if_pos (by decide)]
        exact (vl1 q3 q4 I1 C1).fu.st q6 q7 ht
      · rw [if_neg (by decide), if_neg (by decide), if_neg (by decide), if_neg (by decide), if_pos (by decide)]
        exact (vl4 q3 q4 I1 C1).fu.st q6 q7 ht
    · by_cases l2 : line = 2
      · have m4 := m4 l2
        obtain ⟨z1, w2, kd', f', t', q1, qa, q2, q3, q4, q5, q6, q7, q8⟩ := hb b m1 m2 (¬ w.2 72 1 < 6) (fun e => by
          rw [m4, (hC e).2.1.2.1, w32_id (x := w.2 72 1) (by have := hI.1; omega) (by have := hI.1; omega)])
        have I1 := IVk _ _ q7 hI
        have C1 : z1.2 28 3 = 0 → CV z1 w2 := fun e => CVk _ _ _ _ q6 q7 (hC (q8 e).1)
        have ht : t ≤ t' := Nat.le_trans q5 q3.rng.1
        have key := (vl2 q3 q4 I1 C1 (fun e => by rw [kRM72 q7]; have := (q8 e).2; omega)).fu.st q6 q7 ht
        subst l2
        rw [q1, if_neg (by decide), if_neg (by decide), if_pos (by decide), asrt_t (by decide), show (w32 1).toNat = 1 from rfl, e72, w32_id (x := w.2 72 1) (by have := hI.1; omega) (by have := hI.1; omega)]
        by_cases y : w.2 72 1 < 6
        · rw [if_pos y, ← q2 (fun q => q y)]; exact key
        · rw [if_neg y, qa y, bnd_some]; exact key
      · have l3 : line = 3 := by omega
        have m5 := m5 l3
        obtain ⟨z1, w2, kd', f', t', q1, qa, q2, q3, q4, q5, q6, q7, q8⟩ := hb b m1 m2 (¬ w.2 72 2 < 4) (fun e => by
          rw [m5, (hC e).2.1.2.2.1, w32_id (x := w.2 72 2) (by have := hI.2.1; omega) (by have := hI.2.1; omega)])
        have I1 := IVk _ _ q7 hI
        have C1 : z1.2 28 3 = 0 → CV z1 w2 := fun e => CVk _ _ _ _ q6 q7 (hC (q8 e).1)
        have ht : t ≤ t' := Nat.le_trans q5 q3.rng.1
        have key := (vl3 q3 q4 I1 C1 (fun e => by rw [kRM72 q7]; have := (q8 e).2; omega)).fu.st q6 q7 ht
        subst l3
        rw [q1, if_neg (by decide), if_neg (by decide), if_neg (by decide), if_pos (by decide), asrt_t (by decide), show (w32 2).toNat = 2 from rfl, e72, w32_id (x := w.2 72 2) (by have := hI.2.1; omega) (by have := hI.2.1; omega)]
        by_cases y : w.2 72 2 < 4
        · rw [if_pos y, ← q2 (fun q => q y)]; exact key
        · rw [if_neg y, qa y, bnd_some]; exact key
end VLine4
