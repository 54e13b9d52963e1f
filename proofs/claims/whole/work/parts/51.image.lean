/-! image, again -/
def toldAt (t : Nat) : Prop := t = 1 ∨ ∃ j, j < 3 ∧ t = 93 + 26 * j
theorem shp_day {t i : Nat} (ht : toldAt t) (hi : i < 2) : (shp (t + 12 + 10 * i + 1)).2 = 200 ∧ (shp (t + 14 + 10 * i + 1)).2 = 24 := by
  rcases ht with rfl | ⟨j, hj, rfl⟩
  · rcases (show i = 0 ∨ i = 1 by omega) with rfl | rfl <;> decide
  · rcases (show j = 0 ∨ j = 1 ∨ j = 2 by omega) with rfl | rfl | rfl <;> rcases (show i = 0 ∨ i = 1 by omega) with rfl | rfl <;> decide
theorem c_copyR {h : AH} {x0 x1 w m : Nat} (hw : w ≤ 5) (hm : m ≤ 40) (a0 : h.2 x1 0 = w ∧ h.2 x1 1 = m) (b0 : h.2 x0 0 = w ∧ h.2 x0 1 = m) (s1 : (shp (x1 + 1)).2 = w * m) (s0 : (shp (x0 + 1)).2 = w * m) (hd : x0 + 1 < x1 ∨ x1 + 1 < x0) : ∃ h1, f6_copy x0 x1 h = some (0, h1) ∧ Ky (fun a k => (a = x0 ∧ k = 3) ∨ a = x0 + 1) h h1 ∧ h1.2 x0 3 = h.2 x1 3 ∧ ∀ k, k < w * m → h1.2 (x0 + 1) k = h.2 (x1 + 1) k := by
  have wm : w * m ≤ 5 * 40 := Nat.mul_le_mul hw hm
  have e0 : (wr h x0 3 (h.2 x1 3)).2 x0 0 = w := by rw [wr_e (by omega)]; exact b0.1
  have e1 : (wr h x0 3 (h.2 x1 3)).2 x0 1 = m := by rw [wr_e (by omega)]; exact b0.2
  have em : (w : Int) * m = ((w * m : Nat) : Int) := (Int.natCast_mul w m).symm
  unfold f6_copy
  rw [a0.1, a0.2, b0.1, b0.2, if_neg (fun y => y rfl), if_neg (fun y => y rfl), lt_eq, e0, e1, em, s1, s0, w32_id (x := ((w * m : Nat) : Int)) (by omega) (by omega), w32_0, asrt_t (by omega), lt_eq, Int.toNat_natCast, show (0 : Int).toNat = 0 from rfl]
  refine ⟨_, rfl, ⟨rfl, fun a k hk => ?_⟩, ?_, fun k hk => ?_⟩
  · rw [cpy_e (by omega), wr_e (by omega)]
  · rw [cpy_e (by omega), wr_at]
  · rw [cpy_0 hk, wr_e (by omega)]
theorem c_copyT {h : AH} {t u : Nat} (ht : toldAt t) (hu : toldAt u) (htu : t ≠ u) (hb : ∀ k, k < 600 → -128 ≤ h.2 (t + 1) k ∧ h.2 (t + 1) k ≤ 127) (ht7 : ∀ k, k < 2 → (h.2 (t + 12 + 10 * k) 0 = 5 ∧ h.2 (t + 12 + 10 * k) 1 = 40) ∧ (h.2 (t + 14 + 10 * k) 0 = 3 ∧ h.2 (t + 14 + 10 * k) 1 = 8)) (hu7 : ∀ k, k < 2 → (h.2 (u + 12 + 10 * k) 0 = 5 ∧ h.2 (u + 12 + 10 * k) 1 = 40) ∧ (h.2 (u + 14 + 10 * k) 0 = 3 ∧ h.2 (u + 14 + 10 * k) 1 = 8)) : ∃ h1, f8_copy u t h = some (0, h1) ∧ Ky (fun a _ => u ≤ a ∧ a ≤ u + 25) h h1 ∧ TE h.2 h1.2 t u := by
  have far : t + 25 < u ∨ u + 25 < t := by
    rcases ht with rfl | ⟨j, hj, rfl⟩ <;> rcases hu with rfl | ⟨q, hq, rfl⟩ <;> omega
  unfold f8_copy
  have hb2 : (0 ≤ w32 0 ∧ 0 ≤ w32 0 ∧ 0 ≤ w32 600 ∧ w32 0 + w32 600 ≤ 600 ∧ w32 0 + w32 600 ≤ 600) ∧ ∀ i, i < (w32 600).toNat → -128 ≤ w32 (h.2 (t + 1) ((w32 0).toNat + i)) ∧ w32 (h.2 (t + 1) ((w32 0).toNat + i)) ≤ 127 := by
    refine ⟨by decide, fun i hi => ?_⟩
    have hi : i < 600 := hi
    have := hb i hi
    rw [show (w32 0).toNat + i = i from Nat.zero_add i, w32_id (x := h.2 (t + 1) i) (by omega) (by omega)]
    exact this
  rw [asrt_t hb2]
  clear hb2
  rw [lt_eq, lt_eq, lt_eq, lt_eq, asrt_t (by decide), lt_eq, show (w32 0).toNat = 0 from rfl, show (w32 600).toNat = 600 from rfl, show (w32 3).toNat = 3 from rfl]
  have H : ∃ g : AH, g = cpy (wr (wr (wr (cpy h (t + 1) (u + 1) 0 0 600) u 1 ((cpy h (t + 1) (u + 1) 0 0 600).2 t 1)) u 2 ((wr (cpy h (t + 1) (u + 1) 0 0 600) u 1 ((cpy h (t + 1) (u + 1) 0 0 600).2 t 1)).2 t 2)) u 3 ((wr (wr (cpy h (t + 1) (u + 1) 0 0 600) u 1 ((cpy h (t + 1) (u + 1) 0 0 600).2 t 1)) u 2 ((wr (cpy h (t + 1) (u + 1) 0 0 600) u 1 ((cpy h (t + 1) (u + 1) 0 0 600).2 t 1)).2 t 2)).2 t 3)) (t + 2) (u + 2) 0 0 3 := ⟨_, rfl⟩
  obtain ⟨g, hg⟩ := H
  rw [← hg]
  have gk : Ky (fun a _ => u ≤ a ∧ a ≤ u + 2) h g := by
    rw [hg]
    refine ⟨rfl, fun a k hk => ?_⟩
    rw [cpy_e (by omega), wr_e (by omega), wr_e (by omega), wr_e (by omega), cpy_e (by omega)]
  have g1 : ∀ k, 1 ≤ k → k ≤ 3 → g.2 u k = h.2 t k := fun k k1 k2 => by
    rw [hg, cpy_e (by omega)]
    rcases (show k = 1 ∨ k = 2 ∨ k = 3 by omega) with rfl | rfl | rfl <;> simp (disch := omega) only [wr_e, wr_at, cpy_e]
  have g2 : ∀ k, k < 600 → g.2 (u + 1) k = h.2 (t + 1) k := fun k hk => by
    rw [hg, cpy_e (by omega), wr_e (by omega), wr_e (by omega), wr_e (by omega), cpy_0 hk]
  have g3 : ∀ k, k < 3 → g.2 (u + 2) k = h.2 (t + 2) k := fun k hk => by
    rw [hg, cpy_0 hk, wr_e (by omega), wr_e (by omega), wr_e (by omega), cpy_e (by omega)]
  clear hg
  unfold l8_copy_56
  refine fr (fun X => ∃ h1, X = some (0, h1) ∧ Ky (fun a _ => u ≤ a ∧ a ≤ u + 25) h h1 ∧ TE h.2 h1.2 t u) (fun (w : AH) i => (i, w)) (fun n w => Ky (fun a _ => u + 6 ≤ a ∧ a ≤ u + 25) g w ∧ (∀ i, i < n → (∀ k, k < 4 → w.2 (u + 6 + 10 * i) k = h.2 (t + 6 + 10 * i) k) ∧ (∀ k, k < 6 → w.2 (u + 6 + 10 * i + 1) k = h.2 (t + 6 + 10 * i + 1) k ∧ w.2 (u + 6 + 10 * i + 2) k = h.2 (t + 6 + 10 * i + 2) k) ∧ (∀ k, k < 4 → w.2 (u + 6 + 10 * i + 3) k = h.2 (t + 6 + 10 * i + 3) k ∧ w.2 (u + 6 + 10 * i + 4) k = h.2 (t + 6 + 10 * i + 4) k) ∧ ∀ k, k < 48 → w.2 (u + 6 + 10 * i + 5) k = h.2 (t + 6 + 10 * i + 5) k) ∧ (∀ i, i < n → w.2 (u + 12 + 10 * i) 3 = h.2 (t + 12 + 10 * i) 3 ∧ ∀ k, k < 200 → w.2 (u + 12 + 10 * i + 1) k = h.2 (t + 12 + 10 * i + 1) k) ∧ (∀ i, i < n → w.2 (u + 14 + 10 * i) 3 = h.2 (t + 14 + 10 * i) 3 ∧ ∀ k, k < 24 → w.2 (u + 14 + 10 * i + 1) k = h.2 (t + 14 + 10 * i + 1) k) ∧ ∀ k, k < 2 → (w.2 (u + 12 + 10 * k) 0 = 5 ∧ w.2 (u + 12 + 10 * k) 1 = 40) ∧ (w.2 (u + 14 + 10 * k) 0 = 3 ∧ w.2 (u + 14 + 10 * k) 1 = 8)) 0 2 g ⟨Ky.rf g, fun i hi => by omega, fun i hi => by omega, fun i hi => by omega, fun k hk => ?_⟩ (by omega) (by omega) (fun n w _ hn hI rec => ?_) (fun w hI rec => ?_)
  · rw [gk.2 _ _ (by omega), gk.2 _ _ (by omega), gk.2 _ _ (by omega), gk.2 _ _ (by omega)]; exact hu7 k hk
  · right
    obtain ⟨i1, i2, i3, i4, i5⟩ := hI
    have wt0 : ∀ a k, t ≤ a → a ≤ t + 25 → w.2 a k = h.2 a k := fun a k h1 h2 => by rw [i1.2 a k (by omega), gk.2 a k (by omega)]
    obtain ⟨w1, a1, a2, a3, a4, a5, a6⟩ := c_copyV (u + 6 + 10 * n) (t + 6 + 10 * n) (by omega) w
    have w1o : ∀ a k, (a < u + 6 + 10 * n ∨ u + 6 + 10 * n + 5 < a) → w1.2 a k = w.2 a k := a2.2
    obtain ⟨w2, b1, b2, b3, b4⟩ := c_copyR (h := w1) (x0 := u + 12 + 10 * n) (x1 := t + 12 + 10 * n) (w := 5) (m := 40) (by omega) (by omega) (by rw [w1o _ _ (by omega), w1o _ _ (by omega), wt0 _ _ (by omega) (by omega), wt0 _ _ (by omega) (by omega)]; exact (ht7 n hn).1) (by rw [w1o _ _ (by omega), w1o _ _ (by omega)]; exact (i5 n hn).1) (shp_day ht hn).1 (shp_day hu hn).1 (by omega)
    obtain ⟨w3, c1, c2, c3, c4⟩ := c_copyR (h := w2) (x0 := u + 14 + 10 * n) (x1 := t + 14 + 10 * n) (w := 3) (m := 8) (by omega) (by omega) (by rw [b2.2 _ _ (by omega), b2.2 _ _ (by omega), w1o _ _ (by omega), w1o _ _ (by omega), wt0 _ _ (by omega) (by omega), wt0 _ _ (by omega) (by omega)]; exact (ht7 n hn).2) (by rw [b2.2 _ _ (by omega), b2.2 _ _ (by omega), w1o _ _ (by omega), w1o _ _ (by omega)]; exact (i5 n hn).2) (shp_day ht hn).2 (shp_day hu hn).2 (by omega)
    have o3 : ∀ a k, ¬ (u + 6 + 10 * n ≤ a ∧ a ≤ u + 15 + 10 * n) → w3.2 a k = w.2 a k := fun a k ha => by rw [c2.2 _ _ (by omega), b2.2 _ _ (by omega), w1o _ _ (by omega)]
    have oV : ∀ a k, u + 6 + 10 * n ≤ a → a ≤ u + 11 + 10 * n → w3.2 a k = w1.2 a k := fun a k h1 h2 => by rw [c2.2 _ _ (by omega), b2.2 _ _ (by omega)]
    refine ⟨w3, ⟨⟨by rw [c2.1, b2.1, a2.1]; exact i1.1, fun a k hk => by rw [o3 a k (by omega)]; exact i1.2 a k hk⟩, fun i hi => ?_, fun i hi => ?_, fun i hi => ?_, fun k hk => ?_⟩, ?_⟩
    · by_cases z : i = n
      · subst z
        refine ⟨fun k hk => ?_, fun k hk => ⟨?_, ?_⟩, fun k hk => ⟨?_, ?_⟩, fun k hk => ?_⟩
        · rw [oV _ _ (by omega) (by omega), a3 k hk, wt0 _ _ (by omega) (by omega)]
        · rw [oV _ _ (by omega) (by omega), (a4 k hk).1, wt0 _ _ (by omega) (by omega)]
        · rw [oV _ _ (by omega) (by omega), (a4 k hk).2, wt0 _ _ (by omega) (by omega)]
        · rw [oV _ _ (by omega) (by omega), (a5 k hk).1, wt0 _ _ (by omega) (by omega)]
        · rw [oV _ _ (by omega) (by omega), (a5 k hk).2, wt0 _ _ (by omega) (by omega)]
        · rw [oV _ _ (by omega) (by omega), a6 k hk, wt0 _ _ (by omega) (by omega)]
      · obtain ⟨x1, x2, x3, x4⟩ := i2 i (by omega)
        refine ⟨fun k hk => ?_, fun k hk => ⟨?_, ?_⟩, fun k hk => ⟨?_, ?_⟩, fun k hk => ?_⟩
        · rw [o3 _ _ (by omega)]; exact x1 k hk
        · rw [o3 _ _ (by omega)]; exact (x2 k hk).1
        · rw [o3 _ _ (by omega)]; exact (x2 k hk).2
        · rw [o3 _ _ (by omega)]; exact (x3 k hk).1
        · rw [o3 _ _ (by omega)]; exact (x3 k hk).2
        · rw [o3 _ _ (by omega)]; exact x4 k hk
    · by_cases z : i = n
      · subst z
        refine ⟨?_, fun k hk => ?_⟩
        · rw [c2.2 _ _ (by omega), b3, w1o _ _ (by omega), wt0 _ _ (by omega) (by omega)]
        · rw [c2.2 _ _ (by omega), b4 k hk, w1o _ _ (by omega), wt0 _ _ (by omega) (by omega)]
      · obtain ⟨x1, x2⟩ := i3 i (by omega)
        exact ⟨by rw [o3 _ _ (by omega)]; exact x1, fun k hk => by rw [o3 _ _ (by omega)]; exact x2 k hk⟩
    · by_cases z : i = n
      · subst z
        refine ⟨?_, fun k hk => ?_⟩
        · rw [c3, b2.2 _ _ (by omega), w1o _ _ (by omega), wt0 _ _ (by omega) (by omega)]
        · rw [c4 k hk, b2.2 _ _ (by omega), w1o _ _ (by omega), wt0 _ _ (by omega) (by omega)]
      · obtain ⟨x1, x2⟩ := i4 i (by omega)
        exact ⟨by rw [o3 _ _ (by omega)]; exact x1, fun k hk => by rw [o3 _ _ (by omega)]; exact x2 k hk⟩
    · have q : ∀ a j, (a = u + 12 + 10 * k ∨ a = u + 14 + 10 * k) → j < 2 → w3.2 a j = w.2 a j := fun a j ha hj => by rw [c2.2 _ _ (by omega), b2.2 _ _ (by omega), w1o _ _ (by omega)]
      rw [q _ _ (Or.inl rfl) (by omega), q _ _ (Or.inl rfl) (by omega), q _ _ (Or.inr rfl) (by omega), q _ _ (Or.inr rfl) (by omega)]
      exact i5 k hk
    · unfold b8_copy_56
      dsimp only
      rw [w32_id (x := (n : Int)) (by omega) (by omega), if_neg (by omega), asrt_t (by omega), asrt_t (by omega), Int.toNat_natCast, show u + 3 + 3 + 10 * n = u + 6 + 10 * n by omega, show t + 3 + 3 + 10 * n = t + 6 + 10 * n by omega, a1, bnd_some, asrt_t (by omega), asrt_t (by omega), show u + 4 + 8 + 10 * n = u + 12 + 10 * n by omega, show t + 4 + 8 + 10 * n = t + 12 + 10 * n by omega, b1, bnd_some, asrt_t (by omega), asrt_t (by omega), show u + 5 + 9 + 10 * n = u + 14 + 10 * n by omega, show t + 5 + 9 + 10 * n = t + 14 + 10 * n by omega, c1, bnd_some]
  · obtain ⟨i1, i2, i3, i4, i5⟩ := hI
    refine ⟨w, ?_, (gk.mono (fun a k z => by omega)).tr (i1.mono (fun a k z => by omega)), ?_, ?_, ?_, i2, fun i hi => ⟨⟨(i5 i hi).1.1, (i5 i hi).1.2, (i3 i hi).1⟩, (i3 i hi).2⟩, fun i hi => ⟨⟨(i5 i hi).2.1, (i5 i hi).2.2, (i4 i hi).1⟩, (i4 i hi).2⟩⟩
    · unfold b8_copy_56
      dsimp only
      rw [if_pos (by decide)]
    · exact fun k k1 k2 => by rw [i1.2 _ _ (by omega)]; exact g1 k k1 k2
    · exact fun k hk => by rw [i1.2 _ _ (by omega)]; exact g2 k hk
    · exact fun k hk => by rw [i1.2 _ _ (by omega)]; exact g3 k hk
