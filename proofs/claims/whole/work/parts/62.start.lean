/-! reading side by side: from the start of a text to its end -/
def kRd (a k : Nat) : Prop := (a = 28 ∧ 3 ≤ k) ∨ (29 ≤ a ∧ a ≤ 38 ∧ ¬ (a = 35 ∧ k < 2) ∧ ¬ (a = 37 ∧ k < 2)) ∨ a = 39 ∨ a = 40
def kRw (a k : Nat) : Prop := (a = 69 ∧ 3 ≤ k ∧ k ≤ 10) ∨ a = 72 ∨ (a = 70 ∧ (k = 5 ∨ k = 6))
section TStart
variable {z0 w0 : AH} {n : Nat} {bt : Nat → Int}
theorem m_size (n6 : n ≤ 600) : max32 0 (min32 (n : Int) (min32 ((shp 2).2 : Int) 600)) = n := by
  have e : min32 (n : Int) 600 = n := by rw [min32_s (by omega) (by omega) (by omega) (by omega), if_neg (by omega)]
  rw [show ((shp 2).2 : Int) = 600 by decide, show min32 600 600 = 600 by decide, e, max32_s (by omega) (by omega) (by omega) (by omega)]
  split <;> omega
def zS (z0 : AH) (n : Nat) : AH := wr (wr (wr (wr (wr (wr (wr (wr (wr (cpy (wr z0 28 7 (n : Int)) 2 39 0 0 n) 28 10 0) 28 3 0) 28 4 (-1)) 28 11 0) 28 12 0) 29 0 0) 29 1 0) 29 2 0) 29 3 2
def zT (z0 : AH) (n : Nat) : AH := wr (wr (fil (zS z0 n) 34 (-1) 48) 35 3 0) 37 3 0
theorem zS_eq {s : Nat} (n6 : n ≤ 600) (hz : ∀ i, i < n → (0 ≤ bt i ∧ bt i ≤ 255) ∧ z0.2 2 i = i2b (bt i)) : f5_readText s 2 n z0 = bnd (f5_step (zT z0 n)) (fun _ h => l5_readText_89 s 0 h) := by
  have a1 : (0 ≤ w32 0 ∧ 0 ≤ w32 0 ∧ 0 ≤ w32 ((wr z0 28 7 (n : Int)).2 28 7) ∧ w32 0 + w32 ((wr z0 28 7 (n : Int)).2 28 7) ≤ ((shp 2).2 : Int) ∧ w32 0 + w32 ((wr z0 28 7 (n : Int)).2 28 7) ≤ 600) ∧ ∀ i, i < (w32 ((wr z0 28 7 (n : Int)).2 28 7)).toNat → -128 ≤ w32 ((wr z0 28 7 (n : Int)).2 2 ((w32 0).toNat + i)) ∧ w32 ((wr z0 28 7 (n : Int)).2 2 ((w32 0).toNat + i)) ≤ 127 := by
    rw [wr_at, w32_id (x := (n : Int)) (by omega) (by omega), show ((shp 2).2 : Int) = 600 by decide, w32_0]
    refine ⟨⟨by omega, by omega, by omega, by omega, by omega⟩, fun i hi => ?_⟩
    rw [Int.toNat_natCast] at hi
    have := hz i hi
    have c := i2b_c this.1
    rw [wr_e (by omega), show (0 : Int).toNat + i = i by omega, this.2, w32_id (x := i2b (bt i)) (by omega) (by omega)]
    omega
  unfold f5_readText f9_clear
  rw [m_size n6, lt_eq, asrt_t a1, lt_eq, wr_at, w32_id (x := (n : Int)) (by omega) (by omega), w32_0, Int.toNat_natCast, lt_eq, lt_eq, lt_eq, lt_eq, lt_eq, lt_eq, lt_eq, lt_eq, lt_eq, c_fill (29 + 5) 48 (-1) _ (by decide) (by omega), bnd_some, bnd_some, lt_eq, lt_eq]
  unfold zT zS
  rfl
theorem zS_v {a k : Nat} (h1 : ¬ (a = 28 ∧ (k = 7 ∨ k = 10 ∨ k = 3 ∨ k = 4 ∨ k = 11 ∨ k = 12))) (h2 : ¬ (a = 29 ∧ k < 4)) (h3 : ¬ (a = 39 ∧ k < n)) : (zS z0 n).2 a k = z0.2 a k := by
  unfold zS
  rw [wr_e (by omega), wr_e (by omega), wr_e (by omega), wr_e (by omega), wr_e (by omega), wr_e (by omega), wr_e (by omega), wr_e (by omega), wr_e (by omega), cpy_e (by omega), wr_e (by omega)]
theorem zS_28 : (zS z0 n).2 28 7 = n ∧ (zS z0 n).2 28 10 = 0 ∧ (zS z0 n).2 28 3 = 0 ∧ (zS z0 n).2 28 4 = -1 ∧ (zS z0 n).2 28 11 = 0 ∧ (zS z0 n).2 28 12 = 0 := by
  unfold zS
  refine ⟨?_, ?_, ?_, ?_, ?_, ?_⟩
  · rw [wr_e (by omega), wr_e (by omega), wr_e (by omega), wr_e (by omega), wr_e (by omega), wr_e (by omega), wr_e (by omega), wr_e (by omega), wr_e (by omega), cpy_e (by omega), wr_at]
  · rw [wr_e (by omega), wr_e (by omega), wr_e (by omega), wr_e (by omega), wr_e (by omega), wr_e (by omega), wr_e (by omega), wr_e (by omega), wr_at]
  · rw [wr_e (by omega), wr_e (by omega), wr_e (by omega), wr_e (by omega), wr_e (by omega), wr_e (by omega), wr_e (by omega), wr_at]
  · rw [wr_e (by omega), wr_e (by omega), wr_e (by omega), wr_e (by omega), wr_e (by omega), wr_e (by omega), wr_at]
  · rw [wr_e (by omega), wr_e (by omega), wr_e (by omega), wr_e (by omega), wr_e (by omega), wr_at]
  · rw [wr_e (by omega), wr_e (by omega), wr_e (by omega), wr_e (by omega), wr_at]
theorem zS_29 : (zS z0 n).2 29 0 = 0 ∧ (zS z0 n).2 29 1 = 0 ∧ (zS z0 n).2 29 2 = 0 ∧ (zS z0 n).2 29 3 = 2 := by
  unfold zS
  refine ⟨?_, ?_, ?_, ?_⟩
  · rw [wr_e (by omega), wr_e (by omega), wr_e (by omega), wr_at]
  · rw [wr_e (by omega), wr_e (by omega), wr_at]
  · rw [wr_e (by omega), wr_at]
  · rw [wr_at]
theorem zS_39 {i : Nat} (hi : i < n) : (zS z0 n).2 39 i = z0.2 2 i := by
  unfold zS
  rw [wr_e (by omega), wr_e (by omega), wr_e (by omega), wr_e (by omega), wr_e (by omega), wr_e (by omega), wr_e (by omega), wr_e (by omega), wr_e (by omega), cpy_0 hi, wr_e (by omega)]
theorem zT_v {a k : Nat} (h1 : a ≠ 34) (h2 : ¬ (a = 35 ∧ k = 3)) (h3 : ¬ (a = 37 ∧ k = 3)) : (zT z0 n).2 a k = (zS z0 n).2 a k := by
  unfold zT
  rw [wr_e (by omega), wr_e (by omega), fil_e (by omega)]
theorem c_start {s : Nat} (n6 : n ≤ 600) (hz : ∀ i, i < n → (0 ≤ bt i ∧ bt i ≤ 255) ∧ z0.2 2 i = i2b (bt i)) : ∃ zc : AH, f5_readText s 2 n z0 = bnd (f5_step zc) (fun _ h => l5_readText_89 s 0 h) ∧ Ky kRd z0 zc ∧ TP n bt zc ∧ zc.2 28 10 = 0 ∧ (zc.2 28 3 = 0 ∧ zc.2 28 4 = -1 ∧ zc.2 28 11 = 0 ∧ zc.2 28 12 = 0) ∧ (zc.2 29 0 = 0 ∧ zc.2 29 1 = 0 ∧ zc.2 29 2 = 0 ∧ zc.2 29 3 = 2) ∧ (∀ q, q < 48 → zc.2 34 q = -1) ∧ zc.2 35 3 = 0 ∧ zc.2 37 3 = 0 := by
  have e28 : ∀ k, (zT z0 n).2 28 k = (zS z0 n).2 28 k := fun k => zT_v (by omega) (by omega) (by omega)
  have e29 : ∀ k, (zT z0 n).2 29 k = (zS z0 n).2 29 k := fun k => zT_v (by omega) (by omega) (by omega)
  obtain ⟨a1, a2, a3, a4, a5, a6⟩ := zS_28 (z0 := z0) (n := n)
  obtain ⟨b1, b2, b3, b4⟩ := zS_29 (z0 := z0) (n := n)
  refine ⟨zT z0 n, zS_eq n6 hz, ⟨rfl, fun a k hk => ?_⟩, ⟨(e28 7).trans a1, n6, fun i hi => ⟨(hz i hi).1, ?_⟩⟩, (e28 10).trans a2, ⟨(e28 3).trans a3, (e28 4).trans a4, (e28 11).trans a5, (e28 12).trans a6⟩, ⟨(e29 0).trans b1, (e29 1).trans b2, (e29 2).trans b3, (e29 3).trans b4⟩, fun q hq => ?_, ?_, ?_⟩
  · unfold kRd at hk
    rw [zT_v (by omega) (by omega) (by omega), zS_v (by omega) (by omega) (by omega)]
  · rw [zT_v (by omega) (by omega) (by omega), zS_39 hi]; exact (hz i hi).2
  · unfold zT
    rw [wr_e (by omega), wr_e (by omega)]
    exact fil_i hq
  · unfold zT
    rw [wr_e (by omega), wr_at]
  · unfold zT
    rw [wr_at]
theorem t_read {s : Nat} (hs : s < 3) {x2 : Int} (n6 : n ≤ 600) (hz : ∀ i, i < n → (0 ≤ bt i ∧ bt i ≤ 255) ∧ z0.2 2 i = i2b (bt i)) (h35 : z0.2 35 0 = 5 ∧ z0.2 35 1 = 40) (h37 : z0.2 37 0 = 3 ∧ z0.2 37 1 = 8) (w2 : w0.2 69 2 = n) (wb : ∀ i, i < n → w0.2 70 (10 + i) = bt i) (w5 : w0.2 70 5 = 0) (w6 : w0.2 70 6 = -1) : ∃ zf yf : AH, f5_readText s 2 n z0 = some (0, zf) ∧ b11_text_71 s x2 w0 = b11_text_209 s x2 yf ∧ Ky kRd z0 zf ∧ Ky kRw w0 yf ∧ (zf.2 28 3 = yf.2 70 5 ∧ zf.2 28 4 = yf.2 70 6 ∧ 0 ≤ yf.2 70 5 ∧ yf.2 70 5 ≤ 4) ∧ (zf.2 28 3 = 0 → CS s zf yf ∧ yf.2 70 6 = -1) := by
  obtain ⟨zc, c1, c2, c3, c4, ⟨c5, c6, c7, c8⟩, ⟨d0, d1, d2, d3⟩, d4, d5, d6⟩ := c_start (s := s) (z0 := z0) n6 hz
  have k0 : Ky kRw w0 (wr (wr (wr (wr w0 69 3 0) 69 8 0) 69 9 (-1)) 69 10 (-1)) := (((Ky.w1 (by unfold kRw; omega)).w2 (by unfold kRw; omega)).w2 (by unfold kRw; omega)).w2 (by unfold kRw; omega)
  obtain ⟨yc, b1, b2, b3, b4⟩ := m_begins0 hs (wr (wr (wr (wr w0 69 3 0) 69 8 0) 69 9 (-1)) 69 10 (-1))
  have k1 : Ky kRw w0 yc := k0.tr (b2.mono (fun a k q => by unfold kRw; omega))
  have e69 : ∀ k, yc.2 69 k = (wr (wr (wr (wr w0 69 3 0) 69 8 0) 69 9 (-1)) 69 10 (-1)).2 69 k := fun k => b2.2 69 k (by omega)
  have y3 : yc.2 69 3 = 0 := by rw [e69, wr_e (by omega), wr_e (by omega), wr_e (by omega), wr_at]
  have y8 : yc.2 69 8 = 0 := by rw [e69, wr_e (by omega), wr_e (by omega), wr_at]
  have y9 : yc.2 69 9 = -1 := by rw [e69, wr_e (by omega), wr_at]
  have y10 : yc.2 69 10 = -1 := by rw [e69, wr_at]
  have hM : MT n bt yc := ⟨by rw [e69, wr_e (by omega), wr_e (by omega), wr_e (by omega), wr_e (by omega)]; exact w2, n6, fun i hi => ⟨(hz i hi).1, by rw [k1.2 70 _ (by unfold kRw; omega)]; exact wb i hi⟩⟩
  obtain ⟨z1, kd, f, t, s1, s2, s3, s4, s5, s6⟩ := c_step (p := 0) c3 c4 (by omega)
  obtain ⟨y1, kd2, f2, t2, a1, a2, a3, a4, a5, a6⟩ := m_adv (p := 0) hM y3 (by omega)
  obtain ⟨rfl, rfl, rfl⟩ := s3.uq a3
  have G : TG n bt z1 y1 kd f t := ⟨c3.ky s2, hM.ky a2, ⟨0, s3⟩, ⟨s4, s5, s6⟩, ⟨a4, a5⟩, a6, (a2.2 69 8 (by unfold kAd; omega)).trans y8⟩
  have x5 : y1.2 70 5 = 0 := by
    rw [a2.2 70 5 (by unfold kAd; omega), b2.2 70 5 (by omega), wr_e (by omega), wr_e (by omega), wr_e (by omega), wr_e (by omega)]; exact w5
  have x6 : y1.2 70 6 = -1 := by
    rw [a2.2 70 6 (by unfold kAd; omega), b2.2 70 6 (by omega), wr_e (by omega), wr_e (by omega), wr_e (by omega), wr_e (by omega)]; exact w6
  have F : FtA z1 y1 f := ⟨by rw [x5, s2.2 28 3 (by unfold kSt; omega)]; exact c5, by rw [x6, s2.2 28 4 (by unfold kSt; omega)]; exact c6, Or.inl ⟨x5, x6⟩⟩
  have zz : ∀ a k, ¬ kSt a k → z1.2 a k = zc.2 a k := s2.2
  have y72 : ∀ k, y1.2 72 k = yc.2 72 k := fun k => a2.2 72 k (by unfold kAd; omega)
  have y1_9 : y1.2 69 9 = -1 := (a2.2 69 9 (by unfold kAd; omega)).trans y9
  have y1_10 : y1.2 69 10 = -1 := (a2.2 69 10 (by unfold kAd; omega)).trans y10
  have Zz : Z0 z1 := ⟨by rw [zz 29 0 (by unfold kSt; omega)]; exact d0, by rw [zz 29 1 (by unfold kSt; omega)]; exact d1, by rw [zz 28 11 (by unfold kSt; omega)]; exact c7, by rw [zz 28 12 (by unfold kSt; omega)]; exact c8⟩
  have IC : IS s y1 ∧ CS s z1 y1 := by
    rcases (show s = 0 ∨ s = 1 ∨ s = 2 by omega) with rfl | rfl | rfl
    · obtain ⟨v1, v2, v3⟩ := b3 rfl
      have e0 : y1.2 72 0 = 0 := (y72 0).trans (v1 0 (by omega) (by omega))
      have e1 : y1.2 72 1 = 0 := (y72 1).trans (v1 1 (by omega) (by omega))
      have e2 : y1.2 72 2 = 0 := (y72 2).trans (v1 2 (by omega) (by omega))
      have e3 : y1.2 72 3 = 2 := (y72 3).trans v2
      have e4 : ∀ q, q < 48 → y1.2 72 (24 + q) = -1 := fun q hq => (y72 _).trans (v3 _ (by omega) (by omega))
      refine ⟨⟨by omega, by omega, by omega, by omega⟩, ⟨by omega, by omega, by omega, by omega, fun q hq => by omega, fun q hq => by omega, fun q hq => ?_⟩, ⟨?_, ?_, ?_, ?_, fun q hq => by omega, fun q hq => by omega, fun q hq => ?_⟩, ?_, ?_⟩
      · rw [e4 q hq]; omega
      · rw [e0]; exact Zz.1
      · rw [e1]; exact Zz.2.1
      · rw [e2, zz 29 2 (by unfold kSt; omega)]; exact d2
      · rw [e3, zz 29 3 (by unfold kSt; omega)]; exact d3
      · rw [e4 q hq, zz (29 + 5) q (by unfold kSt; omega)]; exact d4 q hq
      · rw [y1_9]; exact Zz.2.2.1
      · rw [y1_10]; exact Zz.2.2.2
    · have e0 : y1.2 72 0 = 0 := (y72 0).trans (b4 (by omega) 0 (by omega))
      refine ⟨⟨by omega, by omega⟩, ⟨by omega, fun q hq => by omega⟩, ⟨?_, fun i hi => ?_⟩, ⟨?_, Zz⟩, ?_⟩
      · rw [e0, zz 35 3 (by unfold kSt; omega)]; exact d5
      · rw [e0] at hi; have hi : (i : Int) < 5 * 0 := hi; omega
      · rw [zz 35 0 (by unfold kSt; omega), c2.2 35 0 (by unfold kRd; omega)]; exact h35.1
      · rw [zz 35 1 (by unfold kSt; omega), c2.2 35 1 (by unfold kRd; omega)]; exact h35.2
    · have e0 : y1.2 72 0 = 0 := (y72 0).trans (b4 (by omega) 0 (by omega))
      refine ⟨⟨by omega, by omega⟩, ⟨by omega, fun q hq => by omega⟩, ⟨?_, fun i hi => ?_⟩, ⟨?_, Zz⟩, ?_⟩
      · rw [e0, zz 37 3 (by unfold kSt; omega)]; exact d6
      · rw [e0] at hi; have hi : (i : Int) < 3 * 0 := hi; omega
      · rw [zz 37 0 (by unfold kSt; omega), c2.2 37 0 (by unfold kRd; omega)]; exact h37.1
      · rw [zz 37 1 (by unfold kSt; omega), c2.2 37 1 (by unfold kRd; omega)]; exact h37.2
  obtain ⟨zf, yf, f1, f2, f3, f4, f5, f6⟩ := t_lines (x2 := x2) hs G F IC.1 (fun _ => IC.2)
  refine ⟨zf, yf, ?_, ?_, (c2.tr (s2.mono (fun a k q => by unfold kSt at q; unfold kRd; omega))).tr (f3.mono (fun a k q => by unfold kLC kRC kTk at q; unfold kRd; omega)), (k1.tr (a2.mono (fun a k q => by unfold kAd at q; unfold kRw; omega))).tr (f4.mono (fun a k q => by unfold kLM kRM kWr at q; unfold kRw; omega)), f5, f6⟩
  · rw [c1, s1, bnd_some, f1]
  · unfold b11_text_71
    rw [lt_eq, lt_eq, lt_eq, lt_eq, b1, bnd_some, a1, bnd_some, f2]
end TStart
