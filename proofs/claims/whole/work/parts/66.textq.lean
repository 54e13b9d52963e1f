/-! text: both sides -/
theorem wT_ky {g : AH} : Ky (fun a k => (a = 69 ∧ k = 2) ∨ (a = 70 ∧ 4 ≤ k ∧ k ≤ 6)) g (wT g) := (((Ky.w1 (by omega)).w2 (by omega)).w2 (by omega)).w2 (by omega)
theorem wT_4 {g : AH} : (wT g).2 69 2 = g.2 70 4 ∧ (wT g).2 70 4 = 0 ∧ (wT g).2 70 5 = 0 ∧ (wT g).2 70 6 = -1 := by
  unfold wT
  refine ⟨?_, ?_, ?_, wr_at⟩
  · rw [wr_e (by omega), wr_e (by omega), wr_e (by omega), wr_at]
  · rw [wr_e (by omega), wr_e (by omega), wr_at]
  · rw [wr_e (by omega), wr_at]
theorem plT_nn (c : Nat) (x2 : Int) : plT c x2 = -1 ∨ 0 ≤ plT c x2 := by
  unfold plT
  by_cases q : x2 = -1
  · rw [if_pos q]
    by_cases q2 : (c : Int) < 2
    · rw [if_pos q2]; omega
    · rw [if_neg q2]; exact Or.inl rfl
  · rw [if_neg q]
    by_cases q2 : 0 ≤ x2 ∧ x2 < (c : Int)
    · rw [if_pos q2]; omega
    · rw [if_neg q2]; exact Or.inl rfl
theorem q_text {x1 x2 : Int} (hx1 : Rg x1) (hx2 : Rg x2) : Agr (f10_text x1 x2) (f11_text x1 x2) := by
  intro h hI
  obtain ⟨⟨hT, -⟩, h35, h37⟩ := id hI
  obtain ⟨b1, a2, b3, -, -, -, b7⟩ := id hT
  rw [pv_at (by omega), pv_70] at a2
  obtain ⟨s1, s2, -, -⟩ := a2
  rw [Nat.zero_add] at s1 s2
  obtain ⟨n, hn⟩ : ∃ n : Nat, h.2 70 4 = n := ⟨(h.2 70 4).toNat, by omega⟩
  have n6 : n ≤ 600 := by omega
  have k1 : Ky (fun a k => a = 1 ∧ 1 ≤ k ∧ k ≤ 3) h (wr (wr (wr h 1 1 0) 1 2 0) 1 3 (-1)) := ((Ky.w1 (by omega)).w2 (by omega)).w2 (by omega)
  have v11 : (wr (wr (wr h 1 1 0) 1 2 0) 1 3 (-1)).2 1 1 = 0 := by rw [wr_e (by omega), wr_e (by omega), wr_at]
  have v12 : (wr (wr (wr h 1 1 0) 1 2 0) 1 3 (-1)).2 1 2 = 0 := by rw [wr_e (by omega), wr_at]
  have v13 : (wr (wr (wr h 1 1 0) 1 2 0) 1 3 (-1)).2 1 3 = -1 := wr_at
  have ct : f10_text x1 x2 h = bnd (f8_placeFor 1 x1 x2 (wr (wr (wr h 1 1 0) 1 2 0) 1 3 (-1))) fun r8 h9 =>
      if ¬ w32 r8 = (-1) then
        bnd (f5_readText x1 2 (n : Int) h9) fun r12 h13 =>
        if w32 (h13.2 28 3) = 0 then
          bnd (f8_put 1 x1 r8 h13) fun r16 h17 => some (r8, h17)
        else some ((-1), wr (wr h13 1 2 (h13.2 28 3)) 1 3 ((wr h13 1 2 (h13.2 28 3)).2 28 4))
      else some ((-2), h9) := by
    unfold f10_text
    rw [lt_eq, lt_eq, lt_eq, lt_eq, s1, hn]
    rfl
  rw [ct]
  clear ct
  generalize wr (wr (wr h 1 1 0) 1 2 0) 1 3 (-1) = h1 at *
  have e70 : ∀ k, h1.2 70 k = h.2 70 k := fun k => k1.2 70 k (by omega)
  have no : Inv (wT h1) := by
    refine inv_head hI ((k1.mono (fun a k q => by unfold kHd; omega)).tr (wT_ky.mono (fun a k q => by unfold kHd; omega))) ⟨?_, wT_4.2.1⟩ ?_ ?_
    · rw [wT_ky.2 1 1 (by omega)]; exact v11
    · rw [wT_ky.2 1 2 (by omega), wT_4.2.2.1]; exact v12
    · rw [wT_ky.2 1 3 (by omega), wT_4.2.2.2]; exact v13
  by_cases hs : 0 ≤ x1 ∧ x1 < 3
  · obtain ⟨s, rfl⟩ : ∃ s : Nat, x1 = s := ⟨x1.toNat, by omega⟩
    have s3 : s < 3 := by omega
    have bb := b1 s s3
    rw [pv_70, pv_at (by omega), Nat.zero_add] at bb
    obtain ⟨c, hc⟩ : ∃ c : Nat, h.2 70 s = c := ⟨(h.2 70 s).toNat, by omega⟩
    have c2 : c ≤ 2 := by omega
    have hc3 : h1.2 3 s = c := by rw [k1.2 3 s (by omega), bb.1, hc]
    have mh := fun g => (m_head (g := g) (x1 := (s : Int)) (x2 := x2) hx1).2 s c s3 rfl hx2
    rw [c_placeFor s3 hx2 hc3 c2, bnd_some]
    by_cases pl : plT c x2 = -1
    · rw [pl, if_neg (by decide)]
      exact ⟨-2, h1, wT h1, rfl, by rw [mh h1 (by rw [e70]; exact hc) c2, if_pos pl], no⟩
    · obtain ⟨k, hk⟩ : ∃ k : Nat, plT c x2 = k := ⟨(plT c x2).toNat, by have := plT_nn c x2; omega⟩
      have kk : k < 2 ∧ k ≤ c ∧ (x2 = -1 → k = c) ∧ (x2 ≠ -1 → x2 = k ∧ k < c) := by
        unfold plT at hk
        by_cases q : x2 = -1
        · rw [if_pos q] at hk
          by_cases q2 : (c : Int) < 2
          · rw [if_pos q2] at hk; exact ⟨by omega, by omega, fun _ => by omega, fun q3 => absurd q q3⟩
          · rw [if_neg q2] at hk; omega
        · rw [if_neg q] at hk
          by_cases q2 : 0 ≤ x2 ∧ x2 < (c : Int)
          · rw [if_pos q2] at hk; exact ⟨by omega, by omega, fun q3 => absurd q3 q, fun _ => by omega⟩
          · rw [if_neg q2] at hk; omega
      obtain ⟨k2, kc, kA, kB⟩ := kk
      have h7 := b7 k k2
      rw [show 1 + 12 + 10 * k = 13 + 10 * k by omega, show 1 + 14 + 10 * k = 15 + 10 * k by omega, pv_at (by omega), pv_at (by omega)] at h7
      have hz : ∀ i, i < n → (0 ≤ h.2 70 (10 + i) ∧ h.2 70 (10 + i) ≤ 255) ∧ h1.2 2 i = i2b (h.2 70 (10 + i)) := fun i hi => by
        have := b3 i (by omega)
        rw [pv_70, pv_at (by omega), Nat.zero_add] at this
        rw [k1.2 2 i (by omega)]; exact this
      have rd := fun (g : AH) (hg : ∀ j, g.2 70 j = h.2 70 j) => t_read (z0 := h1) (w0 := wT g) (bt := fun i => h.2 70 (10 + i)) (x2 := x2) s3 n6 hz (by rw [k1.2 35 0 (by omega), k1.2 35 1 (by omega)]; exact h35) (by rw [k1.2 37 0 (by omega), k1.2 37 1 (by omega)]; exact h37) (by rw [wT_4.1, hg]; exact hn) (fun i hi => by rw [wT_ky.2 70 _ (by omega)]; exact hg _) wT_4.2.2.1 wT_4.2.2.2
      obtain ⟨zf, yf0, r1, -, r3, -, r5, -⟩ := rd h1 e70
      rw [hk, w32_id (x := (k : Int)) (by omega) (by omega), if_pos (by omega), r1, bnd_some, w32_id (x := zf.2 28 3) (by omega) (by omega)]
      have pn : ¬ plT c x2 = -1 := pl
      by_cases F : zf.2 28 3 = 0
      · obtain ⟨z2, p1, p2, p3, p4, p5, p6⟩ := c_put (z := zf) (s := s) (k := k) (c := c) s3 k2 (by rw [r3.2 3 s (by unfold kRd; omega)]; exact hc3) c2 (by rw [r3.2 35 0 (by unfold kRd; omega), r3.2 35 1 (by unfold kRd; omega), k1.2 35 0 (by omega), k1.2 35 1 (by omega)]; exact h35) (by rw [r3.2 37 0 (by unfold kRd; omega), r3.2 37 1 (by unfold kRd; omega), k1.2 37 0 (by omega), k1.2 37 1 (by omega)]; exact h37) (by
          rw [r3.2 (13 + 10 * k) 0 (by unfold kRd; omega), r3.2 (13 + 10 * k) 1 (by unfold kRd; omega), r3.2 (15 + 10 * k) 0 (by unfold kRd; omega), r3.2 (15 + 10 * k) 1 (by unfold kRd; omega), k1.2 (13 + 10 * k) 0 (by omega), k1.2 (13 + 10 * k) 1 (by omega), k1.2 (15 + 10 * k) 0 (by omega), k1.2 (15 + 10 * k) 1 (by omega)]; exact h7)
        have z70 : ∀ j, z2.2 70 j = h.2 70 j := fun j => by rw [p2.2 70 j (by unfold kPt; omega), r3.2 70 j (by unfold kRd; omega)]; exact e70 j
        obtain ⟨zf', yf, q1, q2, q3, q4, q5, q6⟩ := rd z2 z70
        have ez : zf' = zf := by
          rw [r1] at q1
          exact ((Prod.mk.inj (Option.some.inj q1)).2).symm
        subst ez
        obtain ⟨q6, q7⟩ := q6 F
        have y5 : yf.2 70 5 = 0 := by omega
        have ys : yf.2 70 s = c := by rw [q4.2 70 s (by unfold kRw; omega), wT_ky.2 70 s (by omega), z70]; exact hc
        rw [if_pos F, p1, bnd_some]
        -- the model
        have kY : Ky (kPu s k) h yf := ((((k1.mono (fun a i q => by show kPu s k a i; unfold kPu kHd; omega)).tr (r3.mono (fun a i q => by unfold kRd at q; show kPu s k a i; unfold kPu kHd; omega))).tr (p2.mono (fun a i q => Or.inr (Or.inl q)))).tr (wT_ky.mono (fun a i q => by show kPu s k a i; unfold kPu kHd; omega))).tr (q4.mono (fun a i q => by unfold kRw at q; show kPu s k a i; unfold kPu kHd; omega))
        have y1 : ∀ j, yf.2 1 j = h1.2 1 j := fun j => by rw [q4.2 1 j (by unfold kRw; omega), wT_ky.2 1 j (by omega), p2.2 1 j (by unfold kPt; omega), r3.2 1 j (by unfold kRd; omega)]
        have y4 : yf.2 70 4 = 0 := by rw [q4.2 70 4 (by unfold kRw; omega)]; exact wT_4.2.1
        have yy : ∀ a j, a < 28 → yf.2 a j = z2.2 a j := fun a j ha => by rw [q4.2 a j (by unfold kRw; omega), wT_ky.2 a j (by omega)]
        have sp := szpl s3 k2
        by_cases xx : x2 = -1
        · have ck := kA xx
          subst ck
          obtain ⟨y, m1, m2, m3⟩ := m_copy s3 k2 (wr yf 70 s ((k : Int) + 1))
          have K2 : Ky (kPu s k) h y := (kY.w2 (by unfold kPu; omega)).tr (m2.mono (fun a i q => by unfold kPu; omega))
          have y28 : ∀ a j, a < 28 → y.2 a j = z2.2 a j := fun a j ha => by rw [m2.2 a j (by omega), wr_e (by omega)]; exact yy a j ha
          refine ⟨k, z2, y, rfl, ?_, inv_put (zf := zf') (yf := yf) s3 k2 hI hc (Nat.le_refl _) K2 ⟨?_, ?_⟩ ?_ ?_ ?_ ?_ (fun j hj => ?_) q6 (fun e V v1 v2 => ?_) (fun e D v1 v2 => ?_) (fun e D v1 v2 => ?_)⟩
          · rw [mh z2 (by rw [z70]; exact hc) c2, if_neg pn, q2]
            unfold b11_text_209 b11_text_235 b11_text_251
            rw [asrt_t (by decide), show (w32 5).toNat = 5 from rfl, y5, ite_w0, w32_id hx2.1 hx2.2, if_neg (fun q => q xx), if_neg (fun q => q xx), w32_id (x := (s : Int)) (by omega) (by omega), asrt_t (by omega), asrt_t (by omega), asrt_t (by omega), lt_eq, Int.toNat_natCast, ys, m1]
          · rw [y28 1 1 (by omega), ← yy 1 1 (by omega), y1]; exact v11
          · rw [m2.2 70 4 (by omega), wr_e (by omega)]; exact y4
          · rw [y28 1 2 (by omega), ← yy 1 2 (by omega), y1, m2.2 70 5 (by omega), wr_e (by omega), y5]; exact v12
          · rw [y28 1 3 (by omega), ← yy 1 3 (by omega), y1, m2.2 70 6 (by omega), wr_e (by omega), q7]; exact v13
          · rw [y28 3 s (by omega)]; exact p3
          · rw [m2.2 70 s (by omega), wr_at, if_pos (by omega)]
          · rw [m3 j hj, wr_e (by omega)]
          · have := p4 e V v1 v2
            unfold VC at *
            exact ⟨by rw [y28 _ _ (by omega)]; exact this.1, by rw [y28 _ _ (by omega)]; exact this.2.1, by rw [y28 _ _ (by omega)]; exact this.2.2.1, by rw [y28 _ _ (by omega)]; exact this.2.2.2.1, fun i hi => by rw [y28 _ _ (by omega), y28 _ _ (by omega)]; exact this.2.2.2.2.1 i hi, fun i hi => by rw [y28 _ _ (by omega), y28 _ _ (by omega)]; exact this.2.2.2.2.2.1 i hi, fun i hi => by rw [y28 _ _ (by omega)]; exact this.2.2.2.2.2.2 i hi⟩
          · have := p5 e D v1 v2
            exact ⟨by rw [y28 _ _ (by omega)]; exact this.1, fun i hi => by rw [y28 _ _ (by omega)]; exact this.2 i hi⟩
          · have := p6 e D v1 v2
            exact ⟨by rw [y28 _ _ (by omega)]; exact this.1, fun i hi => by rw [y28 _ _ (by omega)]; exact this.2 i hi⟩
        · obtain ⟨xk, kl⟩ := kB xx
          subst xk
          obtain ⟨y, m1, m2, m3⟩ := m_copy s3 k2 yf
          have K2 : Ky (kPu s k) h y := kY.tr (m2.mono (fun a i q => by unfold kPu; omega))
          have y28 : ∀ a j, a < 28 → y.2 a j = z2.2 a j := fun a j ha => by rw [m2.2 a j (by omega)]; exact yy a j ha
          refine ⟨k, z2, y, rfl, ?_, inv_put (zf := zf') (yf := yf) s3 k2 hI hc kc K2 ⟨?_, ?_⟩ ?_ ?_ ?_ ?_ (fun j hj => ?_) q6 (fun e V v1 v2 => ?_) (fun e D v1 v2 => ?_) (fun e D v1 v2 => ?_)⟩
          · rw [mh z2 (by rw [z70]; exact hc) c2, if_neg pn, q2]
            unfold b11_text_209 b11_text_235 b11_text_251
            rw [asrt_t (by decide), show (w32 5).toNat = 5 from rfl, y5, ite_w0, w32_id hx2.1 hx2.2, if_pos xx, if_pos xx, m1]
          · rw [y28 1 1 (by omega), ← yy 1 1 (by omega), y1]; exact v11
          · rw [m2.2 70 4 (by omega)]; exact y4
          · rw [y28 1 2 (by omega), ← yy 1 2 (by omega), y1, m2.2 70 5 (by omega), y5]; exact v12
          · rw [y28 1 3 (by omega), ← yy 1 3 (by omega), y1, m2.2 70 6 (by omega), q7]; exact v13
          · rw [y28 3 s (by omega)]; exact p3
          · rw [m2.2 70 s (by omega), ys, if_neg (by omega)]
          · exact m3 j hj
          · have := p4 e V v1 v2
            unfold VC at *
            exact ⟨by rw [y28 _ _ (by omega)]; exact this.1, by rw [y28 _ _ (by omega)]; exact this.2.1, by rw [y28 _ _ (by omega)]; exact this.2.2.1, by rw [y28 _ _ (by omega)]; exact this.2.2.2.1, fun i hi => by rw [y28 _ _ (by omega), y28 _ _ (by omega)]; exact this.2.2.2.2.1 i hi, fun i hi => by rw [y28 _ _ (by omega), y28 _ _ (by omega)]; exact this.2.2.2.2.2.1 i hi, fun i hi => by rw [y28 _ _ (by omega)]; exact this.2.2.2.2.2.2 i hi⟩
          · have := p5 e D v1 v2
            exact ⟨by rw [y28 _ _ (by omega)]; exact this.1, fun i hi => by rw [y28 _ _ (by omega)]; exact this.2 i hi⟩
          · have := p6 e D v1 v2
            exact ⟨by rw [y28 _ _ (by omega)]; exact this.1, fun i hi => by rw [y28 _ _ (by omega)]; exact this.2 i hi⟩
      · rw [if_neg F]
        have kz : Ky (fun a i => a = 1 ∧ (i = 2 ∨ i = 3)) zf (wr (wr zf 1 2 (zf.2 28 3)) 1 3 ((wr zf 1 2 (zf.2 28 3)).2 28 4)) := (Ky.w1 (by omega)).w2 (by omega)
        have u2 : (wr (wr zf 1 2 (zf.2 28 3)) 1 3 ((wr zf 1 2 (zf.2 28 3)).2 28 4)).2 1 2 = zf.2 28 3 := by rw [wr_e (by omega), wr_at]
        have u3 : (wr (wr zf 1 2 (zf.2 28 3)) 1 3 ((wr zf 1 2 (zf.2 28 3)).2 28 4)).2 1 3 = zf.2 28 4 := by rw [wr_at, wr_e (by omega)]
        generalize wr (wr zf 1 2 (zf.2 28 3)) 1 3 ((wr zf 1 2 (zf.2 28 3)).2 28 4) = z2 at *
        have z70 : ∀ j, z2.2 70 j = h.2 70 j := fun j => by rw [kz.2 70 j (by omega), r3.2 70 j (by unfold kRd; omega)]; exact e70 j
        obtain ⟨zf', yf, q1, q2, q3, q4, q5, -⟩ := rd z2 z70
        have ez : zf' = zf := by
          rw [r1] at q1
          exact ((Prod.mk.inj (Option.some.inj q1)).2).symm
        subst ez
        have y1 : ∀ j, yf.2 1 j = z2.2 1 j := fun j => by rw [q4.2 1 j (by unfold kRw; omega), wT_ky.2 1 j (by omega)]
        refine ⟨-1, z2, yf, rfl, ?_, inv_head hI ((((k1.mono (fun a i q => by unfold kHd; omega)).tr (r3.mono (fun a i q => by unfold kRd at q; unfold kHd; omega))).tr (kz.mono (fun a i q => by unfold kHd; omega))).tr ((wT_ky.mono (fun a i q => by unfold kHd; omega)).tr (q4.mono (fun a i q => by unfold kRw at q; unfold kHd; omega)))) ⟨?_, ?_⟩ ?_ ?_⟩
        · rw [mh z2 (by rw [z70]; exact hc) c2, if_neg pn, q2]
          unfold b11_text_209
          rw [asrt_t (by decide), show (w32 5).toNat = 5 from rfl, w32_id (x := yf.2 70 5) (by omega) (by omega), if_neg (by omega)]
        · rw [y1, kz.2 1 1 (by omega), r3.2 1 1 (by unfold kRd; omega)]; exact v11
        · rw [q4.2 70 4 (by unfold kRw; omega)]; exact wT_4.2.1
        · rw [y1, u2]; exact q5.1
        · rw [y1, u3]; exact q5.2.1
  · rw [c_placeNo hx1 hs, bnd_some, if_neg (by decide)]
    exact ⟨-2, h1, wT h1, rfl, (m_head hx1).1 hs, no⟩
