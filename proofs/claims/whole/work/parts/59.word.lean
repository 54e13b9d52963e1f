/-! reading side by side: a number unlike another, a line's end, its word -/
section SimW
variable {z w z1 w1 : AH} {n : Nat} {bt : Nat → Int} {kd f t : Nat} {line i N : Nat}
theorem zN_c {v b : Int} (s3 : Ky kSt (zN z i f v b) z1) : (z.2 28 3 = 0 → b = 0 → z1.2 28 3 = 2 ∧ z1.2 28 4 = f) ∧ (¬ (b = 0 ∧ z.2 28 3 = 0) → z1.2 28 3 = z.2 28 3 ∧ z1.2 28 4 = z.2 28 4) := by
  rw [s3.2 28 3 (by unfold kSt; omega), s3.2 28 4 (by unfold kSt; omega)]
  exact ⟨fun y e => by subst e; exact zN_0 y, fun y => zN_1 y⟩
theorem wN_c {b : Prop} [Decidable b] (s4 : Ky kAd (wN w f b) w1) : (w.2 70 5 = 0 → ¬ b → w1.2 70 5 = 2 ∧ w1.2 70 6 = f) ∧ (¬ (¬ b ∧ w.2 70 5 = 0) → w1.2 70 5 = w.2 70 5 ∧ w1.2 70 6 = w.2 70 6) := by
  rw [s4.2 70 5 (by unfold kAd; omega), s4.2 70 6 (by unfold kAd; omega)]
  unfold wN
  constructor
  · intro y e
    rw [if_pos ⟨e, y⟩]
    exact ⟨by rw [wr_e (by decide), wr_at], wr_at⟩
  · intro e
    rw [if_neg e]
    exact ⟨rfl, rfl⟩
theorem s_unl {lo hi x : Int} (hl : line < 11) (hN : (stV 0).getD line 0 = (N : Int)) (hi' : i < N) (hN4 : N ≤ 4) (hG : TG n bt z w kd f t) (hF : FtA z w f) (hlo : 0 ≤ lo ∧ lo ≤ 99) (hhi : 0 ≤ hi ∧ hi ≤ 99) (hx : 0 ≤ x ∧ x ≤ 99) (hm : ∀ (v : Int) (u : AH), 0 ≤ v → v ≤ 99 → u.2 40 i = v → (∀ j, j ≠ i → u.2 40 j = z.2 40 j) → ∃ b, f5_mayBe line i u = some (b, u) ∧ (b = 0 ∨ b = 1) ∧ (z.2 28 3 = 0 → (b = 1 ↔ (lo ≤ v ∧ v ≤ hi) ∧ v ≠ x))) : NumR n bt z w t i line lo hi (f11_unlike lo hi x w) (fun v => v ≠ x) := by
  have hr := hG.rng
  have tk := hG.tok
  obtain ⟨F1, F2, F3⟩ := hF
  obtain ⟨g1, g2, ⟨p, g3⟩, ⟨a1, a2, a3⟩, ⟨b1, b2⟩, g6, g7⟩ := id hG
  by_cases c : kd = 2
  · right
    subst c
    have hv := g3.nr
    obtain ⟨v5, v6⟩ := g6.2.2.1 rfl
    have cn := c_number g1 g3 a2 a3
    generalize nmT bt f t = v at hv v6 cn
    obtain ⟨b, m1, m2, m3⟩ := hm v (wr z 40 i v) hv.1 hv.2 wr_at (fun j hj => wr_e (by omega))
    have cs := c_num (z := z) hl hN hi' hN4 (by rw [a1]; rfl) cn m1 m2 (by rw [F1]; omega)
    rw [a2] at cs
    have G0 : TG n bt (zN z i f v b) (wN w f (lo ≤ v ∧ v ≤ hi)) 2 f t := (hG.cz zN_ky (fun a k q => by omega)).cw wN_ky (fun a k q => by omega)
    obtain ⟨z', w', kd', f', t', s1, s2, s3, s4, s5, s6⟩ := s_step G0
    have fw := m_num g7 v5 v6 b2 (by omega) hlo hhi hv (F3.imp And.left id) s2
    have f6 : f ≤ 600 := by omega
    have ff : (f : Int) < (f' : Int) := by omega
    clear tk hr
    have sz : ∀ k, lC (k + 1) line i z = lC k line ((i : Int) + 1) z' := fun k => by
      rw [cs k]
      have : (if b = 0 ∧ z.2 28 3 = 0 then wr (wr (wr z 40 i v) 28 3 2) 28 4 (f : Int) else wr z 40 i v) = zN z i f v b := rfl
      rw [this, s1, bnd_some]
    have kz : Ky kRC z z' := (zN_ky.mono (fun a k q => by unfold kRC; omega)).tr (s3.mono (fun a k q => by unfold kSt at q; unfold kRC; omega))
    have kw : Ky kRM w w' := (wN_ky.mono (fun a k q => by unfold kRM; omega)).tr (s4.mono (fun a k q => by unfold kAd at q; unfold kRM; omega))
    have z40 : z'.2 40 i = v ∧ ∀ j, j ≠ i → z'.2 40 j = z.2 40 j := ⟨(s3.2 _ _ (by unfold kSt; omega)).trans zN_40.1, fun j hj => (s3.2 _ _ (by unfold kSt; omega)).trans (zN_40.2 j hj)⟩
    have rr : lo ≤ (if lo ≤ v ∧ v ≤ hi then v else lo) ∧ ((if lo ≤ v ∧ v ≤ hi then v else lo) ≤ hi ∨ (if lo ≤ v ∧ v ≤ hi then v else lo) = lo) := by
      clear F3 m2 m3
      split <;> omega
    have w8 : w'.2 69 8 = 0 := s5.2.2.2.2.2.2
    have fuN : v ≠ x → f11_unlike lo hi x w = some (if lo ≤ v ∧ v ≤ hi then v else lo, w') := fun vx => by
      unfold f11_unlike b11_unlike_33 b11_unlike_34
      rw [lt_eq, g7, ite_nw0, v5, if_neg (fun q => q (by decide)), v6, w32_id (x := v) (by omega) (by omega), w32_id (x := x) (by omega) (by omega), if_pos vx, fw, bnd_some, ite_w0]
    have fuY : v = x → ∀ w2, f11_also 2 (f : Int) w' = some (0, w2) → f11_unlike lo hi x w = some (if lo ≤ v ∧ v ≤ hi then v else lo, w2) := fun vx w2 also => by
      unfold f11_unlike b11_unlike_34
      rw [lt_eq, g7, ite_nw0, v5, if_neg (fun q => q (by decide)), v6, if_neg (fun q => q (by rw [vx])), fw, bnd_some, ite_w1, b2, also, bnd_some]
    have zc := zN_c s3
    have wc := wN_c s4
    have key : ∃ w2, f11_unlike lo hi x w = some (if lo ≤ v ∧ v ≤ hi then v else lo, w2) ∧ Ky (fun a k => a = 70 ∧ (k = 5 ∨ k = 6)) w' w2 ∧ FtA z' w2 f' ∧ (z'.2 28 3 = 0 → z.2 28 3 = 0 ∧ (lo ≤ v ∧ v ≤ hi) ∧ v ≠ x) := by
      by_cases y : z.2 28 3 = 0
      · have yw : w.2 70 5 = 0 := F1 ▸ y
        have m3 := m3 y
        have yw6 : w.2 70 6 = -1 := by
          rcases F3 with q | q
          · exact q.2
          · omega
        clear F3
        by_cases q : lo ≤ v ∧ v ≤ hi
        · obtain ⟨e5, e6⟩ := wc.2 (fun u => u.1 q)
          by_cases vx : v = x
          · have b0 : b = 0 := by
              rcases m2 with m2 | m2
              · exact m2
              · exact absurd vx (m3.mp m2).2
            obtain ⟨x3, x4⟩ := zc.1 y b0
            have also := m_also (w := w') (a := 2) (p := (f : Int)) w8 (by decide) ⟨by clear m2 m3 zc wc; omega, by clear m2 m3 zc wc; omega⟩ (Or.inl (e5.trans yw))
            rw [if_pos (e5.trans yw)] at also
            refine ⟨_, fuY vx _ also, (Ky.w1 ⟨rfl, Or.inl rfl⟩).w2 ⟨rfl, Or.inr rfl⟩, ⟨?_, ?_, Or.inr ?_⟩, fun u => ?_⟩
            · rw [x3, wr_e (by decide), wr_at]
            · rw [x4, wr_at]
            · rw [wr_e (by decide), wr_at, wr_at]; exact ⟨Or.inl rfl, by clear m2 m3 zc wc; omega, ff⟩
            · rw [x3] at u; exact absurd u (by decide)
          · obtain ⟨x3, x4⟩ := zc.2 (fun u => by have := m3.mpr ⟨q, vx⟩; rw [u.1] at this; exact absurd this (by decide))
            exact ⟨w', fuN vx, Ky.rf _, ⟨by rw [x3, e5, y, yw], by rw [x4, e6, F2], Or.inl ⟨e5.trans yw, e6.trans yw6⟩⟩, fun _ => ⟨y, q, vx⟩⟩
        · obtain ⟨e5, e6⟩ := wc.1 yw q
          have b0 : b = 0 := by
            rcases m2 with m2 | m2
            · exact m2
            · exact absurd (m3.mp m2).1 q
          obtain ⟨x3, x4⟩ := zc.1 y b0
          have fa : FtA z' w' f' := ⟨by rw [x3, e5], by rw [x4, e6], Or.inr ⟨Or.inl e5, by rw [e6]; exact Int.natCast_nonneg _, by rw [e6]; exact ff⟩⟩
          have fi : z'.2 28 3 = 0 → z.2 28 3 = 0 ∧ (lo ≤ v ∧ v ≤ hi) ∧ v ≠ x := fun u => by rw [x3] at u; exact absurd u (by decide)
          by_cases vx : v = x
          · have also := m_also (w := w') (a := 2) (p := (f : Int)) w8 (by decide) ⟨by clear m2 m3 zc wc q; omega, by clear m2 m3 zc wc q; omega⟩ (Or.inr ⟨Or.inl e5, by rw [e6]; exact Int.natCast_nonneg _, Or.inr ⟨e6, by rw [e5]; decide⟩⟩)
            rw [if_neg (by rw [e5]; decide)] at also
            exact ⟨w', fuY vx _ also, Ky.rf _, fa, fi⟩
          · exact ⟨w', fuN vx, Ky.rf _, fa, fi⟩
      · have yw : ¬ w.2 70 5 = 0 := fun u => y (F1.trans u)
        obtain ⟨e5, e6⟩ := wc.2 (fun u => yw u.2)
        obtain ⟨x3, x4⟩ := zc.2 (fun u => y u.2)
        have F4 := F3.resolve_left (fun q => yw q.1)
        have fa : FtA z' w' f' := ⟨by rw [x3, e5, F1], by rw [x4, e6, F2], Or.inr ⟨by rw [e5]; exact F4.1, by rw [e6]; exact F4.2.1, by rw [e6]; exact Int.lt_trans F4.2.2 ff⟩⟩
        have fi : z'.2 28 3 = 0 → z.2 28 3 = 0 ∧ (lo ≤ v ∧ v ≤ hi) ∧ v ≠ x := fun u => absurd (x3.symm.trans u) y
        by_cases vx : v = x
        · have also := m_also (w := w') (a := 2) (p := (f : Int)) w8 (by decide) ⟨by clear m2 m3 zc wc F3 F4; omega, by clear m2 m3 zc wc F3 F4; omega⟩ (Or.inr ⟨by rw [e5]; exact F4.1, by rw [e6]; exact F4.2.1, Or.inl (by rw [e6]; exact F4.2.2)⟩)
          rw [if_neg (by rw [e5]; exact yw)] at also
          exact ⟨w', fuY vx _ also, Ky.rf _, fa, fi⟩
        · exact ⟨w', fuN vx, Ky.rf _, fa, fi⟩
    obtain ⟨w2, k1, k2, k3, k4⟩ := key
    refine ⟨v, _, z', w2, kd', f', t', sz, k1, kz, kw.tr (k2.mono (fun a k q => Or.inr q)), s5.cw k2 (fun a k q => by clear fuN fuY zc wc m2 m3 F3 k3 k4; omega), k3, s6, z40, fun e => ?_, rr, hv⟩
    obtain ⟨e1, e2, e3⟩ := k4 e
    exact ⟨e1, by rw [if_pos e2], e2.1, e2.2, e3⟩
  · left
    obtain ⟨z', w', s1, s2, s3, s4, s5⟩ := s_break hG
    refine ⟨z', w', fun k => c_numX hl hN hi' hN4 (by omega) (by omega) s1 k, ?_, s3, s4, s5⟩
    unfold f11_unlike b11_unlike_33 b11_unlike_34 f11_numbered b11_numbered_15
    rw [lt_eq, g7, ite_nw0, w32_id (x := w.2 69 5) (by omega) (by omega), if_pos (by omega), ite_nw0, if_neg (by omega), s2, bnd_some, bnd_some, ite_w0]
def kTk (a k : Nat) : Prop := (a = 28 ∧ (k = 11 ∨ k = 12)) ∨ (29 ≤ a ∧ a ≤ 38 ∧ ¬ (a = 35 ∧ k < 2) ∧ ¬ (a = 37 ∧ k < 2))
theorem c_endX (hl : line < 11) (hN : (stV 0).getD line 0 = (N : Int)) (hN4 : N ≤ 4) (k : Nat) : lC (k + 1) line N z = b5_readLine_116 line z := by
  unfold lC
  rw [fx_succ]
  unfold b5_readLine_51
  rw [w32_id (x := (line : Int)) (by omega) (by omega), asrt_t (by omega), Int.toNat_natCast, hN, w32_id (x := (N : Int)) (by omega) (by omega), if_pos (Int.le_refl _)]
/-- what the end of a line leaves -/
def EndR (n : Nat) (bt : Nat → Int) (z w : AH) (t line N : Nat) : Prop :=
  (∃ z' w' : AH, (∀ k, lC (k + 1) line N z = some (0, z')) ∧ f11_endsLine w = some (0, w') ∧ BO z' w' ∧ Ky kRC z z' ∧ Ky kRM w w') ∨
  (¬ z.2 28 3 = 0 ∧ ∃ (z' w' : AH) (kd' f' t' : Nat), (∀ k, lC (k + 1) line N z = some (0, z')) ∧ f11_endsLine w = some (0, w') ∧ TG n bt z' w' kd' f' t' ∧ FtA z' w' f' ∧ t ≤ f' ∧ Ky kRC z z' ∧ Ky kRM w w' ∧ ¬ z'.2 28 3 = 0) ∨
  (z.2 28 3 = 0 ∧ ∀ z1 : AH, f5_take line z = some (0, z1) → Ky kTk z z1 → ∃ (z' w' : AH) (kd' f' t' : Nat), (∀ k, lC (k + 1) line N z = some (0, z')) ∧ f11_endsLine w = some (0, w') ∧ TG n bt z' w' kd' f' t' ∧ FtA z' w' f' ∧ t ≤ f' ∧ Ky kRC z1 z' ∧ Ky kRM w w' ∧ z'.2 28 3 = 0)
theorem s_end (hl : line < 11) (hN : (stV 0).getD line 0 = (N : Int)) (hN4 : N ≤ 4) (hG : TG n bt z w kd f t) (hF : FtA z w f) : EndR n bt z w t line N := by
  have hr := hG.rng
  have tk := hG.tok
  obtain ⟨F1, F2, F3⟩ := hF
  obtain ⟨g1, g2, ⟨p, g3⟩, ⟨a1, a2, a3⟩, ⟨b1, b2⟩, g6, g7⟩ := id hG
  have ce := fun k => c_endX (z := z) hl hN hN4 k
  by_cases c : kd = 3
  · right
    have me : ∀ w', f11_advance w = some (0, w') → f11_endsLine w = some (0, w') := fun w' e => by
      unfold f11_endsLine
      rw [g7, ite_nw0, w32_id (x := w.2 69 5) (by omega) (by omega), if_neg (by omega), e, bnd_some]
    have cc : b5_readLine_116 line z = if ¬ z.2 28 3 = 0 then bnd (f5_step z) fun r5 h6 => some (0, h6) else bnd (f5_take line z) fun r9 h10 => bnd (f5_step h10) fun r13 h14 => some (0, h14) := by
      unfold b5_readLine_116
      rw [a1, c, if_pos (by decide), w32_id (x := z.2 28 3) (by omega) (by omega)]
    by_cases y : z.2 28 3 = 0
    · right
      refine ⟨y, fun z1 tz kz => ?_⟩
      have e3 : z1.2 28 3 = z.2 28 3 := kz.2 _ _ (by unfold kTk; omega)
      have e4 : z1.2 28 4 = z.2 28 4 := kz.2 _ _ (by unfold kTk; omega)
      obtain ⟨z', w', kd', f', t', s1, s2, s3, s4, s5, s6⟩ := s_step (hG.cz kz (fun a k q => by unfold kTk at q; omega))
      have x3 : z'.2 28 3 = z1.2 28 3 := s3.2 _ _ (by unfold kSt; omega)
      have x4 : z'.2 28 4 = z1.2 28 4 := s3.2 _ _ (by unfold kSt; omega)
      have y5 : w'.2 70 5 = w.2 70 5 := s4.2 _ _ (by unfold kAd; omega)
      have y6 : w'.2 70 6 = w.2 70 6 := s4.2 _ _ (by unfold kAd; omega)
      refine ⟨z', w', kd', f', t', fun k => ?_, me w' s2, s5, ⟨by omega, by omega, Or.inl (by omega)⟩, s6, s3.mono (fun a k q => by unfold kSt at q; unfold kRC; omega), s4.mono (fun a k q => by unfold kAd at q; unfold kRM; omega), by omega⟩
      rw [ce, cc, if_neg (fun q => q y), tz, bnd_some, s1, bnd_some]
    · left
      refine ⟨y, ?_⟩
      obtain ⟨z', w', kd', f', t', s1, s2, s3, s4, s5, s6⟩ := s_step hG
      have x3 : z'.2 28 3 = z.2 28 3 := s3.2 _ _ (by unfold kSt; omega)
      have x4 : z'.2 28 4 = z.2 28 4 := s3.2 _ _ (by unfold kSt; omega)
      have y5 : w'.2 70 5 = w.2 70 5 := s4.2 _ _ (by unfold kAd; omega)
      have y6 : w'.2 70 6 = w.2 70 6 := s4.2 _ _ (by unfold kAd; omega)
      refine ⟨z', w', kd', f', t', fun k => ?_, me w' s2, s5, ⟨by omega, by omega, Or.inr (by omega)⟩, s6, s3.mono (fun a k q => by unfold kSt at q; unfold kRC; omega), s4.mono (fun a k q => by unfold kAd at q; unfold kRM; omega), by omega⟩
      rw [ce, cc, if_pos y, s1, bnd_some]
  · left
    obtain ⟨z', w', s1, s2, s3, s4, s5⟩ := s_break hG
    refine ⟨z', w', fun k => ?_, ?_, s3, s4, s5⟩
    · rw [ce]
      unfold b5_readLine_116
      rw [a1, w32_id (x := (kd : Int)) (by omega) (by omega), if_neg (by omega), s1, bnd_some]
    · unfold f11_endsLine
      rw [g7, ite_nw0, w32_id (x := w.2 69 5) (by omega) (by omega), if_pos (by omega), s2, bnd_some]
/-- what the word of a line leaves -/
theorem s_word {s : Nat} (hs : s < 3) (hG : TG n bt z w kd f t) (hF : FtA z w f) :
    (∃ z' w' : AH, f5_readLine s z = some (0, z') ∧ f11_wordIn (wLo s) (wHi s) w = some (0, w') ∧ BO z' w' ∧ Ky kRC z z' ∧ Ky kRM w w') ∨
    (kd ≠ 0 ∧ ∃ (line : Nat) (w1 : AH), (wLo s ≤ (line : Int) + 1 ∧ (line : Int) + 1 ≤ wHi s) ∧ f11_wordIn (wLo s) (wHi s) w = some ((line : Int) + 1, w1) ∧ Ky kRM w w1 ∧ w1.2 69 8 = 0 ∧
      ∀ b : Int, f5_isOneTooMany line z = some (b, z) → (b = 0 ∨ b = 1) → ∀ b2 : Prop, (z.2 28 3 = 0 → (b2 ↔ b = 1)) → ∃ (z1 w2 : AH) (kd' f' t' : Nat), f5_readLine s z = lC FU line 0 z1 ∧ (b2 → f11_also 3 (w.2 69 4) w1 = some (0, w2)) ∧ (¬ b2 → w2 = w1) ∧ TG n bt z1 w2 kd' f' t' ∧ FtA z1 w2 f' ∧ t ≤ f' ∧ Ky kRC z z1 ∧ Ky kRM w w2 ∧ (z1.2 28 3 = 0 → z.2 28 3 = 0 ∧ ¬ b2)) := by
  have hr := hG.rng
  have tk := hG.tok
  obtain ⟨F1, F2, F3⟩ := hF
  obtain ⟨g1, g2, ⟨p, g3⟩, ⟨a1, a2, a3⟩, ⟨b1, b2⟩, g6, g7⟩ := id hG
  have wl : 1 ≤ wLo s ∧ wLo s ≤ wHi s ∧ wHi s ≤ 11 := by
    unfold wLo wHi
    rcases (show s = 0 ∨ s = 1 ∨ s = 2 by omega) with rfl | rfl | rfl <;> decide
  have wr' := wcT_rng (bt := bt) f t
  by_cases c : kd = 1 ∧ wLo s ≤ wcT bt f t ∧ wcT bt f t ≤ wHi s
  · right
    obtain ⟨rfl, c1, c2⟩ := c
    obtain ⟨v7, v5⟩ := g6.2.1 rfl
    rw [if_neg (by omega)] at v5
    have cl := c_lineOf g1 g3 a2 a3 hs
    rw [if_pos ⟨c1, c2⟩] at cl
    obtain ⟨line, el⟩ : ∃ line : Nat, wcT bt f t = (line : Int) + 1 := ⟨(wcT bt f t - 1).toNat, by omega⟩
    rw [el] at cl v7 c1 c2
    rw [show ((line : Int) + 1) - 1 = (line : Int) by omega] at cl
    obtain ⟨z', w', kd', f', t', s1, s2, s3, s4, s5, s6⟩ := s_step hG
    have mw : f11_wordIn (wLo s) (wHi s) w = some ((line : Int) + 1, w') := by
      unfold f11_wordIn
      rw [g7, ite_nw0, v5, if_neg (fun q => q (by decide)), v7, m_isIn, bnd_some, w32_id (x := wLo s) (by omega) (by omega), w32_id (x := (line : Int) + 1) (by omega) (by omega), w32_id (x := wHi s) (by omega) (by omega), if_pos (c := wLo s ≤ (line : Int) + 1 ∧ (line : Int) + 1 ≤ wHi s) ⟨c1, c2⟩, ite_nw1, lt_eq, v7, s2, bnd_some]
    have k1 : Ky kRM w w' := s4.mono (fun a k q => by unfold kAd at q; unfold kRM; omega)
    refine ⟨by omega, line, w', ⟨c1, c2⟩, mw, k1, s5.2.2.2.2.2.2, fun b hb hb1 b2' hbb => ?_⟩
    have y5 : w'.2 70 5 = w.2 70 5 := s4.2 _ _ (by unfold kAd; omega)
    have y6 : w'.2 70 6 = w.2 70 6 := s4.2 _ _ (by unfold kAd; omega)
    have al := m_also (w := w') (a := 3) (p := (f : Int)) s5.2.2.2.2.2.2 (by omega) (by omega) (by omega)
    have rl : f5_readLine s z = if b = 0 then bnd (f5_step z) fun _ h => lC FU line 0 h else bnd (f5_step (if z.2 28 3 = 0 then wr (wr z 28 3 3) 28 4 (f : Int) else z)) fun _ h => lC FU line 0 h := by
      unfold f5_readLine b5_readLine_17 b5_readLine_45
      rw [a1, if_neg (fun q => q (by decide)), cl, bnd_some, w32_id (x := (line : Int)) (by omega) (by omega), if_pos (by omega), hb, bnd_some]
      rcases hb1 with rfl | rfl
      · rw [ite_w0, if_pos rfl]; rfl
      · rw [ite_w1, if_neg (by decide), a2, c_note (by omega), bnd_some]; rfl
    by_cases y : z.2 28 3 = 0 ∧ b = 1
    · have bb : b2' := (hbb y.1).mpr y.2
      have kz : Ky (fun a k => a = 28 ∧ (k = 3 ∨ k = 4)) z (wr (wr z 28 3 3) 28 4 (f : Int)) := (Ky.w1 (by omega)).w2 (by omega)
      obtain ⟨z1, w1, kd1, f1, t1, r1, r2, r3, r4, r5, r6⟩ := s_step (hG.cz kz (fun a k q => by omega))
      have ew : w1 = w' := by
        rw [s2] at r2
        exact ((Prod.mk.inj (Option.some.inj r2)).2).symm
      subst ew
      have kk : Ky (fun a k => a = 70 ∧ (k = 5 ∨ k = 6)) w1 (wr (wr w1 70 5 3) 70 6 (f : Int)) := (Ky.w1 (by omega)).w2 (by omega)
      have x3 : z1.2 28 3 = 3 := by rw [r3.2 _ _ (by unfold kSt; omega), wr_e (by omega), wr_at]
      have x4 : z1.2 28 4 = f := by rw [r3.2 _ _ (by unfold kSt; omega), wr_at]
      rw [if_pos (by omega)] at al
      refine ⟨z1, _, kd1, f1, t1, ?_, fun _ => by rw [b2]; exact al, fun q => absurd bb q, r5.cw kk (fun a k q => by omega), ⟨?_, ?_, Or.inr ?_⟩, r6, (kz.mono (fun a k q => by unfold kRC; omega)).tr (r3.mono (fun a k q => by unfold kSt at q; unfold kRC; omega)), k1.tr (kk.mono (fun a k q => by unfold kRM; omega)), fun q => by omega⟩
      · rw [rl, if_neg (by omega), if_pos y.1, r1, bnd_some]
      · rw [x3, wr_e (by omega), wr_at]
      · rw [x4, wr_at]
      · rw [wr_e (by omega), wr_at, wr_at]; omega
    · have x3 : z'.2 28 3 = z.2 28 3 := s3.2 _ _ (by unfold kSt; omega)
      have x4 : z'.2 28 4 = z.2 28 4 := s3.2 _ _ (by unfold kSt; omega)
      have w2 : b2' → f11_also 3 (w.2 69 4) w' = some (0, w') := fun q => by
        have : ¬ w.2 70 5 = 0 := fun e => y ⟨by omega, (hbb (by omega)).mp q⟩
        rw [if_neg (by omega)] at al
        rw [b2]; exact al
      refine ⟨z', w', kd', f', t', ?_, w2, fun _ => rfl, s5, ⟨by omega, by omega, by omega⟩, s6, s3.mono (fun a k q => by unfold kSt at q; unfold kRC; omega), k1, fun e => ⟨by omega, fun q => y ⟨by omega, (hbb (by omega)).mp q⟩⟩⟩
      rw [rl]
      rcases hb1 with rfl | rfl
      · rw [if_pos rfl, s1, bnd_some]
      · rw [if_neg (by decide), if_neg (c := z.2 28 3 = 0) (fun e => y ⟨e, rfl⟩), s1, bnd_some]
  · left
    obtain ⟨z', w', s1, s2, s3, s4, s5⟩ := s_break hG
    have b17 : b5_readLine_17 (-1) z = some (0, z') := by
      unfold b5_readLine_17
      rw [if_neg (fun q => q (by decide)), s1, bnd_some]
    refine ⟨z', w', ?_, ?_, s3, s4, s5⟩
    · unfold f5_readLine
      rw [a1, w32_id (x := (kd : Int)) (by omega) (by omega)]
      by_cases y : kd = 1
      · subst y
        have cl := c_lineOf g1 g3 a2 a3 hs
        rw [if_neg (by omega)] at cl
        rw [if_neg (fun q => q rfl), cl, bnd_some, b17]
      · rw [if_pos (by omega), b17]
    · unfold f11_wordIn b11_wordIn_27
      rw [g7, ite_nw0, w32_id (x := w.2 69 5) (by omega) (by omega)]
      by_cases y : w.2 69 5 = 3
      · obtain ⟨rfl, y2⟩ := tk.2.2.2.1.mp y
        obtain ⟨v7, v5⟩ := g6.2.1 rfl
        rw [if_neg (fun q => q y), v7, m_isIn, bnd_some, w32_id (x := wLo s) (by omega) (by omega), w32_id (x := wcT bt f t) (by omega) (by omega), w32_id (x := wHi s) (by omega) (by omega), if_neg (c := wLo s ≤ wcT bt f t ∧ wcT bt f t ≤ wHi s) (fun q => c ⟨rfl, q⟩), ite_nw0, s2, bnd_some]
      · rw [if_pos y, s2, bnd_some]
end SimW
