/-! reading side by side: a number of a line, its end, its word -/
def lC (k line : Nat) (i : Int) (z : AH) : Option (Int × AH) := fx (fun rec (y : Int × AH) => b5_readLine_51 rec (line : Int) y.1 y.2) k (i, z)
section SimN
variable {z w z1 w1 : AH} {n : Nat} {bt : Nat → Int} {kd f t : Nat} {line i N : Nat}
theorem c_numX (hl : line < 11) (hN : (stV 0).getD line 0 = (N : Int)) (hi : i < N) (hN4 : N ≤ 4) (h8 : ¬ z.2 28 8 = 2) (hr : 0 ≤ z.2 28 8 ∧ z.2 28 8 ≤ 4) {z' : AH} (hb : f5_breakOff z = some (0, z')) (k : Nat) : lC (k + 1) line i z = some (0, z') := by
  unfold lC
  rw [fx_succ]
  unfold b5_readLine_51
  rw [w32_id (x := (line : Int)) (by omega) (by omega), asrt_t (by omega), Int.toNat_natCast, hN, w32_id (x := (N : Int)) (by omega) (by omega), w32_id (x := (i : Int)) (by omega) (by omega), if_neg (by omega), if_neg (by omega), w32_id (x := z.2 28 8) (by omega) (by omega), if_neg h8, hb, bnd_some]
theorem c_num {v b : Int} (hl : line < 11) (hN : (stV 0).getD line 0 = (N : Int)) (hi : i < N) (hN4 : N ≤ 4) (h8 : z.2 28 8 = 2) (hv : f5_numberHere z = some (v, z)) (hm : f5_mayBe line i (wr z 40 i v) = some (b, wr z 40 i v)) (hb : b = 0 ∨ b = 1) (hr : 0 ≤ z.2 28 3 ∧ z.2 28 3 ≤ 4) (k : Nat) : lC (k + 1) line i z = bnd (f5_step (if b = 0 ∧ z.2 28 3 = 0 then wr (wr (wr z 40 i v) 28 3 2) 28 4 (z.2 28 9) else wr z 40 i v)) fun _ h => lC k line ((i : Int) + 1) h := by
  have e3 : (wr z 40 i v).2 28 3 = z.2 28 3 := wr_e (by omega)
  unfold lC
  rw [fx_succ]
  unfold b5_readLine_51 b5_readLine_106
  rw [w32_id (x := (line : Int)) (by omega) (by omega), asrt_t (by omega), Int.toNat_natCast, hN, w32_id (x := (N : Int)) (by omega) (by omega), w32_id (x := (i : Int)) (by omega) (by omega), if_neg (by omega), if_neg (by omega), h8, if_pos (by decide), hv, bnd_some, asrt_t (by omega), lt_eq, Int.toNat_natCast, hm, bnd_some]
  rcases hb with rfl | rfl
  · rw [ite_nw0, c_note (by rw [e3]; exact hr), bnd_some, e3]
    by_cases c : z.2 28 3 = 0
    · rw [if_pos c, if_pos ⟨rfl, c⟩, wr_e (by omega)]
    · rw [if_neg c, if_neg (fun q => c q.2)]
  · rw [ite_nw1, if_neg (by omega)]
/-- the class's heap, a number noted -/
def zN (z : AH) (i f : Nat) (v b : Int) : AH := if b = 0 ∧ z.2 28 3 = 0 then wr (wr (wr z 40 i v) 28 3 2) 28 4 (f : Int) else wr z 40 i v
theorem zN_ky {v b : Int} : Ky (fun a k => (a = 28 ∧ (k = 3 ∨ k = 4)) ∨ a = 40) z (zN z i f v b) := by
  unfold zN
  split
  · exact ((Ky.w1 (Or.inr rfl)).w2 (by omega)).w2 (by omega)
  · exact Ky.w1 (Or.inr rfl)
theorem zN_40 {v b : Int} : (zN z i f v b).2 40 i = v ∧ ∀ j, j ≠ i → (zN z i f v b).2 40 j = z.2 40 j := by
  unfold zN
  split
  · exact ⟨by rw [wr_e (by omega), wr_e (by omega), wr_at], fun j hj => by rw [wr_e (by omega), wr_e (by omega), wr_e (by omega)]⟩
  · exact ⟨wr_at, fun j hj => wr_e (by omega)⟩
theorem zN_0 {v : Int} (c : z.2 28 3 = 0) : (zN z i f v 0).2 28 3 = 2 ∧ (zN z i f v 0).2 28 4 = f := by
  unfold zN
  rw [if_pos ⟨rfl, c⟩]
  exact ⟨by rw [wr_e (by omega), wr_at], wr_at⟩
theorem zN_1 {v b : Int} (c : ¬ (b = 0 ∧ z.2 28 3 = 0)) : (zN z i f v b).2 28 3 = z.2 28 3 ∧ (zN z i f v b).2 28 4 = z.2 28 4 := by
  unfold zN
  rw [if_neg c]
  exact ⟨wr_e (by omega), wr_e (by omega)⟩
/-- the model's heap, a number noted -/
def wN (w : AH) (f : Nat) (b : Prop) [Decidable b] : AH := if ¬ b ∧ w.2 70 5 = 0 then wr (wr w 70 5 2) 70 6 (f : Int) else w
theorem wN_ky {b : Prop} [Decidable b] : Ky (fun a k => a = 70 ∧ (k = 5 ∨ k = 6)) w (wN w f b) := by
  unfold wN
  split
  · exact (Ky.w1 (by omega)).w2 (by omega)
  · exact Ky.rf _
theorem m_num {lo hi v : Int} (hw : w.2 69 8 = 0) (h5 : w.2 69 5 = 1) (h6 : w.2 69 6 = v) (h4 : w.2 69 4 = (f : Int)) (f6 : f ≤ 600) (hlo : 0 ≤ lo ∧ lo ≤ 99) (hhi : 0 ≤ hi ∧ hi ≤ 99) (hv : 0 ≤ v ∧ v ≤ 99) (hr : w.2 70 5 = 0 ∨ ((w.2 70 5 = 2 ∨ w.2 70 5 = 3) ∧ 0 ≤ w.2 70 6 ∧ w.2 70 6 < (f : Int))) {w' : AH} (ha : f11_advance (wN w f (lo ≤ v ∧ v ≤ hi)) = some (0, w')) : f11_numbered lo hi w = some (if lo ≤ v ∧ v ≤ hi then v else lo, w') := by
  unfold f11_numbered b11_numbered_44
  unfold wN at ha
  rw [hw, ite_nw0, h5, if_pos (by decide), lt_eq, h6, m_isIn, bnd_some, w32_id (x := lo) (by omega) (by omega), w32_id (x := v) (by omega) (by omega), w32_id (x := hi) (by omega) (by omega)]
  by_cases c : lo ≤ v ∧ v ≤ hi
  · rw [if_neg (fun q => q.1 c)] at ha
    rw [if_pos c, if_pos c, ite_nw1, ha, bnd_some, m_isIn, bnd_some, w32_id (x := lo) (by omega) (by omega), w32_id (x := v) (by omega) (by omega), w32_id (x := hi) (by omega) (by omega), if_pos c, ite_w1]
  · rw [if_neg c, if_neg c, ite_nw0, h4, m_also hw (by omega) (by omega) (by omega), bnd_some]
    have e : (if w.2 70 5 = 0 then wr (wr w 70 5 2) 70 6 (f : Int) else w) = if ¬(lo ≤ v ∧ v ≤ hi) ∧ w.2 70 5 = 0 then wr (wr w 70 5 2) 70 6 (f : Int) else w := by
      by_cases y : w.2 70 5 = 0
      · rw [if_pos y, if_pos ⟨c, y⟩]
      · rw [if_neg y, if_neg (fun q => y q.2)]
    rw [e, ha, bnd_some, m_isIn, bnd_some, w32_id (x := lo) (by omega) (by omega), w32_id (x := v) (by omega) (by omega), w32_id (x := hi) (by omega) (by omega), if_neg c, ite_w0]
/-- what a number read leaves -/
def NumR (n : Nat) (bt : Nat → Int) (z w : AH) (t i line : Nat) (lo hi : Int) (M : Option (Int × AH)) (ok : Int → Prop) : Prop :=
  (∃ z' w' : AH, (∀ k, lC (k + 1) line i z = some (0, z')) ∧ M = some (lo, w') ∧ BO z' w' ∧ Ky kRC z z' ∧ Ky kRM w w') ∨
  (∃ (v r : Int) (z' w' : AH) (kd' f' t' : Nat), (∀ k, lC (k + 1) line i z = lC k line ((i : Int) + 1) z') ∧ M = some (r, w') ∧ Ky kRC z z' ∧ Ky kRM w w' ∧ TG n bt z' w' kd' f' t' ∧ FtA z' w' f' ∧ t ≤ f' ∧ (z'.2 40 i = v ∧ ∀ j, j ≠ i → z'.2 40 j = z.2 40 j) ∧ (z'.2 28 3 = 0 → z.2 28 3 = 0 ∧ r = v ∧ lo ≤ v ∧ v ≤ hi ∧ ok v) ∧ (lo ≤ r ∧ (r ≤ hi ∨ r = lo)) ∧ (0 ≤ v ∧ v ≤ 99))
theorem s_num {lo hi : Int} (hl : line < 11) (hN : (stV 0).getD line 0 = (N : Int)) (hi' : i < N) (hN4 : N ≤ 4) (hG : TG n bt z w kd f t) (hF : FtA z w f) (hlo : 0 ≤ lo ∧ lo ≤ 99) (hhi : 0 ≤ hi ∧ hi ≤ 99) (hm : ∀ (v : Int) (u : AH), 0 ≤ v → v ≤ 99 → u.2 40 i = v → (∀ j, j ≠ i → u.2 40 j = z.2 40 j) → ∃ b, f5_mayBe line i u = some (b, u) ∧ (b = 0 ∨ b = 1) ∧ (z.2 28 3 = 0 → (b = 1 ↔ lo ≤ v ∧ v ≤ hi))) : NumR n bt z w t i line lo hi (f11_numbered lo hi w) (fun _ => True) := by
  have hr := hG.rng
  have tk := hG.tok
  obtain ⟨F1, F2, F3⟩ := hF
  obtain ⟨g1, g2, ⟨p, g3⟩, ⟨a1, a2, a3⟩, ⟨b1, b2⟩, g6, g7⟩ := id hG
  by_cases c : kd = 2
  · right
    subst c
    have hv := g3.nr
    obtain ⟨v5, v6⟩ := g6.2.2.1 rfl
    have cn := c_number g1 g3 a2 a3
    generalize nmT bt f t = v at hv v6 cn
    obtain ⟨b, m1, m2, m3⟩ := hm v (wr z 40 i v) hv.1 hv.2 wr_at (fun j hj => wr_e (by omega))
    have cs := c_num (z := z) hl hN hi' hN4 (by rw [a1]; rfl) cn m1 m2 (by rw [F1]; omega)
    rw [a2] at cs
    have G0 : TG n bt (zN z i f v b) (wN w f (lo ≤ v ∧ v ≤ hi)) 2 f t := (hG.cz zN_ky (fun a k q => by omega)).cw wN_ky (fun a k q => by omega)
    obtain ⟨z', w', kd', f', t', s1, s2, s3, s4, s5, s6⟩ := s_step G0
    have ez : z'.2 28 3 = (zN z i f v b).2 28 3 ∧ z'.2 28 4 = (zN z i f v b).2 28 4 := ⟨s3.2 _ _ (by unfold kSt; omega), s3.2 _ _ (by unfold kSt; omega)⟩
    have ew : w'.2 70 5 = (wN w f (lo ≤ v ∧ v ≤ hi)).2 70 5 ∧ w'.2 70 6 = (wN w f (lo ≤ v ∧ v ≤ hi)).2 70 6 := ⟨s4.2 _ _ (by unfold kAd; omega), s4.2 _ _ (by unfold kAd; omega)⟩
    have fw := m_num g7 v5 v6 b2 (by omega) hlo hhi hv (F3.imp And.left id) s2
    refine ⟨v, _, z', w', kd', f', t', fun k => ?_, fw, (zN_ky.mono (fun a k q => by unfold kRC; omega)).tr (s3.mono (fun a k q => by unfold kSt at q; unfold kRC; omega)), (wN_ky.mono (fun a k q => by unfold kRM; omega)).tr (s4.mono (fun a k q => by unfold kAd at q; unfold kRM; omega)), s5, ?_, s6, ⟨(s3.2 _ _ (by unfold kSt; omega)).trans zN_40.1, fun j hj => (s3.2 _ _ (by unfold kSt; omega)).trans (zN_40.2 j hj)⟩, ?_, ?_, hv⟩
    · rw [cs k]
      have : (if b = 0 ∧ z.2 28 3 = 0 then wr (wr (wr z 40 i v) 28 3 2) 28 4 (f : Int) else wr z 40 i v) = zN z i f v b := rfl
      rw [this, s1, bnd_some]
    · unfold FtA
      rw [ez.1, ez.2, ew.1, ew.2]
      by_cases y : z.2 28 3 = 0
      · by_cases x : lo ≤ v ∧ v ≤ hi
        · have b1 := (m3 y).mpr x
          rw [(zN_1 (by omega)).1, (zN_1 (by omega)).2]
          unfold wN
          rw [if_neg (fun q => q.1 x)]
          exact ⟨F1, F2, Or.inl (by omega)⟩
        · have b1 : b = 0 := by
            rcases m2 with m2 | m2
            · exact m2
            · exact absurd ((m3 y).mp m2) x
          subst b1
          rw [(zN_0 y).1, (zN_0 y).2]
          unfold wN
          rw [if_pos ⟨x, by omega⟩]
          refine ⟨by rw [wr_e (by omega), wr_at], wr_at.symm, Or.inr ?_⟩
          rw [wr_e (by omega), wr_at, wr_at]
          omega
      · rw [(zN_1 (by omega)).1, (zN_1 (by omega)).2]
        unfold wN
        rw [if_neg (fun q => by omega)]
        exact ⟨F1, F2, Or.inr (by omega)⟩
    · intro e
      rw [ez.1] at e
      by_cases y : z.2 28 3 = 0
      · rcases m2 with m2 | m2
        · subst m2
          rw [(zN_0 y).1] at e
          omega
        · have x := (m3 y).mp m2
          exact ⟨y, by rw [if_pos x], x.1, x.2, trivial⟩
      · rw [(zN_1 (by omega)).1] at e
        exact absurd e y
    · split <;> omega
  · left
    obtain ⟨z', w', s1, s2, s3, s4, s5⟩ := s_break hG
    refine ⟨z', w', fun k => c_numX hl hN hi' hN4 (by omega) (by omega) s1 k, ?_, s3, s4, s5⟩
    unfold f11_numbered b11_numbered_15
    rw [g7, ite_nw0, w32_id (x := w.2 69 5) (by omega) (by omega), if_neg (by omega), s2, bnd_some]
end SimN
