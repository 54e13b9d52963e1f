/-! reading side by side: a token, a note, a number -/
def TG (n : Nat) (bt : Nat → Int) (z w : AH) (kd f t : Nat) : Prop := TP n bt z ∧ MT n bt w ∧ (∃ p, TK n bt p kd f t) ∧ (z.2 28 8 = (kd : Int) ∧ z.2 28 9 = (f : Int) ∧ z.2 28 10 = (t : Int)) ∧ (w.2 69 3 = (t : Int) ∧ w.2 69 4 = (f : Int)) ∧ TV bt w kd f t ∧ w.2 69 8 = 0
def FtA (z w : AH) (b : Nat) : Prop := z.2 28 3 = w.2 70 5 ∧ z.2 28 4 = w.2 70 6 ∧ ((w.2 70 5 = 0 ∧ w.2 70 6 = -1) ∨ ((w.2 70 5 = 2 ∨ w.2 70 5 = 3) ∧ 0 ≤ w.2 70 6 ∧ w.2 70 6 < (b : Int)))
def BO (z w : AH) : Prop := z.2 28 3 = 1 ∧ w.2 70 5 = 1 ∧ z.2 28 4 = w.2 70 6 ∧ w.2 69 8 = 1
def kRC (a k : Nat) : Prop := (a = 28 ∧ (k = 3 ∨ k = 4 ∨ k = 8 ∨ k = 9 ∨ k = 10)) ∨ a = 40
def kRM (a k : Nat) : Prop := (a = 69 ∧ 3 ≤ k ∧ k ≤ 8) ∨ (a = 70 ∧ (k = 5 ∨ k = 6))
section Sim
variable {z w z1 w1 : AH} {n : Nat} {bt : Nat → Int} {kd f t : Nat} {P : Nat → Nat → Prop}
theorem TG.cz (hG : TG n bt z w kd f t) (k : Ky P z z1) (hp : ∀ a k, P a k → ¬ (a = 28 ∧ 7 ≤ k ∧ k ≤ 10) ∧ a ≠ 39) : TG n bt z1 w kd f t := by
  obtain ⟨g1, g2, g3, ⟨a1, a2, a3⟩, g5, g6, g7⟩ := hG
  have e : ∀ j, 7 ≤ j → j ≤ 10 → z1.2 28 j = z.2 28 j := fun j j1 j2 => k.2 28 j (fun q => (hp _ _ q).1 ⟨rfl, j1, j2⟩)
  refine ⟨⟨(e 7 (by omega) (by omega)).trans g1.1, g1.2.1, fun i hi => ⟨(g1.2.2 i hi).1, (k.2 39 i (fun q => (hp _ _ q).2 rfl)).trans (g1.2.2 i hi).2⟩⟩, g2, g3, ⟨?_, ?_, ?_⟩, g5, g6, g7⟩
  · rw [e 8 (by omega) (by omega)]; exact a1
  · rw [e 9 (by omega) (by omega)]; exact a2
  · rw [e 10 (by omega) (by omega)]; exact a3
theorem TG.cw (hG : TG n bt z w kd f t) (k : Ky P w w1) (hp : ∀ a k, P a k → ¬ (a = 69 ∧ 2 ≤ k ∧ k ≤ 8) ∧ ¬ (a = 70 ∧ 10 ≤ k)) : TG n bt z w1 kd f t := by
  obtain ⟨g1, g2, g3, g4, ⟨a1, a2⟩, g6, g7⟩ := hG
  have e : ∀ j, 2 ≤ j → j ≤ 8 → w1.2 69 j = w.2 69 j := fun j j1 j2 => k.2 69 j (fun q => (hp _ _ q).1 ⟨rfl, j1, j2⟩)
  refine ⟨g1, ⟨(e 2 (by omega) (by omega)).trans g2.1, g2.2.1, fun i hi => ⟨(g2.2.2 i hi).1, (k.2 70 _ (fun q => (hp _ _ q).2 ⟨rfl, by omega⟩)).trans (g2.2.2 i hi).2⟩⟩, g3, g4, ⟨?_, ?_⟩, ?_, ?_⟩
  · rw [e 3 (by omega) (by omega)]; exact a1
  · rw [e 4 (by omega) (by omega)]; exact a2
  · unfold TV
    rw [e 5 (by omega) (by omega), e 6 (by omega) (by omega), e 7 (by omega) (by omega)]; exact g6
  · rw [e 8 (by omega) (by omega)]; exact g7
theorem TG.rng (hG : TG n bt z w kd f t) : f ≤ t ∧ t ≤ n ∧ n ≤ 600 ∧ (kd ≠ 0 → f < t) ∧ (kd = 0 → f = n) ∧ kd ≤ 4 := by
  obtain ⟨g1, -, ⟨p, g3⟩, -⟩ := hG
  have := g3.rng
  have := g1.2.1
  exact ⟨by omega, by omega, by omega, by omega, by omega, by omega⟩
theorem s_step (hG : TG n bt z w kd f t) : ∃ (z' w' : AH) (kd' f' t' : Nat), f5_step z = some (0, z') ∧ f11_advance w = some (0, w') ∧ Ky kSt z z' ∧ Ky kAd w w' ∧ TG n bt z' w' kd' f' t' ∧ t ≤ f' := by
  have hr := hG.rng
  obtain ⟨g1, g2, ⟨p, g3⟩, ⟨a1, a2, a3⟩, ⟨b1, b2⟩, g6, g7⟩ := hG
  obtain ⟨z', kd', f', t', c1, c2, c3, c4, c5, c6⟩ := c_step g1 a3 hr.2.1
  obtain ⟨w', kd2, f2, t2, d1, d2, d3, d4, d5, d6⟩ := m_adv g2 b1 hr.2.1
  obtain ⟨rfl, rfl, rfl⟩ := c3.uq d3
  exact ⟨z', w', kd', f', t', c1, d1, c2, d2, ⟨g1.ky c2, g2.ky d2, ⟨t, c3⟩, ⟨c4, c5, c6⟩, ⟨d4, d5⟩, d6, (d2.2 69 8 (by unfold kAd; omega)).trans g7⟩, c3.rng.1⟩
theorem c_note {a p : Int} (hr : 0 ≤ z.2 28 3 ∧ z.2 28 3 ≤ 4) : f5_note a p z = some (0, if z.2 28 3 = 0 then wr (wr z 28 3 a) 28 4 p else z) := by
  unfold f5_note
  rw [w32_id (x := z.2 28 3) (by omega) (by omega)]
  by_cases c : z.2 28 3 = 0
  · rw [if_neg (fun q => q c), if_pos c, lt_eq, lt_eq]
  · rw [if_pos c, if_neg c]
theorem m_also {a p : Int} (hw : w.2 69 8 = 0) (ha : 0 ≤ a ∧ a ≤ 4) (hp : 0 ≤ p ∧ p ≤ 600) (hr : w.2 70 5 = 0 ∨ ((w.2 70 5 = 2 ∨ w.2 70 5 = 3) ∧ 0 ≤ w.2 70 6 ∧ (w.2 70 6 < p ∨ (w.2 70 6 = p ∧ w.2 70 5 ≤ a)))) : f11_also a p w = some (0, if w.2 70 5 = 0 then wr (wr w 70 5 a) 70 6 p else w) := by
  unfold f11_also b11_also_49
  rw [hw, ite_nw0, asrt_t (by decide), show (w32 5).toNat = 5 from rfl, show (w32 6).toNat = 6 from rfl]
  rcases hr with c | ⟨c, c2, c3⟩
  · rw [w32_id (x := w.2 70 5) (by omega) (by omega), if_pos c, if_pos c, asrt_t (by decide), lt_eq, asrt_t (by decide), lt_eq]
  · rw [w32_id (x := w.2 70 5) (by omega) (by omega), if_neg (c := w.2 70 5 = 0) (by omega), if_neg (c := w.2 70 5 = 0) (by omega), asrt_t (by decide), w32_id (x := w.2 70 6) (by omega) (by omega), w32_id (x := p) (by omega) (by omega), w32_id (x := a) (by omega) (by omega)]
    rcases c3 with c3 | ⟨c3, c4⟩
    · rw [if_pos c3]
    · rw [if_neg (by omega), asrt_t (by decide), if_neg (fun q => q c3), asrt_t (by decide), if_neg (by omega)]
theorem m_ends (hw : w.2 69 8 = 0) : f11_ends w = some (0, wr (wr (wr w 69 8 1) 70 5 1) 70 6 (w.2 69 4)) := by
  unfold f11_ends
  rw [hw, ite_w0, lt_eq, asrt_t (by decide), lt_eq, asrt_t (by decide), lt_eq, show (w32 5).toNat = 5 from rfl, show (w32 6).toNat = 6 from rfl, wr_e (by omega), wr_e (by omega)]
theorem m_ends1 (hw : w.2 69 8 = 1) : f11_ends w = some (0, w) := by
  unfold f11_ends
  rw [hw, ite_w1]
theorem m_num1 {lo hi : Int} (hw : w.2 69 8 = 1) : f11_numbered lo hi w = some (lo, w) := by
  unfold f11_numbered b11_numbered_15
  rw [hw, ite_nw1, m_ends1 hw, bnd_some]
theorem m_unl1 {lo hi x : Int} (hw : w.2 69 8 = 1) : f11_unlike lo hi x w = some (lo, w) := by
  unfold f11_unlike b11_unlike_33 b11_unlike_34
  rw [lt_eq, hw, ite_nw1, m_num1 hw, bnd_some, ite_w0]
theorem m_end1 (hw : w.2 69 8 = 1) : f11_endsLine w = some (0, w) := by
  unfold f11_endsLine
  rw [hw, ite_nw1, m_ends1 hw, bnd_some]
theorem m_also1 {a p : Int} (hw : w.2 69 8 = 1) : f11_also a p w = some (0, w) := by
  unfold f11_also
  rw [hw, ite_nw1]
theorem s_break (hG : TG n bt z w kd f t) : ∃ z' w' : AH, f5_breakOff z = some (0, z') ∧ f11_ends w = some (0, w') ∧ BO z' w' ∧ Ky kRC z z' ∧ Ky kRM w w' := by
  obtain ⟨g1, g2, g3, ⟨a1, a2, a3⟩, ⟨b1, b2⟩, g6, g7⟩ := hG
  refine ⟨wr (wr z 28 3 1) 28 4 (z.2 28 9), _, ?_, m_ends g7, ⟨?_, ?_, ?_, ?_⟩, (Ky.w1 (by unfold kRC; omega)).w2 (by unfold kRC; omega), ((Ky.w1 (by unfold kRM; omega)).w2 (by unfold kRM; omega)).w2 (by unfold kRM; omega)⟩
  · unfold f5_breakOff
    rw [lt_eq, lt_eq, wr_e (by omega)]
  · rw [wr_e (by omega), wr_at]
  · rw [wr_e (by omega), wr_at]
  · rw [wr_at, wr_at, a2, b2]
  · rw [wr_e (by omega), wr_e (by omega), wr_at]
theorem TG.tok (hG : TG n bt z w kd f t) : (0 ≤ w.2 69 5 ∧ w.2 69 5 ≤ 4) ∧ (kd = 2 ↔ w.2 69 5 = 1) ∧ (kd = 3 ↔ w.2 69 5 = 2) ∧ (w.2 69 5 = 3 ↔ kd = 1 ∧ wcT bt f t ≠ 99) ∧ (kd = 0 ↔ w.2 69 5 = 0) := by
  have hr := hG.rng
  obtain ⟨g1, g2, g3, g4, g5, ⟨h0, h1, h2, h3, h4⟩, g7⟩ := hG
  rcases (show kd = 0 ∨ kd = 1 ∨ kd = 2 ∨ kd = 3 ∨ kd = 4 by omega) with rfl | rfl | rfl | rfl | rfl
  · have := h0 rfl; omega
  · have := (h1 rfl).2
    split at this <;> omega
  · have := (h2 rfl).1; omega
  · have := h3 rfl; omega
  · have := h4 rfl; omega
end Sim
