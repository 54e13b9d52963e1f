/-! what is told, kept and moved -/
theorem VOK_cong {V W : Nat → Int} (h : ∀ j, j < 72 → W j = V j) (hV : VOK V) : VOK W := by
  obtain ⟨c0, c1, c2, c3, c4, c5, c6⟩ := hV
  have e1 := h 1 (by omega)
  have e2 := h 2 (by omega)
  refine ⟨by rw [h 0 (by omega)]; exact c0, by rw [e1]; exact c1, by rw [e2]; exact c2, by rw [h 3 (by omega)]; exact c3, fun s hs => ?_, fun q hq => ?_, fun q hq => ?_⟩
  · rw [e1] at hs
    rw [h _ (by omega), h _ (by omega)]; exact c4 s hs
  · rw [e2] at hq
    rw [h _ (by omega), h _ (by omega)]; exact c5 q hq
  · rw [h _ (by omega)]; exact c6 q hq
theorem VC_congV {c : Nat → Nat → Int} {v : Nat} {V W : Nat → Int} (h : ∀ j, j < 72 → W j = V j) (hV : VOK V) (hc : VC c v V) : VC c v W := by
  obtain ⟨v0, v1, v2, v3, v4, v5, v6⟩ := hV
  obtain ⟨c0, c1, c2, c3, c4, c5, c6⟩ := hc
  have e1 := h 1 (by omega)
  have e2 := h 2 (by omega)
  refine ⟨by rw [h 0 (by omega)]; exact c0, by rw [e1]; exact c1, by rw [e2]; exact c2, by rw [h 3 (by omega)]; exact c3, fun s hs => ?_, fun q hq => ?_, fun q hq => ?_⟩
  · rw [e1] at hs
    rw [h _ (by omega), h _ (by omega)]; exact c4 s hs
  · rw [e2] at hq
    rw [h _ (by omega), h _ (by omega)]; exact c5 q hq
  · rw [h _ (by omega)]; exact c6 q hq
theorem DOK_cong {D E : Nat → Int} (h : ∀ j, j < 201 → E j = D j) (hD : DOK D) : DOK E := by
  obtain ⟨d0, d1⟩ := hD
  have e0 := h 0 (by omega)
  refine ⟨by rw [e0]; exact d0, fun q hq => ?_⟩
  rw [e0] at hq
  rw [h (1 + 5 * q) (by omega), h (2 + 5 * q) (by omega), h (3 + 5 * q) (by omega), h (4 + 5 * q) (by omega), h (5 + 5 * q) (by omega)]
  exact d1 q hq
theorem LOK_cong {D E : Nat → Int} (h : ∀ j, j < 25 → E j = D j) (hD : LOK D) : LOK E := by
  obtain ⟨d0, d1⟩ := hD
  have e0 := h 0 (by omega)
  refine ⟨by rw [e0]; exact d0, fun q hq => ?_⟩
  rw [e0] at hq
  rw [h (1 + 3 * q) (by omega), h (2 + 3 * q) (by omega), h (3 + 3 * q) (by omega)]
  exact d1 q hq
/-- the cells that tell, the same elsewhere -/
def TE (c d : Nat → Nat → Int) (t u : Nat) : Prop :=
  (∀ k, 1 ≤ k → k ≤ 3 → d u k = c t k) ∧ (∀ k, k < 600 → d (u + 1) k = c (t + 1) k) ∧ (∀ k, k < 3 → d (u + 2) k = c (t + 2) k) ∧
  (∀ i, i < 2 → (∀ k, k < 4 → d (u + 6 + 10 * i) k = c (t + 6 + 10 * i) k) ∧ (∀ k, k < 6 → d (u + 6 + 10 * i + 1) k = c (t + 6 + 10 * i + 1) k ∧ d (u + 6 + 10 * i + 2) k = c (t + 6 + 10 * i + 2) k) ∧ (∀ k, k < 4 → d (u + 6 + 10 * i + 3) k = c (t + 6 + 10 * i + 3) k ∧ d (u + 6 + 10 * i + 4) k = c (t + 6 + 10 * i + 4) k) ∧ ∀ k, k < 48 → d (u + 6 + 10 * i + 5) k = c (t + 6 + 10 * i + 5) k) ∧
  (∀ i, i < 2 → (d (u + 12 + 10 * i) 0 = 5 ∧ d (u + 12 + 10 * i) 1 = 40 ∧ d (u + 12 + 10 * i) 3 = c (t + 12 + 10 * i) 3) ∧ ∀ k, k < 200 → d (u + 12 + 10 * i + 1) k = c (t + 12 + 10 * i + 1) k) ∧
  ∀ i, i < 2 → (d (u + 14 + 10 * i) 0 = 3 ∧ d (u + 14 + 10 * i) 1 = 8 ∧ d (u + 14 + 10 * i) 3 = c (t + 14 + 10 * i) 3) ∧ ∀ k, k < 24 → d (u + 14 + 10 * i + 1) k = c (t + 14 + 10 * i + 1) k
theorem TR_move {c d : Nat → Nat → Int} {t u o p : Nat} (hT : TR c t o) (hE : TE c d t u) (h70 : ∀ k, k < 1206 → d 70 (p + k) = c 70 (o + k)) : TR d u p := by
  obtain ⟨a1, a2, a3, a4, a5, a6, a7⟩ := hT
  obtain ⟨e1, e2, e3, e4, e5, e6⟩ := hE
  have z0 := (a1 0 (by omega)).2
  have z1 := (a1 1 (by omega)).2
  have z2 := (a1 2 (by omega)).2
  have f : ∀ j k, j + k < 1206 → rowV d (p + j) k = rowV c (o + j) k := fun j k hk => by
    unfold rowV
    rw [Nat.add_assoc, Nat.add_assoc]; exact h70 _ hk
  have g0 : d 70 p = c 70 o := by have := h70 0 (by omega); rwa [Nat.add_zero, Nat.add_zero] at this
  have g1 : d 70 (p + 1) = c 70 (o + 1) := h70 1 (by omega)
  have g2 : d 70 (p + 2) = c 70 (o + 2) := h70 2 (by omega)
  rw [Nat.add_zero] at z0
  refine ⟨fun q hq => ?_, ?_, fun i hi => ?_, fun k hk => ?_, fun k hk => ?_, fun k hk => ?_, fun k hk => ?_⟩
  · rw [e3 q hq, h70 q (by omega)]; exact a1 q hq
  · rw [e1 1 (by omega) (by omega), e1 2 (by omega) (by omega), e1 3 (by omega) (by omega), h70 4 (by omega), h70 5 (by omega), h70 6 (by omega)]; exact a2
  · rw [e2 i hi, Nat.add_assoc p, h70 (10 + i) (by omega), ← Nat.add_assoc]; exact a3 i hi
  · rw [g0] at hk
    obtain ⟨b1, b2⟩ := a4 k hk
    have fv : ∀ j, j < 72 → rowV d (p + 610 + 72 * k) j = rowV c (o + 610 + 72 * k) j := fun j hj => by
      have := f (610 + 72 * k) j (by omega)
      rwa [← Nat.add_assoc, ← Nat.add_assoc] at this
    obtain ⟨x1, x2, x3, x4⟩ := e4 k (by omega)
    exact ⟨VOK_cong fv b1, VC_congV fv b1 (VC_mk b1.z b2 x1 x2 x3 x4)⟩
  · rw [g1] at hk
    obtain ⟨b1, b2, b3⟩ := a5 k hk
    have fv : ∀ j, j < 201 → rowV d (p + 754 + 201 * k) j = rowV c (o + 754 + 201 * k) j := fun j hj => by
      have := f (754 + 201 * k) j (by omega)
      rwa [← Nat.add_assoc, ← Nat.add_assoc] at this
    obtain ⟨⟨x1, x2, x3⟩, x4⟩ := e5 k (by omega)
    have d0 := b1.1
    refine ⟨DOK_cong fv b1, by rw [x3, fv 0 (by omega)]; exact b2, fun i hi => ?_⟩
    rw [fv 0 (by omega)] at hi
    have il : i < 200 := by omega
    rw [x4 i il, fv (1 + i) (by omega)]; exact b3 i hi
  · rw [g2] at hk
    obtain ⟨b1, b2, b3⟩ := a6 k hk
    have fv : ∀ j, j < 25 → rowV d (p + 1156 + 25 * k) j = rowV c (o + 1156 + 25 * k) j := fun j hj => by
      have := f (1156 + 25 * k) j (by omega)
      rwa [← Nat.add_assoc, ← Nat.add_assoc] at this
    obtain ⟨⟨x1, x2, x3⟩, x4⟩ := e6 k (by omega)
    have d0 := b1.1
    refine ⟨LOK_cong fv b1, by rw [x3, fv 0 (by omega)]; exact b2, fun i hi => ?_⟩
    rw [fv 0 (by omega)] at hi
    have il : i < 24 := by omega
    rw [x4 i il, fv (1 + i) (by omega)]; exact b3 i hi
  · obtain ⟨⟨x1, x2, -⟩, -⟩ := e5 k hk
    obtain ⟨⟨y1, y2, -⟩, -⟩ := e6 k hk
    exact ⟨⟨x1, x2⟩, y1, y2⟩
theorem TE_same {c d : Nat → Nat → Int} {t o : Nat} (hT : TR c t o) (h : ∀ a k, t ≤ a → a ≤ t + 25 → d a k = c a k) : TE c d t t := by
  obtain ⟨-, -, -, -, -, -, a7⟩ := hT
  refine ⟨fun k _ _ => h _ _ (by omega) (by omega), fun k _ => h _ _ (by omega) (by omega), fun k _ => h _ _ (by omega) (by omega), fun i hi => ⟨fun k _ => h _ _ (by omega) (by omega), fun k _ => ⟨h _ _ (by omega) (by omega), h _ _ (by omega) (by omega)⟩, fun k _ => ⟨h _ _ (by omega) (by omega), h _ _ (by omega) (by omega)⟩, fun k _ => h _ _ (by omega) (by omega)⟩, fun i hi => ⟨⟨?_, ?_, h _ _ (by omega) (by omega)⟩, fun k _ => h _ _ (by omega) (by omega)⟩, fun i hi => ⟨⟨?_, ?_, h _ _ (by omega) (by omega)⟩, fun k _ => h _ _ (by omega) (by omega)⟩⟩
  · rw [h _ _ (by omega) (by omega)]; exact (a7 i hi).1.1
  · rw [h _ _ (by omega) (by omega)]; exact (a7 i hi).1.2
  · rw [h _ _ (by omega) (by omega)]; exact (a7 i hi).2.1
  · rw [h _ _ (by omega) (by omega)]; exact (a7 i hi).2.2
/-- what stands is changed, the images are not -/
theorem Inv.upd {h h2 : AH} (hI : Inv h) (e1 : h2.1 = h.1) (e2 : ∀ a k, a = 27 ∨ a = 71 ∨ 92 < a → h2.2 a k = h.2 a k) (e3 : ∀ k, 1206 ≤ k → h2.2 70 k = h.2 70 k) (e4 : ∀ k, k < 2 → h2.2 35 k = h.2 35 k ∧ h2.2 37 k = h.2 37 k) (hT : TR (pv h2.2) 1 0) : Inv h2 := by
  obtain ⟨⟨-, b2, b3, b4⟩, b5, b6⟩ := hI
  have p27 : ∀ k, pv h2.2 27 k = pv h.2 27 k := fun k => by rw [pv_at (by omega), pv_at (by omega)]; exact e2 27 k (by omega)
  have p71 : ∀ k, pv h2.2 71 k = pv h.2 71 k := fun k => by rw [pv_at (by omega), pv_at (by omega)]; exact e2 71 k (by omega)
  refine ⟨⟨hT, ?_, fun k hk => ?_, fun k q hk hq => ?_⟩, ?_, ?_⟩
  · rw [e1, b2]
    exact sm_cong (fun i _ => by rw [p71])
  · rw [p27, p71, e1]
    rcases b3 k hk with z | ⟨j, j1, j2, j3, j4⟩
    · exact Or.inl z
    · right
      refine ⟨j, j1, j2, j3, TR_move j4 (TE_same j4 (fun a q h1 h2 => ?_)) (fun q hq => ?_)⟩
      · rw [pv_at (by omega), pv_at (by omega)]; exact e2 a q (by omega)
      · rw [pv_70, pv_70]; exact e3 _ (by omega)
  · rw [p27, p27]; exact b4 k q hk hq
  · rw [(e4 0 (by omega)).1, (e4 1 (by omega)).1]; exact b5
  · rw [(e4 0 (by omega)).2, (e4 1 (by omega)).2]; exact b6
theorem TR_head {c d : Nat → Nat → Int} (hT : TR c 1 0) (e : ∀ a k, 3 ≤ a → a ≤ 26 → d a k = c a k) (e70 : ∀ k, k < 4 ∨ 610 ≤ k → d 70 k = c 70 k) (n2 : d 1 1 = d 70 4 ∧ (0 ≤ d 70 4 ∧ d 70 4 ≤ 600) ∧ d 1 2 = d 70 5 ∧ d 1 3 = d 70 6) (n3 : ∀ i, i < 600 → (0 ≤ d 70 (10 + i) ∧ d 70 (10 + i) ≤ 255) ∧ d 2 i = i2b (d 70 (10 + i))) : TR d 1 0 := by
  obtain ⟨b1, b2, b3, b4, b5, b6, b7⟩ := hT
  have z0 := (b1 0 (by omega)).2
  have z1 := (b1 1 (by omega)).2
  have z2 := (b1 2 (by omega)).2
  have g0 : d 70 0 = c 70 0 := e70 0 (by omega)
  have g1 : d 70 (0 + 1) = c 70 (0 + 1) := e70 1 (by omega)
  have g2 : d 70 (0 + 2) = c 70 (0 + 2) := e70 2 (by omega)
  rw [Nat.zero_add] at z0 z1 z2
  refine ⟨fun q hq => ?_, ?_, fun i hi => ?_, fun k hk => ?_, fun k hk => ?_, fun k hk => ?_, fun k hk => ?_⟩
  · rw [e _ _ (by omega) (by omega), e70 _ (by omega)]; exact b1 q hq
  · simpa using n2
  · have := n3 i hi
    simpa using this
  · rw [g0] at hk
    obtain ⟨x1, x2⟩ := b4 k hk
    have fv : rowV d (0 + 610 + 72 * k) = rowV c (0 + 610 + 72 * k) := by
      funext j
      exact e70 _ (by omega)
    rw [fv]
    exact ⟨x1, VC_mk x1.z x2 (fun j _ => e _ _ (by omega) (by omega)) (fun j _ => ⟨e _ _ (by omega) (by omega), e _ _ (by omega) (by omega)⟩) (fun j _ => ⟨e _ _ (by omega) (by omega), e _ _ (by omega) (by omega)⟩) (fun j _ => e _ _ (by omega) (by omega))⟩
  · rw [g1] at hk
    have hk : (k : Int) < c 70 1 := hk
    obtain ⟨x1, x2, x3⟩ := b5 k hk
    have fv : rowV d (0 + 754 + 201 * k) = rowV c (0 + 754 + 201 * k) := by
      funext j
      exact e70 _ (by omega)
    rw [fv]
    exact ⟨x1, by rw [e _ _ (by omega) (by omega)]; exact x2, fun i hi => by rw [e _ _ (by omega) (by omega)]; exact x3 i hi⟩
  · rw [g2] at hk
    have hk : (k : Int) < c 70 2 := hk
    obtain ⟨x1, x2, x3⟩ := b6 k hk
    have fv : rowV d (0 + 1156 + 25 * k) = rowV c (0 + 1156 + 25 * k) := by
      funext j
      exact e70 _ (by omega)
    rw [fv]
    exact ⟨x1, by rw [e _ _ (by omega) (by omega)]; exact x2, fun i hi => by rw [e _ _ (by omega) (by omega)]; exact x3 i hi⟩
  · rw [e _ _ (by omega) (by omega), e _ _ (by omega) (by omega), e _ _ (by omega) (by omega), e _ _ (by omega) (by omega)]; exact b7 k hk
theorem q_end {x1 : Int} (hx1 : Rg x1) : Agr (f10_end x1) (f11_end x1) := by
  intro h hI
  obtain ⟨⟨hT, -⟩, -⟩ := id hI
  obtain ⟨-, a2, -⟩ := id hT
  rw [pv_at (by omega), pv_70] at a2
  obtain ⟨s1, s2, -⟩ := a2
  rw [Nat.zero_add] at s1 s2
  by_cases c : 0 ≤ x1 ∧ x1 ≤ h.2 70 4
  · refine ⟨x1, wr h 1 1 x1, wr (wr h 1 1 x1) 70 4 x1, ?_, ?_, ?_⟩
    · unfold f10_end
      rw [w32_id hx1.1 hx1.2, s1, w32_id (x := h.2 70 4) (by omega) (by omega), if_neg (by omega), if_pos c.2, lt_eq]
    · unfold f11_end
      rw [w32_id hx1.1 hx1.2, if_neg (by omega), asrt_t (by decide), show (w32 4).toNat = 4 from rfl, wr_e (by omega), w32_id (x := h.2 70 4) (by omega) (by omega), if_pos c.2, asrt_t (by decide), lt_eq]
    · refine hI.upd rfl (fun a k ha => by rw [wr_e (by omega), wr_e (by omega)]) (fun k hk => by rw [wr_e (by omega), wr_e (by omega)]) (fun k hk => ⟨by rw [wr_e (by omega), wr_e (by omega)], by rw [wr_e (by omega), wr_e (by omega)]⟩) ?_
      have pe : ∀ a k, ¬ (a = 1 ∧ k = 1) → ¬ (a = 70 ∧ k = 4) → pv (wr (wr h 1 1 x1) 70 4 x1).2 a k = pv h.2 a k := fun a k n1 n2 => by
        unfold pv
        split
        · rw [wr_e n2, wr_e n1]
        · rfl
      have q1 : pv (wr (wr h 1 1 x1) 70 4 x1).2 1 1 = x1 := by rw [pv_at (by omega), wr_e (by omega), wr_at]
      have q2 : pv (wr (wr h 1 1 x1) 70 4 x1).2 70 4 = x1 := by rw [pv_at (by omega), wr_at]
      refine TR_head hT (fun a k h1 h2 => pe a k (by omega) (by omega)) (fun k hk => pe 70 k (by omega) (by omega)) ?_ (fun i hi => ?_)
      · obtain ⟨-, b2, -⟩ := hT
        rw [q1, q2, pe 1 2 (by omega) (by omega), pe 1 3 (by omega) (by omega), pe 70 5 (by omega) (by omega), pe 70 6 (by omega) (by omega)]
        exact ⟨rfl, by omega, b2.2.2.1, b2.2.2.2⟩
      · obtain ⟨-, -, b3, -⟩ := hT
        have := b3 i hi
        rw [pe 70 (10 + i) (by omega) (by omega), pe 2 i (by omega) (by omega)]
        simpa using this
  · refine ⟨-1, h, h, ?_, ?_, hI⟩
    · unfold f10_end
      rw [w32_id hx1.1 hx1.2, s1, w32_id (x := h.2 70 4) (by omega) (by omega)]
      repeat' split
      all_goals first | omega | rfl
    · unfold f11_end
      rw [w32_id hx1.1 hx1.2, asrt_t (by decide), asrt_t (by decide), show (w32 4).toNat = 4 from rfl, w32_id (x := h.2 70 4) (by omega) (by omega)]
      repeat' split
      all_goals first | omega | rfl
/-! feed -/
theorem and255 (z : Int) : and32 z 255 = z % 256 := by
  have hb := (Int32.ofInt z).toBitVec.isLt
  have e : (Int32.ofInt z).toBitVec.toNat = (z % 4294967296).toNat := by
    rw [Int32.toBitVec_ofInt, BitVec.toNat_ofInt]
    rfl
  unfold and32
  show (Int32.ofInt z &&& Int32.ofInt 255).toBitVec.toInt = _
  rw [Int32.toBitVec_and]
  have h1 : ((Int32.ofInt z).toBitVec &&& (Int32.ofInt 255).toBitVec).toNat = (Int32.ofInt z).toBitVec.toNat % 256 := by
    rw [BitVec.toNat_and, show (Int32.ofInt 255).toBitVec.toNat = 2 ^ 8 - 1 from rfl, Nat.and_two_pow_sub_one_eq_mod]
  rw [BitVec.toInt_eq_toNat_of_lt (by omega), h1, e]
  omega
theorem shr_int (x : Int) {k : Nat} (hk : k < 31) : shr32 x k = (Int32.ofInt x).toBitVec.toInt / ((2 ^ k : Nat) : Int) := by
  unfold shr32
  show (Int32.ofInt x >>> (Int32.ofInt (k : Int) &&& 31)).toBitVec.toInt = _
  rw [Int32.toBitVec_shiftRight, sh_amt hk, BitVec.sshiftRight_eq', BitVec.toInt_sshiftRight, Int.shiftRight_eq_div_pow, BitVec.toNat_ofNat, Nat.mod_eq_of_lt (by omega)]
theorem ush_nat (x : Int) {k : Nat} (hk : k < 31) : ush32 x k = ((Int32.ofInt x).toBitVec >>> k).toInt := by
  unfold ush32
  show ((Int32.ofInt x).toUInt32 >>> ((Int32.ofInt (k : Int)).toUInt32 &&& Int32.toUInt32 31)).toBitVec.toInt = _
  rw [UInt32.toBitVec_shiftRight, ush_amt hk]
  show ((Int32.ofInt x).toBitVec >>> BitVec.ofNat 32 k).toInt = _
  rw [BitVec.ushiftRight_eq', BitVec.toNat_ofNat, Nat.mod_eq_of_lt (by omega)]
theorem ush_mod (x : Int) {j : Nat} (hj : j < 4) : (ush32 x ((24 - 8 * j : Nat) : Int)) % 256 = (shr32 x ((24 - 8 * j : Nat) : Int)) % 256 := by
  rw [shr_int x (by omega), ush_nat x (by omega)]
  have hb := (Int32.ofInt x).toBitVec.isLt
  have hi := BitVec.toInt_eq_toNat_cond (Int32.ofInt x).toBitVec
  generalize (Int32.ofInt x).toBitVec = b at *
  rcases (show j = 0 ∨ j = 1 ∨ j = 2 ∨ j = 3 by omega) with rfl | rfl | rfl | rfl
  · have e : (b >>> (24 - 8 * 0)).toNat = b.toNat / 16777216 := by rw [BitVec.toNat_ushiftRight, Nat.shiftRight_eq_div_pow]
    rw [BitVec.toInt_eq_toNat_of_lt (by omega), e, hi]
    show ((b.toNat / 16777216 : Nat) : Int) % 256 = (if 2 * b.toNat < 2 ^ 32 then (b.toNat : Int) else (b.toNat : Int) - ((2 ^ 32 : Nat) : Int)) / 16777216 % 256
    split <;> omega
  · have e : (b >>> (24 - 8 * 1)).toNat = b.toNat / 65536 := by rw [BitVec.toNat_ushiftRight, Nat.shiftRight_eq_div_pow]
    rw [BitVec.toInt_eq_toNat_of_lt (by omega), e, hi]
    show ((b.toNat / 65536 : Nat) : Int) % 256 = (if 2 * b.toNat < 2 ^ 32 then (b.toNat : Int) else (b.toNat : Int) - ((2 ^ 32 : Nat) : Int)) / 65536 % 256
    split <;> omega
  · have e : (b >>> (24 - 8 * 2)).toNat = b.toNat / 256 := by rw [BitVec.toNat_ushiftRight, Nat.shiftRight_eq_div_pow]
    rw [BitVec.toInt_eq_toNat_of_lt (by omega), e, hi]
    show ((b.toNat / 256 : Nat) : Int) % 256 = (if 2 * b.toNat < 2 ^ 32 then (b.toNat : Int) else (b.toNat : Int) - ((2 ^ 32 : Nat) : Int)) / 256 % 256
    split <;> omega
  · have e : b >>> (24 - 8 * 3) = b := by
      apply BitVec.eq_of_toNat_eq
      rw [BitVec.toNat_ushiftRight]
      rfl
    rw [e]
    show b.toInt % 256 = b.toInt / 1 % 256
    omega
def byt (x : Int) (j : Nat) : Int := and32 (shr32 x ((24 - 8 * j : Nat) : Int)) 255
theorem byt_rng (x : Int) (j : Nat) : 0 ≤ byt x j ∧ byt x j ≤ 255 := by
  unfold byt
  rw [and255]
  omega
theorem byt_b (x : Int) {j : Nat} (hj : j < 4) : i2b (i2b (ush32 x ((24 - 8 * j : Nat) : Int))) = i2b (byt x j) := by
  have := ush_mod x hj
  unfold byt
  rw [and255]
  unfold i2b
  omega
/-- so many ints are on the tape behind n -/
def Fed (n m : Nat) (X : Nat → Int) (h w : AH) : Prop := Ky (fun a k => (a = 1 ∧ k = 1) ∨ a = 2) h w ∧ w.2 1 1 = ((n + 4 * m : Nat) : Int) ∧ (∀ i, i < 4 * m → w.2 2 (n + i) = i2b (byt (X (i / 4)) (i % 4))) ∧ ∀ k, ¬ (n ≤ k ∧ k < n + 4 * m) → w.2 2 k = h.2 2 k
theorem c_addBytes {h w : AH} {n m : Nat} {X : Nat → Int} (hn : n + 4 * (m + 1) ≤ 600) (hF : Fed n m X h w) : ∃ w1, f8_addBytes 1 (X m) w = some (0, w1) ∧ Fed n (m + 1) X h w1 := by
  unfold f8_addBytes l8_addBytes_3
  have key := fr (F := fun rec (z : Int × AH) => b8_addBytes_3 rec 1 (X m) z.1 z.2) (fun Y => ∃ w1, Y = some (0, w1) ∧ Fed n (m + 1) X h w1) (fun (u : AH) i => (24 - 8 * i, u)) (fun j u => Ky (fun a k => (a = 1 ∧ k = 1) ∨ a = 2) h u ∧ u.2 1 1 = ((n + 4 * m + j : Nat) : Int) ∧ (∀ i, i < 4 * m + j → u.2 2 (n + i) = i2b (byt (X (i / 4)) (i % 4))) ∧ ∀ k, ¬ (n ≤ k ∧ k < n + 4 * m + j) → u.2 2 k = h.2 2 k) 0 4 w ⟨hF.1, hF.2.1, hF.2.2.1, hF.2.2.2⟩ (by omega) (by omega) (fun j u _ hj hI rec => ?_) (fun u hI rec => ?_)
  · exact key
  · right
    obtain ⟨i1, i2, i3, i4⟩ := hI
    refine ⟨wr (wr u 2 (n + 4 * m + j) (i2b (byt (X m) j))) 1 1 ((n + 4 * m + (j + 1) : Nat) : Int), ⟨(i1.w2 (Or.inr rfl)).w2 (Or.inl ⟨rfl, rfl⟩), wr_at, fun i hi => ?_, fun k hk => ?_⟩, ?_⟩
    · rw [wr_e (by omega)]
      by_cases z : i = 4 * m + j
      · rw [z, show n + (4 * m + j) = n + 4 * m + j by omega, wr_at, show (4 * m + j) / 4 = m by omega, show (4 * m + j) % 4 = j by omega]
      · rw [wr_e (by omega)]; exact i3 i (by omega)
    · rw [wr_e (by omega), wr_e (by omega)]; exact i4 k (by omega)
    · unfold b8_addBytes_3
      dsimp only
      rw [show (24 : Int) - 8 * (j : Int) = ((24 - 8 * j : Nat) : Int) by omega, w32_id (x := ((24 - 8 * j : Nat) : Int)) (by omega) (by omega), if_neg (by omega), i2, w32_id (x := ((n + 4 * m + j : Nat) : Int)) (by omega) (by omega), if_neg (by omega), asrt_t (by omega), lt_eq, lt_eq, Int.toNat_natCast, byt_b (X m) hj, wr_e (by omega), i2, show ((24 - 8 * j : Nat) : Int) + (-8) = 24 - 8 * ((j : Int) + 1) by omega]
      rfl
  · obtain ⟨i1, i2, i3, i4⟩ := hI
    refine ⟨u, ?_, i1, i2, i3, i4⟩
    unfold b8_addBytes_3
    dsimp only
    rw [if_pos (by decide)]
theorem m_feed {h : AH} {n : Nat} {X : Nat → Int} (hn : n + 20 ≤ 600) (h4 : h.2 70 4 = (n : Int)) : ∃ w, l11_feed_20 (X 0) (X 1) (X 2) (X 3) (X 4) 0 h = some (((n + 20 : Nat) : Int), w) ∧ Ky (fun a k => a = 70 ∧ (k = 4 ∨ (10 ≤ k ∧ k < 610))) h w ∧ w.2 70 4 = ((n + 20 : Nat) : Int) ∧ (∀ i, i < 20 → w.2 70 (10 + (n + i)) = byt (X (i / 4)) (i % 4)) ∧ ∀ k, 10 ≤ k → ¬ (10 + n ≤ k ∧ k < 30 + n) → w.2 70 k = h.2 70 k := by
  unfold l11_feed_20
  refine fr (fun Y => ∃ w, Y = some (((n + 20 : Nat) : Int), w) ∧ Ky (fun a k => a = 70 ∧ (k = 4 ∨ (10 ≤ k ∧ k < 610))) h w ∧ w.2 70 4 = ((n + 20 : Nat) : Int) ∧ (∀ i, i < 20 → w.2 70 (10 + (n + i)) = byt (X (i / 4)) (i % 4)) ∧ ∀ k, 10 ≤ k → ¬ (10 + n ≤ k ∧ k < 30 + n) → w.2 70 k = h.2 70 k) (fun (u : AH) i => (i, u)) (fun j w => Ky (fun a k => a = 70 ∧ (k = 4 ∨ (10 ≤ k ∧ k < 610))) h w ∧ w.2 70 4 = ((n + j : Nat) : Int) ∧ (∀ i, i < j → w.2 70 (10 + (n + i)) = byt (X (i / 4)) (i % 4)) ∧ ∀ k, 10 ≤ k → ¬ (10 + n ≤ k ∧ k < 10 + n + j) → w.2 70 k = h.2 70 k) 0 20 h ⟨Ky.rf h, h4, fun i hi => by omega, fun k _ _ => rfl⟩ (by omega) (by omega) (fun j u _ hj hI rec => ?_) (fun u hI rec => ?_)
  · right
    obtain ⟨i1, i2, i3, i4⟩ := hI
    have e73 : b11_feed_73 rec (X 0) (X 1) (X 2) (X 3) (X 4) j (X (j / 4)) u = rec ((j : Int) + 1, wr (wr u 70 (10 + (n + j)) (byt (X (j / 4)) (j % 4))) 70 4 ((n + (j + 1) : Nat) : Int)) := by
      unfold b11_feed_73 byt
      rw [asrt_t (by decide), show (w32 4).toNat = 4 from rfl, i2, show (10 : Int) + ((n + j : Nat) : Int) = ((10 + (n + j) : Nat) : Int) by omega, w32_id (x := ((10 + (n + j) : Nat) : Int)) (by omega) (by omega), asrt_t (by omega), lt_eq, asrt_t (by decide), asrt_t (by decide), lt_eq, Int.toNat_natCast, rm32_nn (by omega) (by omega), wr_e (by omega), i2, show (24 : Int) - 8 * ((j : Int) % 4) = ((24 - 8 * (j % 4) : Nat) : Int) by omega]
      rfl
    refine ⟨wr (wr u 70 (10 + (n + j)) (byt (X (j / 4)) (j % 4))) 70 4 ((n + (j + 1) : Nat) : Int), ⟨(i1.w2 ⟨rfl, Or.inr (by omega)⟩).w2 ⟨rfl, Or.inl rfl⟩, wr_at, fun i hi => ?_, fun k k1 k2 => ?_⟩, ?_⟩
    · rw [wr_e (by omega)]
      by_cases z : i = j
      · subst z; rw [wr_at]
      · rw [wr_e (by omega)]; exact i3 i (by omega)
    · rw [wr_e (by omega), wr_e (by omega)]; exact i4 k k1 (by omega)
    · unfold b11_feed_20
      dsimp only
      rw [w32_id (x := (j : Int)) (by omega) (by omega), if_neg (by omega)]
      rcases (show j / 4 = 0 ∨ j / 4 = 1 ∨ j / 4 = 2 ∨ j / 4 = 3 ∨ j / 4 = 4 by omega) with z | z | z | z | z
      · rw [z] at e73
        rw [if_neg (by omega), e73, z]
      · rw [z] at e73
        rw [if_pos (by omega), if_neg (by omega), e73, z]
      · rw [z] at e73
        rw [if_pos (by omega), if_pos (by omega), if_neg (by omega), e73, z]
      · rw [z] at e73
        rw [if_pos (by omega), if_pos (by omega), if_pos (by omega), if_neg (by omega), e73, z]
      · rw [z] at e73
        rw [if_pos (by omega), if_pos (by omega), if_pos (by omega), if_pos (by omega), e73, z]
  · obtain ⟨i1, i2, i3, i4⟩ := hI
    refine ⟨u, ?_, i1, i2, i3, fun k k1 k2 => i4 k k1 (by omega)⟩
    unfold b11_feed_20
    dsimp only
    rw [if_pos (by decide), asrt_t (by decide), show (w32 4).toNat = 4 from rfl, i2]
theorem q_feed {x1 x2 x3 x4 x5 : Int} : Agr (f10_feed x1 x2 x3 x4 x5) (f11_feed x1 x2 x3 x4 x5) := by
  intro h hI
  obtain ⟨⟨hT, -⟩, -⟩ := id hI
  obtain ⟨-, a2, -⟩ := id hT
  rw [pv_at (by omega), pv_70] at a2
  obtain ⟨s1, s2, s3, s4⟩ := a2
  rw [Nat.zero_add] at s1 s2 s3 s4
  obtain ⟨n, hn⟩ : ∃ n : Nat, h.2 70 4 = n := ⟨(h.2 70 4).toNat, by omega⟩
  by_cases c : n + 20 ≤ 600
  · have X : ∃ X : Nat → Int, X 0 = x1 ∧ X 1 = x2 ∧ X 2 = x3 ∧ X 3 = x4 ∧ X 4 = x5 := ⟨fun i => if i = 0 then x1 else if i = 1 then x2 else if i = 2 then x3 else if i = 3 then x4 else x5, rfl, rfl, rfl, rfl, rfl⟩
    obtain ⟨X, X0, X1, X2, X3, X4⟩ := X
    subst X0 X1 X2 X3 X4
    have F0 : Fed n 0 X h h := ⟨Ky.rf h, by rw [s1, hn]; rfl, fun i hi => by omega, fun k _ => rfl⟩
    obtain ⟨w1, f1, F1⟩ := c_addBytes (by omega) F0
    obtain ⟨w2, f2, F2⟩ := c_addBytes (by omega) F1
    obtain ⟨w3, f3, F3⟩ := c_addBytes (by omega) F2
    obtain ⟨w4, f4, F4⟩ := c_addBytes (by omega) F3
    obtain ⟨w5, f5, G1, G2, G3, G4⟩ := c_addBytes (by omega) F4
    have h70 : w5.2 70 4 = (n : Int) := by rw [G1.2 _ _ (by omega)]; exact hn
    obtain ⟨w, g1, g2, g3, g4, g5⟩ := m_feed (h := w5) (n := n) (X := X) c h70
    refine ⟨((n + 20 : Nat) : Int), w5, w, ?_, ?_, ?_⟩
    · unfold f10_feed
      rw [s1, hn, w32_id (x := ((n : Int) + 20)) (by omega) (by omega), if_pos (by omega), f1, bnd_some, f2, bnd_some, f3, bnd_some, f4, bnd_some, f5, bnd_some, G2]
    · unfold f11_feed
      rw [asrt_t (by decide), show (w32 4).toNat = 4 from rfl, h70, w32_id (x := ((n : Int) + 20)) (by omega) (by omega), if_pos (by omega), g1]
    · have ee : ∀ a k, ¬ ((a = 1 ∧ k = 1) ∨ a = 2) → ¬ (a = 70 ∧ (k = 4 ∨ (10 ≤ k ∧ k < 610))) → w.2 a k = h.2 a k := fun a k n1 n2 => by rw [g2.2 a k n2, G1.2 a k n1]
      refine hI.upd (g2.1.trans G1.1) (fun a k ha => ee a k (by omega) (by omega)) (fun k hk => ee 70 k (by omega) (by omega)) (fun k hk => ⟨ee _ _ (by omega) (by omega), ee _ _ (by omega) (by omega)⟩) ?_
      obtain ⟨-, -, b3, -⟩ := id hT
      have w1a : ∀ k, w.2 1 k = w5.2 1 k := fun k => g2.2 1 k (by omega)
      have w2a : ∀ k, w.2 2 k = w5.2 2 k := fun k => g2.2 2 k (by omega)
      refine TR_head hT (fun a k h1 h2 => ?_) (fun k hk => ?_) ?_ (fun i hi => ?_)
      · rw [pv_at (by omega), pv_at (by omega)]; exact ee a k (by omega) (by omega)
      · rw [pv_70, pv_70]; exact ee 70 k (by omega) (by omega)
      · rw [pv_70, pv_at (by omega), w1a, w1a, w1a, g3, G2, G1.2 1 2 (by omega), G1.2 1 3 (by omega), ee 70 5 (by omega) (by omega), ee 70 6 (by omega) (by omega)]
        exact ⟨rfl, by omega, s3, s4⟩
      · have := b3 i hi
        rw [pv_70, pv_at (by omega), Nat.zero_add] at this
        rw [pv_70, pv_at (by omega), w2a]
        by_cases z : n ≤ i ∧ i < n + 20
        · have z1 := G3 (i - n) (by omega)
          have z2 := g4 (i - n) (by omega)
          rw [show n + (i - n) = i by omega] at z1 z2
          rw [z1, z2]
          exact ⟨byt_rng _ _, rfl⟩
        · rw [G4 i (by omega), g5 (10 + i) (by omega) (by omega), G1.2 70 _ (by omega)]
          exact this
  · refine ⟨-1, h, h, ?_, ?_, hI⟩
    · unfold f10_feed
      rw [s1, hn, w32_id (x := ((n : Int) + 20)) (by omega) (by omega), if_neg (by omega)]
    · unfold f11_feed
      rw [asrt_t (by decide), show (w32 4).toNat = 4 from rfl, hn, w32_id (x := ((n : Int) + 20)) (by omega) (by omega), if_neg (by omega)]
