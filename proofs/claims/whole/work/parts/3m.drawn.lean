/-! after, drawn -/
theorem q_after {x1 x2 x3 : Int} (hx1 : Rg x1) (hx2 : Rg x2) (hx3 : Rg x3) : Agr (f10_after x1 x2 x3) (f11_after x1 x2 x3) := by
  refine agr_vv hx1 (fun h hI e => ⟨-2, ?_, fun e2 => ?_⟩) (fun h v V hI hV hc h7 h17 e => ?_)
  · unfold f10_after
    rw [e, bnd_some, c_dayAt hI, bnd_some, if_pos (by omega)]
  · unfold f11_after
    rw [e2, bnd_some, ite_w0]
  · rcases day_cases hI hx2 with ⟨d1, d2⟩ | ⟨r, D, d1, d2, d3, d4, d5⟩
    · refine ⟨-2, h, ?_, PK.rf h, fun hs kh e1 hm _ => ⟨hs, ?_, PK.rf hs⟩⟩
      · unfold f10_after
        rw [e, bnd_some, d1, bnd_some, if_neg (by omega), if_pos (by omega)]
      · unfold f11_after
        rw [e1, bnd_some, ite_w1, d2 hs kh, bnd_some, ite_w0]
    · have run := fun (hm : AH) (x : Int) (hx : 0 ≤ x ∧ x ≤ 3) (hm1 : VM hm.2 V) (hd : DM hm.2 D) => s_after (hc := h) (hm := hm) hV d3 (v := v) (r := r) hx hc (by omega) d2 d4 hm1 hd
      obtain ⟨h0, z1, z2⟩ := dummy V D
      obtain ⟨k, hc1, -, -, a1, -, -, a4, a5, -⟩ := run h0 0 (by omega) z1 z2
      refine ⟨if 0 ≤ x3 ∧ x3 ≤ 3 then sAft4 x3 (hc1.2 41 7) (bst (fun p => hc1.2 49 p) (V 0).toNat).1 (hc1.2 41 8) (hc1.2 41 9) else -2, hc1, ?_, a5.pk, fun hs kh e1 hm _ => ?_⟩
      · unfold f10_after sAft4
        rw [e, bnd_some, d1, bnd_some, if_neg (by omega), if_neg (by omega), Int.toNat_natCast, Int.toNat_natCast, a1, bnd_some, a4, bnd_some, w32_id hx3.1 hx3.2]
        repeat' split
        all_goals first | omega | rfl
      · obtain ⟨hs2, g1, g2, g3, g4⟩ := d5 hs (a5.pk.tr kh)
        have hm2 : VM hs2.2 V := VM_same (fun k _ _ => g3 _ _ (by omega)) (fun k => g3 _ _ (by omega)) hm
        by_cases c : 0 ≤ x3 ∧ x3 ≤ 3
        · obtain ⟨k2, hc2, hm3, h46, b1, b2, b3, -, -, b6⟩ := run hs2 x3 c hm2 g2
          obtain ⟨-, i2⟩ := some_inj a1 b1
          subst i2
          refine ⟨hm3, ?_, g4.tr b6⟩
          unfold f11_after
          rw [e1, bnd_some, ite_w1, g1, bnd_some, ite_w1, m_isIn, bnd_some, w32_id hx3.1 hx3.2, w32_0, show w32 3 = 3 by decide, if_pos (c := 0 ≤ x3 ∧ x3 ≤ 3) c, if_pos (by rw [w32_1]; omega), b2, bnd_some, b3, if_pos c]
        · refine ⟨hs2, ?_, g4⟩
          unfold f11_after
          rw [e1, bnd_some, ite_w1, g1, bnd_some, ite_w1, m_isIn, bnd_some, w32_id hx3.1 hx3.2, w32_0, show w32 3 = 3 by decide, if_neg (c := 0 ≤ x3 ∧ x3 ≤ 3) c, if_neg (fun q => q w32_0), if_neg c]
theorem ush16 (x : Int) : 0 ≤ ush32 x 16 ∧ ush32 x 16 < 65536 := by
  unfold ush32
  show 0 ≤ ((Int32.ofInt x).toUInt32 >>> ((Int32.ofInt ((16 : Nat) : Int)).toUInt32 &&& Int32.toUInt32 31)).toBitVec.toInt ∧ ((Int32.ofInt x).toUInt32 >>> ((Int32.ofInt ((16 : Nat) : Int)).toUInt32 &&& Int32.toUInt32 31)).toBitVec.toInt < 65536
  rw [UInt32.toBitVec_shiftRight, ush_amt (k := 16) (by omega)]
  generalize (Int32.ofInt x).toUInt32.toBitVec = b
  have h1 : (b >>> BitVec.ofNat 32 16).toNat < 65536 := by
    simp only [BitVec.ushiftRight_eq', BitVec.toNat_ushiftRight, BitVec.toNat_ofNat]
    rw [Nat.shiftRight_eq_div_pow, show (2 : Nat) ^ (16 % 2 ^ 32) = 65536 by decide]
    have := b.isLt
    omega
  rw [BitVec.toInt_eq_toNat_of_lt (by omega)]
  omega
theorem rm32_nn {x n : Int} (hx : 0 ≤ x ∧ x < 2147483648) (hn : 0 < n ∧ n < 2147483648) : rm32 x n = x % n := by
  unfold rm32
  rw [w32_id (x := x) (by omega) (by omega), w32_id (x := n) (by omega) (by omega), Int.tmod_eq_emod_of_nonneg hx.1]
def SD (V : Nat → Int) (hc hm : AH) : Prop := SR V hc.2 hm.2 ∧ hc.2 41 10 = hm.2 69 43
section Drawn
variable {V : Nat → Int} {hc hm : AH}
theorem SD.w1 (hS : SD V hc hm) (x : Int) : SD V (wr hc 41 10 x) (wr hm 69 43 x) := by
  obtain ⟨⟨S1, S2, S3, S4, S5, S6, S7, S8, S9, S10⟩, -⟩ := hS
  refine ⟨⟨?_, fun i hi => ?_, fun i hi => ?_, fun i hi => ?_, fun i hi => ?_, ?_, ?_, ?_, ?_, ?_⟩, by rw [wr_at, wr_at]⟩
  · simp (disch := omega) only [wr_e]; exact S1
  · simp (disch := omega) only [wr_e]; exact S2 i hi
  · simp (disch := omega) only [wr_e]; exact S3 i hi
  · simp (disch := omega) only [wr_e]; exact S4 i hi
  · simp (disch := omega) only [wr_e]; exact S5 i hi
  · simp (disch := omega) only [wr_e]; exact S6
  · simp (disch := omega) only [wr_e]; exact S7
  · simp (disch := omega) only [wr_e]; exact S8
  · simp (disch := omega) only [wr_e]; exact S9
  · exact VM_same (fun k _ _ => wr_e (by omega)) (fun k => wr_e (by omega)) S10
def KP (h h1 : AH) : Prop := KS h h1
theorem s_below (hS : SD V hc hm) {n : Int} (hn : 1 ≤ n ∧ n ≤ 10) : ∃ (r : Nat) (hc1 hm1 : AH), f7_below n hc = some ((r : Int), hc1) ∧ f11_below n hm = some ((r : Int), hm1) ∧ (r : Int) < n ∧ SD V hc1 hm1 ∧ KS hc hc1 ∧ PK hm hm1 := by
  have u := ush16 (hc.2 41 10 * 1103515245 + 12345)
  refine ⟨(ush32 (hc.2 41 10 * 1103515245 + 12345) 16 % n).toNat, wr hc 41 10 (hc.2 41 10 * 1103515245 + 12345), wr hm 69 43 (hc.2 41 10 * 1103515245 + 12345), ?_, ?_, ?_, hS.w1 _, ⟨rfl, fun i k hi => wr_e (by omega)⟩, wr_PK (by omega)⟩
  · unfold f7_below
    have := Int.emod_nonneg (ush32 (hc.2 41 10 * 1103515245 + 12345) 16) (show n ≠ 0 by omega)
    rw [lt_eq, w32_id (x := n) (by omega) (by omega), if_neg (by omega), asrt_t (by omega), wr_at, rm32_nn (by omega) (by omega), Int.toNat_of_nonneg this]
  · unfold f11_below
    have := Int.emod_nonneg (ush32 (hc.2 41 10 * 1103515245 + 12345) 16) (show n ≠ 0 by omega)
    rw [lt_eq, w32_id (x := n) (by omega) (by omega), asrt_t (by omega), wr_at, ← hS.2, rm32_nn (by omega) (by omega), Int.toNat_of_nonneg this]
  · have h1 := Int.emod_nonneg (ush32 (hc.2 41 10 * 1103515245 + 12345) 16) (show n ≠ 0 by omega)
    have h2 := Int.emod_lt_of_pos (ush32 (hc.2 41 10 * 1103515245 + 12345) 16) (show 0 < n by omega)
    omega
theorem Both.sd {A B : Option (Int × AH)} {x : Int → Nat → Int} (hS : SD V hc hm) (h : Both V hc hm A B x) : ∃ r hc1 hm1, A = some (r, hc1) ∧ B = some (r, hm1) ∧ SD V hc1 hm1 ∧ KS hc hc1 ∧ PK hm hm1 := by
  obtain ⟨r, c1, m1, a1, a2, a3, a4, a5, a6⟩ := h
  exact ⟨r, c1, m1, a1, a2, ⟨a4, by rw [a5.2.1 10 (by omega), a6.2 69 43 (by omega)]; exact hS.2⟩, a5.1, a6.pk⟩
theorem s_draw (hV : VOK V) (hS : SD V hc hm) : ∃ hc1 hm1, f7_drawDeed hc = some (0, hc1) ∧ f11_draws hm = some (0, hm1) ∧ SD V hc1 hm1 ∧ KS hc hc1 ∧ PK hm hm1 := by
  have v0 := hV.1
  have v1 := hV.2.1
  have v2 := hV.2.2.1
  unfold f7_drawDeed f11_draws
  obtain ⟨d, c1, m1, a1, a2, a3, a4, a5, a6⟩ := s_below hS (n := 8) (by omega)
  rw [a1, bnd_some, a2, bnd_some, w32_id (x := (d : Int)) (by omega) (by omega)]
  have S1 := a4.1.1
  have SM := a4.1.2.2.2.2.2.2.2.2.2
  by_cases c7 : (d : Int) = 7
  · rw [if_neg (fun w => w c7), if_neg (fun w => w c7)]
    obtain ⟨r, c2, m2, b1, b2, b3, b4, b5⟩ := (s_cool hV a4.1).sd a4
    rw [b1, bnd_some, b2, bnd_some]
    exact ⟨c2, m2, rfl, rfl, b3, a5.tr b4, a6.tr b5⟩
  rw [if_pos c7, if_pos c7]
  have may : f7_mayDraw d c1 = some (if 0 < V 1 ∧ (5 < (d : Int) ∨ 1 < V 0) ∧ (3 < (d : Int) ∨ 0 < V 2) then 1 else 0, c1) := by
    unfold f7_mayDraw b7_mayDraw_16 b7_mayDraw_21 b7_mayDraw_37 b7_mayDraw_42
    rw [S1.1, S1.2.1, S1.2.2.1, w32_id (x := (d : Int)) (by omega) (by omega), w32_id (x := V 0) (by omega) (by omega), w32_id (x := V 1) (by omega) (by omega), w32_id (x := V 2) (by omega) (by omega), w32_0, w32_1]
    repeat' split
    all_goals first | omega | rfl
  have mod : ∀ X : Option (Int × AH), (if w32 (m1.2 69 14) = 0 then some (0, m1) else if 6 ≤ (d : Int) then b11_draws_40 d m1 else if w32 (m1.2 69 13) < 2 then some (0, m1) else b11_draws_40 d m1) = X ↔ (if 0 < V 1 ∧ (5 < (d : Int) ∨ 1 < V 0) ∧ (3 < (d : Int) ∨ 0 < V 2) then b11_draws_53 d m1 else some (0, m1)) = X := by
    intro X
    unfold b11_draws_40
    rw [vm_S SM, vm_P SM, vm_H SM, w32_id (x := (d : Int)) (by omega) (by omega), w32_id (x := V 0) (by omega) (by omega), w32_id (x := V 1) (by omega) (by omega), w32_id (x := V 2) (by omega) (by omega)]
    have : (if V 1 = 0 then some ((0 : Int), m1) else if 6 ≤ (d : Int) then (if 4 ≤ (d : Int) then b11_draws_53 d m1 else if ¬ V 2 = 0 then b11_draws_53 d m1 else some (0, m1)) else if V 0 < 2 then some (0, m1) else (if 4 ≤ (d : Int) then b11_draws_53 d m1 else if ¬ V 2 = 0 then b11_draws_53 d m1 else some (0, m1))) = (if 0 < V 1 ∧ (5 < (d : Int) ∨ 1 < V 0) ∧ (3 < (d : Int) ∨ 0 < V 2) then b11_draws_53 d m1 else some (0, m1)) := by
      by_cases t1 : V 1 = 0
      · rw [if_pos t1, if_neg (by omega)]
      rw [if_neg t1]
      by_cases t2 : 6 ≤ (d : Int)
      · rw [if_pos t2, if_pos (by omega), if_pos (by omega)]
      rw [if_neg t2]
      by_cases t3 : V 0 < 2
      · rw [if_pos t3, if_neg (by omega)]
      rw [if_neg t3]
      by_cases t4 : 4 ≤ (d : Int)
      · rw [if_pos t4, if_pos (by omega)]
      rw [if_neg t4]
      by_cases t5 : V 2 = 0
      · rw [if_neg (fun w => w t5), if_neg (by omega)]
      · rw [if_pos t5, if_pos (by omega)]
    rw [this]
  rw [may, bnd_some]
  simp only [ite10_0, mod]
  by_cases cm : 0 < V 1 ∧ (5 < (d : Int) ∨ 1 < V 0) ∧ (3 < (d : Int) ∨ 0 < V 2)
  · rw [if_pos (fun w => w cm), if_pos cm]
    unfold b11_draws_53
    rw [w32_id (x := (d : Int)) (by omega) (by omega), S1.1, S1.2.1, vm_P SM, vm_S SM]
    by_cases c6 : (d : Int) = 6
    · rw [if_neg (fun w => w c6), if_neg (fun w => w c6)]
      obtain ⟨s, c2, m2, b1, b2, b3, b4, b5, b6⟩ := s_below a4 (n := V 1) (by omega)
      rw [b1, bnd_some, b2, bnd_some]
      obtain ⟨x, c3, m3, e1, e2, e3, e4, e5, e6⟩ := s_below b4 (n := 10) (by omega)
      rw [e1, bnd_some, e2, bnd_some]
      obtain ⟨r, c4, m4, g1, g2, g3, g4, g5⟩ := (s_tell hV e4.1 (s := s) (x := x) (by omega) (by omega)).sd e4
      rw [g1, bnd_some, g2, bnd_some]
      exact ⟨c4, m4, rfl, rfl, g3, ((a5.tr b5).tr e5).tr g4, ((a6.tr b6).tr e6).tr g5⟩
    · rw [if_pos c6, if_pos c6]
      obtain ⟨a, c2, m2, b1, b2, b3, b4, b5, b6⟩ := s_below a4 (n := V 0) (by omega)
      rw [b1, bnd_some, b2, bnd_some, b4.1.1.1, vm_P b4.1.2.2.2.2.2.2.2.2.2]
      obtain ⟨x, c3, m3, e1, e2, e3, e4, e5, e6⟩ := s_below b4 (n := V 0 - 1) (by omega)
      have eb : rm32 ((x : Int) + 1 + a) (V 0) = (((x + 1 + a) % (V 0).toNat : Nat) : Int) := by
        rw [rm32_nn (by omega) (by omega), Int.natCast_emod, show ((V 0).toNat : Int) = V 0 by omega]
        rfl
      have eb2 : (x + 1 + a) % (V 0).toNat < 8 := Nat.lt_of_lt_of_le (Nat.mod_lt _ (by omega)) (by omega)
      rw [e1, bnd_some, e2, bnd_some, lt_eq, e4.1.1.1, vm_P e4.1.2.2.2.2.2.2.2.2.2, w32_id (x := V 0) (by omega) (by omega), if_neg (by omega), asrt_t (by omega), asrt_t (by omega), lt_eq, eb, vm_S e4.1.2.2.2.2.2.2.2.2.2]
      generalize (x + 1 + a) % (V 0).toNat = b at *
      unfold b7_drawDeed_112 b11_draws_133
      rw [e4.1.1.2.1]
      obtain ⟨s, c4, m4, g1, g2, g3, g4, g5, g6⟩ := s_below e4 (n := V 1) (by omega)
      rw [g1, bnd_some, g2, bnd_some, w32_id (x := (d : Int)) (by omega) (by omega), g4.1.1.2.2.1, vm_H g4.1.2.2.2.2.2.2.2.2.2]
      have kk : KS hc c4 := ((a5.tr b5).tr e5).tr g5
      have pp : PK hm m4 := ((a6.tr b6).tr e6).tr g6
      by_cases k4 : (d : Int) = 4
      · rw [if_neg (fun w => w k4), if_pos (by omega), if_pos (by omega), show (d : Int) - 3 = 1 by omega]
        obtain ⟨r, c5, m5, i1, i2, i3, i4, i5⟩ := (s_agree hV g4.1 (a := a) (b := b) (s := s) (q := -1) (by omega) (by omega) (by omega)).sd g4
        rw [i1, bnd_some, i2, bnd_some]
        exact ⟨c5, m5, rfl, rfl, i3, kk.tr i4, pp.tr i5⟩
      · rw [if_pos k4]
        by_cases k5 : (d : Int) = 5
        · rw [if_neg (fun w => w k5), if_pos (by omega), if_pos (by omega), show (d : Int) - 3 = 2 by omega]
          obtain ⟨r, c5, m5, i1, i2, i3, i4, i5⟩ := (s_deny hV g4.1 (a := a) (b := b) (s := s) (q := -1) (by omega) (by omega) (by omega)).sd g4
          rw [i1, bnd_some, i2, bnd_some]
          exact ⟨c5, m5, rfl, rfl, i3, kk.tr i4, pp.tr i5⟩
        · rw [if_pos k5, if_neg (by omega), if_neg (by omega)]
          obtain ⟨q, c5, m5, j1, j2, j3, j4, j5, j6⟩ := s_below g4 (n := V 2) (by omega)
          rw [j1, bnd_some, j2, bnd_some]
          obtain ⟨r, c6, m6, i1, i2, i3, i4, i5⟩ := (s_quar hV j4.1 (a := a) (b := b) (s := s) (q := q) (by omega) (by omega) (by omega) (by omega)).sd j4
          rw [i1, bnd_some, i2, bnd_some]
          exact ⟨c6, m6, rfl, rfl, i3, (kk.tr j5).tr i4, (pp.tr j6).tr i5⟩
  · rw [if_neg (fun w => w cm), if_neg cm]
    exact ⟨c1, m1, rfl, rfl, a4, a5, a6⟩
theorem s_drawn (hV : VOK V) {v : Nat} {seed n x : Int} (hn : 0 ≤ n ∧ n ≤ 60) (hx : Rg x) (hx0 : 0 ≤ x) (hc0 : VC hc.2 v V) (hv : v + 5 < 28) (hm1 : VM hm.2 V) : ∃ (hc1 hm2 h20 : AH), f7_playBySeed v seed n hc = some (0, hc1) ∧ f11_begins (wr hm 69 43 seed) = some (0, h20) ∧ l11_drawn_38 n x 0 h20 = some (sN V hc1.2 x, hm2) ∧ KS hc hc1 ∧ PK hm hm2 ∧ ∃ m, SR V hc1.2 m := by
  obtain ⟨b1, p1, p2, p3, p4, p5, p6, -⟩ := c_begin hV hc0 hv
  have hm9 : VM (wr hm 69 43 seed).2 V := VM_same (fun k _ _ => wr_e (by omega)) (fun k => wr_e (by omega)) hm1
  obtain ⟨u, r1, r2, r3, r4, r5, r6, r7⟩ := m_begins hV hm9
  have mu : VM u.2 V := VM_same (fun k _ _ => r3 _ _ (by omega)) (fun k => r3 _ _ (by omega)) hm9
  have hS := SR_0 hV p3 p4 ⟨p6.1, p6.2.1, p6.2.2.1, p6.2.2.2.1⟩ ⟨r4.1, r4.2.1, r4.2.2.1, r4.2.2.2.1⟩ r5 r6 r7 mu
  have pu : PK hm u := (wr_PK (by omega)).tr ⟨r2, fun a ha => funext fun k => r3 a k (by omega), ⟨r3 _ _ (by omega), r3 _ _ (by omega)⟩, r3 _ _ (by omega), r3 _ _ (by omega)⟩
  have u43 : u.2 69 43 = seed := by rw [r3 _ _ (by omega), wr_at]
  have hS2 : SD V (wr b1 41 10 seed) u := by
    refine ⟨SR_41 hS (fun i k hi => wr_e (by omega)), by rw [wr_at, u43]⟩
  have ks2 : KS hc (wr b1 41 10 seed) := p2.tr ⟨rfl, fun i k hi => wr_e (by omega)⟩
  have main : ∃ hc1 hm2 : AH, f7_playBySeed v seed n hc = some (0, hc1) ∧ l11_drawn_38 n x 0 u = some (sN V hc1.2 x, hm2) ∧ KS hc hc1 ∧ PK hm hm2 ∧ ∃ m, SR V hc1.2 m := by
    unfold f7_playBySeed l7_playBySeed_13 l11_drawn_38
    rw [p1, bnd_some, lt_eq]
    refine wh2 (fun m (z : Int × AH) (y : Int × AH) => ∃ k : Nat, m = 61 - k ∧ (k : Int) ≤ n ∧ z.1 = (k : Int) ∧ y.1 = (k : Int) ∧ SD V z.2 y.2 ∧ KS hc z.2 ∧ PK hm y.2) (fun A B => ∃ hc1 hm2 : AH, A = some (0, hc1) ∧ B = some (sN V hc1.2 x, hm2) ∧ KS hc hc1 ∧ PK hm hm2 ∧ ∃ m, SR V hc1.2 m) (fun m z y hp => ?_) FU 61 (0, wr b1 41 10 seed) (0, u) ⟨0, rfl, by omega, rfl, rfl, hS2, ks2, pu⟩ (FU_big (by omega))
    obtain ⟨k, q1, q2, q3, q4, q5, q6, q7⟩ := hp
    obtain ⟨zk, z⟩ := z
    obtain ⟨yk, y⟩ := y
    simp only at q3 q4 q5 q6 q7
    subst q3
    subst q4
    by_cases c1 : (k : Int) < n
    · right
      obtain ⟨c2, m2, e1, e2, e3, e4, e5⟩ := s_draw hV q5
      refine ⟨61 - (k + 1), ((k : Int) + 1, c2), ((k : Int) + 1, m2), by omega, ⟨k + 1, rfl, by omega, rfl, rfl, e3, q6.tr e4, q7.tr e5⟩, fun rec => ?_, fun rec2 => ?_⟩
      · unfold b7_playBySeed_13
        dsimp only
        rw [w32_id (x := n) (by omega) (by omega), w32_id (x := (k : Int)) (by omega) (by omega), if_neg (by omega), e1, bnd_some]
      · unfold b11_drawn_38
        dsimp only
        rw [w32_id (x := n) (by omega) (by omega), w32_id (x := (k : Int)) (by omega) (by omega), if_neg (by omega), e2, bnd_some]
    · left
      intro rec rec2
      refine ⟨z, y, ?_, ?_, q6, q7, _, q5.1⟩
      · unfold b7_playBySeed_13
        dsimp only
        rw [w32_id (x := n) (by omega) (by omega), w32_id (x := (k : Int)) (by omega) (by omega), if_pos (by omega)]
      · unfold b11_drawn_38
        dsimp only
        rw [w32_id (x := n) (by omega) (by omega), w32_id (x := (k : Int)) (by omega) (by omega), if_pos (by omega), m_nowOf hV q5.1 hx hx0, bnd_some]
  obtain ⟨hc1, hm2, n1, n2, n3, n4, n5⟩ := main
  exact ⟨hc1, hm2, u, n1, r1, n2, n3, n4, n5⟩
end Drawn
theorem q_drawn {x1 x2 x3 x4 : Int} (hx1 : Rg x1) (hx2 : Rg x2) (hx3 : Rg x3) (hx4 : Rg x4) : Agr (f10_drawn x1 x2 x3 x4) (f11_drawn x1 x2 x3 x4) := by
  refine agr_v hx1 (fun h e => ⟨-2, ?_, fun e2 => ?_⟩) (fun h v V hV hc h7 h17 e => ?_)
  · unfold f10_drawn
    simp (disch := omega) only [w32_id, w32_0, w32_1, w32_m, if_pos, if_neg, bnd_some, lt_eq, asrt_t, ite10_0, ite10_or, e]
  · unfold f11_drawn
    rw [e2, bnd_some, ite_w0]
  · by_cases c : 0 ≤ x3 ∧ x3 ≤ 60
    · have run := fun (hm : AH) (x : Int) (hx : Rg x) (hx0 : 0 ≤ x) (hm1 : VM hm.2 V) => s_drawn (hc := h) (hm := hm) hV (v := v) (seed := x2) c hx hx0 hc (by omega) hm1
      obtain ⟨h0, z1, z2⟩ := dummy V V
      obtain ⟨hc1, -, -, a1, -, -, a4, -, m, a6⟩ := run h0 0 ⟨by omega, by omega⟩ (by omega) z1
      refine ⟨if 0 ≤ x4 then sN V hc1.2 x4 else -2, hc1, ?_, a4.pk, fun hs e1 hm => ?_⟩
      · unfold f10_drawn
        rw [e, bnd_some, if_neg (by omega), w32_id hx3.1 hx3.2, if_neg (by omega), if_pos (by omega), Int.toNat_natCast, a1, bnd_some, c_answer hV a6 hx4, bnd_some]
        by_cases c4 : 0 ≤ x4
        · rw [if_pos c4]
        · rw [if_neg c4]
          unfold sN
          rw [if_neg (by omega), if_neg (by omega), if_neg (by omega), if_neg (by omega), if_neg (by omega), if_neg (by omega), if_neg (by omega)]
      · unfold f11_drawn
        rw [e1, bnd_some, ite_w1, m_isIn, bnd_some, w32_id hx3.1 hx3.2, w32_0, show w32 60 = 60 by decide, if_pos (c := 0 ≤ x3 ∧ x3 ≤ 60) c, ite_w1, w32_id hx4.1 hx4.2]
        by_cases c4 : 0 ≤ x4
        · obtain ⟨hc2, hm2, h20, b1, b2, b3, -, b5, -⟩ := run hs x4 hx4 c4 hm
          obtain ⟨-, i2⟩ := some_inj a1 b1
          subst i2
          rw [if_pos c4, lt_eq, b2, bnd_some, b3, if_pos c4]
          exact ⟨hm2, rfl, b5⟩
        · rw [if_neg c4, if_neg c4]
          exact ⟨hs, rfl, PK.rf hs⟩
    · refine ⟨-2, h, ?_, PK.rf h, fun hs e1 hm => ⟨hs, ?_, PK.rf hs⟩⟩
      · unfold f10_drawn
        rw [e, bnd_some, if_neg (by omega), w32_id hx3.1 hx3.2]
        repeat' split
        all_goals first | omega | rfl
      · unfold f11_drawn
        rw [e1, bnd_some, ite_w1, m_isIn, bnd_some, w32_id hx3.1 hx3.2, w32_0, show w32 60 = 60 by decide, if_neg (c := 0 ≤ x3 ∧ x3 ≤ 60) c, ite_w0]
