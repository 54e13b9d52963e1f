/-! reading side by side: the lines of a day -/
def CD (z w : AH) : Prop := DOK (w.2 72) ∧ RC z.2 35 5 (w.2 72) ∧ (z.2 35 0 = 5 ∧ Z0 z) ∧ z.2 35 1 = 40
def ID (w : AH) : Prop := 0 ≤ w.2 72 0 ∧ w.2 72 0 ≤ 40
theorem IDk (u u' : AH) (k : Ky kRM u u') (h : ID u) : ID u' := by
  unfold ID
  rw [k.2 72 0 (by unfold kRM; omega)]; exact h
theorem CDk (u u' v v' : AH) (k : Ky kRC u u') (q : Ky kRM v v') (h : CD u v) : CD u' v' := by
  obtain ⟨h1, ⟨h2, h3⟩, h4, h5⟩ := h
  refine ⟨by rw [kRM72 q]; exact h1, ⟨?_, fun i hi => ?_⟩, ?_, ?_⟩
  · rw [kRM72 q, k.2 35 3 (by unfold kRC; omega)]; exact h2
  · rw [kRM72 q] at hi ⊢
    rw [k.2 36 i (by unfold kRC; omega)]; exact h3 i hi
  · rw [k.2 35 0 (by unfold kRC; omega)]; exact ⟨h4.1, h4.2.ky k (fun a j q => by unfold kRC at q; omega)⟩
  · rw [k.2 35 1 (by unfold kRC; omega)]; exact h5
def RwD (x0 x1 x2 x3 x4 : Int) : Prop := (x0 = 0 ∧ (0 ≤ x1 ∧ x1 ≤ 7) ∧ (0 ≤ x2 ∧ x2 ≤ 7) ∧ x1 ≠ x2 ∧ (0 ≤ x3 ∧ x3 ≤ 5) ∧ (0 ≤ x4 ∧ x4 ≤ 3)) ∨ ((x0 = 1 ∨ x0 = 2) ∧ (0 ≤ x1 ∧ x1 ≤ 7) ∧ (0 ≤ x2 ∧ x2 ≤ 7) ∧ x1 ≠ x2 ∧ (0 ≤ x3 ∧ x3 ≤ 5) ∧ x4 = -1) ∨ (x0 = 3 ∧ (0 ≤ x1 ∧ x1 ≤ 5) ∧ (0 ≤ x2 ∧ x2 ≤ 9) ∧ x3 = -1 ∧ x4 = -1) ∨ (x0 = 4 ∧ x1 = -1 ∧ x2 = -1 ∧ x3 = -1 ∧ x4 = -1)
section DLine
variable {z w z1 w1 : AH} {n : Nat} {bt : Nat → Int} {kd f t : Nat}
def wD (h : AH) (m : Nat) (x0 x1 x2 x3 x4 : Int) : AH := wr (wr (wr (wr (wr (wr h 72 (1 + 5 * m) x0) 72 (2 + 5 * m) x1) 72 (3 + 5 * m) x2) 72 (4 + 5 * m) x3) 72 (5 + 5 * m) x4) 72 0 ((m : Int) + 1)
theorem tlD_eq {h : AH} {m : Nat} (hm : h.2 72 0 = m) (m8 : m ≤ 40) (x0 x1 x2 x3 x4 : Int) : b11_dayLine_132 x0 x1 x2 x3 x4 h = if m < 40 then bnd (f11_endsLine (wD h m x0 x1 x2 x3 x4)) fun _ h => some (0, h) else bnd (f11_endsLine h) fun _ h => some (0, h) := by
  unfold b11_dayLine_132 wD
  rw [asrt_t (by decide), show (w32 0).toNat = 0 from rfl, hm, w32_id (x := (m : Int)) (by omega) (by omega)]
  by_cases y : m < 40
  · rw [if_neg (by omega), if_pos y, asrt_t (by decide), lt_eq, show (1 : Int) + 5 * (m : Int) = ((1 + 5 * m : Nat) : Int) by omega, show ((1 + 5 * m : Nat) : Int) + 1 = ((2 + 5 * m : Nat) : Int) by omega, show ((1 + 5 * m : Nat) : Int) + 2 = ((3 + 5 * m : Nat) : Int) by omega, show ((1 + 5 * m : Nat) : Int) + 3 = ((4 + 5 * m : Nat) : Int) by omega, show ((1 + 5 * m : Nat) : Int) + 4 = ((5 + 5 * m : Nat) : Int) by omega, w32_id (x := ((1 + 5 * m : Nat) : Int)) (by omega) (by omega), w32_id (x := ((2 + 5 * m : Nat) : Int)) (by omega) (by omega), w32_id (x := ((3 + 5 * m : Nat) : Int)) (by omega) (by omega), w32_id (x := ((4 + 5 * m : Nat) : Int)) (by omega) (by omega), w32_id (x := ((5 + 5 * m : Nat) : Int)) (by omega) (by omega), asrt_t (by omega), lt_eq, asrt_t (by omega), lt_eq, asrt_t (by omega), lt_eq, asrt_t (by omega), lt_eq, asrt_t (by omega), lt_eq, asrt_t (by decide), asrt_t (by decide), lt_eq, Int.toNat_natCast, Int.toNat_natCast, Int.toNat_natCast, Int.toNat_natCast, Int.toNat_natCast, wr_e (by omega), wr_e (by omega), wr_e (by omega), wr_e (by omega), wr_e (by omega), hm]
  · rw [if_pos (by omega), if_neg y]
theorem wD_ky {h : AH} {m : Nat} {x0 x1 x2 x3 x4 : Int} : Ky kWr h (wD h m x0 x1 x2 x3 x4) := (((((Ky.w1 (Or.inl rfl)).w2 (Or.inl rfl)).w2 (Or.inl rfl)).w2 (Or.inl rfl)).w2 (Or.inl rfl)).w2 (Or.inl rfl)
theorem tlD_br {u : AH} (x0 x1 x2 x3 x4 : Int) (u8 : u.2 69 8 = 1) (uI : ID u) : BR ID u (b11_dayLine_132 x0 x1 x2 x3 x4 u) := by
  obtain ⟨m, hm⟩ : ∃ c : Nat, u.2 72 0 = c := ⟨(u.2 72 0).toNat, by have := uI.1; omega⟩
  have m8 : m ≤ 40 := by have := uI.2; omega
  rw [tlD_eq hm m8]
  by_cases y : m < 40
  · rw [if_pos y, m_end1 (by rw [wD_ky.2 69 8 (by unfold kWr; omega)]; exact u8), bnd_some]
    refine ⟨_, rfl, wD_ky, ?_⟩
    unfold ID wD
    rw [wr_at]; omega
  · rw [if_neg y, m_end1 u8, bnd_some]
    exact ⟨_, rfl, Ky.rf _, uI⟩
theorem c_set35 {h : AH} {m i : Nat} {x : Int} (h3 : h.2 35 3 = (m : Int) + 1) (h0 : h.2 35 0 = 5) (hm : m < 40) (hi : i < 5) : f6_setLast 35 (i : Int) x h = some (0, wr h 36 (5 * m + i) x) := by
  unfold f6_setLast
  rw [h3, h0, w32_id (x := (m : Int) + 1) (by omega) (by omega), w32_id (x := (i : Int)) (by omega) (by omega), if_neg (by omega), if_neg (by omega), if_neg (by show ¬ (5 : Int) ≤ (i : Int); omega), show ((m : Int) + 1 - 1) * 5 + (i : Int) = ((5 * m + i : Nat) : Int) by omega, w32_id (x := ((5 * m + i : Nat) : Int)) (by omega) (by omega), asrt_t (by show 0 ≤ ((5 * m + i : Nat) : Int) ∧ ((5 * m + i : Nat) : Int) < 200; omega), lt_eq, Int.toNat_natCast]
theorem td_step {h : AH} {m i line N : Nat} (h3 : h.2 35 3 = (m : Int) + 1) (h0 : h.2 35 0 = 5) (hm : m < 40) (hi : i < 4) (hl : line < 11) (hN : (stV 0).getD line 0 = (N : Int)) (hN4 : N ≤ 4) (rec : Int × AH → Option (Int × AH)) : b5_takeDeed_20 rec line i h = rec (((i + 1 : Nat) : Int), wr h 36 (5 * m + (i + 1)) (if i < N then h.2 40 i else -1)) := by
  have e : ∀ x : Int, b5_takeDeed_51 rec line i x ((i : Int) + 1) h = rec (((i + 1 : Nat) : Int), wr h 36 (5 * m + (i + 1)) x) := fun x => by
    unfold b5_takeDeed_51
    rw [show (i : Int) + 1 = ((i + 1 : Nat) : Int) by omega, c_set35 h3 h0 hm (by omega), bnd_some]
  unfold b5_takeDeed_20
  rw [w32_id (x := (i : Int)) (by omega) (by omega), w32_id (x := (line : Int)) (by omega) (by omega), if_neg (by omega), asrt_t (by omega), Int.toNat_natCast, hN, w32_id (x := (N : Int)) (by omega) (by omega)]
  by_cases y : i < N
  · rw [if_neg (by omega), asrt_t (by omega), e, if_pos y, Int.toNat_natCast]
  · rw [if_pos (by omega), e, if_neg y]
def yD (z : AH) (N i : Nat) : Int := if i < N then z.2 40 i else -1
def zD (z : AH) (m line N : Nat) : AH := wr (wr (wr (wr (wr (wr z 35 3 ((m : Int) + 1)) 36 (5 * m + 0) ((line : Int) - 5)) 36 (5 * m + (0 + 1)) (yD z N 0)) 36 (5 * m + (1 + 1)) (yD z N 1)) 36 (5 * m + (2 + 1)) (yD z N 2)) 36 (5 * m + (3 + 1)) (yD z N 3)
theorem c_tdeed {m line N : Nat} (h3 : z.2 35 3 = (m : Int)) (h0 : z.2 35 0 = 5) (h1 : z.2 35 1 = 40) (hm : m < 40) (hl5 : 5 ≤ line) (hl : line ≤ 9) (hN : (stV 0).getD line 0 = (N : Int)) (hN4 : N ≤ 4) : f5_take (line : Int) z = some (0, zD z m line N) := by
  unfold f5_take f5_takeDeed f6_addRow f6_isFull l5_takeDeed_20
  rw [w32_id (x := (line : Int)) (by omega) (by omega), if_neg (by omega), if_neg (by omega), if_neg (by omega), if_neg (by omega), if_neg (by omega), if_neg (by omega), h3, h1, w32_id (x := (m : Int)) (by omega) (by omega), if_pos (by show (m : Int) < 40; omega), bnd_some, ite_nw0, lt_eq, bnd_some, h3, show (0 : Int) = ((0 : Nat) : Int) from rfl, c_set35 (m := m) wr_at (by rw [wr_e (by omega)]; exact h0) hm (by omega), bnd_some, fx5]
  dsimp only
  rw [td_step (m := m) (N := N) (by rw [wr_e (by omega), wr_at]) (by rw [wr_e (by omega), wr_e (by omega)]; exact h0) hm (by omega) (by omega) hN hN4]
  dsimp only
  rw [td_step (m := m) (N := N) (by rw [wr_e (by omega), wr_e (by omega), wr_at]) (by rw [wr_e (by omega), wr_e (by omega), wr_e (by omega)]; exact h0) hm (by omega) (by omega) hN hN4]
  dsimp only
  rw [td_step (m := m) (N := N) (by rw [wr_e (by omega), wr_e (by omega), wr_e (by omega), wr_at]) (by rw [wr_e (by omega), wr_e (by omega), wr_e (by omega), wr_e (by omega)]; exact h0) hm (by omega) (by omega) hN hN4]
  dsimp only
  rw [td_step (m := m) (N := N) (by rw [wr_e (by omega), wr_e (by omega), wr_e (by omega), wr_e (by omega), wr_at]) (by rw [wr_e (by omega), wr_e (by omega), wr_e (by omega), wr_e (by omega), wr_e (by omega)]; exact h0) hm (by omega) (by omega) hN hN4]
  dsimp only
  unfold b5_takeDeed_20
  rw [if_pos (by decide), bnd_some]
  rw [wr_ne (b := 40) (by omega), wr_ne (b := 40) (by omega), wr_ne (b := 40) (by omega), wr_ne (b := 40) (by omega), wr_ne (b := 40) (by omega)]
  unfold zD yD
  rfl
theorem zD_ky {m line N : Nat} : Ky kTk z (zD z m line N) := (((((Ky.w1 (by unfold kTk; omega)).w2 (by unfold kTk; omega)).w2 (by unfold kTk; omega)).w2 (by unfold kTk; omega)).w2 (by unfold kTk; omega)).w2 (by unfold kTk; omega)
theorem zD_k2 {m line N : Nat} : Ky (fun a _ => a = 35 ∨ a = 36) z (zD z m line N) := (((((Ky.w1 (by omega)).w2 (by omega)).w2 (by omega)).w2 (by omega)).w2 (by omega)).w2 (by omega)
theorem d_end {line N : Nat} {x0 x1 x2 x3 x4 : Int} (hl5 : 5 ≤ line) (hl : line ≤ 9) (hN : (stV 0).getD line 0 = (N : Int)) (hN4 : N ≤ 4) (hG : TG n bt z w kd f t) (hF : FtA z w f) (hI : ID w) (hE : z.2 28 3 = 0 → CD z w ∧ w.2 72 0 < 40 ∧ (x0 = (line : Int) - 5 ∧ x1 = yD z N 0 ∧ x2 = yD z N 1 ∧ x3 = yD z N 2 ∧ x4 = yD z N 3) ∧ RwD x0 x1 x2 x3 x4) : LnO n bt CD ID line N z w t (b11_dayLine_132 x0 x1 x2 x3 x4 w) := by
  obtain ⟨m, hm⟩ : ∃ c : Nat, w.2 72 0 = c := ⟨(w.2 72 0).toNat, by have := hI.1; omega⟩
  have m8 : m ≤ 40 := by have := hI.2; omega
  rw [tlD_eq hm m8]
  by_cases y : m < 40
  · rw [if_pos y]
    have k1 : Ky kWr w (wD w m x0 x1 x2 x3 x4) := wD_ky
    refine LnO.pre (g_end (N := N) hN4 (s_end (N := N) (by omega) hN hN4 (hG.kw k1) (hF.kw k1)) IDk CDk ?_ (fun e => ?_)) k1
    · unfold ID wD
      rw [wr_at]; omega
    · obtain ⟨⟨⟨c1, c2⟩, ⟨c3, c4⟩, c5, c6⟩, e1, ⟨e2, e3, e4, e5, e6⟩, e7⟩ := hE e
      clear hE hF
      have q1 : (wD w m x0 x1 x2 x3 x4).2 72 0 = (m : Int) + 1 := wr_at
      have q2 : (wD w m x0 x1 x2 x3 x4).2 72 (1 + 5 * m) = x0 := by unfold wD; rw [wr_e (by omega), wr_e (by omega), wr_e (by omega), wr_e (by omega), wr_e (by omega), wr_at]
      have q3 : (wD w m x0 x1 x2 x3 x4).2 72 (2 + 5 * m) = x1 := by unfold wD; rw [wr_e (by omega), wr_e (by omega), wr_e (by omega), wr_e (by omega), wr_at]
      have q4 : (wD w m x0 x1 x2 x3 x4).2 72 (3 + 5 * m) = x2 := by unfold wD; rw [wr_e (by omega), wr_e (by omega), wr_e (by omega), wr_at]
      have q6 : (wD w m x0 x1 x2 x3 x4).2 72 (4 + 5 * m) = x3 := by unfold wD; rw [wr_e (by omega), wr_e (by omega), wr_at]
      have q7 : (wD w m x0 x1 x2 x3 x4).2 72 (5 + 5 * m) = x4 := by unfold wD; rw [wr_e (by omega), wr_at]
      have q5 : ∀ j, j ≠ 0 → j < 1 + 5 * m → (wD w m x0 x1 x2 x3 x4).2 72 j = w.2 72 j := fun j j0 j1 => by unfold wD; rw [wr_e (by omega), wr_e (by omega), wr_e (by omega), wr_e (by omega), wr_e (by omega), wr_e (by omega)]
      have p1 : (zD z m line N).2 35 3 = (m : Int) + 1 := by unfold zD; rw [wr_e (by omega), wr_e (by omega), wr_e (by omega), wr_e (by omega), wr_e (by omega), wr_at]
      have p2 : (zD z m line N).2 36 (5 * m + 0) = (line : Int) - 5 := by unfold zD; rw [wr_e (by omega), wr_e (by omega), wr_e (by omega), wr_e (by omega), wr_at]
      have p3 : (zD z m line N).2 36 (5 * m + 1) = yD z N 0 := by unfold zD; rw [wr_e (by omega), wr_e (by omega), wr_e (by omega), wr_at]
      have p4 : (zD z m line N).2 36 (5 * m + 2) = yD z N 1 := by unfold zD; rw [wr_e (by omega), wr_e (by omega), wr_at]
      have p6 : (zD z m line N).2 36 (5 * m + 3) = yD z N 2 := by unfold zD; rw [wr_e (by omega), wr_at]
      have p7 : (zD z m line N).2 36 (5 * m + 4) = yD z N 3 := wr_at
      have p5 : ∀ j, j < 5 * m → (zD z m line N).2 36 j = z.2 36 j := fun j j1 => by unfold zD; rw [wr_e (by omega), wr_e (by omega), wr_e (by omega), wr_e (by omega), wr_e (by omega), wr_e (by omega)]
      refine ⟨zD z m line N, c_tdeed (by omega) c5.1 c6 y hl5 hl hN hN4, zD_ky, ⟨by rw [q1]; clear e7; omega, fun q hq => ?_⟩, ⟨by rw [p1, q1], fun i hi => ?_⟩, ?_, ?_⟩
      · rw [q1] at hq
        by_cases x : q = m
        · subst x
          rw [q2, q3, q4, q6, q7]; exact e7
        · clear e7
          rw [q5 (1 + 5 * q) (by omega) (by omega), q5 (2 + 5 * q) (by omega) (by omega), q5 (3 + 5 * q) (by omega) (by omega), q5 (4 + 5 * q) (by omega) (by omega), q5 (5 + 5 * q) (by omega) (by omega)]
          exact c2 q (by omega)
      · clear e7
        rw [q1] at hi
        have hi : (i : Int) < 5 * ((m : Int) + 1) := hi
        rcases Nat.lt_or_ge i (5 * m) with x | x
        · rw [p5 i x, q5 (1 + i) (by omega) (by omega)]
          exact c4 i (by show (i : Int) < 5 * w.2 72 0; omega)
        · rcases (show i = 5 * m + 0 ∨ i = 5 * m + 1 ∨ i = 5 * m + 2 ∨ i = 5 * m + 3 ∨ i = 5 * m + 4 by omega) with rfl | rfl | rfl | rfl | rfl
          · rw [p2, show 1 + (5 * m + 0) = 1 + 5 * m by omega, q2, e2]
          · rw [p3, show 1 + (5 * m + 1) = 2 + 5 * m by omega, q3, e3]
          · rw [p4, show 1 + (5 * m + 2) = 3 + 5 * m by omega, q4, e4]
          · rw [p6, show 1 + (5 * m + 3) = 4 + 5 * m by omega, q6, e5]
          · rw [p7, show 1 + (5 * m + 4) = 5 + 5 * m by omega, q7, e6]
      · rw [zD_ky.2 35 0 (by unfold kTk; omega)]; exact ⟨c5.1, c5.2.ky zD_k2 (fun a j q => by omega)⟩
      · rw [zD_ky.2 35 1 (by unfold kTk; omega)]; exact c6
  · rw [if_neg y]
    refine g_end (N := N) hN4 (s_end (N := N) (by omega) hN hN4 hG hF) IDk CDk hI (fun e => ?_)
    have := (hE e).2.1
    omega
theorem dl5 (hG : TG n bt z w kd f t) (hF : FtA z w f) (hI : ID w) (hC : z.2 28 3 = 0 → CD z w) (hM : z.2 28 3 = 0 → w.2 72 0 < 40) : LnO n bt CD ID 5 0 z w t (b11_dayLine_41 0 w) := by
  have e : b11_dayLine_41 0 w = bnd (f11_numbered 0 7 w) fun r1 h2 => bnd (f11_unlike 0 7 r1 h2) fun r5 h6 => bnd (f11_numbered 0 5 h6) fun r9 h10 => bnd (f11_numbered 0 3 h10) fun r11 h12 => b11_dayLine_132 0 r1 r5 r9 r11 h12 := rfl
  rw [e]
  refine g_num (by omega) (s_num (N := 4) (by omega) rfl (by omega) (by omega) hG hF (by omega) (by omega) (may0 0 7 (by omega) (by omega) rfl rfl (by omega) (by omega) (by omega) (fun q => by omega))) IDk hI (fun u u8 uI => ?_) (fun v r z' w' kd' f' t' kz kw G' F' I' e40 eo hok hr hv => ?_)
  · rw [m_unl1 u8, bnd_some, m_num1 u8, bnd_some, m_num1 u8, bnd_some]; exact tlD_br _ _ _ _ _ u8 uI
  refine g_num (by omega) (s_unl (N := 4) (by omega) rfl (by omega) (by omega) G' F' (by omega) (by omega) (by omega) (mayU (by omega) hv e40 hok)) IDk I' (fun u u8 uI => ?_) (fun v2 r2 z2 w2 kd2 f2 t2 kz2 kw2 G2 F2 I2 e402 eo2 hok2 hr2 hv2 => ?_)
  · rw [m_num1 u8, bnd_some, m_num1 u8, bnd_some]; exact tlD_br _ _ _ _ _ u8 uI
  refine g_num (by omega) (s_num (N := 4) (by omega) rfl (by omega) (by omega) G2 F2 (by omega) (by omega) (may0 0 5 (by omega) (by omega) rfl rfl (by omega) (by omega) (by omega) (fun q => by omega))) IDk I2 (fun u u8 uI => ?_) (fun v5 r5 z5 w5 kd5 f5 t5 kz5 kw5 G5 F5 I5 e405 eo5 hok5 hr5 hv5 => ?_)
  · rw [m_num1 u8, bnd_some]; exact tlD_br _ _ _ _ _ u8 uI
  refine g_num (by omega) (s_num (N := 4) (by omega) rfl (by omega) (by omega) G5 F5 (by omega) (by omega) (may0 0 3 (by omega) (by omega) rfl rfl (by omega) (by omega) (by omega) (fun q => by omega))) IDk I5 (fun u u8 uI => tlD_br _ _ _ _ _ u8 uI) (fun v6 r6 z6 w6 kd6 f6 t6 kz6 kw6 G6 F6 I6 e406 eo6 hok6 hr6 hv6 => ?_)
  refine d_end (N := 4) (by omega) (by omega) rfl (by omega) G6 F6 I6 (fun e => ?_)
  obtain ⟨e3, rv6, l7, l8, -⟩ := hok6 e
  obtain ⟨e2, rv5, l5, l6, -⟩ := hok5 e3
  obtain ⟨e1, rv2, l3, l4, nx⟩ := hok2 e2
  obtain ⟨e0, rv, l1, l2, -⟩ := hok e1
  have CC := CDk _ _ _ _ kz6 kw6 (CDk _ _ _ _ kz5 kw5 (CDk _ _ _ _ kz2 kw2 (CDk _ _ _ _ kz kw (hC e0))))
  clear hok hok2 hok5 hok6 hr hr2 hr5 hr6 hF F' F2 F5 F6 hC
  refine ⟨CC, ?_, ⟨rfl, ?_, ?_, ?_, ?_⟩, Or.inl ⟨rfl, by omega, by omega, fun q => nx (by omega), by omega, by omega⟩⟩
  · rw [kRM72 kw6, kRM72 kw5, kRM72 kw2, kRM72 kw]; exact hM e0
  · show r = z6.2 40 0
    rw [eo6 0 (by omega), eo5 0 (by omega), eo2 0 (by omega), e40, rv]
  · show r2 = z6.2 40 1
    rw [eo6 1 (by omega), eo5 1 (by omega), e402, rv2]
  · show r5 = z6.2 40 2
    rw [eo6 2 (by omega), e405, rv5]
  · show r6 = z6.2 40 3
    rw [e406, rv6]
theorem dl6 {line : Nat} {x : Int} (hl : (line = 6 ∧ x = 1) ∨ (line = 7 ∧ x = 2)) (hG : TG n bt z w kd f t) (hF : FtA z w f) (hI : ID w) (hC : z.2 28 3 = 0 → CD z w) (hM : z.2 28 3 = 0 → w.2 72 0 < 40) : LnO n bt CD ID line 0 z w t (b11_dayLine_41 x w) := by
  have e : b11_dayLine_41 x w = bnd (f11_numbered 0 7 w) fun r1 h2 => bnd (f11_unlike 0 7 r1 h2) fun r5 h6 => bnd (f11_numbered 0 5 h6) fun r9 h10 => b11_dayLine_132 x r1 r5 r9 (-1) h10 := by
    rcases hl with ⟨-, rfl⟩ | ⟨-, rfl⟩ <;> rfl
  have hN : (stV 0).getD line 0 = ((3 : Nat) : Int) := by rcases hl with ⟨rfl, -⟩ | ⟨rfl, -⟩ <;> rfl
  rw [e]
  refine g_num (by omega) (s_num (N := 3) (by omega) hN (by omega) (by omega) hG hF (by omega) (by omega) (may0 0 7 (by omega) (by omega) (by rcases hl with ⟨rfl, -⟩ | ⟨rfl, -⟩ <;> rfl) (by rcases hl with ⟨rfl, -⟩ | ⟨rfl, -⟩ <;> rfl) (by omega) (by omega) (by omega) (fun q => by omega))) IDk hI (fun u u8 uI => ?_) (fun v r z' w' kd' f' t' kz kw G' F' I' e40 eo hok hr hv => ?_)
  · rw [m_unl1 u8, bnd_some, m_num1 u8, bnd_some]; exact tlD_br _ _ _ _ _ u8 uI
  refine g_num (by omega) (s_unl (N := 3) (by omega) hN (by omega) (by omega) G' F' (by omega) (by omega) (by omega) (mayU (by omega) hv e40 hok)) IDk I' (fun u u8 uI => ?_) (fun v2 r2 z2 w2 kd2 f2 t2 kz2 kw2 G2 F2 I2 e402 eo2 hok2 hr2 hv2 => ?_)
  · rw [m_num1 u8, bnd_some]; exact tlD_br _ _ _ _ _ u8 uI
  refine g_num (by omega) (s_num (N := 3) (by omega) hN (by omega) (by omega) G2 F2 (by omega) (by omega) (may0 0 5 (by omega) (by omega) (by rcases hl with ⟨rfl, -⟩ | ⟨rfl, -⟩ <;> rfl) (by rcases hl with ⟨rfl, -⟩ | ⟨rfl, -⟩ <;> rfl) (by omega) (by omega) (by omega) (fun q => by omega))) IDk I2 (fun u u8 uI => tlD_br _ _ _ _ _ u8 uI) (fun v5 r5 z5 w5 kd5 f5 t5 kz5 kw5 G5 F5 I5 e405 eo5 hok5 hr5 hv5 => ?_)
  refine d_end (N := 3) (by omega) (by omega) hN (by omega) G5 F5 I5 (fun e => ?_)
  obtain ⟨e2, rv5, l5, l6, -⟩ := hok5 e
  obtain ⟨e1, rv2, l3, l4, nx⟩ := hok2 e2
  obtain ⟨e0, rv, l1, l2, -⟩ := hok e1
  have CC := CDk _ _ _ _ kz5 kw5 (CDk _ _ _ _ kz2 kw2 (CDk _ _ _ _ kz kw (hC e0)))
  clear hok hok2 hok5 hr hr2 hr5 hF F' F2 F5 hC
  refine ⟨CC, ?_, ⟨by omega, ?_, ?_, ?_, rfl⟩, Or.inr (Or.inl ⟨by omega, by omega, by omega, fun q => nx (by omega), by omega, rfl⟩)⟩
  · rw [kRM72 kw5, kRM72 kw2, kRM72 kw]; exact hM e0
  · show r = z5.2 40 0
    rw [eo5 0 (by omega), eo2 0 (by omega), e40, rv]
  · show r2 = z5.2 40 1
    rw [eo5 1 (by omega), e402, rv2]
  · show r5 = z5.2 40 2
    rw [e405, rv5]
theorem dl8 (hG : TG n bt z w kd f t) (hF : FtA z w f) (hI : ID w) (hC : z.2 28 3 = 0 → CD z w) (hM : z.2 28 3 = 0 → w.2 72 0 < 40) : LnO n bt CD ID 8 0 z w t (b11_dayLine_41 3 w) := by
  have e : b11_dayLine_41 3 w = bnd (f11_numbered 0 5 w) fun r1 h2 => bnd (f11_numbered 0 9 h2) fun r5 h6 => b11_dayLine_132 3 r1 r5 (-1) (-1) h6 := rfl
  rw [e]
  refine g_num (by omega) (s_num (N := 2) (by omega) rfl (by omega) (by omega) hG hF (by omega) (by omega) (may0 0 5 (by omega) (by omega) rfl rfl (by omega) (by omega) (by omega) (fun q => by omega))) IDk hI (fun u u8 uI => ?_) (fun v r z' w' kd' f' t' kz kw G' F' I' e40 eo hok hr hv => ?_)
  · rw [m_num1 u8, bnd_some]; exact tlD_br _ _ _ _ _ u8 uI
  refine g_num (by omega) (s_num (N := 2) (by omega) rfl (by omega) (by omega) G' F' (by omega) (by omega) (may0 0 9 (by omega) (by omega) rfl rfl (by omega) (by omega) (by omega) (fun q => by rw [e40]; exact hv))) IDk I' (fun u u8 uI => tlD_br _ _ _ _ _ u8 uI) (fun v2 r2 z2 w2 kd2 f2 t2 kz2 kw2 G2 F2 I2 e402 eo2 hok2 hr2 hv2 => ?_)
  refine d_end (N := 2) (by omega) (by omega) rfl (by omega) G2 F2 I2 (fun e => ?_)
  obtain ⟨e1, rv2, l3, l4, -⟩ := hok2 e
  obtain ⟨e0, rv, l1, l2, -⟩ := hok e1
  have CC := CDk _ _ _ _ kz2 kw2 (CDk _ _ _ _ kz kw (hC e0))
  clear hok hok2 hr hr2 hF F' F2 hC
  refine ⟨CC, ?_, ⟨rfl, ?_, ?_, rfl, rfl⟩, Or.inr (Or.inr (Or.inl ⟨rfl, by omega, by omega, rfl, rfl⟩))⟩
  · rw [kRM72 kw2, kRM72 kw]; exact hM e0
  · show r = z2.2 40 0
    rw [eo2 0 (by omega), e40, rv]
  · show r2 = z2.2 40 1
    rw [e402, rv2]
theorem dl9 (hG : TG n bt z w kd f t) (hF : FtA z w f) (hI : ID w) (hC : z.2 28 3 = 0 → CD z w) (hM : z.2 28 3 = 0 → w.2 72 0 < 40) : LnO n bt CD ID 9 0 z w t (b11_dayLine_41 4 w) := by
  have e : b11_dayLine_41 4 w = b11_dayLine_132 4 (-1) (-1) (-1) (-1) w := rfl
  rw [e]
  exact d_end (N := 0) (by omega) (by omega) rfl (by omega) hG hF hI (fun e => ⟨hC e, hM e, ⟨rfl, rfl, rfl, rfl, rfl⟩, Or.inr (Or.inr (Or.inr ⟨rfl, rfl, rfl, rfl, rfl⟩))⟩)
theorem d_line (hG : TG n bt z w kd f t) (hF : FtA z w f) (hI : ID w) (hC : z.2 28 3 = 0 → CD z w) : LOx n bt CD ID z w t (f5_readLine ((1 : Nat) : Int) z) (f11_dayLine w) := by
  unfold f11_dayLine
  rw [lt_eq]
  rcases s_word (s := 1) (by omega) hG hF with ⟨z', w', r1, r2, r3, r4, r5⟩ | ⟨-, line, w1, hl, r2, k1, w8, hb⟩
  · have r2 : f11_wordIn 6 10 w = some (0, w') := r2
    rw [r2, bnd_some, lt_eq, r3.2.2.2, ite_nw1]
    refine g_br (K := b11_dayLine_41 (0 - 6)) r1 r3 r4 r5 (IDk _ _ r5 hI) (fun u u8 uI => ?_)
    have e : b11_dayLine_41 (0 - 6) u = bnd (f11_numbered 0 7 u) fun r1 h2 => bnd (f11_unlike 0 7 r1 h2) fun r5 h6 => bnd (f11_numbered 0 5 h6) fun r9 h10 => bnd (f11_numbered 0 3 h10) fun r11 h12 => b11_dayLine_132 (0 - 6) r1 r5 r9 r11 h12 := rfl
    rw [e, m_num1 u8, bnd_some, m_unl1 u8, bnd_some, m_num1 u8, bnd_some, m_num1 u8, bnd_some]; exact tlD_br _ _ _ _ _ u8 uI
  · have r2 : f11_wordIn 6 10 w = some ((line : Int) + 1, w1) := r2
    have hl : (6 : Int) ≤ (line : Int) + 1 ∧ (line : Int) + 1 ≤ 10 := hl
    obtain ⟨b, m1, m2, -, -, -, -, m7⟩ := c_many (z := z) (line := line) (by omega)
    have m7 := m7 (by omega) (by omega)
    have e72 := kRM72 k1
    obtain ⟨z1, w2, kd', f', t', q1, qa, q2, q3, q4, q5, q6, q7, q8⟩ := hb b m1 m2 (¬ w.2 72 0 < 40) (fun e => by
      rw [m7, (hC e).2.1.1, (hC e).2.2.2, w32_id (x := w.2 72 0) (by have := hI.1; omega) (by have := hI.2; omega)]; rfl)
    have I1 := IDk _ _ q7 hI
    have C1 : z1.2 28 3 = 0 → CD z1 w2 := fun e => CDk _ _ _ _ q6 q7 (hC (q8 e).1)
    have M1 : z1.2 28 3 = 0 → w2.2 72 0 < 40 := fun e => by rw [kRM72 q7]; have := (q8 e).2; omega
    have ht : t ≤ t' := Nat.le_trans q5 q3.rng.1
    have key : LOx n bt CD ID z w t (lC FU line 0 z1) (b11_dayLine_41 ((line : Int) + 1 - 6) w2) := by
      rcases (show line = 5 ∨ line = 6 ∨ line = 7 ∨ line = 8 ∨ line = 9 by omega) with rfl | rfl | rfl | rfl | rfl
      · exact (dl5 q3 q4 I1 C1 M1).fu.st q6 q7 ht
      · exact (dl6 (Or.inl ⟨rfl, rfl⟩) q3 q4 I1 C1 M1).fu.st q6 q7 ht
      · exact (dl6 (Or.inr ⟨rfl, rfl⟩) q3 q4 I1 C1 M1).fu.st q6 q7 ht
      · exact (dl8 q3 q4 I1 C1 M1).fu.st q6 q7 ht
      · exact (dl9 q3 q4 I1 C1 M1).fu.st q6 q7 ht
    rw [r2, bnd_some, lt_eq, w8, ite_nw0, q1, asrt_t (by decide), show (w32 0).toNat = 0 from rfl, e72, w32_id (x := w.2 72 0) (by have := hI.1; omega) (by have := hI.2; omega)]
    by_cases y : w.2 72 0 < 40
    · rw [if_pos y, ← q2 (fun q => q y)]; exact key
    · rw [if_neg y, qa y, bnd_some]; exact key
end DLine
