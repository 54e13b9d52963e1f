/-! reading side by side: the line of a log -/
theorem fx5 {α : Type} {F : (α → Option (Int × AH)) → α → Option (Int × AH)} {z : α} : fx F FU z = F (fun a => F (fun b => F (fun c => F (fun d => F (fx F 999999999995) d) c) b) a) z := rfl
/-- no village is read -/
def Z0 (z : AH) : Prop := z.2 29 0 = 0 ∧ z.2 29 1 = 0 ∧ z.2 28 11 = 0 ∧ z.2 28 12 = 0
theorem Z0.ky {P : Nat → Nat → Prop} {z z1 : AH} (h : Z0 z) (k : Ky P z z1) (hp : ∀ a j, P a j → ¬ (a = 29 ∧ j < 2) ∧ ¬ (a = 28 ∧ (j = 11 ∨ j = 12))) : Z0 z1 := by
  obtain ⟨h1, h2, h3, h4⟩ := h
  refine ⟨?_, ?_, ?_, ?_⟩
  · rw [k.2 29 0 (fun q => (hp _ _ q).1 ⟨rfl, by omega⟩)]; exact h1
  · rw [k.2 29 1 (fun q => (hp _ _ q).1 ⟨rfl, by omega⟩)]; exact h2
  · rw [k.2 28 11 (fun q => (hp _ _ q).2 ⟨rfl, by omega⟩)]; exact h3
  · rw [k.2 28 12 (fun q => (hp _ _ q).2 ⟨rfl, by omega⟩)]; exact h4
def CL (z w : AH) : Prop := LOK (w.2 72) ∧ RC z.2 37 3 (w.2 72) ∧ (z.2 37 0 = 3 ∧ Z0 z) ∧ z.2 37 1 = 8
def IL (w : AH) : Prop := 0 ≤ w.2 72 0 ∧ w.2 72 0 ≤ 8
theorem ILk (u u' : AH) (k : Ky kRM u u') (h : IL u) : IL u' := by
  unfold IL
  rw [k.2 72 0 (by unfold kRM; omega)]; exact h
theorem CLk (u u' v v' : AH) (k : Ky kRC u u') (q : Ky kRM v v') (h : CL u v) : CL u' v' := by
  obtain ⟨h1, ⟨h2, h3⟩, h4, h5⟩ := h
  refine ⟨by rw [kRM72 q]; exact h1, ⟨?_, fun i hi => ?_⟩, ?_, ?_⟩
  · rw [kRM72 q, k.2 37 3 (by unfold kRC; omega)]; exact h2
  · rw [kRM72 q] at hi ⊢
    rw [k.2 38 i (by unfold kRC; omega)]; exact h3 i hi
  · rw [k.2 37 0 (by unfold kRC; omega)]; exact ⟨h4.1, h4.2.ky k (fun a j q => by unfold kRC at q; omega)⟩
  · rw [k.2 37 1 (by unfold kRC; omega)]; exact h5
section LLine
variable {z w z1 w1 : AH} {n : Nat} {bt : Nat → Int} {kd f t : Nat}
theorem mayU {line : Nat} {r v0 : Int} {F0 : Prop} (hl : line = 5 ∨ line = 6 ∨ line = 7 ∨ line = 10) (hv : 0 ≤ v0 ∧ v0 ≤ 99) (e40 : z.2 40 0 = v0) (hok : z.2 28 3 = 0 → F0 ∧ r = v0 ∧ 0 ≤ v0 ∧ v0 ≤ 7 ∧ True) (v : Int) (u : AH) (v1 : 0 ≤ v) (v2 : v ≤ 99) (hv2 : u.2 40 1 = v) (hu : ∀ j, j ≠ 1 → u.2 40 j = z.2 40 j) : ∃ b, f5_mayBe (line : Int) ((1 : Nat) : Int) u = some (b, u) ∧ (b = 0 ∨ b = 1) ∧ (z.2 28 3 = 0 → (b = 1 ↔ (0 ≤ v ∧ v ≤ 7) ∧ v ≠ r)) := by
  obtain ⟨b, b1, b2, b3⟩ := c_mayBe (u := u) (v := v) (line := line) (i := 1) (by omega) (by omega) 0 7 (by rcases hl with rfl | rfl | rfl | rfl <;> rfl) (by rcases hl with rfl | rfl | rfl | rfl <;> rfl) (by omega) (by omega) hv2 ⟨v1, v2⟩ (fun q => by rw [hu 0 (by omega), e40]; exact hv)
  refine ⟨b, b1, b2, fun e => b3.trans ?_⟩
  obtain ⟨-, q1, q2, q3, -⟩ := hok e
  have e0 : u.2 40 0 = r := by rw [hu 0 (by omega), e40, q1]
  constructor
  · intro x
    have := (x.2 rfl).2 hl
    rw [e0] at this
    exact ⟨x.1, this⟩
  · intro x
    exact ⟨x.1, fun _ => ⟨fun _ => by omega, fun _ => by rw [e0]; exact x.2⟩⟩
def tl10 (r1 r5 r9 : Int) (h10 : AH) : Option (Int × AH) :=
  asrt (0 ≤ w32 0 ∧ w32 0 < 201) <|
  if 8 ≤ w32 (h10.2 72 (w32 0).toNat) then
    bnd (f11_endsLine h10) fun _ h15 =>
    some (0, h15)
  else
    asrt (0 ≤ w32 0 ∧ w32 0 < 201) <|
    lt (1 + (3 * (h10.2 72 (w32 0).toNat))) fun u19 =>
    asrt (0 ≤ w32 u19 ∧ w32 u19 < 201) <|
    lt (wr h10 72 (w32 u19).toNat r1) fun h21 =>
    asrt (0 ≤ w32 (u19 + 1) ∧ w32 (u19 + 1) < 201) <|
    lt (wr h21 72 (w32 (u19 + 1)).toNat r5) fun h24 =>
    asrt (0 ≤ w32 (u19 + 2) ∧ w32 (u19 + 2) < 201) <|
    lt (wr h24 72 (w32 (u19 + 2)).toNat r9) fun h27 =>
    asrt (0 ≤ w32 0 ∧ w32 0 < 201) <|
    asrt (0 ≤ w32 0 ∧ w32 0 < 201) <|
    lt (wr h27 72 (w32 0).toNat ((h27.2 72 (w32 0).toNat) + 1)) fun h31 =>
    bnd (f11_endsLine h31) fun _ h34 =>
    some (0, h34)
def w10 (h : AH) (m : Nat) (r1 r5 r9 : Int) : AH := wr (wr (wr (wr h 72 (1 + 3 * m) r1) 72 (2 + 3 * m) r5) 72 (3 + 3 * m) r9) 72 0 ((m : Int) + 1)
theorem tl10_eq {h : AH} {m : Nat} (hm : h.2 72 0 = m) (m8 : m ≤ 8) (r1 r5 r9 : Int) : tl10 r1 r5 r9 h = if m < 8 then bnd (f11_endsLine (w10 h m r1 r5 r9)) fun _ h => some (0, h) else bnd (f11_endsLine h) fun _ h => some (0, h) := by
  unfold tl10 w10
  rw [asrt_t (by decide), show (w32 0).toNat = 0 from rfl, hm, w32_id (x := (m : Int)) (by omega) (by omega)]
  by_cases y : m < 8
  · rw [if_neg (by omega), if_pos y, asrt_t (by decide), lt_eq, show (1 : Int) + 3 * (m : Int) = ((1 + 3 * m : Nat) : Int) by omega, show ((1 + 3 * m : Nat) : Int) + 1 = ((2 + 3 * m : Nat) : Int) by omega, show ((1 + 3 * m : Nat) : Int) + 2 = ((3 + 3 * m : Nat) : Int) by omega, w32_id (x := ((1 + 3 * m : Nat) : Int)) (by omega) (by omega), w32_id (x := ((2 + 3 * m : Nat) : Int)) (by omega) (by omega), w32_id (x := ((3 + 3 * m : Nat) : Int)) (by omega) (by omega), asrt_t (by omega), lt_eq, asrt_t (by omega), lt_eq, asrt_t (by omega), lt_eq, asrt_t (by decide), asrt_t (by decide), lt_eq, Int.toNat_natCast, Int.toNat_natCast, Int.toNat_natCast, wr_e (by omega), wr_e (by omega), wr_e (by omega), hm]
  · rw [if_pos (by omega), if_neg y]
theorem w10_ky {h : AH} {m : Nat} {r1 r5 r9 : Int} : Ky kWr h (w10 h m r1 r5 r9) := (((Ky.w1 (Or.inl rfl)).w2 (Or.inl rfl)).w2 (Or.inl rfl)).w2 (Or.inl rfl)
theorem tl10_br {u : AH} (r1 r5 r9 : Int) (u8 : u.2 69 8 = 1) (uI : IL u) : BR IL u (tl10 r1 r5 r9 u) := by
  obtain ⟨m, hm⟩ : ∃ c : Nat, u.2 72 0 = c := ⟨(u.2 72 0).toNat, by have := uI.1; omega⟩
  have m8 : m ≤ 8 := by have := uI.2; omega
  rw [tl10_eq hm m8]
  by_cases y : m < 8
  · rw [if_pos y, m_end1 (by rw [w10_ky.2 69 8 (by unfold kWr; omega)]; exact u8), bnd_some]
    refine ⟨_, rfl, w10_ky, ?_⟩
    unfold IL w10
    rw [wr_at]; omega
  · rw [if_neg y, m_end1 u8, bnd_some]
    exact ⟨_, rfl, Ky.rf _, uI⟩
theorem c_set37 {h : AH} {m i : Nat} {x : Int} (h3 : h.2 37 3 = (m : Int) + 1) (h0 : h.2 37 0 = 3) (hm : m < 8) (hi : i < 3) : f6_setLast 37 (i : Int) x h = some (0, wr h 38 (3 * m + i) x) := by
  unfold f6_setLast
  rw [h3, h0, w32_id (x := (m : Int) + 1) (by omega) (by omega), w32_id (x := (i : Int)) (by omega) (by omega), if_neg (by omega), if_neg (by omega), if_neg (by show ¬ (3 : Int) ≤ (i : Int); omega), show ((m : Int) + 1 - 1) * 3 + (i : Int) = ((3 * m + i : Nat) : Int) by omega, w32_id (x := ((3 * m + i : Nat) : Int)) (by omega) (by omega), asrt_t (by show 0 ≤ ((3 * m + i : Nat) : Int) ∧ ((3 * m + i : Nat) : Int) < 24; omega), lt_eq, Int.toNat_natCast]
def z10 (z : AH) (m : Nat) : AH := wr (wr (wr (wr z 37 3 ((m : Int) + 1)) 38 (3 * m + 0) (z.2 40 0)) 38 (3 * m + 1) (z.2 40 1)) 38 (3 * m + 2) (z.2 40 2)
theorem c_fact {m : Nat} (h3 : z.2 37 3 = (m : Int)) (h0 : z.2 37 0 = 3) (h1 : z.2 37 1 = 8) (hm : m < 8) : f5_take ((10 : Nat) : Int) z = some (0, z10 z m) := by
  unfold f5_take f5_takeFact f6_addRow f6_isFull l5_takeFact_9
  rw [if_neg (by decide), if_neg (by decide), if_neg (by decide), if_neg (by decide), if_neg (by decide), if_pos (by decide), h3, h1, w32_id (x := (m : Int)) (by omega) (by omega), if_pos (by show (m : Int) < 8; omega), bnd_some, ite_nw0, lt_eq, bnd_some, h3, fx5]
  unfold b5_takeFact_9
  dsimp only
  rw [if_neg (by decide), asrt_t (by decide), show (0 : Int) = ((0 : Nat) : Int) from rfl, c_set37 (m := m) wr_at (by rw [wr_e (by omega)]; exact h0) hm (by omega), bnd_some]
  rw [if_neg (by decide), asrt_t (by decide), show ((0 : Nat) : Int) + 1 = ((1 : Nat) : Int) from rfl, c_set37 (m := m) (by rw [wr_e (by omega), wr_at]) (by rw [wr_e (by omega), wr_e (by omega)]; exact h0) hm (by omega), bnd_some]
  rw [if_neg (by decide), asrt_t (by decide), show ((1 : Nat) : Int) + 1 = ((2 : Nat) : Int) from rfl, c_set37 (m := m) (by rw [wr_e (by omega), wr_e (by omega), wr_at]) (by rw [wr_e (by omega), wr_e (by omega), wr_e (by omega)]; exact h0) hm (by omega), bnd_some]
  rw [if_pos (by decide), bnd_some, show (w32 ((0 : Nat) : Int)).toNat = 0 from rfl, show (w32 ((1 : Nat) : Int)).toNat = 1 from rfl, show (w32 ((2 : Nat) : Int)).toNat = 2 from rfl]
  unfold z10
  rw [wr_e (by omega), wr_e (by omega), wr_e (by omega), wr_e (by omega), wr_e (by omega), wr_e (by omega)]
theorem z10_ky {m : Nat} : Ky kTk z (z10 z m) := (((Ky.w1 (by unfold kTk; omega)).w2 (by unfold kTk; omega)).w2 (by unfold kTk; omega)).w2 (by unfold kTk; omega)
theorem z10_k2 {m : Nat} : Ky (fun a _ => a = 37 ∨ a = 38) z (z10 z m) := (((Ky.w1 (by omega)).w2 (by omega)).w2 (by omega)).w2 (by omega)
theorem l_end {r1 r5 r9 : Int} (hG : TG n bt z w kd f t) (hF : FtA z w f) (hI : IL w) (hE : z.2 28 3 = 0 → CL z w ∧ w.2 72 0 < 8 ∧ (r1 = z.2 40 0 ∧ r5 = z.2 40 1 ∧ r9 = z.2 40 2) ∧ (0 ≤ r1 ∧ r1 ≤ 7) ∧ (0 ≤ r5 ∧ r5 ≤ 7) ∧ r1 ≠ r5 ∧ (0 ≤ r9 ∧ r9 ≤ 99)) : LnO n bt CL IL 10 3 z w t (tl10 r1 r5 r9 w) := by
  obtain ⟨m, hm⟩ : ∃ c : Nat, w.2 72 0 = c := ⟨(w.2 72 0).toNat, by have := hI.1; omega⟩
  have m8 : m ≤ 8 := by have := hI.2; omega
  rw [tl10_eq hm m8]
  by_cases y : m < 8
  · rw [if_pos y]
    have k1 : Ky kWr w (w10 w m r1 r5 r9) := w10_ky
    refine LnO.pre (g_end (N := 3) (by omega) (s_end (N := 3) (by omega) rfl (by omega) (hG.kw k1) (hF.kw k1)) ILk CLk ?_ (fun e => ?_)) k1
    · unfold IL w10
      rw [wr_at]; omega
    · obtain ⟨⟨⟨c1, c2⟩, ⟨c3, c4⟩, c5, c6⟩, e1, ⟨e2, e3, e4⟩, e5, e6, e7, e8⟩ := hE e
      clear hE hF
      have q1 : (w10 w m r1 r5 r9).2 72 0 = (m : Int) + 1 := wr_at
      have q2 : (w10 w m r1 r5 r9).2 72 (1 + 3 * m) = r1 := by unfold w10; rw [wr_e (by omega), wr_e (by omega), wr_e (by omega), wr_at]
      have q3 : (w10 w m r1 r5 r9).2 72 (2 + 3 * m) = r5 := by unfold w10; rw [wr_e (by omega), wr_e (by omega), wr_at]
      have q4 : (w10 w m r1 r5 r9).2 72 (3 + 3 * m) = r9 := by unfold w10; rw [wr_e (by omega), wr_at]
      have q5 : ∀ j, j ≠ 0 → j < 1 + 3 * m → (w10 w m r1 r5 r9).2 72 j = w.2 72 j := fun j j0 j1 => by unfold w10; rw [wr_e (by omega), wr_e (by omega), wr_e (by omega), wr_e (by omega)]
      have p1 : (z10 z m).2 37 3 = (m : Int) + 1 := by unfold z10; rw [wr_e (by omega), wr_e (by omega), wr_e (by omega), wr_at]
      have p2 : (z10 z m).2 38 (3 * m + 0) = z.2 40 0 := by unfold z10; rw [wr_e (by omega), wr_e (by omega), wr_at]
      have p3 : (z10 z m).2 38 (3 * m + 1) = z.2 40 1 := by unfold z10; rw [wr_e (by omega), wr_at]
      have p4 : (z10 z m).2 38 (3 * m + 2) = z.2 40 2 := wr_at
      have p5 : ∀ j, j < 3 * m → (z10 z m).2 38 j = z.2 38 j := fun j j1 => by unfold z10; rw [wr_e (by omega), wr_e (by omega), wr_e (by omega), wr_e (by omega)]
      refine ⟨z10 z m, c_fact (by omega) c5.1 c6 y, z10_ky, ⟨by rw [q1]; omega, fun q hq => ?_⟩, ⟨by rw [p1, q1], fun i hi => ?_⟩, ?_, ?_⟩
      · rw [q1] at hq
        by_cases x : q = m
        · subst x
          rw [q2, q3, q4]; exact ⟨e5, e6, e7, e8⟩
        · rw [q5 _ (by omega) (by omega), q5 _ (by omega) (by omega), q5 _ (by omega) (by omega)]
          exact c2 q (by omega)
      · rw [q1] at hi
        have hi : (i : Int) < 3 * ((m : Int) + 1) := hi
        rcases Nat.lt_or_ge i (3 * m) with x | x
        · rw [p5 i x, q5 (1 + i) (by omega) (by omega)]
          exact c4 i (by show (i : Int) < 3 * w.2 72 0; omega)
        · rcases (show i = 3 * m + 0 ∨ i = 3 * m + 1 ∨ i = 3 * m + 2 by omega) with rfl | rfl | rfl
          · rw [p2, show 1 + (3 * m + 0) = 1 + 3 * m by omega, q2, e2]
          · rw [p3, show 1 + (3 * m + 1) = 2 + 3 * m by omega, q3, e3]
          · rw [p4, show 1 + (3 * m + 2) = 3 + 3 * m by omega, q4, e4]
      · rw [z10_ky.2 37 0 (by unfold kTk; omega)]; exact ⟨c5.1, c5.2.ky z10_k2 (fun a j q => by omega)⟩
      · rw [z10_ky.2 37 1 (by unfold kTk; omega)]; exact c6
  · rw [if_neg y]
    refine g_end (N := 3) (by omega) (s_end (N := 3) (by omega) rfl (by omega) hG hF) ILk CLk hI (fun e => ?_)
    have := (hE e).2.1
    omega
theorem ll10 (hG : TG n bt z w kd f t) (hF : FtA z w f) (hI : IL w) (hC : z.2 28 3 = 0 → CL z w) (hM : z.2 28 3 = 0 → w.2 72 0 < 8) : LnO n bt CL IL 10 0 z w t (b11_logLine_38 w) := by
  have e : b11_logLine_38 w = bnd (f11_numbered 0 7 w) fun r1 h2 => bnd (f11_unlike 0 7 r1 h2) fun r5 h6 => bnd (f11_numbered 0 99 h6) fun r9 h10 => tl10 r1 r5 r9 h10 := rfl
  rw [e]
  refine g_num (by omega) (s_num (N := 3) (by omega) rfl (by omega) (by omega) hG hF (by omega) (by omega) (may0 0 7 (by omega) (by omega) rfl rfl (by omega) (by omega) (by omega) (fun q => by omega))) ILk hI (fun u u8 uI => ?_) (fun v r z' w' kd' f' t' kz kw G' F' I' e40 eo hok hr hv => ?_)
  · rw [m_unl1 u8, bnd_some, m_num1 u8, bnd_some]; exact tl10_br _ _ _ u8 uI
  refine g_num (by omega) (s_unl (N := 3) (by omega) rfl (by omega) (by omega) G' F' (by omega) (by omega) (by omega) (mayU (by omega) hv e40 hok)) ILk I' (fun u u8 uI => ?_) (fun v2 r2 z2 w2 kd2 f2 t2 kz2 kw2 G2 F2 I2 e402 eo2 hok2 hr2 hv2 => ?_)
  · rw [m_num1 u8, bnd_some]; exact tl10_br _ _ _ u8 uI
  refine g_num (by omega) (s_num (N := 3) (by omega) rfl (by omega) (by omega) G2 F2 (by omega) (by omega) (may0 0 99 (by omega) (by omega) rfl rfl (by omega) (by omega) (by omega) (fun q => by omega))) ILk I2 (fun u u8 uI => tl10_br _ _ _ u8 uI) (fun v5 r5 z5 w5 kd5 f5 t5 kz5 kw5 G5 F5 I5 e405 eo5 hok5 hr5 hv5 => ?_)
  refine l_end G5 F5 I5 (fun e => ?_)
  obtain ⟨e2, rv5, l5, l6, -⟩ := hok5 e
  obtain ⟨e1, rv2, l3, l4, nx⟩ := hok2 e2
  obtain ⟨e0, rv, l1, l2, -⟩ := hok e1
  have CC := CLk _ _ _ _ kz5 kw5 (CLk _ _ _ _ kz2 kw2 (CLk _ _ _ _ kz kw (hC e0)))
  refine ⟨CC, ?_, ⟨?_, ?_, ?_⟩, by omega, by omega, fun q => nx (by omega), by omega⟩
  · rw [kRM72 kw5, kRM72 kw2, kRM72 kw]; exact hM e0
  · rw [eo5 0 (by omega), eo2 0 (by omega), e40, rv]
  · rw [eo5 1 (by omega), e402, rv2]
  · rw [e405, rv5]
theorem l_line (hG : TG n bt z w kd f t) (hF : FtA z w f) (hI : IL w) (hC : z.2 28 3 = 0 → CL z w) : LOx n bt CL IL z w t (f5_readLine ((2 : Nat) : Int) z) (f11_logLine w) := by
  unfold f11_logLine
  rw [lt_eq]
  rcases s_word (s := 2) (by omega) hG hF with ⟨z', w', r1, r2, r3, r4, r5⟩ | ⟨-, line, w1, hl, r2, k1, w8, hb⟩
  · have r2 : f11_wordIn 11 11 w = some (0, w') := r2
    rw [r2, bnd_some, r3.2.2.2, ite_nw1]
    refine g_br (K := b11_logLine_38) r1 r3 r4 r5 (ILk _ _ r5 hI) (fun u u8 uI => ?_)
    unfold b11_logLine_38
    rw [m_num1 u8, bnd_some, m_unl1 u8, bnd_some, m_num1 u8, bnd_some]; exact tl10_br _ _ _ u8 uI
  · have r2 : f11_wordIn 11 11 w = some ((line : Int) + 1, w1) := r2
    have hl : (11 : Int) ≤ (line : Int) + 1 ∧ (line : Int) + 1 ≤ 11 := hl
    have l10 : line = 10 := by omega
    subst l10
    obtain ⟨b, m1, m2, -, -, -, m6, -⟩ := c_many (z := z) (line := 10) (by omega)
    have m6 := m6 rfl
    have e72 := kRM72 k1
    obtain ⟨z1, w2, kd', f', t', q1, qa, q2, q3, q4, q5, q6, q7, q8⟩ := hb b m1 m2 (¬ w.2 72 0 < 8) (fun e => by
      rw [m6, (hC e).2.1.1, (hC e).2.2.2, w32_id (x := w.2 72 0) (by have := hI.1; omega) (by have := hI.2; omega)]; rfl)
    have I1 := ILk _ _ q7 hI
    have C1 : z1.2 28 3 = 0 → CL z1 w2 := fun e => CLk _ _ _ _ q6 q7 (hC (q8 e).1)
    have ht : t ≤ t' := Nat.le_trans q5 q3.rng.1
    have key := (ll10 q3 q4 I1 C1 (fun e => by rw [kRM72 q7]; have := (q8 e).2; omega)).fu.st q6 q7 ht
    rw [r2, bnd_some, w8, ite_nw0, q1, asrt_t (by decide), show (w32 0).toNat = 0 from rfl, e72, w32_id (x := w.2 72 0) (by have := hI.1; omega) (by have := hI.2; omega)]
    by_cases y : w.2 72 0 < 8
    · rw [if_pos y, ← q2 (fun q => q y)]; exact key
    · rw [if_neg y, qa y, bnd_some]; exact key
end LLine
