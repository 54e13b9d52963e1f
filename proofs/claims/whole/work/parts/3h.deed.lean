/-! deeds, side by side -/
def SX (h h1 : AH) (x : Nat → Int) : Prop := KS h h1 ∧ (∀ k, 7 ≤ k → h1.2 41 k = h.2 41 k) ∧ ∀ p, p < 8 → h1.2 49 p = h.2 49 p + x p
theorem SX.rf (h : AH) {x : Nat → Int} (hx : ∀ p, p < 8 → x p = 0) : SX h h x := ⟨KS.rf h, fun _ _ => rfl, fun p hp => by rw [hx p hp, Int.add_zero]⟩
theorem sHeld_N {V : Nat → Int} {c m : Nat → Nat → Int} (hV : VOK V) (hS : SR V c m) {a s : Nat} (ha : (a : Int) < V 0) (hs : (s : Int) < V 1) : sHeld (nV c) a s = c 47 (6 * a + s) := by
  obtain ⟨b1, b2, e0, e1, e2⟩ := hS.vc hV
  unfold sHeld
  rw [if_pos (by omega), Int.toNat_natCast, Int.toNat_natCast, nV_h]
theorem m_offNow {V : Nat → Int} {hc hm : AH} (hV : VOK V) (hS : SR V hc.2 hm.2) {a b s : Nat} (ha : (a : Int) < V 0) (hb : (b : Int) < V 0) (hs : (s : Int) < V 1) (hab : a ≠ b) : f11_offNow a b s hm = some (sGap (nV hc.2) a b s, hm) := by
  have v0 := hV.1
  have v1 := hV.2.1
  have q1 := hS.2.2.2.1 (6 * a + s) (by omega)
  have q2 := hS.2.2.2.1 (6 * b + s) (by omega)
  unfold f11_offNow sGap
  rw [w32_id (x := (6 * (a : Int) + s)) (by omega) (by omega), w32_id (x := (6 * (b : Int) + s)) (by omega) (by omega), show (6 * (a : Int) + s).toNat = 6 * a + s by omega, show (6 * (b : Int) + s).toNat = 6 * b + s by omega, asrt_t (by omega), asrt_t (by omega), asrt_t (by omega), asrt_t (by omega), sHeld_N hV hS ha hs, sHeld_N hV hS hb hs, ← q1.1, ← q2.1, m_off _ _ _ (by omega) (by omega), bnd_some, w32_id (x := hc.2 47 (6 * a + s)) (by omega) (by omega), w32_id (x := hc.2 47 (6 * b + s)) (by omega) (by omega), if_neg (c := (a : Int) = b) (by omega)]
  repeat' split
  all_goals first | omega | rfl
theorem or_lt256 {x y : Nat} (hx : x < 256) (hy : y < 256) : x ||| y < 256 := Nat.or_lt_two_pow (n := 8) hx hy
theorem or_lt16 {x y : Nat} (hx : x < 16) (hy : y < 16) : x ||| y < 16 := Nat.or_lt_two_pow (n := 4) hx hy
theorem pow_lt256 {k : Nat} (hk : k < 8) : 2 ^ k < 256 := by
  have : 2 ^ k < 2 ^ 8 := Nat.pow_lt_pow_right (by omega) hk
  omega
theorem pow_lt16 {k : Nat} (hk : k < 4) : 2 ^ k < 16 := by
  have : 2 ^ k < 2 ^ 4 := Nat.pow_lt_pow_right (by omega) hk
  omega
section Deeds
variable {V : Nat → Int} {hc hm : AH}
def Both (V : Nat → Int) (hc hm : AH) (A B : Option (Int × AH)) (x : Int → Nat → Int) : Prop := ∃ r hc1 hm1, A = some (r, hc1) ∧ B = some (r, hm1) ∧ (r = 0 ∨ r = 1) ∧ SR V hc1.2 hm1.2 ∧ SX hc hc1 (x r) ∧ KM hm hm1
def xQ (a b : Nat) (r : Int) (p : Nat) : Int := if r = 1 then (if p = a then 1 else 0) + (if p = b then 1 else 0) else 0
theorem Both.no {A B : Option (Int × AH)} {x : Int → Nat → Int} (hS : SR V hc.2 hm.2) (h1 : A = some (0, hc)) (h2 : B = some (0, hm)) (hx : ∀ p, p < 8 → x 0 p = 0) : Both V hc hm A B x := ⟨0, hc, hm, h1, h2, Or.inl rfl, hS, SX.rf hc hx, KM.rf hm⟩
theorem VC_same {c d : Nat → Nat → Int} {N : Nat → Int} (h : ∀ a k, 42 ≤ a → a ≤ 47 → d a k = c a k) (hc : VC c 42 N) : VC d 42 N := by
  obtain ⟨c0, c1, c2, c3, c4, c5, c6⟩ := hc
  exact ⟨(h _ _ (by omega) (by omega)).trans c0, (h _ _ (by omega) (by omega)).trans c1, (h _ _ (by omega) (by omega)).trans c2, (h _ _ (by omega) (by omega)).trans c3, fun s hs => ⟨(h _ _ (by omega) (by omega)).trans (c4 s hs).1, (h _ _ (by omega) (by omega)).trans (c4 s hs).2⟩, fun s hs => ⟨(h _ _ (by omega) (by omega)).trans (c5 s hs).1, (h _ _ (by omega) (by omega)).trans (c5 s hs).2⟩, fun q hq => (h _ _ (by omega) (by omega)).trans (c6 q hq)⟩
theorem s_fade {s : Nat} {w : AH} {N : Nat → Int} (hz : VOK0 N) (hw : VC w.2 42 N) (hs : (s : Int) < N 1) : f9_fade 42 s w = some (0, wr w 43 s (mx 0 (N (4 + 2 * s) - N (5 + 2 * s)))) := by
  have v1 := hz.2.1
  unfold f9_fade
  rw [z_hasS hz hw, bnd_some, w32_id (x := (s : Int)) (by omega) (by omega)]
  simp only [ite10_0]
  rw [if_neg (by omega), z_aft hz hw s 1 (by omega), bnd_some, asrt_t (by omega), lt_eq, Int.toNat_natCast]
  unfold sAft
  rw [w32_id (x := (s : Int)) (by omega) (by omega), if_pos (by omega), Int.toNat_natCast, Int.one_mul]
theorem bit_s1 {x k : Nat} (hx : x < 2147483648) (hk : k < 31) : (w32 (and32 (shr32 x k) 1) = 1) ↔ x.testBit k = true := by
  rw [bit_s hx hk]
  cases x.testBit k <;> decide
theorem m_does0 (hV : VOK V) (hm1 : VM hm.2 V) {a b s : Nat} {q : Int} (ha : a < 8) (hb : b < 8) (hs : s < 6) : f11_does 0 a b s q hm = if (a ≠ b ∧ (a : Int) < V 0 ∧ (b : Int) < V 0) ∧ (s : Int) < V 1 then bnd (f11_quarrels a b s q hm) (fun r h => asrt (w32 r = 0 ∨ w32 r = 1) (some (r, h))) else some (0, hm) := by
  unfold f11_does
  rw [if_pos (by decide), if_pos (by decide), m_two hV hm1, bnd_some, m_isS hV hm1, bnd_some, if_neg (c := ¬ w32 0 = 0) (by decide), w32_id (x := (a : Int)) (by omega) (by omega), w32_id (x := (b : Int)) (by omega) (by omega), w32_id (x := (s : Int)) (by omega) (by omega)]
  simp only [ite10_0]
  repeat' split
  all_goals first | omega | rfl
theorem m_does1 (hV : VOK V) (hm1 : VM hm.2 V) {a b s : Nat} {q : Int} (ha : a < 8) (hb : b < 8) (hs : s < 6) : f11_does 1 a b s q hm = if (a ≠ b ∧ (a : Int) < V 0 ∧ (b : Int) < V 0) ∧ (s : Int) < V 1 then bnd (f11_agrees a b s hm) (fun r h => asrt (w32 r = 0 ∨ w32 r = 1) (some (r, h))) else some (0, hm) := by
  unfold f11_does
  rw [w32_1, if_pos (by omega), if_pos (by omega), m_two hV hm1, bnd_some, m_isS hV hm1, bnd_some, if_pos (c := ¬ (1 : Int) = 0) (by omega), if_neg (c := ¬ (1 : Int) = 1) (by omega), w32_id (x := (a : Int)) (by omega) (by omega), w32_id (x := (b : Int)) (by omega) (by omega), w32_id (x := (s : Int)) (by omega) (by omega)]
  simp only [ite10_0]
  repeat' split
  all_goals first | omega | rfl
theorem m_does2 (hV : VOK V) (hm1 : VM hm.2 V) {a b s : Nat} {q : Int} (ha : a < 8) (hb : b < 8) (hs : s < 6) : f11_does 2 a b s q hm = if (a ≠ b ∧ (a : Int) < V 0 ∧ (b : Int) < V 0) ∧ (s : Int) < V 1 then bnd (f11_denies a b s hm) (fun r h => asrt (w32 r = 0 ∨ w32 r = 1) (some (r, h))) else some (0, hm) := by
  unfold f11_does
  rw [show w32 2 = 2 by decide, if_pos (by omega), if_pos (by omega), m_two hV hm1, bnd_some, m_isS hV hm1, bnd_some, if_pos (c := ¬ (2 : Int) = 0) (by omega), if_pos (c := ¬ (2 : Int) = 1) (by omega), w32_id (x := (a : Int)) (by omega) (by omega), w32_id (x := (b : Int)) (by omega) (by omega), w32_id (x := (s : Int)) (by omega) (by omega)]
  simp only [ite10_0]
  repeat' split
  all_goals first | omega | rfl
theorem m_q143 {a b : Int} {s : Nat} {u : AH} {t f : Int} (mf : f11_fadesOf (s : Int) u = some (f, u)) (u89 : u.2 89 s = t) (ht : 0 ≤ t) (ht9 : t ≤ 9) (hf : 1 ≤ f ∧ f ≤ 9) (hs : s < 6) : b11_quarrels_143 a b s u = some (1, wr (wr u 89 s (mx 0 (t - f))) 69 34 (or32 (u.2 69 34) (or32 (shl32 1 a) (shl32 1 b)))) := by
  unfold b11_quarrels_143
  rw [w32_id (x := (s : Int)) (by omega) (by omega), Int.toNat_natCast, u89, asrt_t (by omega), mf, bnd_some, w32_id (x := t) (by omega) (by omega), w32_id (x := f) (by omega) (by omega)]
  by_cases z : t ≤ f
  · have e : mx 0 (t - f) = 0 := by unfold mx; rw [if_neg (by omega)]
    rw [if_pos z, e]
    unfold b11_quarrels_178
    rw [w32_id (x := (s : Int)) (by omega) (by omega), Int.toNat_natCast, asrt_t (by omega), lt_eq, lt_eq, wr_e (by omega)]
  · have e : mx 0 (t - f) = t - f := by unfold mx; rw [if_pos (by omega)]
    rw [if_neg z, e, asrt_t (by omega), mf, bnd_some, u89]
    unfold b11_quarrels_178
    rw [w32_id (x := (s : Int)) (by omega) (by omega), Int.toNat_natCast, asrt_t (by omega), lt_eq, lt_eq, wr_e (by omega)]
theorem s_quar1 (hV : VOK V) (hS : SR V hc.2 hm.2) {a b s q : Nat} (ha : a < 8) (hb : b < 8) (hs : s < 6) (hq : q < 4) (c1s : (s : Int) < V 1) {x : Nat} {g : Int} (hx : hc.2 41 5 = x) (hx3 : x < 256) (w u : AH) (wy ww : Int) (w1 : ∀ i k, ¬ ((i = 41 ∧ (k = 4 ∨ k = 5 ∨ k = 6)) ∨ i = 48 ∨ i = 49) → w.2 i k = hc.2 i k) (w2 : w.1 = hc.1) (u1 : ∀ i k, ¬ ((i = 69 ∧ (k = 33 ∨ k = 35)) ∨ i = 88) → u.2 i k = hm.2 i k) (u2 : u.1 = hm.1) (k1 : w.2 41 4 = wy) (k2 : u.2 69 33 = wy) (k3 : 0 ≤ wy) (k4 : wy < 16) (k5 : w.2 41 5 = ((x ||| (2 ^ a ||| 2 ^ b) : Nat) : Int)) (k6 : w.2 41 6 = hc.2 41 6 + g * hc.2 43 s) (k7 : u.2 69 35 = hm.2 69 35 + g * hc.2 43 s) (k8 : ∀ i, i < 4 → i ≠ q → w.2 48 i = hc.2 48 i ∧ u.2 88 i = hm.2 88 i) (k9 : w.2 48 q = ww) (k10 : u.2 88 q = ww) (k11 : 0 ≤ ww) (k12 : ww ≤ 99) (k13 : ∀ p, p < 8 → w.2 49 p = hc.2 49 p + xQ a b 1 p) : Both V hc hm (b7_letQuarrel_171 s w) (bnd (b11_quarrels_143 a b s u) (fun r h => asrt (w32 r = 0 ∨ w32 r = 1) (some (r, h)))) (xQ a b) := by
  have v0 := hV.1
  have v1 := hV.2.1
  have v2 := hV.2.2.1
  obtain ⟨n1, n2, e0, e1, e2⟩ := hS.vc hV
  obtain ⟨S1, S2, S3, S4, S5, S6, S7, S8, S9, S10⟩ := id hS
  have tS := S2 s c1s
  have hx2 : hm.2 69 34 = x := by omega
  have bp := pow_lt31 (k := a) (by omega)
  have bq := pow_lt31 (k := b) (by omega)
  have or1 : or32 (x : Int) (or32 (shl32 1 a) (shl32 1 b)) = ((x ||| (2 ^ a ||| 2 ^ b) : Nat) : Int) := by
    rw [shl32_1 (by omega), shl32_1 (by omega), or32_nat bp bq, or32_nat (by omega) (or_lt31 bp bq)]
  have or3 := or_lt256 hx3 (or_lt256 (pow_lt256 ha) (pow_lt256 hb))
  have nf : nV hc.2 (5 + 2 * s) = V (5 + 2 * s) := by rw [nV_f hs]; exact tS.1
  have nt : nV hc.2 (4 + 2 * s) = hc.2 43 s := nV_t hs
  have vf := (hV.2.2.2.2.1 s c1s).2
  have mw : VM u.2 V := by
    obtain ⟨o, m0, m1, m2, m3, m4, m5⟩ := S10
    exact ⟨o, m0, (u1 _ _ (by omega)).trans m1, (u1 _ _ (by omega)).trans m2, (u1 _ _ (by omega)).trans m3, (u1 _ _ (by omega)).trans m4, fun j hj => (u1 _ _ (by omega)).trans (m5 j hj)⟩
  have mf := m_fades mw s (by omega)
  rw [Int.toNat_natCast] at mf
  have u89 : u.2 89 s = hc.2 43 s := (u1 _ _ (by omega)).trans tS.2.1.symm
  have u34 : u.2 69 34 = x := (u1 _ _ (by omega)).trans hx2
  refine ⟨1, wr w 43 s (mx 0 (hc.2 43 s - V (5 + 2 * s))), wr (wr u 89 s (mx 0 (hc.2 43 s - V (5 + 2 * s)))) 69 34 ((x ||| (2 ^ a ||| 2 ^ b) : Nat) : Int), ?_, ?_, Or.inr rfl, ?_, ?_, ?_⟩
  · unfold b7_letQuarrel_171
    rw [s_fade n2 (VC_same (fun i k p1 p2 => w1 i k (by omega)) n1) (by omega), bnd_some, nt, nf]
  · rw [m_q143 mf u89 (by omega) (by omega) (by omega) (by omega), u34, or1, bnd_some, asrt_t (Or.inr w32_1)]
  · have rm : 0 ≤ mx 0 (hc.2 43 s - V (5 + 2 * s)) ∧ mx 0 (hc.2 43 s - V (5 + 2 * s)) ≤ 9 := mx0_rng (by omega) (by omega)
    refine ⟨?_, fun i hi => ?_, fun i hi => ?_, fun i hi => ?_, fun i hi => ?_, ?_, ?_, ?_, ?_, ?_⟩
    · simp (disch := omega) only [wr_e, w1]; exact S1
    · simp (disch := omega) only [wr_e, w1]
      refine ⟨(S2 i hi).1, ?_⟩
      by_cases z : i = s
      · subst z
        simp (disch := omega) only [wr_e, wr_at]
        exact ⟨trivial, rm⟩
      · simp (disch := omega) only [wr_e, w1, u1]
        exact (S2 i hi).2
    · simp (disch := omega) only [wr_e, w1]; exact S3 i hi
    · simp (disch := omega) only [wr_e, w1, u1]; exact S4 i hi
    · simp (disch := omega) only [wr_e]
      by_cases z : i = q
      · subst z; omega
      · rw [(k8 i hi z).1, (k8 i hi z).2]; exact S5 i hi
    · simp (disch := omega) only [wr_e, w1, u1]; exact S6
    · simp (disch := omega) only [wr_e]; omega
    · simp (disch := omega) only [wr_e, wr_at]; omega
    · simp (disch := omega) only [wr_e]; omega
    · obtain ⟨o, m0, m1, m2, m3, m4, m5⟩ := mw
      exact ⟨o, m0, by simp (disch := omega) only [wr_e]; exact m1, by simp (disch := omega) only [wr_e]; exact m2, by simp (disch := omega) only [wr_e]; exact m3, by simp (disch := omega) only [wr_e]; exact m4, fun j hj => by simp (disch := omega) only [wr_e]; exact m5 j hj⟩
  · refine ⟨⟨w2, fun i k hk => ?_⟩, fun k hk => ?_, fun p hp => ?_⟩
    · simp (disch := omega) only [wr_e, w1]
    · simp (disch := omega) only [wr_e, w1]
    · simp (disch := omega) only [wr_e]; exact k13 p hp
  · refine ⟨u2, fun i k hk => ?_⟩
    simp (disch := omega) only [wr_e, u1]
def qW (hc : AH) (X v : Int) (a b q : Nat) : AH := wr (wr (wr (wr (wr hc 41 5 X) 49 a (hc.2 49 a + 1)) 49 b (hc.2 49 b + 1)) 41 6 (hc.2 41 6 + v)) 48 q (hc.2 48 q + v)
def qU (hm : AH) (v : Int) (q : Nat) : AH := wr (wr hm 69 35 (hm.2 69 35 + v)) 88 q (hm.2 88 q + v)
theorem VM_same {c d : Nat → Nat → Int} (h1 : ∀ k, 12 ≤ k → k ≤ 15 → d 69 k = c 69 k) (h2 : ∀ k, d 70 k = c 70 k) (h : VM c V) : VM d V := by
  obtain ⟨o, m0, m1, m2, m3, m4, m5⟩ := h
  exact ⟨o, m0, (h1 _ (by omega) (by omega)).trans m1, (h1 _ (by omega) (by omega)).trans m2, (h1 _ (by omega) (by omega)).trans m3, (h1 _ (by omega) (by omega)).trans m4, fun j hj => (h2 _).trans (m5 j hj)⟩
theorem s_quar (hV : VOK V) (hS : SR V hc.2 hm.2) {a b s q : Nat} (ha : a < 8) (hb : b < 8) (hs : s < 6) (hq : q < 4) : Both V hc hm (f7_letQuarrel a b s q hc) (f11_does 0 a b s q hm) (xQ a b) := by
  have v0 := hV.1
  have v1 := hV.2.1
  have v2 := hV.2.2.1
  obtain ⟨n1, n2, e0, e1, e2⟩ := hS.vc hV
  obtain ⟨S1, S2, S3, S4, S5, S6, S7, S8, S9, S10⟩ := id hS
  have hx0 : ∀ p, p < 8 → xQ a b 0 p = 0 := fun p _ => rfl
  have hb1 := zBurn_rng n2 a b s
  have hg1 := zGap_rng n2 a b s
  rw [m_does0 hV S10 ha hb hs]
  by_cases c1 : (a ≠ b ∧ (a : Int) < V 0 ∧ (b : Int) < V 0) ∧ (s : Int) < V 1
  · rw [if_pos c1]
    have tS := S2 s c1.2
    have gh : sHeat (nV hc.2) s = hc.2 43 s := by unfold sHeat; rw [if_pos (by omega), Int.toNat_natCast, nV_t (by omega)]
    have eo := m_offNow hV hS c1.1.2.1 c1.1.2.2 c1.2 c1.1.1
    have hbu : sBurn (nV hc.2) a b s = mx 0 (sGap (nV hc.2) a b s) * hc.2 43 s := by unfold sBurn; rw [gh]
    obtain ⟨x, hx⟩ : ∃ x : Nat, hc.2 41 5 = x := ⟨(hc.2 41 5).toNat, by omega⟩
    obtain ⟨y, hy⟩ : ∃ y : Nat, hc.2 41 4 = y := ⟨(hc.2 41 4).toNat, by omega⟩
    have hx2 : hm.2 69 34 = x := by omega
    have hy2 : hm.2 69 33 = y := by omega
    have hx3 : x < 256 := by omega
    have hy3 : y < 16 := by omega
    have zb := z_burn n2 n1 a b s
    have zC := z_hasC n2 n1 a b
    have zH := z_hasH n2 n1 q
    rw [w32_id (x := (a : Int)) (by omega) (by omega), w32_id (x := (b : Int)) (by omega) (by omega), w32_id (x := (s : Int)) (by omega) (by omega)] at zb
    rw [w32_id (x := (a : Int)) (by omega) (by omega), w32_id (x := (b : Int)) (by omega) (by omega)] at zC
    rw [w32_id (x := (q : Int)) (by omega) (by omega)] at zH
    rw [e0] at zC
    rw [e2] at zH
    generalize sGap (nV hc.2) a b s = g at *
    by_cases c2 : 0 < g ∧ hc.2 43 s ≠ 0 ∧ (q : Int) < V 2 ∧ (x.testBit a = false ∧ x.testBit b = false) ∧ y.testBit q = false
    · have bpos : sBurn (nV hc.2) a b s = g * hc.2 43 s := by rw [hbu]; unfold mx; rw [if_pos c2.1]
      have bne : sBurn (nV hc.2) a b s ≠ 0 := by
        rw [bpos]
        have := Int.mul_pos c2.1 (show 0 < hc.2 43 s by omega)
        omega
      have sq := S3 q c2.2.2.1
      have s5 := S5 q hq
      have cq := m_cracks S10 q (by omega)
      have vq := hV.2.2.2.2.2.1 q c2.2.2.1
      rw [Int.toNat_natCast] at cq
      have bp := pow_lt31 (k := a) (by omega)
      have bq := pow_lt31 (k := b) (by omega)
      have br := pow_lt31 (k := q) (by omega)
      have or1 : or32 (x : Int) (or32 (shl32 1 a) (shl32 1 b)) = ((x ||| (2 ^ a ||| 2 ^ b) : Nat) : Int) := by
        rw [shl32_1 (by omega), shl32_1 (by omega), or32_nat bp bq, or32_nat (by omega) (or_lt31 bp bq)]
      have or2 : or32 (y : Int) (shl32 1 q) = ((y ||| 2 ^ q : Nat) : Int) := by
        rw [shl32_1 (by omega), or32_nat (by omega) br]
      have or3 := or_lt256 hx3 (or_lt256 (pow_lt256 ha) (pow_lt256 hb))
      have or4 := or_lt16 hy3 (pow_lt16 hq)
      have A1 : f7_letQuarrel a b s q hc = if hc.2 48 q + g * hc.2 43 s ≤ V (17 + 2 * q) then b7_letQuarrel_171 s (qW hc ((x ||| (2 ^ a ||| 2 ^ b) : Nat) : Int) (g * hc.2 43 s) a b q) else b7_letQuarrel_171 s (wr (wr (qW hc ((x ||| (2 ^ a ||| 2 ^ b) : Nat) : Int) (g * hc.2 43 s) a b q) 41 4 ((y ||| 2 ^ q : Nat) : Int)) 48 q 0) := by
        unfold f7_letQuarrel
        rw [zb, bnd_some, zC, bnd_some, zH, bnd_some, lt_eq, hx, hy, w32_id (x := sBurn (nV hc.2) a b s) (by omega) (by omega)]
        simp only [ite10_0]
        rw [if_neg bne, if_neg (by omega), if_pos (by omega), if_neg (fun w => w ((bit_ab (by omega) (by omega) (by omega)).mpr c2.2.2.2.1)), if_pos ((bit_a (by omega) (by omega)).mpr c2.2.2.2.2), or1, bpos]
        rw [w32_id (x := (a : Int)) (by omega) (by omega), w32_id (x := (b : Int)) (by omega) (by omega), w32_id (x := (q : Int)) (by omega) (by omega), lt_eq, asrt_t (by omega), asrt_t (by omega), lt_eq, asrt_t (by omega), asrt_t (by omega), lt_eq, lt_eq, asrt_t (by omega), asrt_t (by omega), lt_eq, asrt_t (by omega), asrt_t (by omega)]
        rw [Int.toNat_natCast, Int.toNat_natCast, Int.toNat_natCast, lt_eq, asrt_t (by omega), lt_eq]
        simp (disch := omega) only [wr_e, wr_at, hy, or2, sq.2]
        rw [w32_id (x := (hc.2 48 q + g * hc.2 43 s)) (by omega) (by omega), w32_id (x := V (17 + 2 * q)) (by omega) (by omega)]
        rfl
      have B1 : f11_quarrels a b s q hm = if hc.2 48 q + g * hc.2 43 s ≤ V (17 + 2 * q) then b11_quarrels_143 a b s (qU hm (g * hc.2 43 s) q) else b11_quarrels_143 a b s (wr (wr (qU hm (g * hc.2 43 s) q) 88 q 0) 69 33 ((y ||| 2 ^ q : Nat) : Int)) := by
        unfold f11_quarrels
        rw [vm_H S10, hy2, eo, bnd_some, hx2, w32_id (x := g) (by omega) (by omega), w32_id (x := (q : Int)) (by omega) (by omega), w32_id (x := V 2) (by omega) (by omega), w32_id (x := (s : Int)) (by omega) (by omega), Int.toNat_natCast, Int.toNat_natCast, ← tS.2.1, w32_id (x := hc.2 43 s) (by omega) (by omega), asrt_t (by omega)]
        rw [if_neg (by omega), if_neg (fun w => by rw [(bit_s1 (by omega) (by omega)).mp w] at c2; simp at c2), if_neg (by omega), if_neg (by omega), if_neg (fun w => by rw [(bit_s1 (by omega) (by omega)).mp w] at c2; simp at c2), if_pos (fun w => by rw [(bit_s1 (by omega) (by omega)).mp w] at c2; simp at c2)]
        rw [eo, bnd_some, asrt_t (by omega), lt_eq, lt_eq, asrt_t (by omega), asrt_t (by omega), lt_eq, asrt_t (by omega), ← tS.2.1]
        have mw : VM (qU hm (g * hc.2 43 s) q).2 V := VM_same (fun k p1 p2 => by unfold qU; simp (disch := omega) only [wr_e]) (fun k => by unfold qU; simp (disch := omega) only [wr_e]) S10
        have mc := m_cracks mw q (by omega)
        rw [Int.toNat_natCast] at mc
        have eq1 : wr (wr hm 69 35 (hm.2 69 35 + g * hc.2 43 s)) 88 q ((wr hm 69 35 (hm.2 69 35 + g * hc.2 43 s)).2 88 q + g * hc.2 43 s) = qU hm (g * hc.2 43 s) q := by
          rw [wr_e (by omega)]; rfl
        have eq2 : (qU hm (g * hc.2 43 s) q).2 88 q = hc.2 48 q + g * hc.2 43 s := by unfold qU; rw [wr_at, s5.1]
        have eq3 : (wr (qU hm (g * hc.2 43 s) q) 88 q 0).2 69 33 = y := by unfold qU; simp (disch := omega) only [wr_e]; exact hy2
        rw [eq1, mc, bnd_some, eq2, asrt_t (by omega), lt_eq, lt_eq, eq3, or2, w32_id (x := (hc.2 48 q + g * hc.2 43 s)) (by omega) (by omega), w32_id (x := V (17 + 2 * q)) (by omega) (by omega)]
      have xq : ∀ p, p < 8 → (qW hc ((x ||| (2 ^ a ||| 2 ^ b) : Nat) : Int) (g * hc.2 43 s) a b q).2 49 p = hc.2 49 p + xQ a b 1 p := by
        intro p hp
        unfold qW xQ
        rw [if_pos rfl]
        by_cases z1 : p = a
        · rw [if_pos z1, if_neg (by omega)]
          subst z1
          simp (disch := omega) only [wr_e, wr_at]
          omega
        · by_cases z2 : p = b
          · rw [if_neg z1, if_pos z2]
            subst z2
            simp (disch := omega) only [wr_e, wr_at]
            omega
          · rw [if_neg z1, if_neg z2]
            simp (disch := omega) only [wr_e, wr_at]
            omega
      rw [A1, B1]
      by_cases c5 : hc.2 48 q + g * hc.2 43 s ≤ V (17 + 2 * q)
      · rw [if_pos c5, if_pos c5]
        refine s_quar1 hV hS ha hb hs hq c1.2 hx hx3 (g := g) _ _ y (hc.2 48 q + g * hc.2 43 s) (fun i k z => ?_) rfl (fun i k z => ?_) rfl ?_ ?_ (by omega) (by omega) ?_ ?_ ?_ (fun i hi z => ⟨?_, ?_⟩) ?_ ?_ (by omega) (by omega) xq
        · unfold qW; simp (disch := omega) only [wr_e]
        · unfold qU; simp (disch := omega) only [wr_e]
        · unfold qW; simp (disch := omega) only [wr_e]; exact hy
        · unfold qU; simp (disch := omega) only [wr_e]; exact hy2
        · unfold qW; simp (disch := omega) only [wr_e, wr_at]
        · unfold qW; simp (disch := omega) only [wr_e, wr_at]
        · unfold qU; simp (disch := omega) only [wr_e, wr_at]
        · unfold qW; simp (disch := omega) only [wr_e]
        · unfold qU; simp (disch := omega) only [wr_e]
        · unfold qW; rw [wr_at]
        · unfold qU; rw [wr_at, s5.1]
      · rw [if_neg c5, if_neg c5]
        refine s_quar1 hV hS ha hb hs hq c1.2 hx hx3 (g := g) _ _ ((y ||| 2 ^ q : Nat) : Int) 0 (fun i k z => ?_) rfl (fun i k z => ?_) rfl ?_ ?_ (by omega) (by omega) ?_ ?_ ?_ (fun i hi z => ⟨?_, ?_⟩) ?_ ?_ (by omega) (by omega) (fun p hp => ?_)
        · unfold qW; simp (disch := omega) only [wr_e]
        · unfold qU; simp (disch := omega) only [wr_e]
        · simp (disch := omega) only [wr_e, wr_at]
        · simp (disch := omega) only [wr_e, wr_at]
        · unfold qW; simp (disch := omega) only [wr_e, wr_at]
        · unfold qW; simp (disch := omega) only [wr_e, wr_at]
        · unfold qU; simp (disch := omega) only [wr_e, wr_at]
        · unfold qW; simp (disch := omega) only [wr_e]
        · unfold qU; simp (disch := omega) only [wr_e]
        · rw [wr_at]
        · simp (disch := omega) only [wr_e, wr_at]
        · simp (disch := omega) only [wr_e]; exact xq p hp
    · refine Both.no hS ?_ ?_ hx0
      · unfold f7_letQuarrel
        rw [zb, bnd_some, zC, bnd_some, zH, bnd_some, lt_eq, hx, hy, w32_id (x := sBurn (nV hc.2) a b s) (by omega) (by omega)]
        simp only [ite10_0]
        by_cases d1 : 0 < g ∧ hc.2 43 s ≠ 0
        · have bne : sBurn (nV hc.2) a b s ≠ 0 := by
            rw [hbu]
            unfold mx
            rw [if_pos d1.1]
            have := Int.mul_pos d1.1 (show 0 < hc.2 43 s by omega)
            omega
          rw [if_neg bne, if_neg (by omega)]
          by_cases d2 : (q : Int) < V 2
          · rw [if_pos (by omega)]
            by_cases d3 : x.testBit a = false ∧ x.testBit b = false
            · rw [if_neg (fun w => w ((bit_ab (by omega) (by omega) (by omega)).mpr d3)), if_neg (fun w => c2 ⟨d1.1, d1.2, d2, d3, (bit_a (by omega) (by omega)).mp w⟩)]
            · rw [if_pos (fun w => d3 ((bit_ab (by omega) (by omega) (by omega)).mp w))]
          · rw [if_neg (by omega)]
        · rw [if_pos]
          rw [hbu]
          unfold mx
          split
          · rw [show hc.2 43 s = 0 by omega, Int.mul_zero]
          · rw [Int.zero_mul]
      · unfold f11_quarrels
        rw [vm_H S10, hy2, eo, bnd_some, hx2, w32_id (x := g) (by omega) (by omega), w32_id (x := (q : Int)) (by omega) (by omega), w32_id (x := V 2) (by omega) (by omega), w32_id (x := (s : Int)) (by omega) (by omega), Int.toNat_natCast, ← tS.2.1, w32_id (x := hc.2 43 s) (by omega) (by omega), asrt_t (by omega)]
        by_cases d2 : (q : Int) < V 2
        · rw [if_neg (by omega)]
          by_cases d4 : y.testBit q = true
          · rw [if_pos ((bit_s1 (by omega) (by omega)).mpr d4)]; rfl
          · rw [if_neg (fun w => d4 ((bit_s1 (by omega) (by omega)).mp w))]
            by_cases d1 : 0 < g ∧ hc.2 43 s ≠ 0
            · rw [if_neg (by omega), if_neg (by omega)]
              by_cases d5 : x.testBit a = true
              · rw [if_pos ((bit_s1 (by omega) (by omega)).mpr d5)]; rfl
              · rw [if_neg (fun w => d5 ((bit_s1 (by omega) (by omega)).mp w))]
                by_cases d6 : x.testBit b = true
                · rw [if_neg (fun w => w ((bit_s1 (by omega) (by omega)).mpr d6))]; rfl
                · exact absurd ⟨d1.1, d1.2, d2, ⟨by simpa using d5, by simpa using d6⟩, by simpa using d4⟩ c2
            · by_cases d7 : g ≤ 0
              · rw [if_pos d7]; rfl
              · rw [if_neg d7, if_pos (by omega)]; rfl
        · rw [if_pos (by omega)]; rfl
  · rw [if_neg c1]
    refine Both.no hS ?_ rfl hx0
    unfold f7_letQuarrel
    rw [z_burn n2 n1, bnd_some, w32_id (x := (a : Int)) (by omega) (by omega), w32_id (x := (b : Int)) (by omega) (by omega), w32_id (x := (s : Int)) (by omega) (by omega), sBurn_no (by omega), if_pos (by decide)]
theorem s_hold {w : AH} {a s : Nat} {x : Int} (ha : a < 8) (hs : s < 6) : f9_hold 42 a s x w = some (0, wr w 47 (6 * a + s) x) := by
  unfold f9_hold
  rw [w32_id (x := (a : Int)) (by omega) (by omega), w32_id (x := (s : Int)) (by omega) (by omega), w32_id (x := ((a : Int) * 6 + s)) (by omega) (by omega), if_neg (by omega), if_neg (by omega), if_neg (by omega), if_neg (by omega), asrt_t (by omega), lt_eq, show ((a : Int) * 6 + s).toNat = 6 * a + s by omega]
/-- held alone is changed, alike on both sides -/
theorem SR_held (hS : SR V hc.2 hm.2) {w u : AH} (w1 : ∀ i k, i ≠ 47 → w.2 i k = hc.2 i k) (u1 : ∀ i k, i ≠ 90 → u.2 i k = hm.2 i k) (h47 : ∀ q : Nat, q < 48 → w.2 47 q = u.2 90 q ∧ -1 ≤ w.2 47 q ∧ w.2 47 q ≤ 9) : SR V w.2 u.2 := by
  obtain ⟨S1, S2, S3, S4, S5, S6, S7, S8, S9, S10⟩ := hS
  refine ⟨?_, fun i hi => ?_, fun i hi => ?_, h47, fun i hi => ?_, ?_, ?_, ?_, ?_, ?_⟩
  · rw [w1 42 0 (by omega), w1 42 1 (by omega), w1 42 2 (by omega), w1 42 3 (by omega)]; exact S1
  · rw [w1 44 i (by omega), w1 43 i (by omega), u1 89 i (by omega)]; exact S2 i hi
  · rw [w1 45 i (by omega), w1 46 i (by omega)]; exact S3 i hi
  · rw [w1 48 i (by omega), u1 88 i (by omega)]; exact S5 i hi
  · rw [w1 41 3 (by omega), u1 69 32 (by omega)]; exact S6
  · rw [w1 41 4 (by omega), u1 69 33 (by omega)]; exact S7
  · rw [w1 41 5 (by omega), u1 69 34 (by omega)]; exact S8
  · rw [w1 41 6 (by omega), u1 69 35 (by omega)]; exact S9
  · exact VM_same (fun k _ _ => u1 69 k (by omega)) (fun k => u1 70 k (by omega)) S10
theorem dv2 {x : Int} (h0 : 0 ≤ x) (h1 : x < 2147483648) : dv32 x 2 = x / 2 := by
  unfold dv32
  rw [w32_id (by omega) h1, show w32 2 = 2 by decide, Int.tdiv_eq_ediv_of_nonneg h0]
theorem s_agree (hV : VOK V) (hS : SR V hc.2 hm.2) {a b s : Nat} {q : Int} (ha : a < 8) (hb : b < 8) (hs : s < 6) : Both V hc hm (f9_agreeOn 42 a b s hc) (f11_does 1 a b s q hm) (fun _ _ => 0) := by
  have v0 := hV.1
  have v1 := hV.2.1
  obtain ⟨n1, n2, e0, e1, e2⟩ := hS.vc hV
  have S10 : VM hm.2 V := hS.2.2.2.2.2.2.2.2.2
  have S4 := hS.2.2.2.1
  have hg1 := zGap_rng n2 a b s
  rw [m_does1 hV S10 ha hb hs]
  unfold f9_agreeOn
  rw [z_gap n2 n1, bnd_some, w32_id (x := (a : Int)) (by omega) (by omega), w32_id (x := (b : Int)) (by omega) (by omega), w32_id (x := (s : Int)) (by omega) (by omega), w32_id (x := sGap (nV hc.2) a b s) (by omega) (by omega)]
  by_cases c1 : (a ≠ b ∧ (a : Int) < V 0 ∧ (b : Int) < V 0) ∧ (s : Int) < V 1
  · rw [if_pos c1]
    unfold f11_agrees
    rw [m_offNow hV hS c1.1.2.1 c1.1.2.2 c1.2 c1.1.1, bnd_some, w32_id (x := sGap (nV hc.2) a b s) (by omega) (by omega)]
    by_cases c2 : sGap (nV hc.2) a b s = -1
    · rw [if_neg (fun w => w c2), if_neg (fun w => w c2)]
      exact Both.no hS rfl (by rw [bnd_some, asrt_t (Or.inl w32_0)]) (fun _ _ => rfl)
    · rw [if_pos c2, if_pos c2]
      have z1 := z_held n2 n1 a s
      have z2 := z_held n2 n1 b s
      rw [w32_id (x := (a : Int)) (by omega) (by omega), w32_id (x := (s : Int)) (by omega) (by omega), sHeld_N hV hS c1.1.2.1 c1.2] at z1
      rw [w32_id (x := (b : Int)) (by omega) (by omega), w32_id (x := (s : Int)) (by omega) (by omega), sHeld_N hV hS c1.1.2.2 c1.2] at z2
      have i1 := S4 (6 * a + s) (by omega)
      have i2 := S4 (6 * b + s) (by omega)
      have p1 : hc.2 47 (6 * a + s) ≠ -1 ∧ hc.2 47 (6 * b + s) ≠ -1 := by
        unfold sGap at c2
        rw [sHeld_N hV hS c1.1.2.1 c1.2, sHeld_N hV hS c1.1.2.2 c1.2] at c2
        split at c2
        · omega
        · split at c2 <;> omega
      rw [z1, bnd_some, z2, bnd_some, lt_eq, s_hold ha hs, bnd_some, s_hold hb hs, bnd_some]
      rw [w32_id (x := (6 * (a : Int) + s)) (by omega) (by omega), w32_id (x := (6 * (b : Int) + s)) (by omega) (by omega), show (6 * (a : Int) + s).toNat = 6 * a + s by omega, show (6 * (b : Int) + s).toNat = 6 * b + s by omega, asrt_t (by omega), asrt_t (by omega), lt_eq, asrt_t (by omega), lt_eq, asrt_t (by omega), lt_eq, bnd_some, asrt_t (Or.inr w32_1), ← i1.1, ← i2.1, dv2 (by omega) (by omega)]
      refine ⟨1, _, _, rfl, rfl, Or.inr rfl, ?_, ⟨⟨rfl, fun i k hk => ?_⟩, fun k hk => ?_, fun p hp => ?_⟩, ⟨rfl, fun i k hk => ?_⟩⟩
      · refine SR_held hS (fun i k hi => ?_) (fun i k hi => ?_) (fun j hj => ?_)
        · simp (disch := omega) only [wr_e]
        · simp (disch := omega) only [wr_e]
        · by_cases y1 : j = 6 * b + s
          · subst y1; rw [wr_at, wr_at]; omega
          · by_cases y2 : j = 6 * a + s
            · subst y2; simp (disch := omega) only [wr_e, wr_at, true_and]; omega
            · rw [wr_e (by omega), wr_e (by omega), wr_e (by omega), wr_e (by omega)]; exact S4 j hj
      · simp (disch := omega) only [wr_e]
      · simp (disch := omega) only [wr_e]
      · simp (disch := omega) only [wr_e, Int.add_zero]
      · simp (disch := omega) only [wr_e]
  · rw [if_neg c1, sGap_no (by omega), if_neg (fun w => w rfl)]
    exact Both.no hS rfl rfl (fun _ _ => rfl)
theorem s_deny (hV : VOK V) (hS : SR V hc.2 hm.2) {a b s : Nat} {q : Int} (ha : a < 8) (hb : b < 8) (hs : s < 6) : Both V hc hm (f7_letDeny a b s hc) (f11_does 2 a b s q hm) (fun _ _ => 0) := by
  have v0 := hV.1
  have v1 := hV.2.1
  obtain ⟨n1, n2, e0, e1, e2⟩ := hS.vc hV
  have S10 : VM hm.2 V := hS.2.2.2.2.2.2.2.2.2
  have S4 := hS.2.2.2.1
  have hg1 := zHeld_rng n2 b s
  rw [m_does2 hV S10 ha hb hs]
  unfold f7_letDeny
  rw [z_held n2 n1, bnd_some, z_hasC n2 n1, bnd_some, w32_id (x := (a : Int)) (by omega) (by omega), w32_id (x := (b : Int)) (by omega) (by omega), w32_id (x := (s : Int)) (by omega) (by omega), e0, w32_id (x := sHeld (nV hc.2) b s) (by omega) (by omega)]
  simp only [ite10_0]
  by_cases c1 : (a ≠ b ∧ (a : Int) < V 0 ∧ (b : Int) < V 0) ∧ (s : Int) < V 1
  · rw [if_pos c1, sHeld_N hV hS c1.1.2.2 c1.2]
    have i2 := S4 (6 * b + s) (by omega)
    unfold f11_denies
    rw [w32_id (x := (6 * (a : Int) + s)) (by omega) (by omega), w32_id (x := (6 * (b : Int) + s)) (by omega) (by omega), show (6 * (a : Int) + s).toNat = 6 * a + s by omega, show (6 * (b : Int) + s).toNat = 6 * b + s by omega, asrt_t (by omega), asrt_t (by omega), asrt_t (by omega), lt_eq, ← i2.1, w32_id (x := hc.2 47 (6 * b + s)) (by omega) (by omega)]
    by_cases c2 : hc.2 47 (6 * b + s) = -1
    · rw [if_pos c2, if_neg (fun w => w c2)]
      exact Both.no hS rfl (by rw [bnd_some, asrt_t (Or.inl w32_0)]) (fun _ _ => rfl)
    · rw [if_neg c2, if_pos c2, if_pos (by omega), s_hold ha hs, bnd_some, bnd_some, asrt_t (Or.inr w32_1)]
      refine ⟨1, _, _, rfl, rfl, Or.inr rfl, ?_, ⟨⟨rfl, fun i k hk => ?_⟩, fun k hk => ?_, fun p hp => ?_⟩, ⟨rfl, fun i k hk => ?_⟩⟩
      · refine SR_held hS (fun i k hi => ?_) (fun i k hi => ?_) (fun j hj => ?_)
        · simp (disch := omega) only [wr_e]
        · simp (disch := omega) only [wr_e]
        · by_cases y2 : j = 6 * a + s
          · subst y2; rw [wr_at, wr_at]; omega
          · rw [wr_e (by omega), wr_e (by omega)]; exact S4 j hj
      · simp (disch := omega) only [wr_e]
      · simp (disch := omega) only [wr_e]
      · simp (disch := omega) only [wr_e, Int.add_zero]
      · simp (disch := omega) only [wr_e]
  · rw [if_neg c1]
    refine Both.no hS ?_ rfl (fun _ _ => rfl)
    by_cases c3 : sHeld (nV hc.2) b s = -1
    · rw [if_pos c3]
    · rw [if_neg c3]
      have : (b : Int) < V 0 ∧ (s : Int) < V 1 := by
        unfold sHeld at c3
        split at c3
        · omega
        · omega
      rw [if_neg (by omega)]
end Deeds
