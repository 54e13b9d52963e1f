/-! the scene of the class and that of the model, side by side -/
theorem cpy_2 (h : AH) (a0 a sp dp n b j : Nat) : (cpy h a0 a sp dp n).2 b j = if b = a ∧ dp ≤ j ∧ j < dp + n then h.2 a0 (sp + (j - dp)) else h.2 b j := rfl
theorem cpy_e {h : AH} {a0 a sp dp n b j : Nat} (q : ¬ (b = a ∧ dp ≤ j ∧ j < dp + n)) : (cpy h a0 a sp dp n).2 b j = h.2 b j := by rw [cpy_2, if_neg q]
theorem cpy_0 {h : AH} {a0 a n j : Nat} (q : j < n) : (cpy h a0 a 0 0 n).2 a j = h.2 a0 j := by rw [cpy_2, if_pos (by omega), Nat.zero_add, Nat.sub_zero]
def fil (h : AH) (a : Nat) (x : Int) (n : Nat) : AH := (h.1, fun b j => if b = a ∧ j < n then x else h.2 b j)
theorem fil_2 (h : AH) (a : Nat) (x : Int) (n b j : Nat) : (fil h a x n).2 b j = if b = a ∧ j < n then x else h.2 b j := rfl
theorem fil_e {h : AH} {a n b j : Nat} {x : Int} (q : ¬ (b = a ∧ j < n)) : (fil h a x n).2 b j = h.2 b j := by rw [fil_2, if_neg q]
theorem fil_i {h : AH} {a n j : Nat} {x : Int} (q : j < n) : (fil h a x n).2 a j = x := by rw [fil_2, if_pos ⟨rfl, q⟩]
theorem fil_0 (h : AH) (a : Nat) (x : Int) : fil h a x 0 = h := Prod.ext rfl (by funext b j; rw [fil_2, if_neg (by omega)])
theorem fil_s (h : AH) (a : Nat) (x : Int) (n : Nat) : wr (fil h a x n) a n x = fil h a x (n + 1) := Prod.ext rfl (by
  funext b j
  rw [wr_2, fil_2, fil_2]
  repeat' split
  all_goals first | rfl | omega)
theorem c_fill (a n : Nat) (x : Int) (h : AH) (hn : (shp a).2 = n) (hN : n < 1000000) : f12_fill a x h = some (0, fil h a x n) := by
  unfold f12_fill l12_fill_5
  rw [hn]
  have key := fx_run (F := fun rec z => b12_fill_5 rec a x (n : Int) z.1 z.2) (X := some (0, fil h a x n)) (fun i => ((i : Int), fil h a x i)) n (fun i hi rec => ?_) (fun rec => ?_) (n := FU) (FU_big (by omega))
  · simp only [fil_0] at key
    exact key
  · unfold b12_fill_5
    dsimp only
    rw [w32_id (x := (n : Int)) (by omega) (by omega), w32_id (x := (i : Int)) (by omega) (by omega), if_neg (by omega), hn, asrt_t (by omega), lt_eq, Int.toNat_natCast, fil_s]
    rfl
  · unfold b12_fill_5
    dsimp only
    rw [if_pos (by omega)]
theorem c_copyV (x0 x1 : Nat) (hd : x0 + 5 < x1 ∨ x1 + 5 < x0) (h : AH) : ∃ h', f9_copy x0 x1 h = some (0, h') ∧ (h'.1 = h.1 ∧ ∀ a k, (a < x0 ∨ x0 + 5 < a) → h'.2 a k = h.2 a k) ∧ (∀ k, k < 4 → h'.2 x0 k = h.2 x1 k) ∧ (∀ k, k < 6 → h'.2 (x0 + 1) k = h.2 (x1 + 1) k ∧ h'.2 (x0 + 2) k = h.2 (x1 + 2) k) ∧ (∀ k, k < 4 → h'.2 (x0 + 3) k = h.2 (x1 + 3) k ∧ h'.2 (x0 + 4) k = h.2 (x1 + 4) k) ∧ ∀ k, k < 48 → h'.2 (x0 + 5) k = h.2 (x1 + 5) k := by
  unfold f9_copy
  simp only [lt_eq, show (w32 0).toNat = 0 from rfl, show (w32 6).toNat = 6 from rfl, show (w32 4).toNat = 4 from rfl, show (w32 48).toNat = 48 from rfl]
  rw [asrt_t (by decide), asrt_t (by decide), asrt_t (by decide), asrt_t (by decide), asrt_t (by decide)]
  refine ⟨_, rfl, ⟨rfl, fun a k hk => ?_⟩, fun k hk => ?_, fun k hk => ⟨?_, ?_⟩, fun k hk => ⟨?_, ?_⟩, fun k hk => ?_⟩
  · simp (disch := omega) only [cpy_e, wr_e]
  · have : k = 0 ∨ k = 1 ∨ k = 2 ∨ k = 3 := by omega
    rcases this with rfl | rfl | rfl | rfl <;> simp (disch := omega) only [cpy_e, wr_e, wr_at]
  all_goals simp (disch := omega) only [cpy_0, cpy_e, wr_e]
theorem VC_mk {c : Nat → Nat → Int} {v w : Nat} {V : Nat → Int} {d : Nat → Nat → Int} (hV : VOK0 V) (hc : VC d w V) (e1 : ∀ k, k < 4 → c v k = d w k) (e2 : ∀ k, k < 6 → c (v + 1) k = d (w + 1) k ∧ c (v + 2) k = d (w + 2) k) (e3 : ∀ k, k < 4 → c (v + 3) k = d (w + 3) k ∧ c (v + 4) k = d (w + 4) k) (e4 : ∀ k, k < 48 → c (v + 5) k = d (w + 5) k) : VC c v V := by
  obtain ⟨c0, c1, c2, c3, c4, c5, c6⟩ := hc
  have q1 := hV.2.1
  have q2 := hV.2.2.1
  exact ⟨(e1 0 (by omega)).trans c0, (e1 1 (by omega)).trans c1, (e1 2 (by omega)).trans c2, (e1 3 (by omega)).trans c3, fun s hs => ⟨(e2 s (by omega)).1.trans (c4 s hs).1, (e2 s (by omega)).2.trans (c4 s hs).2⟩, fun s hs => ⟨(e3 s (by omega)).1.trans (c5 s hs).1, (e3 s (by omega)).2.trans (c5 s hs).2⟩, fun q hq => (e4 q hq).trans (c6 q hq)⟩
def KS (h h1 : AH) : Prop := h1.1 = h.1 ∧ ∀ a k, (a < 41 ∨ 49 < a) → h1.2 a k = h.2 a k
def KM (h h1 : AH) : Prop := h1.1 = h.1 ∧ ∀ a k, (a < 69 ∨ (a = 69 ∧ (k < 32 ∨ 35 < k)) ∨ (69 < a ∧ a < 88) ∨ 90 < a) → h1.2 a k = h.2 a k
theorem KS.rf (h : AH) : KS h h := ⟨rfl, fun _ _ _ => rfl⟩
theorem KM.rf (h : AH) : KM h h := ⟨rfl, fun _ _ _ => rfl⟩
theorem KS.tr {h h1 h2 : AH} (a : KS h h1) (b : KS h1 h2) : KS h h2 := ⟨b.1.trans a.1, fun q k hq => (b.2 q k hq).trans (a.2 q k hq)⟩
theorem KM.tr {h h1 h2 : AH} (a : KM h h1) (b : KM h1 h2) : KM h h2 := ⟨b.1.trans a.1, fun q k hq => (b.2 q k hq).trans (a.2 q k hq)⟩
theorem KS.pk {h h1 : AH} (c : KS h h1) : PK h h1 := ⟨c.1, fun a ha => funext fun k => c.2 a k (by omega), ⟨c.2 _ _ (by omega), c.2 _ _ (by omega)⟩, c.2 _ _ (by omega), c.2 _ _ (by omega)⟩
theorem KM.pk {h h1 : AH} (c : KM h h1) : PK h h1 := ⟨c.1, fun a ha => funext fun k => c.2 a k (by omega), ⟨c.2 _ _ (by omega), c.2 _ _ (by omega)⟩, c.2 _ _ (by omega), c.2 _ _ (by omega)⟩
theorem KM.vm {h h1 : AH} {V : Nat → Int} (c : KM h h1) (hm : VM h.2 V) : VM h1.2 V := by
  obtain ⟨o, m0, m1, m2, m3, m4, m5⟩ := hm
  exact ⟨o, m0, (c.2 69 12 (by omega)).trans m1, (c.2 69 13 (by omega)).trans m2, (c.2 69 14 (by omega)).trans m3, (c.2 69 15 (by omega)).trans m4, fun j hj => (c.2 70 _ (by omega)).trans (m5 j hj)⟩
theorem VOK.z {V : Nat → Int} (hV : VOK V) : VOK0 V := by
  obtain ⟨c0, c1, c2, c3, c4, c5, c6⟩ := hV
  exact ⟨c0, c1, c2, c3, fun s hs => by have := c4 s hs; omega, c5, c6⟩
theorem c_begin {h : AH} {v : Nat} {V : Nat → Int} (hV : VOK V) (hc : VC h.2 v V) (hv : v + 5 < 28) : ∃ h1, f7_begin v h = some (0, h1) ∧ KS h h1 ∧ VC h1.2 42 V ∧ (∀ q, q < 4 → h1.2 48 q = 0) ∧ (∀ q, q < 8 → h1.2 49 q = 0) ∧ (h1.2 41 3 = 0 ∧ h1.2 41 4 = 0 ∧ h1.2 41 5 = 0 ∧ h1.2 41 6 = 0 ∧ h1.2 41 7 = 0 ∧ h1.2 41 8 = -1 ∧ h1.2 41 9 = 0) ∧ ∀ k, k < 6 → h1.2 43 k = h.2 (v + 1) k := by
  obtain ⟨h2, a1, a2, a3, a4, a5, a6⟩ := c_copyV 42 v (by omega) h
  unfold f7_begin
  rw [a1, bnd_some, c_fill 48 4 0 _ (by decide) (by omega), bnd_some, c_fill 49 8 0 _ (by decide) (by omega), bnd_some]
  simp only [lt_eq]
  refine ⟨_, rfl, ⟨a2.1, fun a k hk => ?_⟩, ?_, fun q hq => ?_, fun q hq => ?_, ?_, fun k hk => ?_⟩
  · simp (disch := omega) only [wr_e, fil_e]
    exact a2.2 a k (by omega)
  · refine VC_mk hV.z hc (fun k hk => ?_) (fun k hk => ⟨?_, ?_⟩) (fun k hk => ⟨?_, ?_⟩) (fun k hk => ?_)
    · simp (disch := omega) only [wr_e, fil_e]; exact a3 k hk
    · simp (disch := omega) only [wr_e, fil_e]; exact (a4 k hk).1
    · simp (disch := omega) only [wr_e, fil_e]; exact (a4 k hk).2
    · simp (disch := omega) only [wr_e, fil_e]; exact (a5 k hk).1
    · simp (disch := omega) only [wr_e, fil_e]; exact (a5 k hk).2
    · simp (disch := omega) only [wr_e, fil_e]; exact a6 k hk
  · simp (disch := omega) only [wr_e, fil_e, fil_i]
  · simp (disch := omega) only [wr_e, fil_e, fil_i]
  · refine ⟨?_, ?_, ?_, ?_, ?_, ?_, ?_⟩ <;> simp (disch := omega) only [wr_e, wr_at]
  · simp (disch := omega) only [wr_e, fil_e]; exact (a4 k hk).1
/-- the village under the class's hands, as a row -/
def nV (c : Nat → Nat → Int) (j : Nat) : Int := if j < 4 then c 42 j else if j < 16 then (if j % 2 = 0 then c 43 ((j - 4) / 2) else c 44 ((j - 5) / 2)) else if j < 24 then (if j % 2 = 0 then c 45 ((j - 16) / 2) else c 46 ((j - 17) / 2)) else c 47 (j - 24)
section NV
variable {c : Nat → Nat → Int}
theorem nV_0 {j : Nat} (h : j < 4) : nV c j = c 42 j := if_pos h
theorem nV_t {s : Nat} (h : s < 6) : nV c (4 + 2 * s) = c 43 s := by unfold nV; rw [if_neg (by omega), if_pos (by omega), if_pos (by omega), show (4 + 2 * s - 4) / 2 = s by omega]
theorem nV_f {s : Nat} (h : s < 6) : nV c (5 + 2 * s) = c 44 s := by unfold nV; rw [if_neg (by omega), if_pos (by omega), if_neg (by omega), show (5 + 2 * s - 5) / 2 = s by omega]
theorem nV_w {s : Nat} (h : s < 4) : nV c (16 + 2 * s) = c 45 s := by unfold nV; rw [if_neg (by omega), if_neg (by omega), if_pos (by omega), if_pos (by omega), show (16 + 2 * s - 16) / 2 = s by omega]
theorem nV_c {s : Nat} (h : s < 4) : nV c (17 + 2 * s) = c 46 s := by unfold nV; rw [if_neg (by omega), if_neg (by omega), if_pos (by omega), if_neg (by omega), show (17 + 2 * s - 17) / 2 = s by omega]
theorem nV_h {q : Nat} : nV c (24 + q) = c 47 q := by unfold nV; rw [if_neg (by omega), if_neg (by omega), if_neg (by omega), show 24 + q - 24 = q by omega]
end NV
def SR (V : Nat → Int) (c m : Nat → Nat → Int) : Prop :=
  (c 42 0 = V 0 ∧ c 42 1 = V 1 ∧ c 42 2 = V 2 ∧ c 42 3 = V 3) ∧
  (∀ s : Nat, (s : Int) < V 1 → c 44 s = V (5 + 2 * s) ∧ c 43 s = m 89 s ∧ 0 ≤ c 43 s ∧ c 43 s ≤ 9) ∧
  (∀ q : Nat, (q : Int) < V 2 → c 45 q = V (16 + 2 * q) ∧ c 46 q = V (17 + 2 * q)) ∧
  (∀ q : Nat, q < 48 → c 47 q = m 90 q ∧ -1 ≤ c 47 q ∧ c 47 q ≤ 9) ∧
  (∀ q : Nat, q < 4 → c 48 q = m 88 q ∧ 0 ≤ c 48 q ∧ c 48 q ≤ 99) ∧
  (c 41 3 = m 69 32 ∧ 0 ≤ c 41 3 ∧ c 41 3 ≤ 99) ∧ (c 41 4 = m 69 33 ∧ 0 ≤ c 41 4 ∧ c 41 4 < 16) ∧ (c 41 5 = m 69 34 ∧ 0 ≤ c 41 5 ∧ c 41 5 < 256) ∧ c 41 6 = m 69 35 ∧ VM m V
section SRs
variable {V : Nat → Int} {c m : Nat → Nat → Int}
theorem SR.vc (hV : VOK V) (hS : SR V c m) : VC c 42 (nV c) ∧ VOK0 (nV c) ∧ nV c 0 = V 0 ∧ nV c 1 = V 1 ∧ nV c 2 = V 2 := by
  obtain ⟨a1, a2, a3, a4, -⟩ := hS
  obtain ⟨v0, v1, v2, v3, v4, v5, v6⟩ := hV
  have e0 : nV c 0 = V 0 := (nV_0 (by omega)).trans a1.1
  have e1 : nV c 1 = V 1 := (nV_0 (by omega)).trans a1.2.1
  have e2 : nV c 2 = V 2 := (nV_0 (by omega)).trans a1.2.2.1
  have e3 : nV c 3 = V 3 := (nV_0 (by omega)).trans a1.2.2.2
  refine ⟨⟨(nV_0 (by omega)).symm, (nV_0 (by omega)).symm, (nV_0 (by omega)).symm, (nV_0 (by omega)).symm, fun s hs => ?_, fun s hs => ?_, fun q hq => nV_h.symm⟩, ⟨?_, ?_, ?_, ?_, fun s hs => ?_, fun s hs => ?_, fun q hq => ?_⟩, e0, e1, e2⟩
  · exact ⟨(nV_t (by omega)).symm, (nV_f (by omega)).symm⟩
  · exact ⟨(nV_w (by omega)).symm, (nV_c (by omega)).symm⟩
  · omega
  · omega
  · omega
  · omega
  · have := a2 s (by omega)
    have := v4 s (by omega)
    rw [nV_t (by omega), nV_f (by omega)]
    omega
  · have := a3 s (by omega)
    have := v5 s (by omega)
    rw [nV_w (by omega), nV_c (by omega)]
    omega
  · rw [nV_h]; exact (a4 q hq).2
end SRs
theorem bit_ab {x a b : Nat} (hx : x < 2147483648) (ha : a < 30) (hb : b < 30) : (w32 (and32 x (or32 (shl32 1 a) (shl32 1 b))) = 0) ↔ (x.testBit a = false ∧ x.testBit b = false) := by
  have h1 := pow_lt31 (k := a) (by omega)
  have h2 := pow_lt31 (k := b) (by omega)
  have h3 := or_lt31 h1 h2
  have h4 : x &&& (2 ^ a ||| 2 ^ b) < 2147483648 := Nat.lt_of_le_of_lt Nat.and_le_left hx
  rw [shl32_1 (by omega), shl32_1 (by omega), or32_nat h1 h2, and32_nat hx h3, w32_id (by omega) (by omega)]
  constructor
  · intro q
    have q : x &&& (2 ^ a ||| 2 ^ b) = 0 := by omega
    have qa : (x &&& (2 ^ a ||| 2 ^ b)).testBit a = false := by rw [q]; exact Nat.zero_testBit a
    have qb : (x &&& (2 ^ a ||| 2 ^ b)).testBit b = false := by rw [q]; exact Nat.zero_testBit b
    simp only [Nat.testBit_and, Nat.testBit_or, Nat.testBit_two_pow, decide_true, Bool.true_or, Bool.or_true, Bool.and_true] at qa qb
    exact ⟨qa, qb⟩
  · intro ⟨qa, qb⟩
    have : x &&& (2 ^ a ||| 2 ^ b) = 0 := by
      apply Nat.eq_of_testBit_eq
      intro i
      rw [Nat.zero_testBit, Nat.testBit_and, Nat.testBit_or, Nat.testBit_two_pow, Nat.testBit_two_pow]
      by_cases e1 : a = i
      · subst e1; simp [qa]
      · by_cases e2 : b = i
        · subst e2; simp [qb]
        · simp [e1, e2]
    omega
