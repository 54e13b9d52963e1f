/-! halves -/
def sAcr (w : Nat → Nat → Int) (n bits : Nat) : Int := sm (fun a => sm (fun j => if bits.testBit a = bits.testBit (a + 1 + j) then 0 else w a (a + 1 + j)) (n - (a + 1))) n
theorem sm_bnd {f : Nat → Int} {n : Nat} {hi : Int} (h : ∀ i, i < n → 0 ≤ f i ∧ f i ≤ hi) : 0 ≤ sm f n ∧ sm f n ≤ n * hi := by
  have := sm_rng (f := f) (n := n) (lo := 0) (hi := hi) h
  rw [Int.mul_zero] at this
  exact this
theorem sAcr_rng {w : Nat → Nat → Int} {n bits : Nat} (hn : n ≤ 8) (hw : ∀ a b, 0 ≤ w a b ∧ w a b ≤ 81) : 0 ≤ sAcr w n bits ∧ sAcr w n bits ≤ 6000 := by
  unfold sAcr
  have := sm_bnd (f := fun a => sm (fun j => if bits.testBit a = bits.testBit (a + 1 + j) then 0 else w a (a + 1 + j)) (n - (a + 1))) (n := n) (hi := 648) (fun a ha => by
    have := sm_bnd (f := fun j => if bits.testBit a = bits.testBit (a + 1 + j) then 0 else w a (a + 1 + j)) (n := n - (a + 1)) (hi := 81) (fun j hj => by
      have := hw a (a + 1 + j)
      split <;> omega)
    omega)
  omega
theorem sm_grid (f : Nat → Int) (m : Nat) : sm f (8 * m) = sm (fun a => sm (fun b => f (8 * a + b)) 8) m := by
  induction m with
  | zero => rfl
  | succ m ih =>
    rw [show 8 * (m + 1) = 8 * m + 8 by omega, ← sm_shift, ih]
    simp only [sm]
    omega
theorem sm_tri (F : Nat → Nat → Int) (h0 : ∀ a, F a a = 0) (n : Nat) : sm (fun a => sm (fun b => F a b) n) n = sm (fun a => sm (fun j => F a (a + 1 + j) + F (a + 1 + j) a) (n - (a + 1))) n := by
  induction n with
  | zero => rfl
  | succ n ih =>
    have e1 : sm (fun a => sm (fun b => F a b) (n + 1)) (n + 1) = sm (fun a => sm (fun b => F a b) n) n + sm (fun a => F a n) n + sm (fun b => F n b) n := by
      simp only [sm]
      rw [sm_add, h0]
      omega
    have e2 : sm (fun a => sm (fun j => F a (a + 1 + j) + F (a + 1 + j) a) (n + 1 - (a + 1))) (n + 1) = sm (fun a => sm (fun j => F a (a + 1 + j) + F (a + 1 + j) a) (n - (a + 1))) n + (sm (fun a => F a n) n + sm (fun b => F n b) n) := by
      simp only [sm]
      rw [show n + 1 - (n + 1) = 0 by omega]
      simp only [sm, Int.add_zero]
      rw [← sm_add, ← sm_add]
      apply sm_cong
      intro a ha
      rw [show n + 1 - (a + 1) = (n - (a + 1)) + 1 by omega]
      simp only [sm]
      rw [show a + 1 + (n - (a + 1)) = n by omega]
    rw [e1, e2, ih]
    omega
theorem acr_grid {w : Nat → Nat → Int} {n bits : Nat} (hs : ∀ a b, w a b = w b a) (hn : n ≤ 8) : sm (fun k => if bits.testBit (k / 8) = true ∧ bits.testBit (k % 8) = false then (if k / 8 < n ∧ k % 8 < n ∧ k / 8 ≠ k % 8 then w (k / 8) (k % 8) else 0) else 0) 64 = sAcr w n bits := by
  rw [show 64 = 8 * 8 from rfl, sm_grid]
  have e1 : sm (fun a => sm (fun b => (fun k => if bits.testBit (k / 8) = true ∧ bits.testBit (k % 8) = false then (if k / 8 < n ∧ k % 8 < n ∧ k / 8 ≠ k % 8 then w (k / 8) (k % 8) else 0) else 0) (8 * a + b)) 8) 8 = sm (fun a => sm (fun b => if a < n ∧ b < n ∧ a ≠ b then (if bits.testBit a = true ∧ bits.testBit b = false then w a b else 0) else 0) 8) 8 := by
    apply sm_cong
    intro a _
    apply sm_cong
    intro b hb
    simp only
    rw [show (8 * a + b) / 8 = a by omega, show (8 * a + b) % 8 = b by omega]
    repeat' split
    all_goals first | rfl | omega
  rw [e1, sm_more hn (fun i i1 i2 => sm_zero (fun j _ => if_neg (by omega)))]
  have e2 : sm (fun a => sm (fun b => if a < n ∧ b < n ∧ a ≠ b then (if bits.testBit a = true ∧ bits.testBit b = false then w a b else 0) else 0) 8) n = sm (fun a => sm (fun b => if a ≠ b then (if bits.testBit a = true ∧ bits.testBit b = false then w a b else 0) else 0) n) n := by
    apply sm_cong
    intro a ha
    rw [sm_more hn (fun i i1 i2 => if_neg (by omega))]
    apply sm_cong
    intro b hb
    by_cases z : a ≠ b
    · rw [if_pos ⟨ha, hb, z⟩, if_pos z]
    · rw [if_neg (by omega), if_neg z]
  rw [e2, sm_tri (fun a b => if a ≠ b then (if bits.testBit a = true ∧ bits.testBit b = false then w a b else 0) else 0) (fun a => if_neg (by omega))]
  unfold sAcr
  apply sm_cong
  intro a _
  apply sm_cong
  intro j _
  rw [if_pos (c := a ≠ a + 1 + j) (by omega), if_pos (c := a + 1 + j ≠ a) (by omega), hs (a + 1 + j) a]
  cases bits.testBit a <;> cases bits.testBit (a + 1 + j) <;> simp
/-- the first of the best sets that hold the first: 1, 3, 5 .. -/
def cmps (f : Nat → Int) : Nat → Int × Int
  | 0 => (-1, -1)
  | i + 1 => if (cmps f i).2 < f (2 * i + 1) then (((2 * i + 1 : Nat) : Int), f (2 * i + 1)) else cmps f i
theorem cmps_val {f : Nat → Int} (h0 : ∀ i, 0 ≤ f i) (i : Nat) (hi : 1 ≤ i) : ∃ j, j < i ∧ cmps f i = (((2 * j + 1 : Nat) : Int), f (2 * j + 1)) := by
  induction i with
  | zero => omega
  | succ i ih =>
    simp only [cmps]
    split
    · exact ⟨i, by omega, rfl⟩
    · rename_i c
      cases i with
      | zero =>
        have : (-1 : Int) < f (2 * 0 + 1) := by have := h0 (2 * 0 + 1); omega
        exact absurd this c
      | succ i =>
        obtain ⟨j, h1, h2⟩ := ih (by omega)
        exact ⟨j, by omega, h2⟩
section Halves
variable {V : Nat → Int} {h : AH}
def wK (V : Nat → Int) (a b : Nat) : Int := (sHot V a b).2
theorem c_across (hV : VOK V) (hT : TB h V (wK V)) {bits : Nat} (hb : bits < 256) : f1_acrossCamps bits h = some (sAcr (wK V) (V 0).toNat bits, h) := by
  have v0 := hV.1
  unfold f1_acrossCamps l1_acrossCamps_4 sAcr
  refine loopS0 (fun a => sm (fun j => if bits.testBit a = bits.testBit (a + 1 + j) then 0 else wK V a (a + 1 + j)) ((V 0).toNat - (a + 1))) (V 0).toNat h (by omega) (fun a ha x rec => ?_) (fun rec => ?_)
  · unfold b1_acrossCamps_4 l1_acrossCamps_17
    dsimp only
    rw [hT.1, w32_id (x := V 0) (by omega) (by omega), w32_id (x := (a : Int)) (by omega) (by omega), if_neg (by omega), lt_eq]
    refine loopS (fun b => if bits.testBit a = bits.testBit b then 0 else wK V a b) x (a + 1) (V 0).toNat h (by omega) (by omega) (fun b hb1 hb2 y rec2 => ?_) (fun rec2 => ?_)
    · unfold b1_acrossCamps_17 b1_acrossCamps_45 b1_acrossCamps_69
      dsimp only
      rw [hT.1, w32_id (x := V 0) (by omega) (by omega), w32_id (x := (b : Int)) (by omega) (by omega), if_neg (by omega), bit_u (by omega) (by omega), bit_u (by omega) (by omega), w32_id (x := ((a : Int) * 8 + b)) (by omega) (by omega), asrt_t (by omega), show ((a : Int) * 8 + b).toNat = 8 * a + b by omega, hT.2 a b (by omega) (by omega) (by omega), ite_b, ite_b]
      simp only [lt_eq]
      cases bits.testBit a <;> cases bits.testBit b <;> rfl
    · unfold b1_acrossCamps_17
      dsimp only
      rw [hT.1, w32_id (x := V 0) (by omega) (by omega), w32_id (x := ((V 0).toNat : Int)) (by omega) (by omega), if_pos (by omega)]
  · unfold b1_acrossCamps_4
    dsimp only
    rw [hT.1, w32_id (x := V 0) (by omega) (by omega), w32_id (x := ((V 0).toNat : Int)) (by omega) (by omega), if_pos (by omega)]
theorem wK_rng (hV : VOK V) (a b : Nat) : 0 ≤ wK V a b ∧ wK V a b ≤ 81 := sHot_rng hV a b
theorem shl_n (hV : VOK V) : shl32 1 (V 0) = ((2 ^ (V 0).toNat : Nat) : Int) := by
  have v0 := hV.1
  have e : V 0 = ((V 0).toNat : Int) := by omega
  rw [e, Int.toNat_natCast, shl32_1 (by omega)]
theorem pow_n (hV : VOK V) : 2 ^ (V 0).toNat ≤ 256 := Nat.pow_le_pow_right (n := 2) (by omega) (show (V 0).toNat ≤ 8 by have := hV.1; omega)
theorem pow_half (hV : VOK V) (h1 : 1 ≤ V 0) : 2 ^ (V 0).toNat = 2 * 2 ^ ((V 0).toNat - 1) := by
  have v0 := hV.1
  obtain ⟨m, hm⟩ : ∃ m, (V 0).toNat = m + 1 := ⟨(V 0).toNat - 1, by omega⟩
  rw [hm, Nat.pow_succ, Nat.add_sub_cancel, Nat.mul_comm]
def sCmp (V : Nat → Int) : Int × Int := cmps (fun s => sAcr (wK V) (V 0).toNat s) (2 ^ ((V 0).toNat - 1))
theorem cmps_I (hV : VOK V) {i : Nat} (hi : 2 * i ≤ 256) : (-1 ≤ (cmps (fun s => sAcr (wK V) (V 0).toNat s) i).1 ∧ (cmps (fun s => sAcr (wK V) (V 0).toNat s) i).1 < 256) ∧ -1 ≤ (cmps (fun s => sAcr (wK V) (V 0).toNat s) i).2 ∧ (cmps (fun s => sAcr (wK V) (V 0).toNat s) i).2 ≤ 6000 := by
  have v0 := hV.1
  induction i with
  | zero => simp [cmps]
  | succ i ih =>
    have := ih (by omega)
    have r := sAcr_rng (w := wK V) (n := (V 0).toNat) (bits := 2 * i + 1) (by omega) (wK_rng hV)
    simp only [cmps]
    split
    · simp only; omega
    · exact this
theorem c_best (hV : VOK V) (h1 : 1 ≤ V 0) (hT : TB h V (wK V)) : f1_bestCamp h = some ((sCmp V).1, h) := by
  have v0 := hV.1
  have pn := pow_n hV
  have ph := pow_half hV h1
  have pp : 1 ≤ 2 ^ ((V 0).toNat - 1) := Nat.pow_pos (by omega)
  unfold f1_bestCamp l1_bestCamp_10 sCmp
  have r1 := sAcr_rng (w := wK V) (n := (V 0).toNat) (bits := 1) (by omega) (wK_rng hV)
  have e1 : cmps (fun s => sAcr (wK V) (V 0).toNat s) 1 = (1, sAcr (wK V) (V 0).toNat 1) := by
    have e0 : cmps (fun s => sAcr (wK V) (V 0).toNat s) 1 = if (cmps (fun s => sAcr (wK V) (V 0).toNat s) 0).2 < sAcr (wK V) (V 0).toNat 1 then (1, sAcr (wK V) (V 0).toNat 1) else cmps (fun s => sAcr (wK V) (V 0).toNat s) 0 := rfl
    rw [e0]
    exact if_pos (show (-1 : Int) < sAcr (wK V) (V 0).toNat 1 by omega)
  rw [show (1 : Int) = ((1 : Nat) : Int) from rfl, c_across hV hT (bits := 1) (by omega), bnd_some]
  have key := fr (F := fun rec (z : Int × Int × Int × AH) => b1_bestCamp_10 rec z.1 z.2.1 z.2.2.1 z.2.2.2) (fun X => X = some ((cmps (fun s => sAcr (wK V) (V 0).toNat s) (2 ^ ((V 0).toNat - 1))).1, h)) (fun (z : Int × Int) i => (z.1, z.2, 2 * i + 1, h)) (fun i z => z = cmps (fun s => sAcr (wK V) (V 0).toNat s) i) 1 (2 ^ ((V 0).toNat - 1)) (1, sAcr (wK V) (V 0).toNat 1) e1.symm pp (by omega) (fun i z hi1 hi hI rec => ?_) (fun z hI rec => ?_)
  · exact key
  · right
    subst hI
    have ci := cmps_I hV (i := i) (by omega)
    have r2 := sAcr_rng (w := wK V) (n := (V 0).toNat) (bits := 2 * i + 1) (by omega) (wK_rng hV)
    refine ⟨_, rfl, ?_⟩
    unfold b1_bestCamp_10 b1_bestCamp_38
    dsimp only
    rw [hT.1, shl_n hV, show 2 * (i : Int) + 1 = ((2 * i + 1 : Nat) : Int) from rfl, w32_id (x := ((2 ^ (V 0).toNat : Nat) : Int)) (by omega) (by omega), w32_id (x := ((2 * i + 1 : Nat) : Int)) (by omega) (by omega), if_neg (by omega), c_across hV hT (by omega), bnd_some, w32_id (x := sAcr (wK V) (V 0).toNat (2 * i + 1)) (by omega) (by omega), w32_id (x := (cmps (fun s => sAcr (wK V) (V 0).toNat s) i).2) (by omega) (by omega), show ((2 * i + 1 : Nat) : Int) + 2 = 2 * ((i : Int) + 1) + 1 by omega]
    simp only [cmps]
    by_cases c : (cmps (fun s => sAcr (wK V) (V 0).toNat s) i).2 < sAcr (wK V) (V 0).toNat (2 * i + 1)
    · rw [if_neg (by omega), if_pos c]
    · rw [if_pos (by omega), if_neg c]
  · subst hI
    unfold b1_bestCamp_10
    dsimp only
    rw [hT.1, shl_n hV, show 2 * ((2 ^ ((V 0).toNat - 1) : Nat) : Int) + 1 = ((2 * 2 ^ ((V 0).toNat - 1) + 1 : Nat) : Int) from rfl, w32_id (x := ((2 ^ (V 0).toNat : Nat) : Int)) (by omega) (by omega), w32_id (x := ((2 * 2 ^ ((V 0).toNat - 1) + 1 : Nat) : Int)) (by omega) (by omega), if_pos (by omega)]
def kKe (a _k : Nat) : Prop := a = 86
theorem m_h94 (hV : VOK V) (h1 : 1 ≤ V 0) (hm : VM h.2 V) (h86 : ∀ k, k < 64 → h.2 86 k = if k / 8 < (V 0).toNat ∧ k % 8 < (V 0).toNat ∧ k / 8 ≠ k % 8 then wK V (k / 8) (k % 8) else 0) {x2 : Int} (hx2 : x2 = 0 ∨ x2 = 1) : l11_halves_94 x2 (-1) (-1) 1 h = some (if x2 = 0 then (sCmp V).2 else (sCmp V).1, h) := by
  have v0 := hV.1
  have pn := pow_n hV
  have ph := pow_half hV h1
  have pp : 1 ≤ 2 ^ ((V 0).toNat - 1) := Nat.pow_pos (by omega)
  unfold l11_halves_94 sCmp
  have key := fr (F := fun rec (z : Int × Int × Int × AH) => b11_halves_94 rec x2 z.1 z.2.1 z.2.2.1 z.2.2.2) (fun X => X = some (if x2 = 0 then (cmps (fun s => sAcr (wK V) (V 0).toNat s) (2 ^ ((V 0).toNat - 1))).2 else (cmps (fun s => sAcr (wK V) (V 0).toNat s) (2 ^ ((V 0).toNat - 1))).1, h)) (fun (z : Int × Int) i => (z.1, z.2, 2 * i + 1, h)) (fun i z => z = cmps (fun s => sAcr (wK V) (V 0).toNat s) i) 0 (2 ^ ((V 0).toNat - 1)) (-1, -1) rfl (by omega) (by omega) (fun i z _ hi hI rec => ?_) (fun z hI rec => ?_)
  · exact key
  · right
    subst hI
    have ci := cmps_I hV (i := i) (by omega)
    have r2 := sAcr_rng (w := wK V) (n := (V 0).toNat) (bits := 2 * i + 1) (by omega) (wK_rng hV)
    have eg := acr_grid (w := wK V) (n := (V 0).toNat) (bits := 2 * i + 1) (fun a b => by unfold wK; rw [sHot_comm]) (by omega)
    refine ⟨_, rfl, ?_⟩
    unfold b11_halves_94 l11_halves_111
    dsimp only
    rw [vm_P hm, shl_n hV, show 2 * (i : Int) + 1 = ((2 * i + 1 : Nat) : Int) from rfl, w32_id (x := ((2 ^ (V 0).toNat : Nat) : Int)) (by omega) (by omega), w32_id (x := ((2 * i + 1 : Nat) : Int)) (by omega) (by omega), if_neg (by omega)]
    refine loopS0 (fun k => if (2 * i + 1).testBit (k / 8) = true ∧ (2 * i + 1).testBit (k % 8) = false then (if k / 8 < (V 0).toNat ∧ k % 8 < (V 0).toNat ∧ k / 8 ≠ k % 8 then wK V (k / 8) (k % 8) else 0) else 0) 64 h (by omega) (fun k hk x rec2 => ?_) (fun rec2 => ?_)
    · unfold b11_halves_111 b11_halves_157 b11_halves_158
      dsimp only
      rw [w32_id (x := (k : Int)) (by omega) (by omega), if_neg (by omega), dv32_nn (by omega) (by omega), rm32_nn (by omega) (by omega), show (k : Int) / 8 = ((k / 8 : Nat) : Int) by omega, show (k : Int) % 8 = ((k % 8 : Nat) : Int) by omega, bit_s (by omega) (by omega), bit_s (by omega) (by omega), asrt_t (by omega), Int.toNat_natCast, h86 k hk, ite_b, ite_b]
      simp only [lt_eq]
      cases (2 * i + 1).testBit (k / 8) <;> cases (2 * i + 1).testBit (k % 8) <;> simp
    · unfold b11_halves_111 b11_halves_184
      dsimp only
      rw [if_pos (by decide), eg, w32_id (x := sAcr (wK V) (V 0).toNat (2 * i + 1)) (by omega) (by omega), w32_id (x := (cmps (fun s => sAcr (wK V) (V 0).toNat s) i).2) (by omega) (by omega), show ((2 * i + 1 : Nat) : Int) + 2 = 2 * ((i : Int) + 1) + 1 by omega]
      simp only [cmps]
      by_cases c : (cmps (fun s => sAcr (wK V) (V 0).toNat s) i).2 < sAcr (wK V) (V 0).toNat (2 * i + 1)
      · rw [if_pos c, if_pos c]
      · rw [if_neg c, if_neg c]
  · subst hI
    unfold b11_halves_94
    dsimp only
    rw [vm_P hm, shl_n hV, show 2 * ((2 ^ ((V 0).toNat - 1) : Nat) : Int) + 1 = ((2 * 2 ^ ((V 0).toNat - 1) + 1 : Nat) : Int) from rfl, w32_id (x := ((2 ^ (V 0).toNat : Nat) : Int)) (by omega) (by omega), w32_id (x := ((2 * 2 ^ ((V 0).toNat - 1) + 1 : Nat) : Int)) (by omega) (by omega), if_pos (by omega), w32_id (x := x2) (by omega) (by omega)]
    by_cases c : x2 = 0
    · rw [if_pos c, if_pos c]
    · rw [if_neg c, if_neg c]
theorem m_halves (hV : VOK V) (h1 : 1 ≤ V 0) (hm : VM h.2 V) {x2 : Int} (hx2 : x2 = 0 ∨ x2 = 1) : ∃ h1, l11_halves_19 x2 0 h = some (if x2 = 0 then (sCmp V).2 else (sCmp V).1, h1) ∧ Ky kKe h h1 := by
  have v0 := hV.1
  unfold l11_halves_19
  refine fr (fun X => ∃ h1, X = some (if x2 = 0 then (sCmp V).2 else (sCmp V).1, h1) ∧ Ky kKe h h1) (fun (s : AH) i => (i, s)) (fun i w => Ky kKe h w ∧ ∀ k, k < i → w.2 86 k = if k / 8 < (V 0).toNat ∧ k % 8 < (V 0).toNat ∧ k / 8 ≠ k % 8 then wK V (k / 8) (k % 8) else 0) 0 64 h ⟨Ky.rf h, fun k hk => by omega⟩ (by omega) (by omega) (fun k w _ hk hI rec => ?_) (fun w hI rec => ?_)
  · right
    obtain ⟨i1, i2⟩ := hI
    have hm2 : VM w.2 V := i1.vm (fun k _ _ => by unfold kKe; omega) (fun k => by unfold kKe; omega) hm
    refine ⟨wr w 86 k (if k / 8 < (V 0).toNat ∧ k % 8 < (V 0).toNat ∧ k / 8 ≠ k % 8 then wK V (k / 8) (k % 8) else 0), ⟨i1.w2 rfl, fun j hj => ?_⟩, ?_⟩
    · by_cases z : j = k
      · subst z; exact wr_at
      · rw [wr_e (by omega)]; exact i2 j (by omega)
    · unfold b11_halves_19 b11_halves_78 b11_halves_79
      dsimp only
      rw [w32_id (x := (k : Int)) (by omega) (by omega), if_neg (by omega), dv32_nn (by omega) (by omega), rm32_nn (by omega) (by omega), show (k : Int) / 8 = ((k / 8 : Nat) : Int) by omega, show (k : Int) % 8 = ((k % 8 : Nat) : Int) by omega, vm_P hm2, w32_id (x := V 0) (by omega) (by omega), w32_id (x := ((k / 8 : Nat) : Int)) (by omega) (by omega), w32_id (x := ((k % 8 : Nat) : Int)) (by omega) (by omega), asrt_t (by omega), lt_eq, Int.toNat_natCast]
      by_cases c : k / 8 < (V 0).toNat ∧ k % 8 < (V 0).toNat ∧ k / 8 ≠ k % 8
      · rw [if_neg (by omega), if_neg (by omega), if_neg (by omega), if_pos c, m_keen hV hm2 _ _ (by omega) (by omega) (by omega), bnd_some, asrt_t (by omega), lt_eq]
        rfl
      · rw [if_neg c]
        by_cases c1 : V 0 ≤ ((k / 8 : Nat) : Int)
        · rw [if_pos c1]
        rw [if_neg c1]
        by_cases c2 : V 0 ≤ ((k % 8 : Nat) : Int)
        · rw [if_pos c2]
        · rw [if_neg c2, if_pos (by omega)]
  · obtain ⟨i1, i2⟩ := hI
    have hm2 : VM w.2 V := i1.vm (fun k _ _ => by unfold kKe; omega) (fun k => by unfold kKe; omega) hm
    unfold b11_halves_19
    dsimp only
    rw [if_pos (by decide), m_h94 hV h1 hm2 i2 hx2]
    exact ⟨w, rfl, i1⟩
end Halves
theorem q_halves {x1 x2 : Int} (hx1 : Rg x1) (hx2 : x2 = 0 ∨ x2 = 1) : Agr (f10_halves x1 x2) (f11_halves x1 x2) := by
  refine agr_v hx1 (fun h e => ⟨-1, ?_, fun e2 => ?_⟩) (fun h v V hV hc h7 h17 e => ?_)
  · unfold f10_halves
    simp (disch := omega) only [w32_id, w32_0, w32_1, w32_m, if_pos, if_neg, bnd_some, lt_eq, asrt_t, ite10_0, ite10_or, e]
  · unfold f11_halves
    rw [e2, bnd_some, ite_w0]
  · have v0 := hV.1
    by_cases c : V 0 = 0
    · refine ⟨-1, h, ?_, PK.rf h, fun hs e1 hm => ⟨hs, ?_, PK.rf hs⟩⟩
      · unfold f10_halves
        rw [e, bnd_some, if_neg (by omega), Int.toNat_natCast, hc.1, w32_id (x := V 0) (by omega) (by omega), if_neg (fun w => w c)]
      · unfold f11_halves
        rw [e1, bnd_some, ite_w1, vm_P hm, w32_id (x := V 0) (by omega) (by omega), if_neg (fun w => w c)]
    · obtain ⟨h1, a1, a2, a3⟩ := c_gathK hV hc (by omega)
      have a3 : TB h1 V (wK V) := a3
      have pn := pow_n hV
      have ph := pow_half hV (by omega)
      obtain ⟨j, j1, j2⟩ := cmps_val (f := fun s => sAcr (wK V) (V 0).toNat s) (fun i => (sAcr_rng (by omega) (wK_rng hV)).1) (2 ^ ((V 0).toNat - 1)) (Nat.pow_pos (by omega))
      refine ⟨if x2 = 0 then (sCmp V).2 else (sCmp V).1, h1, ?_, a2.pk (fun a k z => by unfold kB at z; omega), fun hs e1 hm => ?_⟩
      · unfold f10_halves
        rw [e, bnd_some, if_neg (by omega), Int.toNat_natCast, hc.1, w32_id (x := V 0) (by omega) (by omega), if_pos c, a1, bnd_some, c_best hV (by omega) a3, bnd_some, w32_id (x := x2) (by omega) (by omega)]
        by_cases d : x2 = 0
        · rw [if_pos d, if_pos d]
          unfold sCmp
          rw [j2, c_across hV a3 (by omega), bnd_some]
        · rw [if_neg d, if_neg d]
      · obtain ⟨h2, b1, b2⟩ := m_halves hV (by omega) hm hx2
        refine ⟨h2, ?_, b2.pk (fun a k z => by unfold kKe at z; omega)⟩
        unfold f11_halves
        rw [e1, bnd_some, ite_w1, vm_P hm, w32_id (x := V 0) (by omega) (by omega), if_pos c, b1]
