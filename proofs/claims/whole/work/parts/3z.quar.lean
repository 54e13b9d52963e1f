/-! all quarrels that burn, by their codes -/
def cA (c : Nat) : Nat := c / 10 % 10
def cB (c : Nat) : Nat := c % 10
def cS (c : Nat) : Nat := c / 100
theorem cA_mk {s a b : Nat} (ha : a < 10) (hb : b < 10) : cA (100 * s + 10 * a + b) = a := by
  unfold cA
  rw [show (100 * s + 10 * a + b) / 10 = 10 * s + a by omega]
  omega
theorem cB_mk {s a b : Nat} (hb : b < 10) : cB (100 * s + 10 * a + b) = b := by unfold cB; omega
theorem cS_mk {s a b : Nat} (ha : a < 10) (hb : b < 10) : cS (100 * s + 10 * a + b) = s := by unfold cS; omega
def sBy (V : Nat → Int) (c : Nat) : Int := if (cB c : Int) < V 0 ∧ cA c < cB c then sBurn V (cA c : Int) (cB c : Int) (cS c : Int) else 0
def sPq (V : Nat → Int) (c : Nat) : Bool := decide (0 < sBy V c)
theorem sBy_rng {V : Nat → Int} (hV : VOK V) (c : Nat) : 0 ≤ sBy V c ∧ sBy V c ≤ 81 := by
  unfold sBy
  split
  · exact sBurn_rng hV _ _ _
  · omega
def tkN (a b s : Nat) : Nat := 2 ^ (a + 6) ||| 2 ^ (b + 6) ||| 2 ^ s
theorem tk_or : ∀ a, a < 8 → ∀ b, b < 8 → ∀ s, s < 6 → or32 (shl32 (or32 (shl32 1 (a : Nat)) (shl32 1 (b : Nat))) 6) (shl32 1 (s : Nat)) = ((tkN a b s : Nat) : Int) := by decide +kernel
theorem tk_tb (a b s i : Nat) : (tkN a b s).testBit i = (decide (a + 6 = i) || decide (b + 6 = i) || decide (s = i)) := by
  unfold tkN
  rw [Nat.testBit_or, Nat.testBit_or, Nat.testBit_two_pow, Nat.testBit_two_pow, Nat.testBit_two_pow]
theorem tk_lt {a b s : Nat} (ha : a < 8) (hb : b < 8) (hs : s < 6) : tkN a b s < 16384 := by
  apply Nat.lt_pow_two_of_testBit (n := 14)
  intro i hi
  rw [tk_tb]
  simp
  omega
def tkC (c : Nat) : Nat := tkN (cA c) (cB c) (cS c)
theorem and_z {x y : Nat} : x &&& y = 0 ↔ ∀ i, ¬ (x.testBit i = true ∧ y.testBit i = true) := by
  constructor
  · intro h i hi
    have : (x &&& y).testBit i = false := by rw [h]; exact Nat.zero_testBit i
    rw [Nat.testBit_and, hi.1, hi.2] at this
    exact absurd this (by decide)
  · intro h
    apply Nat.eq_of_testBit_eq
    intro i
    rw [Nat.zero_testBit, Nat.testBit_and]
    by_cases hx : x.testBit i = true
    · by_cases hy : y.testBit i = true
      · exact absurd ⟨hx, hy⟩ (h i)
      · simp [hy]
    · simp [hx]
def tri : Nat → Nat
  | 0 => 0
  | a + 1 => tri a + (7 - a)
theorem tri_le : ∀ n, n ≤ 8 → tri n ≤ 28 := by decide
def QG (V : Nat → Int) (h : AH) (c : Nat) : Prop := h.2 53 7 = fc (sPq V) c ∧ ∀ j, j < c → sPq V j = true → h.2 55 (fc (sPq V) j) = j ∧ h.2 56 (fc (sPq V) j) = sBy V j ∧ h.2 57 (fc (sPq V) j) = (tkC j : Int)
theorem fc_skip {p : Nat → Bool} {a b : Nat} (h : a ≤ b) (hp : ∀ j, a ≤ j → j < b → p j = false) : fc p b = fc p a := by
  induction b with
  | zero => rw [show a = 0 by omega]
  | succ b ih =>
    rcases Nat.lt_or_ge a (b + 1) with q | q
    · rw [fc_s0 (hp b (by omega) (by omega)), ih (by omega) (fun j h1 h2 => hp j h1 (by omega))]
    · rw [show a = b + 1 by omega]
theorem QG.skip {V : Nat → Int} {h : AH} {a b : Nat} (hQ : QG V h a) (hab : a ≤ b) (hp : ∀ j, a ≤ j → j < b → sPq V j = false) : QG V h b := by
  refine ⟨by rw [fc_skip hab hp]; exact hQ.1, fun j h1 h2 => ?_⟩
  rcases Nat.lt_or_ge j a with q | q
  · exact hQ.2 j q h2
  · rw [hp j q h1] at h2; exact absurd h2 (by decide)
def kQu (a k : Nat) : Prop := (a = 53 ∧ k = 7) ∨ a = 55 ∨ a = 56 ∨ a = 57
theorem pq_no {V : Nat → Int} {c : Nat} (h : ¬ ((cB c : Int) < V 0 ∧ cA c < cB c)) : sPq V c = false := by
  unfold sPq sBy
  rw [if_neg h]
  rfl
section Quar
variable {V : Nat → Int} {h : AH} {v : Nat}
theorem c_add {c : Nat} (hV : VOK V) (hQ : QG V h c) (hl : fc (sPq V) c < 168) : ∃ h1, f4_add c (sBy V c) (tkC c) h = some (0, h1) ∧ Ky kQu h h1 ∧ QG V h1 (c + 1) := by
  have r := sBy_rng hV c
  unfold f4_add
  rw [w32_id (x := sBy V c) (by omega) (by omega)]
  by_cases q : sBy V c ≤ 0
  · rw [if_pos q]
    refine ⟨h, rfl, Ky.rf h, hQ.skip (by omega) (fun j h1 h2 => ?_)⟩
    rw [show j = c by omega]
    unfold sPq
    exact decide_eq_false (by omega)
  · have hp : sPq V c = true := decide_eq_true (by omega)
    rw [if_neg q, hQ.1, w32_id (x := (fc (sPq V) c : Int)) (by omega) (by omega), if_neg (by omega), asrt_t (by omega), lt_eq, wr_e (by omega), hQ.1, w32_id (x := (fc (sPq V) c : Int)) (by omega) (by omega), asrt_t (by omega), lt_eq, wr_e (by omega), wr_e (by omega), hQ.1, w32_id (x := (fc (sPq V) c : Int)) (by omega) (by omega), asrt_t (by omega), lt_eq, lt_eq, wr_e (by omega), wr_e (by omega), wr_e (by omega), hQ.1, Int.toNat_natCast]
    refine ⟨_, rfl, (((Ky.w1 (Or.inr (Or.inl rfl))).w2 (Or.inr (Or.inr (Or.inl rfl)))).w2 (Or.inr (Or.inr (Or.inr rfl)))).w2 (Or.inl ⟨rfl, rfl⟩), ?_, fun j h1 h2 => ?_⟩
    · rw [wr_at, fc_s1 hp]; rfl
    · rcases Nat.lt_or_ge j c with z | z
      · have := fc_mono (p := sPq V) (show j + 1 ≤ c by omega)
        rw [fc_s1 h2] at this
        simp (disch := omega) only [wr_e]
        exact hQ.2 j z h2
      · rw [show j = c by omega]
        simp (disch := omega) only [wr_e, wr_at]
        exact ⟨trivial, trivial, trivial⟩
theorem c_gatherQ (hV : VOK V) (hc : VC h.2 v V) (hv : v + 5 < 28) : ∃ h1, f4_gather v h = some (0, h1) ∧ Ky kQu h h1 ∧ QG V h1 (100 * (V 1).toNat) ∧ fc (sPq V) (100 * (V 1).toNat) ≤ 168 := by
  have v0 := hV.1
  have v1 := hV.2.1
  unfold f4_gather l4_gather_7
  rw [lt_eq]
  refine fr (fun X => ∃ h1, X = some (0, h1) ∧ Ky kQu h h1 ∧ QG V h1 (100 * (V 1).toNat) ∧ fc (sPq V) (100 * (V 1).toNat) ≤ 168) (fun (s : AH) i => (i, s)) (fun s w => Ky kQu h w ∧ QG V w (100 * s) ∧ fc (sPq V) (100 * s) ≤ 28 * s) 0 (V 1).toNat (wr h 53 7 0) ⟨Ky.w1 (Or.inl ⟨rfl, rfl⟩), ⟨wr_at, fun j hj => by omega⟩, Nat.le_refl _⟩ (by omega) (by omega) (fun s w _ hs hI rec => ?_) (fun w hI rec => ?_)
  · right
    obtain ⟨i1, i2, i3⟩ := hI
    have hc2 : VC w.2 v V := i1.vc (fun a k _ _ => by unfold kQu; omega) hc
    unfold b4_gather_7 l4_gather_17
    dsimp only
    rw [hc2.2.1, w32_id (x := V 1) (by omega) (by omega), w32_id (x := (s : Int)) (by omega) (by omega), if_neg (by omega)]
    refine fr (fun X => ∃ s1, (Ky kQu h s1 ∧ QG V s1 (100 * (s + 1)) ∧ fc (sPq V) (100 * (s + 1)) ≤ 28 * (s + 1)) ∧ X = rec ((s : Int) + 1, s1)) (fun (s : AH) i => (i, s)) (fun a w => Ky kQu h w ∧ QG V w (100 * s + 10 * a) ∧ fc (sPq V) (100 * s + 10 * a) ≤ 28 * s + tri a) 0 (V 0).toNat w ⟨i1, i2, i3⟩ (by omega) (by omega) (fun a w _ ha hI rec2 => ?_) (fun w hI rec2 => ?_)
    · right
      obtain ⟨j1, j2, j3⟩ := hI
      have hc3 : VC w.2 v V := j1.vc (fun a k _ _ => by unfold kQu; omega) hc
      have ta : tri (a + 1) = tri a + (7 - a) := rfl
      have tl := tri_le (a + 1) (by omega)
      have no : ∀ j, 100 * s + 10 * a ≤ j → j < 100 * s + 10 * a + (a + 1) → sPq V j = false := fun j h1 h2 => pq_no (fun z => by unfold cA cB at z; omega)
      unfold b4_gather_17 l4_gather_30
      dsimp only
      rw [hc3.1, w32_id (x := V 0) (by omega) (by omega), w32_id (x := (a : Int)) (by omega) (by omega), if_neg (by omega), lt_eq]
      refine fr (fun X => ∃ s1, (Ky kQu h s1 ∧ QG V s1 (100 * s + 10 * (a + 1)) ∧ fc (sPq V) (100 * s + 10 * (a + 1)) ≤ 28 * s + tri (a + 1)) ∧ X = rec2 ((a : Int) + 1, s1)) (fun (s : AH) i => (i, s)) (fun b w => Ky kQu h w ∧ QG V w (100 * s + 10 * a + b) ∧ fc (sPq V) (100 * s + 10 * a + b) ≤ 28 * s + tri a + (b - (a + 1))) (a + 1) (V 0).toNat w ⟨j1, j2.skip (by omega) no, by rw [fc_skip (a := 100 * s + 10 * a) (by omega) no]; omega⟩ (by omega) (by omega) (fun b w hb1 hb hI rec3 => ?_) (fun w hI rec3 => ?_)
      · right
        obtain ⟨l1, l2, l3⟩ := hI
        have hc4 : VC w.2 v V := l1.vc (fun a k _ _ => by unfold kQu; omega) hc
        obtain ⟨h1, a1, a2, a3⟩ := c_add hV l2 (by omega)
        have e1 : cA (100 * s + 10 * a + b) = a := cA_mk (by omega) (by omega)
        have e2 : cB (100 * s + 10 * a + b) = b := cB_mk (by omega)
        have e3 : cS (100 * s + 10 * a + b) = s := cS_mk (by omega) (by omega)
        have e4 : sBy V (100 * s + 10 * a + b) = sBurn V (a : Int) (b : Int) (s : Int) := by
          unfold sBy
          rw [e1, e2, e3, if_pos (by omega)]
        have e5 : ((tkC (100 * s + 10 * a + b) : Nat) : Int) = or32 (shl32 (or32 (shl32 1 (a : Int)) (shl32 1 (b : Int))) 6) (shl32 1 (s : Int)) := by
          unfold tkC
          rw [e1, e2, e3, tk_or a (by omega) b (by omega) s (by omega)]
        rw [e4, e5] at a1
        refine ⟨h1, ⟨l1.tr a2, a3, ?_⟩, ?_⟩
        · have : fc (sPq V) (100 * s + 10 * a + b + 1) ≤ fc (sPq V) (100 * s + 10 * a + b) + 1 := by
            simp only [fc]; split <;> omega
          show fc (sPq V) (100 * s + 10 * a + b + 1) ≤ _
          omega
        · unfold b4_gather_30
          dsimp only
          rw [hc4.1, w32_id (x := V 0) (by omega) (by omega), w32_id (x := (b : Int)) (by omega) (by omega), if_neg (by omega), lt_eq, v_burn hV hc4, bnd_some, w32_id (x := (a : Int)) (by omega) (by omega), w32_id (x := (b : Int)) (by omega) (by omega), w32_id (x := (s : Int)) (by omega) (by omega), show 100 * (s : Int) + 10 * (a : Int) + b = ((100 * s + 10 * a + b : Nat) : Int) by omega, a1, bnd_some]
      · obtain ⟨l1, l2, l3⟩ := hI
        have hc4 : VC w.2 v V := l1.vc (fun a k _ _ => by unfold kQu; omega) hc
        have no2 : ∀ j, 100 * s + 10 * a + (V 0).toNat ≤ j → j < 100 * s + 10 * (a + 1) → sPq V j = false := fun j h1 h2 => pq_no (fun z => by unfold cA cB at z; omega)
        refine ⟨w, ⟨l1, l2.skip (by omega) no2, by rw [fc_skip (a := 100 * s + 10 * a + (V 0).toNat) (by omega) no2]; omega⟩, ?_⟩
        unfold b4_gather_30
        dsimp only
        rw [hc4.1, w32_id (x := V 0) (by omega) (by omega), w32_id (x := ((V 0).toNat : Int)) (by omega) (by omega), if_pos (by omega)]
    · obtain ⟨j1, j2, j3⟩ := hI
      have hc3 : VC w.2 v V := j1.vc (fun a k _ _ => by unfold kQu; omega) hc
      have tl := tri_le (V 0).toNat (by omega)
      have no : ∀ j, 100 * s + 10 * (V 0).toNat ≤ j → j < 100 * (s + 1) → sPq V j = false := fun j h1 h2 => pq_no (fun z => by unfold cA cB at z; omega)
      refine ⟨w, ⟨j1, j2.skip (by omega) no, by rw [fc_skip (a := 100 * s + 10 * (V 0).toNat) (by omega) no]; omega⟩, ?_⟩
      unfold b4_gather_17
      dsimp only
      rw [hc3.1, w32_id (x := V 0) (by omega) (by omega), w32_id (x := ((V 0).toNat : Int)) (by omega) (by omega), if_pos (by omega)]
  · obtain ⟨i1, i2, i3⟩ := hI
    have hc2 : VC w.2 v V := i1.vc (fun a k _ _ => by unfold kQu; omega) hc
    refine ⟨w, ?_, i1, i2, by omega⟩
    unfold b4_gather_7
    dsimp only
    rw [hc2.2.1, w32_id (x := V 1) (by omega) (by omega), w32_id (x := ((V 1).toNat : Int)) (by omega) (by omega), if_pos (by omega)]
theorem m_burnsBy (hV : VOK V) (hm : VM h.2 V) {c : Nat} (hc : (c : Int) < 100 * V 1) : f11_burnsBy c h = some (sBy V c, h) := by
  have v0 := hV.1
  have v1 := hV.2.1
  unfold f11_burnsBy sBy cA cB cS
  rw [vm_P hm, rm32_nn (x := (c : Int)) (by omega) (by omega), dv32_nn (x := (c : Int)) (by omega) (by omega), dv32_nn (x := (c : Int)) (by omega) (by omega), rm32_nn (by omega) (by omega), show (c : Int) % 10 = ((c % 10 : Nat) : Int) by omega, show (c : Int) / 10 % 10 = ((c / 10 % 10 : Nat) : Int) by omega, show (c : Int) / 100 = ((c / 100 : Nat) : Int) by omega, w32_id (x := V 0) (by omega) (by omega), w32_id (x := ((c % 10 : Nat) : Int)) (by omega) (by omega), w32_id (x := ((c / 10 % 10 : Nat) : Int)) (by omega) (by omega)]
  by_cases q : ((c % 10 : Nat) : Int) < V 0 ∧ c / 10 % 10 < c % 10
  · rw [if_neg (by omega), if_neg (by omega), if_pos q, m_burns hV hm _ _ _ (by omega) (by omega) (by omega) (by omega), bnd_some]
  · rw [if_neg q]
    by_cases z : V 0 ≤ ((c % 10 : Nat) : Int)
    · rw [if_pos z]
    · rw [if_neg z, if_pos (by omega)]
end Quar
