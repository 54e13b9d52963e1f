/-! tokens, pure -/
def isSp (x : Int) : Prop := x = 10 ∨ x = 32
def isLe (x : Int) : Prop := 97 ≤ x ∧ x ≤ 122
def isDi (x : Int) : Prop := 48 ≤ x ∧ x ≤ 57
/-- the token behind p: its kind (0 end, 1 word, 2 number, 3 semicolon, 4 none), where it begins and ends -/
def TK (n : Nat) (bt : Nat → Int) (p kd f t : Nat) : Prop := p ≤ f ∧ f ≤ n ∧ (∀ i, p ≤ i → i < f → isSp (bt i)) ∧
  ((f = n ∧ kd = 0 ∧ t = f) ∨ (f < n ∧ ¬ isSp (bt f) ∧
    ((isLe (bt f) ∧ kd = 1 ∧ f < t ∧ t ≤ n ∧ (∀ i, f ≤ i → i < t → isLe (bt i)) ∧ (t = n ∨ ¬ isLe (bt t))) ∨
     (isDi (bt f) ∧ f < t ∧ t ≤ n ∧ (∀ i, f ≤ i → i < t → isDi (bt i)) ∧ (t = n ∨ ¬ isDi (bt t)) ∧ kd = if t - f ≤ 2 then 2 else 4) ∨
     (¬ isLe (bt f) ∧ ¬ isDi (bt f) ∧ t = f + 1 ∧ kd = if bt f = 59 then 3 else 4))))
theorem run_uq {P : Nat → Prop} {n f t u : Nat} (h1 : ∀ i, f ≤ i → i < t → P i) (h2 : t = n ∨ ¬ P t) (g1 : ∀ i, f ≤ i → i < u → P i) (g2 : u = n ∨ ¬ P u) (ht : t ≤ n) (hu : u ≤ n) (hf : f ≤ t) (hg : f ≤ u) : t = u := by
  rcases Nat.lt_trichotomy t u with z | z | z
  · rcases h2 with h2 | h2
    · omega
    · exact absurd (g1 t hf z) h2
  · exact z
  · rcases g2 with g2 | g2
    · omega
    · exact absurd (h1 u hg z) g2
theorem TK.uq {n : Nat} {bt : Nat → Int} {p k f t k2 f2 t2 : Nat} (h : TK n bt p k f t) (g : TK n bt p k2 f2 t2) : k = k2 ∧ f = f2 ∧ t = t2 := by
  obtain ⟨a1, a2, a3, a4⟩ := h
  obtain ⟨b1, b2, b3, b4⟩ := g
  have ef : f = f2 := by
    refine run_uq (P := fun i => isSp (bt i)) a3 ?_ b3 ?_ a2 b2 a1 b1
    · rcases a4 with a4 | a4
      · exact Or.inl a4.1
      · exact Or.inr a4.2.1
    · rcases b4 with b4 | b4
      · exact Or.inl b4.1
      · exact Or.inr b4.2.1
  subst ef
  rcases a4 with ⟨x1, x2, x3⟩ | ⟨x1, x2, x3⟩
  · rcases b4 with ⟨y1, y2, y3⟩ | ⟨y1, y2, y3⟩
    · exact ⟨by omega, rfl, by omega⟩
    · omega
  · rcases b4 with ⟨y1, y2, y3⟩ | ⟨y1, y2, y3⟩
    · omega
    · unfold isLe isDi at *
      rcases x3 with ⟨c1, c2, c3, c4, c5, c6⟩ | ⟨c1, c2, c3, c4, c5, c6⟩ | ⟨c1, c2, c3, c4⟩
      · rcases y3 with ⟨d1, d2, d3, d4, d5, d6⟩ | ⟨d1, d2⟩ | ⟨d1, d2⟩
        · exact ⟨by omega, rfl, run_uq (P := fun i => isLe (bt i)) c5 c6 d5 d6 c4 d4 (by omega) (by omega)⟩
        · omega
        · exact absurd c1 d1
      · rcases y3 with ⟨d1, d2⟩ | ⟨d1, d2, d3, d4, d5, d6⟩ | ⟨d1, d2, d3⟩
        · omega
        · have e : t = t2 := run_uq (P := fun i => isDi (bt i)) c4 c5 d4 d5 c3 d3 (by omega) (by omega)
          subst e
          exact ⟨by rw [c6, d6], rfl, rfl⟩
        · exact absurd c1 d2
      · rcases y3 with ⟨d1, d2⟩ | ⟨d1, d2⟩ | ⟨d1, d2, d3, d4⟩
        · exact absurd d1 c1
        · exact absurd d1 c2
        · exact ⟨by rw [c4, d4], rfl, by omega⟩
theorem TK.rng {n : Nat} {bt : Nat → Int} {p k f t : Nat} (h : TK n bt p k f t) : p ≤ f ∧ f ≤ t ∧ t ≤ n ∧ (k ≠ 0 → f < t ∧ f < n) ∧ (k = 0 → f = n) ∧ k ≤ 4 := by
  obtain ⟨a1, a2, a3, a4⟩ := h
  rcases a4 with ⟨x1, x2, x3⟩ | ⟨x1, x2, ⟨c1, c2, c3, c4, c5, c6⟩ | ⟨c1, c2, c3, c4, c5, c6⟩ | ⟨c1, c2, c3, c4⟩⟩
  · exact ⟨by omega, by omega, by omega, fun z => by omega, fun _ => x1, by omega⟩
  · exact ⟨by omega, by omega, by omega, fun _ => by omega, fun z => by omega, by omega⟩
  · refine ⟨by omega, by omega, by omega, fun _ => by omega, fun z => ?_, ?_⟩
    · split at c6 <;> omega
    · split at c6 <;> omega
  · refine ⟨by omega, by omega, by omega, fun _ => by omega, fun z => ?_, ?_⟩
    · split at c4 <;> omega
    · split at c4 <;> omega
/-- letters as a number -/
def hsh (g : Nat → Int) : Nat → Int
  | 0 => 0
  | L + 1 => 32 * hsh g L + g L
theorem hsh_nn {g : Nat → Int} {L : Nat} (h : ∀ i, i < L → 1 ≤ g i ∧ g i ≤ 26) : 0 ≤ hsh g L := by
  induction L with
  | zero => exact Int.le_refl _
  | succ L ih =>
    have := ih (fun i hi => h i (by omega))
    have := h L (by omega)
    simp only [hsh]; omega
theorem hsh_inj {g k : Nat → Int} {L : Nat} : ∀ {M : Nat}, (∀ i, i < L → 1 ≤ g i ∧ g i ≤ 26) → (∀ i, i < M → 1 ≤ k i ∧ k i ≤ 26) → hsh g L = hsh k M → L = M ∧ ∀ i, i < L → g i = k i := by
  induction L with
  | zero =>
    intro M _ h2 e
    cases M with
    | zero => exact ⟨rfl, fun i hi => by omega⟩
    | succ M =>
      have := hsh_nn (fun i (hi : i < M) => h2 i (by omega))
      have := h2 M (by omega)
      simp only [hsh] at e
      omega
  | succ L ih =>
    intro M h1 h2 e
    cases M with
    | zero =>
      have := hsh_nn (fun i (hi : i < L) => h1 i (by omega))
      have := h1 L (by omega)
      simp only [hsh] at e
      omega
    | succ M =>
      have a := h1 L (by omega)
      have b := h2 M (by omega)
      simp only [hsh] at e
      obtain ⟨c1, c2⟩ := ih (M := M) (fun i hi => h1 i (by omega)) (fun i hi => h2 i (by omega)) (by omega)
      subst c1
      refine ⟨rfl, fun i hi => ?_⟩
      rcases Nat.lt_or_ge i L with z | z
      · exact c2 i z
      · rw [show i = L by omega]; omega
/-- the code of a word: 1 people .. 11 burned, 99 none -/
def wrd (k : Nat) (i : Nat) : Int := strAt (k + 2) i - 96
def wln (k : Nat) : Nat := (strLen (k + 2)).toNat
def wcs (k : Nat) : Int := [0, 542622085, 3653011, 21108167796, 273730184, 8892563, 18959911084, 1296549, 136665, 464627, 278194, 89733284].getD k 0
def wcN (v : Int) : Int := if v = 542622085 then 1 else if v = 3653011 then 2 else if v = 21108167796 then 3 else if v = 273730184 then 4 else if v = 8892563 then 5 else if v = 18959911084 then 6 else if v = 1296549 then 7 else if v = 136665 then 8 else if v = 464627 then 9 else if v = 278194 then 10 else if v = 89733284 then 11 else 99
def wcT (bt : Nat → Int) (f t : Nat) : Int := if t - f ≤ 8 then wcN (hsh (fun i => bt (f + i) - 96) (t - f)) else 99
theorem wrd_ok : ∀ k, k < 12 → 1 ≤ k → (strLen (k + 2) = (wln k : Int) ∧ wln k ≤ 8) ∧ ∀ i, i < wln k → 1 ≤ wrd k i ∧ wrd k i ≤ 26 := by decide
theorem hsh_c : ∀ k, k < 12 → 1 ≤ k → hsh (wrd k) (wln k) = wcs k := by decide
theorem wcs_inj : ∀ j, j < 12 → ∀ k, k < 12 → 1 ≤ j → 1 ≤ k → wcs j = wcs k → j = k := by decide
theorem wcN_cs (v : Int) : (∃ j, 1 ≤ j ∧ j < 12 ∧ v = wcs j ∧ wcN v = (j : Int)) ∨ ((∀ j, 1 ≤ j → j < 12 → v ≠ wcs j) ∧ wcN v = 99) := by
  by_cases e1 : v = 542622085
  · left; exact ⟨1, by omega, by omega, e1, by rw [e1]; rfl⟩
  by_cases e2 : v = 3653011
  · left; exact ⟨2, by omega, by omega, e2, by rw [e2]; rfl⟩
  by_cases e3 : v = 21108167796
  · left; exact ⟨3, by omega, by omega, e3, by rw [e3]; rfl⟩
  by_cases e4 : v = 273730184
  · left; exact ⟨4, by omega, by omega, e4, by rw [e4]; rfl⟩
  by_cases e5 : v = 8892563
  · left; exact ⟨5, by omega, by omega, e5, by rw [e5]; rfl⟩
  by_cases e6 : v = 18959911084
  · left; exact ⟨6, by omega, by omega, e6, by rw [e6]; rfl⟩
  by_cases e7 : v = 1296549
  · left; exact ⟨7, by omega, by omega, e7, by rw [e7]; rfl⟩
  by_cases e8 : v = 136665
  · left; exact ⟨8, by omega, by omega, e8, by rw [e8]; rfl⟩
  by_cases e9 : v = 464627
  · left; exact ⟨9, by omega, by omega, e9, by rw [e9]; rfl⟩
  by_cases e10 : v = 278194
  · left; exact ⟨10, by omega, by omega, e10, by rw [e10]; rfl⟩
  by_cases e11 : v = 89733284
  · left; exact ⟨11, by omega, by omega, e11, by rw [e11]; rfl⟩
  right
  refine ⟨fun j j1 j2 => ?_, ?_⟩
  · rcases (show j = 1 ∨ j = 2 ∨ j = 3 ∨ j = 4 ∨ j = 5 ∨ j = 6 ∨ j = 7 ∨ j = 8 ∨ j = 9 ∨ j = 10 ∨ j = 11 by omega) with rfl | rfl | rfl | rfl | rfl | rfl | rfl | rfl | rfl | rfl | rfl
    · exact e1
    · exact e2
    · exact e3
    · exact e4
    · exact e5
    · exact e6
    · exact e7
    · exact e8
    · exact e9
    · exact e10
    · exact e11
  · unfold wcN
    rw [if_neg e1, if_neg e2, if_neg e3, if_neg e4, if_neg e5, if_neg e6, if_neg e7, if_neg e8, if_neg e9, if_neg e10, if_neg e11]
theorem wcN_at {k : Nat} (h1 : 1 ≤ k) (h2 : k < 12) {v : Int} : wcN v = k ↔ v = wcs k := by
  rcases wcN_cs v with ⟨j, j1, j2, j3, j4⟩ | ⟨j1, j2⟩
  · rw [j4, j3]
    constructor
    · intro e; rw [show j = k by omega]
    · intro e; rw [wcs_inj j j2 k h2 j1 h1 e]
  · rw [j2]
    constructor
    · intro e; omega
    · intro e; exact absurd e (j1 k h1 h2)
theorem wcN_rng (v : Int) : (1 ≤ wcN v ∧ wcN v ≤ 11) ∨ wcN v = 99 := by
  rcases wcN_cs v with ⟨j, j1, j2, j3, j4⟩ | ⟨j1, j2⟩
  · left; omega
  · exact Or.inr j2
theorem ne64 {x y : Int} (hx : 0 ≤ x ∧ x < 9000000000000000000) (hy : 0 ≤ y ∧ y < 9000000000000000000) : (w32 (cmp64 x y) = 0) ↔ x = y := by
  rw [cmp64_s (by omega) (by omega) (by omega) (by omega)]
  repeat' split
  all_goals omega
theorem wk_1 (h : AH) : f11_eight 0 0 16 5 15 16 12 5 h = some (542622085, h) := rfl
theorem wk_2 (h : AH) : f11_eight 0 0 0 3 15 15 12 19 h = some (3653011, h) := rfl
theorem wk_3 (h : AH) : f11_eight 0 19 21 2 10 5 3 20 h = some (21108167796, h) := rfl
theorem wk_4 (h : AH) : f11_eight 0 0 8 5 1 18 20 8 h = some (273730184, h) := rfl
theorem wk_5 (h : AH) : f11_eight 0 0 0 8 15 12 4 19 h = some (8892563, h) := rfl
theorem wk_6 (h : AH) : f11_eight 0 17 21 1 18 18 5 12 h = some (18959911084, h) := rfl
theorem wk_7 (h : AH) : f11_eight 0 0 0 1 7 18 5 5 h = some (1296549, h) := rfl
theorem wk_8 (h : AH) : f11_four 4 5 14 25 h = some (136665, h) := rfl
theorem wk_9 (h : AH) : f11_four 14 5 23 19 h = some (464627, h) := rfl
theorem wk_10 (h : AH) : f11_four 8 15 21 18 h = some (278194, h) := rfl
theorem wk_11 (h : AH) : f11_eight 0 0 2 21 18 14 5 4 h = some (89733284, h) := rfl
theorem m_wordOf (x : Int) (hx : 0 ≤ x ∧ x < 9000000000000000000) (h : AH) : f11_wordOf x h = some (wcN x, h) := by
  unfold f11_wordOf wcN
  rw [wk_1, bnd_some]
  by_cases e1 : x = 542622085
  · rw [if_neg (fun w => w ((ne64 hx (by omega)).mpr e1)), if_pos e1]
  rw [if_pos (fun w => e1 ((ne64 hx (by omega)).mp w)), if_neg e1, wk_2, bnd_some]
  by_cases e2 : x = 3653011
  · rw [if_neg (fun w => w ((ne64 hx (by omega)).mpr e2)), if_pos e2]
  rw [if_pos (fun w => e2 ((ne64 hx (by omega)).mp w)), if_neg e2, wk_3, bnd_some]
  by_cases e3 : x = 21108167796
  · rw [if_neg (fun w => w ((ne64 hx (by omega)).mpr e3)), if_pos e3]
  rw [if_pos (fun w => e3 ((ne64 hx (by omega)).mp w)), if_neg e3, wk_4, bnd_some]
  by_cases e4 : x = 273730184
  · rw [if_neg (fun w => w ((ne64 hx (by omega)).mpr e4)), if_pos e4]
  rw [if_pos (fun w => e4 ((ne64 hx (by omega)).mp w)), if_neg e4, wk_5, bnd_some]
  by_cases e5 : x = 8892563
  · rw [if_neg (fun w => w ((ne64 hx (by omega)).mpr e5)), if_pos e5]
  rw [if_pos (fun w => e5 ((ne64 hx (by omega)).mp w)), if_neg e5, wk_6, bnd_some]
  by_cases e6 : x = 18959911084
  · rw [if_neg (fun w => w ((ne64 hx (by omega)).mpr e6)), if_pos e6]
  rw [if_pos (fun w => e6 ((ne64 hx (by omega)).mp w)), if_neg e6, wk_7, bnd_some]
  by_cases e7 : x = 1296549
  · rw [if_neg (fun w => w ((ne64 hx (by omega)).mpr e7)), if_pos e7]
  rw [if_pos (fun w => e7 ((ne64 hx (by omega)).mp w)), if_neg e7, wk_8, bnd_some]
  by_cases e8 : x = 136665
  · rw [if_neg (fun w => w ((ne64 hx (by omega)).mpr e8)), if_pos e8]
  rw [if_pos (fun w => e8 ((ne64 hx (by omega)).mp w)), if_neg e8, wk_9, bnd_some]
  by_cases e9 : x = 464627
  · rw [if_neg (fun w => w ((ne64 hx (by omega)).mpr e9)), if_pos e9]
  rw [if_pos (fun w => e9 ((ne64 hx (by omega)).mp w)), if_neg e9, wk_10, bnd_some]
  by_cases e10 : x = 278194
  · rw [if_neg (fun w => w ((ne64 hx (by omega)).mpr e10)), if_pos e10]
  rw [if_pos (fun w => e10 ((ne64 hx (by omega)).mp w)), if_neg e10, wk_11, bnd_some]
  by_cases e11 : x = 89733284
  · rw [if_neg (fun w => w ((ne64 hx (by omega)).mpr e11)), if_pos e11]
  rw [if_pos (fun w => e11 ((ne64 hx (by omega)).mp w)), if_neg e11]
