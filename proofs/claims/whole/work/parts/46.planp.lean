/-! plan: what is least, and the first that is -/
def sFt (V : Nat → Int) (q T c : Nat) : Bool := sPq V c && decide (tkC c &&& T = 0) && decide (V (16 + 2 * q) ≤ sBy V c ∧ sBy V c ≤ V (17 + 2 * q))
def rms (ok : Nat → Bool) (f : Nat → Int) (N : Nat) : Nat → Int × Int
  | 0 => (1000, -1)
  | k + 1 => if ok (N - (k + 1)) = true ∧ f (N - (k + 1)) < 1000 ∧ f (N - (k + 1)) ≤ (rms ok f N k).1 then (f (N - (k + 1)), ((N - (k + 1) : Nat) : Int)) else rms ok f N k
def LPl (V : Nat → Int) (N : Nat) : Nat → Nat → Nat → Int × Int
  | 0, _, _ => (0, -1)
  | m + 1, q, T => rms (sFt V q T) (fun c => sBy V c + (LPl V N m (q + 1) (T ||| tkC c)).1) N N
/-- the j-th of the plan -/
def plN (V : Nat → Int) (N : Nat) : Nat → Nat → Nat → Nat → Int
  | 0, _, _, _ => 0
  | m + 1, q, T, 0 => (LPl V N (m + 1) q T).2
  | m + 1, q, T, j + 1 => plN V N m (q + 1) (T ||| tkC (LPl V N (m + 1) q T).2.toNat) j
theorem rms_spec {ok : Nat → Bool} {f : Nat → Int} {N k : Nat} (hk : k ≤ N) : (rms ok f N k = (1000, -1) ∧ ∀ c, N - k ≤ c → c < N → ok c = true → 1000 ≤ f c) ∨ ∃ c, N - k ≤ c ∧ c < N ∧ ok c = true ∧ rms ok f N k = (f c, (c : Int)) ∧ f c < 1000 ∧ (∀ d, N - k ≤ d → d < c → ok d = true → f c < f d) ∧ ∀ d, N - k ≤ d → d < N → ok d = true → f c ≤ f d := by
  induction k with
  | zero => left; exact ⟨rfl, fun c h1 h2 => by omega⟩
  | succ k ih =>
    simp only [rms]
    by_cases g : ok (N - (k + 1)) = true ∧ f (N - (k + 1)) < 1000 ∧ f (N - (k + 1)) ≤ (rms ok f N k).1
    · rw [if_pos g]
      right
      refine ⟨N - (k + 1), Nat.le_refl _, by omega, g.1, rfl, g.2.1, fun d h1 h2 => by omega, fun d h1 h2 h3 => ?_⟩
      rcases Nat.lt_or_ge (N - (k + 1)) d with z | z
      · have g3 := g.2.2
        rcases ih (by omega) with ⟨i1, i2⟩ | ⟨c, i1, i2, i3, i4, i5, i6, i7⟩
        · have := i2 d (by omega) h2 h3
          rw [i1] at g3
          simp only at g3
          omega
        · have := i7 d (by omega) h2 h3
          rw [i4] at g3
          simp only at g3
          omega
      · rw [show d = N - (k + 1) by omega]; exact Int.le_refl _
    · rw [if_neg g]
      rcases ih (by omega) with ⟨i1, i2⟩ | ⟨c, i1, i2, i3, i4, i5, i6, i7⟩
      · left
        refine ⟨i1, fun d h1 h2 h3 => ?_⟩
        rcases Nat.lt_or_ge (N - (k + 1)) d with z | z
        · exact i2 d (by omega) h2 h3
        · have e : d = N - (k + 1) := by omega
          subst e
          rw [i1] at g
          simp only at g
          have : ¬ f (N - (k + 1)) < 1000 := fun y => g ⟨h3, y, by omega⟩
          omega
      · right
        refine ⟨c, by omega, i2, i3, i4, i5, fun d h1 h2 h3 => ?_, fun d h1 h2 h3 => ?_⟩
        · rcases Nat.lt_or_ge (N - (k + 1)) d with z | z
          · exact i6 d (by omega) h2 h3
          · have e : d = N - (k + 1) := by omega
            subst e
            rw [i4] at g
            simp only at g
            have : ¬ (f (N - (k + 1)) < 1000 ∧ f (N - (k + 1)) ≤ f c) := fun y => g ⟨h3, y⟩
            omega
        · rcases Nat.lt_or_ge (N - (k + 1)) d with z | z
          · exact i7 d (by omega) h2 h3
          · have e : d = N - (k + 1) := by omega
            subst e
            rw [i4] at g
            simp only at g
            have : ¬ (f (N - (k + 1)) < 1000 ∧ f (N - (k + 1)) ≤ f c) := fun y => g ⟨h3, y⟩
            omega
theorem LPl_rng {V : Nat → Int} (hV : VOK V) (N m q T : Nat) : 0 ≤ (LPl V N m q T).1 ∧ (LPl V N m q T).1 ≤ 1000 := by
  induction m generalizing q T with
  | zero => exact ⟨Int.le_refl _, show (0 : Int) ≤ 1000 by omega⟩
  | succ m ih =>
    show 0 ≤ (rms _ _ N N).1 ∧ (rms _ _ N N).1 ≤ 1000
    rcases rms_spec (ok := sFt V q T) (f := fun c => sBy V c + (LPl V N m (q + 1) (T ||| tkC c)).1) (N := N) (k := N) (Nat.le_refl _) with ⟨i1, -⟩ | ⟨c, i1, i2, i3, i4, i5, -, -⟩
    · rw [i1]; exact ⟨by simp, by simp⟩
    · rw [i4]
      have := sBy_rng hV c
      have := ih (q + 1) (T ||| tkC c)
      have i5 : sBy V c + (LPl V N m (q + 1) (T ||| tkC c)).1 < 1000 := i5
      show 0 ≤ sBy V c + (LPl V N m (q + 1) (T ||| tkC c)).1 ∧ sBy V c + (LPl V N m (q + 1) (T ||| tkC c)).1 ≤ 1000
      omega
/-- so many subjects, and twice so many people, are taken -/
def Vl (q T : Nat) : Prop := T < 16384 ∧ fc (fun i => T.testBit i) 6 = q ∧ fc (fun i => T.testBit (6 + i)) 8 = 2 * q
theorem ft_in {V : Nat → Int} {q T c : Nat} (h : sFt V q T c = true) : sPq V c = true ∧ tkC c &&& T = 0 ∧ V (16 + 2 * q) ≤ sBy V c ∧ sBy V c ≤ V (17 + 2 * q) := by
  unfold sFt at h
  rw [Bool.and_eq_true, Bool.and_eq_true, decide_eq_true_iff, decide_eq_true_iff] at h
  exact ⟨h.1.1, h.1.2, h.2⟩
theorem ft_mk {V : Nat → Int} {q T c : Nat} (h1 : sPq V c = true) (h2 : tkC c &&& T = 0) (h3 : V (16 + 2 * q) ≤ sBy V c ∧ sBy V c ≤ V (17 + 2 * q)) : sFt V q T c = true := by
  unfold sFt
  rw [h1, decide_eq_true h2, decide_eq_true h3]; rfl
theorem tk_z {a b s T : Nat} : (tkN a b s &&& T = 0) ↔ (T.testBit (a + 6) = false ∧ T.testBit (b + 6) = false ∧ T.testBit s = false) := by
  rw [and_z]
  constructor
  · intro h
    refine ⟨?_, ?_, ?_⟩
    · have := h (a + 6)
      rw [tk_tb] at this
      simpa using this
    · have := h (b + 6)
      rw [tk_tb] at this
      simpa using this
    · have := h s
      rw [tk_tb] at this
      simpa using this
  · intro ⟨h1, h2, h3⟩ i ⟨p, q⟩
    rw [tk_tb] at p
    simp at p
    rcases p with (p | p) | p
    · rw [← p, h1] at q; exact absurd q (by decide)
    · rw [← p, h2] at q; exact absurd q (by decide)
    · rw [← p, h3] at q; exact absurd q (by decide)
theorem fc_one {p q : Nat → Bool} {m c : Nat} (hc : c < m) (hp : p c = true) (hq : ∀ i, i < m → q i = (p i && decide (i ≠ c))) : fc q m + 1 = fc p m := by
  induction m with
  | zero => omega
  | succ m ih =>
    rcases Nat.lt_or_ge c m with z | z
    · have := ih z (fun i hi => hq i (by omega))
      have e := hq m (by omega)
      rw [decide_eq_true (show m ≠ c by omega), Bool.and_true] at e
      cases y : p m
      · rw [fc_s0 y, fc_s0 (by rw [e]; exact y)]; omega
      · rw [fc_s1 y, fc_s1 (by rw [e]; exact y)]; omega
    · have : c = m := by omega
      subst this
      have e := hq c (by omega)
      rw [decide_eq_false (show ¬ c ≠ c from fun y => y rfl), Bool.and_false] at e
      rw [fc_s1 hp, fc_s0 e, fc_cong (p := q) (q := p) (fun i hi => by rw [hq i (by omega), decide_eq_true (show i ≠ c by omega), Bool.and_true])]
theorem Vl.up {q T a b s : Nat} (hT : Vl q T) (hab : a < b) (hb : b < 8) (hs : s < 6) (h : tkN a b s &&& T = 0) : Vl (q + 1) (T ||| tkN a b s) := by
  obtain ⟨h1, h2, h3⟩ := hT
  obtain ⟨z1, z2, z3⟩ := tk_z.mp h
  have tb : ∀ i, (T ||| tkN a b s).testBit i = (T.testBit i || (decide (a + 6 = i) || decide (b + 6 = i) || decide (s = i))) := fun i => by rw [Nat.testBit_or, tk_tb]
  refine ⟨Nat.or_lt_two_pow (n := 14) h1 (tk_lt (by omega) hb hs), ?_, ?_⟩
  · have := fc_one (p := fun i => (T ||| tkN a b s).testBit i) (q := fun i => T.testBit i) (m := 6) (c := s) hs (by
      rw [tb s, decide_eq_true (show s = s from rfl)]; simp) (fun i hi => by
      rw [tb i, decide_eq_false (show ¬ a + 6 = i by omega), decide_eq_false (show ¬ b + 6 = i by omega)]
      by_cases y : i = s
      · subst y; rw [z3, decide_eq_true rfl]; simp
      · rw [decide_eq_false (show ¬ s = i by omega), decide_eq_true (show i ≠ s by omega)]; simp)
    omega
  · have := fre2 (p := fun i => (T ||| tkN a b s).testBit (6 + i)) (q := fun i => T.testBit (6 + i)) (n := 8) (a := a) (b := b) hab hb (by
      rw [tb (6 + a), decide_eq_true (show a + 6 = 6 + a by omega)]; simp) (by
      rw [tb (6 + b), decide_eq_true (show b + 6 = 6 + b by omega)]; simp) (fun i hi => by
      rw [tb (6 + i), decide_eq_false (show ¬ s = 6 + i by omega)]
      by_cases y : i = a
      · subst y
        rw [show 6 + i = i + 6 by omega, z1, decide_eq_true rfl, decide_eq_false (show ¬ i ≠ i from fun w => w rfl)]; simp
      · by_cases x : i = b
        · subst x
          rw [show 6 + i = i + 6 by omega, z2, decide_eq_true (show i + 6 = i + 6 from rfl), decide_eq_false (show ¬ i ≠ i from fun w => w rfl)]; simp
        · rw [decide_eq_false (show ¬ a + 6 = 6 + i by omega), decide_eq_false (show ¬ b + 6 = 6 + i by omega), decide_eq_true y, decide_eq_true x]; simp)
    omega
def keyN (T : Nat) : Nat := ((T >>> 7) <<< 6 ||| (T &&& 63)) &&& 8191
theorem key_tb (T i : Nat) : (keyN T).testBit i = (decide (i < 13) && ((decide (6 ≤ i) && T.testBit (i + 1)) || (T.testBit i && decide (i < 6)))) := by
  unfold keyN
  rw [Nat.testBit_and, Nat.testBit_or, Nat.testBit_and, Nat.testBit_shiftLeft, Nat.testBit_shiftRight, show 63 = 2 ^ 6 - 1 from rfl, show 8191 = 2 ^ 13 - 1 from rfl, Nat.testBit_two_pow_sub_one, Nat.testBit_two_pow_sub_one]
  by_cases z : 6 ≤ i
  · rw [decide_eq_true z, show 7 + (i - 6) = i + 1 by omega, Bool.and_comm (_ || _)]
  · rw [decide_eq_false z, Bool.and_comm (_ || _)]; simp
theorem key_lt (T : Nat) : keyN T < 8192 := by
  apply Nat.lt_pow_two_of_testBit (n := 13)
  intro i hi
  rw [key_tb, decide_eq_false (show ¬ i < 13 by omega)]
  rfl
theorem fc_head (p : Nat → Bool) (n : Nat) : fc p (n + 1) = (if p 0 then 1 else 0) + fc (fun i => p (i + 1)) n := by
  induction n with
  | zero =>
    show 0 + (if p 0 then 1 else 0) = (if p 0 then 1 else 0) + 0
    omega
  | succ n ih =>
    cases y : p (n + 1)
    · rw [fc_s0 y, fc_s0 (p := fun i => p (i + 1)) y, ih]
    · rw [fc_s1 y, fc_s1 (p := fun i => p (i + 1)) y, ih]; omega
theorem key_inj {q r T R : Nat} (hT : Vl q T) (hR : Vl r R) (h : keyN T = keyN R) : q = r ∧ T = R := by
  obtain ⟨t1, t2, t3⟩ := hT
  obtain ⟨r1, r2, r3⟩ := hR
  have lo : ∀ i, i < 6 → T.testBit i = R.testBit i := fun i hi => by
    have e1 := key_tb T i
    have e2 := key_tb R i
    rw [h, e2] at e1
    rw [decide_eq_true (show i < 13 by omega), decide_eq_false (show ¬ 6 ≤ i by omega), decide_eq_true hi] at e1
    simpa using e1.symm
  have hi7 : ∀ i, 7 ≤ i → T.testBit i = R.testBit i := fun i hi => by
    by_cases y : i < 14
    · obtain ⟨j, rfl⟩ : ∃ j, i = j + 1 := ⟨i - 1, by omega⟩
      have e1 := key_tb T j
      have e2 := key_tb R j
      rw [h, e2] at e1
      rw [decide_eq_true (show j < 13 by omega), decide_eq_true (show 6 ≤ j by omega), decide_eq_false (show ¬ j < 6 by omega)] at e1
      simpa using e1.symm
    · rw [Nat.testBit_lt_two_pow (Nat.lt_of_lt_of_le (show T < 2 ^ 14 by omega) (Nat.pow_le_pow_right (by omega) (show 14 ≤ i by omega))), Nat.testBit_lt_two_pow (Nat.lt_of_lt_of_le (show R < 2 ^ 14 by omega) (Nat.pow_le_pow_right (by omega) (show 14 ≤ i by omega)))]
  have eq : q = r := by rw [← t2, ← r2]; exact fc_cong (fun i hi => lo i hi)
  refine ⟨eq, ?_⟩
  have e6 : T.testBit 6 = R.testBit 6 := by
    rw [fc_head] at t3 r3
    have e7 : fc (fun i => T.testBit (6 + (i + 1))) 7 = fc (fun i => R.testBit (6 + (i + 1))) 7 := fc_cong (fun i _ => hi7 _ (by omega))
    simp only [Nat.add_zero] at t3 r3
    cases y1 : T.testBit 6 <;> cases y2 : R.testBit 6
    · rfl
    · rw [y1] at t3; rw [y2] at r3
      simp only [Bool.false_eq_true, if_false, if_true] at t3 r3
      omega
    · rw [y1] at t3; rw [y2] at r3
      simp only [Bool.false_eq_true, if_false, if_true] at t3 r3
      omega
    · rfl
  apply Nat.eq_of_testBit_eq
  intro i
  rcases Nat.lt_trichotomy i 6 with y | y | y
  · exact lo i y
  · rw [y]; exact e6
  · exact hi7 i y
theorem shl6 : ∀ x, x < 128 → shl32 (x : Nat) 6 = ((x <<< 6 : Nat) : Int) := by decide +kernel
theorem c_keyOf {T : Nat} (hT : T < 16384) (h : AH) : f4_keyOf T h = some ((keyN T : Int), h) := by
  have h1 : T >>> 7 < 128 := by rw [Nat.shiftRight_eq_div_pow]; omega
  have h2 : (T >>> 7) <<< 6 < 8192 := by rw [Nat.shiftLeft_eq]; omega
  have h3 : T &&& 63 < 64 := Nat.lt_of_le_of_lt Nat.and_le_right (by omega)
  unfold f4_keyOf keyN
  rw [show (7 : Int) = ((7 : Nat) : Int) from rfl, ush32_nat (by omega) (by omega), shl6 _ h1, lt_eq, show (63 : Int) = ((63 : Nat) : Int) from rfl, and32_nat (by omega) (by omega), lt_eq, or32_nat (by omega) (by omega), show (8191 : Int) = ((8191 : Nat) : Int) from rfl, and32_nat (or_lt31 (by omega) (by omega)) (by omega)]
