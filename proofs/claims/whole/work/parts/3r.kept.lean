/-! kept: what burns behind so many quarrels; hours that count -/
def sBeh (V : Nat → Int) (a b s : Int) (n : Nat) : Int := mx 0 (sGap V a b s) * sAft V s n
theorem sBeh_rng {V : Nat → Int} (hV : VOK V) (a b s : Int) (n : Nat) : 0 ≤ sBeh V a b s n ∧ sBeh V a b s n ≤ 81 := mul_rng (mx0_rng (sGap_rng hV a b s).2 (by omega)) (sAft_rng hV s (by omega))
theorem m_behind {h : AH} {V : Nat → Int} (hV : VOK V) (hm : VM h.2 V) (a b s : Int) (ha : 0 ≤ a ∧ a < V 0) (hb : 0 ≤ b ∧ b < V 0) (hs : 0 ≤ s ∧ s < V 1) (hab : a ≠ b) {n : Nat} (hn : n ≤ 100) : f11_burnsBehind a b s n h = some (sBeh V a b s n, h) := by
  have v1 := hV.2.1
  have q3 := hV.2.2.2.2.1 s.toNat (by omega)
  have g := sGap_rng hV a b s
  have nf := mul_rng (x := (n : Int)) (y := V (5 + 2 * s.toNat)) (a := 100) (b := 9) (by omega) (by omega)
  unfold f11_burnsBehind sBeh sAft
  rw [m_heat hm s (by omega), bnd_some, m_fades hm s (by omega), bnd_some, lt_eq, m_apart hV hm a b s ha hb hs hab, bnd_some, m_apart hV hm a b s ha hb hs hab, bnd_some, w32_id (x := (V (4 + 2 * s.toNat) - n * V (5 + 2 * s.toNat))) (by omega) (by omega), w32_id (x := sGap V a b s) (by omega) (by omega), if_pos hs]
  unfold mx
  by_cases c1 : V (4 + 2 * s.toNat) - n * V (5 + 2 * s.toNat) ≤ 0
  · rw [if_pos c1, if_neg (c := 0 < V (4 + 2 * s.toNat) - n * V (5 + 2 * s.toNat)) (by omega), Int.mul_zero]
  · rw [if_neg c1, if_pos (c := 0 < V (4 + 2 * s.toNat) - n * V (5 + 2 * s.toNat)) (by omega)]
    by_cases c2 : sGap V a b s ≤ 0
    · rw [if_pos c2, if_neg (by omega), Int.zero_mul]
    · rw [if_neg c2, if_pos (by omega)]
theorem sBeh_9 {V : Nat → Int} (hV : VOK V) {a b s : Int} (hs : 0 ≤ s ∧ s < V 1) : sBeh V a b s 9 = 0 := by
  have q3 := hV.2.2.2.2.1 s.toNat (by omega)
  unfold sBeh sAft
  rw [if_pos hs]
  have : mx 0 (V (4 + 2 * s.toNat) - ((9 : Nat) : Int) * V (5 + 2 * s.toNat)) = 0 := by
    unfold mx
    rw [if_neg (by omega)]
  rw [this, Int.mul_zero]
/-- whether k hours that count can follow, with n quarrels gone and so much warmth -/
def pth (B : Nat → Nat) (W C L : Nat) : Nat → Nat → Nat → Bool
  | 0, _, _ => true
  | k + 1, n, w => (decide (B n ≠ 0 ∧ W ≤ w + B n ∧ w + B n ≤ C) && pth B W C L k (n + 1) (w + B n - L)) || (decide (W ≤ w ∧ w ≤ C) && pth B W C L k n (w - L))
theorem pth_s {B : Nat → Nat} {W C L k n w : Nat} : pth B W C L (k + 1) n w = true ↔ ((B n ≠ 0 ∧ W ≤ w + B n ∧ w + B n ≤ C) ∧ pth B W C L k (n + 1) (w + B n - L) = true) ∨ ((W ≤ w ∧ w ≤ C) ∧ pth B W C L k n (w - L) = true) := by
  simp only [pth, Bool.or_eq_true, Bool.and_eq_true, decide_eq_true_eq]
theorem pth_rest {B : Nat → Nat} {W C n w : Nat} (hw : W ≤ w ∧ w ≤ C) (k : Nat) : pth B W C 0 k n w = true := by
  induction k with
  | zero => rfl
  | succ k ih => rw [pth_s]; right; exact ⟨hw, ih⟩
def good (B : Nat → Nat) (W C L n : Nat) (c : Nat → Int) (N : Nat) : Prop := ∀ w, w < N → (0 ≤ c w ∧ c w ≤ 99) ∧ (w ≤ C → ∀ k : Nat, k ≤ 99 → ((k : Int) ≤ c w ↔ pth B W C L k n w = true))
section Kept
variable {V : Nat → Int} {h : AH} {B : Nat → Nat} {W C L v q : Nat}
def KP3 (V : Nat → Int) (B : Nat → Nat) (W C L q : Nat) : Prop := (∀ n, B n ≤ 81) ∧ B 9 = 0 ∧ V (16 + 2 * q) = W ∧ V (17 + 2 * q) = C ∧ V 3 = L ∧ 1 ≤ W ∧ W ≤ C ∧ C ≤ 99 ∧ L ≤ 9 ∧ (q : Int) < V 2
theorem c_byQ (hV : VOK V) (hc : VC h.2 v V) (hk : KP3 V B W C L q) {n w : Nat} (hw : w < 100) (hl : B n ≠ 0 → good B W C L (n + 1) (h.2 61) 100) : ∃ r : Int, f3_byQuarrel v q w (B n) h = some (r, h) ∧ (0 ≤ r ∧ r ≤ 100) ∧ ∀ k : Nat, k + 1 ≤ 99 → (((k + 1 : Nat) : Int) ≤ r ↔ ((B n ≠ 0 ∧ W ≤ w + B n ∧ w + B n ≤ C) ∧ pth B W C L k (n + 1) (w + B n - L) = true)) := by
  obtain ⟨k1, k2, k3, k4, k5, k6, k7, k8, k9, k10⟩ := hk
  have b1 := k1 n
  have v2 := hV.2.2.1
  obtain ⟨c0, c1, c2, c3, c4, c5, c6⟩ := hc
  unfold f3_byQuarrel
  rw [lt_eq, w32_id (x := (B n : Int)) (by omega) (by omega), w32_id (x := (q : Int)) (by omega) (by omega), asrt_t (by omega), asrt_t (by omega), Int.toNat_natCast, (c5 q (by omega)).1, (c5 q (by omega)).2, c3, k3, k4, k5, w32_id (x := (w : Int) + (B n : Int)) (by omega) (by omega), w32_id (x := (W : Int)) (by omega) (by omega), w32_id (x := (C : Int)) (by omega) (by omega), max32_s (by omega) (by omega) (by omega) (by omega)]
  by_cases a : B n ≠ 0 ∧ W ≤ w + B n ∧ w + B n ≤ C
  · have gd := hl a.1 (w + B n - L) (by omega)
    have e : (if (0 : Int) < (w : Int) + (B n : Int) - L then (w : Int) + (B n : Int) - L else 0) = ((w + B n - L : Nat) : Int) := by split <;> omega
    rw [if_neg (by omega), if_neg (by omega), if_neg (by omega), if_pos (by omega), e, w32_id (x := ((w + B n - L : Nat) : Int)) (by omega) (by omega), asrt_t (by omega), Int.toNat_natCast]
    refine ⟨_, rfl, by omega, fun k hk => ?_⟩
    rw [← gd.2 (by omega) k (by omega)]
    constructor
    · intro z; exact ⟨a, by omega⟩
    · intro z; have := z.2; omega
  · refine ⟨0, ?_, by omega, fun k hk => ⟨fun z => by omega, fun z => absurd z.1 a⟩⟩
    repeat' split
    all_goals first | omega | rfl
theorem c_byR (hV : VOK V) (hc : VC h.2 v V) (hk : KP3 V B W C L q) {n w : Nat} (hw : w < 100) (hl : good B W C L n (h.2 60) w) : ∃ r : Int, f3_byRest v q w h = some (r, h) ∧ (0 ≤ r ∧ r ≤ 100) ∧ (w ≤ C → ∀ k : Nat, k + 1 ≤ 99 → (((k + 1 : Nat) : Int) ≤ r ↔ ((W ≤ w ∧ w ≤ C) ∧ pth B W C L k n (w - L) = true))) := by
  obtain ⟨k1, k2, k3, k4, k5, k6, k7, k8, k9, k10⟩ := hk
  have v2 := hV.2.2.1
  obtain ⟨c0, c1, c2, c3, c4, c5, c6⟩ := hc
  unfold f3_byRest
  rw [w32_id (x := (q : Int)) (by omega) (by omega), asrt_t (by omega), Int.toNat_natCast, (c5 q (by omega)).1, c3, k3, k5, w32_id (x := (W : Int)) (by omega) (by omega), w32_id (x := (w : Int)) (by omega) (by omega), w32_id (x := (L : Int)) (by omega) (by omega), max32_s (by omega) (by omega) (by omega) (by omega)]
  by_cases a : W ≤ w
  · rw [if_pos (by omega)]
    by_cases b : L = 0
    · rw [if_neg (by omega)]
      refine ⟨99, rfl, by omega, fun hC k hk => ⟨fun _ => ⟨⟨a, hC⟩, ?_⟩, fun _ => by omega⟩⟩
      subst b
      exact pth_rest ⟨a, hC⟩ k
    · have gd := hl (w - L) (by omega)
      have e : (if (0 : Int) < (w : Int) - L then (w : Int) - L else 0) = ((w - L : Nat) : Int) := by split <;> omega
      rw [if_pos (by omega), e, w32_id (x := ((w - L : Nat) : Int)) (by omega) (by omega), asrt_t (by omega), Int.toNat_natCast]
      refine ⟨_, rfl, by omega, fun hC k hk => ?_⟩
      rw [← gd.2 (by omega) k (by omega)]
      constructor
      · intro z; exact ⟨⟨a, hC⟩, by omega⟩
      · intro z; have := z.2; omega
  · rw [if_neg (by omega)]
    exact ⟨0, rfl, by omega, fun hC k hk => ⟨fun z => by omega, fun z => absurd z.1.1 a⟩⟩
def kKp (a _k : Nat) : Prop := a = 60 ∨ a = 61
theorem c_hours42 (hV : VOK V) (hc : VC h.2 v V) (hv : v + 5 < 28) (hk : KP3 V B W C L q) {n : Nat} {x2 x3 : Int} (hl : B n ≠ 0 → good B W C L (n + 1) (h.2 61) 100) (rec23 : Int × AH → Option (Int × AH)) : ∃ h1, l3_hours_42 rec23 v x2 x3 q n (B n) 0 h = rec23 ((n : Int) + (-1), h1) ∧ Ky kKp h h1 ∧ good B W C L n (h1.2 60) 100 ∧ good B W C L n (h1.2 61) 100 := by
  unfold l3_hours_42
  refine fr (fun X => ∃ h1, X = rec23 ((n : Int) + (-1), h1) ∧ Ky kKp h h1 ∧ good B W C L n (h1.2 60) 100 ∧ good B W C L n (h1.2 61) 100) (fun (s : AH) i => (i, s)) (fun i s => Ky kKp h s ∧ s.2 61 = h.2 61 ∧ good B W C L n (s.2 60) i) 0 100 h ⟨Ky.rf h, rfl, fun w hw => by omega⟩ (by omega) (by omega) (fun w s _ hw hI rec => ?_) (fun s hI rec => ?_)
  · right
    obtain ⟨i1, i2, i3⟩ := hI
    have hc2 : VC s.2 v V := i1.vc (fun a k _ _ => by unfold kKp; omega) hc
    obtain ⟨r1, a1, a2, a3⟩ := c_byQ hV hc2 hk (n := n) hw (fun z => by rw [i2]; exact hl z)
    obtain ⟨r2, b1, b2, b3⟩ := c_byR hV hc2 hk hw i3
    unfold b3_hours_42
    dsimp only
    rw [w32_id (x := (w : Int)) (by omega) (by omega), if_neg (by omega), a1, bnd_some, b1, bnd_some, lt_eq, max32_s (by omega) (by omega) (by omega) (by omega), asrt_t (by omega), lt_eq, Int.toNat_natCast]
    refine ⟨wr s 60 w (min32 99 (if r1 < r2 then r2 else r1)), ⟨i1.w2 (Or.inl rfl), ?_, fun y hy => ?_⟩, rfl⟩
    · rw [wr_ne (by decide)]; exact i2
    · have e : min32 99 (if r1 < r2 then r2 else r1) = if (if r1 < r2 then r2 else r1) < 99 then (if r1 < r2 then r2 else r1) else 99 := by
        rw [min32_s (by omega) (by omega) (by split <;> omega) (by split <;> omega)]
      by_cases z : y = w
      · subst z
        rw [wr_at, e]
        refine ⟨by repeat' split
                   all_goals omega, fun hC k hk2 => ?_⟩
        cases k with
        | zero => exact ⟨fun _ => rfl, fun _ => by repeat' split
                                                   all_goals omega⟩
        | succ k =>
          have a4 := a3 k hk2
          have b4 := b3 hC k hk2
          rw [pth_s, ← a4, ← b4]
          repeat' split
          all_goals omega
      · rw [wr_nk (by omega)]; exact i3 y (by omega)
  · obtain ⟨i1, i2, i3⟩ := hI
    unfold b3_hours_42
    dsimp only
    rw [if_pos (by decide), asrt_t (by decide), lt_eq, show (w32 0).toNat = 0 from rfl, show (w32 100).toNat = 100 from rfl]
    refine ⟨_, rfl, ⟨i1.1, fun a k hk => ?_⟩, fun w hw => ?_, fun w hw => ?_⟩
    · rw [cpy_e (by unfold kKp at hk; omega)]; exact i1.2 a k hk
    · rw [cpy_e (by omega)]; exact i3 w hw
    · rw [cpy_0 (by omega)]; exact i3 w hw
theorem c_hours (hV : VOK V) (hc : VC h.2 v V) (hv : v + 5 < 28) (hk : KP3 V B W C L q) {g s : Int} (hB : ∀ n : Nat, n ≤ 9 → g * sAft V (w32 s) n = B n) : ∃ (r : Nat) (h1 : AH), f3_hours v g s q h = some ((r : Int), h1) ∧ Ky kKp h h1 ∧ r ≤ 99 ∧ ∀ k : Nat, k ≤ 99 → (k ≤ r ↔ pth B W C L k 0 0 = true) := by
  have v2 := hV.2.2.1
  have k10 := hk.2.2.2.2.2.2.2.2.2
  unfold f3_hours
  rw [v_hasH hV hc, bnd_some, w32_id (x := (q : Int)) (by omega) (by omega), if_pos (c := 0 ≤ (q : Int) ∧ _) (by omega), if_pos (by rw [w32_1]; omega), c_fill 61 100 0 _ (by decide) (by omega), bnd_some]
  unfold l3_hours_23
  have f61 : Ky kKp h (fil h 61 0 100) := ⟨rfl, fun a k hk => fil_e (by unfold kKp at hk; omega)⟩
  refine wh (fun m (z : Int × AH) => Ky kKp h z.2 ∧ ((∃ n : Nat, m = n + 1 ∧ n ≤ 9 ∧ z.1 = (n : Int) ∧ (B n ≠ 0 → good B W C L (n + 1) (z.2.2 61) 100)) ∨ (m = 0 ∧ z.1 = -1 ∧ good B W C L 0 (z.2.2 60) 100))) (fun X => ∃ (r : Nat) (h1 : AH), X = some ((r : Int), h1) ∧ Ky kKp h h1 ∧ r ≤ 99 ∧ ∀ k : Nat, k ≤ 99 → (k ≤ r ↔ pth B W C L k 0 0 = true)) (fun m z hp rec => ?_) FU 10 (9, fil h 61 0 100) ⟨f61, Or.inl ⟨9, rfl, by omega, rfl, fun z => absurd hk.2.1 z⟩⟩ (FU_big (by omega))
  obtain ⟨z1, z⟩ := z
  obtain ⟨p1, p2⟩ := hp
  simp only at p1 p2
  have hc2 : VC z.2 v V := p1.vc (fun a k _ _ => by unfold kKp; omega) hc
  rcases p2 with ⟨n, n1, n2, n3, n4⟩ | ⟨n1, n2, n3⟩
  · right
    subst n3
    obtain ⟨h1, a1, a2, a3, a4⟩ := c_hours42 hV hc2 hv hk (x2 := g) (x3 := s) n4 rec
    refine ⟨n, ((n : Int) + (-1), h1), by omega, ⟨p1.tr a2, ?_⟩, ?_⟩
    · cases n with
      | zero => exact Or.inr ⟨rfl, rfl, a3⟩
      | succ n => exact Or.inl ⟨n, rfl, by omega, by simp only; omega, fun _ => a4⟩
    · unfold b3_hours_23
      dsimp only
      rw [w32_id (x := (n : Int)) (by omega) (by omega), if_neg (by omega), v_aft hV hc2 s n (by omega), bnd_some, lt_eq, hB n n2, a1]
  · left
    subst n2
    have g0 := n3 0 (by omega)
    unfold b3_hours_23
    dsimp only
    rw [if_pos (by decide), asrt_t (by decide), show (w32 0).toNat = 0 from rfl]
    refine ⟨(z.2 60 0).toNat, z, ?_, p1, by omega, fun k hk => ?_⟩
    · rw [Int.toNat_of_nonneg g0.1.1]
    · rw [← g0.2 (by omega) k hk]; omega
end Kept
