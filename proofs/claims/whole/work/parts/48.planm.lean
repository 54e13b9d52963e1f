/-! plan: the model tries row by row -/
section PlanM
variable {V : Nat → Int} {h : AH} {N : Nat}
def SL (q T : Nat) (s : Int) (c0 : Nat) (h : AH) : Prop := h.2 73 q = (c0 : Int) - 1 ∧ h.2 74 q = s ∧ ∃ PB UB : Nat, h.2 75 q = PB ∧ h.2 76 q = UB ∧ PB < 256 ∧ UB < 64 ∧ (∀ a, a < 8 → PB.testBit a = T.testBit (a + 6)) ∧ ∀ i, i < 6 → UB.testBit i = T.testBit i
theorem m_nextAt (hV : VOK V) (hN : N = 100 * (V 1).toNat) (hm : VM h.2 V) {q T c0 : Nat} {s : Int} (hq : (q : Int) < V 2) (hS : SL q T s c0 h) (hc0 : c0 ≤ N) : (f11_nextAt q ((c0 : Int) - 1) h = some (-1, h) ∧ ∀ c, c0 ≤ c → c < N → sFt V q T c = false) ∨ ∃ c, c0 ≤ c ∧ c < N ∧ sFt V q T c = true ∧ f11_nextAt q ((c0 : Int) - 1) h = some ((c : Int), h) ∧ ∀ d, c0 ≤ d → d < c → sFt V q T d = false := by
  have v0 := hV.1
  have v1 := hV.2.1
  have v2 := hV.2.2.1
  have hw := hV.2.2.2.2.2.1 q hq
  obtain ⟨-, -, PB, UB, s1, s2, s3, s4, s5, s6⟩ := hS
  unfold f11_nextAt l11_nextAt_4
  rw [lt_eq, show (c0 : Int) - 1 + 1 = c0 by omega]
  refine fr (fun X => (X = some (-1, h) ∧ ∀ c, c0 ≤ c → c < N → sFt V q T c = false) ∨ ∃ c, c0 ≤ c ∧ c < N ∧ sFt V q T c = true ∧ X = some ((c : Int), h) ∧ ∀ d, c0 ≤ d → d < c → sFt V q T d = false) (fun (_ : Unit) i => (i, h)) (fun c _ => ∀ d, c0 ≤ d → d < c → sFt V q T d = false) c0 N () (fun d d1 d2 => by omega) hc0 (by omega) (fun c _ hc1 hc hI rec => ?_) (fun _ hI rec => ?_)
  · have r := sBy_rng hV c
    have mw := m_wants hm q (by omega)
    have mc := m_cracks hm q (by omega)
    rw [Int.toNat_natCast] at mw mc
    have key : b11_nextAt_4 rec q c h = if sFt V q T c then some ((c : Int), h) else rec ((c : Int) + 1, h) := by
      unfold b11_nextAt_4 b11_nextAt_128
      rw [vm_S hm, w32_id (x := (100 * V 1)) (by omega) (by omega), w32_id (x := (c : Int)) (by omega) (by omega), if_neg (by omega), lt_eq, lt_eq, lt_eq, rm32_nn (x := (c : Int)) (by omega) (by omega), dv32_nn (x := (c : Int)) (by omega) (by omega), dv32_nn (x := (c : Int)) (by omega) (by omega), rm32_nn (x := (c : Int) / 10) (by omega) (by omega), show (c : Int) % 10 = ((cB c : Nat) : Int) by unfold cB; omega, show (c : Int) / 10 % 10 = ((cA c : Nat) : Int) by unfold cA; omega, show (c : Int) / 100 = ((cS c : Nat) : Int) by unfold cS; omega, vm_P hm, w32_id (x := V 0) (by omega) (by omega), w32_id (x := (q : Int)) (by omega) (by omega), asrt_t (by omega), asrt_t (by omega), asrt_t (by omega), Int.toNat_natCast, s1, s2]
      have bA : cA c < 10 := by unfold cA; omega
      have bB : cB c < 10 := by unfold cB; omega
      have bS : cS c < 6 := by unfold cS; omega
      have bS2 : (cS c : Int) < V 1 := by unfold cS; omega
      rw [w32_id (x := ((cB c : Nat) : Int)) (by omega) (by omega), w32_id (x := ((cA c : Nat) : Int)) (by omega) (by omega), bit_s (by omega) (by omega), bit_s (by omega) (by omega), bit_s (by omega) (by omega), ite_b, ite_b, ite_b]
      by_cases g1 : (cB c : Int) ≤ cA c
      · have : sFt V q T c = false := by
          unfold sFt
          rw [pq_no (by omega)]; rfl
        rw [if_pos g1, this]; rfl
      rw [if_neg g1]
      by_cases g2 : V 0 ≤ (cB c : Int)
      · have : sFt V q T c = false := by
          unfold sFt
          rw [pq_no (by omega)]; rfl
        rw [if_pos g2, this]; rfl
      rw [if_neg g2, s6 (cS c) bS, s5 (cA c) (by omega), s5 (cB c) (by omega)]
      have eb : sBurn V (cA c : Int) (cB c : Int) (cS c : Int) = sBy V c := by
        unfold sBy
        rw [if_pos (by omega)]
      rw [m_burns hV hm _ _ _ (by omega) (by omega) (by omega) (by omega), bnd_some, mw, bnd_some, mc, bnd_some, m_isIn, bnd_some, eb, w32_id (x := sBy V c) (by omega) (by omega), w32_id (x := V (16 + 2 * q)) (by omega) (by omega), w32_id (x := V (17 + 2 * q)) (by omega) (by omega)]
      have tz := tk_z (a := cA c) (b := cB c) (s := cS c) (T := T)
      by_cases f : sFt V q T c = true
      · obtain ⟨f1, f2, f3⟩ := ft_in f
        obtain ⟨y1, y2, y3⟩ := tz.mp f2
        rw [y1, y2, y3, if_neg (by decide), if_neg (by decide), if_pos (by decide), if_pos (c := V (16 + 2 * q) ≤ sBy V c ∧ _) f3, ite_w1, f]; rfl
      · have f0 := Bool.eq_false_iff.mpr f
        rw [f0]
        cases y3 : T.testBit (cS c)
        · rw [if_neg (by decide)]
          cases y1 : T.testBit (cA c + 6)
          · rw [if_neg (by decide)]
            cases y2 : T.testBit (cB c + 6)
            · rw [if_pos (by decide)]
              by_cases g3 : V (16 + 2 * q) ≤ sBy V c ∧ sBy V c ≤ V (17 + 2 * q)
              · exact absurd (ft_mk (decide_eq_true (by omega)) (tz.mpr ⟨y1, y2, y3⟩) g3) f
              · rw [if_neg g3, ite_w0]; rfl
            · rw [if_neg (by decide)]; rfl
          · rw [if_pos (by decide)]; rfl
        · rw [if_pos (by decide)]; rfl
    show _ ∨ _
    dsimp only
    rw [key]
    cases f : sFt V q T c
    · right
      refine ⟨(), fun d d1 d2 => ?_, rfl⟩
      rcases Nat.lt_or_ge d c with y | y
      · exact hI d d1 y
      · rw [show d = c by omega]; exact f
    · left
      right
      exact ⟨c, hc1, hc, f, rfl, hI⟩
  · left
    refine ⟨?_, fun c h1 h2 => hI c h1 h2⟩
    unfold b11_nextAt_4
    dsimp only
    rw [vm_S hm, w32_id (x := (100 * V 1)) (by omega) (by omega), w32_id (x := (N : Int)) (by omega) (by omega), if_pos (by omega)]
theorem rms_skip {ok : Nat → Bool} {f : Nat → Int} {N k c : Nat} (hk : k ≤ N) (hc1 : N - k ≤ c) (hc : c ≤ N) (h : ∀ d, N - k ≤ d → d < c → ok d = false) : rms ok f N k = rms ok f N (N - c) := by
  induction k with
  | zero => rw [show N - c = 0 by omega]
  | succ k ih =>
    rcases Nat.lt_or_ge (N - (k + 1)) c with y | y
    · simp only [rms]
      rw [h (N - (k + 1)) (Nat.le_refl _) y, if_neg (fun w => absurd w.1 (by decide))]
      exact ih (by omega) (by omega) (fun d d1 d2 => h d (by omega) d2)
    · rw [show N - c = k + 1 by omega]
def kD (q a k : Nat) : Prop := (73 ≤ a ∧ a ≤ 76 ∧ q < k) ∨ (a = 73 ∧ k = q) ∨ a = 77
theorem VM.kd {w : AH} {q : Nat} (hm : VM h.2 V) (k : Ky (kD q) h w) : VM w.2 V := k.vm (fun k _ _ => by unfold kD; omega) (fun k => by unfold kD; omega) hm
def BOK (B : Int) : Prop := B = -1 ∨ (0 ≤ B ∧ B < 1000)
def Bv (B : Int) : Int := if B = -1 then 1000 else B
theorem Bv_1 {B : Int} (h : BOK B) : 0 ≤ Bv B ∧ Bv B ≤ 1000 := by
  unfold Bv
  rcases h with h | h
  · rw [if_pos h]; omega
  · split <;> omega
/-- what the tries at q leave -/
def RDf (H q : Nat) (s : Int) (B B1 : Int) (h h1 : AH) (z : Int) (g : Nat → Int) : Prop :=
  (s + z < Bv B → B1 = s + z ∧ (∀ i, i < q → h1.2 77 i = h.2 73 i) ∧ ∀ j, q + j < H → h1.2 77 (q + j) = g j) ∧
  (¬ s + z < Bv B → B1 = B ∧ ∀ i, i < H → h1.2 77 i = h.2 77 i)
def Dn : Nat → Nat
  | 0 => 1
  | m + 1 => 1 + 600 * (1 + Dn m)
abbrev PZt : Type := Int × Int × AH
def FPl (rec : PZt → Option (Int × AH)) (z : PZt) : Option (Int × AH) := b11_plansOf_32 rec z.1 z.2.1 z.2.2
theorem m_lv0 (hV : VOK V) (hm : VM h.2 V) {s B : Int} (hs : 0 ≤ s ∧ s ≤ 324) (hB : BOK B) (hs74 : h.2 74 (V 2).toNat = s) : ∃ (B1 : Int) (h1 : AH), (∀ rec, FPl rec (B, ((V 2).toNat : Int), h) = rec (B1, ((V 2).toNat : Int) + (-1), h1)) ∧ BOK B1 ∧ Ky (fun a _ => a = 77) h h1 ∧ RDf (V 2).toNat (V 2).toNat s B B1 h h1 0 (fun _ => 0) := by
  have v2 := hV.2.2.1
  have bb := Bv_1 hB
  have cut : ∀ (rec : PZt → Option (Int × AH)) (x : Int) (w : AH), b11_plansOf_108 rec x ((V 2).toNat : Int) 1 w = rec (x, ((V 2).toNat : Int) + (-1), w) := fun rec x w => by
    unfold b11_plansOf_108 b11_plansOf_127 b11_plansOf_142
    rw [if_pos (by decide), if_neg (fun y => y w32_m)]
  have head : ∀ rec, FPl rec (B, ((V 2).toNat : Int), h) = if s < Bv B then l11_plansOf_79 rec s ((V 2).toNat : Int) 1 0 h else rec (B, ((V 2).toNat : Int) + (-1), h) := fun rec => by
    unfold FPl b11_plansOf_32 b11_plansOf_49 b11_plansOf_69
    dsimp only
    rw [vm_H hm, w32_id (x := V 2) (by omega) (by omega), w32_id (x := ((V 2).toNat : Int)) (by omega) (by omega), if_neg (by omega), if_neg (fun y => y (by omega)), if_neg (by decide), asrt_t (by omega), asrt_t (by omega), Int.toNat_natCast, hs74, lt_eq, w32_id (x := s) (by omega) (by omega), cut]
    unfold Bv
    rcases hB with hB | hB
    · rw [hB, if_pos w32_m, if_pos rfl, if_pos (by omega)]
    · rw [w32_id (x := B) (by omega) (by omega), if_neg (c := B = -1) (by omega), if_neg (c := B = -1) (by omega)]
      by_cases y : s < B
      · rw [if_neg (by omega), if_pos y]
      · rw [if_pos (by omega), if_neg y]
  by_cases g : s < Bv B
  · have loop : ∃ h1, (∀ rec, l11_plansOf_79 rec s ((V 2).toNat : Int) 1 0 h = rec (s, ((V 2).toNat : Int) + (-1), h1)) ∧ Ky (fun a _ => a = 77) h h1 ∧ ∀ i, i < (V 2).toNat → h1.2 77 i = h.2 73 i := by
      let cp : Nat → AH := fun n => (h.1, fun a k => if a = 77 ∧ k < n then h.2 73 k else h.2 a k)
      have c0 : cp 0 = h := Prod.ext rfl (by funext a k; show (if a = 77 ∧ k < 0 then h.2 73 k else h.2 a k) = h.2 a k; rw [if_neg (by omega)])
      have cs : ∀ n, wr (cp n) 77 n ((cp n).2 73 n) = cp (n + 1) := fun n => Prod.ext rfl (by
        funext a k
        rw [wr_2]
        show (if a = 77 ∧ k = n then (if (73 : Nat) = 77 ∧ n < n then h.2 73 n else h.2 73 n) else if a = 77 ∧ k < n then h.2 73 k else h.2 a k) = if a = 77 ∧ k < n + 1 then h.2 73 k else h.2 a k
        rw [if_neg (c := (73 : Nat) = 77 ∧ n < n) (by omega)]
        by_cases y1 : a = 77 ∧ k = n
        · rw [if_pos y1, if_pos (by omega), y1.2]
        · rw [if_neg y1]
          by_cases y2 : a = 77 ∧ k < n
          · rw [if_pos y2, if_pos (by omega)]
          · rw [if_neg y2, if_neg (by omega)])
      have c69 : ∀ n k, (cp n).2 69 k = h.2 69 k := fun n k => by
        show (if (69 : Nat) = 77 ∧ k < n then h.2 73 k else h.2 69 k) = h.2 69 k
        rw [if_neg (by omega)]
      refine ⟨cp (V 2).toNat, fun rec => ?_, ⟨rfl, fun a k hk => if_neg (fun y => hk y.1)⟩, fun i hi => if_pos ⟨rfl, hi⟩⟩
      unfold l11_plansOf_79
      have key := fx_run (F := fun rec1 (z : Int × AH) => b11_plansOf_79 rec1 rec s ((V 2).toNat : Int) 1 z.1 z.2) (X := rec (s, ((V 2).toNat : Int) + (-1), cp (V 2).toNat)) (fun i => ((i : Int), cp i)) (V 2).toNat (fun i hi rec1 => ?_) (fun rec1 => ?_) (n := FU) (FU_big (by omega))
      · simp only [c0] at key
        exact key
      · unfold b11_plansOf_79
        dsimp only
        rw [c69, vm_H hm, w32_id (x := V 2) (by omega) (by omega), w32_id (x := (i : Int)) (by omega) (by omega), if_neg (by omega), asrt_t (by omega), asrt_t (by omega), lt_eq, Int.toNat_natCast, cs]
        rfl
      · unfold b11_plansOf_79
        dsimp only
        rw [c69, vm_H hm, w32_id (x := V 2) (by omega) (by omega), w32_id (x := ((V 2).toNat : Int)) (by omega) (by omega), if_pos (by omega), cut]
    obtain ⟨h1, l1, l2, l3⟩ := loop
    refine ⟨s, h1, fun rec => by rw [head, if_pos g, l1], Or.inr ⟨hs.1, by omega⟩, l2, fun _ => ⟨by omega, l3, fun j hj => by omega⟩, fun y => absurd (show s + 0 < Bv B by omega) y⟩
  · refine ⟨B, h, fun rec => by rw [head, if_neg g], hB, Ky.rf h, fun y => absurd (show s < Bv B by omega) g, fun _ => ⟨rfl, fun i _ => rfl⟩⟩
theorem m_down (hV : VOK V) (hN : N = 100 * (V 1).toNat) (hm : VM h.2 V) {q T c0 c : Nat} {s B : Int} (hq : (q : Int) < V 2) (hS : SL q T s c0 h) (hc : c < N) (hf : sFt V q T c = true) (hT : T < 16384) : ∃ w, (∀ rec, b11_plansOf_142 rec B q c h = rec (B, ((q + 1 : Nat) : Int), w)) ∧ SL (q + 1) (T ||| tkC c) (s + sBy V c) 0 w ∧ w.2 73 q = (c : Int) ∧ Ky (kD q) h w ∧ w.2 77 = h.2 77 := by
  have v0 := hV.1
  have v1 := hV.2.1
  have v2 := hV.2.2.1
  obtain ⟨s0, s01, PB, UB, s1, s2, s3, s4, s5, s6⟩ := hS
  obtain ⟨f1, f2, f3⟩ := ft_in hf
  have i := pq_in hV f1
  have bS := cS_lt hN hV hc
  have bS2 : (cS c : Int) < V 1 := by unfold cS; omega
  have k1 : Ky (kD q) h (wr h 73 q c) := Ky.w1 (Or.inr (Or.inl ⟨rfl, rfl⟩))
  have eb : sBurn V (cA c : Int) (cB c : Int) (cS c : Int) = sBy V c := by
    unfold sBy
    rw [if_pos ⟨i.2.2.1, i.1⟩]
  have mb := m_burns hV (hm.kd k1) (cA c) (cB c) (cS c) (by omega) (by omega) (by omega) (by omega)
  rw [eb] at mb
  have p1 := pow_lt256 (k := cA c) (by omega)
  have p2 := pow_lt256 (k := cB c) (by omega)
  have p3 : 2 ^ cS c < 64 := by
    have : 2 ^ cS c < 2 ^ 6 := Nat.pow_lt_pow_right (by omega) bS
    omega
  have o1 := or_lt256 s3 p1
  have o2 := or_lt256 o1 p2
  have o3 : UB ||| 2 ^ cS c < 64 := Nat.or_lt_two_pow (n := 6) s4 p3
  refine ⟨wr (wr (wr (wr (wr h 73 q c) 74 (q + 1) (s + sBy V c)) 75 (q + 1) ((PB ||| 2 ^ cA c ||| 2 ^ cB c : Nat) : Int)) 76 (q + 1) ((UB ||| 2 ^ cS c : Nat) : Int)) 73 (q + 1) (-1), fun rec => ?_, ?_, ?_, ?_, ?_⟩
  · unfold b11_plansOf_142
    rw [w32_id (x := (c : Int)) (by omega) (by omega), if_pos (by omega), w32_id (x := (q : Int)) (by omega) (by omega), asrt_t (by omega), Int.toNat_natCast, lt_eq, asrt_t (by omega), rm32_nn (x := (c : Int)) (by omega) (by omega), dv32_nn (x := (c : Int)) (by omega) (by omega), dv32_nn (x := (c : Int)) (by omega) (by omega), rm32_nn (x := (c : Int) / 10) (by omega) (by omega), show (c : Int) % 10 = ((cB c : Nat) : Int) by unfold cB; omega, show (c : Int) / 10 % 10 = ((cA c : Nat) : Int) by unfold cA; omega, show (c : Int) / 100 = ((cS c : Nat) : Int) by unfold cS; omega, mb, bnd_some, show (q : Int) + 1 = ((q + 1 : Nat) : Int) from rfl, w32_id (x := ((q + 1 : Nat) : Int)) (by omega) (by omega), asrt_t (by omega), lt_eq, asrt_t (by omega), asrt_t (by omega), lt_eq, asrt_t (by omega), asrt_t (by omega), lt_eq, asrt_t (by omega), lt_eq, Int.toNat_natCast]
    simp (disch := omega) only [wr_e]
    rw [s01, s1, s2, shl32_1 (by omega), shl32_1 (by omega), shl32_1 (by omega), or32_nat (by omega) (by omega), or32_nat (by omega) (by omega), or32_nat (by omega) (by omega)]
  · refine ⟨by rw [wr_at]; rfl, ?_, PB ||| 2 ^ cA c ||| 2 ^ cB c, UB ||| 2 ^ cS c, ?_, ?_, o2, o3, fun a ha => ?_, fun j hj => ?_⟩
    · simp (disch := omega) only [wr_e, wr_at]
    · simp (disch := omega) only [wr_e, wr_at]
    · simp (disch := omega) only [wr_e, wr_at]
    · rw [Nat.testBit_or, Nat.testBit_or, Nat.testBit_or, Nat.testBit_two_pow, Nat.testBit_two_pow, s5 a ha]
      unfold tkC
      rw [tk_tb, decide_eq_false (show ¬ cS c = a + 6 by omega)]
      by_cases y1 : cA c = a
      · rw [decide_eq_true y1, decide_eq_true (show cA c + 6 = a + 6 by omega)]; simp
      · rw [decide_eq_false y1, decide_eq_false (show ¬ cA c + 6 = a + 6 by omega)]
        by_cases y2 : cB c = a
        · rw [decide_eq_true y2, decide_eq_true (show cB c + 6 = a + 6 by omega)]; simp
        · rw [decide_eq_false y2, decide_eq_false (show ¬ cB c + 6 = a + 6 by omega)]; simp
    · rw [Nat.testBit_or, Nat.testBit_or, Nat.testBit_two_pow, s6 j hj]
      unfold tkC
      rw [tk_tb, decide_eq_false (show ¬ cA c + 6 = j by omega), decide_eq_false (show ¬ cB c + 6 = j by omega)]
      simp
  · simp (disch := omega) only [wr_e, wr_at]
  · refine ⟨rfl, fun a k hk => ?_⟩
    unfold kD at hk
    rw [wr_e (by omega), wr_e (by omega), wr_e (by omega), wr_e (by omega), wr_e (by omega)]
  · rw [wr_ne (by decide), wr_ne (by decide), wr_ne (by decide), wr_ne (by decide), wr_ne (by decide)]
end PlanM
