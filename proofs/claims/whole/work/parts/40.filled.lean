/-! filled -/
def sApt (c d : Nat) : Bool := decide (cS c ≠ cS d ∧ cA c ≠ cA d ∧ cA c ≠ cB d ∧ cB c ≠ cA d ∧ cB c ≠ cB d)
theorem tk_apt {a b s x y t : Nat} (hs : s < 6) (ht : t < 6) : (tkN a b s &&& tkN x y t = 0) ↔ (s ≠ t ∧ a ≠ x ∧ a ≠ y ∧ b ≠ x ∧ b ≠ y) := by
  rw [and_z]
  constructor
  · intro h
    refine ⟨fun e => ?_, fun e => ?_, fun e => ?_, fun e => ?_, fun e => ?_⟩
    · have := h s; rw [tk_tb, tk_tb] at this; simp [e] at this
    · have := h (a + 6); rw [tk_tb, tk_tb] at this; simp [e] at this
    · have := h (a + 6); rw [tk_tb, tk_tb] at this; simp [e] at this
    · have := h (b + 6); rw [tk_tb, tk_tb] at this; simp [e] at this
    · have := h (b + 6); rw [tk_tb, tk_tb] at this; simp [e] at this
  · intro h i hi
    rw [tk_tb, tk_tb] at hi
    simp at hi
    omega
theorem p2_apt {a b x y : Nat} : ((2 ^ b ||| 2 ^ a) &&& (2 ^ y ||| 2 ^ x) = 0) ↔ (a ≠ x ∧ a ≠ y ∧ b ≠ x ∧ b ≠ y) := by
  rw [and_z]
  constructor
  · intro h
    refine ⟨fun e => ?_, fun e => ?_, fun e => ?_, fun e => ?_⟩
    · have := h a; rw [Nat.testBit_or, Nat.testBit_or, Nat.testBit_two_pow, Nat.testBit_two_pow, Nat.testBit_two_pow, Nat.testBit_two_pow] at this; simp [e] at this
    · have := h a; rw [Nat.testBit_or, Nat.testBit_or, Nat.testBit_two_pow, Nat.testBit_two_pow, Nat.testBit_two_pow, Nat.testBit_two_pow] at this; simp [e] at this
    · have := h b; rw [Nat.testBit_or, Nat.testBit_or, Nat.testBit_two_pow, Nat.testBit_two_pow, Nat.testBit_two_pow, Nat.testBit_two_pow] at this; simp [e] at this
    · have := h b; rw [Nat.testBit_or, Nat.testBit_or, Nat.testBit_two_pow, Nat.testBit_two_pow, Nat.testBit_two_pow, Nat.testBit_two_pow] at this; simp [e] at this
  · intro h i hi
    rw [Nat.testBit_or, Nat.testBit_or, Nat.testBit_two_pow, Nat.testBit_two_pow, Nat.testBit_two_pow, Nat.testBit_two_pow] at hi
    simp at hi
    omega
theorem pq_in {V : Nat → Int} (hV : VOK V) {c : Nat} (hp : sPq V c = true) : cA c < cB c ∧ cB c < 8 ∧ (cB c : Int) < V 0 ∧ 0 < sBy V c := by
  have v0 := hV.1
  have h1 : 0 < sBy V c := of_decide_eq_true hp
  have h2 := h1
  unfold sBy at h2
  split at h2
  · omega
  · omega
theorem m_areApart {c d : Nat} (hc : c < 600) (hd : d < 600) (h : AH) : f11_areApart c d h = some (if sApt c d then 1 else 0, h) := by
  unfold f11_areApart sApt cA cB cS
  have p1 := pow_lt31 (k := c % 10) (by omega)
  have p2 := pow_lt31 (k := c / 10 % 10) (by omega)
  have p3 := pow_lt31 (k := d % 10) (by omega)
  have p4 := pow_lt31 (k := d / 10 % 10) (by omega)
  rw [lt_eq, lt_eq, rm32_nn (x := (c : Int)) (by omega) (by omega), dv32_nn (x := (c : Int)) (by omega) (by omega), dv32_nn (x := (c : Int)) (by omega) (by omega), rm32_nn (x := (c : Int) / 10) (by omega) (by omega), rm32_nn (x := (d : Int)) (by omega) (by omega), dv32_nn (x := (d : Int)) (by omega) (by omega), dv32_nn (x := (d : Int)) (by omega) (by omega), rm32_nn (x := (d : Int) / 10) (by omega) (by omega), show (c : Int) % 10 = ((c % 10 : Nat) : Int) by omega, show (c : Int) / 10 % 10 = ((c / 10 % 10 : Nat) : Int) by omega, show (c : Int) / 100 = ((c / 100 : Nat) : Int) by omega, show (d : Int) % 10 = ((d % 10 : Nat) : Int) by omega, show (d : Int) / 10 % 10 = ((d / 10 % 10 : Nat) : Int) by omega, show (d : Int) / 100 = ((d / 100 : Nat) : Int) by omega, w32_id (x := ((c / 100 : Nat) : Int)) (by omega) (by omega), w32_id (x := ((d / 100 : Nat) : Int)) (by omega) (by omega), shl32_1 (by omega), shl32_1 (by omega), shl32_1 (by omega), shl32_1 (by omega), or32_nat p1 p2, or32_nat p3 p4, and32_nat (or_lt31 p1 p2) (or_lt31 p3 p4)]
  have o1 := or_lt31 p1 p2
  have o2 : (2 ^ (c % 10) ||| 2 ^ (c / 10 % 10)) &&& (2 ^ (d % 10) ||| 2 ^ (d / 10 % 10)) < 2147483648 := Nat.lt_of_le_of_lt Nat.and_le_left o1
  rw [w32_id (x := (((2 ^ (c % 10) ||| 2 ^ (c / 10 % 10)) &&& (2 ^ (d % 10) ||| 2 ^ (d / 10 % 10)) : Nat) : Int)) (by omega) (by omega)]
  have z := p2_apt (a := c / 10 % 10) (b := c % 10) (x := d / 10 % 10) (y := d % 10)
  by_cases q : c / 100 = d / 100
  · rw [if_pos (by omega), decide_eq_false (by omega)]; rfl
  · rw [if_neg (by omega)]
    by_cases w : (2 ^ (c % 10) ||| 2 ^ (c / 10 % 10)) &&& (2 ^ (d % 10) ||| 2 ^ (d / 10 % 10)) = 0
    · rw [if_neg (by omega), decide_eq_true ⟨q, z.mp w⟩]; rfl
    · rw [if_pos (by omega), decide_eq_false (fun y => w (z.mpr y.2))]; rfl
theorem c_apart2 {V : Nat → Int} (hV : VOK V) {c d : Nat} (hc : c < 600) (hd : d < 600) (pc : sPq V c = true) (pd : sPq V d = true) : (w32 (and32 (tkC c) (tkC d)) = 0) ↔ sApt c d = true := by
  have i1 := pq_in hV pc
  have i2 := pq_in hV pd
  have s1 : cS c < 6 := by unfold cS; omega
  have s2 : cS d < 6 := by unfold cS; omega
  have l1 := tk_lt (a := cA c) (b := cB c) (s := cS c) (by omega) (by omega) s1
  have l2 := tk_lt (a := cA d) (b := cB d) (s := cS d) (by omega) (by omega) s2
  have l3 : tkN (cA c) (cB c) (cS c) &&& tkN (cA d) (cB d) (cS d) < 16384 := Nat.lt_of_le_of_lt Nat.and_le_left l1
  have z := tk_apt (a := cA c) (b := cB c) (x := cA d) (y := cB d) s1 s2
  unfold tkC
  rw [and32_nat (by omega) (by omega), w32_id (by omega) (by omega)]
  unfold sApt
  rw [decide_eq_true_iff, ← z]
  omega
theorem acf_inv {σ : Type} {p : Nat → Bool} {g : Nat → σ → σ} {s : σ} (P : σ → Prop) (h0 : P s) (hs : ∀ c z, p c = true → P z → P (g c z)) (n : Nat) : P (acf p g s n) := by
  induction n with
  | zero => exact h0
  | succ n ih =>
    cases q : p n
    · rw [acf_0 q]; exact ih
    · rw [acf_1 q]; exact hs n _ q ih
abbrev FlS : Type := Int × Int × Int × Int
def gF1 (V : Nat → Int) (lim : Int) (c : Nat) (z : FlS) : FlS := if z.1 < sBy V c ∧ sBy V c ≤ lim then (sBy V c, 1, (c : Int), z.2.2.2) else z
def gF2 (V : Nat → Int) (lim : Int) (c d : Nat) (z : FlS) : FlS := if z.1 < sBy V c + sBy V d ∧ sBy V c + sBy V d ≤ lim ∧ sApt c d = true then (sBy V c + sBy V d, 2, (c : Int), (d : Int)) else z
def pB (V : Nat → Int) (c d : Nat) : Bool := sPq V d && decide (c < d)
def sF1 (V : Nat → Int) (lim : Int) (c : Nat) : FlS := acf (sPq V) (gF1 V lim) (0, 0, 0, 0) c
def sFB (V : Nat → Int) (lim : Int) (c : Nat) (z : FlS) (d : Nat) : FlS := acf (pB V c) (gF2 V lim c) z d
def sF2 (V : Nat → Int) (lim : Int) (N c : Nat) : FlS := acf (sPq V) (fun c z => sFB V lim c z N) (sF1 V lim N) c
def FlI (z : FlS) : Prop := (0 ≤ z.1 ∧ z.1 ≤ 162) ∧ (0 ≤ z.2.1 ∧ z.2.1 ≤ 2)
theorem gF2_I {V : Nat → Int} (hV : VOK V) {lim : Int} {c d : Nat} {z : FlS} (hz : FlI z) : FlI (gF2 V lim c d z) := by
  have r := sBy_rng hV c
  have r2 := sBy_rng hV d
  unfold gF2
  split
  · unfold FlI; simp only; omega
  · exact hz
theorem sFB_I {V : Nat → Int} (hV : VOK V) {lim : Int} {c : Nat} {z : FlS} (hz : FlI z) (d : Nat) : FlI (sFB V lim c z d) := acf_inv FlI hz (fun d z _ hz => gF2_I hV hz) d
theorem sF1_I {V : Nat → Int} (hV : VOK V) (lim : Int) (c : Nat) : FlI (sF1 V lim c) := acf_inv FlI (by unfold FlI; simp) (fun c z _ hz => by
  have r := sBy_rng hV c
  unfold gF1
  split
  · unfold FlI; simp only; omega
  · exact hz) c
theorem sF2_I {V : Nat → Int} (hV : VOK V) (lim : Int) (N c : Nat) : FlI (sF2 V lim N c) := acf_inv FlI (sF1_I hV lim N) (fun c z _ hz => sFB_I hV hz N) c
theorem fcB {V : Nat → Int} {c d : Nat} (h : c < d) : fc (pB V c) d + fc (sPq V) (c + 1) = fc (sPq V) d := by
  induction d with
  | zero => omega
  | succ d ih =>
    rcases Nat.lt_or_ge c d with q | q
    · have := ih q
      have e : pB V c d = sPq V d := by unfold pB; rw [decide_eq_true q, Bool.and_true]
      simp only [fc]
      rw [e]
      simp only [fc] at this
      omega
    · have : d = c := by omega
      subst this
      have z : fc (pB V d) (d + 1) = 0 := by
        rw [fc_skip (a := 0) (by omega) (fun j _ h2 => by unfold pB; rw [decide_eq_false (by omega), Bool.and_false])]; rfl
      rw [z, Nat.zero_add]
theorem acB_0 {V : Nat → Int} {lim : Int} {c : Nat} {z : FlS} : sFB V lim c z (c + 1) = z := by
  unfold sFB
  rw [acf_eq (b := 0)]
  · rfl
  · rw [fc_skip (a := 0) (by omega) (fun j _ h2 => by unfold pB; rw [decide_eq_false (by omega), Bool.and_false])]
section Filled
variable {V : Nat → Int} {h : AH} {v : Nat}
def FlR (c : Nat → Nat → Int) (z : FlS) : Prop := c 53 2 = z.1 ∧ c 53 1 = z.2.1 ∧ (1 ≤ z.2.1 → c 54 0 = z.2.2.1) ∧ (2 ≤ z.2.1 → c 54 1 = z.2.2.2)
def kFi (a k : Nat) : Prop := (a = 53 ∧ (k = 1 ∨ k = 2)) ∨ a = 54
theorem QG.fi {w : AH} {N : Nat} (hQ : QG V h N) (k : Ky kFi h w) : QG V w N := by
  refine ⟨(k.2 _ _ (by unfold kFi; omega)).trans hQ.1, fun j h1 h2 => ?_⟩
  rw [k.2 55 _ (by unfold kFi; omega), k.2 56 _ (by unfold kFi; omega), k.2 57 _ (by unfold kFi; omega)]
  exact hQ.2 j h1 h2
theorem c_fillB (hV : VOK V) {N c : Nat} (hN : N ≤ 600) (hQ : QG V h N) (hl : fc (sPq V) N ≤ 168) (hc : c < N) (hp : sPq V c = true) {lim : Int} (hlim : 0 ≤ lim ∧ lim ≤ 99) {z : FlS} (hz : FlI z) (hR : FlR h.2 z) : ∃ h1, f4_fillBehind (fc (sPq V) c) lim h = some (0, h1) ∧ Ky kFi h h1 ∧ FlR h1.2 (sFB V lim c z N) := by
  have m1 := fc_mono (p := sPq V) (show c + 1 ≤ N by omega)
  rw [fc_s1 hp] at m1
  have qc := hQ.2 c hc hp
  have rc := sBy_rng hV c
  unfold f4_fillBehind l4_fillBehind_4
  rw [lt_eq]
  have key := fr (F := fun rec (z : Int × AH) => b4_fillBehind_4 rec (fc (sPq V) c) lim z.1 z.2) (fun X => ∃ h1, X = some (0, h1) ∧ Ky kFi h h1 ∧ FlR h1.2 (sFB V lim c z N)) (fun (w : AH) i => (i, w)) (fun i w => Ky kFi h w ∧ ∀ d, c < d → d ≤ N → fc (sPq V) d = i → FlR w.2 (sFB V lim c z d)) (fc (sPq V) c + 1) (fc (sPq V) N) h ⟨Ky.rf h, fun d d1 d2 d3 => ?_⟩ m1 (by omega) (fun i w hi1 hi hI rec => ?_) (fun w hI rec => ?_)
  · exact key
  · have e : sFB V lim c z d = z := by
      have := fcB (V := V) d1
      rw [fc_s1 hp] at this
      have t2 := fcB (V := V) (show c < c + 1 by omega)
      have e2 : fc (pB V c) d = fc (pB V c) (c + 1) := by omega
      have e3 : sFB V lim c z d = sFB V lim c z (c + 1) := acf_eq e2
      rw [e3, acB_0]
    rw [e]; exact hR
  · right
    obtain ⟨i1, i2⟩ := hI
    obtain ⟨d, d1, d2, d3⟩ := fc_hit hi
    subst d3
    have hcd : c < d := by
      rcases Nat.lt_or_ge c d with q | q
      · exact q
      · have := fc_mono (p := sPq V) q
        omega
    have rr := i2 d hcd (by omega) rfl
    have hQ2 := hQ.fi i1
    have qc2 := hQ2.2 c hc hp
    have qd := hQ2.2 d d1 d2
    have rd := sBy_rng hV d
    have zi := sFB_I hV (lim := lim) (c := c) hz d
    have ap := c_apart2 hV (c := c) (d := d) (by omega) (by omega) hp d2
    have e : ∀ x, fc (sPq V) x = fc (sPq V) d + 1 → c < x → sFB V lim c z x = gF2 V lim c d (sFB V lim c z d) := fun x hx hcx => by
      unfold sFB
      have pbd : pB V c d = true := by unfold pB; rw [d2, decide_eq_true hcd]; rfl
      rw [acf_eq (b := d + 1), acf_1 pbd]
      have t1 := fcB (V := V) hcx
      have t2 := fcB (V := V) (show c < d + 1 by omega)
      rw [fc_s1 d2] at t2
      omega
    generalize hst : sFB V lim c z d = st at *
    obtain ⟨r1, r2, r3, r4⟩ := rr
    unfold FlI at zi
    unfold b4_fillBehind_4 b4_fillBehind_93
    dsimp only
    rw [hQ2.1, w32_id (x := (fc (sPq V) N : Int)) (by omega) (by omega), w32_id (x := (fc (sPq V) d : Int)) (by omega) (by omega), w32_id (x := (fc (sPq V) c : Int)) (by omega) (by omega), if_neg (by omega), asrt_t (by omega), asrt_t (by omega), lt_eq, Int.toNat_natCast, Int.toNat_natCast, qc2.2.1, qd.2.1, r1, w32_id (x := st.1) (by omega) (by omega), w32_id (x := sBy V c + sBy V d) (by omega) (by omega), w32_id (x := lim) (by omega) (by omega), qc2.2.2, qd.2.2, asrt_t (by omega), asrt_t (by omega)]
    by_cases g : st.1 < sBy V c + sBy V d ∧ sBy V c + sBy V d ≤ lim ∧ sApt c d = true
    · have eg : gF2 V lim c d st = (sBy V c + sBy V d, 2, (c : Int), (d : Int)) := if_pos g
      rw [if_neg (by omega), if_neg (by omega), if_neg (fun y => y (ap.mpr g.2.2)), lt_eq, lt_eq, asrt_t (by omega), asrt_t (by decide), lt_eq, asrt_t (by omega), asrt_t (by decide), lt_eq, show (w32 0).toNat = 0 from rfl, show (w32 1).toNat = 1 from rfl]
      simp (disch := omega) only [wr_e]
      rw [qc2.1, qd.1]
      refine ⟨_, ⟨(((i1.w2 (Or.inl ⟨rfl, Or.inr rfl⟩)).w2 (Or.inl ⟨rfl, Or.inl rfl⟩)).w2 (Or.inr rfl)).w2 (Or.inr rfl), fun x x1 x2 x3 => ?_⟩, rfl⟩
      rw [e x x3 x1, eg]
      refine ⟨?_, ?_, fun _ => ?_, fun _ => ?_⟩ <;> simp (disch := omega) only [wr_e, wr_at]
    · have eg : gF2 V lim c d st = st := if_neg g
      refine ⟨w, ⟨i1, fun x x1 x2 x3 => by rw [e x x3 x1, eg]; exact ⟨r1, r2, r3, r4⟩⟩, ?_⟩
      by_cases g1 : sBy V c + sBy V d ≤ st.1
      · rw [if_pos g1]
      rw [if_neg g1]
      by_cases g2 : lim < sBy V c + sBy V d
      · rw [if_pos g2]
      rw [if_neg g2, if_pos (fun y => g ⟨by omega, by omega, ap.mp y⟩)]
  · obtain ⟨i1, i2⟩ := hI
    refine ⟨w, ?_, i1, i2 N (by omega) (Nat.le_refl _) rfl⟩
    unfold b4_fillBehind_4
    dsimp only
    rw [(hQ.fi i1).1, if_pos (Int.le_refl _)]
theorem c_fill4 (hV : VOK V) (hc : VC h.2 v V) (hv : v + 5 < 28) {q : Nat} (hq : (q : Int) < V 2) : ∃ h1, f4_fill v q h = some (0, h1) ∧ Ky (fun a k => kQu a k ∨ kFi a k) h h1 ∧ FlR h1.2 (sF2 V (V (17 + 2 * q)) (100 * (V 1).toNat) (100 * (V 1).toNat)) := by
  have v1 := hV.2.1
  have v2 := hV.2.2.1
  have hw := hV.2.2.2.2.2.1 q hq
  obtain ⟨w0, a1, a2, a3, a4⟩ := c_gatherQ hV hc hv
  unfold f4_fill b4_fill_33 l4_fill_37
  rw [a1, bnd_some, lt_eq, lt_eq]
  have k1 : Ky kFi w0 (wr (wr w0 53 2 0) 53 1 0) := (Ky.w1 (Or.inl ⟨rfl, Or.inr rfl⟩)).w2 (Or.inl ⟨rfl, Or.inl rfl⟩)
  have f1 : FlR (wr (wr w0 53 2 0) 53 1 0).2 (0, 0, 0, 0) := ⟨by rw [wr_e (by omega), wr_at], wr_at, fun y => absurd y (by decide), fun y => absurd y (by decide)⟩
  generalize wr (wr w0 53 2 0) 53 1 0 = w1 at *
  have hc1 : VC w1.2 v V := k1.vc (fun a k _ _ => by unfold kFi; omega) (a2.vc (fun a k _ _ => by unfold kQu; omega) hc)
  rw [v_hasH hV hc1, bnd_some, w32_id (x := (q : Int)) (by omega) (by omega), if_pos (c := 0 ≤ (q : Int) ∧ _) (by omega), ite_w1, asrt_t (by omega), Int.toNat_natCast, (hc1.2.2.2.2.2.1 q hq).2]
  generalize hN : 100 * (V 1).toNat = N at *
  generalize V (17 + 2 * q) = lim at *
  have comb : ∀ w, Ky kFi w0 w → Ky (fun a k => kQu a k ∨ kFi a k) h w := fun w kw => (a2.mono (fun _ _ z => Or.inl z)).tr (kw.mono (fun _ _ z => Or.inr z))
  refine fr (fun X => ∃ h1, X = some (0, h1) ∧ Ky (fun a k => kQu a k ∨ kFi a k) h h1 ∧ FlR h1.2 (sF2 V lim N N)) (fun (w : AH) i => (i, w)) (fun i w => Ky kFi w0 w ∧ ∀ c, c ≤ N → fc (sPq V) c = i → FlR w.2 (sF1 V lim c)) 0 (fc (sPq V) N) w1 ⟨k1, fun c _ c3 => ?_⟩ (by omega) (by omega) (fun i w _ hi hI rec => ?_) (fun w hI rec => ?_)
  · have e : sF1 V lim c = (0, 0, 0, 0) := by
      unfold sF1
      rw [acf_eq (b := 0) c3]; rfl
    rw [e]; exact f1
  · right
    obtain ⟨i1, i2⟩ := hI
    obtain ⟨c, c1, c2, c3⟩ := fc_hit hi
    subst c3
    have rr := i2 c (by omega) rfl
    have hQ2 := a3.fi i1
    have qc := hQ2.2 c c1 c2
    have rc := sBy_rng hV c
    have zi := sF1_I hV lim c
    have e : ∀ x, fc (sPq V) x = fc (sPq V) c + 1 → sF1 V lim x = gF1 V lim c (sF1 V lim c) := fun x hx => by
      unfold sF1
      rw [acf_eq (b := c + 1) (by rw [fc_s1 c2]; exact hx), acf_1 c2]
    generalize hst : sF1 V lim c = st at *
    obtain ⟨r1, r2, r3, r4⟩ := rr
    unfold FlI at zi
    unfold b4_fill_37 b4_fill_100
    dsimp only
    rw [hQ2.1, w32_id (x := (fc (sPq V) N : Int)) (by omega) (by omega), w32_id (x := (fc (sPq V) c : Int)) (by omega) (by omega), if_neg (by omega), asrt_t (by omega), Int.toNat_natCast, qc.2.1, r1, w32_id (x := st.1) (by omega) (by omega), w32_id (x := sBy V c) (by omega) (by omega), w32_id (x := lim) (by omega) (by omega)]
    by_cases g : st.1 < sBy V c ∧ sBy V c ≤ lim
    · have eg : gF1 V lim c st = (sBy V c, 1, (c : Int), st.2.2.2) := if_pos g
      rw [if_neg (by omega), asrt_t (by omega), if_neg (by omega), asrt_t (by omega), lt_eq, lt_eq, asrt_t (by omega), asrt_t (by decide), lt_eq, show (w32 0).toNat = 0 from rfl]
      simp (disch := omega) only [wr_e]
      rw [qc.1]
      refine ⟨_, ⟨((i1.w2 (Or.inl ⟨rfl, Or.inr rfl⟩)).w2 (Or.inl ⟨rfl, Or.inl rfl⟩)).w2 (Or.inr rfl), fun x x2 x3 => ?_⟩, rfl⟩
      rw [e x x3, eg]
      refine ⟨?_, ?_, fun _ => ?_, fun y => absurd y (by simp)⟩ <;> simp (disch := omega) only [wr_e, wr_at]
    · have eg : gF1 V lim c st = st := if_neg g
      refine ⟨w, ⟨i1, fun x x2 x3 => by rw [e x x3, eg]; exact ⟨r1, r2, r3, r4⟩⟩, ?_⟩
      by_cases g1 : sBy V c ≤ st.1
      · rw [if_pos g1]
      · rw [if_neg g1, asrt_t (by omega), if_pos (by omega)]
  · obtain ⟨i1, i2⟩ := hI
    unfold b4_fill_37 l4_fill_109
    dsimp only
    rw [(a3.fi i1).1, if_pos (Int.le_refl _)]
    refine fr (fun X => ∃ h1, X = some (0, h1) ∧ Ky (fun a k => kQu a k ∨ kFi a k) h h1 ∧ FlR h1.2 (sF2 V lim N N)) (fun (w : AH) i => (i, w)) (fun i w => Ky kFi w0 w ∧ ∀ c, c ≤ N → fc (sPq V) c = i → FlR w.2 (sF2 V lim N c)) 0 (fc (sPq V) N) w ⟨i1, fun c _ c3 => ?_⟩ (by omega) (by omega) (fun i u _ hi hJ rec2 => ?_) (fun u hJ rec2 => ?_)
    · have e : sF2 V lim N c = sF1 V lim N := by
        unfold sF2
        rw [acf_eq (b := 0) c3]; rfl
      rw [e]; exact i2 N (Nat.le_refl _) rfl
    · right
      obtain ⟨j1, j2⟩ := hJ
      obtain ⟨c, c1, c2, c3⟩ := fc_hit hi
      subst c3
      have rr := j2 c (by omega) rfl
      obtain ⟨h1, b1, b2, b3⟩ := c_fillB hV (by omega) (a3.fi j1) a4 c1 c2 (lim := lim) (by omega) (sF2_I hV lim N c) rr
      refine ⟨h1, ⟨j1.tr b2, fun x x2 x3 => ?_⟩, ?_⟩
      · have e : sF2 V lim N x = sFB V lim c (sF2 V lim N c) N := by
          unfold sF2
          rw [acf_eq (b := c + 1) (by rw [fc_s1 c2]; exact x3), acf_1 c2]
        rw [e]; exact b3
      · unfold b4_fill_109
        dsimp only
        rw [(a3.fi j1).1, w32_id (x := (fc (sPq V) N : Int)) (by omega) (by omega), w32_id (x := (fc (sPq V) c : Int)) (by omega) (by omega), if_neg (by omega), b1, bnd_some]
    · obtain ⟨j1, j2⟩ := hJ
      refine ⟨u, ?_, comb u j1, j2 N (Nat.le_refl _) rfl⟩
      unfold b4_fill_109
      dsimp only
      rw [(a3.fi j1).1, if_pos (Int.le_refl _)]
end Filled
