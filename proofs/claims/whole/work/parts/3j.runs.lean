/-! days run through, side by side -/
theorem wh2 {α β : Type} {F : (α → Option (Int × AH)) → α → Option (Int × AH)} {G : (β → Option (Int × AH)) → β → Option (Int × AH)} (p : Nat → α → β → Prop) (Q : Option (Int × AH) → Option (Int × AH) → Prop) (hs : ∀ n z y, p n z y → (∀ rec rec2, Q (F rec z) (G rec2 y)) ∨ ∃ m z1 y1, m < n ∧ p m z1 y1 ∧ (∀ rec, F rec z = rec z1) ∧ ∀ rec2, G rec2 y = rec2 y1) : ∀ (k n : Nat) (z : α) (y : β), p n z y → n < k → Q (fx F k z) (fx G k y) := by
  intro k
  induction k with
  | zero => intro n z y _ h; omega
  | succ k ih =>
    intro n z y hp hk
    rw [fx_succ, fx_succ]
    rcases hs n z y hp with h | ⟨m, z1, y1, h1, h2, h3, h4⟩
    · exact h _ _
    · rw [h3, h4]; exact ih m z1 y1 h2 (by omega)
def DK (k a b s q : Int) : Prop := (k = 0 ∧ (0 ≤ a ∧ a ≤ 7) ∧ (0 ≤ b ∧ b ≤ 7) ∧ a ≠ b ∧ (0 ≤ s ∧ s ≤ 5) ∧ (0 ≤ q ∧ q ≤ 3)) ∨ ((k = 1 ∨ k = 2) ∧ (0 ≤ a ∧ a ≤ 7) ∧ (0 ≤ b ∧ b ≤ 7) ∧ a ≠ b ∧ (0 ≤ s ∧ s ≤ 5) ∧ q = -1) ∨ (k = 3 ∧ (0 ≤ a ∧ a ≤ 5) ∧ (0 ≤ b ∧ b ≤ 9) ∧ s = -1 ∧ q = -1) ∨ (k = 4 ∧ a = -1 ∧ b = -1 ∧ s = -1 ∧ q = -1)
def xA (k a b : Int) (r : Int) (p : Nat) : Int := if k = 0 then xQ a.toNat b.toNat r p else 0
section Runs
variable {V D : Nat → Int} {hc hm : AH}
theorem Both.wA {A B : Option (Int × AH)} {x : Int → Nat → Int} (h : Both V hc hm A B x) : Both V hc hm (bnd A (fun r h => asrt (w32 r = 0 ∨ w32 r = 1) (some (r, h)))) B x := by
  obtain ⟨r, c1, m1, a1, a2, a3, a4⟩ := h
  refine ⟨r, c1, m1, ?_, a2, a3, a4⟩
  rw [a1, bnd_some, asrt_t]
  rcases a3 with e | e <;> rw [e]
  · exact Or.inl w32_0
  · exact Or.inr w32_1
theorem Both.wB {A B : Option (Int × AH)} {x : Int → Nat → Int} (h : Both V hc hm A B x) : Both V hc hm A (bnd B (fun r h => asrt (w32 r = 0 ∨ w32 r = 1) (some (r, h)))) x := by
  obtain ⟨r, c1, m1, a1, a2, a3, a4⟩ := h
  refine ⟨r, c1, m1, a1, ?_, a3, a4⟩
  rw [a2, bnd_some, asrt_t]
  rcases a3 with e | e <;> rw [e]
  · exact Or.inl w32_0
  · exact Or.inr w32_1
theorem s_act (hV : VOK V) (hS : SR V hc.2 hm.2) {k a b s q : Int} (hk : DK k a b s q) : Both V hc hm (f7_act k a b s q hc) (f11_does k a b s q hm) (xA k a b) := by
  unfold f7_act
  rcases hk with ⟨rfl, ha, hb, hab, hs, hq⟩ | ⟨hk, ha, hb, hab, hs, hq⟩ | ⟨rfl, ha, hb, hs, hq⟩ | ⟨rfl, ha, hb, hs, hq⟩
  · obtain ⟨a, rfl⟩ : ∃ n : Nat, a = n := ⟨a.toNat, by omega⟩
    obtain ⟨b, rfl⟩ : ∃ n : Nat, b = n := ⟨b.toNat, by omega⟩
    obtain ⟨s, rfl⟩ : ∃ n : Nat, s = n := ⟨s.toNat, by omega⟩
    obtain ⟨q, rfl⟩ : ∃ n : Nat, q = n := ⟨q.toNat, by omega⟩
    rw [if_pos w32_0]
    have := (s_quar hV hS (a := a) (b := b) (s := s) (q := q) (by omega) (by omega) (by omega) (by omega)).wA
    have e : xA 0 (a : Int) (b : Int) = xQ a b := by funext r p; unfold xA; rw [if_pos rfl, Int.toNat_natCast, Int.toNat_natCast]
    rw [e]
    exact this
  · obtain ⟨a, rfl⟩ : ∃ n : Nat, a = n := ⟨a.toNat, by omega⟩
    obtain ⟨b, rfl⟩ : ∃ n : Nat, b = n := ⟨b.toNat, by omega⟩
    obtain ⟨s, rfl⟩ : ∃ n : Nat, s = n := ⟨s.toNat, by omega⟩
    have e : xA k (a : Int) (b : Int) = fun _ _ => 0 := by funext r p; unfold xA; rw [if_neg (by omega)]
    rw [e]
    rcases hk with rfl | rfl
    · rw [w32_1, if_neg (by omega), if_pos rfl]
      exact (s_agree hV hS (by omega) (by omega) (by omega)).wA
    · rw [show w32 2 = 2 by decide, if_neg (by omega), if_neg (by omega), if_pos rfl]
      exact (s_deny hV hS (by omega) (by omega) (by omega)).wA
  · obtain ⟨a, rfl⟩ : ∃ n : Nat, a = n := ⟨a.toNat, by omega⟩
    have e : xA 3 (a : Int) b = fun _ _ => 0 := by funext r p; unfold xA; rw [if_neg (by omega)]
    rw [e]
    unfold f11_does
    rw [show w32 3 = 3 by decide, if_neg (by omega), if_neg (by omega), if_neg (by omega), if_pos rfl, if_pos (by omega), if_neg (by omega)]
    exact (s_tell hV hS (by omega) hb).wA.wB
  · have e : xA 4 a b = fun _ _ => 0 := by funext r p; unfold xA; rw [if_neg (by omega)]
    rw [e]
    unfold f11_does
    rw [show w32 4 = 4 by decide, if_neg (by omega), if_neg (by omega), if_neg (by omega), if_neg (by omega), if_pos rfl, if_neg (by omega)]
    exact (s_cool hV hS).wA.wB
def DM (m : Nat → Nat → Int) (D : Nat → Int) : Prop := ∃ o : Nat, o + 201 ≤ 4824 ∧ m 69 31 = o ∧ ∀ j, j < 201 → m 70 (o + j) = D j
theorem KM.dm {h h1 : AH} (c : KM h h1) (hd : DM h.2 D) : DM h1.2 D := by
  obtain ⟨o, m0, m1, m2⟩ := hd
  exact ⟨o, m0, (c.2 _ _ (by omega)).trans m1, fun j hj => (c.2 _ _ (by omega)).trans (m2 j hj)⟩
theorem DOK.dk (hD : DOK D) {k : Nat} (hk : (k : Int) < D 0) : DK (D (1 + 5 * k)) (D (2 + 5 * k)) (D (3 + 5 * k)) (D (4 + 5 * k)) (D (5 + 5 * k)) := hD.2 k hk
theorem m_told (hD : DOK D) (hd : DM hm.2 D) {k : Nat} (hk : (k : Int) < D 0) : f11_doesTold k hm = bnd (f11_does (D (1 + 5 * k)) (D (2 + 5 * k)) (D (3 + 5 * k)) (D (4 + 5 * k)) (D (5 + 5 * k)) hm) (fun r h => asrt (w32 r = 0 ∨ w32 r = 1) (some (r, h))) := by
  have h0 := hD.1
  obtain ⟨o, m0, m1, m2⟩ := hd
  unfold f11_doesTold
  rw [m1, lt_eq, w32_id (x := ((o : Int) + 1 + 5 * k)) (by omega) (by omega), w32_id (x := ((o : Int) + 1 + 5 * k + 1)) (by omega) (by omega), w32_id (x := ((o : Int) + 1 + 5 * k + 2)) (by omega) (by omega), w32_id (x := ((o : Int) + 1 + 5 * k + 3)) (by omega) (by omega), w32_id (x := ((o : Int) + 1 + 5 * k + 4)) (by omega) (by omega), asrt_t (by omega), asrt_t (by omega), asrt_t (by omega), asrt_t (by omega), asrt_t (by omega)]
  rw [show ((o : Int) + 1 + 5 * k).toNat = o + (1 + 5 * k) by omega, show ((o : Int) + 1 + 5 * k + 1).toNat = o + (2 + 5 * k) by omega, show ((o : Int) + 1 + 5 * k + 2).toNat = o + (3 + 5 * k) by omega, show ((o : Int) + 1 + 5 * k + 3).toNat = o + (4 + 5 * k) by omega, show ((o : Int) + 1 + 5 * k + 4).toNat = o + (5 + 5 * k) by omega, m2 _ (by omega), m2 _ (by omega), m2 _ (by omega), m2 _ (by omega), m2 _ (by omega)]
def mxo (x : Int) (f : Nat → Int) : Nat → Int
  | 0 => x
  | n + 1 => mx (mxo x f n) (f n)
theorem mxo_rng {x : Int} {f : Nat → Int} {n : Nat} (h0 : 0 ≤ x ∧ x ≤ 99) (h : ∀ i, i < n → 0 ≤ f i ∧ f i ≤ 99) : 0 ≤ mxo x f n ∧ mxo x f n ≤ 99 := by
  induction n with
  | zero => exact h0
  | succ n ih =>
    have h1 := ih (fun i hi => h i (by omega))
    have h2 := h n (by omega)
    simp only [mxo, mx]
    split <;> omega
def sCos (V : Nat → Int) (w : Nat → Int) (n : Nat) : Bool := al (fun q => decide (V (16 + 2 * q) ≤ w q)) n
def PL (c : Nat → Nat → Int) : Prop := (0 ≤ c 41 7 ∧ c 41 7 ≤ 99) ∧ (-1 ≤ c 41 8 ∧ c 41 8 ≤ 40)
theorem SR_41 {w : AH} {m : Nat → Nat → Int} (hS : SR V hc.2 m) (w1 : ∀ i k, ¬ (i = 41 ∧ 7 ≤ k) → w.2 i k = hc.2 i k) : SR V w.2 m := by
  obtain ⟨S1, S2, S3, S4, S5, S6, S7, S8, S9, S10⟩ := hS
  refine ⟨?_, fun i hi => ?_, fun i hi => ?_, fun i hi => ?_, fun i hi => ?_, ?_, ?_, ?_, ?_, S10⟩
  · rw [w1 42 0 (by omega), w1 42 1 (by omega), w1 42 2 (by omega), w1 42 3 (by omega)]; exact S1
  · rw [w1 44 i (by omega), w1 43 i (by omega)]; exact S2 i hi
  · rw [w1 45 i (by omega), w1 46 i (by omega)]; exact S3 i hi
  · rw [w1 47 i (by omega)]; exact S4 i hi
  · rw [w1 48 i (by omega)]; exact S5 i hi
  · rw [w1 41 3 (by omega)]; exact S6
  · rw [w1 41 4 (by omega)]; exact S7
  · rw [w1 41 5 (by omega)]; exact S8
  · rw [w1 41 6 (by omega)]; exact S9
theorem c_look {m : Nat → Nat → Int} (hV : VOK V) (hS : SR V hc.2 m) (hP : PL hc.2) : ∃ w, f7_look hc = some (0, w) ∧ w.1 = hc.1 ∧ (∀ i k, ¬ (i = 41 ∧ (k = 7 ∨ k = 9)) → w.2 i k = hc.2 i k) ∧ w.2 41 7 = mxo (hc.2 41 7) (hc.2 48) (V 2).toNat ∧ w.2 41 9 = hc.2 41 9 + if sCos V (hc.2 48) (V 2).toNat then 1 else 0 := by
  have v2 := hV.2.2.1
  obtain ⟨S1, S2, S3, S4, S5, -⟩ := hS
  unfold f7_look l7_look_4
  have key := fr (F := fun rec (z : Int × Int × AH) => b7_look_4 rec z.1 z.2.1 z.2.2) (fun X => ∃ w, X = some (0, w) ∧ w.1 = hc.1 ∧ (∀ i k, ¬ (i = 41 ∧ (k = 7 ∨ k = 9)) → w.2 i k = hc.2 i k) ∧ w.2 41 7 = mxo (hc.2 41 7) (hc.2 48) (V 2).toNat ∧ w.2 41 9 = hc.2 41 9 + if sCos V (hc.2 48) (V 2).toNat then 1 else 0) (fun (z : Int × AH) i => (z.1, i, z.2)) (fun n z => z.1 = (if sCos V (hc.2 48) n then 1 else 0) ∧ z.2.1 = hc.1 ∧ (∀ i k, ¬ (i = 41 ∧ k = 7) → z.2.2 i k = hc.2 i k) ∧ z.2.2 41 7 = mxo (hc.2 41 7) (hc.2 48) n) 0 (V 2).toNat (1, hc) ⟨rfl, rfl, fun _ _ _ => rfl, rfl⟩ (by omega) (by omega) (fun n z _ hn hI rec => ?_) (fun z hI rec => ?_)
  · exact key
  · obtain ⟨k1, k2, k3, k4⟩ := hI
    obtain ⟨b, w⟩ := z
    simp only at k1 k2 k3 k4
    have s3 := S3 n (by omega)
    have s5 := S5 n (by omega)
    have vq := hV.2.2.2.2.2.1 n (by omega)
    have r1 := mxo_rng (x := hc.2 41 7) (f := hc.2 48) (n := n) hP.1 (fun i hi => (S5 i (by omega)).2)
    right
    refine ⟨(if sCos V (hc.2 48) (n + 1) then 1 else 0, wr w 41 7 (mxo (hc.2 41 7) (hc.2 48) (n + 1))), ⟨rfl, k2, fun i k hi => by rw [wr_e hi]; exact k3 i k hi, wr_at⟩, ?_⟩
    unfold b7_look_4 b7_look_58 b7_look_59
    dsimp only
    rw [k3 42 2 (by omega), S1.2.2.1, w32_id (x := V 2) (by omega) (by omega), w32_id (x := (n : Int)) (by omega) (by omega), if_neg (by omega), asrt_t (by omega), lt_eq, asrt_t (by omega), asrt_t (by omega), Int.toNat_natCast, wr_e (by omega), wr_e (by omega), k3 48 n (by omega), k3 45 n (by omega), k4, max32_s (by omega) (by omega) (by omega) (by omega), s3.1, w32_id (x := hc.2 48 n) (by omega) (by omega), w32_id (x := V (16 + 2 * n)) (by omega) (by omega), k1, ite_b]
    have e : (if mxo (hc.2 41 7) (hc.2 48) n < hc.2 48 n then hc.2 48 n else mxo (hc.2 41 7) (hc.2 48) n) = mxo (hc.2 41 7) (hc.2 48) (n + 1) := rfl
    rw [e]
    simp only [sCos, al]
    by_cases q1 : al (fun q => decide (V (16 + 2 * q) ≤ hc.2 48 q)) n = true
    · by_cases q2 : V (16 + 2 * n) ≤ hc.2 48 n
      · have q3 : ¬ hc.2 48 n < V (16 + 2 * n) := by omega
        simp [q1, q2, q3]
      · have q3 : hc.2 48 n < V (16 + 2 * n) := by omega
        simp [q1, q2, q3]
    · simp [q1]
  · obtain ⟨k1, k2, k3, k4⟩ := hI
    obtain ⟨b, w⟩ := z
    simp only at k1 k2 k3 k4
    unfold b7_look_4
    dsimp only
    rw [k3 42 2 (by omega), S1.2.2.1, w32_id (x := V 2) (by omega) (by omega), w32_id (x := ((V 2).toNat : Int)) (by omega) (by omega), if_pos (by omega), k1, ite_b, lt_eq, lt_eq, k3 41 9 (by omega)]
    refine ⟨wr w 41 9 (hc.2 41 9 + if sCos V (hc.2 48) (V 2).toNat then 1 else 0), ?_, k2, fun i k hi => by rw [wr_e (by omega)]; exact k3 i k (by omega), by rw [wr_e (by omega)]; exact k4, wr_at⟩
    by_cases q1 : sCos V (hc.2 48) (V 2).toNat = true
    · rw [if_pos q1]; rfl
    · rw [if_neg q1]; rfl
/-- what the class does behind a deed -/
theorem c_tail {m : Nat → Nat → Int} (hV : VOK V) (hS : SR V hc.2 m) (hP : PL hc.2) {k x2 : Nat} {x3 : Int} (hk : k < 40) : ∃ w, (∀ rec12 : Int × AH → Option (Int × AH), (if ¬ w32 (hc.2 41 8) = (-1) then b7_play_93 rec12 x2 x3 k hc else if w32 (hc.2 41 4) = 0 then b7_play_93 rec12 x2 x3 k hc else lt (wr hc 41 8 k) fun h36 => b7_play_93 rec12 x2 x3 k h36) = rec12 ((k : Int) + 1, w)) ∧ KS hc w ∧ SR V w.2 m ∧ PL w.2 ∧ (∀ p, w.2 49 p = hc.2 49 p) ∧ w.2 41 8 = (if hc.2 41 8 = -1 ∧ hc.2 41 4 ≠ 0 then (k : Int) else hc.2 41 8) ∧ w.2 41 7 = mxo (hc.2 41 7) (hc.2 48) (V 2).toNat ∧ w.2 41 9 = hc.2 41 9 + if sCos V (hc.2 48) (V 2).toNat then 1 else 0 := by
  have S5 := hS.2.2.2.2.1
  have S7 := hS.2.2.2.2.2.2.1
  have v2 := hV.2.2.1
  have hp2 := hP.2
  have gen : ∀ h9 : AH, SR V h9.2 m → PL h9.2 → ∃ w, (∀ rec12 : Int × AH → Option (Int × AH), b7_play_93 rec12 x2 x3 k h9 = rec12 ((k : Int) + 1, w)) ∧ w.1 = h9.1 ∧ (∀ i k, ¬ (i = 41 ∧ (k = 7 ∨ k = 9)) → w.2 i k = h9.2 i k) ∧ w.2 41 7 = mxo (h9.2 41 7) (h9.2 48) (V 2).toNat ∧ w.2 41 9 = h9.2 41 9 + if sCos V (h9.2 48) (V 2).toNat then 1 else 0 := by
    intro h9 hS9 hP9
    obtain ⟨w, a1, a2⟩ := c_look hV hS9 hP9
    refine ⟨w, fun rec12 => ?_, a2⟩
    unfold b7_play_93
    rw [a1, bnd_some]
  rw [w32_id (x := hc.2 41 8) (by omega) (by omega), w32_id (x := hc.2 41 4) (by omega) (by omega)]
  by_cases c1 : hc.2 41 8 = -1 ∧ hc.2 41 4 ≠ 0
  · have hS9 : SR V (wr hc 41 8 k).2 m := SR_41 hS (fun i k hi => wr_e (by omega))
    have hP9 : PL (wr hc 41 8 k).2 := ⟨by rw [wr_e (by omega)]; exact hP.1, by rw [wr_at]; omega⟩
    obtain ⟨w, a1, a2, a3, a4, a5⟩ := gen (wr hc 41 8 k) hS9 hP9
    have e48 : (wr hc 41 8 (k : Int)).2 48 = hc.2 48 := wr_ne (by omega)
    rw [e48, wr_e (by omega)] at a4 a5
    refine ⟨w, fun rec12 => ?_, ⟨a2, fun i k hi => by rw [a3 i k (by omega), wr_e (by omega)]⟩, SR_41 hS9 (fun i k hi => a3 i k (by omega)), ⟨?_, ?_⟩, fun p => by rw [a3 49 p (by omega), wr_e (by omega)], ?_, a4, a5⟩
    · rw [if_neg (by omega), if_neg c1.2, lt_eq]; exact a1 rec12
    · rw [a4]; exact mxo_rng hP.1 (fun i hi => (S5 i (by omega)).2)
    · rw [a3 41 8 (by omega), wr_at]; omega
    · rw [a3 41 8 (by omega), wr_at, if_pos c1]
  · obtain ⟨w, a1, a2, a3, a4, a5⟩ := gen hc hS hP
    refine ⟨w, fun rec12 => ?_, ⟨a2, fun i k hi => a3 i k (by omega)⟩, SR_41 hS (fun i k hi => a3 i k (by omega)), ⟨?_, ?_⟩, fun p => a3 49 p (by omega), ?_, a4, a5⟩
    · by_cases c2 : hc.2 41 8 = -1
      · rw [if_neg (fun q => q c2), if_pos (by omega)]; exact a1 rec12
      · rw [if_pos c2]; exact a1 rec12
    · rw [a4]; exact mxo_rng hP.1 (fun i hi => (S5 i (by omega)).2)
    · rw [a3 41 8 (by omega)]; exact hP.2
    · rw [a3 41 8 (by omega), if_neg c1]
end Runs
