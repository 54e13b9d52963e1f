/-! after -/
theorem fx_open {α : Type} (F : (α → Option (Int × AH)) → α → Option (Int × AH)) (z : α) : ∃ rec, fx F FU z = F rec z := ⟨fx F 999999999999, rfl⟩
theorem fx_open3 {α : Type} (F : (α → Option (Int × AH)) → α → Option (Int × AH)) (z : α) : ∃ rec, fx F FU z = F (fun z => F (fun z => F rec z) z) z := ⟨fx F 999999999997, rfl⟩
theorem bst_nn (f : Nat → Int) (n : Nat) : 0 ≤ (bst f n).2 := by
  induction n with
  | zero => exact Int.le_refl _
  | succ n ih => simp only [bst]; split <;> (try simp only) <;> omega
theorem bst_more {f : Nat → Int} {m n : Nat} (hmn : m ≤ n) (hz : ∀ i, m ≤ i → i < n → f i ≤ 0) : bst f n = bst f m := by
  induction n with
  | zero => rw [show m = 0 by omega]
  | succ n ih =>
    rcases Nat.lt_or_ge n m with q | q
    · rw [show m = n + 1 by omega]
    · have := bst_nn f n
      have := hz n q (by omega)
      simp only [bst]
      rw [if_neg (by omega)]
      exact ih q (fun i h1 h2 => hz i h1 (by omega))
theorem bst_cong {f g : Nat → Int} {n : Nat} (h : ∀ i, i < n → f i = g i) : bst f n = bst g n := by
  induction n with
  | zero => rfl
  | succ n ih => simp only [bst]; rw [ih (fun i hi => h i (by omega)), h n (by omega)]
section After
variable {V D : Nat → Int} {hc hm : AH}
theorem m_cosy (hV : VOK V) (hS : SR V hc.2 hm.2) : f11_isCosy hm = some (if sCos V (hc.2 48) (V 2).toNat then 1 else 0, hm) := by
  have v2 := hV.2.2.1
  obtain ⟨S1, S2, S3, S4, S5, S6, S7, S8, S9, S10⟩ := hS
  unfold f11_isCosy l11_isCosy_4
  refine loop2 (fun i => if sCos V (hc.2 48) i then 1 else 0) (V 2).toNat hm (fun n hn rec => ?_) (fun rec => ?_) (by omega)
  · have s5 := S5 n (by omega)
    have vq := hV.2.2.2.2.2.1 n (by omega)
    unfold b11_isCosy_4 b11_isCosy_34 b11_isCosy_35
    dsimp only
    rw [vm_H S10, w32_id (x := V 2) (by omega) (by omega), w32_id (x := (n : Int)) (by omega) (by omega), if_neg (by omega), asrt_t (by omega), m_wants S10 n (by omega), bnd_some, Int.toNat_natCast, ← s5.1, w32_id (x := hc.2 48 n) (by omega) (by omega), w32_id (x := V (16 + 2 * n)) (by omega) (by omega), ite_b]
    simp only [sCos, al]
    by_cases q1 : al (fun q => decide (V (16 + 2 * q) ≤ hc.2 48 q)) n = true
    · by_cases q2 : V (16 + 2 * n) ≤ hc.2 48 n
      · have q3 : ¬ hc.2 48 n < V (16 + 2 * n) := by omega
        simp [q1, q2, q3]
      · have q3 : hc.2 48 n < V (16 + 2 * n) := by omega
        simp [q1, q2, q3]
    · simp [q1]
  · unfold b11_isCosy_4
    dsimp only
    rw [vm_H S10, w32_id (x := V 2) (by omega) (by omega), w32_id (x := ((V 2).toNat : Int)) (by omega) (by omega), if_pos (by omega), ite_b, asrt_t (by split <;> omega)]
theorem c_loudest (hV : VOK V) (h0 : hc.2 42 0 = V 0) (hr : ∀ p, p < 8 → 0 ≤ hc.2 49 p ∧ hc.2 49 p ≤ 80) : f7_loudest hc = some ((bst (fun p => hc.2 49 p) (V 0).toNat).1, hc) := by
  have v0 := hV.1
  unfold f7_loudest l7_loudest_6
  refine loop3 (fun i => bst (fun p => hc.2 49 p) i) (V 0).toNat hc (fun i hi rec => ?_) (fun rec => ?_) (by omega)
  · have r1 := bst_rng (f := fun p : Nat => hc.2 49 p) (n := i) (hi := 80) (by omega) (fun j hj => (hr j (by omega)).2)
    have r2 := hr i (by omega)
    unfold b7_loudest_6 b7_loudest_36
    dsimp only
    rw [h0, w32_id (x := V 0) (by omega) (by omega), w32_id (x := (i : Int)) (by omega) (by omega), if_neg (by omega), asrt_t (by omega), asrt_t (by omega), lt_eq, Int.toNat_natCast, w32_id (x := hc.2 49 i) (by omega) (by omega), w32_id (x := (bst (fun p : Nat => hc.2 49 p) i).2) (by omega) (by omega)]
    simp only [bst]
    by_cases q : (bst (fun p : Nat => hc.2 49 p) i).2 < hc.2 49 i
    · rw [if_neg (by omega), if_pos q]
    · rw [if_pos (by omega), if_neg q]
  · unfold b7_loudest_6
    dsimp only
    rw [h0, w32_id (x := V 0) (by omega) (by omega), w32_id (x := ((V 0).toNat : Int)) (by omega) (by omega), if_pos (by omega)]
def sAft4 (x hot lou spl cos : Int) : Int := if x = 0 then hot else if x = 1 then lou else if x = 2 then spl else cos
theorem m_loud {x3 hot spl cos : Int} (hx3 : 0 ≤ x3 ∧ x3 ≤ 3) (hr : ∀ p, p < 8 → 0 ≤ hm.2 91 p ∧ hm.2 91 p ≤ 80) : b11_after_243 x3 hot spl cos hm = some (sAft4 x3 hot (bst (fun p => hm.2 91 p) 8).1 spl cos, hm) := by
  unfold b11_after_243 l11_after_249
  have key := fr (F := fun rec (z : Int × Int × AH) => b11_after_249 rec x3 hot spl cos z.1 z.2.1 z.2.2) (fun X => X = some (sAft4 x3 hot (bst (fun p => hm.2 91 p) 8).1 spl cos, hm)) (fun (z : Int) i => (z, i, hm)) (fun n z => ∃ l : Nat, z = l ∧ l < n ∧ ((hm.2 91 l = 0 ∧ bst (fun p => hm.2 91 p) n = (-1, 0)) ∨ (0 < hm.2 91 l ∧ bst (fun p => hm.2 91 p) n = ((l : Int), hm.2 91 l)))) 1 8 0 ?_ (by omega) (by omega) (fun n z hn1 hn hI rec => ?_) (fun z hI rec => ?_)
  · exact key
  · refine ⟨0, rfl, by omega, ?_⟩
    have := hr 0 (by omega)
    by_cases q : 0 < hm.2 91 0
    · right
      exact ⟨q, if_pos q⟩
    · left
      exact ⟨by omega, if_neg q⟩
  · obtain ⟨l, rfl, l1, l2⟩ := hI
    have r1 := hr n hn
    have r2 := hr l (by omega)
    right
    unfold b11_after_249 b11_after_280
    dsimp only
    rw [w32_id (x := (n : Int)) (by omega) (by omega), if_neg (by omega), asrt_t (by omega), w32_id (x := (l : Int)) (by omega) (by omega), asrt_t (by omega), Int.toNat_natCast, Int.toNat_natCast, w32_id (x := hm.2 91 n) (by omega) (by omega), w32_id (x := hm.2 91 l) (by omega) (by omega)]
    by_cases q : hm.2 91 n ≤ hm.2 91 l
    · rw [if_pos q]
      refine ⟨(l : Int), ⟨l, rfl, by omega, ?_⟩, rfl⟩
      rcases l2 with ⟨a, b⟩ | ⟨a, b⟩
      · left
        refine ⟨a, ?_⟩
        simp only [bst]
        rw [b, if_neg (by simp only; omega)]
      · right
        refine ⟨a, ?_⟩
        simp only [bst]
        rw [b, if_neg (by simp only; omega)]
    · rw [if_neg q]
      refine ⟨(n : Int), ⟨n, rfl, by omega, Or.inr ⟨by omega, ?_⟩⟩, rfl⟩
      simp only [bst]
      rcases l2 with ⟨a, b⟩ | ⟨a, b⟩
      · rw [b, if_pos (by simp only; omega)]
      · rw [b, if_pos (by simp only; omega)]
  · obtain ⟨l, rfl, l1, l2⟩ := hI
    have r2 := hr l (by omega)
    unfold b11_after_249 sAft4
    dsimp only
    rw [if_pos (by decide), w32_id (x := x3) (by omega) (by omega), w32_id (x := (l : Int)) (by omega) (by omega), asrt_t (by omega), Int.toNat_natCast, w32_id (x := hm.2 91 l) (by omega) (by omega)]
    rcases l2 with ⟨a, b⟩ | ⟨a, b⟩
    · rw [b, if_neg (c := ¬ hm.2 91 l = 0) (by omega)]
      repeat' split
      all_goals first | omega | rfl
    · rw [b, if_pos (c := ¬ hm.2 91 l = 0) (by omega)]
      repeat' split
      all_goals first | omega | rfl
theorem does0_in (hV : VOK V) (hm1 : VM hm.2 V) {a b s q : Int} {w : AH} (ha : 0 ≤ a ∧ a ≤ 7) (hb : 0 ≤ b ∧ b ≤ 7) (hs : 0 ≤ s ∧ s ≤ 5) (h : f11_does 0 a b s q hm = some (1, w)) : a < V 0 ∧ b < V 0 := by
  obtain ⟨a, rfl⟩ : ∃ n : Nat, a = n := ⟨a.toNat, by omega⟩
  obtain ⟨b, rfl⟩ : ∃ n : Nat, b = n := ⟨b.toNat, by omega⟩
  obtain ⟨s, rfl⟩ : ∃ n : Nat, s = n := ⟨s.toNat, by omega⟩
  rw [m_does0 hV hm1 (by omega) (by omega) (by omega)] at h
  by_cases c : (a ≠ b ∧ (a : Int) < V 0 ∧ (b : Int) < V 0) ∧ (s : Int) < V 1
  · exact c.1.2
  · rw [if_neg c] at h
    injection h with h
    injection h with h1 h2
    omega
theorem s118 {rec : Int × AH → Option (Int × AH)} {rec79 : Int × Int × Int × Int × AH → Option (Int × AH)} {x3 hot spl cos x9 : Int} {k o i a : Nat} {h : AH} (hx : x9 = i) (h1 : 1 ≤ i) (h2 : i ≤ 2) (o1 : o + 201 ≤ 4824) (t1 : h.2 70 (o + (1 + 5 * k)) = D (1 + 5 * k)) (c : D (1 + 5 * k) = 0) {j : Nat} (hj : j = i + 1 + 5 * k) (t2 : h.2 70 (o + j) = D j) (ha : D j = a) (ha8 : a < 8) (hk : k < 40) : b11_after_118 rec rec79 x3 hot spl cos k ((o : Int) + 1 + 5 * k) x9 h = rec (x9 + 1, wr h 91 a (h.2 91 a + 1)) := by
  unfold b11_after_118
  rw [hx, w32_id (x := (i : Int)) (by omega) (by omega), if_neg (by omega), w32_id (x := ((o : Int) + 1 + 5 * k)) (by omega) (by omega), w32_id (x := ((o : Int) + 1 + 5 * k + i)) (by omega) (by omega), show ((o : Int) + 1 + 5 * k).toNat = o + (1 + 5 * k) by omega, show ((o : Int) + 1 + 5 * k + i).toNat = o + j by omega, asrt_t (by omega), t1, c, if_neg (fun q => q w32_0), asrt_t (by omega), t2, ha, w32_id (x := (a : Int)) (by omega) (by omega), asrt_t (by omega), asrt_t (by omega), lt_eq, Int.toNat_natCast]
/-- loud, as the model counts it -/
theorem m_loop118 {x3 hot spl cos : Int} {k o : Nat} (o1 : o + 201 ≤ 4824) (o2 : ∀ j, j < 201 → hm.2 70 (o + j) = D j) (hk : k < 40) (hD : DK (D (1 + 5 * k)) (D (2 + 5 * k)) (D (3 + 5 * k)) (D (4 + 5 * k)) (D (5 + 5 * k))) : ∃ u, (∀ rec79, l11_after_118 rec79 x3 hot spl cos k ((o : Int) + 1 + 5 * k) 1 hm = b11_after_159 rec79 x3 hot spl cos k u) ∧ u.1 = hm.1 ∧ (∀ i j, i ≠ 91 → u.2 i j = hm.2 i j) ∧ ∀ p, p < 8 → u.2 91 p = hm.2 91 p + xA (D (1 + 5 * k)) (D (2 + 5 * k)) (D (3 + 5 * k)) 1 p := by
  have t1 := o2 (1 + 5 * k) (by omega)
  have t2 := o2 (2 + 5 * k) (by omega)
  have t3 := o2 (3 + 5 * k) (by omega)
  by_cases c : D (1 + 5 * k) = 0
  · have hD0 : (0 ≤ D (2 + 5 * k) ∧ D (2 + 5 * k) ≤ 7) ∧ (0 ≤ D (3 + 5 * k) ∧ D (3 + 5 * k) ≤ 7) ∧ D (2 + 5 * k) ≠ D (3 + 5 * k) := by
      unfold DK at hD
      omega
    obtain ⟨a, ha⟩ : ∃ n : Nat, D (2 + 5 * k) = n := ⟨(D (2 + 5 * k)).toNat, by omega⟩
    obtain ⟨b, hb⟩ : ∃ n : Nat, D (3 + 5 * k) = n := ⟨(D (3 + 5 * k)).toNat, by omega⟩
    refine ⟨wr (wr hm 91 a (hm.2 91 a + 1)) 91 b (hm.2 91 b + 1), fun rec79 => ?_, rfl, fun i j hi => by rw [wr_e (by omega), wr_e (by omega)], fun p hp => ?_⟩
    · unfold l11_after_118
      obtain ⟨rec, e⟩ := fx_open3 (fun rec (z : Int × AH) => b11_after_118 rec rec79 x3 hot spl cos k ((o : Int) + 1 + 5 * k) z.1 z.2) (1, hm)
      rw [e]
      clear e
      dsimp only
      rw [s118 (x9 := 1) (i := 1) (a := a) rfl (by omega) (by omega) o1 t1 c (by omega) t2 ha (by omega) hk]
      dsimp only
      rw [s118 (x9 := 1 + 1) (i := 2) (a := b) rfl (by omega) (by omega) o1 (by rw [wr_e (by omega)]; exact t1) c (by omega) (by rw [wr_e (by omega)]; exact t3) hb (by omega) hk, wr_e (by omega)]
      dsimp only
      unfold b11_after_118
      rw [if_pos (by decide)]
    · unfold xA xQ
      rw [if_pos c, if_pos rfl, ha, hb, Int.toNat_natCast, Int.toNat_natCast]
      by_cases z1 : p = a
      · rw [if_pos z1, if_neg (by omega)]
        subst z1
        simp (disch := omega) only [wr_e, wr_at]
        omega
      · by_cases z2 : p = b
        · rw [if_neg z1, if_pos z2]
          subst z2
          simp (disch := omega) only [wr_e, wr_at]
          omega
        · rw [if_neg z1, if_neg z2]
          simp (disch := omega) only [wr_e, wr_at]
          omega
  · refine ⟨hm, fun rec79 => ?_, rfl, fun _ _ _ => rfl, fun p hp => ?_⟩
    · unfold l11_after_118
      obtain ⟨rec, e⟩ := fx_open3 (fun rec (z : Int × AH) => b11_after_118 rec rec79 x3 hot spl cos k ((o : Int) + 1 + 5 * k) z.1 z.2) (1, hm)
      rw [e]
      clear e
      dsimp only
      have hD0 : 0 ≤ D (1 + 5 * k) ∧ D (1 + 5 * k) ≤ 4 := by
        unfold DK at hD
        omega
      unfold b11_after_118
      rw [w32_1, if_neg (by omega), w32_id (x := ((o : Int) + 1 + 5 * k)) (by omega) (by omega), show ((o : Int) + 1 + 5 * k).toNat = o + (1 + 5 * k) by omega, asrt_t (by omega), t1, w32_id (x := D (1 + 5 * k)) (by omega) (by omega), if_pos c]
    · unfold xA
      rw [if_neg c, Int.add_zero]
theorem m_tail159 {rec79 : Int × Int × Int × Int × AH → Option (Int × AH)} {x3 hot spl cos : Int} {k : Nat} (hV : VOK V) (hS : SR V hc.2 hm.2) (hh : 0 ≤ hot ∧ hot ≤ 99) (hs : -1 ≤ spl ∧ spl ≤ 40) : b11_after_159 rec79 x3 hot spl cos k hm = rec79 (mxo hot (hc.2 48) (V 2).toNat, (if spl = -1 ∧ hc.2 41 4 ≠ 0 then (k : Int) else spl), cos + (if sCos V (hc.2 48) (V 2).toNat then 1 else 0), (k : Int) + 1, hm) := by
  have v2 := hV.2.2.1
  have mc := m_cosy hV hS
  obtain ⟨S1, S2, S3, S4, S5, S6, S7, S8, S9, S10⟩ := hS
  have gen : ∀ sp : Int, b11_after_176 rec79 x3 hot sp cos k hm = rec79 (mxo hot (hc.2 48) (V 2).toNat, sp, cos + (if sCos V (hc.2 48) (V 2).toNat then 1 else 0), (k : Int) + 1, hm) := by
    intro sp
    have h196 : ∀ cs : Int, l11_after_196 rec79 x3 sp cs k hot 0 hm = rec79 (mxo hot (hc.2 48) (V 2).toNat, sp, cs, (k : Int) + 1, hm) := by
      intro cs
      unfold l11_after_196
      refine loop2 (fun i => mxo hot (hc.2 48) i) (V 2).toNat hm (fun n hn rec => ?_) (fun rec => ?_) (by omega)
      · have s5 := S5 n (by omega)
        have r1 := mxo_rng (x := hot) (f := hc.2 48) (n := n) hh (fun i hi => (S5 i (by omega)).2)
        unfold b11_after_196 b11_after_229
        dsimp only
        rw [vm_H S10, w32_id (x := V 2) (by omega) (by omega), w32_id (x := (n : Int)) (by omega) (by omega), if_neg (by omega), asrt_t (by omega), asrt_t (by omega), Int.toNat_natCast, ← s5.1, w32_id (x := hc.2 48 n) (by omega) (by omega), w32_id (x := mxo hot (hc.2 48) n) (by omega) (by omega)]
        simp only [mxo, mx]
        by_cases q : mxo hot (hc.2 48) n < hc.2 48 n
        · rw [if_neg (by omega), if_pos q]
        · rw [if_pos (by omega), if_neg q]
      · unfold b11_after_196
        dsimp only
        rw [vm_H S10, w32_id (x := V 2) (by omega) (by omega), w32_id (x := ((V 2).toNat : Int)) (by omega) (by omega), if_pos (by omega)]
    unfold b11_after_176 b11_after_190
    rw [mc, bnd_some, ite_b, lt_eq, lt_eq, h196, h196]
    by_cases q : sCos V (hc.2 48) (V 2).toNat = true
    · rw [if_pos q, if_neg (by omega)]
    · rw [if_neg q, if_pos rfl]
  unfold b11_after_159
  rw [w32_id (x := spl) (by omega) (by omega), ← S7.1, w32_id (x := hc.2 41 4) (by omega) (by omega), gen, gen]
  by_cases c1 : spl = -1
  · rw [if_neg (fun w => w c1)]
    by_cases c2 : hc.2 41 4 = 0
    · rw [if_pos c2, if_neg (c := spl = -1 ∧ hc.2 41 4 ≠ 0) (fun w => w.2 c2)]
    · rw [if_neg c2, if_pos (c := spl = -1 ∧ hc.2 41 4 ≠ 0) ⟨c1, c2⟩]
  · rw [if_pos c1, if_neg (c := spl = -1 ∧ hc.2 41 4 ≠ 0) (fun w => c1 w.1)]
/-- play and after -/
theorem s_after (hV : VOK V) (hD : DOK D) {v r : Nat} {x : Int} (hx : 0 ≤ x ∧ x ≤ 3) (hc0 : VC hc.2 v V) (hv : v + 5 < 28) (hr : r + 1 < 28) (hR : RW hc.2 r 5 40 D) (hm1 : VM hm.2 V) (hd : DM hm.2 D) : ∃ (k : Int) (hc1 hm1 h46 : AH), f7_play v r 40 hc = some (k, hc1) ∧ f11_begins hm = some (0, h46) ∧ l11_after_35 x 0 h46 = some (sAft4 x (hc1.2 41 7) (bst (fun p => hc1.2 49 p) (V 0).toNat).1 (hc1.2 41 8) (hc1.2 41 9), hm1) ∧ f7_loudest hc1 = some ((bst (fun p => hc1.2 49 p) (V 0).toNat).1, hc1) ∧ KS hc hc1 ∧ PK hm hm1 := by
  have h0 := hD.1
  have v0 := hV.1
  have v2 := hV.2.2.1
  obtain ⟨b1, p1, p2, p3, p4, p5, p6, -⟩ := c_begin hV hc0 hv
  obtain ⟨u, r1, r2, r3, r4, r5, r6, r7⟩ := m_begins hV hm1
  have mu : VM u.2 V := VM_same (fun k _ _ => r3 _ _ (by omega)) (fun k => r3 _ _ (by omega)) hm1
  have hS := SR_0 hV p3 p4 ⟨p6.1, p6.2.1, p6.2.2.1, p6.2.2.2.1⟩ ⟨r4.1, r4.2.1, r4.2.2.1, r4.2.2.2.1⟩ r5 r6 r7 mu
  have hP : PL b1.2 := ⟨by omega, by omega⟩
  obtain ⟨b2, l1, l2, l3, l4, l5⟩ := c_look hV hS hP
  have S5 := hS.2.2.2.2.1
  have hS2 : SR V b2.2 u.2 := SR_41 hS (fun i k hi => l3 i k (by omega))
  have hot0 : b2.2 41 7 = 0 := by
    rw [l4]
    have : ∀ n, n ≤ 4 → mxo (b1.2 41 7) (b1.2 48) n = 0 := by
      intro n
      induction n with
      | zero => intro _; exact p6.2.2.2.2.1
      | succ n ih => intro hn; simp only [mxo, mx]; rw [ih (by omega), p4 n (by omega)]; rfl
    exact this _ (by omega)
  have hP2 : PL b2.2 := ⟨by omega, by rw [l3 _ _ (by omega)]; exact hP.2⟩
  have ks2 : KS hc b2 := p2.tr ⟨l2, fun i k hi => l3 i k (by omega)⟩
  have pu : PK hm u := ⟨r2, fun a ha => funext fun k => r3 a k (by omega), ⟨r3 _ _ (by omega), r3 _ _ (by omega)⟩, r3 _ _ (by omega), r3 _ _ (by omega)⟩
  have du : DM u.2 D := by
    obtain ⟨o, m0, m1, m2⟩ := hd
    exact ⟨o, m0, (r3 _ _ (by omega)).trans m1, fun j hj => (r3 _ _ (by omega)).trans (m2 j hj)⟩
  have e35 : ∃ u2 : AH, l11_after_35 x 0 u = b11_after_74 x 0 (-1) (if sCos V (b1.2 48) (V 2).toNat then 1 else 0) u2 ∧ u2.1 = u.1 ∧ (∀ i k, i ≠ 91 → u2.2 i k = u.2 i k) ∧ ∀ p, p < 8 → u2.2 91 p = 0 := by
    unfold l11_after_35
    refine fr (fun X => ∃ u2 : AH, X = b11_after_74 x 0 (-1) (if sCos V (b1.2 48) (V 2).toNat then 1 else 0) u2 ∧ u2.1 = u.1 ∧ (∀ i k, i ≠ 91 → u2.2 i k = u.2 i k) ∧ ∀ p, p < 8 → u2.2 91 p = 0) (fun h1 i => (i, h1)) (fun n w => w.1 = u.1 ∧ (∀ i k, i ≠ 91 → w.2 i k = u.2 i k) ∧ ∀ q, q < n → w.2 91 q = 0) 0 8 u ⟨rfl, fun _ _ _ => rfl, fun q hq => by omega⟩ (by omega) (by omega) (fun n w _ hn hI rec => ?_) (fun w hI rec => ?_)
    · obtain ⟨k1, k2, k3⟩ := hI
      right
      unfold b11_after_35
      dsimp only
      rw [w32_id (x := (n : Int)) (by omega) (by omega), if_neg (by omega), asrt_t (by omega), lt_eq, Int.toNat_natCast]
      refine ⟨wr w 91 n 0, ⟨k1, fun i k hi => by rw [wr_e (by omega)]; exact k2 i k hi, fun q hq => ?_⟩, rfl⟩
      by_cases y : q = n
      · subst y; rw [wr_at]
      · rw [wr_e (by omega)]; exact k3 q (by omega)
    · obtain ⟨k1, k2, k3⟩ := hI
      have hSw : SR V b1.2 w.2 := by
        obtain ⟨S1, S2, S3, S4, S5, S6, S7, S8, S9, S10⟩ := hS
        refine ⟨S1, fun i hi => ?_, S3, fun i hi => ?_, fun i hi => ?_, ?_, ?_, ?_, ?_, ?_⟩
        · rw [k2 _ _ (by omega)]; exact S2 i hi
        · rw [k2 _ _ (by omega)]; exact S4 i hi
        · rw [k2 _ _ (by omega)]; exact S5 i hi
        · rw [k2 _ _ (by omega)]; exact S6
        · rw [k2 _ _ (by omega)]; exact S7
        · rw [k2 _ _ (by omega)]; exact S8
        · rw [k2 _ _ (by omega)]; exact S9
        · exact VM_same (fun k _ _ => k2 _ _ (by omega)) (fun k => k2 _ _ (by omega)) S10
      unfold b11_after_35
      dsimp only
      rw [if_pos (by decide), m_cosy hV hSw, bnd_some, ite_b]
      refine ⟨w, ?_, k1, k2, k3⟩
      by_cases q : sCos V (b1.2 48) (V 2).toNat = true
      · rw [if_pos q, if_neg (by omega)]
      · rw [if_neg q, if_pos rfl]
  obtain ⟨u2, g1, g2, g3, g4⟩ := e35
  have hS3 : SR V b2.2 u2.2 := by
    obtain ⟨S1, S2, S3, S4, S5, S6, S7, S8, S9, S10⟩ := hS2
    refine ⟨S1, fun i hi => ?_, S3, fun i hi => ?_, fun i hi => ?_, ?_, ?_, ?_, ?_, ?_⟩
    · rw [g3 _ _ (by omega)]; exact S2 i hi
    · rw [g3 _ _ (by omega)]; exact S4 i hi
    · rw [g3 _ _ (by omega)]; exact S5 i hi
    · rw [g3 _ _ (by omega)]; exact S6
    · rw [g3 _ _ (by omega)]; exact S7
    · rw [g3 _ _ (by omega)]; exact S8
    · rw [g3 _ _ (by omega)]; exact S9
    · exact VM_same (fun k _ _ => g3 _ _ (by omega)) (fun k => g3 _ _ (by omega)) S10
  have pu2 : PK hm u2 := pu.tr ⟨g2, fun a ha => funext fun k => g3 a k (by omega), ⟨g3 _ _ (by omega), g3 _ _ (by omega)⟩, g3 _ _ (by omega), g3 _ _ (by omega)⟩
  have du2 : DM u2.2 D := by
    obtain ⟨o, m0, m1, m2⟩ := du
    exact ⟨o, m0, (g3 _ _ (by omega)).trans m1, fun j hj => (g3 _ _ (by omega)).trans (m2 j hj)⟩
  have main : ∃ (k : Int) (hc1 hm1 : AH), f7_play v r 40 hc = some (k, hc1) ∧ b11_after_74 x 0 (-1) (if sCos V (b1.2 48) (V 2).toNat then 1 else 0) u2 = some (sAft4 x (hc1.2 41 7) (bst (fun p => hc1.2 49 p) (V 0).toNat).1 (hc1.2 41 8) (hc1.2 41 9), hm1) ∧ f7_loudest hc1 = some ((bst (fun p => hc1.2 49 p) (V 0).toNat).1, hc1) ∧ KS hc hc1 ∧ PK hm hm1 := by
    unfold f7_play b11_after_74 l7_play_12 l11_after_79
    rw [p1, bnd_some, l1, bnd_some]
    refine wh2 (fun n (z : Int × AH) (y : Int × Int × Int × Int × AH) => ∃ k : Nat, n = 41 - k ∧ (k : Int) ≤ D 0 ∧ z.1 = (k : Int) ∧ y.2.2.2.1 = (k : Int) ∧ SR V z.2.2 y.2.2.2.2.2 ∧ PL z.2.2 ∧ KS hc z.2 ∧ PK hm y.2.2.2.2 ∧ DM y.2.2.2.2.2 D ∧ (y.1 = z.2.2 41 7 ∧ y.2.1 = z.2.2 41 8 ∧ y.2.2.1 = z.2.2 41 9) ∧ (∀ p, p < 8 → z.2.2 49 p = y.2.2.2.2.2 91 p ∧ 0 ≤ z.2.2 49 p ∧ z.2.2 49 p ≤ 2 * k) ∧ ∀ p : Nat, p < 8 → V 0 ≤ (p : Int) → z.2.2 49 p = 0) (fun A B => ∃ (k : Int) (hc1 hm1 : AH), A = some (k, hc1) ∧ B = some (sAft4 x (hc1.2 41 7) (bst (fun p => hc1.2 49 p) (V 0).toNat).1 (hc1.2 41 8) (hc1.2 41 9), hm1) ∧ f7_loudest hc1 = some ((bst (fun p => hc1.2 49 p) (V 0).toNat).1, hc1) ∧ KS hc hc1 ∧ PK hm hm1) (fun n z y hp => ?_) FU 41 (0, b2) (0, -1, (if sCos V (b1.2 48) (V 2).toNat then 1 else 0), 0, u2) ⟨0, rfl, by omega, rfl, rfl, hS3, hP2, ks2, pu2, du2, ⟨hot0.symm, by show -1 = b2.2 41 8; rw [l3 _ _ (by omega)]; omega, by show (if sCos V (b1.2 48) (V 2).toNat then 1 else 0) = b2.2 41 9; rw [l5, p6.2.2.2.2.2.2, Int.zero_add]⟩, fun p hp => by show b2.2 49 p = u2.2 91 p ∧ 0 ≤ b2.2 49 p ∧ b2.2 49 p ≤ 2 * ((0 : Nat) : Int); rw [l3 _ _ (by omega), p5 p hp, g4 p hp]; omega, fun p hp _ => by show b2.2 49 p = 0; rw [l3 _ _ (by omega), p5 p hp]⟩ (FU_big (by omega))
    obtain ⟨k, q1, q2, q3, q4, q5, q6, q7, q8, q9, q10, q11, q12⟩ := hp
    obtain ⟨zk, z⟩ := z
    obtain ⟨hot, spl, cos, yk, y⟩ := y
    simp only at q3 q4 q5 q6 q7 q8 q9 q10 q11 q12
    subst q3
    subst q4
    obtain ⟨t1, t2, t3⟩ := q10
    subst t1
    subst t2
    subst t3
    have hRz := RW_KS q7 hr hR
    obtain ⟨o, o0, o1, o2⟩ := id q9
    have o3 := o2 0 (by omega)
    rw [Nat.add_zero] at o3
    have fin : ∀ (c2 m2 : AH), SR V c2.2 m2.2 → (∀ k, 7 ≤ k → c2.2 41 k = z.2 41 k) → (∀ p, p < 8 → c2.2 49 p = z.2 49 p) → (∀ p, p < 8 → m2.2 91 p = y.2 91 p) → b11_after_243 x (z.2 41 7) (z.2 41 8) (z.2 41 9) m2 = some (sAft4 x (c2.2 41 7) (bst (fun p => c2.2 49 p) (V 0).toNat).1 (c2.2 41 8) (c2.2 41 9), m2) ∧ f7_loudest c2 = some ((bst (fun p => c2.2 49 p) (V 0).toNat).1, c2) := by
      intro c2 m2 s2 f1 f2 f3
      constructor
      · have e8 : bst (fun p => m2.2 91 p) 8 = bst (fun p => c2.2 49 p) (V 0).toNat := by
          rw [← bst_more (f := fun p => c2.2 49 p) (m := (V 0).toNat) (n := 8) (by omega) (fun i i1 i2 => by rw [f2 i i2, q12 i i2 (by omega)]; omega)]
          exact bst_cong (fun i hi => by rw [f3 i hi, f2 i hi]; exact (q11 i hi).1.symm)
        rw [m_loud hx (fun p hp => by rw [f3 p hp]; have := q11 p hp; omega), e8, f1 7 (by omega), f1 8 (by omega), f1 9 (by omega)]
      · exact c_loudest hV s2.1.1 (fun p hp => by rw [f2 p hp]; have := q11 p hp; omega)
    by_cases c1 : (k : Int) < D 0
    · obtain ⟨rr, c2, m2, e1, e2, e3, e4, e5, e6⟩ := s_act hV q5 (hD.dk c1)
      have mt := m_told hD q9 c1
      have e3' : w32 rr = 0 ∨ w32 rr = 1 := by rcases e3 with e | e <;> rw [e] <;> decide
      rw [e2, bnd_some, asrt_t e3'] at mt
      have eG : ∀ rec2, b11_after_79 rec2 x (z.2 41 7) (z.2 41 8) (z.2 41 9) k y = if w32 rr = 0 then b11_after_243 x (z.2 41 7) (z.2 41 8) (z.2 41 9) m2 else l11_after_118 rec2 x (z.2 41 7) (z.2 41 8) (z.2 41 9) k ((o : Int) + 1 + 5 * k) 1 m2 := by
        intro rec2
        have k31 : m2.2 69 31 = o := (e6.2 _ _ (by omega)).trans o1
        unfold b11_after_79
        rw [o1, w32_id (x := (o : Int)) (by omega) (by omega), asrt_t (by omega), Int.toNat_natCast, o3, w32_id (x := D 0) (by omega) (by omega), w32_id (x := (k : Int)) (by omega) (by omega), if_neg (by omega), mt, bnd_some, k31, lt_eq]
      have hP3 : PL c2.2 := ⟨by rw [e5.2.1 7 (by omega)]; exact q6.1, by rw [e5.2.1 8 (by omega)]; exact q6.2⟩
      have pm : PK y m2 := e6.pk
      have x40 : Rg 40 := ⟨by omega, by omega⟩
      rcases e3 with e | e
      · left
        intro rec rec2
        subst e
        obtain ⟨f1, f2⟩ := fin c2 m2 e4 e5.2.1 (fun p hp => by rw [e5.2.2 p hp]; unfold xA xQ; rw [if_neg (c := (0 : Int) = 1) (by omega)]; split <;> omega) (fun p hp => e6.2 _ _ (by omega))
        refine ⟨k, c2, m2, ?_, ?_, f2, q7.tr e5.1, q8.tr pm⟩
        · dsimp only
          rw [c_deed hRz c1 x40 (by omega), e1, bnd_some, if_neg (fun w => w w32_0)]
        · dsimp only
          rw [eG, if_pos w32_0, f1]
      · right
        subst e
        obtain ⟨w, t1, t2, t3, t4, t5, t6, t7, t8⟩ := c_tail hV e4 hP3 (k := k) (x2 := r) (x3 := 40) (by omega)
        have m118 := m_loop118 (hm := m2) (x3 := x) (hot := z.2 41 7) (spl := z.2 41 8) (cos := z.2 41 9) (D := D) (k := k) o0 (fun j hj => (e6.2 70 _ (by omega)).trans (o2 j hj)) (by omega) (hD.dk c1)
        obtain ⟨u3, i1, i2, i3, i4⟩ := m118
        have hSu : SR V c2.2 u3.2 := by
          obtain ⟨S1, S2, S3, S4, S5, S6, S7, S8, S9, S10⟩ := e4
          refine ⟨S1, fun i hi => ?_, S3, fun i hi => ?_, fun i hi => ?_, ?_, ?_, ?_, ?_, ?_⟩
          · rw [i3 _ _ (by omega)]; exact S2 i hi
          · rw [i3 _ _ (by omega)]; exact S4 i hi
          · rw [i3 _ _ (by omega)]; exact S5 i hi
          · rw [i3 _ _ (by omega)]; exact S6
          · rw [i3 _ _ (by omega)]; exact S7
          · rw [i3 _ _ (by omega)]; exact S8
          · rw [i3 _ _ (by omega)]; exact S9
          · exact VM_same (fun k _ _ => i3 _ _ (by omega)) (fun k => i3 _ _ (by omega)) S10
        have hSw : SR V w.2 u3.2 := by
          obtain ⟨S1, S2, S3, S4, S5, S6, S7, S8, S9, S10⟩ := t3
          have T10 := hSu.2.2.2.2.2.2.2.2.2
          refine ⟨S1, fun i hi => ?_, S3, fun i hi => ?_, fun i hi => ?_, ?_, ?_, ?_, ?_, T10⟩
          · rw [i3 _ _ (by omega)]; exact S2 i hi
          · rw [i3 _ _ (by omega)]; exact S4 i hi
          · rw [i3 _ _ (by omega)]; exact S5 i hi
          · rw [i3 _ _ (by omega)]; exact S6
          · rw [i3 _ _ (by omega)]; exact S7
          · rw [i3 _ _ (by omega)]; exact S8
          · rw [i3 _ _ (by omega)]; exact S9
        have pu3 : PK m2 u3 := ⟨i2, fun a ha => funext fun k => i3 a k (by omega), ⟨i3 _ _ (by omega), i3 _ _ (by omega)⟩, i3 _ _ (by omega), i3 _ _ (by omega)⟩
        have du3 : DM u3.2 D := by
          obtain ⟨o, m0, m1, m2⟩ := e6.dm q9
          exact ⟨o, m0, (i3 _ _ (by omega)).trans m1, fun j hj => (i3 _ _ (by omega)).trans (m2 j hj)⟩
        have x01 : ∀ p, 0 ≤ xA (D (1 + 5 * k)) (D (2 + 5 * k)) (D (3 + 5 * k)) 1 p ∧ xA (D (1 + 5 * k)) (D (2 + 5 * k)) (D (3 + 5 * k)) 1 p ≤ 2 := fun p => by
          unfold xA xQ
          repeat' split
          all_goals omega
        have xout : ∀ p : Nat, V 0 ≤ (p : Int) → xA (D (1 + 5 * k)) (D (2 + 5 * k)) (D (3 + 5 * k)) 1 p = 0 := by
          intro p hp
          unfold xA xQ
          by_cases c : D (1 + 5 * k) = 0
          · have dk := hD.dk c1
            have hD0 : (0 ≤ D (2 + 5 * k) ∧ D (2 + 5 * k) ≤ 7) ∧ (0 ≤ D (3 + 5 * k) ∧ D (3 + 5 * k) ≤ 7) ∧ (0 ≤ D (4 + 5 * k) ∧ D (4 + 5 * k) ≤ 5) := by
              unfold DK at dk
              omega
            rw [c] at e2
            have := does0_in hV q5.2.2.2.2.2.2.2.2.2 hD0.1 hD0.2.1 hD0.2.2 e2
            rw [if_pos c, if_pos rfl, if_neg (by omega), if_neg (by omega)]
            rfl
          · rw [if_neg c]
        refine ⟨41 - (k + 1), ((k : Int) + 1, w), (mxo (z.2 41 7) (c2.2 48) (V 2).toNat, (if z.2 41 8 = -1 ∧ c2.2 41 4 ≠ 0 then (k : Int) else z.2 41 8), z.2 41 9 + (if sCos V (c2.2 48) (V 2).toNat then 1 else 0), (k : Int) + 1, u3), by omega, ⟨k + 1, rfl, by omega, rfl, rfl, hSw, t4, (q7.tr e5.1).tr t2, (q8.tr pm).tr pu3, du3, ⟨?_, ?_, ?_⟩, fun p hp => ?_, fun p hp hv => ?_⟩, fun rec => ?_, fun rec2 => ?_⟩
        · show _ = w.2 41 7
          rw [t7, e5.2.1 7 (by omega)]
        · show _ = w.2 41 8
          rw [t6, e5.2.1 8 (by omega)]
        · show _ = w.2 41 9
          rw [t8, e5.2.1 9 (by omega)]
        · show w.2 49 p = u3.2 91 p ∧ 0 ≤ w.2 49 p ∧ w.2 49 p ≤ 2 * ((k + 1 : Nat) : Int)
          have := q11 p hp
          have := x01 p
          rw [t5 p, e5.2.2 p hp, i4 p hp, e6.2 91 p (by omega)]
          omega
        · show w.2 49 p = 0
          rw [t5 p, e5.2.2 p hp, xout p hv, q12 p hp hv]
          rfl
        · dsimp only
          rw [c_deed hRz c1 x40 (by omega), e1, bnd_some, if_pos (by rw [w32_1]; omega)]
          exact t1 rec
        · dsimp only
          rw [eG, if_neg (by rw [w32_1]; omega), i1, m_tail159 hV hSu q6.1 q6.2]
    · left
      intro rec rec2
      obtain ⟨f1, f2⟩ := fin z y q5 (fun _ _ => rfl) (fun _ _ => rfl) (fun _ _ => rfl)
      refine ⟨k, z, y, ?_, ?_, f2, q7, q8⟩
      · unfold b7_play_12
        dsimp only
        rw [show w32 40 = 40 by decide, hRz.2.1.1, w32_id (x := D 0) (by omega) (by omega), w32_id (x := (k : Int)) (by omega) (by omega)]
        by_cases c2 : (40 : Int) ≤ k
        · rw [if_pos c2]
        · rw [if_neg c2, if_pos (by omega)]
      · dsimp only
        unfold b11_after_79
        rw [o1, w32_id (x := (o : Int)) (by omega) (by omega), asrt_t (by omega), Int.toNat_natCast, o3, w32_id (x := D 0) (by omega) (by omega), w32_id (x := (k : Int)) (by omega) (by omega), if_pos (by omega), f1]
  obtain ⟨k, hc1, hm2, n1, n2, n3, n4, n5⟩ := main
  exact ⟨k, hc1, hm2, u, n1, r1, g1.trans n2, n3, n4, n5⟩
end After
