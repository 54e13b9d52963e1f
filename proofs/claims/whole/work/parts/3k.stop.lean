/-! stop, state -/
section Stop
variable {V D : Nat → Int} {hc hm : AH}
theorem m_begins (hV : VOK V) (hm1 : VM hm.2 V) : ∃ u, f11_begins hm = some (0, u) ∧ u.1 = hm.1 ∧ (∀ i k, (i < 69 ∨ (i = 69 ∧ (k < 32 ∨ 36 < k)) ∨ (69 < i ∧ i < 88) ∨ 90 < i) → u.2 i k = hm.2 i k) ∧ (u.2 69 32 = 0 ∧ u.2 69 33 = 0 ∧ u.2 69 34 = 0 ∧ u.2 69 35 = 0 ∧ u.2 69 36 = 0) ∧ (∀ q, q < 4 → u.2 88 q = 0) ∧ (∀ s : Nat, (s : Int) < V 1 → u.2 89 s = V (4 + 2 * s)) ∧ ∀ q, q < 48 → u.2 90 q = V (24 + q) := by
  have v1 := hV.2.1
  unfold f11_begins
  rw [lt_eq, lt_eq, lt_eq, lt_eq, lt_eq]
  generalize hu : wr (wr (wr (wr (wr hm 69 32 0) 69 33 0) 69 34 0) 69 35 0) 69 36 0 = u0
  have a1 : u0.1 = hm.1 := by rw [← hu]; rfl
  have a2 : ∀ i k, ¬ (i = 69 ∧ 32 ≤ k ∧ k ≤ 36) → u0.2 i k = hm.2 i k := fun i k hi => by rw [← hu]; simp (disch := omega) only [wr_e]
  have a3 : u0.2 69 32 = 0 ∧ u0.2 69 33 = 0 ∧ u0.2 69 34 = 0 ∧ u0.2 69 35 = 0 ∧ u0.2 69 36 = 0 := by
    rw [← hu]
    refine ⟨?_, ?_, ?_, ?_, ?_⟩ <;> simp (disch := omega) only [wr_e, wr_at]
  clear hu
  unfold l11_begins_27
  refine fr (fun X => ∃ u, X = some (0, u) ∧ u.1 = hm.1 ∧ (∀ i k, (i < 69 ∨ (i = 69 ∧ (k < 32 ∨ 36 < k)) ∨ (69 < i ∧ i < 88) ∨ 90 < i) → u.2 i k = hm.2 i k) ∧ (u.2 69 32 = 0 ∧ u.2 69 33 = 0 ∧ u.2 69 34 = 0 ∧ u.2 69 35 = 0 ∧ u.2 69 36 = 0) ∧ (∀ q, q < 4 → u.2 88 q = 0) ∧ (∀ s : Nat, (s : Int) < V 1 → u.2 89 s = V (4 + 2 * s)) ∧ ∀ q, q < 48 → u.2 90 q = V (24 + q)) (fun h1 i => (i, h1)) (fun n w => w.1 = hm.1 ∧ (∀ i k, i ≠ 88 → w.2 i k = u0.2 i k) ∧ ∀ q, q < n → w.2 88 q = 0) 0 4 u0 ⟨a1, fun _ _ _ => rfl, fun q hq => by omega⟩ (by omega) (by omega) (fun n w _ hn hI rec => ?_) (fun w hI rec => ?_)
  · obtain ⟨k1, k2, k3⟩ := hI
    right
    unfold b11_begins_27
    dsimp only
    rw [w32_id (x := (n : Int)) (by omega) (by omega), if_neg (by omega), asrt_t (by omega), lt_eq, Int.toNat_natCast]
    refine ⟨wr w 88 n 0, ⟨k1, fun i k hi => by rw [wr_e (by omega)]; exact k2 i k hi, fun q hq => ?_⟩, rfl⟩
    by_cases y : q = n
    · subst y; rw [wr_at]
    · rw [wr_e (by omega)]; exact k3 q (by omega)
  · obtain ⟨k1, k2, k3⟩ := hI
    unfold b11_begins_27 l11_begins_47
    dsimp only
    rw [if_pos (by decide)]
    have s14 : w.2 69 14 = V 1 := by rw [k2 _ _ (by omega), a2 _ _ (by omega)]; exact vm_S hm1
    refine fr (fun X => ∃ u, X = some (0, u) ∧ u.1 = hm.1 ∧ (∀ i k, (i < 69 ∨ (i = 69 ∧ (k < 32 ∨ 36 < k)) ∨ (69 < i ∧ i < 88) ∨ 90 < i) → u.2 i k = hm.2 i k) ∧ (u.2 69 32 = 0 ∧ u.2 69 33 = 0 ∧ u.2 69 34 = 0 ∧ u.2 69 35 = 0 ∧ u.2 69 36 = 0) ∧ (∀ q, q < 4 → u.2 88 q = 0) ∧ (∀ s : Nat, (s : Int) < V 1 → u.2 89 s = V (4 + 2 * s)) ∧ ∀ q, q < 48 → u.2 90 q = V (24 + q)) (fun h1 i => (i, h1)) (fun n x => x.1 = hm.1 ∧ (∀ i k, i ≠ 89 → x.2 i k = w.2 i k) ∧ ∀ s, s < n → x.2 89 s = V (4 + 2 * s)) 0 (V 1).toNat w ⟨k1, fun _ _ _ => rfl, fun q hq => by omega⟩ (by omega) (by omega) (fun n x _ hn hI rec => ?_) (fun x hI rec => ?_)
    · obtain ⟨j1, j2, j3⟩ := hI
      have mx1 : VM x.2 V := VM_same (fun k _ _ => by rw [j2 _ _ (by omega), k2 _ _ (by omega), a2 _ _ (by omega)]) (fun k => by rw [j2 _ _ (by omega), k2 _ _ (by omega), a2 _ _ (by omega)]) hm1
      right
      unfold b11_begins_47
      dsimp only
      rw [j2 _ _ (by omega), s14, w32_id (x := V 1) (by omega) (by omega), w32_id (x := (n : Int)) (by omega) (by omega), if_neg (by omega), m_heat mx1 n (by omega), bnd_some, asrt_t (by omega), lt_eq, Int.toNat_natCast]
      refine ⟨wr x 89 n (V (4 + 2 * n)), ⟨j1, fun i k hi => by rw [wr_e (by omega)]; exact j2 i k hi, fun q hq => ?_⟩, rfl⟩
      by_cases y : q = n
      · subst y; rw [wr_at]
      · rw [wr_e (by omega)]; exact j3 q (by omega)
    · obtain ⟨j1, j2, j3⟩ := hI
      unfold b11_begins_47 l11_begins_74
      dsimp only
      rw [j2 _ _ (by omega), s14, w32_id (x := V 1) (by omega) (by omega), w32_id (x := ((V 1).toNat : Int)) (by omega) (by omega), if_pos (by omega)]
      refine fr (fun X => ∃ u, X = some (0, u) ∧ u.1 = hm.1 ∧ (∀ i k, (i < 69 ∨ (i = 69 ∧ (k < 32 ∨ 36 < k)) ∨ (69 < i ∧ i < 88) ∨ 90 < i) → u.2 i k = hm.2 i k) ∧ (u.2 69 32 = 0 ∧ u.2 69 33 = 0 ∧ u.2 69 34 = 0 ∧ u.2 69 35 = 0 ∧ u.2 69 36 = 0) ∧ (∀ q, q < 4 → u.2 88 q = 0) ∧ (∀ s : Nat, (s : Int) < V 1 → u.2 89 s = V (4 + 2 * s)) ∧ ∀ q, q < 48 → u.2 90 q = V (24 + q)) (fun h1 i => (i, h1)) (fun n y => y.1 = hm.1 ∧ (∀ i k, i ≠ 90 → y.2 i k = x.2 i k) ∧ ∀ q, q < n → y.2 90 q = V (24 + q)) 0 48 x ⟨j1, fun _ _ _ => rfl, fun q hq => by omega⟩ (by omega) (by omega) (fun n y _ hn hI rec => ?_) (fun y hI rec => ?_)
      · obtain ⟨i1, i2, i3⟩ := hI
        have mx1 : VM y.2 V := VM_same (fun k _ _ => by rw [i2 _ _ (by omega), j2 _ _ (by omega), k2 _ _ (by omega), a2 _ _ (by omega)]) (fun k => by rw [i2 _ _ (by omega), j2 _ _ (by omega), k2 _ _ (by omega), a2 _ _ (by omega)]) hm1
        have ma := m_at mx1 (24 + n) (by omega) (e := y.2 69 12 + 24 + n) (fun o ho => by rw [ho]; omega)
        right
        unfold b11_begins_74
        dsimp only
        rw [w32_id (x := (n : Int)) (by omega) (by omega), if_neg (by omega), asrt_t ma.1, asrt_t (by omega), lt_eq, Int.toNat_natCast, ma.2]
        refine ⟨wr y 90 n (V (24 + n)), ⟨i1, fun i k hi => by rw [wr_e (by omega)]; exact i2 i k hi, fun q hq => ?_⟩, rfl⟩
        by_cases z : q = n
        · subst z; rw [wr_at]
        · rw [wr_e (by omega)]; exact i3 q (by omega)
      · obtain ⟨i1, i2, i3⟩ := hI
        unfold b11_begins_74
        dsimp only
        rw [if_pos (by decide)]
        refine ⟨y, rfl, i1, fun i k hi => ?_, ?_, fun q hq => ?_, fun s hs => ?_, i3⟩
        · rw [i2 _ _ (by omega), j2 _ _ (by omega), k2 _ _ (by omega), a2 _ _ (by omega)]
        · rw [i2 _ _ (by omega), j2 _ _ (by omega), k2 _ _ (by omega), i2 _ _ (by omega), j2 _ _ (by omega), k2 _ _ (by omega), i2 _ _ (by omega), j2 _ _ (by omega), k2 _ _ (by omega), i2 _ _ (by omega), j2 _ _ (by omega), k2 _ _ (by omega), i2 _ _ (by omega), j2 _ _ (by omega), k2 _ _ (by omega)]; exact a3
        · rw [i2 _ _ (by omega), j2 _ _ (by omega)]; exact k3 q hq
        · rw [i2 _ _ (by omega)]; exact j3 s (by omega)
theorem SR_0 (hV : VOK V) (hc1 : VC hc.2 42 V) (c48 : ∀ q, q < 4 → hc.2 48 q = 0) (c41 : hc.2 41 3 = 0 ∧ hc.2 41 4 = 0 ∧ hc.2 41 5 = 0 ∧ hc.2 41 6 = 0) (m69 : hm.2 69 32 = 0 ∧ hm.2 69 33 = 0 ∧ hm.2 69 34 = 0 ∧ hm.2 69 35 = 0) (m88 : ∀ q, q < 4 → hm.2 88 q = 0) (m89 : ∀ s : Nat, (s : Int) < V 1 → hm.2 89 s = V (4 + 2 * s)) (m90 : ∀ q, q < 48 → hm.2 90 q = V (24 + q)) (hm1 : VM hm.2 V) : SR V hc.2 hm.2 := by
  obtain ⟨c0, c1, c2, c3, c4, c5, c6⟩ := hc1
  obtain ⟨v0, v1, v2, v3, v4, v5, v6⟩ := hV
  refine ⟨⟨c0, c1, c2, c3⟩, fun s hs => ?_, fun q hq => c5 q hq, fun q hq => ?_, fun q hq => ?_, by omega, by omega, by omega, by omega, hm1⟩
  · have h1 := c4 s hs
    have h2 := m89 s hs
    have h3 := v4 s hs
    refine ⟨h1.2, h1.1.trans h2.symm, ?_, ?_⟩
    · rw [show hc.2 43 s = V (4 + 2 * s) from h1.1]; omega
    · rw [show hc.2 43 s = V (4 + 2 * s) from h1.1]; omega
  · have h1 := c6 q hq
    have h2 := m90 q hq
    have h3 := v6 q hq
    rw [show hc.2 47 q = V (24 + q) from h1, h2]
    exact ⟨rfl, h3⟩
  · rw [c48 q hq, m88 q hq]; omega
theorem RW_KS {h h1 : AH} {r w m : Nat} (k : KS h h1) (hr : r + 1 < 28) (hR : RW h.2 r w m D) : RW h1.2 r w m D := by
  obtain ⟨⟨a0, a1⟩, ⟨a2, a3⟩, a4, a5⟩ := hR
  exact ⟨⟨(k.2 _ _ (by omega)).trans a0, (k.2 _ _ (by omega)).trans a1⟩, ⟨(k.2 _ _ (by omega)).trans a2, fun i hi => (k.2 _ _ (by omega)).trans (a3 i hi)⟩, a4, a5⟩
theorem c_deed {r : Nat} (hR : RW hc.2 r 5 40 D) {k : Nat} (hk : (k : Int) < D 0) {x3 : Int} (hx3 : Rg x3) (hk3 : (k : Int) < x3) (rec12 : Int × AH → Option (Int × AH)) : b7_play_12 rec12 r x3 k hc = bnd (f7_act (D (1 + 5 * k)) (D (2 + 5 * k)) (D (3 + 5 * k)) (D (4 + 5 * k)) (D (5 + 5 * k)) hc) fun r31 h32 => if ¬ w32 r31 = 0 then (if ¬ w32 (h32.2 41 8) = (-1) then b7_play_93 rec12 r x3 k h32 else if w32 (h32.2 41 4) = 0 then b7_play_93 rec12 r x3 k h32 else lt (wr h32 41 8 k) fun h36 => b7_play_93 rec12 r x3 k h36) else some ((k : Int), h32) := by
  have h0 := hR.2.2.1
  have c := fun i => c_cell (by omega) (by omega) hR (k : Int) i
  have e : ∀ i : Nat, i < 5 → sCell ((5 : Nat) : Int) D (w32 k) (w32 (i : Int)) = D (i + 1 + 5 * k) := fun i hi => by
    unfold sCell
    rw [w32_id (x := (k : Int)) (by omega) (by omega), w32_id (x := (i : Int)) (by omega) (by omega), if_pos (by omega), show 1 + ((k : Int) * ((5 : Nat) : Int) + (i : Int)).toNat = i + 1 + 5 * k by omega]
  unfold b7_play_12
  rw [w32_id hx3.1 hx3.2, hR.2.1.1, w32_id (x := D 0) (by omega) (by omega), w32_id (x := (k : Int)) (by omega) (by omega), if_neg (by omega), if_neg (by omega)]
  have c0 := c 0
  have c1 := c 1
  have c2 := c 2
  have c3 := c 3
  have c4 := c 4
  rw [show (0 : Int) = ((0 : Nat) : Int) from rfl, e 0 (by omega)] at c0
  rw [show (1 : Int) = ((1 : Nat) : Int) from rfl, e 1 (by omega)] at c1
  rw [show (2 : Int) = ((2 : Nat) : Int) from rfl, e 2 (by omega)] at c2
  rw [show (3 : Int) = ((3 : Nat) : Int) from rfl, e 3 (by omega)] at c3
  rw [show (4 : Int) = ((4 : Nat) : Int) from rfl, e 4 (by omega)] at c4
  have c0' : f6_cell r (k : Int) 0 hc = some (D (1 + 5 * k), hc) := by rw [← show 0 + 1 + 5 * k = 1 + 5 * k by omega]; exact c0
  have c1' : f6_cell r (k : Int) 1 hc = some (D (2 + 5 * k), hc) := c1
  have c2' : f6_cell r (k : Int) 2 hc = some (D (3 + 5 * k), hc) := c2
  have c3' : f6_cell r (k : Int) 3 hc = some (D (4 + 5 * k), hc) := c3
  have c4' : f6_cell r (k : Int) 4 hc = some (D (5 + 5 * k), hc) := c4
  rw [c0', bnd_some, c1', bnd_some, c2', bnd_some, c3', bnd_some, c4', bnd_some]
/-- play and runs -/
theorem s_play (hV : VOK V) (hD : DOK D) {v r : Nat} {x3 : Int} (hx3 : Rg x3) (hx0 : 0 ≤ x3) (hc0 : VC hc.2 v V) (hv : v + 5 < 28) (hr : r + 1 < 28) (hR : RW hc.2 r 5 40 D) (hm1 : VM hm.2 V) (hd : DM hm.2 D) : ∃ (k : Nat) (hc1 hm1 : AH), f7_play v r x3 hc = some ((k : Int), hc1) ∧ f11_runs x3 hm = some (0, hm1) ∧ hm1.2 69 36 = k ∧ SR V hc1.2 hm1.2 ∧ KS hc hc1 ∧ PK hm hm1 ∧ (k : Int) ≤ D 0 := by
  have h0 := hD.1
  obtain ⟨b1, p1, p2, p3, p4, p5, p6, -⟩ := c_begin hV hc0 hv
  obtain ⟨u, r1, r2, r3, r4, r5, r6, r7⟩ := m_begins hV hm1
  have mu : VM u.2 V := VM_same (fun k _ _ => r3 _ _ (by omega)) (fun k => r3 _ _ (by omega)) hm1
  have hS := SR_0 hV p3 p4 ⟨p6.1, p6.2.1, p6.2.2.1, p6.2.2.2.1⟩ ⟨r4.1, r4.2.1, r4.2.2.1, r4.2.2.2.1⟩ r5 r6 r7 mu
  have hP : PL b1.2 := ⟨by omega, by omega⟩
  obtain ⟨b2, l1, l2, l3, l4, l5⟩ := c_look hV hS hP
  have S5 := hS.2.2.2.2.1
  have v2 := hV.2.2.1
  have hS2 : SR V b2.2 u.2 := SR_41 hS (fun i k hi => l3 i k (by omega))
  have hP2 : PL b2.2 := ⟨by rw [l4]; exact mxo_rng hP.1 (fun i hi => (S5 i (by omega)).2), by rw [l3 _ _ (by omega)]; exact hP.2⟩
  have ks2 : KS hc b2 := p2.tr ⟨l2, fun i k hi => l3 i k (by omega)⟩
  have pu : PK hm u := ⟨r2, fun a ha => funext fun k => r3 a k (by omega), ⟨r3 _ _ (by omega), r3 _ _ (by omega)⟩, r3 _ _ (by omega), r3 _ _ (by omega)⟩
  have du : DM u.2 D := by
    obtain ⟨o, m0, m1, m2⟩ := hd
    exact ⟨o, m0, (r3 _ _ (by omega)).trans m1, fun j hj => (r3 _ _ (by omega)).trans (m2 j hj)⟩
  unfold f7_play f11_runs l7_play_12 l11_runs_4
  rw [p1, bnd_some, l1, bnd_some, r1, bnd_some]
  refine wh2 (fun n (z : Int × AH) (y : AH) => ∃ k : Nat, n = 41 - k ∧ (k : Int) ≤ D 0 ∧ (k : Int) ≤ x3 ∧ z.1 = (k : Int) ∧ SR V z.2.2 y.2 ∧ PL z.2.2 ∧ KS hc z.2 ∧ PK hm y ∧ DM y.2 D ∧ y.2 69 36 = k) (fun A B => ∃ (k : Nat) (hc1 hm1 : AH), A = some ((k : Int), hc1) ∧ B = some (0, hm1) ∧ hm1.2 69 36 = k ∧ SR V hc1.2 hm1.2 ∧ KS hc hc1 ∧ PK hm hm1 ∧ (k : Int) ≤ D 0) (fun n z y hp => ?_) FU 41 (0, b2) u ⟨0, rfl, by omega, by omega, rfl, hS2, hP2, ks2, pu, du, r4.2.2.2.2⟩ (FU_big (by omega))
  obtain ⟨k, q1, q2, q3, q4, q5, q6, q7, q8, q9, q10⟩ := hp
  obtain ⟨zk, z⟩ := z
  simp only at q4 q5 q6 q7
  subst q4
  have hRz := RW_KS q7 hr hR
  have hD0 : ∀ o : Nat, o + 201 ≤ 4824 → (o : Int) = o → (0 ≤ w32 (o : Int) ∧ w32 (o : Int) < 4824) := fun o ho _ => by rw [w32_id (by omega) (by omega)]; omega
  by_cases c1 : (k : Int) < x3 ∧ (k : Int) < D 0
  · obtain ⟨rr, c2, m2, e1, e2, e3, e4, e5, e6⟩ := s_act hV q5 (hD.dk c1.2)
    have mt := m_told hD q9 c1.2
    have e3' : w32 rr = 0 ∨ w32 rr = 1 := by rcases e3 with e | e <;> rw [e] <;> decide
    rw [e2, bnd_some, asrt_t e3'] at mt
    have eG : ∀ rec2 : AH → Option (Int × AH), b11_runs_4 rec2 x3 y = if w32 rr = 0 then some (0, m2) else rec2 (wr m2 69 36 ((k : Int) + 1)) := by
      intro rec2
      obtain ⟨o, o0, o1, o2⟩ := id q9
      have k36 : m2.2 69 36 = k := (e6.2 _ _ (by omega)).trans q10
      have o3 := o2 0 (by omega)
      rw [Nat.add_zero] at o3
      unfold b11_runs_4
      rw [q10, w32_id hx3.1 hx3.2, w32_id (x := (k : Int)) (by omega) (by omega), if_neg (by omega), o1, w32_id (x := (o : Int)) (by omega) (by omega), asrt_t (by omega), Int.toNat_natCast, o3, w32_id (x := D 0) (by omega) (by omega), if_neg (by omega), mt, bnd_some, k36, lt_eq]
    have hP3 : PL c2.2 := ⟨by rw [e5.2.1 7 (by omega)]; exact q6.1, by rw [e5.2.1 8 (by omega)]; exact q6.2⟩
    have pm : PK y m2 := e6.pk
    rcases e3 with e | e
    · left
      intro rec rec2
      refine ⟨k, c2, m2, ?_, ?_, (e6.2 _ _ (by omega)).trans q10, e4, q7.tr e5.1, q8.tr pm, q2⟩
      · dsimp only
        rw [c_deed hRz c1.2 hx3 c1.1, e1, bnd_some, e, if_neg (fun w => w w32_0)]
      · rw [eG, e, if_pos w32_0]
    · right
      obtain ⟨w, t1, t2, t3, t4, -⟩ := c_tail hV e4 hP3 (k := k) (x2 := r) (x3 := x3) (by omega)
      refine ⟨41 - (k + 1), ((k : Int) + 1, w), wr m2 69 36 ((k : Int) + 1), by omega, ⟨k + 1, rfl, by omega, by omega, rfl, ?_, t4, (q7.tr e5.1).tr t2, (q8.tr pm).tr (wr_PK (by omega)), ?_, wr_at⟩, fun rec => ?_, fun rec2 => ?_⟩
      · obtain ⟨S1, S2, S3, S4, S5, S6, S7, S8, S9, S10⟩ := t3
        refine ⟨S1, fun i hi => ?_, S3, fun i hi => ?_, fun i hi => ?_, ?_, ?_, ?_, ?_, ?_⟩
        · rw [wr_e (by omega)]; exact S2 i hi
        · rw [wr_e (by omega)]; exact S4 i hi
        · rw [wr_e (by omega)]; exact S5 i hi
        · rw [wr_e (by omega)]; exact S6
        · rw [wr_e (by omega)]; exact S7
        · rw [wr_e (by omega)]; exact S8
        · rw [wr_e (by omega)]; exact S9
        · exact VM_same (fun k _ _ => wr_e (by omega)) (fun k => wr_e (by omega)) S10
      · obtain ⟨o, o0, o1, o2⟩ := e6.dm q9
        exact ⟨o, o0, by rw [wr_e (by omega)]; exact o1, fun j hj => by rw [wr_e (by omega)]; exact o2 j hj⟩
      · dsimp only
        rw [c_deed hRz c1.2 hx3 c1.1, e1, bnd_some, e, if_pos (by rw [w32_1]; omega)]
        exact t1 rec
      · rw [eG, e, if_neg (by rw [w32_1]; omega)]
  · left
    intro rec rec2
    obtain ⟨o, o0, o1, o2⟩ := q9
    have o3 := o2 0 (by omega)
    rw [Nat.add_zero] at o3
    refine ⟨k, z, y, ?_, ?_, q10, q5, q7, q8, q2⟩
    · unfold b7_play_12
      dsimp only
      rw [w32_id hx3.1 hx3.2, hRz.2.1.1, w32_id (x := D 0) (by omega) (by omega), w32_id (x := (k : Int)) (by omega) (by omega)]
      by_cases c2 : x3 ≤ k
      · rw [if_pos c2]
      · rw [if_neg c2, if_pos (by omega)]
    · unfold b11_runs_4
      rw [q10, w32_id hx3.1 hx3.2, w32_id (x := (k : Int)) (by omega) (by omega), o1, w32_id (x := (o : Int)) (by omega) (by omega), asrt_t (by omega), Int.toNat_natCast, o3, w32_id (x := D 0) (by omega) (by omega)]
      by_cases c2 : x3 ≤ k
      · rw [if_pos c2]
      · rw [if_neg c2, if_pos (by omega)]
end Stop
/-- the day asked for, on both sides -/
theorem day_cases {h : AH} (hI : Inv h) {x2 : Int} (hx2 : Rg x2) : (f8_dayAt 1 x2 h = some (-1, h) ∧ ∀ hs : AH, PK h hs → f11_isDay x2 hs = some (0, hs)) ∨ ∃ (r : Nat) (D : Nat → Int), f8_dayAt 1 x2 h = some ((r : Int), h) ∧ r + 1 < 28 ∧ DOK D ∧ RW h.2 r 5 40 D ∧ ∀ hs : AH, PK h hs → ∃ hs2, f11_isDay x2 hs = some (1, hs2) ∧ DM hs2.2 D ∧ (∀ i k, ¬ (i = 69 ∧ k = 31) → hs2.2 i k = hs.2 i k) ∧ PK hs hs2 := by
  have a1 := c_dayAt hI x2
  rw [w32_id hx2.1 hx2.2] at a1
  have a2 := fun hs (k : PK h hs) => m_isD (hI.keep k) x2
  obtain ⟨a3, -, a4⟩ := hI.day
  by_cases c : 0 ≤ x2 ∧ x2 < h.2 70 1
  · right
    rw [if_pos c] at a1
    have a5 := a4 x2.toNat (by omega)
    refine ⟨_, _, a1, by omega, a5.1, a5.2, fun hs k => ?_⟩
    have a6 := a2 hs k
    have e70 : hs.2 70 = h.2 70 := k.2.1 70 (by omega)
    rw [w32_id hx2.1 hx2.2, e70, if_pos c] at a6
    refine ⟨_, a6, ⟨754 + 201 * x2.toNat, by omega, ?_, fun j hj => ?_⟩, fun i k hi => wr_e hi, wr_PK (by omega)⟩
    · rw [wr_at]; omega
    · rw [wr_e (by omega), e70]; rfl
  · left
    rw [if_neg c] at a1
    refine ⟨a1, fun hs k => ?_⟩
    have a6 := a2 hs k
    have e70 : hs.2 70 = h.2 70 := k.2.1 70 (by omega)
    rw [w32_id hx2.1 hx2.2, e70, if_neg c] at a6
    exact a6
theorem dummy (V D : Nat → Int) : ∃ hm : AH, VM hm.2 V ∧ DM hm.2 D := by
  refine ⟨(0, fun a j => if a = 69 then (if j = 12 then 0 else if j = 13 then V 0 else if j = 14 then V 1 else if j = 15 then V 2 else 72) else if j < 72 then V j else D (j - 72)), ⟨0, by omega, rfl, rfl, rfl, rfl, fun j hj => ?_⟩, ⟨72, by omega, rfl, fun j hj => ?_⟩⟩
  · show (if 0 + j < 72 then V (0 + j) else D (0 + j - 72)) = V j
    rw [if_pos (by omega), Nat.zero_add]
  · show (if 72 + j < 72 then V (72 + j) else D (72 + j - 72)) = D j
    rw [if_neg (by omega), show 72 + j - 72 = j by omega]
theorem some_inj {r1 r2 : Int} {h1 h2 : AH} {A : Option (Int × AH)} (a : A = some (r1, h1)) (b : A = some (r2, h2)) : r1 = r2 ∧ h1 = h2 := by
  rw [a] at b
  injection b with b
  injection b with b1 b2
  exact ⟨b1, b2⟩
theorem q_stop {x1 x2 : Int} (hx1 : Rg x1) (hx2 : Rg x2) : Agr (f10_stop x1 x2) (f11_stop x1 x2) := by
  refine agr_vv hx1 (fun h hI e => ⟨-1, ?_, fun e2 => ?_⟩) (fun h v V hI hV hc h7 h17 e => ?_)
  · unfold f10_stop
    rw [e, bnd_some, c_dayAt hI, bnd_some, if_pos (by omega)]
  · unfold f11_stop
    rw [e2, bnd_some, ite_w0]
  · rcases day_cases hI hx2 with ⟨d1, d2⟩ | ⟨r, D, d1, d2, d3, d4, d5⟩
    · refine ⟨-1, h, ?_, PK.rf h, fun hs kh e1 hm _ => ⟨hs, ?_, PK.rf hs⟩⟩
      · unfold f10_stop
        rw [e, bnd_some, d1, bnd_some, if_neg (by omega), if_pos (by omega)]
      · unfold f11_stop
        rw [e1, bnd_some, ite_w1, d2 hs kh, bnd_some, if_neg (fun q => q w32_0)]
    · have run := fun (hm : AH) (hm1 : VM hm.2 V) (hd : DM hm.2 D) => s_play (hc := h) (hm := hm) hV d3 (v := v) (r := r) (x3 := 40) ⟨by omega, by omega⟩ (by omega) hc (by omega) d2 d4 hm1 hd
      obtain ⟨h0, z1, z2⟩ := dummy V D
      obtain ⟨k, hc1, -, a1, -, -, -, a5, -⟩ := run h0 z1 z2
      refine ⟨k, hc1, ?_, a5.pk, fun hs kh e1 hm _ => ?_⟩
      · unfold f10_stop
        rw [e, bnd_some, d1, bnd_some, if_neg (by omega), if_neg (by omega), Int.toNat_natCast, Int.toNat_natCast, a1, bnd_some]
      · obtain ⟨hs2, g1, g2, g3, g4⟩ := d5 hs (a5.pk.tr kh)
        have hm2 : VM hs2.2 V := VM_same (fun k _ _ => g3 _ _ (by omega)) (fun k => g3 _ _ (by omega)) hm
        obtain ⟨k2, hc2, hm3, b1, b2, b3, -, -, b6, -⟩ := run hs2 hm2 g2
        obtain ⟨i1, -⟩ := some_inj a1 b1
        refine ⟨hm3, ?_, g4.tr b6⟩
        unfold f11_stop
        rw [e1, bnd_some, ite_w1, g1, bnd_some, if_pos (by rw [w32_1]; omega), b2, bnd_some, b3, i1]
def sN (V : Nat → Int) (c : Nat → Nat → Int) (x : Int) : Int := if x = 0 then c 41 3 else if x = 1 then c 41 4 else if x = 2 then c 41 5 else if x = 3 then c 41 6 else if 100 ≤ x then sAnsH (nV c) x else if 10 ≤ x ∧ x ≤ 19 ∧ x - 10 < V 2 then c 48 (x - 10).toNat else if 20 ≤ x ∧ x ≤ 29 ∧ x - 20 < V 1 then c 43 (x - 20).toNat else -2
theorem c_answer {V : Nat → Int} {hc : AH} {m : Nat → Nat → Int} (hV : VOK V) (hS : SR V hc.2 m) {x : Int} (hx : Rg x) : f7_answer x hc = some (sN V hc.2 x, hc) := by
  have hx9 : -2147483648 ≤ x ∧ x < 2147483648 := hx
  have v1 := hV.2.1
  have v2 := hV.2.2.1
  obtain ⟨n1, n2, e0, e1, e2⟩ := hS.vc hV
  unfold f7_answer sN
  rw [w32_id hx.1 hx.2]
  by_cases d0 : x = 0
  · rw [if_pos d0, if_pos d0]
  rw [if_neg d0, if_neg d0]
  by_cases d1 : x = 1
  · rw [if_pos d1, if_pos d1]
  rw [if_neg d1, if_neg d1]
  by_cases d2 : x = 2
  · rw [if_pos d2, if_pos d2]
  rw [if_neg d2, if_neg d2]
  by_cases d3 : x = 3
  · rw [if_pos d3, if_pos d3]
  rw [if_neg d3, if_neg d3]
  by_cases d4 : 100 ≤ x
  · rw [if_neg (by omega), if_pos d4, z_ansH n2 n1 x ⟨d4, hx9.2⟩, bnd_some]
  rw [if_pos (by omega), if_neg d4]
  unfold f7_answerHeat b7_answerHeat_30
  rw [w32_id hx.1 hx.2]
  by_cases d5 : x < 10
  · rw [if_pos d5, if_pos (by omega), if_neg (by omega), if_neg (by omega), bnd_some]
  rw [if_neg d5, z_hasH n2 n1, bnd_some, z_hasS n2 n1, bnd_some, e1, e2, w32_id (x := (x - 10)) (by omega) (by omega), w32_id (x := (x - 20)) (by omega) (by omega)]
  simp only [ite10_0]
  by_cases d6 : 10 ≤ x ∧ x ≤ 19 ∧ x - 10 < V 2
  · rw [if_neg (by omega), asrt_t (by omega), bnd_some, if_pos d6]
  rw [if_pos (by omega), if_neg d6]
  by_cases d7 : 20 ≤ x ∧ x ≤ 29 ∧ x - 20 < V 1
  · rw [if_neg (by omega), if_neg (by omega), asrt_t (by omega), bnd_some, if_pos d7]
  rw [if_neg d7]
  by_cases d8 : x < 20
  · rw [if_pos d8, bnd_some]
  · rw [if_neg d8, if_pos (by omega), bnd_some]
theorem m_nowOf {V : Nat → Int} {hc hm : AH} (hV : VOK V) (hS : SR V hc.2 hm.2) {x : Int} (hx : Rg x) (hx0 : 0 ≤ x) : f11_nowOf x hm = some (sN V hc.2 x, hm) := by
  have hx9 : -2147483648 ≤ x ∧ x < 2147483648 := hx
  have v0 := hV.1
  have v1 := hV.2.1
  have v2 := hV.2.2.1
  obtain ⟨n1, n2, e0, e1, e2⟩ := hS.vc hV
  obtain ⟨S1, S2, S3, S4, S5, S6, S7, S8, S9, S10⟩ := hS
  have q2 : 0 ≤ x % 10 ∧ x % 10 < 10 := by omega
  unfold f11_nowOf sN
  rw [lt_eq, rm32_10 (by omega) (by omega), w32_id hx.1 hx.2]
  by_cases d0 : x = 0
  · rw [if_pos d0, if_pos d0, S6.1]
  rw [if_neg d0, if_neg d0]
  by_cases d1 : x = 1
  · rw [if_pos d1, if_pos d1, S7.1]
  rw [if_neg d1, if_neg d1]
  by_cases d2 : x = 2
  · rw [if_pos d2, if_pos d2, S8.1]
  rw [if_neg d2, if_neg d2]
  by_cases d3 : x = 3
  · rw [if_pos d3, if_pos d3, S9]
  rw [if_neg d3, if_neg d3]
  by_cases d4 : 100 ≤ x
  · have q1 : 0 ≤ (x - 100) / 10 ∧ (x - 100) / 10 < 2147483648 := by omega
    rw [if_neg (by omega), if_pos d4, dv32_10 (by omega) (by omega), m_isP hV S10, bnd_some, m_isS hV S10, bnd_some]
    unfold sAnsH
    rw [e0, e1, nV_h]
    simp only [ite10_0]
    generalize (x - 100) / 10 = p at *
    generalize x % 10 = s at *
    rw [w32_id (x := p) (by omega) (by omega), w32_id (x := s) (by omega) (by omega)]
    by_cases d5 : p < V 0 ∧ s < V 1
    · rw [if_neg (by omega), if_neg (by omega), if_pos d5, w32_id (x := (6 * p + s)) (by omega) (by omega), asrt_t (by omega), (S4 _ (by omega)).1, show (6 * p + s).toNat = 6 * p.toNat + s.toNat by omega]
    · rw [if_neg d5]
      by_cases d6 : p < V 0
      · rw [if_neg (by omega), if_pos (by omega)]
      · rw [if_pos (by omega)]
  rw [if_pos (by omega), if_neg d4, m_isIn, bnd_some, m_isIn, bnd_some, m_isS hV S10, bnd_some, w32_id hx.1 hx.2, show w32 10 = 10 by decide, show w32 19 = 19 by decide, show w32 20 = 20 by decide, show w32 29 = 29 by decide, vm_H S10, w32_id (x := V 2) (by omega) (by omega), w32_id (x := (x % 10)) (by omega) (by omega)]
  simp only [ite10_0]
  by_cases d6 : 10 ≤ x ∧ x ≤ 19 ∧ x - 10 < V 2
  · rw [if_neg (by omega), if_neg (by omega), asrt_t (by omega), if_pos d6, show x % 10 = x - 10 by omega, (S5 _ (by omega)).1]
  rw [if_neg d6]
  by_cases d7 : 20 ≤ x ∧ x ≤ 29 ∧ x - 20 < V 1
  · rw [if_pos (by omega), if_neg (by omega), if_neg (by omega), asrt_t (by omega), if_pos d7, show x % 10 = x - 20 by omega, (S2 _ (by omega)).2.1]
  rw [if_neg d7]
  by_cases d8 : 10 ≤ x ∧ x ≤ 19
  · rw [if_neg (by omega), if_pos (by omega)]
  rw [if_pos (by omega)]
  by_cases d9 : 20 ≤ x ∧ x ≤ 29
  · rw [if_neg (by omega), if_pos (by omega)]
  · rw [if_pos (by omega)]
theorem q_state {x1 x2 x3 x4 : Int} (hx1 : Rg x1) (hx2 : Rg x2) (hx3 : Rg x3) (hx4 : Rg x4) : Agr (f10_state x1 x2 x3 x4) (f11_state x1 x2 x3 x4) := by
  have hx39 : -2147483648 ≤ x3 ∧ x3 < 2147483648 := hx3
  have hx49 : -2147483648 ≤ x4 ∧ x4 < 2147483648 := hx4
  refine agr_vv hx1 (fun h hI e => ⟨-2, ?_, fun e2 => ?_⟩) (fun h v V hI hV hc h7 h17 e => ?_)
  · unfold f10_state
    rw [e, bnd_some, c_dayAt hI, bnd_some, if_pos (by omega)]
  · unfold f11_state
    rw [e2, bnd_some, ite_w0]
  · rcases day_cases hI hx2 with ⟨d1, d2⟩ | ⟨r, D, d1, d2, d3, d4, d5⟩
    · refine ⟨-2, h, ?_, PK.rf h, fun hs kh e1 hm _ => ⟨hs, ?_, PK.rf hs⟩⟩
      · unfold f10_state
        rw [e, bnd_some, d1, bnd_some, if_neg (by omega), if_pos (by omega)]
      · unfold f11_state
        rw [e1, bnd_some, ite_w1, d2 hs kh, bnd_some, ite_w0]
    · have D0 := d3.1
      have A1 : f10_state x1 x2 x3 x4 h = if x3 < 0 then some (-2, h) else if x3 ≤ D 0 then bnd (f7_play v r x3 h) (fun r16 h17 => if ¬ w32 r16 = x3 then some (-2, h17) else bnd (f7_answer x4 h17) fun r22 h23 => some (r22, h23)) else some (-2, h) := by
        unfold f10_state
        rw [e, bnd_some, d1, bnd_some, if_neg (by omega), if_neg (by omega), Int.toNat_natCast, Int.toNat_natCast, d4.2.1.1, w32_id hx3.1 hx3.2, w32_id (x := D 0) (by omega) (by omega)]
      have B1 : ∀ hb hs hs2 : AH, f11_isVillage x1 hb = some (1, hs) → f11_isDay x2 hs = some (1, hs2) → f11_state x1 x2 x3 x4 hb = if x3 < 0 then some (-2, hs2) else if 0 ≤ x4 then bnd (f11_runs x3 hs2) (fun r9 h10 => if ¬ w32 (h10.2 69 36) = x3 then some (-2, h10) else bnd (f11_nowOf x4 h10) fun r13 h14 => some (r13, h14)) else some (-2, hs2) := by
        intro hb hs hs2 e1 e2
        unfold f11_state
        rw [e1, bnd_some, ite_w1, e2, bnd_some, ite_w1, w32_id hx3.1 hx3.2, w32_id hx4.1 hx4.2]
      by_cases c3 : x3 < 0
      · rw [if_pos c3] at A1
        refine ⟨-2, h, A1, PK.rf h, fun hs kh e1 hm _ => ?_⟩
        obtain ⟨hs2, g1, g2, g3, g4⟩ := d5 hs kh
        exact ⟨hs2, by rw [B1 h hs hs2 e1 g1, if_pos c3], g4⟩
      rw [if_neg c3] at A1
      have run := fun (hm : AH) (hm1 : VM hm.2 V) (hd : DM hm.2 D) => s_play (hc := h) (hm := hm) hV d3 (v := v) (r := r) (x3 := x3) hx3 (by omega) hc (by omega) d2 d4 hm1 hd
      obtain ⟨h0, z1, z2⟩ := dummy V D
      obtain ⟨k, hc1, hm0, a1, -, -, a4, a5, a7⟩ := run h0 z1 z2
      have a5p := a5.pk
      rw [a1, bnd_some, c_answer hV a4 hx4, bnd_some, w32_id (x := (k : Int)) (by omega) (by omega)] at A1
      have BB : ∀ hb hs, PK h hb → f11_isVillage x1 hb = some (1, hs) → PK hb hs → VM hs.2 V → ∃ h2, f11_state x1 x2 x3 x4 hb = some (if (k : Int) = x3 ∧ 0 ≤ x4 then sN V hc1.2 x4 else -2, h2) ∧ PK hs h2 := by
        intro hb hs kb e1 kh hm
        obtain ⟨hs2, g1, g2, g3, g4⟩ := d5 hs (kb.tr kh)
        have hm2 : VM hs2.2 V := VM_same (fun k _ _ => g3 _ _ (by omega)) (fun k => g3 _ _ (by omega)) hm
        obtain ⟨k2, hc2, hm3, b1, b2, b3, b4, -, b6, -⟩ := run hs2 hm2 g2
        obtain ⟨i1, i2⟩ := some_inj a1 b1
        subst i2
        rw [B1 hb hs hs2 e1 g1, if_neg c3]
        by_cases c4 : 0 ≤ x4
        · rw [if_pos c4, b2, bnd_some, b3, ← i1, w32_id (x := (k : Int)) (by omega) (by omega), m_nowOf hV b4 hx4 c4, bnd_some]
          by_cases c5 : (k : Int) = x3
          · rw [if_neg (fun w => w c5), if_pos ⟨c5, c4⟩]; exact ⟨hm3, rfl, g4.tr b6⟩
          · rw [if_pos c5, if_neg (fun w => c5 w.1)]; exact ⟨hm3, rfl, g4.tr b6⟩
        · rw [if_neg c4, if_neg (fun w => c4 w.2)]; exact ⟨hs2, rfl, g4⟩
      by_cases c6 : x3 ≤ D 0
      · rw [if_pos c6] at A1
        refine ⟨if (k : Int) = x3 ∧ 0 ≤ x4 then sN V hc1.2 x4 else -2, hc1, ?_, a5p, fun hs kh e1 hm _ => BB hc1 hs a5p e1 kh hm⟩
        rw [A1]
        by_cases c5 : (k : Int) = x3
        · rw [if_neg (fun w => w c5)]
          by_cases c4 : 0 ≤ x4
          · rw [if_pos ⟨c5, c4⟩]
          · rw [if_neg (fun w => c4 w.2)]
            unfold sN
            rw [if_neg (by omega), if_neg (by omega), if_neg (by omega), if_neg (by omega), if_neg (by omega), if_neg (by omega), if_neg (by omega)]
        · rw [if_pos c5, if_neg (fun w => c5 w.1)]
      · rw [if_neg c6] at A1
        refine ⟨-2, h, A1, PK.rf h, fun hs kh e1 hm _ => ?_⟩
        have := BB h hs (PK.rf h) e1 kh hm
        rw [if_neg (fun w => by omega)] at this
        exact this
