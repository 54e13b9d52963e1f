/-! news and hours; days run through -/
section Play
variable {V : Nat → Int} {hc hm : AH}
theorem c_spread (hV : VOK V) (hS : SR V hc.2 hm.2) {s : Nat} {x : Int} (hs : s < 6) : f7_spread s x hc = (if (s : Int) < V 1 then f7_spread s x hc else some (0, hc)) ∧ ((s : Int) < V 1 → ∃ w, f7_spread s x hc = some (1, w) ∧ w.1 = hc.1 ∧ (∀ i k, ¬ (i = 47 ∨ (i = 43 ∧ k = s)) → w.2 i k = hc.2 i k) ∧ w.2 43 s = 9 ∧ ∀ j, j < 48 → w.2 47 j = if j % 6 = s ∧ ((j / 6 : Nat) : Int) < V 0 then x else hc.2 47 j) := by
  have v0 := hV.1
  have v1 := hV.2.1
  obtain ⟨n1, n2, e0, e1, e2⟩ := hS.vc hV
  have q0 : hc.2 42 0 = V 0 := hS.1.1
  unfold f7_spread
  rw [z_hasS n2 n1, bnd_some, w32_id (x := (s : Int)) (by omega) (by omega), e1]
  simp only [ite10_0]
  constructor
  · by_cases c1 : (s : Int) < V 1
    · rw [if_pos (c := (s : Int) < V 1) c1]
    · rw [if_neg (c := (s : Int) < V 1) c1, if_neg (by omega)]
  · intro c1
    rw [if_pos (by omega)]
    unfold l7_spread_15
    refine fr (fun X => ∃ w, X = some (1, w) ∧ w.1 = hc.1 ∧ (∀ i k, ¬ (i = 47 ∨ (i = 43 ∧ k = s)) → w.2 i k = hc.2 i k) ∧ w.2 43 s = 9 ∧ ∀ j, j < 48 → w.2 47 j = if j % 6 = s ∧ ((j / 6 : Nat) : Int) < V 0 then x else hc.2 47 j) (fun h1 i => (i, h1)) (fun n w => w.1 = hc.1 ∧ (∀ i k, i ≠ 47 → w.2 i k = hc.2 i k) ∧ ∀ j, j < 48 → w.2 47 j = if j % 6 = s ∧ j / 6 < n then x else hc.2 47 j) 0 (V 0).toNat hc ⟨rfl, fun _ _ _ => rfl, fun j _ => by rw [if_neg (by omega)]⟩ (by omega) (by omega) (fun n w _ hn hI rec => ?_) (fun w hI rec => ?_)
    · obtain ⟨k1, k2, k3⟩ := hI
      right
      unfold b7_spread_15
      dsimp only
      rw [k2 42 0 (by omega), q0, w32_id (x := V 0) (by omega) (by omega), w32_id (x := (n : Int)) (by omega) (by omega), if_neg (by omega), s_hold (by omega) hs, bnd_some]
      refine ⟨wr w 47 (6 * n + s) x, ⟨k1, fun i k hi => by rw [wr_e (by omega)]; exact k2 i k hi, fun j hj => ?_⟩, rfl⟩
      by_cases y : j = 6 * n + s
      · subst y; rw [wr_at, if_pos (by omega)]
      · rw [wr_e (by omega), k3 j hj]
        by_cases y2 : j % 6 = s ∧ j / 6 < n
        · rw [if_pos y2, if_pos (by omega)]
        · rw [if_neg y2, if_neg (by omega)]
    · obtain ⟨k1, k2, k3⟩ := hI
      unfold b7_spread_15
      dsimp only
      rw [k2 42 0 (by omega), q0, w32_id (x := V 0) (by omega) (by omega), w32_id (x := ((V 0).toNat : Int)) (by omega) (by omega), if_pos (by omega), w32_id (x := (s : Int)) (by omega) (by omega), asrt_t (by omega), lt_eq, Int.toNat_natCast]
      refine ⟨_, rfl, k1, fun i k hi => by rw [wr_e (by omega)]; exact k2 i k (by omega), wr_at, fun j hj => ?_⟩
      rw [wr_e (by omega), k3 j hj]
      by_cases y2 : j % 6 = s ∧ ((j / 6 : Nat) : Int) < V 0
      · rw [if_pos y2, if_pos (by omega)]
      · rw [if_neg y2, if_neg (by omega)]
theorem m_tells (hV : VOK V) (hm1 : VM hm.2 V) {s : Nat} {x : Int} (hs : s < 6) : f11_tells s x hm = (if (s : Int) < V 1 then f11_tells s x hm else some (0, hm)) ∧ ((s : Int) < V 1 → ∃ w, f11_tells s x hm = some (1, w) ∧ w.1 = hm.1 ∧ (∀ i k, ¬ (i = 90 ∨ (i = 89 ∧ k = s)) → w.2 i k = hm.2 i k) ∧ w.2 89 s = 9 ∧ ∀ j, j < 48 → w.2 90 j = if j % 6 = s ∧ ((j / 6 : Nat) : Int) < V 0 then x else hm.2 90 j) := by
  have v0 := hV.1
  have v1 := hV.2.1
  have q0 : hm.2 69 13 = V 0 := vm_P hm1
  unfold f11_tells
  rw [m_isS hV hm1, bnd_some, w32_id (x := (s : Int)) (by omega) (by omega)]
  simp only [ite10_0]
  constructor
  · by_cases c1 : (s : Int) < V 1
    · rw [if_pos (c := (s : Int) < V 1) c1]
    · rw [if_neg (c := (s : Int) < V 1) c1, if_neg (by omega)]
  · intro c1
    rw [if_pos (by omega)]
    unfold l11_tells_12
    refine fr (fun X => ∃ w, X = some (1, w) ∧ w.1 = hm.1 ∧ (∀ i k, ¬ (i = 90 ∨ (i = 89 ∧ k = s)) → w.2 i k = hm.2 i k) ∧ w.2 89 s = 9 ∧ ∀ j, j < 48 → w.2 90 j = if j % 6 = s ∧ ((j / 6 : Nat) : Int) < V 0 then x else hm.2 90 j) (fun h1 i => (i, h1)) (fun n w => w.1 = hm.1 ∧ (∀ i k, i ≠ 90 → w.2 i k = hm.2 i k) ∧ ∀ j, j < 48 → w.2 90 j = if j % 6 = s ∧ j / 6 < n then x else hm.2 90 j) 0 (V 0).toNat hm ⟨rfl, fun _ _ _ => rfl, fun j _ => by rw [if_neg (by omega)]⟩ (by omega) (by omega) (fun n w _ hn hI rec => ?_) (fun w hI rec => ?_)
    · obtain ⟨k1, k2, k3⟩ := hI
      right
      unfold b11_tells_12
      dsimp only
      rw [k2 69 13 (by omega), q0, w32_id (x := V 0) (by omega) (by omega), w32_id (x := (n : Int)) (by omega) (by omega), if_neg (by omega), w32_id (x := (6 * (n : Int) + s)) (by omega) (by omega), asrt_t (by omega), lt_eq, show (6 * (n : Int) + s).toNat = 6 * n + s by omega]
      refine ⟨wr w 90 (6 * n + s) x, ⟨k1, fun i k hi => by rw [wr_e (by omega)]; exact k2 i k hi, fun j hj => ?_⟩, rfl⟩
      by_cases y : j = 6 * n + s
      · subst y; rw [wr_at, if_pos (by omega)]
      · rw [wr_e (by omega), k3 j hj]
        by_cases y2 : j % 6 = s ∧ j / 6 < n
        · rw [if_pos y2, if_pos (by omega)]
        · rw [if_neg y2, if_neg (by omega)]
    · obtain ⟨k1, k2, k3⟩ := hI
      unfold b11_tells_12
      dsimp only
      rw [k2 69 13 (by omega), q0, w32_id (x := V 0) (by omega) (by omega), w32_id (x := ((V 0).toNat : Int)) (by omega) (by omega), if_pos (by omega), w32_id (x := (s : Int)) (by omega) (by omega), asrt_t (by omega), lt_eq, Int.toNat_natCast]
      refine ⟨_, rfl, k1, fun i k hi => by rw [wr_e (by omega)]; exact k2 i k (by omega), wr_at, fun j hj => ?_⟩
      rw [wr_e (by omega), k3 j hj]
      by_cases y2 : j % 6 = s ∧ ((j / 6 : Nat) : Int) < V 0
      · rw [if_pos y2, if_pos (by omega)]
      · rw [if_neg y2, if_neg (by omega)]
theorem s_tell (hV : VOK V) (hS : SR V hc.2 hm.2) {s : Nat} {x : Int} (hs : s < 6) (hx : 0 ≤ x ∧ x ≤ 9) : Both V hc hm (f7_spread s x hc) (f11_tells s x hm) (fun _ _ => 0) := by
  have S10 : VM hm.2 V := hS.2.2.2.2.2.2.2.2.2
  obtain ⟨a1, a2⟩ := c_spread hV hS (x := x) hs
  obtain ⟨b1, b2⟩ := m_tells hV S10 (x := x) hs
  by_cases c1 : (s : Int) < V 1
  · obtain ⟨w, p1, p2, p3, p4, p5⟩ := a2 c1
    obtain ⟨u, r1, r2, r3, r4, r5⟩ := b2 c1
    obtain ⟨S1, S2, S3, S4, S5, S6, S7, S8, S9, S10⟩ := hS
    rw [p1, r1]
    refine ⟨1, w, u, rfl, rfl, Or.inr rfl, ⟨?_, fun i hi => ?_, fun i hi => ?_, fun j hj => ?_, fun i hi => ?_, ?_, ?_, ?_, ?_, ?_⟩, ⟨⟨p2, fun i k hk => p3 i k (by omega)⟩, fun k hk => p3 _ _ (by omega), fun p hp => by rw [p3 _ _ (by omega), Int.add_zero]⟩, r2, fun i k hk => r3 i k (by omega)⟩
    · rw [p3 42 0 (by omega), p3 42 1 (by omega), p3 42 2 (by omega), p3 42 3 (by omega)]; exact S1
    · rw [p3 44 i (by omega)]
      refine ⟨(S2 i hi).1, ?_⟩
      by_cases z : i = s
      · subst z; rw [p4, r4]; omega
      · rw [p3 43 i (by omega), r3 89 i (by omega)]; exact (S2 i hi).2
    · rw [p3 45 i (by omega), p3 46 i (by omega)]; exact S3 i hi
    · rw [p5 j hj, r5 j hj]
      have := S4 j hj
      split <;> omega
    · rw [p3 48 i (by omega), r3 88 i (by omega)]; exact S5 i hi
    · rw [p3 41 3 (by omega), r3 69 32 (by omega)]; exact S6
    · rw [p3 41 4 (by omega), r3 69 33 (by omega)]; exact S7
    · rw [p3 41 5 (by omega), r3 69 34 (by omega)]; exact S8
    · rw [p3 41 6 (by omega), r3 69 35 (by omega)]; exact S9
    · exact VM_same (fun k _ _ => r3 69 k (by omega)) (fun k => r3 70 k (by omega)) S10
  · rw [if_neg c1] at a1 b1
    exact Both.no hS a1 b1 (fun _ _ => rfl)
theorem c_hour (hV : VOK V) (hS : SR V hc.2 hm.2) (hh : hc.2 41 3 < 99) : ∃ w, f7_letHourPass hc = some (1, w) ∧ w.1 = hc.1 ∧ (∀ i k, ¬ (i = 48 ∨ (i = 41 ∧ (k = 3 ∨ k = 5))) → w.2 i k = hc.2 i k) ∧ w.2 41 5 = 0 ∧ w.2 41 3 = hc.2 41 3 + 1 ∧ ∀ q, q < 4 → w.2 48 q = mx 0 (hc.2 48 q - V 3) := by
  have v3 := hV.2.2.2.1
  have q3 : hc.2 42 3 = V 3 := hS.1.2.2.2
  have S5 := hS.2.2.2.2.1
  have S6 := hS.2.2.2.2.2.1
  unfold f7_letHourPass l7_letHourPass_13
  rw [w32_id (x := hc.2 41 3) (by omega) (by omega), if_pos hh]
  refine fr (fun X => ∃ w, X = some (1, w) ∧ w.1 = hc.1 ∧ (∀ i k, ¬ (i = 48 ∨ (i = 41 ∧ (k = 3 ∨ k = 5))) → w.2 i k = hc.2 i k) ∧ w.2 41 5 = 0 ∧ w.2 41 3 = hc.2 41 3 + 1 ∧ ∀ q, q < 4 → w.2 48 q = mx 0 (hc.2 48 q - V 3)) (fun h1 i => (i, h1)) (fun n w => w.1 = hc.1 ∧ (∀ i k, i ≠ 48 → w.2 i k = hc.2 i k) ∧ ∀ q, q < 4 → w.2 48 q = if q < n then mx 0 (hc.2 48 q - V 3) else hc.2 48 q) 0 4 hc ⟨rfl, fun _ _ _ => rfl, fun q _ => by rw [if_neg (by omega)]⟩ (by omega) (by omega) (fun n w _ hn hI rec => ?_) (fun w hI rec => ?_)
  · obtain ⟨k1, k2, k3⟩ := hI
    have s5 := S5 n hn
    right
    unfold b7_letHourPass_13
    dsimp only
    rw [w32_id (x := (n : Int)) (by omega) (by omega), if_neg (by omega), asrt_t (by omega), asrt_t (by omega), lt_eq, Int.toNat_natCast, k3 n hn, if_neg (by omega), k2 42 3 (by omega), q3, max32_s (by omega) (by omega) (by omega) (by omega)]
    refine ⟨wr w 48 n (mx 0 (hc.2 48 n - V 3)), ⟨k1, fun i k hi => by rw [wr_e (by omega)]; exact k2 i k hi, fun q hq => ?_⟩, rfl⟩
    by_cases y : q = n
    · subst y; rw [wr_at, if_pos (by omega)]
    · rw [wr_e (by omega), k3 q hq]
      by_cases y2 : q < n
      · rw [if_pos y2, if_pos (by omega)]
      · rw [if_neg y2, if_neg (by omega)]
  · obtain ⟨k1, k2, k3⟩ := hI
    unfold b7_letHourPass_13
    dsimp only
    rw [if_pos (by decide), lt_eq, lt_eq, wr_e (by omega), k2 41 3 (by omega)]
    refine ⟨_, rfl, k1, fun i k hi => ?_, ?_, wr_at, fun q hq => ?_⟩
    · rw [wr_e (by omega), wr_e (by omega)]; exact k2 i k (by omega)
    · rw [wr_e (by omega), wr_at]
    · rw [wr_e (by omega), wr_e (by omega), k3 q hq, if_pos hq]
theorem m_cools (hV : VOK V) (hS : SR V hc.2 hm.2) (hh : hm.2 69 32 < 99) : ∃ w, f11_cools hm = some (1, w) ∧ w.1 = hm.1 ∧ (∀ i k, ¬ (i = 88 ∨ (i = 69 ∧ (k = 32 ∨ k = 34))) → w.2 i k = hm.2 i k) ∧ w.2 69 34 = 0 ∧ w.2 69 32 = hm.2 69 32 + 1 ∧ ∀ q, q < 4 → w.2 88 q = mx 0 (hm.2 88 q - V 3) := by
  have v3 := hV.2.2.2.1
  have S10 : VM hm.2 V := hS.2.2.2.2.2.2.2.2.2
  have S5 := hS.2.2.2.2.1
  have S6 := hS.2.2.2.2.2.1
  unfold f11_cools l11_cools_13
  rw [w32_id (x := hm.2 69 32) (by omega) (by omega), if_pos (by omega)]
  refine fr (fun X => ∃ w, X = some (1, w) ∧ w.1 = hm.1 ∧ (∀ i k, ¬ (i = 88 ∨ (i = 69 ∧ (k = 32 ∨ k = 34))) → w.2 i k = hm.2 i k) ∧ w.2 69 34 = 0 ∧ w.2 69 32 = hm.2 69 32 + 1 ∧ ∀ q, q < 4 → w.2 88 q = mx 0 (hm.2 88 q - V 3)) (fun h1 i => (i, h1)) (fun n w => w.1 = hm.1 ∧ (∀ i k, i ≠ 88 → w.2 i k = hm.2 i k) ∧ ∀ q, q < 4 → w.2 88 q = if q < n then mx 0 (hm.2 88 q - V 3) else hm.2 88 q) 0 4 hm ⟨rfl, fun _ _ _ => rfl, fun q _ => by rw [if_neg (by omega)]⟩ (by omega) (by omega) (fun n w _ hn hI rec => ?_) (fun w hI rec => ?_)
  · obtain ⟨k1, k2, k3⟩ := hI
    have s5 := S5 n hn
    have mw : VM w.2 V := VM_same (fun k _ _ => k2 69 k (by omega)) (fun k => k2 70 k (by omega)) S10
    have ma := m_at mw 3 (by omega) (e := w.2 69 12 + 3) (fun o ho => by rw [ho]; omega)
    right
    unfold b11_cools_13 b11_cools_65
    dsimp only
    rw [w32_id (x := (n : Int)) (by omega) (by omega), if_neg (by omega), asrt_t (by omega), asrt_t ma.1, ma.2, asrt_t (by omega), asrt_t (by omega), asrt_t ma.1, asrt_t (by omega), lt_eq, lt_eq, Int.toNat_natCast, k3 n hn, if_neg (c := n < n) (by omega), w32_id (x := hm.2 88 n) (by omega) (by omega), w32_id (x := V 3) (by omega) (by omega)]
    refine ⟨wr w 88 n (mx 0 (hm.2 88 n - V 3)), ⟨k1, fun i k hi => by rw [wr_e (by omega)]; exact k2 i k hi, fun q hq => ?_⟩, ?_⟩
    · by_cases y : q = n
      · subst y; rw [wr_at, if_pos (by omega)]
      · rw [wr_e (by omega), k3 q hq]
        by_cases y2 : q < n
        · rw [if_pos y2, if_pos (by omega)]
        · rw [if_neg y2, if_neg (by omega)]
    · unfold mx
      by_cases y : hm.2 88 n ≤ V 3
      · rw [if_pos y, if_neg (by omega)]
      · rw [if_neg y, if_pos (by omega)]
  · obtain ⟨k1, k2, k3⟩ := hI
    unfold b11_cools_13
    dsimp only
    rw [if_pos (by decide), lt_eq, lt_eq, wr_e (by omega), k2 69 32 (by omega)]
    refine ⟨_, rfl, k1, fun i k hi => ?_, ?_, wr_at, fun q hq => ?_⟩
    · rw [wr_e (by omega), wr_e (by omega)]; exact k2 i k (by omega)
    · rw [wr_e (by omega), wr_at]
    · rw [wr_e (by omega), wr_e (by omega), k3 q hq, if_pos hq]
theorem s_cool (hV : VOK V) (hS : SR V hc.2 hm.2) : Both V hc hm (f7_letHourPass hc) (f11_cools hm) (fun _ _ => 0) := by
  have v3 := hV.2.2.2.1
  have S6 := hS.2.2.2.2.2.1
  by_cases c1 : hc.2 41 3 < 99
  · obtain ⟨w, p1, p2, p3, p4, p5, p6⟩ := c_hour hV hS c1
    obtain ⟨u, r1, r2, r3, r4, r5, r6⟩ := m_cools hV hS (by omega)
    obtain ⟨S1, S2, S3, S4, S5, S6, S7, S8, S9, S10⟩ := hS
    rw [p1, r1]
    refine ⟨1, w, u, rfl, rfl, Or.inr rfl, ⟨?_, fun i hi => ?_, fun i hi => ?_, fun j hj => ?_, fun i hi => ?_, ?_, ?_, ?_, ?_, ?_⟩, ⟨⟨p2, fun i k hk => p3 i k (by omega)⟩, fun k hk => p3 _ _ (by omega), fun p hp => by rw [p3 _ _ (by omega), Int.add_zero]⟩, r2, fun i k hk => r3 i k (by omega)⟩
    · rw [p3 42 0 (by omega), p3 42 1 (by omega), p3 42 2 (by omega), p3 42 3 (by omega)]; exact S1
    · rw [p3 44 i (by omega), p3 43 i (by omega), r3 89 i (by omega)]; exact S2 i hi
    · rw [p3 45 i (by omega), p3 46 i (by omega)]; exact S3 i hi
    · rw [p3 47 j (by omega), r3 90 j (by omega)]; exact S4 j hj
    · have s5 := S5 i hi
      have m9 := mx0_rng (x := hc.2 48 i - V 3) (hi := 99) (by omega) (by omega)
      rw [p6 i hi, r6 i hi, ← s5.1]
      exact ⟨rfl, m9⟩
    · omega
    · rw [p3 41 4 (by omega), r3 69 33 (by omega)]; exact S7
    · omega
    · rw [p3 41 6 (by omega), r3 69 35 (by omega)]; exact S9
    · exact VM_same (fun k _ _ => r3 69 k (by omega)) (fun k => r3 70 k (by omega)) S10
  · refine Both.no hS ?_ ?_ (fun _ _ => rfl)
    · unfold f7_letHourPass
      rw [w32_id (x := hc.2 41 3) (by omega) (by omega), if_neg c1]
    · unfold f11_cools
      rw [w32_id (x := hm.2 69 32) (by omega) (by omega), if_neg (by omega)]
end Play
