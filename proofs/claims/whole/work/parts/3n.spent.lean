/-! spent -/
def VH (V H : Nat → Int) (j : Nat) : Int := if 4 ≤ j ∧ j < 16 ∧ j % 2 = 0 then H ((j - 4) / 2) else V j
theorem VH_h {V H : Nat → Int} {s : Nat} (hs : s < 6) : VH V H (4 + 2 * s) = H s := by
  unfold VH
  rw [if_pos (by omega), show (4 + 2 * s - 4) / 2 = s by omega]
theorem VH_o {V H : Nat → Int} {j : Nat} (hj : j < 4 ∨ 16 ≤ j ∨ j % 2 = 1) : VH V H j = V j := by
  unfold VH
  rw [if_neg (by omega)]
theorem VH_gap {V H : Nat → Int} (a b s : Int) : sGap (VH V H) a b s = sGap V a b s := by
  have e : ∀ p s, sHeld (VH V H) p s = sHeld V p s := fun p s => by
    unfold sHeld
    rw [VH_o (j := 0) (by omega), VH_o (j := 1) (by omega), VH_o (j := 24 + (6 * p.toNat + s.toNat)) (by omega)]
  unfold sGap
  rw [e, e]
theorem VH_ok {V H : Nat → Int} (hV : VOK V) (hH : ∀ s : Nat, (s : Int) < V 1 → 0 ≤ H s ∧ H s ≤ 9) : VOK0 (VH V H) := by
  obtain ⟨c0, c1, c2, c3, c4, c5, c6⟩ := hV
  refine ⟨?_, ?_, ?_, ?_, fun s hs => ?_, fun q hq => ?_, fun q hq => ?_⟩
  · rw [VH_o (by omega)]; exact c0
  · rw [VH_o (by omega)]; exact c1
  · rw [VH_o (by omega)]; exact c2
  · rw [VH_o (by omega)]; exact c3
  · rw [VH_o (by omega)] at hs
    rw [VH_h (by omega), VH_o (by omega)]
    exact ⟨hH s hs, (c4 s hs).2⟩
  · rw [VH_o (by omega)] at hq
    rw [VH_o (by omega), VH_o (by omega)]
    exact c5 q hq
  · rw [VH_o (by omega)]; exact c6 q hq
theorem VH_id (V : Nat → Int) : VH V (fun s => V (4 + 2 * s)) = V := by
  funext j
  unfold VH
  split
  · show V (4 + 2 * ((j - 4) / 2)) = V j
    rw [show 4 + 2 * ((j - 4) / 2) = j by omega]
  · rfl
theorem VH_vc {V H H1 : Nat → Int} {c : Nat → Nat → Int} {v : Nat} (hV : VOK V) (hc : VC c v (VH V H)) {d : Nat → Nat → Int} (e1 : ∀ a k, v ≤ a → a ≤ v + 5 → a ≠ v + 1 → d a k = c a k) (e2 : ∀ s : Nat, (s : Int) < V 1 → d (v + 1) s = H1 s) : VC d v (VH V H1) := by
  obtain ⟨c0, c1, c2, c3, c4, c5, c6⟩ := hc
  have q1 := hV.2.1
  refine ⟨?_, ?_, ?_, ?_, fun s hs => ⟨?_, ?_⟩, fun q hq => ⟨?_, ?_⟩, fun q hq => ?_⟩
  · rw [VH_o (by omega), e1 _ _ (by omega) (by omega) (by omega), c0, VH_o (by omega)]
  · rw [VH_o (by omega), e1 _ _ (by omega) (by omega) (by omega), c1, VH_o (by omega)]
  · rw [VH_o (by omega), e1 _ _ (by omega) (by omega) (by omega), c2, VH_o (by omega)]
  · rw [VH_o (by omega), e1 _ _ (by omega) (by omega) (by omega), c3, VH_o (by omega)]
  · rw [VH_o (by omega)] at hs
    rw [VH_h (by omega)]; exact e2 s hs
  · rw [VH_o (by omega)] at hs
    rw [VH_o (by omega), e1 _ _ (by omega) (by omega) (by omega), (c4 s (by rw [VH_o (by omega)]; exact hs)).2, VH_o (by omega)]
  · rw [VH_o (by omega)] at hq
    rw [VH_o (by omega), e1 _ _ (by omega) (by omega) (by omega), (c5 q (by rw [VH_o (by omega)]; exact hq)).1, VH_o (by omega)]
  · rw [VH_o (by omega)] at hq
    rw [VH_o (by omega), e1 _ _ (by omega) (by omega) (by omega), (c5 q (by rw [VH_o (by omega)]; exact hq)).2, VH_o (by omega)]
  · rw [VH_o (by omega), e1 _ _ (by omega) (by omega) (by omega), c6 q hq, VH_o (by omega)]
/-- the heats behind i quarrels on the keenest -/
def spH (V : Nat → Int) (a b : Int) : Nat → Nat → Int
  | 0, s => V (4 + 2 * s)
  | i + 1, s => if (s : Int) = (bst (fun s => mx 0 (sGap V a b s) * spH V a b i s) (V 1).toNat).1 then mx 0 (spH V a b i s - V (5 + 2 * s)) else spH V a b i s
def spB (V : Nat → Int) (a b : Int) (i : Nat) : Int × Int := bst (fun s => mx 0 (sGap V a b s) * spH V a b i s) (V 1).toNat
theorem spH_s (V : Nat → Int) (a b : Int) (i s : Nat) : spH V a b (i + 1) s = if (s : Int) = (spB V a b i).1 then mx 0 (spH V a b i s - V (5 + 2 * s)) else spH V a b i s := rfl
theorem spH_rng {V : Nat → Int} (hV : VOK V) (a b : Int) (i s : Nat) (hs : (s : Int) < V 1) : 0 ≤ spH V a b i s ∧ spH V a b i s ≤ 9 := by
  have q := hV.2.2.2.2.1 s hs
  induction i with
  | zero => show 0 ≤ V (4 + 2 * s) ∧ V (4 + 2 * s) ≤ 9; omega
  | succ i ih =>
    rw [spH_s]
    split
    · exact mx0_rng (by omega) (by omega)
    · exact ih
theorem spB_val (V : Nat → Int) (a b : Int) (i : Nat) : ((spB V a b i).1 = -1 ∧ (spB V a b i).2 = 0) ∨ ∃ k : Nat, k < (V 1).toNat ∧ (spB V a b i).1 = k ∧ (spB V a b i).2 = mx 0 (sGap V a b k) * spH V a b i k := bst_val _ _
theorem sp_stay {V : Nat → Int} {a b : Int} {i : Nat} (h : (spB V a b i).1 = -1) (j : Nat) : spB V a b (i + j) = (-1, 0) ∧ spH V a b (i + j) = spH V a b i := by
  induction j with
  | zero =>
    refine ⟨?_, rfl⟩
    rcases spB_val V a b i with q | ⟨k, q1, q2, q3⟩
    · exact Prod.ext q.1 q.2
    · exfalso; omega
  | succ j ih =>
    have e : spH V a b (i + j + 1) = spH V a b (i + j) := by
      funext s
      rw [spH_s, ih.1, if_neg (by simp only; omega)]
    refine ⟨?_, by rw [← Nat.add_assoc, e]; exact ih.2⟩
    rw [← ih.1]
    unfold spB
    rw [← Nat.add_assoc, e]
theorem sp_stays {V : Nat → Int} {a b : Int} {i j : Nat} (h : (spB V a b i).1 = -1) (hij : i ≤ j) : spB V a b j = (-1, 0) := by
  have := (sp_stay h (j - i)).1
  rwa [show i + (j - i) = j by omega] at this
def sSp (V : Nat → Int) (a b : Int) (n : Nat) (k : Int) : Int := if k = -1 then sm (fun i => (spB V a b i).2) n else if 0 ≤ k ∧ k < n then (spB V a b k.toNat).1 else -1
theorem spB_rng {V : Nat → Int} (hV : VOK V) (a b : Int) (i : Nat) : 0 ≤ (spB V a b i).2 ∧ (spB V a b i).2 ≤ 81 := by
  rcases spB_val V a b i with q | ⟨k, q1, q2, q3⟩
  · omega
  · rw [q3]
    exact mul_rng (mx0_rng (sGap_rng hV a b k).2 (by omega)) (spH_rng hV a b i k (by omega))
theorem spS_rng {V : Nat → Int} (hV : VOK V) (a b : Int) (n : Nat) (hn : n ≤ 20) : 0 ≤ sm (fun i => (spB V a b i).2) n ∧ sm (fun i => (spB V a b i).2) n ≤ 1620 := by
  have := sm_rng (f := fun i => (spB V a b i).2) (n := n) (lo := 0) (hi := 81) (fun i _ => spB_rng hV a b i)
  omega
section Spent
variable {V : Nat → Int} {h : AH}
theorem c_sp79 {a b k : Int} {n i : Nat} (hk : Rg k) (hi : i ≤ n) (hB : i = n ∨ (spB V a b i).1 = -1) (hki : ¬ (0 ≤ k ∧ k < i)) : b7_spend_79 k (sm (fun i => (spB V a b i).2) i) h = some (sSp V a b n k, h) := by
  unfold b7_spend_79 sSp
  rw [w32_id hk.1 hk.2]
  by_cases q : k = -1
  · rw [if_neg (fun w => w q), if_pos q]
    rcases hB with rfl | hB
    · rfl
    · rw [sm_more hi (fun j j1 _ => by rw [sp_stays hB j1])]
  · rw [if_pos q, if_neg q]
    by_cases q2 : 0 ≤ k ∧ k < n
    · rw [if_pos q2]
      rcases hB with rfl | hB
      · exact absurd q2 hki
      · rw [sp_stays hB (j := k.toNat) (by omega)]
    · rw [if_neg q2]
theorem c_spend (hV : VOK V) {v : Nat} (hc0 : VC h.2 v V) (hv : v + 5 < 28) {a b k : Int} (ha : Rg a) (hb : Rg b) (hk : Rg k) (n : Nat) (hn : n ≤ 20) : ∃ h1, f7_spend v a b n k h = some (sSp V a b n k, h1) ∧ KS h h1 := by
  have q1 := hV.2.1
  obtain ⟨b1, p1, p2, p3, -⟩ := c_begin hV hc0 hv
  have p4 : VC b1.2 42 (VH V (spH V a b 0)) := by
    have : spH V a b 0 = fun s => V (4 + 2 * s) := rfl
    rw [this, VH_id]; exact p3
  unfold f7_spend l7_spend_11
  rw [p1, bnd_some]
  refine fr (fun X => ∃ h1, X = some (sSp V a b n k, h1) ∧ KS h h1) (fun (s : Int × AH) i => (s.1, i, s.2)) (fun i s => (s.1 = sm (fun i => (spB V a b i).2) i ∧ ¬ (0 ≤ k ∧ k < i)) ∧ KS h s.2 ∧ VC s.2.2 42 (VH V (spH V a b i))) 0 n (0, b1) ⟨⟨rfl, by omega⟩, p2, p4⟩ (by omega) (by omega) (fun i s _ hi hI rec => ?_) (fun s hI rec => ?_)
  · obtain ⟨s, w⟩ := s
    obtain ⟨⟨i1, i2⟩, i3, i4⟩ := hI
    simp only at i1 i3 i4
    subst i1
    have hz : VOK0 (VH V (spH V a b i)) := VH_ok hV (fun s hs => spH_rng hV a b i s hs)
    have sr := spS_rng hV a b i (by omega)
    have hH : sHot (VH V (spH V a b i)) a b = spB V a b i := by
      unfold sHot spB
      rw [VH_o (j := 1) (by omega)]
      refine bst_cong (fun s hs => ?_)
      unfold sBurn sHeat
      rw [VH_gap, VH_o (j := 1) (by omega), if_pos (by omega), Int.toNat_natCast, VH_h (by omega)]
    have hb79 := spB_rng hV a b i
    unfold b7_spend_11
    dsimp only
    rw [w32_id (x := (n : Int)) (by omega) (by omega), w32_id (x := (i : Int)) (by omega) (by omega), if_neg (by omega), z_hot hz i4, bnd_some, w32_id ha.1 ha.2, w32_id hb.1 hb.2, hH, w32_id hk.1 hk.2]
    rcases spB_val V a b i with q | ⟨t, t1, t2, t3⟩
    · left
      rw [q.1, if_neg (by decide), c_sp79 (n := n) (i := i) hk (by omega) (Or.inr q.1) i2]
      exact ⟨w, rfl, i3⟩
    · rw [t2, w32_id (x := (t : Int)) (by omega) (by omega), if_pos (by omega)]
      by_cases e : (i : Int) = k
      · left
        rw [if_neg (fun w => w e)]
        refine ⟨w, ?_, i3⟩
        unfold sSp
        rw [if_neg (by omega), if_pos (by omega), show k.toNat = i by omega, t2]
      · right
        have eb : sBurn (VH V (spH V a b i)) a b t = (spB V a b i).2 := by
          unfold sBurn sHeat
          rw [VH_gap, VH_o (j := 1) (by omega), if_pos (by omega), Int.toNat_natCast, VH_h (by omega), t3]
        rw [if_pos e, z_burn hz i4, bnd_some, w32_id ha.1 ha.2, w32_id hb.1 hb.2, w32_id (x := (t : Int)) (by omega) (by omega), eb, lt_eq, s_fade hz i4 (by rw [VH_o (by omega)]; omega), bnd_some, VH_h (by omega), VH_o (by omega)]
        refine ⟨(sm (fun i => (spB V a b i).2) (i + 1), wr w 43 t (mx 0 (spH V a b i t - V (5 + 2 * t)))), ⟨⟨rfl, by omega⟩, i3.tr ⟨rfl, fun x y hxy => wr_e (by omega)⟩, ?_⟩, rfl⟩
        refine VH_vc hV i4 (fun x y x1 x2 x3 => wr_e (by omega)) (fun s hs => ?_)
        rw [spH_s, t2]
        by_cases e2 : s = t
        · subst e2; rw [if_pos rfl]; exact wr_at
        · rw [if_neg (by omega)]
          show (wr w 43 t _).2 43 s = _
          rw [wr_e (by omega)]
          have := (i4.2.2.2.2.1 s (by rw [VH_o (by omega)]; exact hs)).1
          rw [VH_h (by omega)] at this
          exact this
  · obtain ⟨s, w⟩ := s
    obtain ⟨⟨i1, i2⟩, i3, i4⟩ := hI
    simp only at i1 i3 i4
    subst i1
    unfold b7_spend_11
    dsimp only
    rw [w32_id (x := (n : Int)) (by omega) (by omega), if_pos (by omega), c_sp79 (n := n) (i := n) hk (by omega) (Or.inl rfl) i2]
    exact ⟨w, rfl, i3⟩
theorem bst_p1 {f : Nat → Int} {n : Nat} (h : (bst f n).1 ≠ -1) : 0 < (bst f n).2 := by
  induction n with
  | zero => exact absurd rfl h
  | succ n ih =>
    have h0 := bst_nn f n
    simp only [bst] at h ⊢
    split
    · simp only; omega
    · rename_i q
      rw [if_neg q] at h
      exact ih h
theorem m_sp89 (hV : VOK V) (hm : VM h.2 V) {a b : Int} (ha : 0 ≤ a ∧ a < V 0) (hb : 0 ≤ b ∧ b < V 0) (hab : a ≠ b) {i : Nat} (hi : i < 20) (hF : ∀ s : Nat, (s : Int) < V 1 → h.2 80 s = spH V a b i s) {x4 k sum : Int} (rec76 : Int × Int × Int × AH → Option (Int × AH)) : l11_spent_89 rec76 a b x4 k sum i i (-1) 0 h = if (spB V a b i).1 = -1 then b11_spent_253 k sum i h else rec76 (sum + (spB V a b i).2, (i : Int) + 1, (i : Int) + 1, wr (wr h 80 (spB V a b i).1.toNat (mx 0 (spH V a b i (spB V a b i).1.toNat - V (5 + 2 * (spB V a b i).1.toNat)))) 81 i (spB V a b i).1) := by
  have q1 := hV.2.1
  unfold l11_spent_89
  have fr0 : ∀ j : Nat, (j : Int) < V 1 → 0 ≤ mx 0 (sGap V a b j) * spH V a b i j ∧ mx 0 (sGap V a b j) * spH V a b i j ≤ 81 := fun j hj => mul_rng (mx0_rng (sGap_rng hV a b j).2 (by omega)) (spH_rng hV a b i j hj)
  refine loop2 (fun j => (bst (fun s => mx 0 (sGap V a b s) * spH V a b i s) j).1) (V 1).toNat h (fun j hj rec => ?_) (fun rec => ?_) (by omega)
  · have g := sGap_rng hV a b j
    have fj := fr0 j (by omega)
    have hj2 := spH_rng hV a b i j (by omega)
    have bp := bst_nn (fun s => mx 0 (sGap V a b s) * spH V a b i s) j
    have bq := bst_p1 (f := fun s => mx 0 (sGap V a b s) * spH V a b i s) (n := j)
    unfold b11_spent_89 b11_spent_151 b11_spent_158
    dsimp only
    rw [vm_S hm, w32_id (x := V 1) (by omega) (by omega), w32_id (x := (j : Int)) (by omega) (by omega), if_neg (by omega), m_apart hV hm a b j ha hb (by omega) hab, bnd_some, m_apart hV hm a b j ha hb (by omega) hab, bnd_some, w32_id (x := sGap V a b j) (by omega) (by omega), Int.toNat_natCast, hF j (by omega)]
    simp only [bst]
    by_cases c : sGap V a b j ≤ 0
    · have e : mx 0 (sGap V a b j) = 0 := by unfold mx; rw [if_neg (by omega)]
      rw [if_pos c, e, Int.zero_mul, if_neg (by omega)]
    · have e : mx 0 (sGap V a b j) = sGap V a b j := by unfold mx; rw [if_pos (by omega)]
      rw [e] at fj
      rw [if_neg c, asrt_t (by omega), e, w32_id (x := sGap V a b j * spH V a b i j) (by omega) (by omega)]
      rcases bst_val (fun s => mx 0 (sGap V a b s) * spH V a b i s) j with bv | ⟨t, t1, t2, t3⟩
      · rw [bv.1, bv.2, if_neg (by decide), w32_0]
        by_cases d : 0 < sGap V a b j * spH V a b i j
        · rw [if_neg (by omega), if_pos d]
        · rw [if_pos (by omega), if_neg d, bv.1]
      · have ft := fr0 t (by omega)
        have b0 := bq (by omega)
        have e2 : mx 0 (sGap V a b t) = sGap V a b t := by
          unfold mx
          by_cases z : 0 < sGap V a b t
          · rw [if_pos z]
          · exfalso
            have : mx 0 (sGap V a b t) = 0 := by unfold mx; rw [if_neg z]
            rw [this, Int.zero_mul] at t3
            omega
        rw [e2] at t3 ft
        rw [t2, t3, w32_id (x := (t : Int)) (by omega) (by omega), if_pos (by omega), m_apart hV hm a b t ha hb (by omega) hab, bnd_some, asrt_t (by omega), Int.toNat_natCast, hF t (by omega), w32_id (x := sGap V a b t * spH V a b i t) (by omega) (by omega)]
        by_cases d : sGap V a b t * spH V a b i t < sGap V a b j * spH V a b i j
        · rw [if_neg (by omega), if_pos d]
        · rw [if_pos (by omega), if_neg d, t2]
  · unfold b11_spent_89
    dsimp only
    rw [vm_S hm, w32_id (x := V 1) (by omega) (by omega), w32_id (x := ((V 1).toNat : Int)) (by omega) (by omega), if_pos (by omega)]
    have bq := bst_p1 (f := fun s => mx 0 (sGap V a b s) * spH V a b i s) (n := (V 1).toNat)
    have eB : bst (fun s => mx 0 (sGap V a b s) * spH V a b i s) (V 1).toNat = spB V a b i := rfl
    simp only [eB]
    rcases spB_val V a b i with bv | ⟨t, t1, t2, t3⟩
    · rw [bv.1, if_neg (by decide), if_pos rfl]
    · have g := sGap_rng hV a b t
      have ht2 := spH_rng hV a b i t (by omega)
      have b0 : 0 < (spB V a b i).2 := bq (show (spB V a b i).1 ≠ -1 by omega)
      have e2 : mx 0 (sGap V a b t) = sGap V a b t := by
        unfold mx
        by_cases z : 0 < sGap V a b t
        · rw [if_pos z]
        · exfalso
          have : mx 0 (sGap V a b t) = 0 := by unfold mx; rw [if_neg z]
          rw [this, Int.zero_mul] at t3
          omega
      rw [e2] at t3
      have fd := (hV.2.2.2.2.1 t (by omega)).2
      have mf := m_fades hm t (by omega)
      rw [Int.toNat_natCast] at mf
      rw [t2, w32_id (x := (t : Int)) (by omega) (by omega), if_pos (by omega), if_neg (by omega), m_apart hV hm a b t ha hb (by omega) hab, bnd_some, asrt_t (by omega), Int.toNat_natCast, hF t (by omega), lt_eq, asrt_t (by omega), mf, bnd_some, ← t3, w32_id (x := spH V a b i t) (by omega) (by omega), w32_id (x := V (5 + 2 * t)) (by omega) (by omega), asrt_t (by omega), mf, bnd_some, hF t (by omega)]
      unfold b11_spent_234
      rw [w32_id (x := (t : Int)) (by omega) (by omega), w32_id (x := (i : Int)) (by omega) (by omega)]
      simp only [lt_eq, Int.toNat_natCast]
      rw [asrt_t (by omega), asrt_t (by omega), asrt_t (by omega), asrt_t (by omega)]
      by_cases z : spH V a b i t ≤ V (5 + 2 * t)
      · have e : mx 0 (spH V a b i t - V (5 + 2 * t)) = 0 := by unfold mx; rw [if_neg (by omega)]
        rw [if_pos z, e]
      · have e : mx 0 (spH V a b i t - V (5 + 2 * t)) = spH V a b i t - V (5 + 2 * t) := by unfold mx; rw [if_pos (by omega)]
        rw [if_neg z, e]
theorem m_sp253 {a b k : Int} {n i : Nat} (hk : Rg k) (hk1 : -1 ≤ k) (hn : n ≤ 20) (hi : i ≤ n) (hB : i = n ∨ (spB V a b i).1 = -1) (h81 : ∀ j, j < i → h.2 81 j = (spB V a b j).1) : b11_spent_253 k (sm (fun i => (spB V a b i).2) i) i h = some (sSp V a b n k, h) := by
  unfold b11_spent_253 sSp
  rw [w32_id hk.1 hk.2, w32_id (x := (i : Int)) (by omega) (by omega)]
  by_cases q : k = -1
  · rw [if_neg (fun w => w q), if_pos q]
    rcases hB with rfl | hB
    · rfl
    · rw [sm_more hi (fun j j1 _ => by rw [sp_stays hB j1])]
  · rw [if_pos q, if_neg q]
    by_cases q2 : (i : Int) ≤ k
    · rw [if_pos q2]
      rcases hB with rfl | hB
      · rw [if_neg (by omega)]
      · by_cases q3 : 0 ≤ k ∧ k < n
        · rw [if_pos q3, sp_stays hB (j := k.toNat) (by omega)]
        · rw [if_neg q3]
    · rw [if_neg q2, asrt_t (by omega), if_pos (by omega), h81 _ (by omega)]
def kSp (a _k : Nat) : Prop := a = 80 ∨ a = 81
theorem m_spent (hV : VOK V) (hm : VM h.2 V) {a b k : Int} (ha : 0 ≤ a ∧ a < V 0) (hb : 0 ≤ b ∧ b < V 0) (hab : a ≠ b) (hk : Rg k) (hk1 : -1 ≤ k) {n : Nat} (hn : n ≤ 20) : ∃ h1, l11_spent_39 a b n k 0 h = some (sSp V a b n k, h1) ∧ PK h h1 := by
  have q1 := hV.2.1
  have fin : ∀ h1, Ky kSp h h1 → PK h h1 := fun h1 w => w.pk (fun a k q => by unfold kSp at q; omega)
  have vm : ∀ h1, Ky kSp h h1 → VM h1.2 V := fun h1 w => w.vm (fun k _ _ => by unfold kSp; omega) (fun k => by unfold kSp; omega) hm
  unfold l11_spent_39
  refine fr (fun X => ∃ h1, X = some (sSp V a b n k, h1) ∧ PK h h1) (fun (s : AH) i => (i, s)) (fun i s => Ky kSp h s ∧ ∀ j, j < i → s.2 80 j = V (4 + 2 * j)) 0 (V 1).toNat h ⟨Ky.rf h, fun j hj => by omega⟩ (by omega) (by omega) (fun i s _ hi hI rec => ?_) (fun s hI rec => ?_)
  · right
    have mh := m_heat (vm s hI.1) i (by omega)
    rw [Int.toNat_natCast] at mh
    refine ⟨wr s 80 i (V (4 + 2 * i)), ⟨hI.1.w2 (Or.inl rfl), fun j hj => ?_⟩, ?_⟩
    · by_cases e : j = i
      · subst e; exact wr_at
      · rw [wr_e (by omega)]; exact hI.2 j (by omega)
    · unfold b11_spent_39
      dsimp only
      rw [vm_S (vm s hI.1), w32_id (x := V 1) (by omega) (by omega), w32_id (x := (i : Int)) (by omega) (by omega), if_neg (by omega), mh, bnd_some, asrt_t (by omega), lt_eq, Int.toNat_natCast]
  · unfold b11_spent_39 l11_spent_76
    dsimp only
    rw [vm_S (vm s hI.1), w32_id (x := V 1) (by omega) (by omega), w32_id (x := ((V 1).toNat : Int)) (by omega) (by omega), if_pos (by omega)]
    refine fr (fun X => ∃ h1, X = some (sSp V a b n k, h1) ∧ PK h h1) (fun (s : Int × AH) i => (s.1, i, i, s.2)) (fun i s => s.1 = sm (fun i => (spB V a b i).2) i ∧ Ky kSp h s.2 ∧ (∀ j : Nat, (j : Int) < V 1 → s.2.2 80 j = spH V a b i j) ∧ ∀ j, j < i → s.2.2 81 j = (spB V a b j).1) 0 n (0, s) ⟨rfl, hI.1, fun j hj => hI.2 j (by omega), fun j hj => by omega⟩ (by omega) (by omega) (fun i s _ hi hJ rec2 => ?_) (fun s hJ rec2 => ?_)
    · obtain ⟨s, w⟩ := s
      obtain ⟨i1, i2, i3, i4⟩ := hJ
      simp only at i1 i2 i3 i4
      subst i1
      unfold b11_spent_76
      dsimp only
      rw [w32_id (x := (n : Int)) (by omega) (by omega), w32_id (x := (i : Int)) (by omega) (by omega), if_neg (by omega), m_sp89 hV (vm w i2) ha hb hab (by omega) i3]
      by_cases c : (spB V a b i).1 = -1
      · left
        rw [if_pos c, m_sp253 (n := n) (i := i) hk hk1 hn (by omega) (Or.inr c) i4]
        exact ⟨w, rfl, fin w i2⟩
      · right
        rw [if_neg c]
        have bz : 0 ≤ (spB V a b i).1 := by
          rcases spB_val V a b i with z | ⟨k, z1, z2, z3⟩
          · exact absurd z.1 c
          · omega
        refine ⟨(sm (fun i => (spB V a b i).2) (i + 1), wr (wr w 80 (spB V a b i).1.toNat (mx 0 (spH V a b i (spB V a b i).1.toNat - V (5 + 2 * (spB V a b i).1.toNat)))) 81 i (spB V a b i).1), ⟨rfl, (i2.w2 (Or.inl rfl)).w2 (Or.inr rfl), fun j hj => ?_, fun j hj => ?_⟩, rfl⟩
        · dsimp only
          rw [wr_e (by omega), spH_s]
          by_cases e : (j : Int) = (spB V a b i).1
          · rw [if_pos e, show (spB V a b i).1.toNat = j by omega, wr_at]
          · rw [if_neg e, wr_e (by omega)]; exact i3 j hj
        · dsimp only
          by_cases e : j = i
          · subst e; rw [wr_at]
          · rw [wr_e (by omega), wr_e (by omega)]; exact i4 j (by omega)
    · obtain ⟨s, w⟩ := s
      obtain ⟨i1, i2, i3, i4⟩ := hJ
      simp only at i1 i2 i3 i4
      subst i1
      unfold b11_spent_76
      dsimp only
      rw [w32_id (x := (n : Int)) (by omega) (by omega), if_pos (by omega), m_sp253 (n := n) (i := n) hk hk1 hn (by omega) (Or.inl rfl) i4]
      exact ⟨w, rfl, fin w i2⟩
end Spent
theorem q_spent {x1 x2 x3 x4 x5 : Int} (hx1 : Rg x1) (hx2 : Rg x2) (hx3 : Rg x3) (hx4 : Rg x4) (hx5 : Rg x5) : Agr (f10_spent x1 x2 x3 x4 x5) (f11_spent x1 x2 x3 x4 x5) := by
  refine agr_v hx1 (fun h e => ⟨-1, ?_, fun e2 => ?_⟩) (fun h v V hV hc h7 h17 e => ?_)
  · unfold f10_spent
    simp (disch := omega) only [w32_id, w32_0, w32_1, w32_m, if_pos, if_neg, bnd_some, lt_eq, asrt_t, ite10_0, ite10_or, e]
  · unfold f11_spent
    rw [e2, bnd_some, ite_w0]
  · by_cases hC : (x2 ≠ x3 ∧ (0 ≤ x2 ∧ x2 < V 0) ∧ (0 ≤ x3 ∧ x3 < V 0)) ∧ 0 ≤ x4 ∧ x4 ≤ 20
    · obtain ⟨n, rfl⟩ : ∃ n : Nat, x4 = n := ⟨x4.toNat, by omega⟩
      obtain ⟨h1, a1, a2⟩ := c_spend hV hc (by omega) hx2 hx3 hx5 n (by omega)
      refine ⟨sSp V x2 x3 n x5, h1, ?_, a2.pk, fun hs e1 hm => ?_⟩
      · unfold f10_spent
        rw [e, bnd_some, if_neg (by omega), Int.toNat_natCast, v_hasC hV hc, bnd_some, w32_id hx2.1 hx2.2, w32_id hx3.1 hx3.2, if_pos (c := x2 ≠ x3 ∧ _) hC.1, ite_w1, w32_id hx4.1 hx4.2, if_neg (by omega), if_pos (by omega), a1, bnd_some]
      · unfold f11_spent
        rw [e1, bnd_some, ite_w1, m_two hV hm, bnd_some, m_isIn, bnd_some, w32_id hx2.1 hx2.2, w32_id hx3.1 hx3.2, w32_id hx4.1 hx4.2, w32_id hx5.1 hx5.2, w32_0, show w32 20 = 20 by decide, if_pos (c := x2 ≠ x3 ∧ _) hC.1, ite_w1, if_pos (c := 0 ≤ (n : Int) ∧ _) hC.2, ite_w1]
        by_cases c : -1 ≤ x5
        · obtain ⟨h2, b1, b2⟩ := m_spent hV hm hC.1.2.1 hC.1.2.2 hC.1.1 hx5 c (n := n) (by omega)
          rw [if_pos c, b1]
          exact ⟨h2, rfl, b2⟩
        · rw [if_neg c]
          refine ⟨hs, ?_, PK.rf hs⟩
          unfold sSp
          rw [if_neg (by omega), if_neg (by omega)]
    · refine ⟨-1, h, ?_, PK.rf h, fun hs e1 hm => ⟨hs, ?_, PK.rf hs⟩⟩
      · unfold f10_spent
        rw [e, bnd_some, if_neg (by omega), Int.toNat_natCast, v_hasC hV hc, bnd_some, w32_id hx2.1 hx2.2, w32_id hx3.1 hx3.2, w32_id hx4.1 hx4.2]
        simp only [ite10_0]
        repeat' split
        all_goals first | omega | rfl
      · unfold f11_spent
        rw [e1, bnd_some, ite_w1, m_two hV hm, bnd_some, m_isIn, bnd_some, w32_id hx2.1 hx2.2, w32_id hx3.1 hx3.2, w32_id hx4.1 hx4.2, w32_0, show w32 20 = 20 by decide]
        simp only [ite10_0]
        repeat' split
        all_goals first | omega | rfl
