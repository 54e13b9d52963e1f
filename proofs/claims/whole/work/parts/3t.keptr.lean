/-! kept, both -/
section KeptR
variable {V : Nat → Int} {h : AH} {B : Nat → Nat} {W C L q : Nat}
def rch (B : Nat → Nat) (W C L : Nat) (j : Nat) (c : Nat → Int) : Prop := (∀ k, k < 1000 → c k = 0 ∨ c k = 1) ∧ ∀ k, pth B W C L (j + k) 0 0 = true ↔ ∃ x, x < 1000 ∧ c x = 1 ∧ pth B W C L k (x / 100) (x % 100) = true
theorem rch_step (hk : KP3 V B W C L q) {j : Nat} {c d : Nat → Int} (hr : rch B W C L j c) (d1 : ∀ k, k < 1000 → d k = 0 ∨ d k = 1) (d2 : ∀ y, y < 1000 → (d y = 1 ↔ ∃ k, k < 1000 ∧ c k = 1 ∧ sc B W C L k y)) : rch B W C L (j + 1) d := by
  obtain ⟨k1, k2, k3, k4, k5, k6, k7, k8, k9, k10⟩ := hk
  refine ⟨d1, fun k => ?_⟩
  rw [show j + 1 + k = j + (k + 1) by omega, hr.2 (k + 1)]
  constructor
  · rintro ⟨x, x1, x2, x3⟩
    rcases pth_s.mp x3 with ⟨y1, y2⟩ | ⟨y1, y2⟩
    · have n9 : x / 100 ≠ 9 := fun z => y1.1 (by rw [z]; exact k2)
      have l1 : id1 B L x < 1000 := by unfold id1; omega
      refine ⟨id1 B L x, l1, (d2 _ l1).mpr ⟨x, x1, x2, Or.inr ⟨y1, rfl⟩⟩, ?_⟩
      have e1 : id1 B L x / 100 = x / 100 + 1 := by unfold id1; omega
      have e2 : id1 B L x % 100 = x % 100 + B (x / 100) - L := by unfold id1; omega
      rw [e1, e2]; exact y2
    · have l1 : id0 L x < 1000 := by unfold id0; omega
      refine ⟨id0 L x, l1, (d2 _ l1).mpr ⟨x, x1, x2, Or.inl ⟨y1, rfl⟩⟩, ?_⟩
      have e1 : id0 L x / 100 = x / 100 := by unfold id0; omega
      have e2 : id0 L x % 100 = x % 100 - L := by unfold id0; omega
      rw [e1, e2]; exact y2
  · rintro ⟨y, y1, y2, y3⟩
    obtain ⟨x, x1, x2, x3⟩ := (d2 y y1).mp y2
    refine ⟨x, x1, x2, ?_⟩
    rw [pth_s]
    rcases x3 with ⟨z1, z2⟩ | ⟨z1, z2⟩
    · right
      have e1 : y / 100 = x / 100 := by rw [z2]; unfold id0; omega
      have e2 : y % 100 = x % 100 - L := by rw [z2]; unfold id0; omega
      rw [e1, e2] at y3
      exact ⟨z1, y3⟩
    · left
      have c3 := z1.2.2
      have e1 : y / 100 = x / 100 + 1 := by rw [z2]; unfold id1; omega
      have e2 : y % 100 = x % 100 + B (x / 100) - L := by rw [z2]; unfold id1; omega
      rw [e1, e2] at y3
      exact ⟨z1, y3⟩
theorem m_kept (hV : VOK V) (hm : VM h.2 V) (hk : KP3 V B W C L q) {a b s : Int} (ha : 0 ≤ a ∧ a < V 0) (hb : 0 ≤ b ∧ b < V 0) (hs : 0 ≤ s ∧ s < V 1) (hab : a ≠ b) (hB : ∀ n : Nat, n ≤ 9 → sBeh V a b s n = B n) {r : Nat} (hr : r ≤ 99) (hp : ∀ k : Nat, k ≤ 99 → (k ≤ r ↔ pth B W C L k 0 0 = true)) : ∃ h1, l11_kept_58 a b s q 0 h = some ((r : Int), h1) ∧ Ky kCs h h1 := by
  unfold l11_kept_58
  refine fr (fun X => ∃ h1, X = some ((r : Int), h1) ∧ Ky kCs h h1) (fun (s : AH) i => (i, s)) (fun i w => Ky kCs h w ∧ ∀ j, j < i → w.2 82 j = if j = 0 then 1 else 0) 0 1000 h ⟨Ky.rf h, fun j hj => by omega⟩ (by omega) (by omega) (fun i w _ hi hI rec => ?_) (fun w hI rec => ?_)
  · right
    refine ⟨wr w 82 i (if i = 0 then 1 else 0), ⟨hI.1.w2 (Or.inl rfl), fun j hj => ?_⟩, ?_⟩
    · by_cases z : j = i
      · subst z; exact wr_at
      · rw [wr_e (by omega)]; exact hI.2 j (by omega)
    · unfold b11_kept_58 b11_kept_82
      dsimp only
      rw [w32_id (x := (i : Int)) (by omega) (by omega), if_neg (by omega), asrt_t (by omega), asrt_t (by omega), lt_eq, lt_eq, Int.toNat_natCast, nz_0, nz_1]
      by_cases z : i = 0
      · rw [if_neg (by omega), if_pos z]
      · rw [if_pos (by omega), if_neg z]
  · obtain ⟨i1, i2⟩ := hI
    unfold b11_kept_58 l11_kept_92
    dsimp only
    rw [if_pos (by decide)]
    have r0 : rch B W C L 0 (w.2 82) := by
      refine ⟨fun k hk => by rw [i2 k hk]; split <;> omega, fun k => ?_⟩
      rw [Nat.zero_add]
      constructor
      · intro z; exact ⟨0, by omega, by rw [i2 0 (by omega)]; rfl, z⟩
      · rintro ⟨x, x1, x2, x3⟩
        have : x = 0 := by
          rw [i2 x x1] at x2
          split at x2
          · assumption
          · omega
        subst this
        exact x3
    refine fr (fun X => ∃ h1, X = some ((r : Int), h1) ∧ Ky kCs h h1) (fun (s : AH) i => (i, s)) (fun i w => Ky kCs h w ∧ rch B W C L i (w.2 82) ∧ i ≤ r) 0 99 w ⟨i1, r0, by omega⟩ (by omega) (by omega) (fun i u _ hi hI rec2 => ?_) (fun u hI rec2 => ?_)
    · obtain ⟨u1, u2, u3⟩ := hI
      obtain ⟨any, h1, a1, a2, a3, a4, a5, a6⟩ := m_counts (h := u) hV (u1.vm (fun k _ _ => by unfold kCs; omega) (fun k => by unfold kCs; omega) hm) hk ha hb hs hab hB u2.1
      have u4 := rch_step hk u2 a5 a6
      have u5 : any = 1 ↔ i + 1 ≤ r := by
        rw [hp (i + 1) (by omega), show i + 1 = i + 1 + 0 by omega, u4.2 0, a4]
        constructor
        · rintro ⟨k, j, z1, z2, z3⟩
          have lj : j < 1000 := by
            obtain ⟨k1, k2, k3, k4, k5, k6, k7, k8, k9, k10⟩ := hk
            rcases z3 with ⟨y1, y2⟩ | ⟨y1, y2⟩
            · rw [y2]; unfold id0; omega
            · have n9 : k / 100 ≠ 9 := fun z => y1.1 (by rw [z]; exact k2)
              have := y1.2.2
              rw [y2]; unfold id1; omega
          exact ⟨j, lj, (a6 j lj).mpr ⟨k, z1, z2, z3⟩, rfl⟩
        · rintro ⟨y, y1, y2, y3⟩
          obtain ⟨k, z1, z2, z3⟩ := (a6 y y1).mp y2
          exact ⟨k, y, z1, z2, z3⟩
      unfold b11_kept_92
      dsimp only
      rw [w32_id (x := (i : Int)) (by omega) (by omega), if_neg (by omega), a1, bnd_some]
      rcases a3 with a3 | a3
      · left
        rw [a3, w32_0, if_pos rfl]
        have : ¬ (i + 1 ≤ r) := fun z => by have := u5.mpr z; omega
        exact ⟨h1, by rw [show i = r by omega], u1.tr a2⟩
      · right
        rw [a3, w32_1, if_neg (by omega)]
        exact ⟨h1, ⟨u1.tr a2, u4, u5.mp a3⟩, rfl⟩
    · obtain ⟨u1, u2, u3⟩ := hI
      unfold b11_kept_92
      dsimp only
      rw [if_pos (by decide)]
      exact ⟨u, by rw [show r = 99 by omega], u1⟩
end KeptR
theorem q_kept {x1 x2 x3 x4 x5 : Int} (hx1 : Rg x1) (hx2 : Rg x2) (hx3 : Rg x3) (hx4 : Rg x4) (hx5 : Rg x5) : Agr (f10_kept x1 x2 x3 x4 x5) (f11_kept x1 x2 x3 x4 x5) := by
  refine agr_v hx1 (fun h e => ⟨-1, ?_, fun e2 => ?_⟩) (fun h v V hV hc h7 h17 e => ?_)
  · unfold f10_kept
    simp (disch := omega) only [w32_id, w32_0, w32_1, w32_m, if_pos, if_neg, bnd_some, lt_eq, asrt_t, ite10_0, ite10_or, e]
  · unfold f11_kept
    rw [e2, bnd_some, ite_w0]
  · have v2 := hV.2.2.1
    have g := sGap_rng hV x2 x3 x4
    by_cases hC : sGap V x2 x3 x4 ≠ -1 ∧ 0 ≤ x5 ∧ x5 < V 2
    · obtain ⟨q, rfl⟩ : ∃ q : Nat, x5 = q := ⟨x5.toNat, by omega⟩
      have hD : x2 ≠ x3 ∧ (0 ≤ x2 ∧ x2 < V 0) ∧ (0 ≤ x3 ∧ x3 < V 0) ∧ (0 ≤ x4 ∧ x4 < V 1) := by
        apply Classical.byContradiction
        intro z
        exact hC.1 (sGap_no z)
      have hw := hV.2.2.2.2.2.1 q (by omega)
      have v3 := hV.2.2.2.1
      have hk : KP3 V (fun n => (sBeh V x2 x3 x4 n).toNat) (V (16 + 2 * q)).toNat (V (17 + 2 * q)).toNat (V 3).toNat q := by
        refine ⟨fun n => ?_, ?_, by omega, by omega, by omega, by omega, by omega, by omega, by omega, by omega⟩
        · have := sBeh_rng hV x2 x3 x4 n
          simp only; omega
        · simp only
          rw [sBeh_9 hV hD.2.2.2]; rfl
      have hB : ∀ n : Nat, n ≤ 9 → sBeh V x2 x3 x4 n = (((fun n => (sBeh V x2 x3 x4 n).toNat) n : Nat) : Int) := fun n _ => by
        have := sBeh_rng hV x2 x3 x4 n
        simp only; omega
      have hB2 : ∀ n : Nat, n ≤ 9 → sGap V x2 x3 x4 * sAft V (w32 x4) n = (((fun n => (sBeh V x2 x3 x4 n).toNat) n : Nat) : Int) := fun n hn => by
        rw [← hB n hn, w32_id hx4.1 hx4.2]
        unfold sBeh mx
        by_cases z : 0 < sGap V x2 x3 x4
        · rw [if_pos z]
        · rw [if_neg z, show sGap V x2 x3 x4 = 0 by omega]
      obtain ⟨r, h1, a1, a2, a3, a4⟩ := c_hours hV hc (by omega) hk (g := sGap V x2 x3 x4) (s := x4) hB2
      refine ⟨r, h1, ?_, a2.pk (fun a k z => by unfold kKp at z; omega), fun hs e1 hm => ?_⟩
      · unfold f10_kept
        rw [e, bnd_some, if_neg (by omega), Int.toNat_natCast, v_gap hV hc, bnd_some, w32_id hx2.1 hx2.2, w32_id hx3.1 hx3.2, w32_id hx4.1 hx4.2, w32_id (x := sGap V x2 x3 x4) (by omega) (by omega), if_neg hC.1, v_hasH hV hc, bnd_some, w32_id hx5.1 hx5.2, if_pos (c := 0 ≤ (q : Int) ∧ _) hC.2, if_pos (by rw [w32_1]; omega), v_gap hV hc, bnd_some, w32_id hx2.1 hx2.2, w32_id hx3.1 hx3.2, w32_id hx4.1 hx4.2, a1, bnd_some]
      · obtain ⟨h2, b1, b2⟩ := m_kept hV hm hk hD.2.1 hD.2.2.1 hD.2.2.2 hD.1 hB a3 a4
        refine ⟨h2, ?_, b2.pk (fun a k z => by unfold kCs at z; omega)⟩
        unfold f11_kept
        rw [e1, bnd_some, ite_w1, m_two hV hm, bnd_some, w32_id hx2.1 hx2.2, w32_id hx3.1 hx3.2, if_pos (c := x2 ≠ x3 ∧ _) ⟨hD.1, hD.2.1, hD.2.2.1⟩, ite_w1, m_isS hV hm, bnd_some, w32_id hx4.1 hx4.2, if_pos (c := 0 ≤ x4 ∧ _) hD.2.2.2, ite_w1, m_apart hV hm x2 x3 x4 hD.2.1 hD.2.2.1 hD.2.2.2 hD.1, bnd_some, w32_id (x := sGap V x2 x3 x4) (by omega) (by omega), if_neg hC.1, m_isIn, bnd_some, vm_H hm, w32_0, w32_id hx5.1 hx5.2, w32_id (x := (V 2 - 1)) (by omega) (by omega), if_pos (c := 0 ≤ (q : Int) ∧ _) (by omega), if_pos (by rw [w32_1]; omega), b1]
    · refine ⟨-1, h, ?_, PK.rf h, fun hs e1 hm => ⟨hs, ?_, PK.rf hs⟩⟩
      · unfold f10_kept
        rw [e, bnd_some, if_neg (by omega), Int.toNat_natCast, v_gap hV hc, bnd_some, w32_id hx2.1 hx2.2, w32_id hx3.1 hx3.2, w32_id hx4.1 hx4.2, w32_id (x := sGap V x2 x3 x4) (by omega) (by omega), v_hasH hV hc, bnd_some, w32_id hx5.1 hx5.2]
        by_cases z : sGap V x2 x3 x4 = -1
        · rw [if_pos z]
        · rw [if_neg z, if_neg (c := 0 ≤ x5 ∧ _) (by omega), if_neg (fun y => y w32_0)]
      · unfold f11_kept
        rw [e1, bnd_some, ite_w1, m_two hV hm, bnd_some, w32_id hx2.1 hx2.2, w32_id hx3.1 hx3.2, m_isS hV hm, bnd_some, w32_id hx4.1 hx4.2]
        simp only [ite10_0]
        by_cases hD : x2 ≠ x3 ∧ (0 ≤ x2 ∧ x2 < V 0) ∧ (0 ≤ x3 ∧ x3 < V 0) ∧ (0 ≤ x4 ∧ x4 < V 1)
        · rw [if_neg (by omega), if_neg (by omega), m_apart hV hm x2 x3 x4 hD.2.1 hD.2.2.1 hD.2.2.2 hD.1, bnd_some, w32_id (x := sGap V x2 x3 x4) (by omega) (by omega), m_isIn, bnd_some, vm_H hm, w32_0, w32_id hx5.1 hx5.2, w32_id (x := (V 2 - 1)) (by omega) (by omega)]
          by_cases z : sGap V x2 x3 x4 = -1
          · rw [if_pos z]
          · rw [if_neg z, if_neg (c := 0 ≤ x5 ∧ _) (by omega), if_neg (fun y => y w32_0)]
        · repeat' split
          all_goals first | omega | rfl
