/-! image, again: both -/
theorem m_imgLoop {h : AH} {k : Nat} (hk : k < 3) : ∃ h2, l11_image_20 k 0 h = some (1, h2) ∧ Ky (fun a j => a = 70 ∧ 1206 * (k + 1) ≤ j ∧ j < 1206 * (k + 1) + 1206) h h2 ∧ ∀ i, i < 1206 → h2.2 70 (1206 * (k + 1) + i) = h.2 70 i := by
  unfold l11_image_20
  refine fr (fun X => ∃ h2, X = some (1, h2) ∧ Ky (fun a j => a = 70 ∧ 1206 * (k + 1) ≤ j ∧ j < 1206 * (k + 1) + 1206) h h2 ∧ ∀ i, i < 1206 → h2.2 70 (1206 * (k + 1) + i) = h.2 70 i) (fun (w : AH) i => (i, w)) (fun n w => Ky (fun a j => a = 70 ∧ 1206 * (k + 1) ≤ j ∧ j < 1206 * (k + 1) + 1206) h w ∧ ∀ i, i < n → w.2 70 (1206 * (k + 1) + i) = h.2 70 i) 0 1206 h ⟨Ky.rf h, fun i hi => by omega⟩ (by omega) (by omega) (fun n w _ hn hI rec => ?_) (fun w hI rec => ?_)
  · right
    obtain ⟨i1, i2⟩ := hI
    refine ⟨wr w 70 (1206 * (k + 1) + n) (w.2 70 n), ⟨i1.w2 (by omega), fun i hi => ?_⟩, ?_⟩
    · by_cases z : i = n
      · subst z; rw [wr_at, i1.2 _ _ (by omega)]
      · rw [wr_e (by omega)]; exact i2 i (by omega)
    · unfold b11_image_20
      dsimp only
      rw [w32_id (x := (n : Int)) (by omega) (by omega), if_neg (by omega), asrt_t (by omega), show 1206 * ((k : Int) + 1) + (n : Int) = ((1206 * (k + 1) + n : Nat) : Int) by omega, w32_id (x := ((1206 * (k + 1) + n : Nat) : Int)) (by omega) (by omega), asrt_t (by omega), lt_eq, Int.toNat_natCast, Int.toNat_natCast]
  · refine ⟨w, ?_, hI⟩
    unfold b11_image_20
    dsimp only
    rw [if_pos (by decide)]
theorem m_agLoop {h : AH} {k : Nat} (hk : k < 3) : ∃ h2, l11_again_22 k 0 h = some (1, h2) ∧ Ky (fun a j => a = 70 ∧ j < 1206) h h2 ∧ ∀ i, i < 1206 → h2.2 70 i = h.2 70 (1206 * (k + 1) + i) := by
  unfold l11_again_22
  refine fr (fun X => ∃ h2, X = some (1, h2) ∧ Ky (fun a j => a = 70 ∧ j < 1206) h h2 ∧ ∀ i, i < 1206 → h2.2 70 i = h.2 70 (1206 * (k + 1) + i)) (fun (w : AH) i => (i, w)) (fun n w => Ky (fun a j => a = 70 ∧ j < 1206) h w ∧ ∀ i, i < n → w.2 70 i = h.2 70 (1206 * (k + 1) + i)) 0 1206 h ⟨Ky.rf h, fun i hi => by omega⟩ (by omega) (by omega) (fun n w _ hn hI rec => ?_) (fun w hI rec => ?_)
  · right
    obtain ⟨i1, i2⟩ := hI
    refine ⟨wr w 70 n (w.2 70 (1206 * (k + 1) + n)), ⟨i1.w2 (by omega), fun i hi => ?_⟩, ?_⟩
    · by_cases z : i = n
      · subst z; rw [wr_at, i1.2 _ _ (by omega)]
      · rw [wr_e (by omega)]; exact i2 i (by omega)
    · unfold b11_again_22
      dsimp only
      rw [w32_id (x := (n : Int)) (by omega) (by omega), if_neg (by omega), show 1206 * ((k : Int) + 1) + (n : Int) = ((1206 * (k + 1) + n : Nat) : Int) by omega, w32_id (x := ((1206 * (k + 1) + n : Nat) : Int)) (by omega) (by omega), asrt_t (by omega), asrt_t (by omega), lt_eq, Int.toNat_natCast, Int.toNat_natCast]
  · refine ⟨w, ?_, hI⟩
    unfold b11_again_22
    dsimp only
    rw [if_pos (by decide)]
theorem sm3 (f : Nat → Int) : sm f 3 = f 0 + f 1 + f 2 := by
  show 0 + f 0 + f 1 + f 2 = _
  omega
theorem i2b_rng (x : Int) : -128 ≤ i2b x ∧ i2b x ≤ 127 := by unfold i2b; omega
theorem TR_tape {c : Nat → Nat → Int} {t o : Nat} (hT : TR c t o) : ∀ k, k < 600 → -128 ≤ c (t + 1) k ∧ c (t + 1) k ≤ 127 := fun k hk => by
  rw [(hT.2.2.1 k hk).2]; exact i2b_rng _
theorem Inv.cnt {h : AH} (hI : Inv h) : (h.1 : Int) = (if h.2 71 0 = 0 then 0 else 1) + (if h.2 71 1 = 0 then 0 else 1) + (if h.2 71 2 = 0 then 0 else 1) := by
  obtain ⟨⟨-, b2, -⟩, -⟩ := hI
  simp only [sm] at b2
  rw [pv_at (by omega)] at b2
  rw [b2]
  omega
theorem Inv.le3 {h : AH} (hI : Inv h) : h.1 ≤ 3 := by
  have := hI.cnt
  repeat' split at this
  all_goals omega
theorem shp_told {j : Nat} (hj : j < 3) : shp (93 + 26 * j) = (18, 8) := by
  rcases (show j = 0 ∨ j = 1 ∨ j = 2 by omega) with rfl | rfl | rfl <;> decide
/-- the image k lies at u now -/
theorem Inv.img {h g h1 h2 : AH} {k j : Nat} (hI : Inv h) (hk : k < 3) (hj : j < 3) (gg : ∀ a i, a < 93 → ¬ (a = 27 ∧ i = k) → g.2 a i = h.2 a i) (g27 : g.2 27 k = ((93 + 26 * j : Nat) : Int)) (go : ∀ q, q < 3 → q ≠ k → ∀ r : Nat, h.2 27 q = ((93 + 26 * r : Nat) : Int) → (r ≠ j ∧ r < g.1 ∧ ∀ a i, 93 + 26 * r ≤ a → a ≤ 93 + 26 * r + 25 → g.2 a i = h.2 a i)) (gn : j < g.1) (gc : (g.1 : Int) = sm (fun q => if q = k then 1 else if h.2 71 q = 0 then 0 else 1) 3) (hE : TE h.2 h1.2 1 (93 + 26 * j)) (h1k : Ky (fun a _ => 93 + 26 * j ≤ a ∧ a ≤ 93 + 26 * j + 25) g h1) (h2k : Ky (fun a i => (a = 71 ∧ i = k) ∨ (a = 70 ∧ 1206 * (k + 1) ≤ i ∧ i < 1206 * (k + 1) + 1206)) h1 h2) (h71 : h2.2 71 k = 1) (h70 : ∀ i, i < 1206 → h2.2 70 (1206 * (k + 1) + i) = h1.2 70 i) : Inv h2 := by
  obtain ⟨⟨b1, b2, b3, b4⟩, b5, b6⟩ := hI
  have lo : ∀ a i, a < 93 → ¬ (a = 27 ∧ i = k) → ¬ (a = 71 ∧ i = k) → ¬ (a = 70 ∧ 1206 * (k + 1) ≤ i ∧ i < 1206 * (k + 1) + 1206) → h2.2 a i = h.2 a i := fun a i n1 n2 n3 n4 => by
    rw [h2k.2 a i (by omega), h1k.2 a i (by omega), gg a i n1 n2]
  have e27 : h2.2 27 k = ((93 + 26 * j : Nat) : Int) := by rw [h2k.2 _ _ (by omega), h1k.2 _ _ (by omega)]; exact g27
  have en : h2.1 = g.1 := h2k.1.trans h1k.1
  refine ⟨⟨?_, ?_, fun q hq => ?_, fun q r hq hr => ?_⟩, ?_, ?_⟩
  · refine TR_move b1 (TE_same b1 (fun a i a1 a2 => ?_)) (fun i hi => ?_)
    · rw [pv_at (by omega), pv_at (by omega)]; exact lo a i (by omega) (by omega) (by omega) (by omega)
    · rw [pv_70, pv_70]; exact lo 70 _ (by omega) (by omega) (by omega) (by omega)
  · rw [en, gc]
    apply sm_cong
    intro q hq
    rw [pv_at (by omega)]
    by_cases z : q = k
    · subst z; rw [if_pos rfl, h71, if_neg (by omega)]
    · rw [if_neg z, lo 71 q (by omega) (by omega) (by omega) (by omega)]
  · rw [pv_at (by omega), pv_at (by omega), en]
    by_cases z : q = k
    · right
      rw [z]
      refine ⟨j, gn, e27, h71, TR_move b1 (t := 1) (o := 0) (c := pv h.2) ?_ (fun i hi => ?_)⟩
      · obtain ⟨x1, x2, x3, x4, x5, x6⟩ := hE
        have up : ∀ a i, 92 < a → h2.2 a i = h1.2 a i := fun a i ha => h2k.2 a i (by omega)
        refine ⟨fun i i1 i2 => ?_, fun i hi => ?_, fun i hi => ?_, fun i hi => ⟨fun s hs => ?_, fun s hs => ⟨?_, ?_⟩, fun s hs => ⟨?_, ?_⟩, fun s hs => ?_⟩, fun i hi => ⟨⟨?_, ?_, ?_⟩, fun s hs => ?_⟩, fun i hi => ⟨⟨?_, ?_, ?_⟩, fun s hs => ?_⟩⟩
        · rw [pv_at (by omega), pv_at (by omega), up _ _ (by omega)]; exact x1 i i1 i2
        · rw [pv_at (by omega), pv_at (by omega), up _ _ (by omega)]; exact x2 i hi
        · rw [pv_at (by omega), pv_at (by omega), up _ _ (by omega)]; exact x3 i hi
        · rw [pv_at (by omega), pv_at (by omega), up _ _ (by omega)]; exact (x4 i hi).1 s hs
        · rw [pv_at (by omega), pv_at (by omega), up _ _ (by omega)]; exact ((x4 i hi).2.1 s hs).1
        · rw [pv_at (by omega), pv_at (by omega), up _ _ (by omega)]; exact ((x4 i hi).2.1 s hs).2
        · rw [pv_at (by omega), pv_at (by omega), up _ _ (by omega)]; exact ((x4 i hi).2.2.1 s hs).1
        · rw [pv_at (by omega), pv_at (by omega), up _ _ (by omega)]; exact ((x4 i hi).2.2.1 s hs).2
        · rw [pv_at (by omega), pv_at (by omega), up _ _ (by omega)]; exact (x4 i hi).2.2.2 s hs
        · rw [pv_at (by omega), up _ _ (by omega)]; exact (x5 i hi).1.1
        · rw [pv_at (by omega), up _ _ (by omega)]; exact (x5 i hi).1.2.1
        · rw [pv_at (by omega), pv_at (by omega), up _ _ (by omega)]; exact (x5 i hi).1.2.2
        · rw [pv_at (by omega), pv_at (by omega), up _ _ (by omega)]; exact (x5 i hi).2 s hs
        · rw [pv_at (by omega), up _ _ (by omega)]; exact (x6 i hi).1.1
        · rw [pv_at (by omega), up _ _ (by omega)]; exact (x6 i hi).1.2.1
        · rw [pv_at (by omega), pv_at (by omega), up _ _ (by omega)]; exact (x6 i hi).1.2.2
        · rw [pv_at (by omega), pv_at (by omega), up _ _ (by omega)]; exact (x6 i hi).2 s hs
      · rw [pv_70, pv_70, h70 i hi, h1k.2 _ _ (by omega), gg 70 _ (by omega) (by omega), Nat.zero_add]
    · have z27 : h2.2 27 q = h.2 27 q := lo 27 q (by omega) (by omega) (by omega) (by omega)
      have z71 : h2.2 71 q = h.2 71 q := lo 71 q (by omega) (by omega) (by omega) (by omega)
      rw [z27, z71]
      have b3q := b3 q hq
      rw [pv_at (by omega), pv_at (by omega)] at b3q
      rcases b3q with y | ⟨r, r1, r2, r3, r4⟩
      · exact Or.inl y
      · right
        obtain ⟨o1, o2, o3⟩ := go q hq z r r2
        refine ⟨r, o2, r2, r3, TR_move r4 (TE_same r4 (fun a i a1 a2 => ?_)) (fun i hi => ?_)⟩
        · rw [pv_at (by omega), pv_at (by omega), h2k.2 _ _ (by omega), h1k.2 _ _ (by omega)]; exact o3 a i a1 a2
        · rw [pv_70, pv_70]; exact lo 70 _ (by omega) (by omega) (by omega) (by omega)
  · rw [pv_at (by omega)]
    intro e
    have ot : ∀ s, s < 3 → s ≠ k → h2.2 27 s = ((93 + 26 * j : Nat) : Int) → False := fun s hs1 hs2 e2 => by
      rw [lo 27 s (by omega) (by omega) (by omega) (by omega)] at e2
      exact (go s hs1 hs2 j e2).1 rfl
    by_cases z1 : q = k
    · by_cases z2 : r = k
      · exact Or.inr (by omega)
      · rw [z1, e27] at e
        exact (ot r hr z2 e.symm).elim
    · by_cases z2 : r = k
      · rw [z2, e27] at e
        exact (ot q hq z1 e).elim
      · have := b4 q r hq hr
        rw [pv_at (by omega)] at this
        rw [lo 27 q (by omega) (by omega) (by omega) (by omega)] at e ⊢
        rw [lo 27 r (by omega) (by omega) (by omega) (by omega)] at e
        exact this e
  · rw [lo _ _ (by omega) (by omega) (by omega) (by omega), lo _ _ (by omega) (by omega) (by omega) (by omega)]; exact b5
  · rw [lo _ _ (by omega) (by omega) (by omega) (by omega), lo _ _ (by omega) (by omega) (by omega) (by omega)]; exact b6
theorem m_image {h : AH} {k : Nat} (hk : k < 3) : ∃ h2, f11_image k h = some (1, h2) ∧ Ky (fun a i => (a = 71 ∧ i = k) ∨ (a = 70 ∧ 1206 * (k + 1) ≤ i ∧ i < 1206 * (k + 1) + 1206)) h h2 ∧ h2.2 71 k = 1 ∧ ∀ i, i < 1206 → h2.2 70 (1206 * (k + 1) + i) = h.2 70 i := by
  obtain ⟨h2, a1, a2, a3⟩ := m_imgLoop (h := wr h 71 k 1) hk
  refine ⟨h2, ?_, (Ky.w1 (P := fun a i => (a = 71 ∧ i = k) ∨ (a = 70 ∧ 1206 * (k + 1) ≤ i ∧ i < 1206 * (k + 1) + 1206)) (by omega)).tr (a2.mono (fun a i z => Or.inr z)), by rw [a2.2 _ _ (by omega), wr_at], fun i hi => by rw [a3 i hi, wr_e (by omega)]⟩
  unfold f11_image
  rw [m_isIn, bnd_some, w32_id (x := (k : Int)) (by omega) (by omega), w32_0, show w32 2 = 2 from rfl, if_pos (c := 0 ≤ (k : Int) ∧ _) (by omega), if_pos (by decide), asrt_t (by omega), lt_eq, Int.toNat_natCast, nz_1, a1]
theorem q_image {x1 : Int} (hx1 : Rg x1) : Agr (f10_image x1) (f11_image x1) := by
  intro h hI
  have hc := hI.cnt
  have h3 := hI.le3
  obtain ⟨⟨b1, b2, b3, b4⟩, b5, b6⟩ := id hI
  by_cases c : 0 ≤ x1 ∧ x1 < 3
  · obtain ⟨k, rfl⟩ : ∃ k : Nat, x1 = k := ⟨x1.toNat, by omega⟩
    have hk : k < 3 := by omega
    have bk := b3 k hk
    rw [pv_at (by omega), pv_at (by omega)] at bk
    have tp := TR_tape b1
    have t7 := b1.2.2.2.2.2.2
    have tp1 : ∀ i, i < 600 → -128 ≤ h.2 2 i ∧ h.2 2 i ≤ 127 := fun i hi => by have := tp i hi; rwa [pv_at (by omega)] at this
    have t71 : ∀ i, i < 2 → (h.2 (1 + 12 + 10 * i) 0 = 5 ∧ h.2 (1 + 12 + 10 * i) 1 = 40) ∧ (h.2 (1 + 14 + 10 * i) 0 = 3 ∧ h.2 (1 + 14 + 10 * i) 1 = 8) := fun i hi => by
      have := t7 i hi
      rwa [pv_at (by omega), pv_at (by omega)] at this
    rcases bk with ⟨y1, y2⟩ | ⟨j, j1, j2, j3, j4⟩
    · -- a new one
      have n3 : h.1 < 3 := by
        have e : (if h.2 71 k = 0 then (0 : Int) else 1) = 0 := if_pos y2
        rcases (show k = 0 ∨ k = 1 ∨ k = 2 by omega) with rfl | rfl | rfl
        · rw [e] at hc; repeat' split at hc
          all_goals omega
        · rw [e] at hc; repeat' split at hc
          all_goals omega
        · rw [e] at hc; repeat' split at hc
          all_goals omega
      have szh : sz h.1 = 93 + 26 * h.1 := rfl
      have gE : ∃ g, g = wr (newT h) 27 k ((sz h.1 : Nat) : Int) := ⟨_, rfl⟩
      obtain ⟨g, hg⟩ := gE
      have glo : ∀ a i, a < sz h.1 → ¬ (a = 27 ∧ i = k) → g.2 a i = h.2 a i := fun a i ha n => by
        rw [hg, wr_e n]
        show (if sz h.1 ≤ a then tInit (a - sz h.1) i else h.2 a i) = h.2 a i
        rw [if_neg (by omega)]
      have ghi : ∀ r i, g.2 (sz h.1 + r) i = tInit r i := fun r i => by
        rw [hg, wr_e (by omega)]
        show (if sz h.1 ≤ sz h.1 + r then tInit (sz h.1 + r - sz h.1) i else h.2 (sz h.1 + r) i) = tInit r i
        rw [if_pos (by omega), Nat.add_sub_cancel_left]
      have g27 : g.2 27 k = ((93 + 26 * h.1 : Nat) : Int) := by rw [hg, wr_at, szh]
      have g1 : g.1 = h.1 + 1 := by rw [hg]; rfl
      obtain ⟨h1, a1, a2, a3⟩ := c_copyT (h := g) (t := 1) (u := 93 + 26 * h.1) (Or.inl rfl) (Or.inr ⟨h.1, n3, rfl⟩) (by omega) (fun i hi => by rw [glo _ _ (by omega) (by omega)]; exact tp1 i hi) (fun i hi => by rw [glo _ _ (by omega) (by omega), glo _ _ (by omega) (by omega), glo _ _ (by omega) (by omega), glo _ _ (by omega) (by omega)]; exact t71 i hi) (fun i hi => by
        have u1 := ghi (12 + 10 * i) 0
        have u2 := ghi (12 + 10 * i) 1
        have u3 := ghi (14 + 10 * i) 0
        have u4 := ghi (14 + 10 * i) 1
        rw [szh, ← Nat.add_assoc] at u1 u2 u3 u4
        rw [u1, u2, u3, u4]
        rcases (show i = 0 ∨ i = 1 by omega) with rfl | rfl <;> exact ⟨⟨rfl, rfl⟩, rfl, rfl⟩)
      obtain ⟨h2, d1, d2, d3, d4⟩ := m_image (h := h1) hk
      refine ⟨1, h1, h2, ?_, d1, ?_⟩
      · unfold f10_image b10_image_37
        rw [w32_id (x := (k : Int)) (by omega) (by omega), if_neg (by omega), if_pos (by omega), asrt_t (by omega), Int.toNat_natCast, y1, asrt_t (Or.inl (by decide)), if_pos (by decide), lt_eq, asrt_t (by omega), lt_eq, ← hg, szh, a1, bnd_some]
      · have hE2 : TE h.2 h1.2 1 (93 + 26 * h.1) := by
          obtain ⟨x1, x2, x3, x4, x5, x6⟩ := a3
          refine ⟨fun i i1 i2 => ?_, fun i hi => ?_, fun i hi => ?_, fun i hi => ⟨fun s hs => ?_, fun s hs => ⟨?_, ?_⟩, fun s hs => ⟨?_, ?_⟩, fun s hs => ?_⟩, fun i hi => ⟨⟨(x5 i hi).1.1, (x5 i hi).1.2.1, ?_⟩, fun s hs => ?_⟩, fun i hi => ⟨⟨(x6 i hi).1.1, (x6 i hi).1.2.1, ?_⟩, fun s hs => ?_⟩⟩
          · rw [x1 i i1 i2, glo _ _ (by omega) (by omega)]
          · rw [x2 i hi, glo _ _ (by omega) (by omega)]
          · rw [x3 i hi, glo _ _ (by omega) (by omega)]
          · rw [(x4 i hi).1 s hs, glo _ _ (by omega) (by omega)]
          · rw [((x4 i hi).2.1 s hs).1, glo _ _ (by omega) (by omega)]
          · rw [((x4 i hi).2.1 s hs).2, glo _ _ (by omega) (by omega)]
          · rw [((x4 i hi).2.2.1 s hs).1, glo _ _ (by omega) (by omega)]
          · rw [((x4 i hi).2.2.1 s hs).2, glo _ _ (by omega) (by omega)]
          · rw [(x4 i hi).2.2.2 s hs, glo _ _ (by omega) (by omega)]
          · rw [(x5 i hi).1.2.2, glo _ _ (by omega) (by omega)]
          · rw [(x5 i hi).2 s hs, glo _ _ (by omega) (by omega)]
          · rw [(x6 i hi).1.2.2, glo _ _ (by omega) (by omega)]
          · rw [(x6 i hi).2 s hs, glo _ _ (by omega) (by omega)]
        refine Inv.img (g := g) (h1 := h1) (j := h.1) hI hk n3 (fun a i ha n => glo a i (by omega) n) g27 (fun q hq hqk r hr => ?_) (by omega) ?_ hE2 a2 d2 d3 d4
        · have bq := b3 q hq
          rw [pv_at (by omega), pv_at (by omega)] at bq
          have rl : r < h.1 := by
            rcases bq with ⟨z, -⟩ | ⟨p, p1, p2, -⟩
            · omega
            · omega
          exact ⟨by omega, by omega, fun a i a1 a2 => glo a i (by omega) (by omega)⟩
        · rw [g1, sm3]
          have e : (if h.2 71 k = 0 then (0 : Int) else 1) = 0 := if_pos y2
          rcases (show k = 0 ∨ k = 1 ∨ k = 2 by omega) with rfl | rfl | rfl
          · rw [e] at hc
            rw [if_pos (c := (0 : Nat) = 0) rfl, if_neg (c := (1 : Nat) = 0) (by omega), if_neg (c := (2 : Nat) = 0) (by omega)]
            omega
          · rw [e] at hc
            rw [if_neg (c := (0 : Nat) = 1) (by omega), if_pos (c := (1 : Nat) = 1) rfl, if_neg (c := (2 : Nat) = 1) (by omega)]
            omega
          · rw [e] at hc
            rw [if_neg (c := (0 : Nat) = 2) (by omega), if_neg (c := (1 : Nat) = 2) (by omega), if_pos (c := (2 : Nat) = 2) rfl]
            omega
    · -- one that is there
      have jl : j < 3 := by omega
      obtain ⟨h1, a1, a2, a3⟩ := c_copyT (h := h) (t := 1) (u := 93 + 26 * j) (Or.inl rfl) (Or.inr ⟨j, jl, rfl⟩) (by omega) tp1 t71 (fun i hi => by
        have := j4.2.2.2.2.2.2 i hi
        rwa [pv_at (by omega), pv_at (by omega)] at this)
      obtain ⟨h2, d1, d2, d3, d4⟩ := m_image (h := h1) hk
      refine ⟨1, h1, h2, ?_, d1, ?_⟩
      · unfold f10_image b10_image_37
        rw [w32_id (x := (k : Int)) (by omega) (by omega), if_neg (by omega), if_pos (by omega), asrt_t (by omega), Int.toNat_natCast, j2, asrt_t (Or.inr ⟨by rw [Int.toNat_natCast]; unfold sz; omega, by rw [Int.toNat_natCast]; exact shp_told jl⟩), if_neg (by omega), Int.toNat_natCast, a1, bnd_some]
      · refine Inv.img (g := h) (h1 := h1) (j := j) hI hk jl (fun a i _ _ => rfl) j2 (fun q hq hqk r hr => ?_) j1 ?_ a3 a2 d2 d3 d4
        · have bq := b3 q hq
          rw [pv_at (by omega), pv_at (by omega)] at bq
          have rl : r < h.1 := by
            rcases bq with ⟨z, -⟩ | ⟨p, p1, p2, -⟩
            · omega
            · omega
          refine ⟨fun e => ?_, rl, fun a i _ _ => rfl⟩
          have := b4 q k hq hk
          rw [pv_at (by omega), hr, j2, e] at this
          rcases this rfl with z | z
          · omega
          · exact hqk z
        · rw [sm3]
          have e : (if h.2 71 k = 0 then (0 : Int) else 1) = 1 := if_neg (by omega)
          rcases (show k = 0 ∨ k = 1 ∨ k = 2 by omega) with rfl | rfl | rfl
          · rw [e] at hc
            rw [if_pos (c := (0 : Nat) = 0) rfl, if_neg (c := (1 : Nat) = 0) (by omega), if_neg (c := (2 : Nat) = 0) (by omega)]
            omega
          · rw [e] at hc
            rw [if_neg (c := (0 : Nat) = 1) (by omega), if_pos (c := (1 : Nat) = 1) rfl, if_neg (c := (2 : Nat) = 1) (by omega)]
            omega
          · rw [e] at hc
            rw [if_neg (c := (0 : Nat) = 2) (by omega), if_neg (c := (1 : Nat) = 2) (by omega), if_pos (c := (2 : Nat) = 2) rfl]
            omega
  · refine ⟨0, h, h, ?_, ?_, hI⟩
    · unfold f10_image
      rw [w32_id hx1.1 hx1.2]
      by_cases d : x1 < 0
      · rw [if_pos d]
      · rw [if_neg d, if_neg (by omega)]
    · unfold f11_image
      rw [m_isIn, bnd_some, w32_id hx1.1 hx1.2, w32_0, show w32 2 = 2 from rfl, if_neg (c := 0 ≤ x1 ∧ _) (by omega), if_neg (by decide)]
theorem q_again {x1 : Int} (hx1 : Rg x1) : Agr (f10_again x1) (f11_again x1) := by
  intro h hI
  have h3 := hI.le3
  obtain ⟨⟨b1, b2, b3, b4⟩, b5, b6⟩ := id hI
  by_cases c : 0 ≤ x1 ∧ x1 < 3
  · obtain ⟨k, rfl⟩ : ∃ k : Nat, x1 = k := ⟨x1.toNat, by omega⟩
    have hk : k < 3 := by omega
    have bk := b3 k hk
    rw [pv_at (by omega), pv_at (by omega)] at bk
    rcases bk with ⟨y1, y2⟩ | ⟨j, j1, j2, j3, j4⟩
    · refine ⟨0, h, h, ?_, ?_, hI⟩
      · unfold f10_again b10_again_19
        rw [w32_id (x := (k : Int)) (by omega) (by omega), if_neg (by omega), if_pos (by omega), asrt_t (by omega), Int.toNat_natCast, y1, asrt_t (Or.inl (by decide)), if_pos (by decide)]
      · unfold f11_again
        rw [m_isIn, bnd_some, w32_id (x := (k : Int)) (by omega) (by omega), w32_0, show w32 2 = 2 from rfl, if_pos (c := 0 ≤ (k : Int) ∧ _) (by omega), if_neg (by decide), asrt_t (by omega), Int.toNat_natCast, y2, if_neg (by decide)]
    · have jl : j < 3 := by omega
      have tp := TR_tape j4
      have t7 := b1.2.2.2.2.2.2
      obtain ⟨h1, a1, a2, a3⟩ := c_copyT (h := h) (t := 93 + 26 * j) (u := 1) (Or.inr ⟨j, jl, rfl⟩) (Or.inl rfl) (by omega) (fun i hi => by have := tp i hi; rwa [pv_at (by omega)] at this) (fun i hi => by
        have := j4.2.2.2.2.2.2 i hi
        rwa [pv_at (by omega), pv_at (by omega)] at this) (fun i hi => by
        have := t7 i hi
        rwa [pv_at (by omega), pv_at (by omega)] at this)
      obtain ⟨h2, d1, d2, d3⟩ := m_agLoop (h := h1) hk
      refine ⟨1, h1, h2, ?_, ?_, ?_⟩
      · unfold f10_again b10_again_19
        rw [w32_id (x := (k : Int)) (by omega) (by omega), if_neg (by omega), if_pos (by omega), asrt_t (by omega), Int.toNat_natCast, j2, asrt_t (Or.inr ⟨by rw [Int.toNat_natCast]; unfold sz; omega, by rw [Int.toNat_natCast]; exact shp_told jl⟩), if_neg (by omega), Int.toNat_natCast, a1, bnd_some]
      · unfold f11_again
        rw [m_isIn, bnd_some, w32_id (x := (k : Int)) (by omega) (by omega), w32_0, show w32 2 = 2 from rfl, if_pos (c := 0 ≤ (k : Int) ∧ _) (by omega), if_neg (by decide), asrt_t (by omega), Int.toNat_natCast, a2.2 71 k (by omega), j3, if_pos (by decide), d1]
      · have ee : ∀ a i, ¬ (1 ≤ a ∧ a ≤ 26) → ¬ (a = 70 ∧ i < 1206) → h2.2 a i = h.2 a i := fun a i n1 n2 => by rw [d2.2 a i n2, a2.2 a i (by omega)]
        refine hI.upd (d2.1.trans a2.1) (fun a i ha => ee a i (by omega) (by omega)) (fun i hi => ee 70 i (by omega) (by omega)) (fun i hi => ⟨ee _ _ (by omega) (by omega), ee _ _ (by omega) (by omega)⟩) ?_
        refine TR_move j4 ?_ (fun i hi => ?_)
        · obtain ⟨x1, x2, x3, x4, x5, x6⟩ := a3
          have up : ∀ a i, a < 69 → h2.2 a i = h1.2 a i := fun a i ha => d2.2 a i (by omega)
          refine ⟨fun i i1 i2 => ?_, fun i hi => ?_, fun i hi => ?_, fun i hi => ⟨fun s hs => ?_, fun s hs => ⟨?_, ?_⟩, fun s hs => ⟨?_, ?_⟩, fun s hs => ?_⟩, fun i hi => ⟨⟨?_, ?_, ?_⟩, fun s hs => ?_⟩, fun i hi => ⟨⟨?_, ?_, ?_⟩, fun s hs => ?_⟩⟩
          · rw [pv_at (by omega), pv_at (by omega), up _ _ (by omega)]; exact x1 i i1 i2
          · rw [pv_at (by omega), pv_at (by omega), up _ _ (by omega)]; exact x2 i hi
          · rw [pv_at (by omega), pv_at (by omega), up _ _ (by omega)]; exact x3 i hi
          · rw [pv_at (by omega), pv_at (by omega), up _ _ (by omega)]; exact (x4 i hi).1 s hs
          · rw [pv_at (by omega), pv_at (by omega), up _ _ (by omega)]; exact ((x4 i hi).2.1 s hs).1
          · rw [pv_at (by omega), pv_at (by omega), up _ _ (by omega)]; exact ((x4 i hi).2.1 s hs).2
          · rw [pv_at (by omega), pv_at (by omega), up _ _ (by omega)]; exact ((x4 i hi).2.2.1 s hs).1
          · rw [pv_at (by omega), pv_at (by omega), up _ _ (by omega)]; exact ((x4 i hi).2.2.1 s hs).2
          · rw [pv_at (by omega), pv_at (by omega), up _ _ (by omega)]; exact (x4 i hi).2.2.2 s hs
          · rw [pv_at (by omega), up _ _ (by omega)]; exact (x5 i hi).1.1
          · rw [pv_at (by omega), up _ _ (by omega)]; exact (x5 i hi).1.2.1
          · rw [pv_at (by omega), pv_at (by omega), up _ _ (by omega)]; exact (x5 i hi).1.2.2
          · rw [pv_at (by omega), pv_at (by omega), up _ _ (by omega)]; exact (x5 i hi).2 s hs
          · rw [pv_at (by omega), up _ _ (by omega)]; exact (x6 i hi).1.1
          · rw [pv_at (by omega), up _ _ (by omega)]; exact (x6 i hi).1.2.1
          · rw [pv_at (by omega), pv_at (by omega), up _ _ (by omega)]; exact (x6 i hi).1.2.2
          · rw [pv_at (by omega), pv_at (by omega), up _ _ (by omega)]; exact (x6 i hi).2 s hs
        · rw [pv_70, pv_70, Nat.zero_add, d3 i hi, a2.2 70 _ (by omega)]
  · refine ⟨0, h, h, ?_, ?_, hI⟩
    · unfold f10_again b10_again_9 b10_again_19
      rw [w32_id hx1.1 hx1.2]
      by_cases d : x1 < 0
      · rw [if_pos d, if_pos (by decide)]
      · rw [if_neg d, if_neg (by omega), if_pos (by decide)]
    · unfold f11_again
      rw [m_isIn, bnd_some, w32_id hx1.1 hx1.2, w32_0, show w32 2 = 2 from rfl, if_neg (c := 0 ≤ x1 ∧ _) (by omega), if_pos (by decide)]
