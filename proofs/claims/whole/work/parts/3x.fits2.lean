/-! fits -/
section FitsR
variable {V D : Nat → Int} {h : AH} {v r : Nat}
def kBy (a _k : Nat) : Prop := a = 92
theorem LM.ky {w : AH} (hl : LM h.2 D) (k : Ky kBy h w) : LM w.2 D := by
  obtain ⟨o, m0, m1, m5⟩ := hl
  exact ⟨o, m0, (k.2 _ _ (by unfold kBy; omega)).trans m1, fun j hj => (k.2 _ _ (by unfold kBy; omega)).trans (m5 j hj)⟩
theorem VM.ky {w : AH} (hl : VM h.2 V) (k : Ky kBy h w) : VM w.2 V := k.vm (fun k _ _ => by unfold kBy; omega) (fun k => by unfold kBy; omega) hl
theorem m_great (hV : VOK V) (hD : LOK D) (hm : VM h.2 V) (hl : LM h.2 D) (hT : sThere V D = true) {a b : Int} (ha : 0 ≤ a ∧ a < V 0) (hb : 0 ≤ b ∧ b < V 0) (hab : a ≠ b) : ∃ h1, f11_greatestBy a b h = some ((sAl V D a b (10 * (V 1).toNat)).2, h1) ∧ Ky kBy h h1 := by
  have v1 := hV.2.1
  unfold f11_greatestBy l11_greatestBy_2
  refine fr (fun X => ∃ h1, X = some ((sAl V D a b (10 * (V 1).toNat)).2, h1) ∧ Ky kBy h h1) (fun (s : AH) i => (i, s)) (fun i w => Ky kBy h w ∧ ∀ j, j < i → w.2 92 j = 0) 0 82 h ⟨Ky.rf h, fun j hj => by omega⟩ (by omega) (by omega) (fun i w _ hi hI rec => ?_) (fun w hI rec => ?_)
  · right
    refine ⟨wr w 92 i 0, ⟨hI.1.w2 rfl, fun j hj => ?_⟩, ?_⟩
    · by_cases z : j = i
      · subst z; exact wr_at
      · rw [wr_e (by omega)]; exact hI.2 j (by omega)
    · unfold b11_greatestBy_2
      dsimp only
      rw [w32_id (x := (i : Int)) (by omega) (by omega), if_neg (by omega), asrt_t (by omega), lt_eq, Int.toNat_natCast]
  · obtain ⟨i1, i2⟩ := hI
    unfold b11_greatestBy_2 l11_greatestBy_26
    dsimp only
    rw [if_pos (by decide)]
    refine fr (fun X => ∃ h1, X = some ((sAl V D a b (10 * (V 1).toNat)).2, h1) ∧ Ky kBy h h1) (fun (s : Int × AH) i => (s.1, i, s.2)) (fun c z => Ky kBy h z.2 ∧ z.1 = (sAl V D a b c).2 ∧ ∀ x, x < 82 → z.2.2 92 x = (sAl V D a b c).1 x) 0 (10 * (V 1).toNat) (0, w) ⟨i1, rfl, fun x hx => i2 x hx⟩ (by omega) (by omega) (fun c z _ hc hJ rec2 => ?_) (fun z hJ rec2 => ?_)
    · right
      obtain ⟨z, u⟩ := z
      obtain ⟨j1, j2, j3⟩ := hJ
      simp only at j1 j2 j3
      have hm2 := hm.ky j1
      have hl2 := hl.ky j1
      have ar := sAl_rng V D a b c
      have xr := sNx_rng (D := D) hV a b c
      have arx := ar.1 (sNx V D a b c).toNat
      have e3 := j3 (sNx V D a b c).toNat (by omega)
      unfold b11_greatestBy_26 b11_greatestBy_111 b11_greatestBy_112
      dsimp only
      rw [vm_S hm2, w32_id (x := (10 * V 1)) (by omega) (by omega), w32_id (x := (c : Int)) (by omega) (by omega), if_neg (by omega), m_isSo hV hD hm2 hl2 hT (by omega), bnd_some, asrt_t (lm_0 hl2).1, (lm_0 hl2).2, m_nx hV hD hm2 ha hb hab (by omega), bnd_some]
      cases q : sSo V D c
      · have e : sAl V D a b (c + 1) = sAl V D a b c := acf_0 q
        rw [if_neg (by decide)]
        exact ⟨(z, u), ⟨j1, by rw [e]; exact j2, by rw [e]; exact j3⟩, rfl⟩
      · have e : sAl V D a b (c + 1) = gAl V D a b c (sAl V D a b c) := acf_1 q
        rw [if_pos (by decide), w32_id (x := sNx V D a b c) (by omega) (by omega), asrt_t (by omega), asrt_t (by omega), lt_eq, asrt_t (by omega), wr_at, e3, j2, asrt_t (by omega), w32_id (x := (sAl V D a b c).1 (sNx V D a b c).toNat + 1) (by omega) (by omega), w32_id (x := (sAl V D a b c).2) (by omega) (by omega)]
        refine ⟨((gAl V D a b c (sAl V D a b c)).2, wr u 92 (sNx V D a b c).toNat ((sAl V D a b c).1 (sNx V D a b c).toNat + 1)), ⟨j1.w2 rfl, by rw [e], fun x hx => ?_⟩, ?_⟩
        · rw [e]
          unfold gAl
          simp only
          by_cases y : x = (sNx V D a b c).toNat
          · rw [if_pos y, y, wr_at]
          · rw [if_neg y, wr_e (by omega)]; exact j3 x hx
        · unfold gAl mx
          simp only
          by_cases y : (sAl V D a b c).2 < (sAl V D a b c).1 (sNx V D a b c).toNat + 1
          · rw [if_neg (by omega), if_pos y]
          · rw [if_pos (by omega), if_neg y]
    · obtain ⟨z, u⟩ := z
      obtain ⟨j1, j2, j3⟩ := hJ
      simp only at j1 j2 j3
      refine ⟨u, ?_, j1⟩
      unfold b11_greatestBy_26
      dsimp only
      rw [vm_S (hm.ky j1), w32_id (x := (10 * V 1)) (by omega) (by omega), w32_id (x := ((10 * (V 1).toNat : Nat) : Int)) (by omega) (by omega), if_pos (by omega), j2]
theorem m_ask (hV : VOK V) (hD : LOK D) (hm : VM h.2 V) (hl : LM h.2 D) (hT : sThere V D = true) : ∃ h1, f11_askOf h = some ((sAsk V D (10 * (V 1).toNat)).1, h1) ∧ Ky kBy h h1 := by
  have v0 := hV.1
  have v1 := hV.2.1
  unfold f11_askOf l11_askOf_7 sAsk itp
  have key := fr (F := fun rec (z : Int × Int × Int × AH) => b11_askOf_7 rec z.1 z.2.1 z.2.2.1 z.2.2.2) (fun X => ∃ h1, X = some ((itf (fun a s => itf (gAsk V D (10 * (V 1).toNat) a) (a + 1) ((V 0).toNat - (a + 1)) s) 0 (V 0).toNat (-1, 99)).1, h1) ∧ Ky kBy h h1) (fun (z : (Int × Int) × AH) i => (z.1.1, z.1.2, i, z.2)) (fun i z => Ky kBy h z.2 ∧ askI z.1 ∧ z.1 = itf (fun a s => itf (gAsk V D (10 * (V 1).toNat) a) (a + 1) ((V 0).toNat - (a + 1)) s) 0 i (-1, 99)) 0 (V 0).toNat ((-1, 99), h) ⟨Ky.rf h, by unfold askI; simp, rfl⟩ (by omega) (by omega) (fun a z _ ha hI rec => ?_) (fun z hI rec => ?_)
  · exact key
  · right
    obtain ⟨z, w⟩ := z
    obtain ⟨i1, i2, i3⟩ := hI
    simp only at i1 i2 i3
    unfold b11_askOf_7 l11_askOf_20
    dsimp only
    rw [vm_P (hm.ky i1), w32_id (x := V 0) (by omega) (by omega), w32_id (x := (a : Int)) (by omega) (by omega), if_neg (by omega), lt_eq]
    have k2 := fr (F := fun rec32 (z : Int × Int × Int × AH) => b11_askOf_20 rec32 rec a z.1 z.2.1 z.2.2.1 z.2.2.2) (fun X => ∃ s' : (Int × Int) × AH, (Ky kBy h s'.2 ∧ askI s'.1 ∧ s'.1 = itf (fun a s => itf (gAsk V D (10 * (V 1).toNat) a) (a + 1) ((V 0).toNat - (a + 1)) s) 0 (a + 1) (-1, 99)) ∧ X = rec (s'.1.1, s'.1.2, (a : Int) + 1, s'.2)) (fun (z : (Int × Int) × AH) i => (z.1.1, z.1.2, i, z.2)) (fun b y => Ky kBy h y.2 ∧ askI y.1 ∧ y.1 = itf (gAsk V D (10 * (V 1).toNat) a) (a + 1) (b - (a + 1)) z) (a + 1) (V 0).toNat (z, w) ⟨i1, i2, by rw [Nat.sub_self]; rfl⟩ (by omega) (by omega) (fun b y hb1 hb hJ rec2 => ?_) (fun y hJ rec2 => ?_)
    · exact k2
    · right
      obtain ⟨y, u⟩ := y
      obtain ⟨j1, j2, j3⟩ := hJ
      simp only at j1 j2 j3
      obtain ⟨h1, a1, a2⟩ := m_great hV hD (hm.ky j1) (hl.ky j1) hT (a := (a : Int)) (b := (b : Int)) (by omega) (by omega) (by omega)
      have ar := (sAl_rng V D a b (10 * (V 1).toNat)).2
      refine ⟨(gAsk V D (10 * (V 1).toNat) a b y, h1), ⟨j1.tr a2, gAsk_I (by omega) (by omega) (by omega) j2, ?_⟩, ?_⟩
      · show gAsk V D (10 * (V 1).toNat) a b y = _
        rw [show b + 1 - (a + 1) = (b - (a + 1)) + 1 by omega]
        simp only [itf]
        rw [show a + 1 + (b - (a + 1)) = b by omega, ← j3]
      · unfold b11_askOf_20 b11_askOf_58
        dsimp only
        obtain ⟨o1, o2, o3, o4⟩ := j2
        rw [vm_P (hm.ky j1), w32_id (x := V 0) (by omega) (by omega), w32_id (x := (b : Int)) (by omega) (by omega), if_neg (by omega), a1, bnd_some, w32_id (x := y.2) (by omega) (by omega), lt_eq, w32_id (x := (sAl V D a b (10 * (V 1).toNat)).2) (by omega) (by omega)]
        unfold gAsk
        by_cases t2 : (sAl V D a b (10 * (V 1).toNat)).2 < y.2
        · rw [if_pos t2, if_pos t2]
        · rw [if_neg t2, if_neg t2]
    · obtain ⟨y, u⟩ := y
      obtain ⟨j1, j2, j3⟩ := hJ
      simp only at j1 j2 j3
      refine ⟨(y, u), ⟨j1, j2, ?_⟩, ?_⟩
      · show y = _
        rw [j3, i3]
        simp only [itf, Nat.zero_add]
      · unfold b11_askOf_20
        dsimp only
        rw [vm_P (hm.ky j1), w32_id (x := V 0) (by omega) (by omega), w32_id (x := ((V 0).toNat : Int)) (by omega) (by omega), if_pos (by omega)]
  · obtain ⟨z, w⟩ := z
    obtain ⟨i1, i2, i3⟩ := hI
    simp only at i1 i2 i3
    refine ⟨w, ?_, i1⟩
    unfold b11_askOf_7
    dsimp only
    rw [vm_P (hm.ky i1), w32_id (x := V 0) (by omega) (by omega), w32_id (x := ((V 0).toNat : Int)) (by omega) (by omega), if_pos (by omega), i3]
theorem sur_rng (p : Nat → Bool) {c : Nat} (hc : c ≤ 60) : -2 ≤ sSur p c ∧ sSur p c ≤ 6 := by
  rcases sur_val p c with z | ⟨f, l, a1, a2, a3, a4, a5, a6, a7⟩
  · omega
  · rw [a7]
    split <;> omega
theorem m_fits (hV : VOK V) (hD : LOK D) (hm : VM h.2 V) (hl : LM h.2 D) (hT : sThere V D = true) {x : Int} (hx : Rg x) (hx2 : (0 ≤ x ∧ x ≤ 2) ∨ 10 ≤ x) : ∃ h1, l11_fits_49 x 0 (-1) 0 h = some (sFit V D (10 * (V 1).toNat) x, h1) ∧ Ky kBy h h1 := by
  have v1 := hV.2.1
  unfold l11_fits_49
  refine fr (fun X => ∃ h1, X = some (sFit V D (10 * (V 1).toNat) x, h1) ∧ Ky kBy h h1) (fun (z : Int × Int) c => (z.1, z.2, c, h)) (fun c z => z = ((fc (sSo V D) c : Int), sSur (sSo V D) c) ∧ (10 ≤ x → (fc (sSo V D) c : Int) ≤ x - 10)) 0 (10 * (V 1).toNat) (0, -1) ⟨rfl, fun _ => by show (0 : Int) ≤ x - 10; omega⟩ (by omega) (by omega) (fun c z _ hc hI rec => ?_) (fun z hI rec => ?_)
  · obtain ⟨rfl, hI2⟩ := hI
    have fl := fc_le (sSo V D) c
    have sr := sur_rng (sSo V D) (c := c) (by omega)
    unfold b11_fits_49 b11_fits_91 b11_fits_106 b11_fits_116 b11_fits_121
    dsimp only
    rw [vm_S hm, w32_id (x := (10 * V 1)) (by omega) (by omega), w32_id (x := (c : Int)) (by omega) (by omega), if_neg (by omega), m_isSo hV hD hm hl hT (by omega), bnd_some]
    cases q : sSo V D c
    · right
      rw [if_neg (by decide)]
      exact ⟨((fc (sSo V D) (c + 1) : Int), sSur (sSo V D) (c + 1)), ⟨rfl, by rw [fc_s0 q]; exact hI2⟩, by rw [fc_s0 q, show sSur (sSo V D) (c + 1) = sSur (sSo V D) c from acf_0 q]⟩
    · rw [if_pos (by decide), w32_id hx.1 hx.2, w32_id (x := (fc (sSo V D) c : Int)) (by omega) (by omega), w32_id (x := sSur (sSo V D) c) (by omega) (by omega), dv32_10 (by omega) (by omega), show (c : Int) / 10 = ((c / 10 : Nat) : Int) by omega, w32_id (x := ((c / 10 : Nat) : Int)) (by omega) (by omega)]
      have e : sSur (sSo V D) (c + 1) = gSur (sSo V D) c (sSur (sSo V D) c) := acf_1 q
      have tail : (if (fc (sSo V D) c : Int) = 0 then rec ((fc (sSo V D) c : Int) + 1, ((c / 10 : Nat) : Int), (c : Int) + 1, h) else if ¬ sSur (sSo V D) c = ((c / 10 : Nat) : Int) then rec ((fc (sSo V D) c : Int) + 1, -2, (c : Int) + 1, h) else rec ((fc (sSo V D) c : Int) + 1, ((c / 10 : Nat) : Int), (c : Int) + 1, h)) = rec ((fc (sSo V D) (c + 1) : Int), sSur (sSo V D) (c + 1), (c : Int) + 1, h) := by
        rw [e, fc_s1 q]
        unfold gSur
        by_cases z1 : fc (sSo V D) c = 0
        · rw [if_pos (by omega), if_pos (Or.inl z1)]; rfl
        · rw [if_neg (by omega)]
          by_cases z2 : sSur (sSo V D) c = ((c / 10 : Nat) : Int)
          · rw [if_neg (fun w => w z2), if_pos (Or.inr z2)]; rfl
          · rw [if_pos z2, if_neg (by omega)]; rfl
      by_cases d : x < 10
      · right
        rw [if_pos d, tail]
        exact ⟨((fc (sSo V D) (c + 1) : Int), sSur (sSo V D) (c + 1)), ⟨rfl, fun z => by omega⟩, rfl⟩
      · rw [if_neg d, w32_id (x := x - 10) (by omega) (by have := hx.2; omega)]
        by_cases d2 : (fc (sSo V D) c : Int) = x - 10
        · left
          rw [if_neg (fun w => w d2)]
          refine ⟨h, ?_, Ky.rf h⟩
          unfold sFit
          rw [if_neg (by omega), if_neg (by omega), if_neg (by omega), if_neg d, fnd_hit hc q d2]
        · right
          rw [if_pos d2, tail]
          exact ⟨((fc (sSo V D) (c + 1) : Int), sSur (sSo V D) (c + 1)), ⟨rfl, fun z => by have := hI2 z; rw [fc_s1 q]; omega⟩, rfl⟩
  · obtain ⟨rfl, hI2⟩ := hI
    have fl := fc_le (sSo V D) (10 * (V 1).toNat)
    have sr := sur_rng (sSo V D) (c := 10 * (V 1).toNat) (by omega)
    obtain ⟨h1, a1, a2⟩ := m_ask hV hD hm hl hT
    unfold b11_fits_49 sFit
    dsimp only
    rw [vm_S hm, w32_id (x := (10 * V 1)) (by omega) (by omega), w32_id (x := ((10 * (V 1).toNat : Nat) : Int)) (by omega) (by omega), if_pos (by omega), w32_id hx.1 hx.2, a1, bnd_some, w32_id (x := (fc (sSo V D) (10 * (V 1).toNat) : Int)) (by omega) (by omega), w32_id (x := sSur (sSo V D) (10 * (V 1).toNat)) (by omega) (by omega)]
    by_cases d0 : x = 0
    · rw [if_pos d0, if_pos d0]; exact ⟨h, rfl, Ky.rf h⟩
    rw [if_neg d0, if_neg d0]
    by_cases d1 : x = 1
    · rw [if_pos d1, if_pos d1]
      refine ⟨h, ?_, Ky.rf h⟩
      by_cases z : sSur (sSo V D) (10 * (V 1).toNat) < 0
      · rw [if_neg (by omega), if_pos z]
      · rw [if_pos (by omega), if_neg z]
    rw [if_neg d1, if_neg d1]
    by_cases d2 : x = 2
    · rw [if_pos d2, if_pos d2]
      by_cases z : fc (sSo V D) (10 * (V 1).toNat) = 0
      · rw [if_neg (fun w => w (by omega)), if_pos z]; exact ⟨h, rfl, Ky.rf h⟩
      · rw [if_pos (by omega), if_neg z]; exact ⟨h1, rfl, a2⟩
    rw [if_neg d2, if_neg d2, if_neg (by omega), fnd_no (by have := hI2 (by omega); omega)]
    exact ⟨h, rfl, Ky.rf h⟩
end FitsR
theorem q_fits {x1 x2 x3 : Int} (hx1 : Rg x1) (hx2 : Rg x2) (hx3 : Rg x3) : Agr (f10_fits x1 x2 x3) (f11_fits x1 x2 x3) := by
  refine agr_vv hx1 (fun h hI e => ⟨-2, ?_, fun e2 => ?_⟩) (fun h v V hI hV hc h7 h17 e => ?_)
  · unfold f10_fits
    rw [e, bnd_some, c_logAt hI, bnd_some, if_pos (by omega)]
  · unfold f11_fits
    rw [e2, bnd_some, ite_w0]
  · have v1 := hV.2.1
    rcases log_cases hI hx2 with ⟨d1, d2⟩ | ⟨r, D, d1, d2, d3, d4, d5⟩
    · refine ⟨-2, h, ?_, PK.rf h, fun hs kh e1 hm _ => ⟨hs, ?_, PK.rf hs⟩⟩
      · unfold f10_fits
        rw [e, bnd_some, d1, bnd_some, if_neg (by omega), if_pos (by omega)]
      · unfold f11_fits
        rw [e1, bnd_some, ite_w1, d2 hs kh, bnd_some, ite_w0]
    · obtain ⟨h1, a1, a2, a3⟩ := c_gather hV d3 hc (by omega) d4 d2
      have pk1 := a2.pk (fun a k z => by unfold kGu at z; omega)
      have hc1 : VC h1.2 v V := a2.vc (fun a k _ _ => by unfold kGu; omega) hc
      have main : ∃ h2, f10_fits x1 x2 x3 h = some (if sThere V D then sFit V D (10 * (V 1).toNat) x3 else -2, h2) ∧ PK h h2 := by
        unfold f10_fits
        rw [e, bnd_some, d1, bnd_some, if_neg (by omega), if_neg (by omega), Int.toNat_natCast, Int.toNat_natCast, a1, bnd_some]
        cases q : sThere V D
        · rw [if_neg (by decide)]; exact ⟨h1, rfl, pk1⟩
        · obtain ⟨h2, b1, b2⟩ := c_fitAns hV d3 hc1 (by omega) (a3 q) (by omega) hx3
          rw [if_pos (by decide), b1, bnd_some]
          exact ⟨h2, rfl, pk1.tr (b2.pk (fun a k z => by unfold kTa at z; omega))⟩
      obtain ⟨h2, b1, b2⟩ := main
      refine ⟨_, h2, b1, b2, fun hs kh e1 hm _ => ?_⟩
      obtain ⟨hs2, g1, g2, g3, g4⟩ := d5 hs (b2.tr kh)
      have hm2 : VM hs2.2 V := VM_same (fun k _ _ => g3 _ _ (by omega)) (fun k => g3 _ _ (by omega)) hm
      unfold f11_fits
      rw [e1, bnd_some, ite_w1, g1, bnd_some, ite_w1, m_areThere hV d3 hm2 g2, bnd_some]
      cases q : sThere V D
      · rw [if_pos (by decide)]; exact ⟨hs2, rfl, g4⟩
      · rw [if_neg (by decide), w32_id hx3.1 hx3.2, m_isIn, bnd_some, w32_id hx3.1 hx3.2, show w32 3 = 3 from rfl, show w32 9 = 9 from rfl, if_pos (c := true = true) rfl]
        by_cases c1 : x3 < 0
        · rw [if_pos c1]
          refine ⟨hs2, ?_, g4⟩
          unfold sFit
          rw [if_neg (by omega), if_neg (by omega), if_neg (by omega), if_pos (by omega)]
        rw [if_neg c1]
        by_cases c2 : 3 ≤ x3 ∧ x3 ≤ 9
        · rw [if_pos c2, ite_w1]
          refine ⟨hs2, ?_, g4⟩
          unfold sFit
          rw [if_neg (by omega), if_neg (by omega), if_neg (by omega), if_pos (by omega)]
        · rw [if_neg c2, ite_w0]
          obtain ⟨h4, t1, t2⟩ := m_fits hV d3 hm2 g2 q hx3 (by omega)
          rw [t1]
          exact ⟨h4, rfl, g4.tr (t2.pk (fun a k z => by unfold kBy at z; omega))⟩
