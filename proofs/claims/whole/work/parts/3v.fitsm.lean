/-! logs: what is found, asked -/
section FitsA
variable {V D : Nat → Int} {h : AH} {v r : Nat}
def sNx (V D : Nat → Int) (a b : Int) (c : Nat) : Int := sBeh V a b ((c / 10 : Nat) : Int) (c % 10 + (D 0).toNat)
def gNx (V D : Nat → Int) (a b most : Int) (c : Nat) (z : Int) : Int := if z = -1 ∨ (most = 0 ∧ sNx V D a b c < z) ∨ (most ≠ 0 ∧ z < sNx V D a b c) then sNx V D a b c else z
def sNext (V D : Nat → Int) (a b most : Int) (c : Nat) : Int := acf (sSo V D) (gNx V D a b most) (-1) c
theorem sNx_rng (hV : VOK V) (a b : Int) (c : Nat) : 0 ≤ sNx V D a b c ∧ sNx V D a b c ≤ 81 := sBeh_rng hV _ _ _ _
theorem sNext_rng (hV : VOK V) (a b most : Int) (c : Nat) : -1 ≤ sNext V D a b most c ∧ sNext V D a b most c ≤ 81 := by
  unfold sNext
  induction c with
  | zero => exact ⟨Int.le_refl _, by show (-1 : Int) ≤ 81; omega⟩
  | succ c ih =>
    have := sNx_rng (D := D) hV a b c
    cases q : sSo V D c
    · rw [acf_0 q]; exact ih
    · rw [acf_1 q]
      generalize acf (sSo V D) (gNx V D a b most) (-1) c = z at *
      unfold gNx
      split <;> omega
theorem c_burnNext (hV : VOK V) (hD : LOK D) (hc : VC h.2 v V) {N c : Nat} (hG : GF V D h N) (hN : N ≤ 60) (hcN : c < N) (hp : sSo V D c = true) (a b : Int) : f2_burningNext v (fc (sSo V D) c) a b h = some (sNx V D (w32 a) (w32 b) c, h) := by
  have d0 := hD.1
  have fl := fc_le (sSo V D) c
  have g := sGap_rng hV (w32 a) (w32 b) ((c / 10 : Nat) : Int)
  unfold f2_burningNext
  rw [w32_id (x := (fc (sSo V D) c : Int)) (by omega) (by omega), asrt_t (by omega), lt_eq, asrt_t (by omega), lt_eq, Int.toNat_natCast, hG.2.2 c hcN hp, hG.1, dv32_10 (by omega) (by omega), rm32_10 (by omega) (by omega), show (c : Int) / 10 = ((c / 10 : Nat) : Int) by omega, show (c : Int) % 10 + D 0 = ((c % 10 + (D 0).toNat : Nat) : Int) by omega, v_gap hV hc, bnd_some, v_aft hV hc _ _ (by omega), bnd_some, w32_id (x := ((c / 10 : Nat) : Int)) (by omega) (by omega), max32_s (by omega) (by omega) (by omega) (by omega)]
  rfl
theorem c_extreme (hV : VOK V) (hD : LOK D) (hc : VC h.2 v V) {N : Nat} (hG : GF V D h N) (hN : N ≤ 60) {a b most : Int} (ha : Rg a) (hb : Rg b) (hmost : most = 0 ∨ most = 1) : f2_extreme v a b most h = some (sNext V D a b most N, h) := by
  have fl := fc_le (sSo V D) N
  unfold f2_extreme l2_extreme_6
  refine fr (fun X => X = some (sNext V D a b most N, h)) (fun (z : Int) i => (z, i, h)) (fun i z => ∀ c, c ≤ N → fc (sSo V D) c = i → z = sNext V D a b most c) 0 (fc (sSo V D) N) (-1) (fun c _ hc0 => ?_) (by omega) (by omega) (fun i z _ hi hI rec => ?_) (fun z hI rec => ?_)
  · show _ = acf (sSo V D) (gNx V D a b most) (-1) c
    rw [acf_eq (b := 0) hc0]; rfl
  · right
    obtain ⟨c, c1, c2, c3⟩ := fc_hit hi
    subst c3
    have e := hI c (by omega) rfl
    have nr := sNext_rng (D := D) hV a b most c
    have xr := sNx_rng (D := D) hV a b c
    refine ⟨gNx V D a b most c z, fun c4 h4 h5 => ?_, ?_⟩
    · unfold sNext
      rw [acf_eq (b := c + 1) (by rw [h5, fc_s1 c2]), acf_1 c2, e]
      rfl
    · unfold b2_extreme_6 b2_extreme_54 b2_extreme_58
      dsimp only
      rw [hG.2.1, w32_id (x := (fc (sSo V D) N : Int)) (by omega) (by omega), w32_id (x := (fc (sSo V D) c : Int)) (by omega) (by omega), if_neg (by omega), c_burnNext hV hD hc hG hN c1 c2, bnd_some, w32_id ha.1 ha.2, w32_id hb.1 hb.2]
      rw [← e] at nr
      rw [w32_id (x := z) (by omega) (by omega), w32_id (x := sNx V D a b c) (by omega) (by omega), w32_id (x := most) (by omega) (by omega)]
      unfold gNx
      repeat' split
      all_goals first | omega | rfl
  · unfold b2_extreme_6
    dsimp only
    rw [hG.2.1, if_pos (Int.le_refl _), hI N (Nat.le_refl _) rfl]
/-- how often each was, and the most -/
def gAl (V D : Nat → Int) (a b : Int) (c : Nat) (z : (Nat → Int) × Int) : (Nat → Int) × Int := (fun x => if x = (sNx V D a b c).toNat then z.1 x + 1 else z.1 x, mx z.2 (z.1 (sNx V D a b c).toNat + 1))
def sAl (V D : Nat → Int) (a b : Int) (c : Nat) : (Nat → Int) × Int := acf (sSo V D) (gAl V D a b) (fun _ => 0, 0) c
theorem sAl_rng (V D : Nat → Int) (a b : Int) (c : Nat) : (∀ x, 0 ≤ (sAl V D a b c).1 x ∧ (sAl V D a b c).1 x ≤ c) ∧ 0 ≤ (sAl V D a b c).2 ∧ (sAl V D a b c).2 ≤ c := by
  unfold sAl
  induction c with
  | zero => exact ⟨fun x => ⟨Int.le_refl _, Int.le_refl _⟩, Int.le_refl _, Int.le_refl _⟩
  | succ c ih =>
    cases q : sSo V D c
    · rw [acf_0 q]
      exact ⟨fun x => by have := ih.1 x; omega, by omega⟩
    · rw [acf_1 q]
      generalize acf (sSo V D) (gAl V D a b) (fun _ => 0, 0) c = z at *
      unfold gAl mx
      refine ⟨fun x => ?_, ?_⟩
      · have := ih.1 x
        simp only
        split <;> omega
      · have := ih.1 (sNx V D a b c).toNat
        simp only
        split <;> omega
def kTa (a _k : Nat) : Prop := a = 68
theorem GF.ta {w : AH} {N : Nat} (hG : GF V D h N) (k : Ky kTa h w) : GF V D w N := by
  have e : ∀ a k, a ≠ 68 → w.2 a k = h.2 a k := fun a j ha => k.2 a j (by unfold kTa; omega)
  exact ⟨(e _ _ (by omega)).trans hG.1, (e _ _ (by omega)).trans hG.2.1, fun j h1 h2 => (e _ _ (by omega)).trans (hG.2.2 j h1 h2)⟩
theorem c_alike (hV : VOK V) (hD : LOK D) (hc : VC h.2 v V) (hv : v + 5 < 28) {N : Nat} (hG : GF V D h N) (hN : N ≤ 60) {a b : Int} (ha : Rg a) (hb : Rg b) : ∃ h1, f2_mostAlike v a b h = some ((sAl V D a b N).2, h1) ∧ Ky kTa h h1 := by
  have fl := fc_le (sSo V D) N
  unfold f2_mostAlike
  rw [c_fill 68 82 0 _ (by decide) (by omega), bnd_some]
  have f68 : Ky kTa h (fil h 68 0 82) := ⟨rfl, fun a k hk => fil_e (by unfold kTa at hk; omega)⟩
  unfold l2_mostAlike_14
  refine fr (fun X => ∃ h1, X = some ((sAl V D a b N).2, h1) ∧ Ky kTa h h1) (fun (z : Int × AH) i => (z.1, i, z.2)) (fun i z => Ky kTa h z.2 ∧ ∀ c, c ≤ N → fc (sSo V D) c = i → z.1 = (sAl V D a b c).2 ∧ ∀ x, x < 82 → z.2.2 68 x = (sAl V D a b c).1 x) 0 (fc (sSo V D) N) (0, fil h 68 0 82) ⟨f68, fun c _ hc0 => ?_⟩ (by omega) (by omega) (fun i z _ hi hI rec => ?_) (fun z hI rec => ?_)
  · have e : sAl V D a b c = (fun _ => 0, 0) := by
      unfold sAl
      rw [acf_eq (b := 0) hc0]; rfl
    rw [e]
    exact ⟨rfl, fun x hx => fil_i hx⟩
  · right
    obtain ⟨z, w⟩ := z
    obtain ⟨i1, i2⟩ := hI
    simp only at i1 i2
    obtain ⟨c, c1, c2, c3⟩ := fc_hit hi
    subst c3
    obtain ⟨e1, e2⟩ := i2 c (by omega) rfl
    have ar := sAl_rng V D a b c
    have xr := sNx_rng (D := D) hV a b c
    have arx := ar.1 (sNx V D a b c).toNat
    have e3 := e2 (sNx V D a b c).toNat (by omega)
    have hG2 := hG.ta i1
    have hc2 : VC w.2 v V := i1.vc (fun a k _ _ => by unfold kTa; omega) hc
    refine ⟨(mx z (w.2 68 (sNx V D a b c).toNat + 1), wr w 68 (sNx V D a b c).toNat (w.2 68 (sNx V D a b c).toNat + 1)), ⟨i1.w2 rfl, fun c4 h4 h5 => ?_⟩, ?_⟩
    · have e : sAl V D a b c4 = gAl V D a b c (sAl V D a b c) := by
        unfold sAl
        rw [acf_eq (b := c + 1) (by rw [h5, fc_s1 c2]), acf_1 c2]
      rw [e]
      unfold gAl
      simp only
      refine ⟨by rw [e1, e3], fun x hx => ?_⟩
      by_cases y : x = (sNx V D a b c).toNat
      · rw [if_pos y, y, wr_at, e3]
      · rw [if_neg y, wr_e (by omega)]; exact e2 x hx
    · unfold b2_mostAlike_14
      dsimp only
      rw [hG2.2.1, w32_id (x := (fc (sSo V D) N : Int)) (by omega) (by omega), w32_id (x := (fc (sSo V D) c : Int)) (by omega) (by omega), if_neg (by omega), c_burnNext hV hD hc2 hG2 hN c1 c2, bnd_some, w32_id ha.1 ha.2, w32_id hb.1 hb.2, min32_s (by omega) (by omega) (by omega) (by omega)]
      have em : (if sNx V D a b c < 81 then sNx V D a b c else 81) = sNx V D a b c := by split <;> omega
      rw [em, lt_eq, w32_id (x := sNx V D a b c) (by omega) (by omega), asrt_t (by omega), asrt_t (by omega), lt_eq, asrt_t (by omega), wr_at, e3, e1, max32_s (by omega) (by omega) (by omega) (by omega), lt_eq]
      rfl
  · obtain ⟨z, w⟩ := z
    obtain ⟨i1, i2⟩ := hI
    simp only at i1 i2
    refine ⟨w, ?_, i1⟩
    unfold b2_mostAlike_14
    dsimp only
    rw [(hG.ta i1).2.1, if_pos (Int.le_refl _), (i2 N (Nat.le_refl _) rfl).1]
def gAsk (V D : Nat → Int) (N a b : Nat) (z : Int × Int) : Int × Int := if (sAl V D a b N).2 < z.2 then (10 * (a : Int) + b, (sAl V D a b N).2) else z
def sAsk (V D : Nat → Int) (N : Nat) : Int × Int := itp (gAsk V D N) (V 0).toNat (-1, 99)
def askI (z : Int × Int) : Prop := (-1 ≤ z.1 ∧ z.1 ≤ 77) ∧ (0 ≤ z.2 ∧ z.2 ≤ 99) ∧ (z.1 = -1 → z.2 = 99) ∧ (z.1 ≠ -1 → z.2 ≤ 60)
theorem gAsk_I {N a b : Nat} (hN : N ≤ 60) (ha : a < 8) (hb : b < 8) {z : Int × Int} (hz : askI z) : askI (gAsk V D N a b z) := by
  have ar := (sAl_rng V D a b N).2
  unfold gAsk askI at *
  split
  · simp only; omega
  · exact hz
theorem c_ask (hV : VOK V) (hD : LOK D) (hc : VC h.2 v V) (hv : v + 5 < 28) {N : Nat} (hG : GF V D h N) (hN : N ≤ 60) : ∃ h1, f2_ask v h = some (if fc (sSo V D) N = 0 then -1 else (sAsk V D N).1, h1) ∧ Ky kTa h h1 := by
  have v0 := hV.1
  have fl := fc_le (sSo V D) N
  unfold f2_ask
  rw [lt_eq, hG.2.1, w32_id (x := (fc (sSo V D) N : Int)) (by omega) (by omega)]
  by_cases q : fc (sSo V D) N = 0
  · rw [if_pos (by omega), if_pos q]
    exact ⟨h, rfl, Ky.rf h⟩
  rw [if_neg (by omega), if_neg q]
  unfold l2_ask_17 sAsk itp
  have key := fr (F := fun rec (z : Int × Int × Int × AH) => b2_ask_17 rec v z.1 z.2.1 z.2.2.1 z.2.2.2) (fun X => ∃ h1, X = some ((itf (fun a s => itf (gAsk V D N a) (a + 1) ((V 0).toNat - (a + 1)) s) 0 (V 0).toNat (-1, 99)).1, h1) ∧ Ky kTa h h1) (fun (z : (Int × Int) × AH) i => (z.1.1, (if z.1.1 = -1 then (fc (sSo V D) N : Int) else z.1.2), i, z.2)) (fun i z => Ky kTa h z.2 ∧ askI z.1 ∧ z.1 = itf (fun a s => itf (gAsk V D N a) (a + 1) ((V 0).toNat - (a + 1)) s) 0 i (-1, 99)) 0 (V 0).toNat ((-1, 99), h) ⟨Ky.rf h, by unfold askI; simp, rfl⟩ (by omega) (by omega) (fun a z _ ha hI rec => ?_) (fun z hI rec => ?_)
  · exact key
  · right
    obtain ⟨z, w⟩ := z
    obtain ⟨i1, i2, i3⟩ := hI
    simp only at i1 i2 i3
    have hc2 : VC w.2 v V := i1.vc (fun a k _ _ => by unfold kTa; omega) hc
    unfold b2_ask_17 l2_ask_32
    dsimp only
    rw [hc2.1, w32_id (x := V 0) (by omega) (by omega), w32_id (x := (a : Int)) (by omega) (by omega), if_neg (by omega), lt_eq]
    have k2 := fr (F := fun rec32 (z : Int × Int × Int × AH) => b2_ask_32 rec32 rec v a z.1 z.2.1 z.2.2.1 z.2.2.2) (fun X => ∃ s' : (Int × Int) × AH, (Ky kTa h s'.2 ∧ askI s'.1 ∧ s'.1 = itf (fun a s => itf (gAsk V D N a) (a + 1) ((V 0).toNat - (a + 1)) s) 0 (a + 1) (-1, 99)) ∧ X = rec (s'.1.1, (if s'.1.1 = -1 then (fc (sSo V D) N : Int) else s'.1.2), (a : Int) + 1, s'.2)) (fun (z : (Int × Int) × AH) i => (z.1.1, (if z.1.1 = -1 then (fc (sSo V D) N : Int) else z.1.2), i, z.2)) (fun b y => Ky kTa h y.2 ∧ askI y.1 ∧ y.1 = itf (gAsk V D N a) (a + 1) (b - (a + 1)) z) (a + 1) (V 0).toNat (z, w) ⟨i1, i2, by rw [Nat.sub_self]; rfl⟩ (by omega) (by omega) (fun b y hb1 hb hJ rec2 => ?_) (fun y hJ rec2 => ?_)
    · exact k2
    · right
      obtain ⟨y, u⟩ := y
      obtain ⟨j1, j2, j3⟩ := hJ
      simp only at j1 j2 j3
      have hc3 : VC u.2 v V := j1.vc (fun a k _ _ => by unfold kTa; omega) hc
      obtain ⟨h1, a1, a2⟩ := c_alike hV hD hc3 hv (hG.ta j1) hN (a := (a : Int)) (b := (b : Int)) ⟨by omega, by omega⟩ ⟨by omega, by omega⟩
      have ar := (sAl_rng V D a b N).2
      refine ⟨(gAsk V D N a b y, h1), ⟨j1.tr a2, gAsk_I hN (by omega) (by omega) j2, ?_⟩, ?_⟩
      · show gAsk V D N a b y = _
        rw [show b + 1 - (a + 1) = (b - (a + 1)) + 1 by omega]
        simp only [itf]
        rw [show a + 1 + (b - (a + 1)) = b by omega, ← j3]
      · unfold b2_ask_32 b2_ask_63 b2_ask_75
        dsimp only
        obtain ⟨o1, o2, o3, o4⟩ := j2
        rw [hc3.1, w32_id (x := V 0) (by omega) (by omega), w32_id (x := (b : Int)) (by omega) (by omega), if_neg (by omega), a1, bnd_some, w32_id (x := y.1) (by omega) (by omega), lt_eq, w32_id (x := (sAl V D a b N).2) (by omega) (by omega)]
        unfold gAsk
        by_cases t : y.1 = -1
        · rw [if_pos t, if_pos (by have := o3 t; omega), if_neg (by simp only; omega)]
        · rw [if_neg t, if_neg t, w32_id (x := y.2) (by omega) (by omega)]
          by_cases t2 : (sAl V D a b N).2 < y.2
          · rw [if_neg (by omega), if_pos t2, if_neg (by simp only; omega)]
          · rw [if_pos (by omega), if_neg t2, if_neg t]
    · obtain ⟨y, u⟩ := y
      obtain ⟨j1, j2, j3⟩ := hJ
      simp only at j1 j2 j3
      have hc3 : VC u.2 v V := j1.vc (fun a k _ _ => by unfold kTa; omega) hc
      refine ⟨(y, u), ⟨j1, j2, ?_⟩, ?_⟩
      · show y = _
        rw [j3, i3]
        simp only [itf, Nat.zero_add]
      · unfold b2_ask_32
        dsimp only
        rw [hc3.1, w32_id (x := V 0) (by omega) (by omega), w32_id (x := ((V 0).toNat : Int)) (by omega) (by omega), if_pos (by omega)]
  · obtain ⟨z, w⟩ := z
    obtain ⟨i1, i2, i3⟩ := hI
    simp only at i1 i2 i3
    have hc2 : VC w.2 v V := i1.vc (fun a k _ _ => by unfold kTa; omega) hc
    refine ⟨w, ?_, i1⟩
    unfold b2_ask_17
    dsimp only
    rw [hc2.1, w32_id (x := V 0) (by omega) (by omega), w32_id (x := ((V 0).toNat : Int)) (by omega) (by omega), if_pos (by omega), i3]
end FitsA
