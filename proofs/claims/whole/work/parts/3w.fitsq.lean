/-! logs: the model's part; fits, next -/
theorem al_s (f : Nat → Bool) (n : Nat) : al f (n + 1) = (al f n && f n) := rfl
def gSur (p : Nat → Bool) (c : Nat) (z : Int) : Int := if fc p c = 0 ∨ z = ((c / 10 : Nat) : Int) then ((c / 10 : Nat) : Int) else -2
def sSur (p : Nat → Bool) (c : Nat) : Int := acf p (gSur p) (-1) c
theorem sur_val (p : Nat → Bool) (c : Nat) : (fc p c = 0 ∧ sSur p c = -1) ∨ ∃ f l, p f = true ∧ fc p f = 0 ∧ f ≤ l ∧ l < c ∧ p l = true ∧ fc p l + 1 = fc p c ∧ sSur p c = if f / 10 = l / 10 then ((f / 10 : Nat) : Int) else -2 := by
  induction c with
  | zero => left; exact ⟨rfl, rfl⟩
  | succ c ih =>
    cases q : p c
    · have e : sSur p (c + 1) = sSur p c := acf_0 q
      rw [fc_s0 q, e]
      rcases ih with ih | ⟨f, l, a1, a2, a3, a4, a5⟩
      · exact Or.inl ih
      · exact Or.inr ⟨f, l, a1, a2, a3, by omega, a5⟩
    · have e : sSur p (c + 1) = gSur p c (sSur p c) := acf_1 q
      right
      rw [fc_s1 q, e]
      unfold gSur
      rcases ih with ih | ⟨f, l, a1, a2, a3, a4, a5, a6, a7⟩
      · exact ⟨c, c, q, ih.1, Nat.le_refl _, by omega, q, rfl, by rw [if_pos (Or.inl ih.1), if_pos rfl]⟩
      · refine ⟨f, c, a1, a2, by omega, by omega, q, rfl, ?_⟩
        rw [a7]
        by_cases z : f / 10 = l / 10
        · rw [if_pos z]
          by_cases y : f / 10 = c / 10
          · rw [if_pos (by omega), if_pos y, y]
          · rw [if_neg (by omega), if_neg y]
        · rw [if_neg z, if_neg (by omega), if_neg (by omega)]
def sFit (V D : Nat → Int) (N : Nat) (x : Int) : Int := if x = 0 then (fc (sSo V D) N : Int) else if x = 1 then (if sSur (sSo V D) N < 0 then -1 else sSur (sSo V D) N) else if x = 2 then (if fc (sSo V D) N = 0 then -1 else (sAsk V D N).1) else if x < 10 then -2 else fnd (sSo V D) (x - 10) N
section FitsQ
variable {V D : Nat → Int} {h : AH} {v r : Nat}
theorem c_sure {N : Nat} (hG : GF V D h N) (hN : N ≤ 60) : f2_sure h = some (if sSur (sSo V D) N < 0 then -1 else sSur (sSo V D) N, h) := by
  have fl := fc_le (sSo V D) N
  unfold f2_sure
  rw [hG.2.1, w32_id (x := (fc (sSo V D) N : Int)) (by omega) (by omega)]
  rcases sur_val (sSo V D) N with ⟨z1, z2⟩ | ⟨f, l, a1, a2, a3, a4, a5, a6, a7⟩
  · rw [if_pos (by omega), z2, if_pos (by omega)]
  · have e1 := hG.2.2 f (by omega) a1
    have e2 := hG.2.2 l a4 a5
    rw [a2] at e1
    rw [if_neg (by omega), asrt_t (by decide), w32_id (x := (fc (sSo V D) N : Int) - 1) (by omega) (by omega), asrt_t (by omega), asrt_t (by decide), show (w32 0).toNat = 0 from rfl, e1, show ((fc (sSo V D) N : Int) - 1).toNat = fc (sSo V D) l by omega, e2, dv32_10 (by omega) (by omega), dv32_10 (by omega) (by omega), w32_id (x := ((f : Int) / 10)) (by omega) (by omega), w32_id (x := ((l : Int) / 10)) (by omega) (by omega), a7]
    by_cases z : f / 10 = l / 10
    · rw [if_pos (by omega), if_pos z, if_neg (by omega)]; rfl
    · rw [if_neg (by omega), if_neg z, if_pos (by omega)]
theorem c_fitAns (hV : VOK V) (hD : LOK D) (hc : VC h.2 v V) (hv : v + 5 < 28) {N : Nat} (hG : GF V D h N) (hN : N ≤ 60) {x : Int} (hx : Rg x) : ∃ h1, f2_answer v x h = some (sFit V D N x, h1) ∧ Ky kTa h h1 := by
  have fl := fc_le (sSo V D) N
  obtain ⟨h1, a1, a2⟩ := c_ask hV hD hc hv hG hN
  unfold f2_answer sFit
  rw [w32_id hx.1 hx.2, c_sure hG hN, bnd_some, a1, bnd_some]
  by_cases d0 : x = 0
  · rw [if_pos d0, if_pos d0, hG.2.1]; exact ⟨h, rfl, Ky.rf h⟩
  rw [if_neg d0, if_neg d0]
  by_cases d1 : x = 1
  · rw [if_pos d1, if_pos d1]; exact ⟨h, rfl, Ky.rf h⟩
  rw [if_neg d1, if_neg d1]
  by_cases d2 : x = 2
  · rw [if_pos d2, if_pos d2]; exact ⟨h1, rfl, a2⟩
  rw [if_neg d2, if_neg d2]
  refine ⟨h, ?_, Ky.rf h⟩
  by_cases d3 : x < 10
  · rw [if_pos d3, if_pos d3]
  rw [if_neg d3, if_neg d3, hG.2.1, w32_id (x := (fc (sSo V D) N : Int)) (by omega) (by omega), w32_id (x := x - 10) (by omega) (by have := hx.2; omega)]
  by_cases d4 : (fc (sSo V D) N : Int) ≤ x - 10
  · rw [if_pos d4, fnd_no (by omega)]
  · obtain ⟨j, j1, j2, j3⟩ := fc_hit (p := sSo V D) (n := N) (i := (x - 10).toNat) (by omega)
    rw [if_neg d4, asrt_t (by omega), fnd_hit j1 j2 (by omega), ← j3, hG.2.2 j j1 j2]
theorem lm_at {c : Nat → Nat → Int} (hl : LM c D) (j : Nat) (hj : j < 25) {e : Int} (he : ∀ o : Int, c 69 41 = o → e = o + j) : (0 ≤ w32 e ∧ w32 e < 4824) ∧ c 70 (w32 e).toNat = D j := by
  obtain ⟨o, m0, m1, m5⟩ := hl
  have e1 : e = ((o + j : Nat) : Int) := by rw [he _ m1]; omega
  rw [e1, w32_id (by omega) (by omega)]
  refine ⟨by omega, ?_⟩
  rw [Int.toNat_natCast]
  exact m5 j hj
theorem lm_0 {c : Nat → Nat → Int} (hl : LM c D) : (0 ≤ w32 (c 69 41) ∧ w32 (c 69 41) < 4824) ∧ c 70 (w32 (c 69 41)).toNat = D 0 := lm_at hl 0 (by omega) (fun o ho => by rw [ho]; omega)
theorem lm_1 {c : Nat → Nat → Int} (hl : LM c D) {i : Nat} (hi : i < 8) : (0 ≤ w32 (c 69 41 + 1 + 3 * (i : Int)) ∧ w32 (c 69 41 + 1 + 3 * (i : Int)) < 4824) ∧ c 70 (w32 (c 69 41 + 1 + 3 * (i : Int))).toNat = D (1 + 3 * i) := lm_at hl (1 + 3 * i) (by omega) (fun o ho => by rw [ho]; omega)
theorem lm_2 {c : Nat → Nat → Int} (hl : LM c D) {i : Nat} (hi : i < 8) : (0 ≤ w32 (c 69 41 + 1 + 3 * (i : Int) + 1) ∧ w32 (c 69 41 + 1 + 3 * (i : Int) + 1) < 4824) ∧ c 70 (w32 (c 69 41 + 1 + 3 * (i : Int) + 1)).toNat = D (2 + 3 * i) := lm_at hl (2 + 3 * i) (by omega) (fun o ho => by rw [ho]; omega)
theorem lm_3 {c : Nat → Nat → Int} (hl : LM c D) {i : Nat} (hi : i < 8) : (0 ≤ w32 (c 69 41 + 1 + 3 * (i : Int) + 2) ∧ w32 (c 69 41 + 1 + 3 * (i : Int) + 2) < 4824) ∧ c 70 (w32 (c 69 41 + 1 + 3 * (i : Int) + 2)).toNat = D (3 + 3 * i) := lm_at hl (3 + 3 * i) (by omega) (fun o ho => by rw [ho]; omega)
theorem lm_2b {c : Nat → Nat → Int} (hl : LM c D) {i : Nat} (hi : i < 8) : (0 ≤ w32 (c 69 41 + 2 + 3 * (i : Int)) ∧ w32 (c 69 41 + 2 + 3 * (i : Int)) < 4824) ∧ c 70 (w32 (c 69 41 + 2 + 3 * (i : Int))).toNat = D (2 + 3 * i) := lm_at hl (2 + 3 * i) (by omega) (fun o ho => by rw [ho]; omega)
theorem m_areThere (hV : VOK V) (hD : LOK D) (hm : VM h.2 V) (hl : LM h.2 D) : f11_areThere h = some (if sThere V D then 1 else 0, h) := by
  have d0 := hD.1
  have v0 := hV.1
  unfold f11_areThere l11_areThere_4 sThere
  refine loop2 (fun i => if al (fun q => decide (D (1 + 3 * q) < V 0 ∧ D (2 + 3 * q) < V 0)) i then 1 else 0) (D 0).toNat h (fun i hi rec => ?_) (fun rec => ?_) (by omega)
  · have l := hD.2 i (by omega)
    unfold b11_areThere_4 b11_areThere_69 b11_areThere_70
    dsimp only
    rw [asrt_t (lm_0 hl).1, (lm_0 hl).2, w32_id (x := D 0) (by omega) (by omega), w32_id (x := (i : Int)) (by omega) (by omega), if_neg (by omega), asrt_t (lm_1 hl (by omega)).1, (lm_1 hl (by omega)).2, asrt_t (lm_2b hl (by omega)).1, (lm_2b hl (by omega)).2, vm_P hm, w32_id (x := V 0) (by omega) (by omega), w32_id (x := D (1 + 3 * i)) (by omega) (by omega), w32_id (x := D (2 + 3 * i)) (by omega) (by omega), ite_b]
    rw [al_s]
    by_cases q : al (fun q => decide (D (1 + 3 * q) < V 0 ∧ D (2 + 3 * q) < V 0)) i = true
    · rw [q, if_neg (by decide)]
      by_cases z : D (1 + 3 * i) < V 0 ∧ D (2 + 3 * i) < V 0
      · rw [if_neg (by omega), if_neg (by omega), show decide (D (1 + 3 * i) < V 0 ∧ D (2 + 3 * i) < V 0) = true from decide_eq_true z]; rfl
      · rw [show decide (D (1 + 3 * i) < V 0 ∧ D (2 + 3 * i) < V 0) = false from decide_eq_false z]
        by_cases y : V 0 ≤ D (1 + 3 * i)
        · rw [if_pos y]; rfl
        · rw [if_neg y, if_pos (by omega)]; rfl
    · have q := Bool.eq_false_iff.mpr q
      rw [q, if_pos (by decide)]; rfl
  · unfold b11_areThere_4
    dsimp only
    rw [asrt_t (lm_0 hl).1, (lm_0 hl).2, w32_id (x := D 0) (by omega) (by omega), w32_id (x := ((D 0).toNat : Int)) (by omega) (by omega), if_pos (by omega), ite_b, asrt_t (by split <;> omega)]
theorem m_isSo (hV : VOK V) (hD : LOK D) (hm : VM h.2 V) (hl : LM h.2 D) (hT : sThere V D = true) {c : Nat} (hc : (c : Int) < 10 * V 1) : f11_isSo c h = some (if sSo V D c then 1 else 0, h) := by
  have d0 := hD.1
  have v0 := hV.1
  have v1 := hV.2.1
  unfold f11_isSo l11_isSo_4 sSo
  refine loop2 (fun i => if al (fun i => decide (sBeh V (D (1 + 3 * i)) (D (2 + 3 * i)) ((c / 10 : Nat) : Int) (c % 10 + i) = D (3 + 3 * i))) i then 1 else 0) (D 0).toNat h (fun i hi rec => ?_) (fun rec => ?_) (by omega)
  · have l := hD.2 i (by omega)
    have t : D (1 + 3 * i) < V 0 ∧ D (2 + 3 * i) < V 0 := by
      have := al_iff.mp hT i hi
      simpa using this
    have b := sBeh_rng hV (D (1 + 3 * i)) (D (2 + 3 * i)) ((c / 10 : Nat) : Int) (c % 10 + i)
    have mb := m_behind hV hm (D (1 + 3 * i)) (D (2 + 3 * i)) ((c / 10 : Nat) : Int) (by omega) (by omega) (by omega) (by omega) (n := c % 10 + i) (by omega)
    unfold b11_isSo_4 b11_isSo_79 b11_isSo_80
    dsimp only
    rw [asrt_t (lm_0 hl).1, (lm_0 hl).2, w32_id (x := D 0) (by omega) (by omega), w32_id (x := (i : Int)) (by omega) (by omega), if_neg (by omega), lt_eq, asrt_t (lm_1 hl (by omega)).1, (lm_1 hl (by omega)).2, asrt_t (lm_2 hl (by omega)).1, (lm_2 hl (by omega)).2, dv32_10 (by omega) (by omega), rm32_10 (by omega) (by omega), show (c : Int) / 10 = ((c / 10 : Nat) : Int) by omega, show (c : Int) % 10 + (i : Int) = ((c % 10 + i : Nat) : Int) by omega, mb, bnd_some, asrt_t (lm_3 hl (by omega)).1, (lm_3 hl (by omega)).2, w32_id (x := sBeh V (D (1 + 3 * i)) (D (2 + 3 * i)) ((c / 10 : Nat) : Int) (c % 10 + i)) (by omega) (by omega), w32_id (x := D (3 + 3 * i)) (by omega) (by omega), ite_b]
    rw [al_s]
    cases q : al (fun i => decide (sBeh V (D (1 + 3 * i)) (D (2 + 3 * i)) ((c / 10 : Nat) : Int) (c % 10 + i) = D (3 + 3 * i))) i
    · rw [if_pos (by decide)]; rfl
    · rw [if_neg (by decide)]
      by_cases z : sBeh V (D (1 + 3 * i)) (D (2 + 3 * i)) ((c / 10 : Nat) : Int) (c % 10 + i) = D (3 + 3 * i)
      · rw [if_neg (fun w => w z), decide_eq_true z]; rfl
      · rw [if_pos z, decide_eq_false z]; rfl
  · unfold b11_isSo_4
    dsimp only
    rw [asrt_t (lm_0 hl).1, (lm_0 hl).2, w32_id (x := D 0) (by omega) (by omega), w32_id (x := ((D 0).toNat : Int)) (by omega) (by omega), if_pos (by omega), ite_b, asrt_t (by split <;> omega)]
theorem m_nx (hV : VOK V) (hD : LOK D) (hm : VM h.2 V) {a b : Int} (ha : 0 ≤ a ∧ a < V 0) (hb : 0 ≤ b ∧ b < V 0) (hab : a ≠ b) {c : Nat} (hc : (c : Int) < 10 * V 1) : f11_burnsBehind a b (dv32 c 10) (rm32 c 10 + D 0) h = some (sNx V D a b c, h) := by
  have d0 := hD.1
  have v1 := hV.2.1
  rw [dv32_10 (by omega) (by omega), rm32_10 (by omega) (by omega), show (c : Int) / 10 = ((c / 10 : Nat) : Int) by omega, show (c : Int) % 10 + D 0 = ((c % 10 + (D 0).toNat : Nat) : Int) by omega, m_behind hV hm a b _ ha hb (by omega) hab (by omega)]
  rfl
theorem m_next (hV : VOK V) (hD : LOK D) (hm : VM h.2 V) (hl : LM h.2 D) (hT : sThere V D = true) {a b most : Int} (ha : 0 ≤ a ∧ a < V 0) (hb : 0 ≤ b ∧ b < V 0) (hab : a ≠ b) (hmost : most = 0 ∨ most = 1) : l11_next_41 a b most (-1) 0 h = some (sNext V D a b most (10 * (V 1).toNat), h) := by
  have v1 := hV.2.1
  unfold l11_next_41
  refine loop2 (fun c => sNext V D a b most c) (10 * (V 1).toNat) h (fun c hc rec => ?_) (fun rec => ?_) (by omega)
  · have nr := sNext_rng (D := D) hV a b most c
    have xr := sNx_rng (D := D) hV a b c
    unfold b11_next_41 b11_next_122 b11_next_127 b11_next_129 b11_next_131
    dsimp only
    rw [vm_S hm, w32_id (x := (10 * V 1)) (by omega) (by omega), w32_id (x := (c : Int)) (by omega) (by omega), if_neg (by omega), m_isSo hV hD hm hl hT (by omega), bnd_some, asrt_t (lm_0 hl).1, (lm_0 hl).2, m_nx hV hD hm ha hb hab (by omega), bnd_some]
    cases q : sSo V D c
    · rw [show sNext V D a b most (c + 1) = sNext V D a b most c from acf_0 q, if_neg (by decide)]
    · rw [show sNext V D a b most (c + 1) = gNx V D a b most c (sNext V D a b most c) from acf_1 q, if_pos (by decide), w32_id (x := sNext V D a b most c) (by omega) (by omega), w32_id (x := sNx V D a b c) (by omega) (by omega), w32_id (x := most) (by omega) (by omega)]
      unfold gNx
      repeat' split
      all_goals first | omega | rfl
  · unfold b11_next_41
    dsimp only
    rw [vm_S hm, w32_id (x := (10 * V 1)) (by omega) (by omega), w32_id (x := ((10 * (V 1).toNat : Nat) : Int)) (by omega) (by omega), if_pos (by omega)]
end FitsQ
theorem q_next {x1 x2 x3 x4 x5 : Int} (hx1 : Rg x1) (hx2 : Rg x2) (hx3 : Rg x3) (hx4 : Rg x4) (hx5 : x5 = 0 ∨ x5 = 1) : Agr (f10_next x1 x2 x3 x4 x5) (f11_next x1 x2 x3 x4 x5) := by
  refine agr_vv hx1 (fun h hI e => ⟨-1, ?_, fun e2 => ?_⟩) (fun h v V hI hV hc h7 h17 e => ?_)
  · unfold f10_next
    rw [e, bnd_some, c_logAt hI, bnd_some, if_pos (by omega)]
  · unfold f11_next
    rw [e2, bnd_some, ite_w0]
  · have v1 := hV.2.1
    rcases log_cases hI hx2 with ⟨d1, d2⟩ | ⟨r, D, d1, d2, d3, d4, d5⟩
    · refine ⟨-1, h, ?_, PK.rf h, fun hs kh e1 hm _ => ⟨hs, ?_, PK.rf hs⟩⟩
      · unfold f10_next
        rw [e, bnd_some, d1, bnd_some, if_neg (by omega), if_pos (by omega)]
      · unfold f11_next
        rw [e1, bnd_some, ite_w1, d2 hs kh, bnd_some, ite_w0]
    · obtain ⟨h1, a1, a2, a3⟩ := c_gather hV d3 hc (by omega) d4 d2
      by_cases hC : (x3 ≠ x4 ∧ (0 ≤ x3 ∧ x3 < V 0) ∧ (0 ≤ x4 ∧ x4 < V 0))
      · refine ⟨if sThere V D then sNext V D x3 x4 x5 (10 * (V 1).toNat) else -1, h1, ?_, a2.pk (fun a k z => by unfold kGu at z; omega), fun hs kh e1 hm _ => ?_⟩
        · unfold f10_next
          rw [e, bnd_some, d1, bnd_some, if_neg (by omega), if_neg (by omega), Int.toNat_natCast, Int.toNat_natCast, v_hasC hV hc, bnd_some, w32_id hx3.1 hx3.2, w32_id hx4.1 hx4.2, if_pos (c := x3 ≠ x4 ∧ _) hC, ite_w1, a1, bnd_some]
          cases q : sThere V D
          · rw [if_neg (by decide)]; rfl
          · rw [if_pos (by decide), c_extreme hV d3 (a2.vc (fun a k _ _ => by unfold kGu; omega) hc) (a3 q) (by omega) hx3 hx4 hx5, bnd_some]; rfl
        · obtain ⟨hs2, g1, g2, g3, g4⟩ := d5 hs ((a2.pk (fun a k z => by unfold kGu at z; omega)).tr kh)
          have hm2 : VM hs2.2 V := VM_same (fun k _ _ => g3 _ _ (by omega)) (fun k => g3 _ _ (by omega)) hm
          refine ⟨hs2, ?_, g4⟩
          unfold f11_next
          rw [e1, bnd_some, ite_w1, g1, bnd_some, ite_w1, m_areThere hV d3 hm2 g2, bnd_some, m_two hV hm2, bnd_some, w32_id hx3.1 hx3.2, w32_id hx4.1 hx4.2, if_pos (c := x3 ≠ x4 ∧ _) hC]
          cases q : sThere V D
          · rw [if_pos (by decide)]; rfl
          · rw [if_neg (by decide), if_pos (by decide), m_next hV d3 hm2 g2 q hC.2.1 hC.2.2 hC.1 hx5]; rfl
      · refine ⟨-1, h, ?_, PK.rf h, fun hs kh e1 hm _ => ?_⟩
        · unfold f10_next
          rw [e, bnd_some, d1, bnd_some, if_neg (by omega), if_neg (by omega), Int.toNat_natCast, Int.toNat_natCast, v_hasC hV hc, bnd_some, w32_id hx3.1 hx3.2, w32_id hx4.1 hx4.2, if_neg (c := x3 ≠ x4 ∧ _) hC, ite_w0]
        · obtain ⟨hs2, g1, g2, g3, g4⟩ := d5 hs kh
          have hm2 : VM hs2.2 V := VM_same (fun k _ _ => g3 _ _ (by omega)) (fun k => g3 _ _ (by omega)) hm
          refine ⟨hs2, ?_, g4⟩
          unfold f11_next
          rw [e1, bnd_some, ite_w1, g1, bnd_some, ite_w1, m_areThere hV d3 hm2 g2, bnd_some, m_two hV hm2, bnd_some, w32_id hx3.1 hx3.2, w32_id hx4.1 hx4.2, if_neg (c := x3 ≠ x4 ∧ _) hC]
          cases q : sThere V D
          · rw [if_pos (by decide)]
          · rw [if_neg (by decide), if_neg (by decide)]
