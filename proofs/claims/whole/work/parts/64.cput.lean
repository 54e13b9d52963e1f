/-! the class's put -/
def kPt (s k : Nat) (a i : Nat) : Prop := (s = 0 ∧ 7 + 10 * k ≤ a ∧ a ≤ 12 + 10 * k) ∨ (s = 1 ∧ ((a = 13 + 10 * k ∧ i = 3) ∨ a = 14 + 10 * k)) ∨ (s = 2 ∧ ((a = 15 + 10 * k ∧ i = 3) ∨ a = 16 + 10 * k)) ∨ (a = 3 ∧ i = s)
theorem c_put {z : AH} {s k c : Nat} (hs : s < 3) (hk : k < 2) (hc : z.2 3 s = c) (c2 : c ≤ 2) (h35 : z.2 35 0 = 5 ∧ z.2 35 1 = 40) (h37 : z.2 37 0 = 3 ∧ z.2 37 1 = 8) (h7 : (z.2 (13 + 10 * k) 0 = 5 ∧ z.2 (13 + 10 * k) 1 = 40) ∧ z.2 (15 + 10 * k) 0 = 3 ∧ z.2 (15 + 10 * k) 1 = 8) :
    ∃ z2 : AH, f8_put 1 s k z = some (0, z2) ∧ Ky (kPt s k) z z2 ∧ z2.2 3 s = (if (c : Int) < (k : Int) + 1 then (k : Int) + 1 else c) ∧
      (s = 0 → ∀ V, VOK V → VC z.2 29 V → VC z2.2 (7 + 10 * k) V) ∧ (s = 1 → ∀ D, DOK D → RC z.2 35 5 D → RC z2.2 (13 + 10 * k) 5 D) ∧ (s = 2 → ∀ D, LOK D → RC z.2 37 3 D → RC z2.2 (15 + 10 * k) 3 D) := by
  have fin : ∀ u : AH, u.2 3 s = c → b8_put_73 1 s k u = some (0, wr u 3 s (if (c : Int) < (k : Int) + 1 then (k : Int) + 1 else c)) := fun u hu => by
    unfold b8_put_73
    rw [w32_id (x := (s : Int)) (by omega) (by omega), asrt_t (by omega), asrt_t (by omega), lt_eq, Int.toNat_natCast, show 1 + 2 = 3 from rfl, hu, max32_s (by omega) (by omega) (by omega) (by omega)]
  unfold f8_put
  rw [w32_id (x := (s : Int)) (by omega) (by omega), w32_id (x := (k : Int)) (by omega) (by omega), if_neg (by omega), if_neg (by omega), if_neg (by omega), if_pos (by omega), Int.toNat_natCast]
  rcases (show s = 0 ∨ s = 1 ∨ s = 2 by omega) with rfl | rfl | rfl
  · obtain ⟨u, a1, a2, a3, a4, a5, a6⟩ := c_copyV (7 + 10 * k) 29 (by omega) z
    have ku : Ky (kPt 0 k) z u := ⟨a2.1, fun a i q => a2.2 a i (by unfold kPt at q; omega)⟩
    rw [if_neg (by decide), asrt_t (by omega), show 1 + 3 + 3 + 10 * k = 7 + 10 * k by omega, a1, bnd_some, fin u (by rw [a2.2 3 0 (by omega)]; exact hc)]
    refine ⟨_, rfl, ku.w2 (by unfold kPt; omega), wr_at, fun _ V hV hC => ?_, fun q => by omega, fun q => by omega⟩
    refine VC_mk hV.z hC (fun i hi => ?_) (fun i hi => ⟨?_, ?_⟩) (fun i hi => ⟨?_, ?_⟩) (fun i hi => ?_)
    · rw [wr_e (by omega)]; exact a3 i hi
    · rw [wr_e (by omega)]; exact (a4 i hi).1
    · rw [wr_e (by omega)]; exact (a4 i hi).2
    · rw [wr_e (by omega)]; exact (a5 i hi).1
    · rw [wr_e (by omega)]; exact (a5 i hi).2
    · rw [wr_e (by omega)]; exact a6 i hi
  · have sp : (shp (13 + 10 * k + 1)).2 = 5 * 40 := by rcases (show k = 0 ∨ k = 1 by omega) with rfl | rfl <;> decide
    obtain ⟨u, a1, a2, a3, a4⟩ := c_copyR (h := z) (x0 := 13 + 10 * k) (x1 := 35) (w := 5) (m := 40) (by omega) (by omega) h35 h7.1 (by decide) sp (by omega)
    have ku : Ky (kPt 1 k) z u := a2.mono (fun a i q => by unfold kPt; omega)
    rw [if_pos (by decide), if_neg (by decide), asrt_t (by omega), show 1 + 4 + 8 + 10 * k = 13 + 10 * k by omega, a1, bnd_some, fin u (by rw [a2.2 3 1 (by omega)]; exact hc)]
    refine ⟨_, rfl, ku.w2 (by unfold kPt; omega), wr_at, fun q => by omega, fun _ D hD hC => ⟨?_, fun i hi => ?_⟩, fun q => by omega⟩
    · rw [wr_e (by omega), a3]; exact hC.1
    · have d0 := hD.1
      have hi2 : (i : Int) < 5 * D 0 := hi
      rw [wr_e (by omega), a4 i (by omega)]; exact hC.2 i hi
  · have sp : (shp (15 + 10 * k + 1)).2 = 3 * 8 := by rcases (show k = 0 ∨ k = 1 by omega) with rfl | rfl <;> decide
    obtain ⟨u, a1, a2, a3, a4⟩ := c_copyR (h := z) (x0 := 15 + 10 * k) (x1 := 37) (w := 3) (m := 8) (by omega) (by omega) h37 h7.2 (by decide) sp (by omega)
    have ku : Ky (kPt 2 k) z u := a2.mono (fun a i q => by unfold kPt; omega)
    rw [if_pos (by decide), if_pos (by decide), asrt_t (by omega), show 1 + 5 + 9 + 10 * k = 15 + 10 * k by omega, a1, bnd_some, fin u (by rw [a2.2 3 2 (by omega)]; exact hc)]
    refine ⟨_, rfl, ku.w2 (by unfold kPt; omega), wr_at, fun q => by omega, fun q => by omega, fun _ D hD hC => ⟨?_, fun i hi => ?_⟩⟩
    · rw [wr_e (by omega), a3]; exact hC.1
    · have d0 := hD.1
      have hi2 : (i : Int) < 3 * D 0 := hi
      rw [wr_e (by omega), a4 i (by omega)]; exact hC.2 i hi
/-- where a text is put -/
def plT (c : Int) (x2 : Int) : Int := if x2 = -1 then (if c < 2 then c else -1) else if 0 ≤ x2 ∧ x2 < c then x2 else -1
theorem c_placeFor {h : AH} {s c : Nat} {x2 : Int} (hs : s < 3) (hx : Rg x2) (hc : h.2 3 s = c) (c2 : c ≤ 2) : f8_placeFor 1 s x2 h = some (plT c x2, h) := by
  unfold f8_placeFor f8_isThere plT
  rw [w32_id (x := (s : Int)) (by omega) (by omega), if_neg (by omega), if_pos (by omega), w32_id hx.1 hx.2, asrt_t (by omega), asrt_t (by omega), asrt_t (by omega), Int.toNat_natCast, show 1 + 2 = 3 from rfl, hc, w32_id (x := (c : Int)) (by omega) (by omega)]
  by_cases y : x2 = -1
  · rw [if_neg (fun q => q y), if_pos y]
    by_cases q : c < 2
    · rw [if_neg (by omega), if_pos (by omega)]
    · rw [if_pos (by omega), if_neg (by omega)]
  · rw [if_pos y, if_neg y]
    by_cases q0 : x2 < 0
    · rw [if_pos q0, bnd_some, ite_w0, if_neg (by omega)]
    · rw [if_neg q0]
      by_cases q1 : (c : Int) ≤ x2
      · rw [if_pos q1, bnd_some, ite_w0, if_neg (by omega)]
      · rw [if_neg q1, if_neg (by omega), bnd_some, ite_w1, if_pos (by omega)]
theorem c_placeNo {h : AH} {x1 x2 : Int} (hx : Rg x1) (hs : ¬ (0 ≤ x1 ∧ x1 < 3)) : f8_placeFor 1 x1 x2 h = some (-1, h) := by
  unfold f8_placeFor
  rw [w32_id hx.1 hx.2]
  by_cases y : x1 < 0
  · rw [if_pos y]
  · rw [if_neg y, if_neg (by omega)]
/-- the model's heap at the start of a text -/
def wT (g : AH) : AH := wr (wr (wr (wr g 69 2 (g.2 70 4)) 70 4 0) 70 5 0) 70 6 (-1)
theorem m_head {g : AH} {x1 x2 : Int} (hx : Rg x1) : (¬ (0 ≤ x1 ∧ x1 < 3) → f11_text x1 x2 g = some (-2, wT g)) ∧ ∀ s c : Nat, s < 3 → x1 = s → Rg x2 → g.2 70 s = c → c ≤ 2 → f11_text x1 x2 g = if plT c x2 = -1 then some (-2, wT g) else b11_text_71 x1 x2 (wT g) := by
  have e : ∀ (K : AH → Option (Int × AH)), (asrt (0 ≤ w32 4 ∧ w32 4 < 4824) <| lt (wr g 69 2 (g.2 70 (w32 4).toNat)) fun h57 => asrt (0 ≤ w32 4 ∧ w32 4 < 4824) <| lt (wr h57 70 (w32 4).toNat 0) fun h60 => asrt (0 ≤ w32 5 ∧ w32 5 < 4824) <| lt (wr h60 70 (w32 5).toNat 0) fun h63 => asrt (0 ≤ w32 6 ∧ w32 6 < 4824) <| lt (wr h63 70 (w32 6).toNat (-1)) K) = K (wT g) := fun K => by
    rw [asrt_t (by decide), lt_eq, asrt_t (by decide), lt_eq, asrt_t (by decide), lt_eq, asrt_t (by decide), lt_eq]
    rfl
  unfold f11_text
  rw [e, m_isIn, bnd_some, w32_id hx.1 hx.2, show w32 0 = 0 from rfl, show w32 2 = 2 from rfl]
  constructor
  · intro q
    rw [if_neg (c := 0 ≤ x1 ∧ x1 ≤ 2) (by omega), ite_w0]
  · intro s c hs e1 hx2 hc c2
    subst e1
    have hw : (wT g).2 70 s = c := by unfold wT; rw [wr_e (by omega), wr_e (by omega), wr_e (by omega), wr_e (by omega)]; exact hc
    rw [if_pos (c := 0 ≤ (s : Int) ∧ (s : Int) ≤ 2) (by omega), ite_w1, w32_id hx2.1 hx2.2, asrt_t (by omega), Int.toNat_natCast, hw, w32_id (x := (c : Int)) (by omega) (by omega), m_isOf (h := wT g) (n := (c : Int)) rfl hs hw (by omega), bnd_some, w32_id hx2.1 hx2.2]
    unfold plT
    by_cases y : x2 = -1
    · rw [if_neg (fun q => q y), if_pos y]
      by_cases q : (c : Int) < 2
      · rw [if_pos q, if_pos q, if_neg (by omega)]
      · rw [if_neg q, if_neg q, if_pos rfl]
    · rw [if_pos y, if_neg y]
      by_cases q : 0 ≤ x2 ∧ x2 < (c : Int)
      · rw [if_pos q, if_pos q, ite_nw1, if_neg y]
      · rw [if_neg q, if_neg q, ite_nw0, if_pos rfl]
