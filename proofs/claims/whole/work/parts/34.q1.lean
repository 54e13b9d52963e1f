/-! the plain questions -/
def Rg (x : Int) : Prop := -2147483648 ≤ x ∧ x < 2147483648
def Agr (A B : AH → Option (Int × AH)) : Prop := ∀ h : AH, Inv h → ∃ (r : Int) (h1 h2 : AH), A h = some (r, h1) ∧ B h1 = some (r, h2) ∧ Inv h2
theorem agr_vv {A B : AH → Option (Int × AH)} {x : Int} (hx : Rg x)
  (no : ∀ h : AH, Inv h → f8_villageAt 1 x h = some (-1, h) → ∃ r, A h = some (r, h) ∧ (f11_isVillage x h = some (0, h) → B h = some (r, h)))
  (yes : ∀ (h : AH) (v : Nat) (V : Nat → Int), Inv h → VOK V → VC h.2 v V → 7 ≤ v → v ≤ 17 → f8_villageAt 1 x h = some ((v : Int), h) → ∃ (r : Int) (h1 : AH), A h = some (r, h1) ∧ PK h h1 ∧ ∀ hs : AH, PK h1 hs → f11_isVillage x h1 = some (1, hs) → VM hs.2 V → (∀ a, a ≠ 69 → hs.2 a = h1.2 a) → ∃ h2 : AH, B h1 = some (r, h2) ∧ PK hs h2) : Agr A B := by
  intro h hI
  have e1 := c_villageAt hI x
  rw [w32_id (x := x) hx.1 hx.2] at e1
  have e2 := fun h1 (k : PK h h1) => m_isV (hI.keep k) x hx
  obtain ⟨a1, -, a3⟩ := hI.vil
  by_cases hC : 0 ≤ x ∧ x < h.2 70 0
  · rw [if_pos hC] at e1
    have hk := a3 x.toNat (by omega)
    obtain ⟨r, h1, b1, b2, b3⟩ := yes h _ _ hI hk.1 hk.2 (by omega) (by omega) e1
    have e3 := e2 h1 b2
    have e4 : h1.2 70 = h.2 70 := b2.2.1 70 (by omega)
    rw [e4, if_pos hC] at e3
    have e5 := setV_VM (h := h1) (k := x.toNat) (by omega)
    have e6 : rowV h1.2 (610 + 72 * x.toNat) = rowV h.2 (610 + 72 * x.toNat) := by unfold rowV; rw [e4]
    rw [e6] at e5
    obtain ⟨h2, c1, c2⟩ := b3 (setV h1 x.toNat) setV_PK e3 e5 (fun a ha => setV_ne ha)
    exact ⟨r, h1, h2, b1, c1, hI.keep (b2.tr (setV_PK.tr c2))⟩
  · rw [if_neg hC] at e1
    obtain ⟨r, b1, b2⟩ := no h hI e1
    have e3 := e2 h (PK.rf h)
    rw [if_neg hC] at e3
    exact ⟨r, h, h, b1, b2 e3, hI⟩
theorem agr_v {A B : AH → Option (Int × AH)} {x : Int} (hx : Rg x)
  (no : ∀ h : AH, f8_villageAt 1 x h = some (-1, h) → ∃ r, A h = some (r, h) ∧ (f11_isVillage x h = some (0, h) → B h = some (r, h)))
  (yes : ∀ (h : AH) (v : Nat) (V : Nat → Int), VOK V → VC h.2 v V → 7 ≤ v → v ≤ 17 → f8_villageAt 1 x h = some ((v : Int), h) → ∃ (r : Int) (h1 : AH), A h = some (r, h1) ∧ PK h h1 ∧ ∀ hs : AH, f11_isVillage x h1 = some (1, hs) → VM hs.2 V → ∃ h2 : AH, B h1 = some (r, h2) ∧ PK hs h2) : Agr A B :=
  agr_vv hx (fun h _ e => no h e) (fun h v V _ hV hc h7 h17 e => by
    obtain ⟨r, h1, b1, b2, b3⟩ := yes h v V hV hc h7 h17 e
    exact ⟨r, h1, b1, b2, fun hs _ e1 e2 _ => b3 hs e1 e2⟩)
theorem dv32_10 {x : Int} (h0 : 0 ≤ x) (h1 : x < 2147483648) : dv32 x 10 = x / 10 := by
  unfold dv32
  rw [w32_id (by omega) h1, show w32 10 = 10 by decide, Int.tdiv_eq_ediv_of_nonneg h0]
theorem rm32_10 {x : Int} (h0 : 0 ≤ x) (h1 : x < 2147483648) : rm32 x 10 = x % 10 := by
  unfold rm32
  rw [w32_id (by omega) h1, show w32 10 = 10 by decide, Int.tmod_eq_emod_of_nonneg h0]
def sAnsH (V : Nat → Int) (x : Int) : Int := if (x - 100) / 10 < V 0 ∧ x % 10 < V 1 then V (24 + (6 * ((x - 100) / 10).toNat + (x % 10).toNat)) else -2
def sAns (V : Nat → Int) (x : Int) : Int := if 0 ≤ x ∧ x ≤ 3 then V x.toNat else if 100 ≤ x then sAnsH V x else if 10 ≤ x ∧ x ≤ 19 ∧ x - 10 < V 1 then V (4 + 2 * (x - 10).toNat) else if 20 ≤ x ∧ x ≤ 29 ∧ x - 20 < V 1 then V (5 + 2 * (x - 20).toNat) else if 30 ≤ x ∧ x ≤ 39 ∧ x - 30 < V 2 then V (16 + 2 * (x - 30).toNat) else if 40 ≤ x ∧ x ≤ 49 ∧ x - 40 < V 2 then V (17 + 2 * (x - 40).toNat) else -2
section Q1
variable {h : AH} {v : Nat} {V : Nat → Int}
theorem v_ansH (hV : VOK V) (hc : VC h.2 v V) (x : Int) (hx : 100 ≤ x ∧ x < 2147483648) : f9_answerHeld v x h = some (sAnsH V x, h) := by
  have h0 := hV.1
  have h1 := hV.2.1
  have q1 : 0 ≤ (x - 100) / 10 ∧ (x - 100) / 10 < 2147483648 := by omega
  have q2 : 0 ≤ x % 10 ∧ x % 10 < 10 ∧ (x - 100) % 10 = x % 10 := by omega
  unfold f9_answerHeld sAnsH
  simp only [lt_eq]
  rw [dv32_10 (by omega) (by omega), rm32_10 (by omega) (by omega), q2.2.2, w32_id (x := x) (by omega) (by omega), if_neg (by omega), v_hasP hV hc, bnd_some, v_hasS hV hc, bnd_some, v_held hV hc, bnd_some]
  generalize (x - 100) / 10 = p at *
  generalize x % 10 = s at *
  rw [w32_id (x := p) (by omega) (by omega), w32_id (x := s) (by omega) (by omega)]
  simp only [ite10_0]
  unfold sHeld
  repeat' split
  all_goals first | rfl | omega
theorem v_ans (hV : VOK V) (hc : VC h.2 v V) (x : Int) (hx : Rg x) : f9_answer v x h = some (sAns V x, h) := by
  obtain ⟨x1, x2⟩ := hx
  have h0 := hV.1
  have h1 := hV.2.1
  have h2 := hV.2.2.1
  obtain ⟨c0, c1, c2, c3, c4, c5, c6⟩ := hc
  have hc : VC h.2 v V := ⟨c0, c1, c2, c3, c4, c5, c6⟩
  unfold f9_answer sAns
  rw [w32_id x1 x2]
  by_cases d0 : x = 0
  · subst d0; simp only [if_true, c0]; rfl
  by_cases d1 : x = 1
  · subst d1; simp only [c1]; rfl
  by_cases d2 : x = 2
  · subst d2; simp only [c2]; rfl
  by_cases d3 : x = 3
  · subst d3; simp only [c3]; rfl
  rw [if_neg d0, if_neg d1, if_neg d2, if_neg d3, if_neg (c := 0 ≤ x ∧ x ≤ 3) (by omega)]
  by_cases d4 : 100 ≤ x
  · rw [if_neg (by omega), v_ansH hV hc x (by omega), bnd_some, if_pos d4]
  · rw [if_pos (by omega), if_neg d4]
    unfold f9_answerNumbers b9_answerNumbers_27 b9_answerNumbers_54 b9_answerNumbers_81
    simp only [v_hasS hV hc, v_hasH hV hc, bnd_some, ite10_0]
    rw [w32_id (x := x) x1 x2]
    by_cases e1 : 10 ≤ x
    · rw [w32_id (x := x - 10) (by omega) (by omega), w32_id (x := x - 20) (by omega) (by omega), w32_id (x := x - 30) (by omega) (by omega), w32_id (x := x - 40) (by omega) (by omega)]
      by_cases f1 : 10 ≤ x ∧ x ≤ 19 ∧ x - 10 < V 1
      · rw [if_pos f1, if_neg (by omega), if_neg (by omega), asrt_t (by omega), bnd_some, (c4 _ (by omega)).1]
      by_cases f2 : 20 ≤ x ∧ x ≤ 29 ∧ x - 20 < V 1
      · rw [if_neg f1, if_pos f2, if_neg (by omega), if_pos (by omega), if_neg (by omega), if_neg (by omega), asrt_t (by omega), bnd_some, (c4 _ (by omega)).2]
      by_cases f3 : 30 ≤ x ∧ x ≤ 39 ∧ x - 30 < V 2
      · rw [if_neg f1, if_neg f2, if_pos f3, if_neg (by omega), if_pos (by omega), if_neg (by omega), if_pos (by omega), if_neg (by omega), if_neg (by omega), asrt_t (by omega), bnd_some, (c5 _ (by omega)).1]
      by_cases f4 : 40 ≤ x ∧ x ≤ 49 ∧ x - 40 < V 2
      · rw [if_neg f1, if_neg f2, if_neg f3, if_pos f4, if_neg (by omega), if_pos (by omega), if_neg (by omega), if_pos (by omega), if_neg (by omega), if_pos (by omega), if_neg (by omega), if_neg (by omega), asrt_t (by omega), bnd_some, (c5 _ (by omega)).2]
      rw [if_neg f1, if_neg f2, if_neg f3, if_neg f4]
      repeat' split
      all_goals first | rfl | omega
    · rw [if_pos (by omega), if_pos (by omega), if_pos (by omega), if_pos (by omega), if_neg (by omega), if_neg (by omega), if_neg (by omega), if_neg (by omega), bnd_some]
end Q1
theorem q_village {x1 x2 : Int} (hx : Rg x1) (hx2 : Rg x2) : Agr (f10_village x1 x2) (f11_village x1 x2) := by
  refine agr_v hx (fun h e => ⟨-2, ?_, fun e2 => ?_⟩) (fun h v V hV hc h7 h17 e => ⟨sAns V x2, h, ?_, PK.rf h, fun hs e1 hm => ⟨hs, ?_, PK.rf hs⟩⟩)
  · unfold f10_village
    simp (disch := omega) only [w32_id, w32_0, w32_1, w32_m, if_pos, if_neg, bnd_some, lt_eq, asrt_t, ite10_0, ite10_or, e]
  · unfold f11_village
    rw [e2, bnd_some, ite_nw0]
  · unfold f10_village
    simp (disch := omega) only [w32_id, w32_0, w32_1, w32_m, if_pos, if_neg, bnd_some, lt_eq, asrt_t, ite10_0, ite10_or, e, Int.toNat_natCast, v_ans hV hc x2 hx2]
  · have h0 := hV.1
    have h1 := hV.2.1
    have h2 := hV.2.2.1
    obtain ⟨r1, r2⟩ := hx2
    unfold f11_village sAns
    rw [e1, bnd_some, ite_nw1]
    simp only [m_isIn, bnd_some, ite10_0, lt_eq, m_isP hV hm, m_isS hV hm]
    rw [w32_id (x := x2) r1 r2, w32_0, show w32 3 = 3 by decide, show w32 10 = 10 by decide, show w32 29 = 29 by decide, show w32 30 = 30 by decide, show w32 49 = 49 by decide]
    by_cases d0 : 0 ≤ x2 ∧ x2 ≤ 3
    · have := m_at hm x2.toNat (by omega) (e := hs.2 69 12 + x2) (fun o ho => by rw [ho]; omega)
      rw [if_neg (fun q => q d0), if_pos d0, asrt_t this.1, this.2]
    rw [if_pos d0, if_neg d0]
    by_cases d1 : 100 ≤ x2
    · have q1 : 0 ≤ (x2 - 100) / 10 ∧ (x2 - 100) / 10 < 2147483648 := by omega
      have q2 : 0 ≤ x2 % 10 ∧ x2 % 10 < 10 := by omega
      rw [if_neg (by omega), if_pos d1, dv32_10 (by omega) (by omega), rm32_10 (by omega) (by omega)]
      unfold sAnsH
      generalize (x2 - 100) / 10 = p at *
      generalize x2 % 10 = s at *
      rw [w32_id (x := p) (by omega) (by omega), w32_id (x := s) (by omega) (by omega)]
      by_cases d2 : p < V 0 ∧ s < V 1
      · rw [if_neg (by omega), if_neg (by omega), if_pos d2, m_held hm p s (by omega) (by omega), bnd_some]
      · rw [if_neg d2]
        repeat' split
        all_goals first | rfl | omega
    rw [if_pos (by omega), if_neg d1]
    by_cases d3 : 10 ≤ x2
    · rw [rm32_10 (by omega) (by omega)]
      have q2 : 0 ≤ x2 % 10 ∧ x2 % 10 < 10 := by omega
      have q3 : w32 (x2 % 10) = x2 % 10 := w32_id (by omega) (by omega)
      have q4 : w32 (hs.2 69 15) = V 2 := by
        obtain ⟨o, m0, m1, m2, m3, m4, m5⟩ := hm
        rw [m4, w32_id (by omega) (by omega)]
      rw [q3, q4]
      by_cases f1 : 10 ≤ x2 ∧ x2 ≤ 19 ∧ x2 - 10 < V 1
      · rw [if_pos f1, if_neg (by omega), if_neg (by omega), if_neg (by omega), m_heat hm _ (by omega), bnd_some, show x2 % 10 = x2 - 10 by omega]
      by_cases f2 : 20 ≤ x2 ∧ x2 ≤ 29 ∧ x2 - 20 < V 1
      · rw [if_neg f1, if_pos f2, if_neg (by omega), if_neg (by omega), if_pos (by omega), m_fades hm _ (by omega), bnd_some, show x2 % 10 = x2 - 20 by omega]
      by_cases f3 : 30 ≤ x2 ∧ x2 ≤ 39 ∧ x2 - 30 < V 2
      · rw [if_neg f1, if_neg f2, if_pos f3, if_pos (by omega), if_neg (by omega), if_neg (by omega), if_neg (by omega), m_wants hm _ (by omega), bnd_some, show x2 % 10 = x2 - 30 by omega]
      by_cases f4 : 40 ≤ x2 ∧ x2 ≤ 49 ∧ x2 - 40 < V 2
      · rw [if_neg f1, if_neg f2, if_neg f3, if_pos f4, if_pos (by omega), if_neg (by omega), if_neg (by omega), if_pos (by omega), m_cracks hm _ (by omega), bnd_some, show x2 % 10 = x2 - 40 by omega]
      rw [if_neg f1, if_neg f2, if_neg f3, if_neg f4]
      repeat' split
      all_goals first | rfl | omega
    · rw [if_pos (by omega), if_pos (by omega), if_neg (by omega), if_neg (by omega), if_neg (by omega), if_neg (by omega)]
