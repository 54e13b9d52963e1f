/-! text -/
def kHd (a k : Nat) : Prop := (a = 1 ∧ k ≤ 3) ∨ (28 ≤ a ∧ a < 93 ∧ a ≠ 70 ∧ a ≠ 71 ∧ ¬ (a = 35 ∧ k < 2) ∧ ¬ (a = 37 ∧ k < 2)) ∨ (a = 70 ∧ 4 ≤ k ∧ k ≤ 6)
theorem inv_head {h y : AH} (hI : Inv h) (k : Ky kHd h y) (f1 : y.2 1 1 = 0 ∧ y.2 70 4 = 0) (f2 : y.2 1 2 = y.2 70 5) (f3 : y.2 1 3 = y.2 70 6) : Inv y := by
  refine hI.upd k.1 (fun a j ha => k.2 a j (by unfold kHd; omega)) (fun j hj => k.2 70 j (by unfold kHd; omega)) (fun j hj => ⟨k.2 _ _ (by unfold kHd; omega), k.2 _ _ (by unfold kHd; omega)⟩) ?_
  obtain ⟨⟨hT, -⟩, -⟩ := hI
  refine TR_head hT (fun a j h1 h2 => ?_) (fun j hj => ?_) ?_ (fun i hi => ?_)
  · rw [pv_at (by omega), pv_at (by omega)]; exact k.2 a j (by unfold kHd; omega)
  · rw [pv_70, pv_70]; exact k.2 70 j (by unfold kHd; omega)
  · rw [pv_70, pv_at (by omega), f1.1, f1.2]
    exact ⟨rfl, by omega, f2, f3⟩
  · obtain ⟨-, -, b3, -⟩ := hT
    have := b3 i hi
    rw [pv_70, pv_at (by omega), Nat.zero_add] at this
    rw [pv_70, pv_at (by omega), k.2 70 _ (by unfold kHd; omega), k.2 2 _ (by unfold kHd; omega)]
    exact this
def kPu (s k : Nat) (a i : Nat) : Prop := kHd a i ∨ kPt s k a i ∨ (a = 70 ∧ (i = s ∨ (plS s k ≤ i ∧ i < plS s k + szS s)))
theorem inv_put {h y zf yf : AH} {s k c : Nat} (hs : s < 3) (hk : k < 2) (hI : Inv h) (hc : h.2 70 s = c) (kc : k ≤ c) (K : Ky (kPu s k) h y) (f1 : y.2 1 1 = 0 ∧ y.2 70 4 = 0) (f2 : y.2 1 2 = y.2 70 5) (f3 : y.2 1 3 = y.2 70 6)
    (g1 : y.2 3 s = if (c : Int) < (k : Int) + 1 then (k : Int) + 1 else c) (g2 : y.2 70 s = if (c : Int) < (k : Int) + 1 then (k : Int) + 1 else c) (row : ∀ j, j < szS s → y.2 70 (plS s k + j) = yf.2 72 j) (hC : CS s zf yf)
    (pV : s = 0 → ∀ V, VOK V → VC zf.2 29 V → VC y.2 (7 + 10 * k) V) (pD : s = 1 → ∀ D, DOK D → RC zf.2 35 5 D → RC y.2 (13 + 10 * k) 5 D) (pL : s = 2 → ∀ D, LOK D → RC zf.2 37 3 D → RC y.2 (15 + 10 * k) 3 D) : Inv y := by
  have sp := szpl hs hk
  obtain ⟨⟨hT, -⟩, -⟩ := id hI
  obtain ⟨b1, -, b3, -, -, -, b7⟩ := id hT
  have c2 : (c : Int) ≤ 2 := by
    have := (b1 s hs).2.2
    rw [pv_70, Nat.zero_add, hc] at this; exact this
  refine hI.upd K.1 (fun a j ha => K.2 a j (by unfold kPu kHd kPt; omega)) (fun j hj => K.2 70 j (by unfold kPu kHd kPt; omega)) (fun j hj => ⟨K.2 _ _ (by unfold kPu kHd kPt; omega), K.2 _ _ (by unfold kPu kHd kPt; omega)⟩) ?_
  have cc : (c : Int) < (k : Int) + 1 → c = k := fun q => by omega
  refine TR_new (s := s) (k := k) hs hT ?_ (fun i hi => ?_) (fun q hq hn => ?_) ⟨?_, ?_, fun j hj hl => ?_⟩ (fun j hj hn => ⟨fun a i h1 h2 => ?_, fun i hi => ?_⟩) (fun j hj hn => ⟨fun a i h1 => ?_, fun i hi => ?_⟩) (fun j hj hn => ⟨fun a i h1 => ?_, fun i hi => ?_⟩) (fun q => ?_) (fun q => ?_) (fun q => ?_) (fun j hj => ?_)
  · rw [pv_70, pv_at (by omega), f1.1, f1.2]
    exact ⟨rfl, by omega, f2, f3⟩
  · have := b3 i hi
    rw [pv_70, pv_at (by omega), Nat.zero_add] at this
    rw [pv_70, pv_at (by omega), K.2 70 _ (by unfold kPu kHd kPt; omega), K.2 2 _ (by unfold kPu kHd kPt; omega)]
    exact this
  · rw [pv_70, pv_70, pv_at (by omega), pv_at (by omega)]
    exact ⟨K.2 3 q (by unfold kPu kHd kPt; omega), K.2 70 q (by unfold kPu kHd kPt; omega)⟩
  · rw [pv_70, pv_at (by omega), g1, g2]
  · rw [pv_70, g2]; split <;> omega
  · rw [pv_70, g2] at hl
    rw [pv_70, hc]
    split at hl <;> omega
  · rw [pv_at (by omega), pv_at (by omega)]; exact K.2 a i (by unfold kPu kHd kPt; omega)
  · rw [pv_70, pv_70]
    refine K.2 70 _ ?_
    unfold kPu kHd kPt plS szS
    rcases (show s = 0 ∨ s = 1 ∨ s = 2 by omega) with rfl | rfl | rfl
    · rw [if_pos rfl, if_pos rfl]; omega
    · rw [if_neg (by decide), if_pos rfl, if_neg (by decide), if_pos rfl]; omega
    · rw [if_neg (by decide), if_neg (by decide), if_neg (by decide), if_neg (by decide)]; omega
  · rw [pv_at (by omega), pv_at (by omega)]; exact K.2 a i (by unfold kPu kHd kPt; omega)
  · rw [pv_70, pv_70]
    refine K.2 70 _ ?_
    unfold kPu kHd kPt plS szS
    rcases (show s = 0 ∨ s = 1 ∨ s = 2 by omega) with rfl | rfl | rfl
    · rw [if_pos rfl, if_pos rfl]; omega
    · rw [if_neg (by decide), if_pos rfl, if_neg (by decide), if_pos rfl]; omega
    · rw [if_neg (by decide), if_neg (by decide), if_neg (by decide), if_neg (by decide)]; omega
  · rw [pv_at (by omega), pv_at (by omega)]; exact K.2 a i (by unfold kPu kHd kPt; omega)
  · rw [pv_70, pv_70]
    refine K.2 70 _ ?_
    unfold kPu kHd kPt plS szS
    rcases (show s = 0 ∨ s = 1 ∨ s = 2 by omega) with rfl | rfl | rfl
    · rw [if_pos rfl, if_pos rfl]; omega
    · rw [if_neg (by decide), if_pos rfl, if_neg (by decide), if_pos rfl]; omega
    · rw [if_neg (by decide), if_neg (by decide), if_neg (by decide), if_neg (by decide)]; omega
  · subst q
    obtain ⟨v1, v2, -⟩ : CV zf yf := hC
    have fv : ∀ i, i < 72 → rowV y.2 (610 + 72 * k) i = yf.2 72 i := fun i hi => row i hi
    rw [rowV_pv]
    have x := VC_congV fv v1 (pV rfl _ v1 v2)
    refine ⟨VOK_cong fv v1, ?_⟩
    unfold VC at *
    rw [pv_at (by omega), pv_at (by omega), pv_at (by omega), pv_at (by omega), pv_at (by omega), pv_at (by omega)]; exact x
  · subst q
    obtain ⟨v1, v2, -⟩ : CD zf yf := hC
    have fv : ∀ i, i < 201 → rowV y.2 (754 + 201 * k) i = yf.2 72 i := fun i hi => row i hi
    rw [rowV_pv]
    obtain ⟨x1, x2⟩ := pD rfl _ v1 v2
    have d0 := v1.1
    refine ⟨DOK_cong fv v1, ?_, fun i hi => ?_⟩
    · rw [pv_at (by omega), fv 0 (by omega)]; exact x1
    · rw [fv 0 (by omega)] at hi
      have hi2 : (i : Int) < 5 * yf.2 72 0 := hi
      rw [pv_at (by omega), fv (1 + i) (by omega)]; exact x2 i hi
  · subst q
    obtain ⟨v1, v2, -⟩ : CL zf yf := hC
    have fv : ∀ i, i < 25 → rowV y.2 (1156 + 25 * k) i = yf.2 72 i := fun i hi => row i hi
    rw [rowV_pv]
    obtain ⟨x1, x2⟩ := pL rfl _ v1 v2
    have d0 := v1.1
    refine ⟨LOK_cong fv v1, ?_, fun i hi => ?_⟩
    · rw [pv_at (by omega), fv 0 (by omega)]; exact x1
    · rw [fv 0 (by omega)] at hi
      have hi2 : (i : Int) < 3 * yf.2 72 0 := hi
      rw [pv_at (by omega), fv (1 + i) (by omega)]; exact x2 i hi
  · have := b7 j hj
    rw [show 1 + 12 + 10 * j = 13 + 10 * j by omega, show 1 + 14 + 10 * j = 15 + 10 * j by omega, pv_at (by omega), pv_at (by omega)] at this
    rw [pv_at (by omega), pv_at (by omega), K.2 _ 0 (by unfold kPu kHd kPt; omega), K.2 _ 1 (by unfold kPu kHd kPt; omega), K.2 _ 0 (by unfold kPu kHd kPt; omega), K.2 _ 1 (by unfold kPu kHd kPt; omega)]
    exact this
