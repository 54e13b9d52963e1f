/-! the law, all the way -/
theorem cmp_rr (r : Int) : w32 (cmp64 r r) = 0 := by
  unfold cmp64
  simp [w32_0]
section LawOk
variable {G : Geo} {h : AH} {x3 : Int} {rec : Int × AH → Option (Int × AH)}
theorem wb14_law_184 (R : ∀ j, Rg (scr G j)) (hI : Inv h) (a1 : 0 ≤ w32 (x3 + 1) ∧ w32 (x3 + 1) < ((G.2.1 26 : Nat) : Int)) (a2 : 0 ≤ w32 (x3 + 2) ∧ w32 (x3 + 2) < ((G.2.1 26 : Nat) : Int)) (a3 : 0 ≤ w32 (x3 + 3) ∧ w32 (x3 + 3) < ((G.2.1 26 : Nat) : Int)) (a4 : 0 ≤ w32 (x3 + 4) ∧ w32 (x3 + 4) < ((G.2.1 26 : Nat) : Int)) (a5 : 0 ≤ w32 (x3 + 5) ∧ w32 (x3 + 5) < ((G.2.1 26 : Nat) : Int)) (a6 : 0 ≤ w32 (x3 + 6) ∧ w32 (x3 + 6) < ((G.2.1 26 : Nat) : Int)) : ∃ h2 : AH, Inv h2 ∧ b14_law_184 G rec x3 h = rec (x3 + 7, h2) := by
  obtain ⟨r, h1, h2, e1, e2, e3⟩ := q_feed (x1 := scr G (w32 (x3 + 1)).toNat) (x2 := scr G (w32 (x3 + 2)).toNat) (x3 := scr G (w32 (x3 + 3)).toNat) (x4 := scr G (w32 (x3 + 4)).toNat) (x5 := scr G (w32 (x3 + 5)).toNat) h hI
  unfold b14_law_184 b14_law_1784
  simp only [asrt_t a1, asrt_t a2, asrt_t a3, asrt_t a4, asrt_t a5, asrt_t a6]
  rw [e1, bnd_some, e2, bnd_some, if_pos rfl]
  exact ⟨h2, e3, rfl⟩
theorem wb14_law_247 (R : ∀ j, Rg (scr G j)) (hI : Inv h) (a1 : 0 ≤ w32 (x3 + 1) ∧ w32 (x3 + 1) < ((G.2.1 26 : Nat) : Int)) (a2 : 0 ≤ w32 (x3 + 2) ∧ w32 (x3 + 2) < ((G.2.1 26 : Nat) : Int)) (a3 : 0 ≤ w32 (x3 + 3) ∧ w32 (x3 + 3) < ((G.2.1 26 : Nat) : Int)) (a4 : 0 ≤ w32 (x3 + 4) ∧ w32 (x3 + 4) < ((G.2.1 26 : Nat) : Int)) (a5 : 0 ≤ w32 (x3 + 5) ∧ w32 (x3 + 5) < ((G.2.1 26 : Nat) : Int)) (a6 : 0 ≤ w32 (x3 + 6) ∧ w32 (x3 + 6) < ((G.2.1 26 : Nat) : Int)) : ∃ h2 : AH, Inv h2 ∧ b14_law_247 G rec x3 h = rec (x3 + 7, h2) := by
  obtain ⟨r, h1, h2, e1, e2, e3⟩ := q_end (R (w32 (x3 + 1)).toNat) h hI
  unfold b14_law_247 b14_law_1784
  simp only [asrt_t a1, asrt_t a2, asrt_t a3, asrt_t a4, asrt_t a5, asrt_t a6]
  rw [e1, bnd_some, e2, bnd_some, if_pos rfl]
  exact ⟨h2, e3, rfl⟩
theorem wb14_law_270 (R : ∀ j, Rg (scr G j)) (hI : Inv h) (a1 : 0 ≤ w32 (x3 + 1) ∧ w32 (x3 + 1) < ((G.2.1 26 : Nat) : Int)) (a2 : 0 ≤ w32 (x3 + 2) ∧ w32 (x3 + 2) < ((G.2.1 26 : Nat) : Int)) (a3 : 0 ≤ w32 (x3 + 3) ∧ w32 (x3 + 3) < ((G.2.1 26 : Nat) : Int)) (a4 : 0 ≤ w32 (x3 + 4) ∧ w32 (x3 + 4) < ((G.2.1 26 : Nat) : Int)) (a5 : 0 ≤ w32 (x3 + 5) ∧ w32 (x3 + 5) < ((G.2.1 26 : Nat) : Int)) (a6 : 0 ≤ w32 (x3 + 6) ∧ w32 (x3 + 6) < ((G.2.1 26 : Nat) : Int)) : ∃ h2 : AH, Inv h2 ∧ b14_law_270 G rec x3 h = rec (x3 + 7, h2) := by
  obtain ⟨r, h1, h2, e1, e2, e3⟩ := q_text (R (w32 (x3 + 1)).toNat) (R (w32 (x3 + 2)).toNat) h hI
  unfold b14_law_270 b14_law_1784
  simp only [asrt_t a1, asrt_t a2, asrt_t a3, asrt_t a4, asrt_t a5, asrt_t a6]
  rw [e1, bnd_some, e2, bnd_some, if_pos rfl]
  exact ⟨h2, e3, rfl⟩
theorem wb14_law_303 (R : ∀ j, Rg (scr G j)) (hI : Inv h) (a1 : 0 ≤ w32 (x3 + 1) ∧ w32 (x3 + 1) < ((G.2.1 26 : Nat) : Int)) (a2 : 0 ≤ w32 (x3 + 2) ∧ w32 (x3 + 2) < ((G.2.1 26 : Nat) : Int)) (a3 : 0 ≤ w32 (x3 + 3) ∧ w32 (x3 + 3) < ((G.2.1 26 : Nat) : Int)) (a4 : 0 ≤ w32 (x3 + 4) ∧ w32 (x3 + 4) < ((G.2.1 26 : Nat) : Int)) (a5 : 0 ≤ w32 (x3 + 5) ∧ w32 (x3 + 5) < ((G.2.1 26 : Nat) : Int)) (a6 : 0 ≤ w32 (x3 + 6) ∧ w32 (x3 + 6) < ((G.2.1 26 : Nat) : Int)) : ∃ h2 : AH, Inv h2 ∧ b14_law_303 G rec x3 h = rec (x3 + 7, h2) := by
  obtain ⟨r, h1, h2, e1, e2, e3⟩ := q_fault (R (w32 (x3 + 1)).toNat) h hI
  unfold b14_law_303 b14_law_1784
  simp only [asrt_t a1, asrt_t a2, asrt_t a3, asrt_t a4, asrt_t a5, asrt_t a6]
  rw [e1, bnd_some, e2, bnd_some, if_pos rfl]
  exact ⟨h2, e3, rfl⟩
theorem wb14_law_326 (R : ∀ j, Rg (scr G j)) (hI : Inv h) (a1 : 0 ≤ w32 (x3 + 1) ∧ w32 (x3 + 1) < ((G.2.1 26 : Nat) : Int)) (a2 : 0 ≤ w32 (x3 + 2) ∧ w32 (x3 + 2) < ((G.2.1 26 : Nat) : Int)) (a3 : 0 ≤ w32 (x3 + 3) ∧ w32 (x3 + 3) < ((G.2.1 26 : Nat) : Int)) (a4 : 0 ≤ w32 (x3 + 4) ∧ w32 (x3 + 4) < ((G.2.1 26 : Nat) : Int)) (a5 : 0 ≤ w32 (x3 + 5) ∧ w32 (x3 + 5) < ((G.2.1 26 : Nat) : Int)) (a6 : 0 ≤ w32 (x3 + 6) ∧ w32 (x3 + 6) < ((G.2.1 26 : Nat) : Int)) : ∃ h2 : AH, Inv h2 ∧ b14_law_326 G rec x3 h = rec (x3 + 7, h2) := by
  obtain ⟨r, h1, h2, e1, e2, e3⟩ := q_village (R (w32 (x3 + 1)).toNat) (R (w32 (x3 + 2)).toNat) h hI
  unfold b14_law_326 b14_law_1784
  simp only [asrt_t a1, asrt_t a2, asrt_t a3, asrt_t a4, asrt_t a5, asrt_t a6]
  rw [e1, bnd_some, e2, bnd_some, if_pos rfl]
  exact ⟨h2, e3, rfl⟩
theorem wb14_law_359 (R : ∀ j, Rg (scr G j)) (hI : Inv h) (a1 : 0 ≤ w32 (x3 + 1) ∧ w32 (x3 + 1) < ((G.2.1 26 : Nat) : Int)) (a2 : 0 ≤ w32 (x3 + 2) ∧ w32 (x3 + 2) < ((G.2.1 26 : Nat) : Int)) (a3 : 0 ≤ w32 (x3 + 3) ∧ w32 (x3 + 3) < ((G.2.1 26 : Nat) : Int)) (a4 : 0 ≤ w32 (x3 + 4) ∧ w32 (x3 + 4) < ((G.2.1 26 : Nat) : Int)) (a5 : 0 ≤ w32 (x3 + 5) ∧ w32 (x3 + 5) < ((G.2.1 26 : Nat) : Int)) (a6 : 0 ≤ w32 (x3 + 6) ∧ w32 (x3 + 6) < ((G.2.1 26 : Nat) : Int)) : ∃ h2 : AH, Inv h2 ∧ b14_law_359 G rec x3 h = rec (x3 + 7, h2) := by
  by_cases b : w32 (scr G (w32 (x3 + 5)).toNat) = 0
  · obtain ⟨r, h1, h2, e1, e2, e3⟩ := q_apart (R (w32 (x3 + 1)).toNat) (R (w32 (x3 + 2)).toNat) (R (w32 (x3 + 3)).toNat) (R (w32 (x3 + 4)).toNat) (x5 := 0) (Or.inl rfl) h hI
    unfold b14_law_359 b14_law_393 b14_law_430 b14_law_1784
    simp only [asrt_t a1, asrt_t a2, asrt_t a3, asrt_t a4, asrt_t a5, asrt_t a6, if_pos b]
    rw [e1, bnd_some, e2, bnd_some]
    first | rw [if_pos rfl] | rw [if_pos (cmp_rr r)]
    exact ⟨h2, e3, rfl⟩
  · obtain ⟨r, h1, h2, e1, e2, e3⟩ := q_apart (R (w32 (x3 + 1)).toNat) (R (w32 (x3 + 2)).toNat) (R (w32 (x3 + 3)).toNat) (R (w32 (x3 + 4)).toNat) (x5 := 1) (Or.inr rfl) h hI
    unfold b14_law_359 b14_law_393 b14_law_430 b14_law_1784
    simp only [asrt_t a1, asrt_t a2, asrt_t a3, asrt_t a4, asrt_t a5, asrt_t a6, if_neg b]
    rw [e1, bnd_some, e2, bnd_some]
    first | rw [if_pos rfl] | rw [if_pos (cmp_rr r)]
    exact ⟨h2, e3, rfl⟩
theorem wb14_law_438 (R : ∀ j, Rg (scr G j)) (hI : Inv h) (a1 : 0 ≤ w32 (x3 + 1) ∧ w32 (x3 + 1) < ((G.2.1 26 : Nat) : Int)) (a2 : 0 ≤ w32 (x3 + 2) ∧ w32 (x3 + 2) < ((G.2.1 26 : Nat) : Int)) (a3 : 0 ≤ w32 (x3 + 3) ∧ w32 (x3 + 3) < ((G.2.1 26 : Nat) : Int)) (a4 : 0 ≤ w32 (x3 + 4) ∧ w32 (x3 + 4) < ((G.2.1 26 : Nat) : Int)) (a5 : 0 ≤ w32 (x3 + 5) ∧ w32 (x3 + 5) < ((G.2.1 26 : Nat) : Int)) (a6 : 0 ≤ w32 (x3 + 6) ∧ w32 (x3 + 6) < ((G.2.1 26 : Nat) : Int)) : ∃ h2 : AH, Inv h2 ∧ b14_law_438 G rec x3 h = rec (x3 + 7, h2) := by
  obtain ⟨r, h1, h2, e1, e2, e3⟩ := q_deed (R (w32 (x3 + 1)).toNat) (R (w32 (x3 + 2)).toNat) (R (w32 (x3 + 3)).toNat) h hI
  unfold b14_law_438 b14_law_1784
  simp only [asrt_t a1, asrt_t a2, asrt_t a3, asrt_t a4, asrt_t a5, asrt_t a6]
  rw [e1, bnd_some, e2, bnd_some, if_pos rfl]
  exact ⟨h2, e3, rfl⟩
theorem wb14_law_481 (R : ∀ j, Rg (scr G j)) (hI : Inv h) (a1 : 0 ≤ w32 (x3 + 1) ∧ w32 (x3 + 1) < ((G.2.1 26 : Nat) : Int)) (a2 : 0 ≤ w32 (x3 + 2) ∧ w32 (x3 + 2) < ((G.2.1 26 : Nat) : Int)) (a3 : 0 ≤ w32 (x3 + 3) ∧ w32 (x3 + 3) < ((G.2.1 26 : Nat) : Int)) (a4 : 0 ≤ w32 (x3 + 4) ∧ w32 (x3 + 4) < ((G.2.1 26 : Nat) : Int)) (a5 : 0 ≤ w32 (x3 + 5) ∧ w32 (x3 + 5) < ((G.2.1 26 : Nat) : Int)) (a6 : 0 ≤ w32 (x3 + 6) ∧ w32 (x3 + 6) < ((G.2.1 26 : Nat) : Int)) : ∃ h2 : AH, Inv h2 ∧ b14_law_481 G rec x3 h = rec (x3 + 7, h2) := by
  obtain ⟨r, h1, h2, e1, e2, e3⟩ := q_stop (R (w32 (x3 + 1)).toNat) (R (w32 (x3 + 2)).toNat) h hI
  unfold b14_law_481 b14_law_1784
  simp only [asrt_t a1, asrt_t a2, asrt_t a3, asrt_t a4, asrt_t a5, asrt_t a6]
  rw [e1, bnd_some, e2, bnd_some, if_pos rfl]
  exact ⟨h2, e3, rfl⟩
theorem wb14_law_514 (R : ∀ j, Rg (scr G j)) (hI : Inv h) (a1 : 0 ≤ w32 (x3 + 1) ∧ w32 (x3 + 1) < ((G.2.1 26 : Nat) : Int)) (a2 : 0 ≤ w32 (x3 + 2) ∧ w32 (x3 + 2) < ((G.2.1 26 : Nat) : Int)) (a3 : 0 ≤ w32 (x3 + 3) ∧ w32 (x3 + 3) < ((G.2.1 26 : Nat) : Int)) (a4 : 0 ≤ w32 (x3 + 4) ∧ w32 (x3 + 4) < ((G.2.1 26 : Nat) : Int)) (a5 : 0 ≤ w32 (x3 + 5) ∧ w32 (x3 + 5) < ((G.2.1 26 : Nat) : Int)) (a6 : 0 ≤ w32 (x3 + 6) ∧ w32 (x3 + 6) < ((G.2.1 26 : Nat) : Int)) : ∃ h2 : AH, Inv h2 ∧ b14_law_514 G rec x3 h = rec (x3 + 7, h2) := by
  obtain ⟨r, h1, h2, e1, e2, e3⟩ := q_state (R (w32 (x3 + 1)).toNat) (R (w32 (x3 + 2)).toNat) (R (w32 (x3 + 3)).toNat) (R (w32 (x3 + 4)).toNat) h hI
  unfold b14_law_514 b14_law_1784
  simp only [asrt_t a1, asrt_t a2, asrt_t a3, asrt_t a4, asrt_t a5, asrt_t a6]
  rw [e1, bnd_some, e2, bnd_some, if_pos rfl]
  exact ⟨h2, e3, rfl⟩
theorem wb14_law_567 (R : ∀ j, Rg (scr G j)) (hI : Inv h) (a1 : 0 ≤ w32 (x3 + 1) ∧ w32 (x3 + 1) < ((G.2.1 26 : Nat) : Int)) (a2 : 0 ≤ w32 (x3 + 2) ∧ w32 (x3 + 2) < ((G.2.1 26 : Nat) : Int)) (a3 : 0 ≤ w32 (x3 + 3) ∧ w32 (x3 + 3) < ((G.2.1 26 : Nat) : Int)) (a4 : 0 ≤ w32 (x3 + 4) ∧ w32 (x3 + 4) < ((G.2.1 26 : Nat) : Int)) (a5 : 0 ≤ w32 (x3 + 5) ∧ w32 (x3 + 5) < ((G.2.1 26 : Nat) : Int)) (a6 : 0 ≤ w32 (x3 + 6) ∧ w32 (x3 + 6) < ((G.2.1 26 : Nat) : Int)) : ∃ h2 : AH, Inv h2 ∧ b14_law_567 G rec x3 h = rec (x3 + 7, h2) := by
  by_cases b : w32 (scr G (w32 (x3 + 4)).toNat) = 0
  · obtain ⟨r, h1, h2, e1, e2, e3⟩ := q_keenest (R (w32 (x3 + 1)).toNat) (R (w32 (x3 + 2)).toNat) (R (w32 (x3 + 3)).toNat) (x4 := 0) (Or.inl rfl) h hI
    unfold b14_law_567 b14_law_596 b14_law_628 b14_law_1784
    simp only [asrt_t a1, asrt_t a2, asrt_t a3, asrt_t a4, asrt_t a5, asrt_t a6, if_pos b]
    rw [e1, bnd_some, e2, bnd_some]
    first | rw [if_pos rfl] | rw [if_pos (cmp_rr r)]
    exact ⟨h2, e3, rfl⟩
  · obtain ⟨r, h1, h2, e1, e2, e3⟩ := q_keenest (R (w32 (x3 + 1)).toNat) (R (w32 (x3 + 2)).toNat) (R (w32 (x3 + 3)).toNat) (x4 := 1) (Or.inr rfl) h hI
    unfold b14_law_567 b14_law_596 b14_law_628 b14_law_1784
    simp only [asrt_t a1, asrt_t a2, asrt_t a3, asrt_t a4, asrt_t a5, asrt_t a6, if_neg b]
    rw [e1, bnd_some, e2, bnd_some]
    first | rw [if_pos rfl] | rw [if_pos (cmp_rr r)]
    exact ⟨h2, e3, rfl⟩
theorem wb14_law_636 (R : ∀ j, Rg (scr G j)) (hI : Inv h) (a1 : 0 ≤ w32 (x3 + 1) ∧ w32 (x3 + 1) < ((G.2.1 26 : Nat) : Int)) (a2 : 0 ≤ w32 (x3 + 2) ∧ w32 (x3 + 2) < ((G.2.1 26 : Nat) : Int)) (a3 : 0 ≤ w32 (x3 + 3) ∧ w32 (x3 + 3) < ((G.2.1 26 : Nat) : Int)) (a4 : 0 ≤ w32 (x3 + 4) ∧ w32 (x3 + 4) < ((G.2.1 26 : Nat) : Int)) (a5 : 0 ≤ w32 (x3 + 5) ∧ w32 (x3 + 5) < ((G.2.1 26 : Nat) : Int)) (a6 : 0 ≤ w32 (x3 + 6) ∧ w32 (x3 + 6) < ((G.2.1 26 : Nat) : Int)) : ∃ h2 : AH, Inv h2 ∧ b14_law_636 G rec x3 h = rec (x3 + 7, h2) := by
  by_cases b : w32 (scr G (w32 (x3 + 5)).toNat) = 0
  · obtain ⟨r, h1, h2, e1, e2, e3⟩ := q_lasts (R (w32 (x3 + 1)).toNat) (R (w32 (x3 + 2)).toNat) (R (w32 (x3 + 3)).toNat) (R (w32 (x3 + 4)).toNat) (x5 := 0) (Or.inl rfl) h hI
    unfold b14_law_636 b14_law_670 b14_law_707 b14_law_1784
    simp only [asrt_t a1, asrt_t a2, asrt_t a3, asrt_t a4, asrt_t a5, asrt_t a6, if_pos b]
    rw [e1, bnd_some, e2, bnd_some]
    first | rw [if_pos rfl] | rw [if_pos (cmp_rr r)]
    exact ⟨h2, e3, rfl⟩
  · obtain ⟨r, h1, h2, e1, e2, e3⟩ := q_lasts (R (w32 (x3 + 1)).toNat) (R (w32 (x3 + 2)).toNat) (R (w32 (x3 + 3)).toNat) (R (w32 (x3 + 4)).toNat) (x5 := 1) (Or.inr rfl) h hI
    unfold b14_law_636 b14_law_670 b14_law_707 b14_law_1784
    simp only [asrt_t a1, asrt_t a2, asrt_t a3, asrt_t a4, asrt_t a5, asrt_t a6, if_neg b]
    rw [e1, bnd_some, e2, bnd_some]
    first | rw [if_pos rfl] | rw [if_pos (cmp_rr r)]
    exact ⟨h2, e3, rfl⟩
theorem wb14_law_715 (R : ∀ j, Rg (scr G j)) (hI : Inv h) (a1 : 0 ≤ w32 (x3 + 1) ∧ w32 (x3 + 1) < ((G.2.1 26 : Nat) : Int)) (a2 : 0 ≤ w32 (x3 + 2) ∧ w32 (x3 + 2) < ((G.2.1 26 : Nat) : Int)) (a3 : 0 ≤ w32 (x3 + 3) ∧ w32 (x3 + 3) < ((G.2.1 26 : Nat) : Int)) (a4 : 0 ≤ w32 (x3 + 4) ∧ w32 (x3 + 4) < ((G.2.1 26 : Nat) : Int)) (a5 : 0 ≤ w32 (x3 + 5) ∧ w32 (x3 + 5) < ((G.2.1 26 : Nat) : Int)) (a6 : 0 ≤ w32 (x3 + 6) ∧ w32 (x3 + 6) < ((G.2.1 26 : Nat) : Int)) : ∃ h2 : AH, Inv h2 ∧ b14_law_715 G rec x3 h = rec (x3 + 7, h2) := by
  obtain ⟨r, h1, h2, e1, e2, e3⟩ := q_together (R (w32 (x3 + 1)).toNat) (R (w32 (x3 + 2)).toNat) (R (w32 (x3 + 3)).toNat) h hI
  unfold b14_law_715 b14_law_1784
  simp only [asrt_t a1, asrt_t a2, asrt_t a3, asrt_t a4, asrt_t a5, asrt_t a6]
  rw [e1, bnd_some, e2, bnd_some, if_pos rfl]
  exact ⟨h2, e3, rfl⟩
theorem wb14_law_758 (R : ∀ j, Rg (scr G j)) (hI : Inv h) (a1 : 0 ≤ w32 (x3 + 1) ∧ w32 (x3 + 1) < ((G.2.1 26 : Nat) : Int)) (a2 : 0 ≤ w32 (x3 + 2) ∧ w32 (x3 + 2) < ((G.2.1 26 : Nat) : Int)) (a3 : 0 ≤ w32 (x3 + 3) ∧ w32 (x3 + 3) < ((G.2.1 26 : Nat) : Int)) (a4 : 0 ≤ w32 (x3 + 4) ∧ w32 (x3 + 4) < ((G.2.1 26 : Nat) : Int)) (a5 : 0 ≤ w32 (x3 + 5) ∧ w32 (x3 + 5) < ((G.2.1 26 : Nat) : Int)) (a6 : 0 ≤ w32 (x3 + 6) ∧ w32 (x3 + 6) < ((G.2.1 26 : Nat) : Int)) : ∃ h2 : AH, Inv h2 ∧ b14_law_758 G rec x3 h = rec (x3 + 7, h2) := by
  obtain ⟨r, h1, h2, e1, e2, e3⟩ := q_plan (R (w32 (x3 + 1)).toNat) (R (w32 (x3 + 2)).toNat) h hI
  unfold b14_law_758 b14_law_1784
  simp only [asrt_t a1, asrt_t a2, asrt_t a3, asrt_t a4, asrt_t a5, asrt_t a6]
  rw [e1, bnd_some, e2, bnd_some, if_pos rfl]
  exact ⟨h2, e3, rfl⟩
theorem wb14_law_791 (R : ∀ j, Rg (scr G j)) (hI : Inv h) (a1 : 0 ≤ w32 (x3 + 1) ∧ w32 (x3 + 1) < ((G.2.1 26 : Nat) : Int)) (a2 : 0 ≤ w32 (x3 + 2) ∧ w32 (x3 + 2) < ((G.2.1 26 : Nat) : Int)) (a3 : 0 ≤ w32 (x3 + 3) ∧ w32 (x3 + 3) < ((G.2.1 26 : Nat) : Int)) (a4 : 0 ≤ w32 (x3 + 4) ∧ w32 (x3 + 4) < ((G.2.1 26 : Nat) : Int)) (a5 : 0 ≤ w32 (x3 + 5) ∧ w32 (x3 + 5) < ((G.2.1 26 : Nat) : Int)) (a6 : 0 ≤ w32 (x3 + 6) ∧ w32 (x3 + 6) < ((G.2.1 26 : Nat) : Int)) : ∃ h2 : AH, Inv h2 ∧ b14_law_791 G rec x3 h = rec (x3 + 7, h2) := by
  obtain ⟨r, h1, h2, e1, e2, e3⟩ := q_married (R (w32 (x3 + 1)).toNat) (R (w32 (x3 + 2)).toNat) h hI
  unfold b14_law_791 b14_law_1784
  simp only [asrt_t a1, asrt_t a2, asrt_t a3, asrt_t a4, asrt_t a5, asrt_t a6]
  rw [e1, bnd_some, e2, bnd_some, if_pos rfl]
  exact ⟨h2, e3, rfl⟩
theorem wb14_law_824 (R : ∀ j, Rg (scr G j)) (hI : Inv h) (a1 : 0 ≤ w32 (x3 + 1) ∧ w32 (x3 + 1) < ((G.2.1 26 : Nat) : Int)) (a2 : 0 ≤ w32 (x3 + 2) ∧ w32 (x3 + 2) < ((G.2.1 26 : Nat) : Int)) (a3 : 0 ≤ w32 (x3 + 3) ∧ w32 (x3 + 3) < ((G.2.1 26 : Nat) : Int)) (a4 : 0 ≤ w32 (x3 + 4) ∧ w32 (x3 + 4) < ((G.2.1 26 : Nat) : Int)) (a5 : 0 ≤ w32 (x3 + 5) ∧ w32 (x3 + 5) < ((G.2.1 26 : Nat) : Int)) (a6 : 0 ≤ w32 (x3 + 6) ∧ w32 (x3 + 6) < ((G.2.1 26 : Nat) : Int)) : ∃ h2 : AH, Inv h2 ∧ b14_law_824 G rec x3 h = rec (x3 + 7, h2) := by
  by_cases b : w32 (scr G (w32 (x3 + 6)).toNat) = 0
  · obtain ⟨r, h1, h2, e1, e2, e3⟩ := q_hopes (R (w32 (x3 + 1)).toNat) (R (w32 (x3 + 2)).toNat) (R (w32 (x3 + 3)).toNat) (R (w32 (x3 + 4)).toNat) (R (w32 (x3 + 5)).toNat) (x6 := 0) (Or.inl rfl) h hI
    unfold b14_law_824 b14_law_864 b14_law_907 b14_law_1784
    simp only [asrt_t a1, asrt_t a2, asrt_t a3, asrt_t a4, asrt_t a5, asrt_t a6, if_pos b]
    rw [e1, bnd_some, e2, bnd_some]
    first | rw [if_pos rfl] | rw [if_pos (cmp_rr r)]
    exact ⟨h2, e3, rfl⟩
  · obtain ⟨r, h1, h2, e1, e2, e3⟩ := q_hopes (R (w32 (x3 + 1)).toNat) (R (w32 (x3 + 2)).toNat) (R (w32 (x3 + 3)).toNat) (R (w32 (x3 + 4)).toNat) (R (w32 (x3 + 5)).toNat) (x6 := 1) (Or.inr rfl) h hI
    unfold b14_law_824 b14_law_864 b14_law_907 b14_law_1784
    simp only [asrt_t a1, asrt_t a2, asrt_t a3, asrt_t a4, asrt_t a5, asrt_t a6, if_neg b]
    rw [e1, bnd_some, e2, bnd_some]
    first | rw [if_pos rfl] | rw [if_pos (cmp_rr r)]
    exact ⟨h2, e3, rfl⟩
theorem wb14_law_916 (R : ∀ j, Rg (scr G j)) (hI : Inv h) (a1 : 0 ≤ w32 (x3 + 1) ∧ w32 (x3 + 1) < ((G.2.1 26 : Nat) : Int)) (a2 : 0 ≤ w32 (x3 + 2) ∧ w32 (x3 + 2) < ((G.2.1 26 : Nat) : Int)) (a3 : 0 ≤ w32 (x3 + 3) ∧ w32 (x3 + 3) < ((G.2.1 26 : Nat) : Int)) (a4 : 0 ≤ w32 (x3 + 4) ∧ w32 (x3 + 4) < ((G.2.1 26 : Nat) : Int)) (a5 : 0 ≤ w32 (x3 + 5) ∧ w32 (x3 + 5) < ((G.2.1 26 : Nat) : Int)) (a6 : 0 ≤ w32 (x3 + 6) ∧ w32 (x3 + 6) < ((G.2.1 26 : Nat) : Int)) : ∃ h2 : AH, Inv h2 ∧ b14_law_916 G rec x3 h = rec (x3 + 7, h2) := by
  obtain ⟨r, h1, h2, e1, e2, e3⟩ := q_fact (R (w32 (x3 + 1)).toNat) (R (w32 (x3 + 2)).toNat) (R (w32 (x3 + 3)).toNat) h hI
  unfold b14_law_916 b14_law_1784
  simp only [asrt_t a1, asrt_t a2, asrt_t a3, asrt_t a4, asrt_t a5, asrt_t a6]
  rw [e1, bnd_some, e2, bnd_some, if_pos rfl]
  exact ⟨h2, e3, rfl⟩
theorem wb14_law_959 (R : ∀ j, Rg (scr G j)) (hI : Inv h) (a1 : 0 ≤ w32 (x3 + 1) ∧ w32 (x3 + 1) < ((G.2.1 26 : Nat) : Int)) (a2 : 0 ≤ w32 (x3 + 2) ∧ w32 (x3 + 2) < ((G.2.1 26 : Nat) : Int)) (a3 : 0 ≤ w32 (x3 + 3) ∧ w32 (x3 + 3) < ((G.2.1 26 : Nat) : Int)) (a4 : 0 ≤ w32 (x3 + 4) ∧ w32 (x3 + 4) < ((G.2.1 26 : Nat) : Int)) (a5 : 0 ≤ w32 (x3 + 5) ∧ w32 (x3 + 5) < ((G.2.1 26 : Nat) : Int)) (a6 : 0 ≤ w32 (x3 + 6) ∧ w32 (x3 + 6) < ((G.2.1 26 : Nat) : Int)) : ∃ h2 : AH, Inv h2 ∧ b14_law_959 G rec x3 h = rec (x3 + 7, h2) := by
  obtain ⟨r, h1, h2, e1, e2, e3⟩ := q_fits (R (w32 (x3 + 1)).toNat) (R (w32 (x3 + 2)).toNat) (R (w32 (x3 + 3)).toNat) h hI
  unfold b14_law_959 b14_law_1784
  simp only [asrt_t a1, asrt_t a2, asrt_t a3, asrt_t a4, asrt_t a5, asrt_t a6]
  rw [e1, bnd_some, e2, bnd_some, if_pos rfl]
  exact ⟨h2, e3, rfl⟩
theorem wb14_law_1002 (R : ∀ j, Rg (scr G j)) (hI : Inv h) (a1 : 0 ≤ w32 (x3 + 1) ∧ w32 (x3 + 1) < ((G.2.1 26 : Nat) : Int)) (a2 : 0 ≤ w32 (x3 + 2) ∧ w32 (x3 + 2) < ((G.2.1 26 : Nat) : Int)) (a3 : 0 ≤ w32 (x3 + 3) ∧ w32 (x3 + 3) < ((G.2.1 26 : Nat) : Int)) (a4 : 0 ≤ w32 (x3 + 4) ∧ w32 (x3 + 4) < ((G.2.1 26 : Nat) : Int)) (a5 : 0 ≤ w32 (x3 + 5) ∧ w32 (x3 + 5) < ((G.2.1 26 : Nat) : Int)) (a6 : 0 ≤ w32 (x3 + 6) ∧ w32 (x3 + 6) < ((G.2.1 26 : Nat) : Int)) : ∃ h2 : AH, Inv h2 ∧ b14_law_1002 G rec x3 h = rec (x3 + 7, h2) := by
  obtain ⟨r, h1, h2, e1, e2, e3⟩ := q_drawn (R (w32 (x3 + 1)).toNat) (R (w32 (x3 + 2)).toNat) (R (w32 (x3 + 3)).toNat) (R (w32 (x3 + 4)).toNat) h hI
  unfold b14_law_1002 b14_law_1784
  simp only [asrt_t a1, asrt_t a2, asrt_t a3, asrt_t a4, asrt_t a5, asrt_t a6]
  rw [e1, bnd_some, e2, bnd_some, if_pos rfl]
  exact ⟨h2, e3, rfl⟩
theorem wb14_law_1055 (R : ∀ j, Rg (scr G j)) (hI : Inv h) (a1 : 0 ≤ w32 (x3 + 1) ∧ w32 (x3 + 1) < ((G.2.1 26 : Nat) : Int)) (a2 : 0 ≤ w32 (x3 + 2) ∧ w32 (x3 + 2) < ((G.2.1 26 : Nat) : Int)) (a3 : 0 ≤ w32 (x3 + 3) ∧ w32 (x3 + 3) < ((G.2.1 26 : Nat) : Int)) (a4 : 0 ≤ w32 (x3 + 4) ∧ w32 (x3 + 4) < ((G.2.1 26 : Nat) : Int)) (a5 : 0 ≤ w32 (x3 + 5) ∧ w32 (x3 + 5) < ((G.2.1 26 : Nat) : Int)) (a6 : 0 ≤ w32 (x3 + 6) ∧ w32 (x3 + 6) < ((G.2.1 26 : Nat) : Int)) : ∃ h2 : AH, Inv h2 ∧ b14_law_1055 G rec x3 h = rec (x3 + 7, h2) := by
  obtain ⟨r, h1, h2, e1, e2, e3⟩ := q_spent (R (w32 (x3 + 1)).toNat) (R (w32 (x3 + 2)).toNat) (R (w32 (x3 + 3)).toNat) (R (w32 (x3 + 4)).toNat) (R (w32 (x3 + 5)).toNat) h hI
  unfold b14_law_1055 b14_law_1784
  simp only [asrt_t a1, asrt_t a2, asrt_t a3, asrt_t a4, asrt_t a5, asrt_t a6]
  rw [e1, bnd_some, e2, bnd_some, if_pos rfl]
  exact ⟨h2, e3, rfl⟩
theorem wb14_law_1118 (R : ∀ j, Rg (scr G j)) (hI : Inv h) (a1 : 0 ≤ w32 (x3 + 1) ∧ w32 (x3 + 1) < ((G.2.1 26 : Nat) : Int)) (a2 : 0 ≤ w32 (x3 + 2) ∧ w32 (x3 + 2) < ((G.2.1 26 : Nat) : Int)) (a3 : 0 ≤ w32 (x3 + 3) ∧ w32 (x3 + 3) < ((G.2.1 26 : Nat) : Int)) (a4 : 0 ≤ w32 (x3 + 4) ∧ w32 (x3 + 4) < ((G.2.1 26 : Nat) : Int)) (a5 : 0 ≤ w32 (x3 + 5) ∧ w32 (x3 + 5) < ((G.2.1 26 : Nat) : Int)) (a6 : 0 ≤ w32 (x3 + 6) ∧ w32 (x3 + 6) < ((G.2.1 26 : Nat) : Int)) : ∃ h2 : AH, Inv h2 ∧ b14_law_1118 G rec x3 h = rec (x3 + 7, h2) := by
  obtain ⟨r, h1, h2, e1, e2, e3⟩ := q_kept (R (w32 (x3 + 1)).toNat) (R (w32 (x3 + 2)).toNat) (R (w32 (x3 + 3)).toNat) (R (w32 (x3 + 4)).toNat) (R (w32 (x3 + 5)).toNat) h hI
  unfold b14_law_1118 b14_law_1784
  simp only [asrt_t a1, asrt_t a2, asrt_t a3, asrt_t a4, asrt_t a5, asrt_t a6]
  rw [e1, bnd_some, e2, bnd_some, if_pos rfl]
  exact ⟨h2, e3, rfl⟩
theorem wb14_law_1181 (R : ∀ j, Rg (scr G j)) (hI : Inv h) (a1 : 0 ≤ w32 (x3 + 1) ∧ w32 (x3 + 1) < ((G.2.1 26 : Nat) : Int)) (a2 : 0 ≤ w32 (x3 + 2) ∧ w32 (x3 + 2) < ((G.2.1 26 : Nat) : Int)) (a3 : 0 ≤ w32 (x3 + 3) ∧ w32 (x3 + 3) < ((G.2.1 26 : Nat) : Int)) (a4 : 0 ≤ w32 (x3 + 4) ∧ w32 (x3 + 4) < ((G.2.1 26 : Nat) : Int)) (a5 : 0 ≤ w32 (x3 + 5) ∧ w32 (x3 + 5) < ((G.2.1 26 : Nat) : Int)) (a6 : 0 ≤ w32 (x3 + 6) ∧ w32 (x3 + 6) < ((G.2.1 26 : Nat) : Int)) : ∃ h2 : AH, Inv h2 ∧ b14_law_1181 G rec x3 h = rec (x3 + 7, h2) := by
  obtain ⟨r, h1, h2, e1, e2, e3⟩ := q_calm (R (w32 (x3 + 1)).toNat) (R (w32 (x3 + 2)).toNat) (R (w32 (x3 + 3)).toNat) h hI
  unfold b14_law_1181 b14_law_1784
  simp only [asrt_t a1, asrt_t a2, asrt_t a3, asrt_t a4, asrt_t a5, asrt_t a6]
  rw [e1, bnd_some, e2, bnd_some, if_pos rfl]
  exact ⟨h2, e3, rfl⟩
theorem wb14_law_1224 (R : ∀ j, Rg (scr G j)) (hI : Inv h) (a1 : 0 ≤ w32 (x3 + 1) ∧ w32 (x3 + 1) < ((G.2.1 26 : Nat) : Int)) (a2 : 0 ≤ w32 (x3 + 2) ∧ w32 (x3 + 2) < ((G.2.1 26 : Nat) : Int)) (a3 : 0 ≤ w32 (x3 + 3) ∧ w32 (x3 + 3) < ((G.2.1 26 : Nat) : Int)) (a4 : 0 ≤ w32 (x3 + 4) ∧ w32 (x3 + 4) < ((G.2.1 26 : Nat) : Int)) (a5 : 0 ≤ w32 (x3 + 5) ∧ w32 (x3 + 5) < ((G.2.1 26 : Nat) : Int)) (a6 : 0 ≤ w32 (x3 + 6) ∧ w32 (x3 + 6) < ((G.2.1 26 : Nat) : Int)) : ∃ h2 : AH, Inv h2 ∧ b14_law_1224 G rec x3 h = rec (x3 + 7, h2) := by
  by_cases b : w32 (scr G (w32 (x3 + 4)).toNat) = 0
  · obtain ⟨r, h1, h2, e1, e2, e3⟩ := q_hired (R (w32 (x3 + 1)).toNat) (R (w32 (x3 + 2)).toNat) (R (w32 (x3 + 3)).toNat) (x4 := 0) (Or.inl rfl) h hI
    unfold b14_law_1224 b14_law_1253 b14_law_1285 b14_law_1784
    simp only [asrt_t a1, asrt_t a2, asrt_t a3, asrt_t a4, asrt_t a5, asrt_t a6, if_pos b]
    rw [e1, bnd_some, e2, bnd_some]
    first | rw [if_pos rfl] | rw [if_pos (cmp_rr r)]
    exact ⟨h2, e3, rfl⟩
  · obtain ⟨r, h1, h2, e1, e2, e3⟩ := q_hired (R (w32 (x3 + 1)).toNat) (R (w32 (x3 + 2)).toNat) (R (w32 (x3 + 3)).toNat) (x4 := 1) (Or.inr rfl) h hI
    unfold b14_law_1224 b14_law_1253 b14_law_1285 b14_law_1784
    simp only [asrt_t a1, asrt_t a2, asrt_t a3, asrt_t a4, asrt_t a5, asrt_t a6, if_neg b]
    rw [e1, bnd_some, e2, bnd_some]
    first | rw [if_pos rfl] | rw [if_pos (cmp_rr r)]
    exact ⟨h2, e3, rfl⟩
theorem wb14_law_1293 (R : ∀ j, Rg (scr G j)) (hI : Inv h) (a1 : 0 ≤ w32 (x3 + 1) ∧ w32 (x3 + 1) < ((G.2.1 26 : Nat) : Int)) (a2 : 0 ≤ w32 (x3 + 2) ∧ w32 (x3 + 2) < ((G.2.1 26 : Nat) : Int)) (a3 : 0 ≤ w32 (x3 + 3) ∧ w32 (x3 + 3) < ((G.2.1 26 : Nat) : Int)) (a4 : 0 ≤ w32 (x3 + 4) ∧ w32 (x3 + 4) < ((G.2.1 26 : Nat) : Int)) (a5 : 0 ≤ w32 (x3 + 5) ∧ w32 (x3 + 5) < ((G.2.1 26 : Nat) : Int)) (a6 : 0 ≤ w32 (x3 + 6) ∧ w32 (x3 + 6) < ((G.2.1 26 : Nat) : Int)) : ∃ h2 : AH, Inv h2 ∧ b14_law_1293 G rec x3 h = rec (x3 + 7, h2) := by
  obtain ⟨r, h1, h2, e1, e2, e3⟩ := q_filled (R (w32 (x3 + 1)).toNat) (R (w32 (x3 + 2)).toNat) (R (w32 (x3 + 3)).toNat) h hI
  unfold b14_law_1293 b14_law_1784
  simp only [asrt_t a1, asrt_t a2, asrt_t a3, asrt_t a4, asrt_t a5, asrt_t a6]
  rw [e1, bnd_some, e2, bnd_some, if_pos rfl]
  exact ⟨h2, e3, rfl⟩
theorem wb14_law_1336 (R : ∀ j, Rg (scr G j)) (hI : Inv h) (a1 : 0 ≤ w32 (x3 + 1) ∧ w32 (x3 + 1) < ((G.2.1 26 : Nat) : Int)) (a2 : 0 ≤ w32 (x3 + 2) ∧ w32 (x3 + 2) < ((G.2.1 26 : Nat) : Int)) (a3 : 0 ≤ w32 (x3 + 3) ∧ w32 (x3 + 3) < ((G.2.1 26 : Nat) : Int)) (a4 : 0 ≤ w32 (x3 + 4) ∧ w32 (x3 + 4) < ((G.2.1 26 : Nat) : Int)) (a5 : 0 ≤ w32 (x3 + 5) ∧ w32 (x3 + 5) < ((G.2.1 26 : Nat) : Int)) (a6 : 0 ≤ w32 (x3 + 6) ∧ w32 (x3 + 6) < ((G.2.1 26 : Nat) : Int)) : ∃ h2 : AH, Inv h2 ∧ b14_law_1336 G rec x3 h = rec (x3 + 7, h2) := by
  by_cases b : w32 (scr G (w32 (x3 + 2)).toNat) = 0
  · obtain ⟨r, h1, h2, e1, e2, e3⟩ := q_halves (R (w32 (x3 + 1)).toNat) (x2 := 0) (Or.inl rfl) h hI
    unfold b14_law_1336 b14_law_1355 b14_law_1377 b14_law_1784
    simp only [asrt_t a1, asrt_t a2, asrt_t a3, asrt_t a4, asrt_t a5, asrt_t a6, if_pos b]
    rw [e1, bnd_some, e2, bnd_some]
    first | rw [if_pos rfl] | rw [if_pos (cmp_rr r)]
    exact ⟨h2, e3, rfl⟩
  · obtain ⟨r, h1, h2, e1, e2, e3⟩ := q_halves (R (w32 (x3 + 1)).toNat) (x2 := 1) (Or.inr rfl) h hI
    unfold b14_law_1336 b14_law_1355 b14_law_1377 b14_law_1784
    simp only [asrt_t a1, asrt_t a2, asrt_t a3, asrt_t a4, asrt_t a5, asrt_t a6, if_neg b]
    rw [e1, bnd_some, e2, bnd_some]
    first | rw [if_pos rfl] | rw [if_pos (cmp_rr r)]
    exact ⟨h2, e3, rfl⟩
theorem wb14_law_1385 (R : ∀ j, Rg (scr G j)) (hI : Inv h) (a1 : 0 ≤ w32 (x3 + 1) ∧ w32 (x3 + 1) < ((G.2.1 26 : Nat) : Int)) (a2 : 0 ≤ w32 (x3 + 2) ∧ w32 (x3 + 2) < ((G.2.1 26 : Nat) : Int)) (a3 : 0 ≤ w32 (x3 + 3) ∧ w32 (x3 + 3) < ((G.2.1 26 : Nat) : Int)) (a4 : 0 ≤ w32 (x3 + 4) ∧ w32 (x3 + 4) < ((G.2.1 26 : Nat) : Int)) (a5 : 0 ≤ w32 (x3 + 5) ∧ w32 (x3 + 5) < ((G.2.1 26 : Nat) : Int)) (a6 : 0 ≤ w32 (x3 + 6) ∧ w32 (x3 + 6) < ((G.2.1 26 : Nat) : Int)) : ∃ h2 : AH, Inv h2 ∧ b14_law_1385 G rec x3 h = rec (x3 + 7, h2) := by
  obtain ⟨r, h1, h2, e1, e2, e3⟩ := q_circle (R (w32 (x3 + 1)).toNat) (R (w32 (x3 + 2)).toNat) h hI
  unfold b14_law_1385 b14_law_1784
  simp only [asrt_t a1, asrt_t a2, asrt_t a3, asrt_t a4, asrt_t a5, asrt_t a6]
  rw [e1, bnd_some, e2, bnd_some, if_pos rfl]
  exact ⟨h2, e3, rfl⟩
theorem wb14_law_1418 (R : ∀ j, Rg (scr G j)) (hI : Inv h) (a1 : 0 ≤ w32 (x3 + 1) ∧ w32 (x3 + 1) < ((G.2.1 26 : Nat) : Int)) (a2 : 0 ≤ w32 (x3 + 2) ∧ w32 (x3 + 2) < ((G.2.1 26 : Nat) : Int)) (a3 : 0 ≤ w32 (x3 + 3) ∧ w32 (x3 + 3) < ((G.2.1 26 : Nat) : Int)) (a4 : 0 ≤ w32 (x3 + 4) ∧ w32 (x3 + 4) < ((G.2.1 26 : Nat) : Int)) (a5 : 0 ≤ w32 (x3 + 5) ∧ w32 (x3 + 5) < ((G.2.1 26 : Nat) : Int)) (a6 : 0 ≤ w32 (x3 + 6) ∧ w32 (x3 + 6) < ((G.2.1 26 : Nat) : Int)) : ∃ h2 : AH, Inv h2 ∧ b14_law_1418 G rec x3 h = rec (x3 + 7, h2) := by
  obtain ⟨r, h1, h2, e1, e2, e3⟩ := q_kindred (R (w32 (x3 + 1)).toNat) (R (w32 (x3 + 2)).toNat) h hI
  unfold b14_law_1418 b14_law_1784
  simp only [asrt_t a1, asrt_t a2, asrt_t a3, asrt_t a4, asrt_t a5, asrt_t a6]
  rw [e1, bnd_some, e2, bnd_some, if_pos rfl]
  exact ⟨h2, e3, rfl⟩
theorem wb14_law_1451 (R : ∀ j, Rg (scr G j)) (hI : Inv h) (a1 : 0 ≤ w32 (x3 + 1) ∧ w32 (x3 + 1) < ((G.2.1 26 : Nat) : Int)) (a2 : 0 ≤ w32 (x3 + 2) ∧ w32 (x3 + 2) < ((G.2.1 26 : Nat) : Int)) (a3 : 0 ≤ w32 (x3 + 3) ∧ w32 (x3 + 3) < ((G.2.1 26 : Nat) : Int)) (a4 : 0 ≤ w32 (x3 + 4) ∧ w32 (x3 + 4) < ((G.2.1 26 : Nat) : Int)) (a5 : 0 ≤ w32 (x3 + 5) ∧ w32 (x3 + 5) < ((G.2.1 26 : Nat) : Int)) (a6 : 0 ≤ w32 (x3 + 6) ∧ w32 (x3 + 6) < ((G.2.1 26 : Nat) : Int)) : ∃ h2 : AH, Inv h2 ∧ b14_law_1451 G rec x3 h = rec (x3 + 7, h2) := by
  by_cases b : w32 (scr G (w32 (x3 + 3)).toNat) = 0
  · obtain ⟨r, h1, h2, e1, e2, e3⟩ := q_mean (R (w32 (x3 + 1)).toNat) (R (w32 (x3 + 2)).toNat) (x3 := 0) (Or.inl rfl) h hI
    unfold b14_law_1451 b14_law_1475 b14_law_1502 b14_law_1784
    simp only [asrt_t a1, asrt_t a2, asrt_t a3, asrt_t a4, asrt_t a5, asrt_t a6, if_pos b]
    rw [e1, bnd_some, e2, bnd_some]
    first | rw [if_pos rfl] | rw [if_pos (cmp_rr r)]
    exact ⟨h2, e3, rfl⟩
  · obtain ⟨r, h1, h2, e1, e2, e3⟩ := q_mean (R (w32 (x3 + 1)).toNat) (R (w32 (x3 + 2)).toNat) (x3 := 1) (Or.inr rfl) h hI
    unfold b14_law_1451 b14_law_1475 b14_law_1502 b14_law_1784
    simp only [asrt_t a1, asrt_t a2, asrt_t a3, asrt_t a4, asrt_t a5, asrt_t a6, if_neg b]
    rw [e1, bnd_some, e2, bnd_some]
    first | rw [if_pos rfl] | rw [if_pos (cmp_rr r)]
    exact ⟨h2, e3, rfl⟩
theorem wb14_law_1511 (R : ∀ j, Rg (scr G j)) (hI : Inv h) (a1 : 0 ≤ w32 (x3 + 1) ∧ w32 (x3 + 1) < ((G.2.1 26 : Nat) : Int)) (a2 : 0 ≤ w32 (x3 + 2) ∧ w32 (x3 + 2) < ((G.2.1 26 : Nat) : Int)) (a3 : 0 ≤ w32 (x3 + 3) ∧ w32 (x3 + 3) < ((G.2.1 26 : Nat) : Int)) (a4 : 0 ≤ w32 (x3 + 4) ∧ w32 (x3 + 4) < ((G.2.1 26 : Nat) : Int)) (a5 : 0 ≤ w32 (x3 + 5) ∧ w32 (x3 + 5) < ((G.2.1 26 : Nat) : Int)) (a6 : 0 ≤ w32 (x3 + 6) ∧ w32 (x3 + 6) < ((G.2.1 26 : Nat) : Int)) : ∃ h2 : AH, Inv h2 ∧ b14_law_1511 G rec x3 h = rec (x3 + 7, h2) := by
  obtain ⟨r, h1, h2, e1, e2, e3⟩ := q_after (R (w32 (x3 + 1)).toNat) (R (w32 (x3 + 2)).toNat) (R (w32 (x3 + 3)).toNat) h hI
  unfold b14_law_1511 b14_law_1784
  simp only [asrt_t a1, asrt_t a2, asrt_t a3, asrt_t a4, asrt_t a5, asrt_t a6]
  rw [e1, bnd_some, e2, bnd_some, if_pos rfl]
  exact ⟨h2, e3, rfl⟩
theorem wb14_law_1554 (R : ∀ j, Rg (scr G j)) (hI : Inv h) (a1 : 0 ≤ w32 (x3 + 1) ∧ w32 (x3 + 1) < ((G.2.1 26 : Nat) : Int)) (a2 : 0 ≤ w32 (x3 + 2) ∧ w32 (x3 + 2) < ((G.2.1 26 : Nat) : Int)) (a3 : 0 ≤ w32 (x3 + 3) ∧ w32 (x3 + 3) < ((G.2.1 26 : Nat) : Int)) (a4 : 0 ≤ w32 (x3 + 4) ∧ w32 (x3 + 4) < ((G.2.1 26 : Nat) : Int)) (a5 : 0 ≤ w32 (x3 + 5) ∧ w32 (x3 + 5) < ((G.2.1 26 : Nat) : Int)) (a6 : 0 ≤ w32 (x3 + 6) ∧ w32 (x3 + 6) < ((G.2.1 26 : Nat) : Int)) : ∃ h2 : AH, Inv h2 ∧ b14_law_1554 G rec x3 h = rec (x3 + 7, h2) := by
  by_cases b : w32 (scr G (w32 (x3 + 5)).toNat) = 0
  · obtain ⟨r, h1, h2, e1, e2, e3⟩ := q_next (R (w32 (x3 + 1)).toNat) (R (w32 (x3 + 2)).toNat) (R (w32 (x3 + 3)).toNat) (R (w32 (x3 + 4)).toNat) (x5 := 0) (Or.inl rfl) h hI
    unfold b14_law_1554 b14_law_1588 b14_law_1625 b14_law_1784
    simp only [asrt_t a1, asrt_t a2, asrt_t a3, asrt_t a4, asrt_t a5, asrt_t a6, if_pos b]
    rw [e1, bnd_some, e2, bnd_some]
    first | rw [if_pos rfl] | rw [if_pos (cmp_rr r)]
    exact ⟨h2, e3, rfl⟩
  · obtain ⟨r, h1, h2, e1, e2, e3⟩ := q_next (R (w32 (x3 + 1)).toNat) (R (w32 (x3 + 2)).toNat) (R (w32 (x3 + 3)).toNat) (R (w32 (x3 + 4)).toNat) (x5 := 1) (Or.inr rfl) h hI
    unfold b14_law_1554 b14_law_1588 b14_law_1625 b14_law_1784
    simp only [asrt_t a1, asrt_t a2, asrt_t a3, asrt_t a4, asrt_t a5, asrt_t a6, if_neg b]
    rw [e1, bnd_some, e2, bnd_some]
    first | rw [if_pos rfl] | rw [if_pos (cmp_rr r)]
    exact ⟨h2, e3, rfl⟩
theorem wb14_law_1633 (R : ∀ j, Rg (scr G j)) (hI : Inv h) (a1 : 0 ≤ w32 (x3 + 1) ∧ w32 (x3 + 1) < ((G.2.1 26 : Nat) : Int)) (a2 : 0 ≤ w32 (x3 + 2) ∧ w32 (x3 + 2) < ((G.2.1 26 : Nat) : Int)) (a3 : 0 ≤ w32 (x3 + 3) ∧ w32 (x3 + 3) < ((G.2.1 26 : Nat) : Int)) (a4 : 0 ≤ w32 (x3 + 4) ∧ w32 (x3 + 4) < ((G.2.1 26 : Nat) : Int)) (a5 : 0 ≤ w32 (x3 + 5) ∧ w32 (x3 + 5) < ((G.2.1 26 : Nat) : Int)) (a6 : 0 ≤ w32 (x3 + 6) ∧ w32 (x3 + 6) < ((G.2.1 26 : Nat) : Int)) : ∃ h2 : AH, Inv h2 ∧ b14_law_1633 G rec x3 h = rec (x3 + 7, h2) := by
  by_cases b : w32 (scr G (w32 (x3 + 3)).toNat) = 0
  · obtain ⟨r, h1, h2, e1, e2, e3⟩ := q_farthest (R (w32 (x3 + 1)).toNat) (R (w32 (x3 + 2)).toNat) (x3 := 0) (Or.inl rfl) h hI
    unfold b14_law_1633 b14_law_1657 b14_law_1684 b14_law_1784
    simp only [asrt_t a1, asrt_t a2, asrt_t a3, asrt_t a4, asrt_t a5, asrt_t a6, if_pos b]
    rw [e1, bnd_some, e2, bnd_some]
    first | rw [if_pos rfl] | rw [if_pos (cmp_rr r)]
    exact ⟨h2, e3, rfl⟩
  · obtain ⟨r, h1, h2, e1, e2, e3⟩ := q_farthest (R (w32 (x3 + 1)).toNat) (R (w32 (x3 + 2)).toNat) (x3 := 1) (Or.inr rfl) h hI
    unfold b14_law_1633 b14_law_1657 b14_law_1684 b14_law_1784
    simp only [asrt_t a1, asrt_t a2, asrt_t a3, asrt_t a4, asrt_t a5, asrt_t a6, if_neg b]
    rw [e1, bnd_some, e2, bnd_some]
    first | rw [if_pos rfl] | rw [if_pos (cmp_rr r)]
    exact ⟨h2, e3, rfl⟩
theorem wb14_law_1692 (R : ∀ j, Rg (scr G j)) (hI : Inv h) (a1 : 0 ≤ w32 (x3 + 1) ∧ w32 (x3 + 1) < ((G.2.1 26 : Nat) : Int)) (a2 : 0 ≤ w32 (x3 + 2) ∧ w32 (x3 + 2) < ((G.2.1 26 : Nat) : Int)) (a3 : 0 ≤ w32 (x3 + 3) ∧ w32 (x3 + 3) < ((G.2.1 26 : Nat) : Int)) (a4 : 0 ≤ w32 (x3 + 4) ∧ w32 (x3 + 4) < ((G.2.1 26 : Nat) : Int)) (a5 : 0 ≤ w32 (x3 + 5) ∧ w32 (x3 + 5) < ((G.2.1 26 : Nat) : Int)) (a6 : 0 ≤ w32 (x3 + 6) ∧ w32 (x3 + 6) < ((G.2.1 26 : Nat) : Int)) : ∃ h2 : AH, Inv h2 ∧ b14_law_1692 G rec x3 h = rec (x3 + 7, h2) := by
  obtain ⟨r, h1, h2, e1, e2, e3⟩ := q_quiet (R (w32 (x3 + 1)).toNat) h hI
  unfold b14_law_1692 b14_law_1784
  simp only [asrt_t a1, asrt_t a2, asrt_t a3, asrt_t a4, asrt_t a5, asrt_t a6]
  rw [e1, bnd_some, e2, bnd_some, if_pos rfl]
  exact ⟨h2, e3, rfl⟩
theorem wb14_law_1715 (R : ∀ j, Rg (scr G j)) (hI : Inv h) (a1 : 0 ≤ w32 (x3 + 1) ∧ w32 (x3 + 1) < ((G.2.1 26 : Nat) : Int)) (a2 : 0 ≤ w32 (x3 + 2) ∧ w32 (x3 + 2) < ((G.2.1 26 : Nat) : Int)) (a3 : 0 ≤ w32 (x3 + 3) ∧ w32 (x3 + 3) < ((G.2.1 26 : Nat) : Int)) (a4 : 0 ≤ w32 (x3 + 4) ∧ w32 (x3 + 4) < ((G.2.1 26 : Nat) : Int)) (a5 : 0 ≤ w32 (x3 + 5) ∧ w32 (x3 + 5) < ((G.2.1 26 : Nat) : Int)) (a6 : 0 ≤ w32 (x3 + 6) ∧ w32 (x3 + 6) < ((G.2.1 26 : Nat) : Int)) : ∃ h2 : AH, Inv h2 ∧ b14_law_1715 G rec x3 h = rec (x3 + 7, h2) := by
  obtain ⟨r, h1, h2, e1, e2, e3⟩ := q_count (R (w32 (x3 + 1)).toNat) h hI
  unfold b14_law_1715 b14_law_1784
  simp only [asrt_t a1, asrt_t a2, asrt_t a3, asrt_t a4, asrt_t a5, asrt_t a6]
  rw [e1, bnd_some, e2, bnd_some, if_pos rfl]
  exact ⟨h2, e3, rfl⟩
theorem wb14_law_1738 (R : ∀ j, Rg (scr G j)) (hI : Inv h) (a1 : 0 ≤ w32 (x3 + 1) ∧ w32 (x3 + 1) < ((G.2.1 26 : Nat) : Int)) (a2 : 0 ≤ w32 (x3 + 2) ∧ w32 (x3 + 2) < ((G.2.1 26 : Nat) : Int)) (a3 : 0 ≤ w32 (x3 + 3) ∧ w32 (x3 + 3) < ((G.2.1 26 : Nat) : Int)) (a4 : 0 ≤ w32 (x3 + 4) ∧ w32 (x3 + 4) < ((G.2.1 26 : Nat) : Int)) (a5 : 0 ≤ w32 (x3 + 5) ∧ w32 (x3 + 5) < ((G.2.1 26 : Nat) : Int)) (a6 : 0 ≤ w32 (x3 + 6) ∧ w32 (x3 + 6) < ((G.2.1 26 : Nat) : Int)) : ∃ h2 : AH, Inv h2 ∧ b14_law_1738 G rec x3 h = rec (x3 + 7, h2) := by
  obtain ⟨r, h1, h2, e1, e2, e3⟩ := q_image (R (w32 (x3 + 1)).toNat) h hI
  unfold b14_law_1738 b14_law_1784
  simp only [asrt_t a1, asrt_t a2, asrt_t a3, asrt_t a4, asrt_t a5, asrt_t a6]
  rw [e1, bnd_some, e2, bnd_some, if_pos rfl]
  exact ⟨h2, e3, rfl⟩
theorem wb14_law_1761 (R : ∀ j, Rg (scr G j)) (hI : Inv h) (a1 : 0 ≤ w32 (x3 + 1) ∧ w32 (x3 + 1) < ((G.2.1 26 : Nat) : Int)) (a2 : 0 ≤ w32 (x3 + 2) ∧ w32 (x3 + 2) < ((G.2.1 26 : Nat) : Int)) (a3 : 0 ≤ w32 (x3 + 3) ∧ w32 (x3 + 3) < ((G.2.1 26 : Nat) : Int)) (a4 : 0 ≤ w32 (x3 + 4) ∧ w32 (x3 + 4) < ((G.2.1 26 : Nat) : Int)) (a5 : 0 ≤ w32 (x3 + 5) ∧ w32 (x3 + 5) < ((G.2.1 26 : Nat) : Int)) (a6 : 0 ≤ w32 (x3 + 6) ∧ w32 (x3 + 6) < ((G.2.1 26 : Nat) : Int)) : ∃ h2 : AH, Inv h2 ∧ b14_law_1761 G rec x3 h = rec (x3 + 7, h2) := by
  obtain ⟨r, h1, h2, e1, e2, e3⟩ := q_again (R (w32 (x3 + 1)).toNat) h hI
  unfold b14_law_1761 b14_law_1784
  simp only [asrt_t a1, asrt_t a2, asrt_t a3, asrt_t a4, asrt_t a5, asrt_t a6]
  rw [e1, bnd_some, e2, bnd_some, if_pos rfl]
  exact ⟨h2, e3, rfl⟩
theorem w_step {L i : Nat} (hL : G.2.1 26 = L) (L3 : L ≤ 3584) (R : ∀ j, Rg (scr G j)) (hI : Inv h) (rec : Int × AH → Option (Int × AH)) (hi : i + 7 ≤ L) : ∃ h2 : AH, Inv h2 ∧ ∀ K, K = b14_law_18 G rec (i : Int) h → K = rec ((i : Int) + 7, h2) := by
  have a : ∀ j : Int, 0 ≤ j → j ≤ 6 → 0 ≤ w32 ((i : Int) + j) ∧ w32 ((i : Int) + j) < ((G.2.1 26 : Nat) : Int) := fun j j0 j1 => by
    rw [hL, w32_id (by omega) (by omega)]; omega
  have a1 := a 1 (by omega) (by omega)
  have a2 := a 2 (by omega) (by omega)
  have a3 := a 3 (by omega) (by omega)
  have a4 := a 4 (by omega) (by omega)
  have a5 := a 5 (by omega) (by omega)
  have a6 := a 6 (by omega) (by omega)
  unfold b14_law_18
  rw [hL, w32_id (x := (L : Int) - 7) (by omega) (by omega), w32_id (x := (i : Int)) (by omega) (by omega), if_neg (by omega), asrt_t (by omega)]
  generalize w32 (and32 (scr G (i : Int).toNat) 63) = v
  by_cases e0 : v = 0
  · rw [if_pos e0]
    obtain ⟨h2, q1, q2⟩ := wb14_law_184 (rec := rec) R hI a1 a2 a3 a4 a5 a6
    exact ⟨h2, q1, fun K e => e.trans q2⟩
  rw [if_neg e0]
  by_cases e1 : v = 1
  · rw [if_pos e1]
    obtain ⟨h2, q1, q2⟩ := wb14_law_247 (rec := rec) R hI a1 a2 a3 a4 a5 a6
    exact ⟨h2, q1, fun K e => e.trans q2⟩
  rw [if_neg e1]
  by_cases e2 : v = 2
  · rw [if_pos e2]
    obtain ⟨h2, q1, q2⟩ := wb14_law_270 (rec := rec) R hI a1 a2 a3 a4 a5 a6
    exact ⟨h2, q1, fun K e => e.trans q2⟩
  rw [if_neg e2]
  by_cases e3 : v = 3
  · rw [if_pos e3]
    obtain ⟨h2, q1, q2⟩ := wb14_law_303 (rec := rec) R hI a1 a2 a3 a4 a5 a6
    exact ⟨h2, q1, fun K e => e.trans q2⟩
  rw [if_neg e3]
  by_cases e4 : v = 4
  · rw [if_pos e4]
    obtain ⟨h2, q1, q2⟩ := wb14_law_326 (rec := rec) R hI a1 a2 a3 a4 a5 a6
    exact ⟨h2, q1, fun K e => e.trans q2⟩
  rw [if_neg e4]
  by_cases e5 : v = 5
  · rw [if_pos e5]
    obtain ⟨h2, q1, q2⟩ := wb14_law_359 (rec := rec) R hI a1 a2 a3 a4 a5 a6
    exact ⟨h2, q1, fun K e => e.trans q2⟩
  rw [if_neg e5]
  by_cases e6 : v = 6
  · rw [if_pos e6]
    obtain ⟨h2, q1, q2⟩ := wb14_law_438 (rec := rec) R hI a1 a2 a3 a4 a5 a6
    exact ⟨h2, q1, fun K e => e.trans q2⟩
  rw [if_neg e6]
  by_cases e7 : v = 7
  · rw [if_pos e7]
    obtain ⟨h2, q1, q2⟩ := wb14_law_481 (rec := rec) R hI a1 a2 a3 a4 a5 a6
    exact ⟨h2, q1, fun K e => e.trans q2⟩
  rw [if_neg e7]
  by_cases e8 : v = 8
  · rw [if_pos e8]
    obtain ⟨h2, q1, q2⟩ := wb14_law_514 (rec := rec) R hI a1 a2 a3 a4 a5 a6
    exact ⟨h2, q1, fun K e => e.trans q2⟩
  rw [if_neg e8]
  by_cases e9 : v = 9
  · rw [if_pos e9]
    obtain ⟨h2, q1, q2⟩ := wb14_law_567 (rec := rec) R hI a1 a2 a3 a4 a5 a6
    exact ⟨h2, q1, fun K e => e.trans q2⟩
  rw [if_neg e9]
  by_cases e10 : v = 10
  · rw [if_pos e10]
    obtain ⟨h2, q1, q2⟩ := wb14_law_636 (rec := rec) R hI a1 a2 a3 a4 a5 a6
    exact ⟨h2, q1, fun K e => e.trans q2⟩
  rw [if_neg e10]
  by_cases e11 : v = 11
  · rw [if_pos e11]
    obtain ⟨h2, q1, q2⟩ := wb14_law_715 (rec := rec) R hI a1 a2 a3 a4 a5 a6
    exact ⟨h2, q1, fun K e => e.trans q2⟩
  rw [if_neg e11]
  by_cases e12 : v = 12
  · rw [if_pos e12]
    obtain ⟨h2, q1, q2⟩ := wb14_law_758 (rec := rec) R hI a1 a2 a3 a4 a5 a6
    exact ⟨h2, q1, fun K e => e.trans q2⟩
  rw [if_neg e12]
  by_cases e13 : v = 13
  · rw [if_pos e13]
    obtain ⟨h2, q1, q2⟩ := wb14_law_791 (rec := rec) R hI a1 a2 a3 a4 a5 a6
    exact ⟨h2, q1, fun K e => e.trans q2⟩
  rw [if_neg e13]
  by_cases e14 : v = 14
  · rw [if_pos e14]
    obtain ⟨h2, q1, q2⟩ := wb14_law_824 (rec := rec) R hI a1 a2 a3 a4 a5 a6
    exact ⟨h2, q1, fun K e => e.trans q2⟩
  rw [if_neg e14]
  by_cases e15 : v = 15
  · rw [if_pos e15]
    obtain ⟨h2, q1, q2⟩ := wb14_law_916 (rec := rec) R hI a1 a2 a3 a4 a5 a6
    exact ⟨h2, q1, fun K e => e.trans q2⟩
  rw [if_neg e15]
  by_cases e16 : v = 16
  · rw [if_pos e16]
    obtain ⟨h2, q1, q2⟩ := wb14_law_959 (rec := rec) R hI a1 a2 a3 a4 a5 a6
    exact ⟨h2, q1, fun K e => e.trans q2⟩
  rw [if_neg e16]
  by_cases e17 : v = 17
  · rw [if_pos e17]
    obtain ⟨h2, q1, q2⟩ := wb14_law_1002 (rec := rec) R hI a1 a2 a3 a4 a5 a6
    exact ⟨h2, q1, fun K e => e.trans q2⟩
  rw [if_neg e17]
  by_cases e18 : v = 18
  · rw [if_pos e18]
    obtain ⟨h2, q1, q2⟩ := wb14_law_1055 (rec := rec) R hI a1 a2 a3 a4 a5 a6
    exact ⟨h2, q1, fun K e => e.trans q2⟩
  rw [if_neg e18]
  by_cases e19 : v = 19
  · rw [if_pos e19]
    obtain ⟨h2, q1, q2⟩ := wb14_law_1118 (rec := rec) R hI a1 a2 a3 a4 a5 a6
    exact ⟨h2, q1, fun K e => e.trans q2⟩
  rw [if_neg e19]
  by_cases e20 : v = 20
  · rw [if_pos e20]
    obtain ⟨h2, q1, q2⟩ := wb14_law_1181 (rec := rec) R hI a1 a2 a3 a4 a5 a6
    exact ⟨h2, q1, fun K e => e.trans q2⟩
  rw [if_neg e20]
  by_cases e21 : v = 21
  · rw [if_pos e21]
    obtain ⟨h2, q1, q2⟩ := wb14_law_1224 (rec := rec) R hI a1 a2 a3 a4 a5 a6
    exact ⟨h2, q1, fun K e => e.trans q2⟩
  rw [if_neg e21]
  by_cases e22 : v = 22
  · rw [if_pos e22]
    obtain ⟨h2, q1, q2⟩ := wb14_law_1293 (rec := rec) R hI a1 a2 a3 a4 a5 a6
    exact ⟨h2, q1, fun K e => e.trans q2⟩
  rw [if_neg e22]
  by_cases e23 : v = 23
  · rw [if_pos e23]
    obtain ⟨h2, q1, q2⟩ := wb14_law_1336 (rec := rec) R hI a1 a2 a3 a4 a5 a6
    exact ⟨h2, q1, fun K e => e.trans q2⟩
  rw [if_neg e23]
  by_cases e24 : v = 24
  · rw [if_pos e24]
    obtain ⟨h2, q1, q2⟩ := wb14_law_1385 (rec := rec) R hI a1 a2 a3 a4 a5 a6
    exact ⟨h2, q1, fun K e => e.trans q2⟩
  rw [if_neg e24]
  by_cases e25 : v = 25
  · rw [if_pos e25]
    obtain ⟨h2, q1, q2⟩ := wb14_law_1418 (rec := rec) R hI a1 a2 a3 a4 a5 a6
    exact ⟨h2, q1, fun K e => e.trans q2⟩
  rw [if_neg e25]
  by_cases e26 : v = 26
  · rw [if_pos e26]
    obtain ⟨h2, q1, q2⟩ := wb14_law_1451 (rec := rec) R hI a1 a2 a3 a4 a5 a6
    exact ⟨h2, q1, fun K e => e.trans q2⟩
  rw [if_neg e26]
  by_cases e27 : v = 27
  · rw [if_pos e27]
    obtain ⟨h2, q1, q2⟩ := wb14_law_1511 (rec := rec) R hI a1 a2 a3 a4 a5 a6
    exact ⟨h2, q1, fun K e => e.trans q2⟩
  rw [if_neg e27]
  by_cases e28 : v = 28
  · rw [if_pos e28]
    obtain ⟨h2, q1, q2⟩ := wb14_law_1554 (rec := rec) R hI a1 a2 a3 a4 a5 a6
    exact ⟨h2, q1, fun K e => e.trans q2⟩
  rw [if_neg e28]
  by_cases e29 : v = 29
  · rw [if_pos e29]
    obtain ⟨h2, q1, q2⟩ := wb14_law_1633 (rec := rec) R hI a1 a2 a3 a4 a5 a6
    exact ⟨h2, q1, fun K e => e.trans q2⟩
  rw [if_neg e29]
  by_cases e30 : v = 30
  · rw [if_pos e30]
    obtain ⟨h2, q1, q2⟩ := wb14_law_1692 (rec := rec) R hI a1 a2 a3 a4 a5 a6
    exact ⟨h2, q1, fun K e => e.trans q2⟩
  rw [if_neg e30]
  by_cases e31 : v = 31
  · rw [if_pos e31]
    obtain ⟨h2, q1, q2⟩ := wb14_law_1715 (rec := rec) R hI a1 a2 a3 a4 a5 a6
    exact ⟨h2, q1, fun K e => e.trans q2⟩
  rw [if_neg e31]
  by_cases e32 : v = 32
  · rw [if_pos e32]
    obtain ⟨h2, q1, q2⟩ := wb14_law_1738 (rec := rec) R hI a1 a2 a3 a4 a5 a6
    exact ⟨h2, q1, fun K e => e.trans q2⟩
  rw [if_neg e32]
  by_cases e33 : v = 33
  · rw [if_pos e33]
    obtain ⟨h2, q1, q2⟩ := wb14_law_1761 (rec := rec) R hI a1 a2 a3 a4 a5 a6
    exact ⟨h2, q1, fun K e => e.trans q2⟩
  rw [if_neg e33]
  exact ⟨h, hI, fun K e => e⟩
theorem inv_c0 : Inv (0, c0) := by
  refine ⟨⟨⟨fun q hq => ?_, ⟨rfl, by decide, rfl, rfl⟩, fun i hi => ?_, fun k hk => ?_, fun k hk => ?_, fun k hk => ?_, fun k hk => ?_⟩, rfl, fun k hk => Or.inl ⟨rfl, rfl⟩, fun k q _ _ _ => Or.inl rfl⟩, ⟨rfl, rfl⟩, rfl, rfl⟩
  · rcases (show q = 0 ∨ q = 1 ∨ q = 2 by omega) with rfl | rfl | rfl <;> decide
  · have e : pv c0 70 (0 + 10 + i) = 0 := by
      rw [pv_70]
      show (if 0 + 10 + i = 6 then (-1 : Int) else 0) = 0
      rw [if_neg (by omega)]
    rw [e]
    exact ⟨by omega, rfl⟩
  · have hk : (k : Int) < 0 := hk
    omega
  · have hk : (k : Int) < 0 := hk
    omega
  · have hk : (k : Int) < 0 := hk
    omega
  · rcases (show k = 0 ∨ k = 1 by omega) with rfl | rfl <;> decide
theorem law_end (G : Geo) (hL : G.2.1 26 ≤ 3584) (hs : ∀ j, -2147483648 ≤ scr G j ∧ scr G j < 2147483648) : ∃ h' : AH, h'.1 ≤ 3 ∧ l14_law_18 G 0 (0, c0) = some (1, h') := by
  have key : ∃ h' : AH, l14_law_18 G 0 (0, c0) = some (1, h') ∧ h'.1 ≤ 3 := by
    unfold l14_law_18
    refine wh (F := fun rec (z : Int × AH) => b14_law_18 G rec z.1 z.2) (fun m z => ∃ i : Nat, z.1 = i ∧ Inv z.2 ∧ m = 3600 - i ∧ i ≤ 3600) (fun X => ∃ h' : AH, X = some (1, h') ∧ h'.1 ≤ 3) (fun m z hp rec => ?_) FU 3600 (0, (0, c0)) ⟨0, rfl, inv_c0, rfl, by omega⟩ (FU_big (by omega))
    obtain ⟨x, u⟩ := z
    obtain ⟨i, rfl, hI, hm, hi⟩ := hp
    obtain ⟨L, eL⟩ : ∃ L, G.2.1 26 = L := ⟨_, rfl⟩
    by_cases c : i + 7 ≤ L
    · right
      obtain ⟨h2, q1, q2⟩ := w_step (G := G) (h := u) (L := L) (i := i) eL (by omega) hs hI rec c
      exact ⟨3600 - (i + 7), ((i : Int) + 7, h2), by omega, ⟨i + 7, by show (i : Int) + 7 = ((i + 7 : Nat) : Int); omega, q1, rfl, by omega⟩, q2 _ rfl⟩
    · left
      refine ⟨u, ?_, hI.le3⟩
      dsimp only
      unfold b14_law_18
      rw [eL, w32_id (x := (L : Int) - 7) (by omega) (by omega), w32_id (x := (i : Int)) (by omega) (by omega), if_pos (by omega)]
  obtain ⟨h', k1, k2⟩ := key
  exact ⟨h', k2, k1⟩
end LawOk
