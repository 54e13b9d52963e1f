/-! what is read is put where it is told -/
theorem TR_new {c d : Nat → Nat → Int} {s k : Nat} (hs : s < 3) (hT : TR c 1 0)
    (e1 : d 1 1 = d 70 4 ∧ (0 ≤ d 70 4 ∧ d 70 4 ≤ 600) ∧ d 1 2 = d 70 5 ∧ d 1 3 = d 70 6)
    (e2 : ∀ i, i < 600 → (0 ≤ d 70 (10 + i) ∧ d 70 (10 + i) ≤ 255) ∧ d 2 i = i2b (d 70 (10 + i)))
    (ec : ∀ q, q < 3 → q ≠ s → d 3 q = c 3 q ∧ d 70 q = c 70 q)
    (es : d 3 s = d 70 s ∧ (0 ≤ d 70 s ∧ d 70 s ≤ 2) ∧ ∀ j : Nat, j ≠ k → (j : Int) < d 70 s → (j : Int) < c 70 s)
    (eV : ∀ j, j < 2 → ¬ (s = 0 ∧ j = k) → (∀ a i, 7 + 10 * j ≤ a → a ≤ 12 + 10 * j → d a i = c a i) ∧ ∀ i, i < 72 → d 70 (610 + 72 * j + i) = c 70 (610 + 72 * j + i))
    (eD : ∀ j, j < 2 → ¬ (s = 1 ∧ j = k) → (∀ a i, a = 13 + 10 * j ∨ a = 14 + 10 * j → d a i = c a i) ∧ ∀ i, i < 201 → d 70 (754 + 201 * j + i) = c 70 (754 + 201 * j + i))
    (eL : ∀ j, j < 2 → ¬ (s = 2 ∧ j = k) → (∀ a i, a = 15 + 10 * j ∨ a = 16 + 10 * j → d a i = c a i) ∧ ∀ i, i < 25 → d 70 (1156 + 25 * j + i) = c 70 (1156 + 25 * j + i))
    (nV : s = 0 → VOK (rowV d (610 + 72 * k)) ∧ VC d (7 + 10 * k) (rowV d (610 + 72 * k)))
    (nD : s = 1 → DOK (rowV d (754 + 201 * k)) ∧ RC d (13 + 10 * k) 5 (rowV d (754 + 201 * k)))
    (nL : s = 2 → LOK (rowV d (1156 + 25 * k)) ∧ RC d (15 + 10 * k) 3 (rowV d (1156 + 25 * k)))
    (e7 : ∀ j, j < 2 → (d (13 + 10 * j) 0 = 5 ∧ d (13 + 10 * j) 1 = 40) ∧ d (15 + 10 * j) 0 = 3 ∧ d (15 + 10 * j) 1 = 8) : TR d 1 0 := by
  obtain ⟨b1, b2, b3, b4, b5, b6, b7⟩ := hT
  have cq : ∀ q, q < 3 → c 3 q = c 70 q ∧ 0 ≤ c 70 q ∧ c 70 q ≤ 2 := fun q hq => by have := b1 q hq; rwa [Nat.zero_add] at this
  have dq : ∀ q, q < 3 → d 3 q = d 70 q ∧ 0 ≤ d 70 q ∧ d 70 q ≤ 2 := fun q hq => by
    by_cases y : q = s
    · subst y; exact ⟨es.1, es.2.1⟩
    · rw [(ec q hq y).1, (ec q hq y).2]; exact cq q hq
  have lt2 : ∀ (q j : Nat), q < 3 → (j : Int) < d 70 q → j < 2 := fun q j hq hj => by have := (dq q hq).2; omega
  have old : ∀ (q j : Nat), q < 3 → ¬ (s = q ∧ j = k) → (j : Int) < d 70 q → (j : Int) < c 70 q := fun q j hq hn hj => by
    by_cases y : q = s
    · subst y; exact es.2.2 j (fun e => hn ⟨rfl, e⟩) hj
    · rw [← (ec q hq y).2]; exact hj
  refine ⟨fun q hq => by rw [Nat.zero_add]; exact dq q hq, by simpa using e1, fun i hi => by simpa using e2 i hi, fun j hj => ?_, fun j hj => ?_, fun j hj => ?_, fun j hj => ?_⟩
  · rw [show 0 + 610 + 72 * j = 610 + 72 * j by omega, show 1 + 6 + 10 * j = 7 + 10 * j by omega]
    by_cases y : s = 0 ∧ j = k
    · obtain ⟨y1, rfl⟩ := y
      exact nV y1
    · obtain ⟨x1, x2⟩ := b4 j (old 0 j (by omega) y hj)
      rw [show 0 + 610 + 72 * j = 610 + 72 * j by omega] at x1 x2
      rw [show 1 + 6 + 10 * j = 7 + 10 * j by omega] at x2
      obtain ⟨u1, u2⟩ := eV j (lt2 0 j (by omega) hj) y
      have fv : ∀ i, i < 72 → rowV d (610 + 72 * j) i = rowV c (610 + 72 * j) i := fun i hi => u2 i hi
      exact ⟨VOK_cong fv x1, VC_congV fv x1 (VC_mk x1.z x2 (fun i _ => u1 _ _ (by omega) (by omega)) (fun i _ => ⟨u1 _ _ (by omega) (by omega), u1 _ _ (by omega) (by omega)⟩) (fun i _ => ⟨u1 _ _ (by omega) (by omega), u1 _ _ (by omega) (by omega)⟩) (fun i _ => u1 _ _ (by omega) (by omega)))⟩
  · rw [show 0 + 754 + 201 * j = 754 + 201 * j by omega, show 1 + 12 + 10 * j = 13 + 10 * j by omega]
    rw [Nat.zero_add] at hj
    by_cases y : s = 1 ∧ j = k
    · obtain ⟨y1, rfl⟩ := y
      exact nD y1
    · obtain ⟨x1, x2, x3⟩ := b5 j (by rw [Nat.zero_add]; exact old 1 j (by omega) y hj)
      rw [show 0 + 754 + 201 * j = 754 + 201 * j by omega] at x1 x2 x3
      rw [show 1 + 12 + 10 * j = 13 + 10 * j by omega] at x2 x3
      obtain ⟨u1, u2⟩ := eD j (lt2 1 j (by omega) hj) y
      have fv : ∀ i, i < 201 → rowV d (754 + 201 * j) i = rowV c (754 + 201 * j) i := fun i hi => u2 i hi
      have x0 := x1.1
      refine ⟨DOK_cong fv x1, by rw [u1 _ _ (Or.inl rfl), fv 0 (by omega)]; exact x2, fun i hi => ?_⟩
      rw [fv 0 (by omega)] at hi
      have hi2 : (i : Int) < 5 * rowV c (754 + 201 * j) 0 := hi
      rw [u1 _ _ (Or.inr (by omega)), fv (1 + i) (by omega)]; exact x3 i hi
  · rw [show 0 + 1156 + 25 * j = 1156 + 25 * j by omega, show 1 + 14 + 10 * j = 15 + 10 * j by omega]
    rw [Nat.zero_add] at hj
    by_cases y : s = 2 ∧ j = k
    · obtain ⟨y1, rfl⟩ := y
      exact nL y1
    · obtain ⟨x1, x2, x3⟩ := b6 j (by rw [Nat.zero_add]; exact old 2 j (by omega) y hj)
      rw [show 0 + 1156 + 25 * j = 1156 + 25 * j by omega] at x1 x2 x3
      rw [show 1 + 14 + 10 * j = 15 + 10 * j by omega] at x2 x3
      obtain ⟨u1, u2⟩ := eL j (lt2 2 j (by omega) hj) y
      have fv : ∀ i, i < 25 → rowV d (1156 + 25 * j) i = rowV c (1156 + 25 * j) i := fun i hi => u2 i hi
      have x0 := x1.1
      refine ⟨LOK_cong fv x1, by rw [u1 _ _ (Or.inl rfl), fv 0 (by omega)]; exact x2, fun i hi => ?_⟩
      rw [fv 0 (by omega)] at hi
      have hi2 : (i : Int) < 3 * rowV c (1156 + 25 * j) 0 := hi
      rw [u1 _ _ (Or.inr (by omega)), fv (1 + i) (by omega)]; exact x3 i hi
  · rw [show 1 + 12 + 10 * j = 13 + 10 * j by omega, show 1 + 14 + 10 * j = 15 + 10 * j by omega]
    exact e7 j hj
def szS (s : Nat) : Nat := if s = 0 then 72 else if s = 1 then 201 else 25
def plS (s k : Nat) : Nat := if s = 0 then 610 + 72 * k else if s = 1 then 754 + 201 * k else 1156 + 25 * k
theorem m_szS {s : Nat} (hs : s < 3) (h : AH) : f11_sizeOf s h = some (((szS s : Nat) : Int), h) := by
  rcases (show s = 0 ∨ s = 1 ∨ s = 2 by omega) with rfl | rfl | rfl <;> rfl
theorem m_plS {s k : Nat} (hs : s < 3) (h : AH) : f11_placeOf s k h = some (((plS s k : Nat) : Int), h) := by
  unfold f11_placeOf plS
  rw [w32_id (x := (s : Int)) (by omega) (by omega)]
  rcases (show s = 0 ∨ s = 1 ∨ s = 2 by omega) with rfl | rfl | rfl
  · rw [if_neg (by decide), if_pos rfl, show (610 : Int) + 72 * (k : Int) = ((610 + 72 * k : Nat) : Int) by omega]
  · rw [if_pos (by decide), if_neg (by decide), if_neg (by decide), if_pos rfl, show (754 : Int) + 201 * (k : Int) = ((754 + 201 * k : Nat) : Int) by omega]
  · rw [if_pos (by decide), if_pos (by decide), if_neg (by decide), if_neg (by decide), show (1156 : Int) + 25 * (k : Int) = ((1156 + 25 * k : Nat) : Int) by omega]
theorem szpl {s k : Nat} (hs : s < 3) (hk : k < 2) : 610 ≤ plS s k ∧ plS s k + szS s ≤ 1206 ∧ szS s ≤ 201 := by
  unfold plS szS
  rcases (show s = 0 ∨ s = 1 ∨ s = 2 by omega) with rfl | rfl | rfl
  · rw [if_pos rfl, if_pos rfl]; omega
  · rw [if_neg (by decide), if_pos rfl, if_neg (by decide), if_pos rfl]; omega
  · rw [if_neg (by decide), if_neg (by decide), if_neg (by decide), if_neg (by decide)]; omega
theorem m_copy {s k : Nat} (hs : s < 3) (hk : k < 2) (h : AH) : ∃ y : AH, l11_text_254 s k 0 h = some ((k : Int), y) ∧ Ky (fun a j => a = 70 ∧ plS s k ≤ j ∧ j < plS s k + szS s) h y ∧ ∀ j, j < szS s → y.2 70 (plS s k + j) = h.2 72 j := by
  have sp := szpl hs hk
  unfold l11_text_254
  refine fr (F := fun rec (x : Int × AH) => b11_text_254 rec s k x.1 x.2) (fun X => ∃ y : AH, X = some ((k : Int), y) ∧ Ky (fun a j => a = 70 ∧ plS s k ≤ j ∧ j < plS s k + szS s) h y ∧ ∀ j, j < szS s → y.2 70 (plS s k + j) = h.2 72 j) (fun (u : AH) i => (i, u)) (fun i u => Ky (fun a j => a = 70 ∧ plS s k ≤ j ∧ j < plS s k + szS s) h u ∧ ∀ j, j < i → u.2 70 (plS s k + j) = h.2 72 j) 0 (szS s) h ⟨Ky.rf _, fun j hj => by omega⟩ (by omega) (by omega) (fun i u i1 i2 hI rec => ?_) (fun u hI rec => ?_)
  · right
    obtain ⟨k1, k2⟩ := hI
    refine ⟨wr u 70 (plS s k + i) (h.2 72 i), ⟨k1.w2 ⟨rfl, by omega, by omega⟩, fun j hj => ?_⟩, ?_⟩
    · by_cases q : j = i
      · subst q; rw [wr_at]
      · rw [wr_e (by omega)]; exact k2 j (by omega)
    · unfold b11_text_254
      dsimp only
      rw [m_szS hs, bnd_some, w32_id (x := ((szS s : Nat) : Int)) (by omega) (by omega), w32_id (x := (i : Int)) (by omega) (by omega), if_neg (by omega), m_plS hs, bnd_some, asrt_t (by omega), show ((plS s k : Nat) : Int) + (i : Int) = ((plS s k + i : Nat) : Int) by omega, w32_id (x := ((plS s k + i : Nat) : Int)) (by omega) (by omega), asrt_t (by omega), lt_eq, Int.toNat_natCast, Int.toNat_natCast, k1.2 72 i (by omega)]
  · obtain ⟨k1, k2⟩ := hI
    unfold b11_text_254
    dsimp only
    rw [m_szS hs, bnd_some, if_pos (by omega)]
    exact ⟨_, rfl, k1, k2⟩
