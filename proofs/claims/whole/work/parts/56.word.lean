/-! words and numbers, the class's side -/
theorem hsh_eq {g k : Nat → Int} {L : Nat} (h : ∀ i, i < L → g i = k i) : hsh g L = hsh k L := by
  induction L with
  | zero => rfl
  | succ L ih =>
    simp only [hsh]
    rw [ih (fun i hi => h i (by omega)), h L (by omega)]
section WordC
variable {z : AH} {n : Nat} {bt : Nat → Int} {p f t : Nat}
theorem TK.wd (h : TK n bt p 1 f t) : f < t ∧ t ≤ n ∧ ∀ i, f ≤ i → i < t → isLe (bt i) := by
  obtain ⟨a1, a2, a3, a4⟩ := h
  rcases a4 with ⟨x1, x2, x3⟩ | ⟨x1, x2, ⟨c1, c2, c3, c4, c5, c6⟩ | ⟨c1, c2, c3, c4, c5, c6⟩ | ⟨c1, c2, c3, c4⟩⟩
  · omega
  · exact ⟨c3, c4, c5⟩
  · split at c6 <;> omega
  · split at c4 <;> omega
theorem TK.nb (h : TK n bt p 2 f t) : f < t ∧ t ≤ n ∧ t - f ≤ 2 ∧ ∀ i, f ≤ i → i < t → isDi (bt i) := by
  obtain ⟨a1, a2, a3, a4⟩ := h
  rcases a4 with ⟨x1, x2, x3⟩ | ⟨x1, x2, ⟨c1, c2, c3, c4, c5, c6⟩ | ⟨c1, c2, c3, c4, c5, c6⟩ | ⟨c1, c2, c3, c4⟩⟩
  · omega
  · omega
  · refine ⟨c2, c3, ?_, c4⟩
    split at c6 <;> omega
  · split at c4 <;> omega
theorem c_isWord (hT : TP n bt z) (hk : TK n bt p 1 f t) (h9 : z.2 28 9 = (f : Int)) (h10 : z.2 28 10 = (t : Int)) {k : Nat} (k1 : 1 ≤ k) (k2 : k < 12) : f5_isWord (k + 2) z = some (if wcT bt f t = (k : Int) then 1 else 0, z) := by
  obtain ⟨w1, w2, w3⟩ := hk.wd
  have n6 := hT.2.1
  obtain ⟨⟨s1, s2⟩, s3⟩ := wrd_ok k k2 k1
  have le : ∀ i, i < t - f → 1 ≤ bt (f + i) - 96 ∧ bt (f + i) - 96 ≤ 26 := fun i hi => by
    have := w3 (f + i) (by omega) (by omega)
    unfold isLe at this
    omega
  have iff : wcT bt f t = (k : Int) ↔ t - f = wln k ∧ ∀ i, i < t - f → bt (f + i) = strAt (k + 2) i := by
    unfold wcT
    by_cases y : t - f ≤ 8
    · rw [if_pos y, wcN_at k1 k2, ← hsh_c k k2 k1]
      constructor
      · intro e
        obtain ⟨e1, e2⟩ := hsh_inj le s3 e
        refine ⟨e1, fun i hi => ?_⟩
        have := e2 i hi
        unfold wrd at this
        omega
      · rintro ⟨e1, e2⟩
        rw [← e1]
        refine hsh_eq (fun i hi => ?_)
        unfold wrd
        have := e2 i hi
        omega
    · rw [if_neg y]
      constructor
      · intro e; omega
      · intro e; omega
  unfold f5_isWord
  rw [asrt_t (by omega), h9, h10, s1, w32_id (x := ((t : Int) - f)) (by omega) (by omega), w32_id (x := ((wln k : Nat) : Int)) (by omega) (by omega)]
  by_cases c : t - f = wln k
  · rw [if_pos (by omega)]
    unfold l5_isWord_20
    refine fr (F := fun rec (x : Int × AH) => b5_isWord_20 rec (k + 2) x.1 x.2) (fun X => X = some (if wcT bt f t = (k : Int) then 1 else 0, z)) (fun (_ : Unit) i => (i, z)) (fun j _ => ∀ i, i < j → bt (f + i) = strAt (k + 2) i) 0 (wln k) () (fun i hi => by omega) (by omega) (by omega) (fun j _ j1 j2 hI rec => ?_) (fun _ hI rec => ?_)
    · have hb := hT.2.2 (f + j) (by omega)
      have i1 := i2b_c hb.1
      have l1 := le j (by omega)
      have s4 := s3 j j2
      unfold wrd at s4
      have e : b5_isWord_20 rec (k + 2) j z = if bt (f + j) = strAt (k + 2) j then rec ((j : Int) + 1, z) else some (0, z) := by
        unfold b5_isWord_20
        rw [asrt_t (by omega), s1, w32_id (x := ((wln k : Nat) : Int)) (by omega) (by omega), w32_id (x := (j : Int)) (by omega) (by omega), if_neg (by omega), h9, show (f : Int) + (j : Int) = ((f + j : Nat) : Int) by omega, w32_id (x := ((f + j : Nat) : Int)) (by omega) (by omega), asrt_t (by omega), asrt_t (by omega), Int.toNat_natCast, Int.toNat_natCast, hb.2, i1.2.2.1 (by omega), w32_id (x := bt (f + j)) (by omega) (by omega), w32_id (x := strAt (k + 2) j) (by omega) (by omega)]
      dsimp only
      rw [e]
      by_cases y : bt (f + j) = strAt (k + 2) j
      · right
        refine ⟨(), fun i hi => ?_, by rw [if_pos y]⟩
        rcases Nat.lt_or_ge i j with x | x
        · exact hI i x
        · rw [show i = j by omega]; exact y
      · left
        rw [if_neg y, if_neg (fun w => y ((iff.mp w).2 j (by omega)))]
    · unfold b5_isWord_20
      dsimp only
      rw [asrt_t (by omega), s1, w32_id (x := ((wln k : Nat) : Int)) (by omega) (by omega), if_pos (by omega), if_pos (iff.mpr ⟨c, fun i hi => hI i (by omega)⟩)]
  · rw [if_neg (by omega), if_neg (fun w => c (iff.mp w).1)]
theorem wcT_rng (f t : Nat) : (1 ≤ wcT bt f t ∧ wcT bt f t ≤ 11) ∨ wcT bt f t = 99 := by
  unfold wcT
  split
  · exact wcN_rng _
  · exact Or.inr rfl
/-- the words of a sort -/
def wLo (s : Nat) : Int := if s = 0 then 1 else if s = 1 then 6 else 11
def wHi (s : Nat) : Int := if s = 0 then 5 else if s = 1 then 10 else 11
theorem c_lineOf (hT : TP n bt z) (hk : TK n bt p 1 f t) (h9 : z.2 28 9 = (f : Int)) (h10 : z.2 28 10 = (t : Int)) {s : Nat} (hs : s < 3) : f5_lineOf s z = some (if wLo s ≤ wcT bt f t ∧ wcT bt f t ≤ wHi s then wcT bt f t - 1 else -1, z) := by
  have W := fun k k1 k2 => c_isWord hT hk h9 h10 (k := k) k1 k2
  have rg := wcT_rng (bt := bt) f t
  generalize wcT bt f t = c at *
  have w1 : f5_isWord 3 z = some (if c = 1 then 1 else 0, z) := W 1 (by omega) (by omega)
  have w2 : f5_isWord 4 z = some (if c = 2 then 1 else 0, z) := W 2 (by omega) (by omega)
  have w3 : f5_isWord 5 z = some (if c = 3 then 1 else 0, z) := W 3 (by omega) (by omega)
  have w4 : f5_isWord 6 z = some (if c = 4 then 1 else 0, z) := W 4 (by omega) (by omega)
  have w5 : f5_isWord 7 z = some (if c = 5 then 1 else 0, z) := W 5 (by omega) (by omega)
  have w6 : f5_isWord 8 z = some (if c = 6 then 1 else 0, z) := W 6 (by omega) (by omega)
  have w7 : f5_isWord 9 z = some (if c = 7 then 1 else 0, z) := W 7 (by omega) (by omega)
  have w8 : f5_isWord 10 z = some (if c = 8 then 1 else 0, z) := W 8 (by omega) (by omega)
  have w9 : f5_isWord 11 z = some (if c = 9 then 1 else 0, z) := W 9 (by omega) (by omega)
  have w10 : f5_isWord 12 z = some (if c = 10 then 1 else 0, z) := W 10 (by omega) (by omega)
  have w11 : f5_isWord 13 z = some (if c = 11 then 1 else 0, z) := W 11 (by omega) (by omega)
  clear W
  unfold f5_lineOf f5_villageLine f5_dayLine wLo wHi
  simp only [w1, w2, w3, w4, w5, w6, w7, w8, w9, w10, w11, bnd_some]
  clear w1 w2 w3 w4 w5 w6 w7 w8 w9 w10 w11
  rcases (show s = 0 ∨ s = 1 ∨ s = 2 by omega) with rfl | rfl | rfl <;>
  rcases (show c = 1 ∨ c = 2 ∨ c = 3 ∨ c = 4 ∨ c = 5 ∨ c = 6 ∨ c = 7 ∨ c = 8 ∨ c = 9 ∨ c = 10 ∨ c = 11 ∨ c = 99 by omega) with rfl | rfl | rfl | rfl | rfl | rfl | rfl | rfl | rfl | rfl | rfl | rfl <;> rfl
theorem nmv_rng {g : Nat → Int} {L : Nat} (hL : L ≤ 2) (h : ∀ i, i < L → 0 ≤ g i ∧ g i ≤ 9) : 0 ≤ nmv g L ∧ nmv g L ≤ 99 := by
  rcases (show L = 0 ∨ L = 1 ∨ L = 2 by omega) with rfl | rfl | rfl
  · show (0 : Int) ≤ 0 ∧ (0 : Int) ≤ 99; omega
  · have := h 0 (by omega)
    simp only [nmv]; omega
  · have := h 0 (by omega)
    have := h 1 (by omega)
    simp only [nmv]; omega
theorem TK.nr (h : TK n bt p 2 f t) : 0 ≤ nmT bt f t ∧ nmT bt f t ≤ 99 := by
  obtain ⟨w1, w2, w3, w4⟩ := h.nb
  refine nmv_rng w3 (fun i hi => ?_)
  have := w4 (f + i) (by omega) (by omega)
  unfold isDi at this
  omega
theorem c_number (hT : TP n bt z) (hk : TK n bt p 2 f t) (h9 : z.2 28 9 = (f : Int)) (h10 : z.2 28 10 = (t : Int)) : f5_numberHere z = some (nmT bt f t, z) := by
  obtain ⟨w1, w2, w3, w4⟩ := hk.nb
  have n6 := hT.2.1
  unfold f5_numberHere l5_numberHere_7
  rw [lt_eq, h9]
  refine fr (F := fun rec (x : Int × Int × AH) => b5_numberHere_7 rec x.1 x.2.1 x.2.2) (fun X => X = some (nmT bt f t, z)) (fun (v : Int) i => (v, i, z)) (fun j v => v = nmv (fun i => bt (f + i) - 48) (j - f)) f t 0 (by rw [Nat.sub_self]; rfl) (by omega) (by omega) (fun j v j1 j2 hI rec => ?_) (fun v hI rec => ?_)
  · right
    have hb := hT.2.2 j (by omega)
    have i1 := i2b_c hb.1
    have d := w4 j j1 j2
    unfold isDi at d
    refine ⟨10 * v + bt j - 48, ?_, ?_⟩
    · rw [show j + 1 - f = (j - f) + 1 by omega]
      simp only [nmv]
      rw [← hI, show f + (j - f) = j by omega]
      omega
    · unfold b5_numberHere_7
      dsimp only
      rw [h10, w32_id (x := (t : Int)) (by omega) (by omega), w32_id (x := (j : Int)) (by omega) (by omega), if_neg (by omega), asrt_t (by omega), lt_eq, Int.toNat_natCast, hb.2, i1.2.2.1 (by omega)]
  · unfold b5_numberHere_7
    dsimp only
    rw [h10, if_pos (by omega), hI]; rfl
end WordC
