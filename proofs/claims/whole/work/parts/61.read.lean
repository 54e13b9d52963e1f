/-! reading side by side: a whole text -/
def CS (s : Nat) : AH → AH → Prop := if s = 0 then CV else if s = 1 then CD else CL
def IS (s : Nat) : AH → Prop := if s = 0 then IV else if s = 1 then ID else IL
section TRead
variable {z0 w0 z y : AH} {n : Nat} {bt : Nat → Int}
theorem t_tail {s : Nat} (hs : s < 3) {x2 : Int} (h : BO z y ∨ ∃ f t : Nat, TG n bt z y 0 f t ∧ FtA z y f ∧ (z.2 28 3 = 0 → (s = 0 ∧ CV z y ∧ IV y) ∨ (s ≠ 0 ∧ Z0 z))) : ∃ zf yf : AH, b5_readText_123 z = some (0, zf) ∧ b11_text_161 s x2 y = b11_text_209 s x2 yf ∧ Ky kRC z zf ∧ Ky kRM y yf ∧ (zf.2 28 3 = yf.2 70 5 ∧ zf.2 28 4 = yf.2 70 6 ∧ 0 ≤ yf.2 70 5 ∧ yf.2 70 5 ≤ 4) ∧ (zf.2 28 3 = 0 → zf = z ∧ yf = y ∧ y.2 70 6 = -1) := by
  have off : ∀ F : Int, z.2 28 3 = F → y.2 70 5 = F → z.2 28 4 = y.2 70 6 → 1 ≤ F → F ≤ 3 → ∃ zf yf : AH, b5_readText_123 z = some (0, zf) ∧ b11_text_161 s x2 y = b11_text_209 s x2 yf ∧ Ky kRC z zf ∧ Ky kRM y yf ∧ (zf.2 28 3 = yf.2 70 5 ∧ zf.2 28 4 = yf.2 70 6 ∧ 0 ≤ yf.2 70 5 ∧ yf.2 70 5 ≤ 4) ∧ (zf.2 28 3 = 0 → zf = z ∧ yf = y ∧ y.2 70 6 = -1) := fun F e1 e2 e3 f1 f2 => by
    refine ⟨z, y, ?_, ?_, Ky.rf _, Ky.rf _, ⟨by omega, e3, by omega, by omega⟩, fun e => by omega⟩
    · unfold b5_readText_123
      rw [e1, w32_id (x := F) (by omega) (by omega), if_pos (by omega)]
    · unfold b11_text_161
      rw [asrt_t (by decide), show (w32 5).toNat = 5 from rfl, e2, w32_id (x := F) (by omega) (by omega), if_pos (by omega)]
  rcases h with hB | ⟨f, t, G, F, hD⟩
  · exact off 1 hB.1 hB.2.1 hB.2.2.1 (by omega) (by omega)
  · obtain ⟨F1, F2, F3⟩ := F
    rcases F3 with ⟨F3, F36⟩ | ⟨F3, -, -⟩
    · have y0 : z.2 28 3 = 0 := F1.trans F3
      rcases hD y0 with ⟨rfl, ⟨cV, cC, c7, c8⟩, iV⟩ | ⟨hs0, u1, u2, u3, u4⟩
      · obtain ⟨v0, v1, -⟩ := cV
        obtain ⟨d0, d1, -⟩ := cC
        obtain ⟨-, -, i3, i4⟩ := iV
        have gr := G.rng
        obtain ⟨g1, -, -, -, ⟨-, g5⟩, -, g8⟩ := id G
        have fn : f = n := gr.2.2.2.2.1 rfl
        subst fn
        have note : b5_readText_158 z = some (0, wr (wr z 28 3 4) 28 4 (f : Int)) := by
          unfold b5_readText_158
          rw [c_note (by omega), if_pos y0, bnd_some, g1.1]
        have also : ∀ x1 x2 : Int, b11_text_200 x1 x2 y = b11_text_209 x1 x2 (wr (wr y 70 5 4) 70 6 (f : Int)) := fun x1 x2 => by
          unfold b11_text_200
          rw [g5, m_also g8 (by omega) (by omega) (Or.inl F3), if_pos F3, bnd_some]
        by_cases q : y.2 72 0 ≤ y.2 69 9 ∨ ¬ y.2 69 10 < y.2 72 1
        · refine ⟨wr (wr z 28 3 4) 28 4 (f : Int), wr (wr y 70 5 4) 70 6 (f : Int), ?_, ?_, (Ky.w1 (by unfold kRC; omega)).w2 (by unfold kRC; omega), (Ky.w1 (by unfold kRM; omega)).w2 (by unfold kRM; omega), ⟨?_, ?_, ?_⟩, fun e => ?_⟩
          · unfold b5_readText_123
            rw [y0, ite_nw0, d0, c7, c8, d1, w32_id (x := y.2 72 0) (by omega) (by omega), w32_id (x := y.2 69 9 + 1) (by omega) (by omega), w32_id (x := y.2 69 10 + 1) (by omega) (by omega), w32_id (x := y.2 72 1) (by omega) (by omega), note]
            by_cases q1 : y.2 72 0 ≤ y.2 69 9
            · rw [if_pos (by omega)]
            · rw [if_neg (by omega), if_neg (by omega)]
          · unfold b11_text_161
            rw [asrt_t (by decide), show (w32 5).toNat = 5 from rfl, F3, ite_nw0, if_neg (fun q => q (by decide)), asrt_t (by decide), show (w32 0).toNat = 0 from rfl, show (w32 1).toNat = 1 from rfl, asrt_t (by decide), w32_id (x := y.2 72 0) (by omega) (by omega), w32_id (x := y.2 69 9) (by omega) (by omega), w32_id (x := y.2 69 10) (by omega) (by omega), w32_id (x := y.2 72 1) (by omega) (by omega), also]
            by_cases q1 : y.2 72 0 ≤ y.2 69 9
            · rw [if_pos q1]
            · rw [if_neg q1, if_neg (by omega)]
          · rw [wr_e (by omega), wr_at, wr_e (by omega), wr_at]
          · rw [wr_at, wr_at]
          · rw [wr_e (by omega), wr_at]; omega
          · rw [wr_e (by omega), wr_at] at e
            exact absurd e (by decide)
        · refine ⟨z, y, ?_, ?_, Ky.rf _, Ky.rf _, ⟨F1, F2, by omega, by omega⟩, fun _ => ⟨rfl, rfl, F36⟩⟩
          · unfold b5_readText_123
            rw [y0, ite_nw0, d0, c7, c8, d1, w32_id (x := y.2 72 0) (by omega) (by omega), w32_id (x := y.2 69 9 + 1) (by omega) (by omega), w32_id (x := y.2 69 10 + 1) (by omega) (by omega), w32_id (x := y.2 72 1) (by omega) (by omega), if_neg (by omega), if_pos (by omega)]
          · unfold b11_text_161
            rw [asrt_t (by decide), show (w32 5).toNat = 5 from rfl, F3, ite_nw0, if_neg (fun q => q (by decide)), asrt_t (by decide), show (w32 0).toNat = 0 from rfl, show (w32 1).toNat = 1 from rfl, asrt_t (by decide), w32_id (x := y.2 72 0) (by omega) (by omega), w32_id (x := y.2 69 9) (by omega) (by omega), w32_id (x := y.2 69 10) (by omega) (by omega), w32_id (x := y.2 72 1) (by omega) (by omega), if_neg (by omega), if_pos (by omega)]
      · refine ⟨z, y, ?_, ?_, Ky.rf _, Ky.rf _, ⟨F1, F2, by omega, by omega⟩, fun _ => ⟨rfl, rfl, F36⟩⟩
        · unfold b5_readText_123
          rw [y0, ite_nw0, u1, u2, u3, u4, if_neg (by decide), if_pos (by decide)]
        · unfold b11_text_161
          rw [asrt_t (by decide), show (w32 5).toNat = 5 from rfl, F3, ite_nw0, w32_id (x := (s : Int)) (by omega) (by omega), if_pos (by omega)]
    · exact off (y.2 70 5) F1 rfl F2 (by omega) (by omega)
theorem t_lines {s : Nat} (hs : s < 3) {x2 : Int} {kd f t : Nat} (hG : TG n bt z0 w0 kd f t) (hF : FtA z0 w0 f) (hI : IS s w0) (hC : z0.2 28 3 = 0 → CS s z0 w0) : ∃ zf yf : AH, l5_readText_89 s 0 z0 = some (0, zf) ∧ l11_text_100 s x2 w0 = b11_text_209 s x2 yf ∧ Ky kLC z0 zf ∧ Ky kLM w0 yf ∧ (zf.2 28 3 = yf.2 70 5 ∧ zf.2 28 4 = yf.2 70 6 ∧ 0 ≤ yf.2 70 5 ∧ yf.2 70 5 ≤ 4) ∧ (zf.2 28 3 = 0 → CS s zf yf ∧ yf.2 70 6 = -1) := by
  have fin : ∀ (C : AH → AH → Prop) (I : AH → Prop), EndQ n bt C I z0 w0 s x2 (l5_readText_89 s 0 z0) (l11_text_100 s x2 w0) → (∀ z y, C z y → I y → (s = 0 ∧ CV z y ∧ IV y) ∨ (s ≠ 0 ∧ Z0 z)) → (∀ z y, C z y → CS s z y) → (∀ z y, BO z y → ¬ z.2 28 3 = 0) → ∃ zf yf : AH, l5_readText_89 s 0 z0 = some (0, zf) ∧ l11_text_100 s x2 w0 = b11_text_209 s x2 yf ∧ Ky kLC z0 zf ∧ Ky kLM w0 yf ∧ (zf.2 28 3 = yf.2 70 5 ∧ zf.2 28 4 = yf.2 70 6 ∧ 0 ≤ yf.2 70 5 ∧ yf.2 70 5 ≤ 4) ∧ (zf.2 28 3 = 0 → CS s zf yf ∧ yf.2 70 6 = -1) := fun C I hQ h1 h2 h3 => by
    obtain ⟨z, y, e1, e2, k1, k2, Iy, hq⟩ := hQ
    have hq2 : BO z y ∨ ∃ f t : Nat, TG n bt z y 0 f t ∧ FtA z y f ∧ (z.2 28 3 = 0 → (s = 0 ∧ CV z y ∧ IV y) ∨ (s ≠ 0 ∧ Z0 z)) := by
      rcases hq with q | ⟨f, t, q1, q2, q3⟩
      · exact Or.inl q
      · exact Or.inr ⟨f, t, q1, q2, fun e => h1 _ _ (q3 e) Iy⟩
    obtain ⟨zf, yf, f1, f2, f3, f4, f5, f6⟩ := t_tail (x2 := x2) hs hq2
    refine ⟨zf, yf, e1.trans f1, e2.trans f2, k1.tr (f3.mono (fun a k q => Or.inl q)), k2.tr (f4.mono (fun a k q => Or.inl q)), f5, fun e => ?_⟩
    obtain ⟨rfl, rfl, f7⟩ := f6 e
    rcases hq with q | ⟨f, t, q1, q2, q3⟩
    · exact absurd e (h3 _ _ q)
    · exact ⟨h2 _ _ (q3 e), f7⟩
  have nb : ∀ z y, BO z y → ¬ z.2 28 3 = 0 := fun z y q e => by rw [q.1] at e; exact absurd e (by decide)
  rcases (show s = 0 ∨ s = 1 ∨ s = 2 by omega) with rfl | rfl | rfl
  · refine fin CV IV (t_loop hs (L := f11_villageLine) (fun rec y g8 g5 => ?_) (fun z w kd f t a b c d => v_line a b c d) hG hF hI hC) (fun z y q i => Or.inl ⟨rfl, q, i⟩) (fun z y q => q) nb
    unfold b11_text_100
    rw [g8, ite_nw0, if_neg g5, if_pos (by decide)]
  · refine fin CD ID (t_loop hs (L := f11_dayLine) (fun rec y g8 g5 => ?_) (fun z w kd f t a b c d => d_line a b c d) hG hF hI hC) (fun z y q i => Or.inr ⟨by omega, q.2.2.1.2⟩) (fun z y q => q) nb
    unfold b11_text_100
    rw [g8, ite_nw0, if_neg g5, if_neg (by decide), if_pos (by decide)]
  · refine fin CL IL (t_loop hs (L := f11_logLine) (fun rec y g8 g5 => ?_) (fun z w kd f t a b c d => l_line a b c d) hG hF hI hC) (fun z y q i => Or.inr ⟨by omega, q.2.2.1.2⟩) (fun z y q => q) nb
    unfold b11_text_100
    rw [g8, ite_nw0, if_neg g5, if_neg (by decide), if_neg (by decide)]
/-- the model's row at the start of a text -/
theorem m_begins0 {s : Nat} (hs : s < 3) (h : AH) : ∃ y : AH, f11_begins0 s h = some (0, y) ∧ Ky (fun a _ => a = 72) h y ∧ (s = 0 → (∀ j, j < 24 → j ≠ 3 → y.2 72 j = 0) ∧ y.2 72 3 = 2 ∧ ∀ j, 24 ≤ j → j < 201 → y.2 72 j = -1) ∧ (s ≠ 0 → ∀ j, j < 201 → y.2 72 j = 0) := by
  unfold f11_begins0 l11_begins0_2
  have s1 : w32 (s : Int) = s := w32_id (by omega) (by omega)
  refine fr (F := fun rec (x : Int × AH) => b11_begins0_2 rec s x.1 x.2) (fun X => ∃ y : AH, X = some (0, y) ∧ Ky (fun a _ => a = 72) h y ∧ (s = 0 → (∀ j, j < 24 → j ≠ 3 → y.2 72 j = 0) ∧ y.2 72 3 = 2 ∧ ∀ j, 24 ≤ j → j < 201 → y.2 72 j = -1) ∧ (s ≠ 0 → ∀ j, j < 201 → y.2 72 j = 0)) (fun (u : AH) i => (i, u)) (fun i u => Ky (fun a _ => a = 72) h u ∧ ∀ j, j < i → u.2 72 j = if s = 0 ∧ 24 ≤ j then -1 else 0) 0 201 h ⟨Ky.rf _, fun j hj => by omega⟩ (by omega) (by omega) (fun i u i1 i2 hI rec => ?_) (fun u hI rec => ?_)
  · right
    obtain ⟨k1, k2⟩ := hI
    have w29 : ∀ x : Int, b11_begins0_29 rec s i x i u = rec ((i : Int) + 1, wr u 72 i x) := fun x => by
      unfold b11_begins0_29
      rw [w32_id (x := (i : Int)) (by omega) (by omega), asrt_t (by omega), lt_eq, Int.toNat_natCast]
    refine ⟨wr u 72 i (if s = 0 ∧ 24 ≤ i then -1 else 0), ⟨k1.w2 rfl, fun j hj => ?_⟩, ?_⟩
    · by_cases q : j = i
      · subst q; rw [wr_at]
      · rw [wr_e (by omega)]; exact k2 j (by omega)
    · unfold b11_begins0_2 b11_begins0_28
      dsimp only
      rw [w32_id (x := (i : Int)) (by omega) (by omega), if_neg (by omega), s1, w29, w29]
      by_cases q : s = 0
      · rw [if_neg (by omega)]
        by_cases q2 : i < 24
        · rw [if_pos (by omega), if_neg (by omega)]
        · rw [if_neg (by omega), if_pos (by omega)]
      · rw [if_pos (by omega), if_neg (by omega)]
  · obtain ⟨k1, k2⟩ := hI
    unfold b11_begins0_2
    dsimp only
    rw [if_pos (by decide), s1]
    by_cases q : s = 0
    · rw [if_neg (by omega), asrt_t (by decide), lt_eq, show (w32 3).toNat = 3 from rfl]
      refine ⟨_, rfl, k1.w2 rfl, fun _ => ⟨fun j j1 j2 => ?_, wr_at, fun j j1 j2 => ?_⟩, fun q2 => absurd q q2⟩
      · rw [wr_e (by omega), k2 j (by omega), if_neg (by omega)]
      · rw [wr_e (by omega), k2 j (by omega), if_pos (by omega)]
    · rw [if_pos (by omega)]
      exact ⟨_, rfl, k1, fun q2 => absurd q2 q, fun _ j j1 => by rw [k2 j (by omega), if_neg (by omega)]⟩
end TRead
