/-! reading side by side: all lines -/
section TLoop
variable {z0 w0 : AH} {n : Nat} {bt : Nat → Int} {C : AH → AH → Prop} {I : AH → Prop}
def EndQ (n : Nat) (bt : Nat → Int) (C : AH → AH → Prop) (I : AH → Prop) (z0 w0 : AH) (s : Nat) (x2 : Int) (X Y : Option (Int × AH)) : Prop :=
  ∃ z y : AH, X = b5_readText_123 z ∧ Y = b11_text_161 s x2 y ∧ Ky kLC z0 z ∧ Ky kLM w0 y ∧ I y ∧ (BO z y ∨ ∃ f t : Nat, TG n bt z y 0 f t ∧ FtA z y f ∧ (z.2 28 3 = 0 → C z y))
theorem t_loop {s : Nat} (hs : s < 3) {x2 : Int} {L : AH → Option (Int × AH)} (hL : ∀ (rec : AH → Option (Int × AH)) (y : AH), y.2 69 8 = 0 → ¬ w32 (y.2 69 5) = 0 → b11_text_100 rec s x2 y = bnd (L y) fun _ h => rec h)
    (hLine : ∀ (z w : AH) (kd f t : Nat), TG n bt z w kd f t → FtA z w f → I w → (z.2 28 3 = 0 → C z w) → LOx n bt C I z w t (f5_readLine s z) (L w))
    {kd f t : Nat} (hG : TG n bt z0 w0 kd f t) (hF : FtA z0 w0 f) (hI : I w0) (hC : z0.2 28 3 = 0 → C z0 w0) : EndQ n bt C I z0 w0 s x2 (l5_readText_89 s 0 z0) (l11_text_100 s x2 w0) := by
  unfold l5_readText_89 l11_text_100
  refine wh2 (fun m (a : Int × AH) (y : AH) => ∃ ln : Nat, a.1 = ln ∧ Ky kLC z0 a.2 ∧ Ky kLM w0 y ∧ I y ∧ ((m = 0 ∧ BO a.2 y) ∨ ∃ kd f t : Nat, m = n - f + 1 ∧ TG n bt a.2 y kd f t ∧ FtA a.2 y f ∧ ln ≤ f ∧ (a.2.2 28 3 = 0 → C a.2 y))) (EndQ n bt C I z0 w0 s x2) (fun m a y hp => ?_) FU (n - f + 1) (0, z0) w0 ⟨0, rfl, Ky.rf _, Ky.rf _, hI, Or.inr ⟨kd, f, t, rfl, hG, hF, Nat.zero_le _, hC⟩⟩ (FU_big (by have := hG.rng; omega))
  obtain ⟨x4, z⟩ := a
  obtain ⟨ln, rfl, kz, ky, Iy, hp⟩ := hp
  dsimp only at kz hp
  have end1 : ∀ rec : Int × AH → Option (Int × AH), (w32 (z.2 28 8) = 0 ∨ w32 (z.2 28 3) = 1) → b5_readText_89 rec s ln z = b5_readText_123 z := fun rec h => by
    unfold b5_readText_89
    split
    · rfl
    split
    · rfl
    split
    · rfl
    · rename_i q1 q2 q3
      rcases h with h | h
      · exact absurd h q2
      · exact absurd h q3
  rcases hp with ⟨-, hB⟩ | ⟨kd, f, t, hm, G, F, hlf, hC⟩
  · left
    intro rec rec2
    refine ⟨z, y, end1 rec (Or.inr (by rw [hB.1]; rfl)), ?_, kz, ky, Iy, Or.inl hB⟩
    unfold b11_text_100
    rw [hB.2.2.2, ite_nw1]
  · have hr := G.rng
    have tk := G.tok
    obtain ⟨-, -, -, ⟨a1, -⟩, -, -, g8⟩ := id G
    by_cases c : kd = 0
    · left
      intro rec rec2
      subst c
      refine ⟨z, y, end1 rec (Or.inl (by rw [a1]; rfl)), ?_, kz, ky, Iy, Or.inr ⟨f, t, G, F, hC⟩⟩
      unfold b11_text_100
      rw [g8, ite_nw0, (tk.2.2.2.2).mp rfl, ite_w0]
    · right
      obtain ⟨z', y', h1, h2, h3, h4, h5, h6⟩ := hLine z y kd f t G F Iy hC
      have t5 : ¬ y.2 69 5 = 0 := fun q => c (tk.2.2.2.2.mpr q)
      have w5 : w32 (y.2 69 5) = y.2 69 5 := w32_id (by have := tk.1; omega) (by have := tk.1; omega)
      have fr : z.2 28 3 = 0 ∨ z.2 28 3 = 2 ∨ z.2 28 3 = 3 := by
        rw [F.1]
        rcases F.2.2 with ⟨q, -⟩ | ⟨q | q, -⟩
        · exact Or.inl q
        · exact Or.inr (Or.inl q)
        · exact Or.inr (Or.inr q)
      clear tk
      have ft := hr.2.2.2.1 c
      have nk : ∀ rec : Int × AH → Option (Int × AH), b5_readText_89 rec s ln z = rec (((ln + 1 : Nat) : Int), z') := fun rec => by
        unfold b5_readText_89
        rw [w32_id (x := (ln : Int)) (by omega) (by omega), if_neg (by omega), a1, w32_id (x := (kd : Int)) (by omega) (by omega), if_neg (by omega), w32_id (x := z.2 28 3) (by omega) (by omega), if_neg (by omega), h1, bnd_some]
        rfl
      have mk : ∀ rec : AH → Option (Int × AH), b11_text_100 rec s x2 y = rec y' := fun rec => by
        rw [hL rec y g8 (by rw [w5]; exact t5), h2, bnd_some]
      rcases h6 with h6 | ⟨kd', f', t', q1, q2, q3, q4⟩
      · exact ⟨0, _, _, by omega, ⟨ln + 1, rfl, kz.tr h3, ky.tr h4, h5, Or.inl ⟨rfl, h6⟩⟩, nk, mk⟩
      · have r2 := q1.rng
        exact ⟨n - f' + 1, _, _, by omega, ⟨ln + 1, rfl, kz.tr h3, ky.tr h4, h5, Or.inr ⟨kd', f', t', rfl, q1, q2, by omega, q4⟩⟩, nk, mk⟩
end TLoop
