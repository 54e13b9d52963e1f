/-! reading side by side: a line put together -/
def kWr (a k : Nat) : Prop := a = 72 ∨ (a = 69 ∧ (k = 9 ∨ k = 10))
def kLC (a k : Nat) : Prop := kRC a k ∨ kTk a k
def kLM (a k : Nat) : Prop := kRM a k ∨ kWr a k
/-- where the line is broken off: the rest of the model's line -/
def BR (I : AH → Prop) (u : AH) (Y : Option (Int × AH)) : Prop := ∃ u' : AH, Y = some (0, u') ∧ Ky kWr u u' ∧ I u'
def LOx (n : Nat) (bt : Nat → Int) (C : AH → AH → Prop) (I : AH → Prop) (z w : AH) (t : Nat) (X Y : Option (Int × AH)) : Prop :=
  ∃ z' w' : AH, X = some (0, z') ∧ Y = some (0, w') ∧ Ky kLC z z' ∧ Ky kLM w w' ∧ I w' ∧ (BO z' w' ∨ ∃ kd' f' t' : Nat, TG n bt z' w' kd' f' t' ∧ FtA z' w' f' ∧ t ≤ f' ∧ (z'.2 28 3 = 0 → C z' w'))
def LnO (n : Nat) (bt : Nat → Int) (C : AH → AH → Prop) (I : AH → Prop) (line i : Nat) (z w : AH) (t : Nat) (Y : Option (Int × AH)) : Prop :=
  ∃ X, (∀ k, 6 - i ≤ k → lC k line (i : Int) z = X) ∧ LOx n bt C I z w t X Y
section Line
variable {z w z1 w1 : AH} {n : Nat} {bt : Nat → Int} {kd f t : Nat} {line i N : Nat} {C : AH → AH → Prop} {I : AH → Prop}
theorem BO.kw {u : AH} (h : BO z w) (k : Ky kWr w u) : BO z u := ⟨h.1, (k.2 _ _ (by unfold kWr; omega)).trans h.2.1, h.2.2.1.trans (k.2 _ _ (by unfold kWr; omega)).symm, (k.2 _ _ (by unfold kWr; omega)).trans h.2.2.2⟩
theorem LnO.pre {Y : Option (Int × AH)} (h : LnO n bt C I line i z w1 t Y) (k : Ky kWr w w1) : LnO n bt C I line i z w t Y := by
  obtain ⟨X, h0, z', w', h1, h2, h3, h4, h5, h6⟩ := h
  exact ⟨X, h0, z', w', h1, h2, h3, (k.mono (fun a k q => Or.inr q)).tr h4, h5, h6⟩
theorem LOx.st {X Y : Option (Int × AH)} {t1 : Nat} (h : LOx n bt C I z1 w1 t1 X Y) (kz : Ky kRC z z1) (kw : Ky kRM w w1) (ht : t ≤ t1) : LOx n bt C I z w t X Y := by
  obtain ⟨z', w', h1, h2, h3, h4, h5, h6⟩ := h
  refine ⟨z', w', h1, h2, (kz.mono (fun a k q => Or.inl q)).tr h3, (kw.mono (fun a k q => Or.inl q)).tr h4, h5, ?_⟩
  rcases h6 with h6 | ⟨kd', f', t', q1, q2, q3, q4⟩
  · exact Or.inl h6
  · exact Or.inr ⟨kd', f', t', q1, q2, Nat.le_trans ht q3, q4⟩
theorem g_br {K : AH → Option (Int × AH)} {X : Option (Int × AH)} {z' : AH} (hX : X = some (0, z')) (hb : BO z' w1) (kz : Ky kRC z z') (kw : Ky kRM w w1) (hI : I w1) (hB : ∀ u : AH, u.2 69 8 = 1 → I u → BR I u (K u)) : LOx n bt C I z w t X (K w1) := by
  obtain ⟨u, u1, u2, u3⟩ := hB w1 hb.2.2.2 hI
  exact ⟨z', u, hX, u1, kz.mono (fun a k q => Or.inl q), (kw.mono (fun a k q => Or.inl q)).tr (u2.mono (fun a k q => Or.inr q)), u3, Or.inl (hb.kw u2)⟩
theorem g_num {lo hi : Int} {M : Option (Int × AH)} {ok : Int → Prop} {K : Int → AH → Option (Int × AH)} (hi4 : i ≤ 4) (hR : NumR n bt z w t i line lo hi M ok) (hIk : ∀ u u' : AH, Ky kRM u u' → I u → I u') (hI : I w) (hB : ∀ u : AH, u.2 69 8 = 1 → I u → BR I u (K lo u))
    (hGood : ∀ (v r : Int) (z' w' : AH) (kd' f' t' : Nat), Ky kRC z z' → Ky kRM w w' → TG n bt z' w' kd' f' t' → FtA z' w' f' → I w' → z'.2 40 i = v → (∀ j, j ≠ i → z'.2 40 j = z.2 40 j) → (z'.2 28 3 = 0 → z.2 28 3 = 0 ∧ r = v ∧ lo ≤ v ∧ v ≤ hi ∧ ok v) → (lo ≤ r ∧ (r ≤ hi ∨ r = lo)) → (0 ≤ v ∧ v ≤ 99) → LnO n bt C I line (i + 1) z' w' t' (K r w')) : LnO n bt C I line i z w t (bnd M K) := by
  rcases hR with ⟨z', w', r1, r2, r3, r4, r5⟩ | ⟨v, r, z', w', kd', f', t', r1, r2, r3, r4, r5, r6, r7, r8, r9, r10, r11⟩
  · refine ⟨some (0, z'), fun k hk => ?_, ?_⟩
    · obtain ⟨k, rfl⟩ : ∃ j, k = j + 1 := ⟨k - 1, by omega⟩
      exact r1 k
    · rw [r2, bnd_some]
      exact g_br rfl r3 r4 r5 (hIk _ _ r5 hI) hB
  · obtain ⟨X, h0, hX⟩ := hGood v r z' w' kd' f' t' r3 r4 r5 r6 (hIk _ _ r4 hI) r8.1 r8.2 r9 r10 r11
    refine ⟨X, fun k hk => ?_, ?_⟩
    · obtain ⟨k, rfl⟩ : ∃ j, k = j + 1 := ⟨k - 1, by omega⟩
      rw [r1 k]
      exact h0 k (by omega)
    · rw [r2, bnd_some]
      exact hX.st r3 r4 (Nat.le_trans r7 r5.rng.1)
theorem g_end (hN4 : N ≤ 4) (hR : EndR n bt z w t line N) (hIk : ∀ u u' : AH, Ky kRM u u' → I u → I u') (hCk : ∀ u u' v v' : AH, Ky kRC u u' → Ky kRM v v' → C u v → C u' v') (hI : I w) (hT : z.2 28 3 = 0 → ∃ z1, f5_take line z = some (0, z1) ∧ Ky kTk z z1 ∧ C z1 w) : LnO n bt C I line N z w t (bnd (f11_endsLine w) fun _ h => some (0, h)) := by
  rcases hR with ⟨z', w', r1, r2, r3, r4, r5⟩ | ⟨r0, z', w', kd', f', t', r1, r2, r3, r4, r5, r6, r7, r8⟩ | ⟨r0, hr⟩
  · refine ⟨some (0, z'), fun k hk => ?_, z', w', rfl, by rw [r2, bnd_some], r4.mono (fun a k q => Or.inl q), r5.mono (fun a k q => Or.inl q), hIk _ _ r5 hI, Or.inl r3⟩
    obtain ⟨k, rfl⟩ : ∃ j, k = j + 1 := ⟨k - 1, by omega⟩
    exact r1 k
  · refine ⟨some (0, z'), fun k hk => ?_, z', w', rfl, by rw [r2, bnd_some], r6.mono (fun a k q => Or.inl q), r7.mono (fun a k q => Or.inl q), hIk _ _ r7 hI, Or.inr ⟨kd', f', t', r3, r4, r5, fun q => absurd q r8⟩⟩
    obtain ⟨k, rfl⟩ : ∃ j, k = j + 1 := ⟨k - 1, by omega⟩
    exact r1 k
  · obtain ⟨z1, t1, t2, t3⟩ := hT r0
    obtain ⟨z', w', kd', f', t', r1, r2, r3, r4, r5, r6, r7, r8⟩ := hr z1 t1 t2
    refine ⟨some (0, z'), fun k hk => ?_, z', w', rfl, by rw [r2, bnd_some], (t2.mono (fun a k q => Or.inr q)).tr (r6.mono (fun a k q => Or.inl q)), r7.mono (fun a k q => Or.inl q), hIk _ _ r7 hI, Or.inr ⟨kd', f', t', r3, r4, r5, fun _ => hCk _ _ _ _ r6 r7 t3⟩⟩
    obtain ⟨k, rfl⟩ : ∃ j, k = j + 1 := ⟨k - 1, by omega⟩
    exact r1 k
theorem LnO.fu {Y : Option (Int × AH)} (h : LnO n bt C I line 0 z w t Y) : LOx n bt C I z w t (lC FU line 0 z) Y := by
  obtain ⟨X, h0, h1⟩ := h
  have : lC FU line 0 z = X := h0 FU (by unfold FU; omega)
  rw [this]; exact h1
theorem FtA.kw {b : Nat} {u : AH} (h : FtA z w b) (k : Ky kWr w u) : FtA z u b := by
  unfold FtA
  rw [k.2 70 5 (by unfold kWr; omega), k.2 70 6 (by unfold kWr; omega)]; exact h
theorem TG.kw {u : AH} (h : TG n bt z w kd f t) (k : Ky kWr w u) : TG n bt z u kd f t := h.cw k (fun a k q => by unfold kWr at q; omega)
theorem c_mayBe {u : AH} {v : Int} (hl : line < 11) (hi : i < 4) (lo hi' : Int) (e1 : (stV 1).getD (line * 4 + i) 0 = lo) (e2 : (stV 2).getD (line * 4 + i) 0 = hi') (r1 : 0 ≤ lo ∧ lo ≤ 99) (r2 : 0 ≤ hi' ∧ hi' ≤ 99) (hv : u.2 40 i = v) (hr : 0 ≤ v ∧ v ≤ 99) (h0 : i = 1 → 0 ≤ u.2 40 0 ∧ u.2 40 0 ≤ 99) : ∃ b, f5_mayBe line i u = some (b, u) ∧ (b = 0 ∨ b = 1) ∧ (b = 1 ↔ (lo ≤ v ∧ v ≤ hi') ∧ (i = 1 → (line = 3 → u.2 40 0 ≤ v) ∧ (line = 5 ∨ line = 6 ∨ line = 7 ∨ line = 10 → v ≠ u.2 40 0))) := by
  have q1 : w32 (line : Int) = line := w32_id (by omega) (by omega)
  have q2 : w32 (i : Int) = i := w32_id (by omega) (by omega)
  unfold f5_mayBe
  rw [q2, asrt_t (by omega), lt_eq, lt_eq, Int.toNat_natCast, hv, show (line : Int) * 4 + (i : Int) = ((line * 4 + i : Nat) : Int) by omega, w32_id (x := ((line * 4 + i : Nat) : Int)) (by omega) (by omega), asrt_t (by omega), asrt_t (by omega), Int.toNat_natCast, e1, e2, w32_id (x := v) (by omega) (by omega), w32_id (x := lo) (by omega) (by omega), w32_id (x := hi') (by omega) (by omega), q1, asrt_t (by decide), asrt_t (by decide), show (w32 0).toNat = 0 from rfl]
  by_cases a1 : v < lo
  · rw [if_pos a1]
    exact ⟨0, rfl, Or.inl rfl, fun q => absurd q (by decide), fun q => absurd q.1.1 (by omega)⟩
  rw [if_neg a1]
  by_cases a2 : v ≤ hi'
  · rw [if_pos a2]
    have g : ∀ x : AH, x = u → lo ≤ v ∧ v ≤ hi' := fun _ _ => ⟨by omega, a2⟩
    by_cases a3 : i = 1
    · have h0 := h0 a3
      have q3 : w32 (u.2 40 0) = u.2 40 0 := w32_id (by omega) (by omega)
      rw [if_pos (by omega), q3]
      by_cases l3 : line = 3
      · rw [if_pos (by omega)]
        by_cases y : v < u.2 40 0
        · rw [if_pos y]
          exact ⟨0, rfl, Or.inl rfl, fun q => absurd q (by decide), fun q => absurd ((q.2 a3).1 l3) (by omega)⟩
        · rw [if_neg y]
          exact ⟨1, rfl, Or.inr rfl, fun _ => ⟨g u rfl, fun _ => ⟨fun _ => by omega, fun q => by omega⟩⟩, fun _ => rfl⟩
      rw [if_neg (by omega)]
      by_cases ls : line = 5 ∨ line = 6 ∨ line = 7 ∨ line = 10
      · by_cases y : v = u.2 40 0
        · refine ⟨0, ?_, Or.inl rfl, fun q => absurd q (by decide), fun q => absurd y ((q.2 a3).2 ls)⟩
          rw [if_pos y]
          rcases ls with rfl | rfl | rfl | rfl <;> rfl
        · refine ⟨1, ?_, Or.inr rfl, fun _ => ⟨g u rfl, fun _ => ⟨fun q => absurd q l3, fun _ => y⟩⟩, fun _ => rfl⟩
          rw [if_neg y]
          rcases ls with rfl | rfl | rfl | rfl <;> rfl
      · rw [if_neg (by omega), if_neg (by omega), if_neg (by omega), if_neg (by omega)]
        exact ⟨1, rfl, Or.inr rfl, fun _ => ⟨g u rfl, fun _ => ⟨fun q => absurd q l3, fun q => absurd q ls⟩⟩, fun _ => rfl⟩
    · rw [if_neg (by omega)]
      exact ⟨1, rfl, Or.inr rfl, fun _ => ⟨g u rfl, fun q => absurd q a3⟩, fun _ => rfl⟩
  · rw [if_neg a2]
    exact ⟨0, rfl, Or.inl rfl, fun q => absurd q (by decide), fun q => absurd q.1.2 a2⟩
theorem c_full {x0 : Nat} : ∃ b, f6_isFull x0 z = some (b, z) ∧ (b = 0 ∨ b = 1) ∧ (b = 1 ↔ ¬ w32 (z.2 x0 3) < w32 (z.2 x0 1)) := by
  unfold f6_isFull
  by_cases c : w32 (z.2 x0 3) < w32 (z.2 x0 1)
  · rw [if_pos c]; exact ⟨0, rfl, Or.inl rfl, fun q => absurd q (by decide), fun q => absurd c q⟩
  · rw [if_neg c]; exact ⟨1, rfl, Or.inr rfl, fun _ => c, fun _ => rfl⟩
theorem c_many (hl : line < 11) : ∃ b, f5_isOneTooMany line z = some (b, z) ∧ (b = 0 ∨ b = 1) ∧ (line = 0 ∨ line = 1 ∨ line = 4 → b = 0) ∧ (line = 2 → (b = 1 ↔ ¬ w32 (z.2 29 1) < 6)) ∧ (line = 3 → (b = 1 ↔ ¬ w32 (z.2 29 2) < 4)) ∧ (line = 10 → (b = 1 ↔ ¬ w32 (z.2 37 3) < w32 (z.2 37 1))) ∧ (5 ≤ line → line ≤ 9 → (b = 1 ↔ ¬ w32 (z.2 35 3) < w32 (z.2 35 1))) := by
  have q1 : w32 (line : Int) = line := w32_id (by omega) (by omega)
  have as : ∀ (b : Int) (K : Option (Int × AH)), (b = 0 ∨ b = 1) → asrt (w32 b = 0 ∨ w32 b = 1) K = K := fun b K h => asrt_t (by rcases h with rfl | rfl <;> decide) K
  unfold f5_isOneTooMany
  rw [q1]
  by_cases l0 : line = 0 ∨ line = 1 ∨ line = 4
  · refine ⟨0, ?_, Or.inl rfl, fun _ => rfl, fun q => by omega, fun q => by omega, fun q => by omega, fun q => by omega⟩
    rcases l0 with rfl | rfl | rfl <;> rfl
  by_cases l2 : line = 2
  · rw [if_neg (by omega), if_neg (by omega), if_pos (by omega)]
    by_cases c : w32 (z.2 29 1) < 6
    · rw [if_pos c]; exact ⟨0, rfl, Or.inl rfl, fun _ => rfl, fun _ => ⟨fun q => absurd q (by decide), fun q => absurd c q⟩, fun q => by omega, fun q => by omega, fun q => by omega⟩
    · rw [if_neg c]; exact ⟨1, rfl, Or.inr rfl, fun q => absurd q l0, fun _ => ⟨fun _ => c, fun _ => rfl⟩, fun q => by omega, fun q => by omega, fun q => by omega⟩
  by_cases l3 : line = 3
  · rw [if_neg (by omega), if_neg (by omega), if_neg (by omega), if_pos (by omega)]
    by_cases c : w32 (z.2 29 2) < 4
    · rw [if_pos c]; exact ⟨0, rfl, Or.inl rfl, fun _ => rfl, fun q => by omega, fun _ => ⟨fun q => absurd q (by decide), fun q => absurd c q⟩, fun q => by omega, fun q => by omega⟩
    · rw [if_neg c]; exact ⟨1, rfl, Or.inr rfl, fun q => absurd q l0, fun q => by omega, fun _ => ⟨fun _ => c, fun _ => rfl⟩, fun q => by omega, fun q => by omega⟩
  rw [if_neg (by omega), if_neg (by omega), if_neg (by omega), if_neg (by omega), if_neg (by omega)]
  by_cases l10 : line = 10
  · rw [if_pos (by omega)]
    obtain ⟨b, b1, b2, b3⟩ := c_full (z := z) (x0 := 37)
    rw [b1, bnd_some, as b _ b2]
    exact ⟨b, rfl, b2, fun q => by omega, fun q => by omega, fun q => by omega, fun _ => b3, fun q => by omega⟩
  · rw [if_neg (by omega)]
    obtain ⟨b, b1, b2, b3⟩ := c_full (z := z) (x0 := 35)
    rw [b1, bnd_some, as b _ b2]
    exact ⟨b, rfl, b2, fun q => by omega, fun q => by omega, fun q => by omega, fun q => by omega, fun _ _ => b3⟩
end Line
