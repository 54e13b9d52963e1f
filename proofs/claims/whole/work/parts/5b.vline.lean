/-! reading side by side: the lines of a village -/
def CV (z w : AH) : Prop := VOK (w.2 72) ∧ VC z.2 29 (w.2 72) ∧ z.2 28 11 = w.2 69 9 + 1 ∧ z.2 28 12 = w.2 69 10 + 1
def IV (w : AH) : Prop := (0 ≤ w.2 72 1 ∧ w.2 72 1 ≤ 6) ∧ (0 ≤ w.2 72 2 ∧ w.2 72 2 ≤ 4) ∧ (-1 ≤ w.2 69 9 ∧ w.2 69 9 ≤ 7) ∧ (-1 ≤ w.2 69 10 ∧ w.2 69 10 ≤ 5)
theorem IVk (u u' : AH) (k : Ky kRM u u') (h : IV u) : IV u' := by
  unfold IV
  rw [k.2 72 1 (by unfold kRM; omega), k.2 72 2 (by unfold kRM; omega), k.2 69 9 (by unfold kRM; omega), k.2 69 10 (by unfold kRM; omega)]; exact h
theorem kRM72 {u u' : AH} (k : Ky kRM u u') : u'.2 72 = u.2 72 := funext fun j => k.2 72 j (by unfold kRM; omega)
theorem CVk (u u' v v' : AH) (k : Ky kRC u u') (q : Ky kRM v v') (h : CV u v) : CV u' v' := by
  obtain ⟨h1, h2, h3, h4⟩ := h
  unfold CV
  rw [kRM72 q, k.2 28 11 (by unfold kRC; omega), k.2 28 12 (by unfold kRC; omega), q.2 69 9 (by unfold kRM; omega), q.2 69 10 (by unfold kRM; omega)]
  exact ⟨h1, k.vc (fun a j h1 h2 => by unfold kRC; omega) h2, h3, h4⟩
section VLine
variable {z w z1 w1 : AH} {n : Nat} {bt : Nat → Int} {kd f t : Nat}
theorem may0 {line i : Nat} (lo hi : Int) (hl : line < 11) (hi' : i < 4) (e1 : (stV 1).getD (line * 4 + i) 0 = lo) (e2 : (stV 2).getD (line * 4 + i) 0 = hi) (r1 : 0 ≤ lo ∧ lo ≤ 99) (r2 : 0 ≤ hi ∧ hi ≤ 99) (hx : i ≠ 1 ∨ line = 4 ∨ line = 2 ∨ line = 8) (h0 : i = 1 → 0 ≤ z.2 40 0 ∧ z.2 40 0 ≤ 99) (v : Int) (u : AH) (v1 : 0 ≤ v) (v2 : v ≤ 99) (hv : u.2 40 i = v) (hu : ∀ j, j ≠ i → u.2 40 j = z.2 40 j) : ∃ b, f5_mayBe line i u = some (b, u) ∧ (b = 0 ∨ b = 1) ∧ (z.2 28 3 = 0 → (b = 1 ↔ lo ≤ v ∧ v ≤ hi)) := by
  obtain ⟨b, b1, b2, b3⟩ := c_mayBe (u := u) (v := v) hl hi' lo hi e1 e2 r1 r2 hv ⟨v1, v2⟩ (fun q => by rw [hu 0 (by omega)]; exact h0 q)
  refine ⟨b, b1, b2, fun _ => b3.trans ⟨fun q => q.1, fun q => ⟨q, fun q1 => ⟨fun q2 => ?_, fun q2 => ?_⟩⟩⟩⟩
  · omega
  · omega
theorem vl0 (hG : TG n bt z w kd f t) (hF : FtA z w f) (hI : IV w) (hC : z.2 28 3 = 0 → CV z w) : LnO n bt CV IV 0 0 z w t (bnd (f11_numbered 0 8 w) fun r h => asrt (0 ≤ w32 0 ∧ w32 0 < 201) <| lt (wr h 72 (w32 0).toNat r) fun h85 => bnd (f11_endsLine h85) fun _ h88 => some (0, h88)) := by
  refine g_num (by omega) (s_num (N := 1) (by omega) rfl (by omega) (by omega) hG hF (by omega) (by omega) (may0 0 8 (by omega) (by omega) rfl rfl (by omega) (by omega) (by omega) (fun q => by omega))) IVk hI (fun u u8 uI => ?_) (fun v r z' w' kd' f' t' kz kw G' F' I' e40 eo hok hr hv => ?_)
  · rw [asrt_t (by decide), lt_eq, show (w32 0).toNat = 0 from rfl, m_end1 (by rw [wr_e (by omega)]; exact u8), bnd_some]
    refine ⟨_, rfl, Ky.w1 (Or.inl rfl), ?_⟩
    unfold IV
    rw [wr_e (by omega), wr_e (by omega), wr_e (by omega), wr_e (by omega)]; exact uI
  · rw [asrt_t (by decide), lt_eq, show (w32 0).toNat = 0 from rfl]
    have k1 : Ky kWr w' (wr w' 72 0 r) := Ky.w1 (Or.inl rfl)
    refine LnO.pre (w1 := wr w' 72 0 r) (g_end (N := 1) (by omega) (s_end (N := 1) (by omega) rfl (by omega) (G'.kw k1) (F'.kw k1)) IVk CVk ?_ (fun e => ?_)) k1
    · unfold IV
      rw [wr_e (by omega), wr_e (by omega), wr_e (by omega), wr_e (by omega)]; exact I'
    · obtain ⟨e0, rv, l1, l2, -⟩ := hok e
      obtain ⟨⟨c0, c1, c2, c3, c4, c5, c6⟩, ⟨d0, d1, d2, d3, d4, d5, d6⟩, c7, c8⟩ := CVk _ _ _ _ kz kw (hC e0)
      refine ⟨wr z' 29 0 r, ?_, Ky.w1 (by unfold kTk; omega), ⟨?_, ?_, ?_, ?_, ?_, ?_, ?_⟩, ⟨?_, ?_, ?_, ?_, ?_, ?_, ?_⟩, ?_, ?_⟩
      · unfold f5_take
        rw [if_pos (by decide), asrt_t (by decide), lt_eq, show (w32 0).toNat = 0 from rfl, e40, rv]
      · rw [wr_at]; omega
      · rw [wr_e (by omega)]; exact c1
      · rw [wr_e (by omega)]; exact c2
      · rw [wr_e (by omega)]; exact c3
      · intro s hs
        rw [wr_e (by omega)] at hs
        rw [wr_e (by omega), wr_e (by omega)]; exact c4 s hs
      · intro s hs
        rw [wr_e (by omega)] at hs
        rw [wr_e (by omega), wr_e (by omega)]; exact c5 s hs
      · intro q hq
        rw [wr_e (by omega)]; exact c6 q hq
      · rw [wr_at, wr_at]
      · rw [wr_e (by omega), wr_e (by omega)]; exact d1
      · rw [wr_e (by omega), wr_e (by omega)]; exact d2
      · rw [wr_e (by omega), wr_e (by omega)]; exact d3
      · intro s hs
        rw [wr_e (by omega)] at hs
        rw [wr_e (by omega), wr_e (by omega), wr_e (by omega), wr_e (by omega)]; exact d4 s hs
      · intro s hs
        rw [wr_e (by omega)] at hs
        rw [wr_e (by omega), wr_e (by omega), wr_e (by omega), wr_e (by omega)]; exact d5 s hs
      · intro q hq
        rw [wr_e (by omega), wr_e (by omega)]; exact d6 q hq
      · rw [wr_e (by omega), wr_e (by omega)]; exact c7
      · rw [wr_e (by omega), wr_e (by omega)]; exact c8
theorem vl1 (hG : TG n bt z w kd f t) (hF : FtA z w f) (hI : IV w) (hC : z.2 28 3 = 0 → CV z w) : LnO n bt CV IV 1 0 z w t (bnd (f11_numbered 0 9 w) fun r h => asrt (0 ≤ w32 3 ∧ w32 3 < 201) <| lt (wr h 72 (w32 3).toNat r) fun h85 => bnd (f11_endsLine h85) fun _ h88 => some (0, h88)) := by
  refine g_num (by omega) (s_num (N := 1) (by omega) rfl (by omega) (by omega) hG hF (by omega) (by omega) (may0 0 9 (by omega) (by omega) rfl rfl (by omega) (by omega) (by omega) (fun q => by omega))) IVk hI (fun u u8 uI => ?_) (fun v r z' w' kd' f' t' kz kw G' F' I' e40 eo hok hr hv => ?_)
  · rw [asrt_t (by decide), lt_eq, show (w32 3).toNat = 3 from rfl, m_end1 (by rw [wr_e (by omega)]; exact u8), bnd_some]
    refine ⟨_, rfl, Ky.w1 (Or.inl rfl), ?_⟩
    unfold IV
    rw [wr_e (by omega), wr_e (by omega), wr_e (by omega), wr_e (by omega)]; exact uI
  · rw [asrt_t (by decide), lt_eq, show (w32 3).toNat = 3 from rfl]
    have k1 : Ky kWr w' (wr w' 72 3 r) := Ky.w1 (Or.inl rfl)
    refine LnO.pre (w1 := wr w' 72 3 r) (g_end (N := 1) (by omega) (s_end (N := 1) (by omega) rfl (by omega) (G'.kw k1) (F'.kw k1)) IVk CVk ?_ (fun e => ?_)) k1
    · unfold IV
      rw [wr_e (by omega), wr_e (by omega), wr_e (by omega), wr_e (by omega)]; exact I'
    · obtain ⟨e0, rv, l1, l2, -⟩ := hok e
      obtain ⟨⟨c0, c1, c2, c3, c4, c5, c6⟩, ⟨d0, d1, d2, d3, d4, d5, d6⟩, c7, c8⟩ := CVk _ _ _ _ kz kw (hC e0)
      refine ⟨wr z' 29 3 r, ?_, Ky.w1 (by unfold kTk; omega), ⟨?_, ?_, ?_, ?_, ?_, ?_, ?_⟩, ⟨?_, ?_, ?_, ?_, ?_, ?_, ?_⟩, ?_, ?_⟩
      · unfold f5_take
        rw [if_neg (by decide), if_pos (by decide), asrt_t (by decide), lt_eq, show (w32 0).toNat = 0 from rfl, e40, rv]
      · rw [wr_e (by omega)]; exact c0
      · rw [wr_e (by omega)]; exact c1
      · rw [wr_e (by omega)]; exact c2
      · rw [wr_at]; omega
      · intro s hs
        rw [wr_e (by omega)] at hs
        rw [wr_e (by omega), wr_e (by omega)]; exact c4 s hs
      · intro s hs
        rw [wr_e (by omega)] at hs
        rw [wr_e (by omega), wr_e (by omega)]; exact c5 s hs
      · intro q hq
        rw [wr_e (by omega)]; exact c6 q hq
      · rw [wr_e (by omega), wr_e (by omega)]; exact d0
      · rw [wr_e (by omega), wr_e (by omega)]; exact d1
      · rw [wr_e (by omega), wr_e (by omega)]; exact d2
      · rw [wr_at, wr_at]
      · intro s hs
        rw [wr_e (by omega)] at hs
        rw [wr_e (by omega), wr_e (by omega), wr_e (by omega), wr_e (by omega)]; exact d4 s hs
      · intro s hs
        rw [wr_e (by omega)] at hs
        rw [wr_e (by omega), wr_e (by omega), wr_e (by omega), wr_e (by omega)]; exact d5 s hs
      · intro q hq
        rw [wr_e (by omega), wr_e (by omega)]; exact d6 q hq
      · rw [wr_e (by omega), wr_e (by omega)]; exact c7
      · rw [wr_e (by omega), wr_e (by omega)]; exact c8
end VLine
