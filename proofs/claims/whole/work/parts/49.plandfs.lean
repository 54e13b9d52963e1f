/-! plan: all tries -/
theorem fx_s {α : Type} {F : (α → Option (Int × AH)) → α → Option (Int × AH)} {k : Nat} {z : α} : fx F (k + 1) z = F (fx F k) z := fx_succ ..
section PlanD
variable {V : Nat → Int} {N : Nat}
def pth0 (V : Nat → Int) (N m q T : Nat) (c : Int) (j : Nat) : Int := if j = 0 then c else plN V N m (q + 1) (T ||| tkC c.toNat) (j - 1)
theorem m_top (hV : VOK V) {h : AH} (hm : VM h.2 V) {q : Nat} (hq : (q : Int) < V 2) {s B : Int} (hs : 0 ≤ s ∧ s ≤ 324) (hB : BOK B) (h74 : h.2 74 q = s) (rec : PZt → Option (Int × AH)) : FPl rec (B, (q : Int), h) = if s < Bv B then bnd (f11_nextAt q (h.2 73 q) h) (fun r h2 => b11_plansOf_142 rec B q r h2) else rec (B, (q : Int) + (-1), h) := by
  have v2 := hV.2.2.1
  unfold FPl b11_plansOf_32 b11_plansOf_49 b11_plansOf_108 b11_plansOf_127 b11_plansOf_131
  dsimp only
  rw [vm_H hm, w32_id (x := V 2) (by omega) (by omega), w32_id (x := (q : Int)) (by omega) (by omega), if_neg (by omega), if_pos (by omega), if_pos w32_0, if_neg (fun y => y w32_0), asrt_t (by omega), asrt_t (by omega), Int.toNat_natCast, h74, w32_id (x := s) (by omega) (by omega)]
  have e142 : b11_plansOf_142 rec B q (-1) h = rec (B, (q : Int) + (-1), h) := by
    unfold b11_plansOf_142
    rw [if_neg (fun y => y w32_m)]
  rw [e142]
  unfold Bv
  rcases hB with hB | hB
  · rw [hB, if_pos w32_m, if_pos rfl, if_pos (by omega)]
  · rw [w32_id (x := B) (by omega) (by omega), if_neg (c := B = -1) (by omega), if_neg (c := B = -1) (by omega)]
theorem m_dfs (hV : VOK V) (hN : N = 100 * (V 1).toNat) (m : Nat) : ∀ (q T : Nat) (s B : Int) (h : AH), q + m = (V 2).toNat → T < 16384 → (0 ≤ s ∧ s ≤ 81 * q) → BOK B → VM h.2 V → SL q T s 0 h → ∃ (d : Nat) (B1 : Int) (h1 : AH), d ≤ Dn m ∧ (∀ k, fx FPl (k + d) (B, (q : Int), h) = fx FPl k (B1, (q : Int) + (-1), h1)) ∧ BOK B1 ∧ Ky (kD q) h h1 ∧ RDf (V 2).toNat q s B B1 h h1 (LPl V N m q T).1 (fun j => plN V N m q T j) := by
  have v1 := hV.2.1
  have v2 := hV.2.2.1
  induction m with
  | zero =>
    intro q T s B h hq hT hs hB hm hS
    have e : q = (V 2).toNat := by omega
    subst e
    obtain ⟨B1, h1, a1, a2, a3, a4⟩ := m_lv0 hV hm (s := s) (B := B) (by omega) hB hS.2.1
    exact ⟨1, B1, h1, Nat.le_refl _, fun k => by rw [fx_s, a1], a2, a3.mono (fun a k z => Or.inr (Or.inr z)), a4⟩
  | succ m ih =>
    have inn : ∀ (r : Nat) (q T : Nat) (s B : Int) (h : AH), r ≤ N → q + (m + 1) = (V 2).toNat → T < 16384 → (0 ≤ s ∧ s ≤ 81 * q) → BOK B → VM h.2 V → SL q T s (N - r) h → ∃ (d : Nat) (B1 : Int) (h1 : AH), d ≤ 1 + r * (1 + Dn m) ∧ (∀ k, fx FPl (k + d) (B, (q : Int), h) = fx FPl k (B1, (q : Int) + (-1), h1)) ∧ BOK B1 ∧ Ky (kD q) h h1 ∧ RDf (V 2).toNat q s B B1 h h1 (rms (sFt V q T) (fun c => sBy V c + (LPl V N m (q + 1) (T ||| tkC c)).1) N r).1 (pth0 V N m q T (rms (sFt V q T) (fun c => sBy V c + (LPl V N m (q + 1) (T ||| tkC c)).1) N r).2) := by
      intro r
      induction r using Nat.strongRecOn with
      | _ r ihr =>
        intro q T s B h hr hq hT hs hB hm hS
        have bb := Bv_1 hB
        have top := m_top hV hm (q := q) (by omega) (s := s) (B := B) (by omega) hB hS.2.1
        have zr : 0 ≤ (rms (sFt V q T) (fun c => sBy V c + (LPl V N m (q + 1) (T ||| tkC c)).1) N r).1 := by
          rcases rms_spec (ok := sFt V q T) (f := fun c => sBy V c + (LPl V N m (q + 1) (T ||| tkC c)).1) hr with ⟨i1, -⟩ | ⟨c, i1, i2, i3, i4, i5, -, -⟩
          · rw [i1]; decide
          · rw [i4]
            have := sBy_rng hV c
            have := LPl_rng hV N m (q + 1) (T ||| tkC c)
            show 0 ≤ sBy V c + (LPl V N m (q + 1) (T ||| tkC c)).1
            omega
        by_cases g : s < Bv B
        · have nx := m_nextAt hV hN hm (q := q) (by omega) hS (by omega)
          rw [hS.1] at top
          rcases nx with ⟨n1, n2⟩ | ⟨c, c1, c2, c3, c4, c5⟩
          · have e0 : rms (sFt V q T) (fun c => sBy V c + (LPl V N m (q + 1) (T ||| tkC c)).1) N r = (1000, -1) := by
              rw [rms_skip hr (c := N) (by omega) (Nat.le_refl _) (fun d d1 d2 => n2 d d1 d2), Nat.sub_self]; rfl
            refine ⟨1, B, h, by omega, fun k => ?_, hB, Ky.rf h, fun y => ?_, fun _ => ⟨rfl, fun i _ => rfl⟩⟩
            · rw [fx_s, top, if_pos g, n1, bnd_some]
              unfold b11_plansOf_142
              rw [if_neg (fun y => y w32_m)]
            · rw [e0] at y
              simp only at y
              omega
          · obtain ⟨w, w1, w2, w3, w4, w5⟩ := m_down hV hN hm (B := B) (by omega) hS c2 c3 hT
            have fi := ft_in c3
            have i := pq_in hV fi.1
            have bS := cS_lt hN hV c2
            have rc := sBy_rng hV c
            have tl := tk_lt (a := cA c) (b := cB c) (s := cS c) (by omega) (by omega) bS
            have lr := LPl_rng hV N m (q + 1) (T ||| tkC c)
            obtain ⟨d1, B1, u, t1, t2, t3, t4, t5, t6⟩ := ih (q + 1) (T ||| tkC c) (s + sBy V c) B w (by omega) (Nat.or_lt_two_pow (n := 14) hT tl) (by omega) hB (hm.kd w4) w2
            have hm2 : VM u.2 V := (hm.kd w4).kd t4
            have S2 : SL q T s (N - (N - (c + 1))) u := by
              obtain ⟨s0, s01, PB, UB, s1, s2, s3, s4, s5, s6⟩ := hS
              have fr : ∀ a, 74 ≤ a → a ≤ 76 → u.2 a q = h.2 a q := fun a a1 a2 => by
                rw [t4.2 a q (by unfold kD; omega), w4.2 a q (by unfold kD; omega)]
              refine ⟨?_, (fr 74 (by omega) (by omega)).trans s01, PB, UB, (fr 75 (by omega) (by omega)).trans s1, (fr 76 (by omega) (by omega)).trans s2, s3, s4, s5, s6⟩
              rw [t4.2 73 q (by unfold kD; omega), w3]
              omega
            obtain ⟨d2, B2, x, y1, y2, y3, y4, y5, y6⟩ := ihr (N - (c + 1)) (by omega) q T s B1 u (by omega) hq hT hs t3 hm2 S2
            have bb1 := Bv_1 t3
            have rs : rms (sFt V q T) (fun c => sBy V c + (LPl V N m (q + 1) (T ||| tkC c)).1) N r = if sBy V c + (LPl V N m (q + 1) (T ||| tkC c)).1 < 1000 ∧ sBy V c + (LPl V N m (q + 1) (T ||| tkC c)).1 ≤ (rms (sFt V q T) (fun c => sBy V c + (LPl V N m (q + 1) (T ||| tkC c)).1) N (N - (c + 1))).1 then (sBy V c + (LPl V N m (q + 1) (T ||| tkC c)).1, (c : Int)) else rms (sFt V q T) (fun c => sBy V c + (LPl V N m (q + 1) (T ||| tkC c)).1) N (N - (c + 1)) := by
              rw [rms_skip hr (c := c) c1 (by omega) c5]
              obtain ⟨k, hk⟩ : ∃ k, N - c = k + 1 := ⟨N - c - 1, by omega⟩
              rw [hk, show N - (c + 1) = k by omega]
              simp only [rms]
              rw [show N - (k + 1) = c by omega, c3]
              simp only [true_and]
            refine ⟨d2 + d1 + 1, B2, x, ?_, fun k => ?_, y3, (w4.tr (t4.mono (fun a k z => by unfold kD at *; omega))).tr y4, ?_⟩
            · have e1 : (N - (c + 1) + 1) * (1 + Dn m) ≤ r * (1 + Dn m) := Nat.mul_le_mul_right _ (by omega)
              rw [Nat.add_mul, Nat.one_mul] at e1
              omega
            · rw [← Nat.add_assoc, fx_s, top, if_pos g, c4, bnd_some, w1, ← Nat.add_assoc, t2, show ((q + 1 : Nat) : Int) + (-1) = q by omega, y2]
            · generalize hz : rms (sFt V q T) (fun c => sBy V c + (LPl V N m (q + 1) (T ||| tkC c)).1) N (N - (c + 1)) = z at *
              generalize hf : sBy V c + (LPl V N m (q + 1) (T ||| tkC c)).1 = fcv at *
              have u73 : ∀ i, i < q → u.2 73 i = h.2 73 i := fun i hi => by rw [t4.2 73 i (by unfold kD; omega), w4.2 73 i (by unfold kD; omega)]
              have w73 : ∀ i, i < q → w.2 73 i = h.2 73 i := fun i hi => w4.2 73 i (by unfold kD; omega)
              have t5' : s + fcv < Bv B → B1 = s + fcv ∧ (∀ i, i < q + 1 → u.2 77 i = w.2 73 i) ∧ ∀ j, q + 1 + j < (V 2).toNat → u.2 77 (q + 1 + j) = plN V N m (q + 1) (T ||| tkC c) j := fun a => by
                obtain ⟨b1, b2, b3⟩ := t5 (by omega)
                exact ⟨by omega, b2, b3⟩
              have t6' : ¬ s + fcv < Bv B → B1 = B ∧ ∀ i, i < (V 2).toNat → u.2 77 i = h.2 77 i := fun a => by
                obtain ⟨b1, b2⟩ := t6 (by omega)
                exact ⟨b1, fun i hi => by rw [b2 i hi, w5]⟩
              clear t5 t6
              rw [rs]
              by_cases cA' : fcv < 1000 ∧ fcv ≤ z.1
              · rw [if_pos cA']
                refine ⟨fun a => ?_, fun a => ?_⟩
                · simp only at a
                  obtain ⟨b1, b2, b3⟩ := t5' a
                  have nb : ¬ s + z.1 < Bv B1 := by
                    unfold Bv
                    rw [if_neg (by omega)]
                    omega
                  obtain ⟨e1, e2⟩ := y6 nb
                  refine ⟨by simp only; omega, fun i hi => ?_, fun j hj => ?_⟩
                  · rw [e2 i (by omega), b2 i (by omega), w73 i hi]
                  · unfold pth0
                    cases j with
                    | zero => rw [if_pos rfl, Nat.add_zero, e2 q (by omega), b2 q (by omega), w3]
                    | succ j =>
                      rw [if_neg (by omega), e2 _ (by omega), show q + (j + 1) = q + 1 + j by omega, b3 j (by omega), Nat.add_sub_cancel, Int.toNat_natCast]
                · simp only at a
                  obtain ⟨b1, b2⟩ := t6' a
                  obtain ⟨e1, e2⟩ := y6 (by rw [b1]; omega)
                  exact ⟨by omega, fun i hi => by rw [e2 i hi, b2 i hi]⟩
              · rw [if_neg cA']
                by_cases g2 : s + fcv < Bv B
                · obtain ⟨b1, b2, b3⟩ := t5' g2
                  have eB : Bv B1 = s + fcv := by
                    unfold Bv
                    rw [if_neg (by omega)]
                    exact b1
                  have zl : s + z.1 < Bv B1 := by omega
                  obtain ⟨e1, e2, e3⟩ := y5 zl
                  refine ⟨fun a => ⟨e1, fun i hi => by rw [e2 i hi, u73 i hi], e3⟩, fun a => absurd (show s + z.1 < Bv B by omega) a⟩
                · obtain ⟨b1, b2⟩ := t6' g2
                  refine ⟨fun a => ?_, fun a => ?_⟩
                  · obtain ⟨e1, e2, e3⟩ := y5 (by rw [b1]; exact a)
                    exact ⟨e1, fun i hi => by rw [e2 i hi, u73 i hi], e3⟩
                  · obtain ⟨e1, e2⟩ := y6 (by rw [b1]; exact a)
                    exact ⟨by omega, fun i hi => by rw [e2 i hi, b2 i hi]⟩
        · refine ⟨1, B, h, by omega, fun k => ?_, hB, Ky.rf h, fun y => by omega, fun _ => ⟨rfl, fun i _ => rfl⟩⟩
          rw [fx_s, top, if_neg g]
    intro q T s B h hq hT hs hB hm hS
    obtain ⟨d, B1, h1, a1, a2, a3, a4, a5⟩ := inn N q T s B h (Nat.le_refl _) hq hT hs hB hm (by rw [Nat.sub_self]; exact hS)
    have eL : LPl V N (m + 1) q T = rms (sFt V q T) (fun c => sBy V c + (LPl V N m (q + 1) (T ||| tkC c)).1) N N := rfl
    rw [← eL] at a5
    have gp : (pth0 V N m q T (LPl V N (m + 1) q T).2) = fun j => plN V N (m + 1) q T j := by
      funext j
      unfold pth0
      cases j with
      | zero => rfl
      | succ j => rw [if_neg (by omega), Nat.add_sub_cancel]; rfl
    rw [gp] at a5
    refine ⟨d, B1, h1, ?_, a2, a3, a4, a5⟩
    have : N * (1 + Dn m) ≤ 600 * (1 + Dn m) := Nat.mul_le_mul_right _ (by omega)
    show d ≤ 1 + 600 * (1 + Dn m)
    omega
theorem Dn_le {m : Nat} (hm : m ≤ 4) : Dn m < 999999999999 := by
  rcases (show m = 0 ∨ m = 1 ∨ m = 2 ∨ m = 3 ∨ m = 4 by omega) with rfl | rfl | rfl | rfl | rfl <;> decide
theorem m_plans (hV : VOK V) {h : AH} (hm : VM h.2 V) : ∃ h1, f11_plansOf h = some (if (LPl V (100 * (V 1).toNat) (V 2).toNat 0 0).1 < 1000 then (LPl V (100 * (V 1).toNat) (V 2).toNat 0 0).1 else -1, h1) ∧ Ky (fun a _ => 73 ≤ a ∧ a ≤ 77) h h1 ∧ ((LPl V (100 * (V 1).toNat) (V 2).toNat 0 0).1 < 1000 → ∀ q, q < (V 2).toNat → h1.2 77 q = plN V (100 * (V 1).toNat) (V 2).toNat 0 0 q) := by
  have v2 := hV.2.2.1
  unfold f11_plansOf l11_plansOf_32
  rw [asrt_t (by decide), lt_eq, asrt_t (by decide), lt_eq, asrt_t (by decide), lt_eq, asrt_t (by decide), lt_eq, show (w32 0).toNat = 0 from rfl]
  have k1 : Ky (fun a _ => 73 ≤ a ∧ a ≤ 77) h (wr (wr (wr (wr h 73 0 (-1)) 74 0 0) 75 0 0) 76 0 0) := (((Ky.w1 (P := fun a _ => 73 ≤ a ∧ a ≤ 77) (by omega)).w2 (by omega)).w2 (by omega)).w2 (by omega)
  have S1 : SL 0 0 0 0 (wr (wr (wr (wr h 73 0 (-1)) 74 0 0) 75 0 0) 76 0 0) := by
    refine ⟨?_, ?_, 0, 0, ?_, ?_, by omega, by omega, fun a _ => by rw [Nat.zero_testBit, Nat.zero_testBit], fun i _ => rfl⟩ <;> simp (disch := omega) only [wr_e, wr_at] <;> rfl
  have hm1 : VM (wr (wr (wr (wr h 73 0 (-1)) 74 0 0) 75 0 0) 76 0 0).2 V := k1.vm (fun k _ _ => by omega) (fun k => by omega) hm
  generalize wr (wr (wr (wr h 73 0 (-1)) 74 0 0) 75 0 0) 76 0 0 = w at *
  obtain ⟨d, B1, h1, a1, a2, a3, a4, a5, a6⟩ := m_dfs hV rfl (V 2).toNat 0 0 0 (-1) w (by omega) (by omega) (by omega) (Or.inl rfl) hm1 S1
  have dl := Dn_le (m := (V 2).toNat) (by omega)
  obtain ⟨k, hk⟩ : ∃ k, FU = (k + 1) + d := ⟨FU - d - 1, by
    have : FU = 1000000000000 := rfl
    omega⟩
  have run := a2 (k + 1)
  rw [← hk, fx_s] at run
  have eB : Bv (-1) = 1000 := rfl
  rw [eB, Int.zero_add] at a5 a6
  refine ⟨h1, ?_, k1.tr (a4.mono (fun a k z => by unfold kD at z; omega)), fun y q hq => ?_⟩
  · show fx FPl FU (-1, ((0 : Nat) : Int), w) = _
    rw [run]
    unfold FPl b11_plansOf_32
    dsimp only
    rw [if_pos (by decide)]
    by_cases y : (LPl V (100 * (V 1).toNat) (V 2).toNat 0 0).1 < 1000
    · rw [if_pos y, (a5 y).1]
    · rw [if_neg y, (a6 y).1]
  · have := (a5 y).2.2 q (by omega)
    rw [Nat.zero_add] at this
    exact this
end PlanD
theorem q_plan {x1 x2 : Int} (hx1 : Rg x1) (hx2 : Rg x2) : Agr (f10_plan x1 x2) (f11_plan x1 x2) := by
  refine agr_v hx1 (fun h e => ⟨-1, ?_, fun e2 => ?_⟩) (fun h v V hV hc h7 h17 e => ?_)
  · unfold f10_plan
    simp (disch := omega) only [w32_id, w32_0, w32_1, w32_m, if_pos, if_neg, bnd_some, lt_eq, asrt_t, ite10_0, ite10_or, e]
  · unfold f11_plan
    rw [e2, bnd_some, ite_w0]
  · have v2 := hV.2.2.1
    obtain ⟨h1, a1, a2, a3⟩ := c_arrange hV hc (by omega)
    have lr := LPl_rng hV (100 * (V 1).toNat) (V 2).toNat 0 0
    by_cases hC : x2 = -1 ∨ (0 ≤ x2 ∧ x2 < V 2)
    · refine ⟨if (LPl V (100 * (V 1).toNat) (V 2).toNat 0 0).1 < 1000 then (if x2 = -1 then (LPl V (100 * (V 1).toNat) (V 2).toNat 0 0).1 else plN V (100 * (V 1).toNat) (V 2).toNat 0 0 x2.toNat) else -1, h1, ?_, a2.pk (fun a k z => by unfold kQu kPl at z; omega), fun hs e1 hm => ?_⟩
      · have b26 : b10_plan_26 x2 v h = some (if (LPl V (100 * (V 1).toNat) (V 2).toNat 0 0).1 < 1000 then (if x2 = -1 then (LPl V (100 * (V 1).toNat) (V 2).toNat 0 0).1 else plN V (100 * (V 1).toNat) (V 2).toNat 0 0 x2.toNat) else -1, h1) := by
          unfold b10_plan_26
          rw [a1, bnd_some, w32_id hx2.1 hx2.2]
          by_cases y : (LPl V (100 * (V 1).toNat) (V 2).toNat 0 0).1 < 1000
          · obtain ⟨c1, c2⟩ := a3 y
            rw [if_pos y, if_pos y, if_pos (by decide)]
            by_cases d : x2 = -1
            · rw [if_neg (fun w => w d), if_pos d, c1]
            · rw [if_pos d, if_neg d, asrt_t (by omega), c2 _ (by omega)]
          · rw [if_neg y, if_neg y, if_neg (by decide)]
        unfold f10_plan
        rw [e, bnd_some, if_neg (by omega), w32_id hx2.1 hx2.2, Int.toNat_natCast, v_hasH hV hc, bnd_some, w32_id hx2.1 hx2.2, b26]
        rcases hC with hC | hC
        · rw [if_pos hC]
        · rw [if_neg (by omega), if_pos (c := 0 ≤ x2 ∧ _) hC, ite_w1]
      · obtain ⟨h2, b1, b2, b3⟩ := m_plans hV hm
        have b29 : b11_plan_29 x2 hs = some (if (LPl V (100 * (V 1).toNat) (V 2).toNat 0 0).1 < 1000 then (if x2 = -1 then (LPl V (100 * (V 1).toNat) (V 2).toNat 0 0).1 else plN V (100 * (V 1).toNat) (V 2).toNat 0 0 x2.toNat) else -1, h2) := by
          unfold b11_plan_29
          rw [b1, bnd_some, w32_id hx2.1 hx2.2]
          by_cases y : (LPl V (100 * (V 1).toNat) (V 2).toNat 0 0).1 < 1000
          · rw [if_pos y, if_pos y, w32_id (x := (LPl V (100 * (V 1).toNat) (V 2).toNat 0 0).1) (by omega) (by omega), if_neg (by omega)]
            by_cases d : x2 = -1
            · rw [if_neg (fun w => w d), if_pos d]
            · rw [if_pos d, if_neg d, asrt_t (by omega), b3 y _ (by omega)]
          · rw [if_neg y, if_neg y, if_pos w32_m]
        refine ⟨h2, ?_, b2.pk (fun a k z => by omega)⟩
        unfold f11_plan
        rw [e1, bnd_some, ite_w1, w32_id hx2.1 hx2.2, m_isIn, bnd_some, vm_H hm, w32_0, w32_id hx2.1 hx2.2, w32_id (x := (V 2 - 1)) (by omega) (by omega), b29]
        rcases hC with hC | hC
        · rw [if_pos hC]
        · rw [if_neg (by omega), if_pos (c := 0 ≤ x2 ∧ _) (by omega), if_pos (by decide)]
    · refine ⟨-1, h, ?_, PK.rf h, fun hs e1 hm => ⟨hs, ?_, PK.rf hs⟩⟩
      · unfold f10_plan
        rw [e, bnd_some, if_neg (by omega), w32_id hx2.1 hx2.2, if_neg (by omega), Int.toNat_natCast, v_hasH hV hc, bnd_some, w32_id hx2.1 hx2.2, if_neg (c := 0 ≤ x2 ∧ _) (by omega), ite_w0]
      · unfold f11_plan
        rw [e1, bnd_some, ite_w1, w32_id hx2.1 hx2.2, if_neg (by omega), m_isIn, bnd_some, vm_H hm, w32_0, w32_id hx2.1 hx2.2, w32_id (x := (V 2 - 1)) (by omega) (by omega), if_neg (c := 0 ≤ x2 ∧ _) (by omega), if_neg (by decide)]
