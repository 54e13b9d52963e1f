/-! calm, side by side -/
section CalmR
variable {V : Nat → Int} {s : Nat}
theorem s_calm (hV : VOK V) (hs : (s : Int) < V 1) {b1 hm : AH} (hc1 : VC b1.2 42 V) (hm1 : VM hm.2 V) (h84 : ∀ p : Nat, (p : Int) < V 0 → hm.2 84 p = V (24 + (6 * p + s))) (x3 x4 x5 : Int) : ∃ (k : Nat) (hc2 hm2 : AH), l7_makeCalm_7 s 0 b1 = some ((k : Int), hc2) ∧ l11_calm_141 s x3 x4 x5 0 hm = l11_calm_160 s x3 x4 x5 k (-1) 0 hm2 ∧ KS b1 hc2 ∧ Ky (fun a _ => a = 84) hm hm2 ∧ k ≤ 1000 ∧ ∃ K : Nat → Int, VC hc2.2 42 (VK V K s) ∧ (∀ p, p < 8 → -1 ≤ K p ∧ K p ≤ 9) ∧ (∀ p : Nat, (p : Int) < V 0 → hm2.2 84 p = K p) ∧ (∀ p, p < 8 → (K p = -1 ↔ V (24 + (6 * p + s)) = -1)) ∧ ∀ a b, a < b → b < (V 0).toNat → ¬ dK K a b := by
  have v0 := hV.1
  have v1 := hV.2.1
  unfold l7_makeCalm_7 l11_calm_141
  have hK0 : ∀ p, p < 8 → -1 ≤ V (24 + (6 * p + s)) ∧ V (24 + (6 * p + s)) ≤ 9 := fun p hp => hV.2.2.2.2.2.2 _ (by omega)
  have e0 : VK V (fun p => V (24 + (6 * p + s))) s = V := by
    funext j
    unfold VK
    split
    · show V (24 + (6 * ((j - 24) / 6) + s)) = V j
      rw [show 24 + (6 * ((j - 24) / 6) + s) = j by omega]
    · rfl
  have m0 := sqs_rng (K := fun p => V (24 + (6 * p + s))) hK0 (n := (V 0).toNat) (by omega)
  refine wh2 (fun m (z : Int × AH) (y : Int × AH) => ∃ (k : Nat) (K : Nat → Int), (z.1 = (k : Int) ∧ y.1 = (k : Int)) ∧ (m : Int) = sqs K (V 0).toNat ∧ k + m ≤ 648 ∧ KS b1 z.2 ∧ Ky (fun a _ => a = 84) hm y.2 ∧ VC z.2.2 42 (VK V K s) ∧ (∀ p, p < 8 → -1 ≤ K p ∧ K p ≤ 9) ∧ (∀ p : Nat, (p : Int) < V 0 → y.2.2 84 p = K p) ∧ ∀ p, p < 8 → (K p = -1 ↔ V (24 + (6 * p + s)) = -1)) (fun A B => ∃ (k : Nat) (hc2 hm2 : AH), A = some ((k : Int), hc2) ∧ B = l11_calm_160 s x3 x4 x5 k (-1) 0 hm2 ∧ KS b1 hc2 ∧ Ky (fun a _ => a = 84) hm hm2 ∧ k ≤ 1000 ∧ ∃ K : Nat → Int, VC hc2.2 42 (VK V K s) ∧ (∀ p, p < 8 → -1 ≤ K p ∧ K p ≤ 9) ∧ (∀ p : Nat, (p : Int) < V 0 → hm2.2 84 p = K p) ∧ (∀ p, p < 8 → (K p = -1 ↔ V (24 + (6 * p + s)) = -1)) ∧ ∀ a b, a < b → b < (V 0).toNat → ¬ dK K a b) (fun m z y hp => ?_) FU (sqs (fun p => V (24 + (6 * p + s))) (V 0).toNat).toNat (0, b1) (0, hm) ⟨0, fun p => V (24 + (6 * p + s)), ⟨rfl, rfl⟩, by omega, by omega, KS.rf b1, Ky.rf hm, by rw [e0]; exact hc1, hK0, h84, fun p _ => Iff.rfl⟩ (FU_big (by omega))
  obtain ⟨k, K, ⟨q1, q2⟩, q3, q4, q5, q6, q7, q8, q9, q10⟩ := hp
  obtain ⟨zk, z⟩ := z
  obtain ⟨yk, y⟩ := y
  simp only at q1 q2 q5 q6 q7 q9
  subst q1
  subst q2
  have vm : VM y.2 V := q6.vm (fun k _ _ => by omega) (fun k => by omega) hm1
  rcases c_agF hV hs q8 q7 with ⟨c1, c2⟩ | ⟨a, b, c1, c2⟩
  · left
    intro rec rec2
    rcases m_calms hV vm q8 q9 with ⟨d1, d2⟩ | ⟨a, b, d1, d2⟩
    · refine ⟨k, z, y, ?_, ?_, q5, q6, by omega, K, q7, q8, q9, q10, c1⟩
      · unfold b7_makeCalm_7
        dsimp only
        rw [w32_id (x := (k : Int)) (by omega) (by omega), if_neg (by omega), c2, bnd_some, ite_w0]
      · unfold b11_calm_141
        dsimp only
        rw [d2, bnd_some, ite_w0]
    · exact absurd d1.2.2.1 (c1 a b d1.1 d1.2.1)
  · right
    rcases m_calms hV vm q8 q9 with ⟨d1, d2⟩ | ⟨a1, b1, d1, d2⟩
    · exact absurd c1.2.2.1 (d1 a b c1.1 c1.2.1)
    · obtain ⟨e1, e2⟩ := d1.uq c1
      subst e1
      subst e2
      have su := sqs_up q8 (by omega) c1
      obtain ⟨o1, o2, ⟨o3, o4, o5⟩, -⟩ := c1
      have r1 := q8 a1 (by omega)
      have r2 := q8 b1 (by omega)
      have kr : ∀ p, p < 8 → -1 ≤ kU K a1 b1 p ∧ kU K a1 b1 p ≤ 9 := fun p hp => by
        have := q8 p hp
        unfold kU
        repeat' split
        all_goals omega
      have sr := sqs_rng kr (n := (V 0).toNat) (by omega)
      refine ⟨(sqs (kU K a1 b1) (V 0).toNat).toNat, (((k : Int) + 1), wr (wr z 47 (6 * a1 + s) ((K a1 + K b1) / 2)) 47 (6 * b1 + s) ((K a1 + K b1) / 2)), (((k : Int) + 1), wr (wr y 84 a1 ((K a1 + K b1) / 2)) 84 b1 ((K a1 + K b1) / 2)), by omega, ⟨k + 1, kU K a1 b1, ⟨rfl, rfl⟩, by omega, by omega, ?_, (q6.w2 rfl).w2 rfl, ?_, kr, fun p hp => ?_, fun p hp => ?_⟩, fun rec => ?_, fun rec2 => ?_⟩
      · exact q5.tr ⟨rfl, fun i j hi => by rw [wr_e (by omega), wr_e (by omega)]⟩
      · refine VK_vc hV q7 (fun i j i1 i2 => by rw [wr_e (by omega), wr_e (by omega)]) (fun q hq hq2 => by rw [wr_e (by omega), wr_e (by omega)]) (fun p hp => ?_)
        unfold kU
        by_cases p1 : p = b1
        · subst p1; rw [if_pos rfl, wr_at]
        · rw [if_neg p1, wr_e (by omega)]
          by_cases p2 : p = a1
          · subst p2; rw [if_pos rfl, wr_at]
          · rw [if_neg p2, wr_e (by omega)]
            have := q7.2.2.2.2.2.2 (6 * p + s) (by omega)
            rw [VK_k (by omega)] at this
            exact this
      · unfold kU
        by_cases p1 : p = b1
        · subst p1; rw [if_pos rfl, wr_at]
        · rw [if_neg p1, wr_e (by omega)]
          by_cases p2 : p = a1
          · subst p2; rw [if_pos rfl, wr_at]
          · rw [if_neg p2, wr_e (by omega)]; exact q9 p hp
      · have w1 := q10 p hp
        rw [← w1]
        unfold kU
        by_cases p1 : p = b1
        · subst p1; rw [if_pos rfl]; omega
        · rw [if_neg p1]
          by_cases p2 : p = a1
          · subst p2; rw [if_pos rfl]; omega
          · rw [if_neg p2]
      · unfold b7_makeCalm_7
        dsimp only
        rw [w32_id (x := (k : Int)) (by omega) (by omega), if_neg (by omega), c2, bnd_some, ite_w1]
      · unfold b11_calm_141
        dsimp only
        rw [d2, bnd_some, ite_w1]
def sCalm (V : Nat → Int) (s : Nat) (x often last : Int) : Int := if x = 0 then often else if x = 1 then last else if x = 2 then (if last = -1 then -1 else (sMid V s : Int)) else if x = 3 then sDif V s (sMid V s) else sOath V s
theorem m_calm160 (hV : VOK V) {hm : AH} (hm1 : VM hm.2 V) (hs : (s : Int) < V 1) {K : Nat → Int} (hK : ∀ p, p < 8 → -1 ≤ K p ∧ K p ≤ 9) (h84 : ∀ p : Nat, (p : Int) < V 0 → hm.2 84 p = K p) {x3 : Int} (hx3 : 0 ≤ x3 ∧ x3 ≤ 4) (k : Nat) : l11_calm_160 s x3 (sMid V s) (mxs (fun x => sHol V s x) 10) k (-1) 0 hm = some (sCalm V s x3 k (lhv K (V 0).toNat), hm) := by
  have v0 := hV.1
  have mr : sMid V s ≤ 9 := mdl_lt (fun x => sDif V s x) (n := 10) (by omega)
  have lr : ∀ n, n ≤ 8 → -1 ≤ lhv K n ∧ lhv K n ≤ 9 := fun n hn => by
    induction n with
    | zero => exact ⟨Int.le_refl _, by show (-1 : Int) ≤ 9; omega⟩
    | succ n ih =>
      have := ih (by omega)
      have := hK n (by omega)
      simp only [lhv]
      split <;> omega
  unfold l11_calm_160
  refine loop2 (fun i => lhv K i) (V 0).toNat hm (fun i hi rec => ?_) (fun rec => ?_) (by omega)
  · have := hK i (by omega)
    unfold b11_calm_160 b11_calm_192
    dsimp only
    rw [vm_P hm1, w32_id (x := V 0) (by omega) (by omega), w32_id (x := (i : Int)) (by omega) (by omega), if_neg (by omega), asrt_t (by omega), asrt_t (by omega), Int.toNat_natCast, h84 i (by omega), w32_id (x := K i) (by omega) (by omega)]
    simp only [lhv]
    by_cases c : K i = -1
    · rw [if_neg (fun w => w c), if_pos c]
    · rw [if_pos c, if_neg c]
  · have := lr (V 0).toNat (by omega)
    unfold b11_calm_160 sCalm
    dsimp only
    rw [vm_P hm1, w32_id (x := V 0) (by omega) (by omega), w32_id (x := ((V 0).toNat : Int)) (by omega) (by omega), if_pos (by omega), w32_id (x := x3) (by omega) (by omega), w32_id (x := lhv K (V 0).toNat) (by omega) (by omega), m_away hV hm1 hs mr, bnd_some, m_holders hV hm1 s 0 9 (by omega) ⟨by omega, by omega⟩ ⟨by omega, by omega⟩, bnd_some]
    unfold sOath
    by_cases d0 : x3 = 0
    · rw [if_pos d0, if_pos d0]
    rw [if_neg d0, if_neg d0]
    by_cases d1 : x3 = 1
    · rw [if_pos d1, if_pos d1]
    rw [if_neg d1, if_neg d1]
    by_cases d2 : x3 = 2
    · rw [if_pos d2, if_pos d2]
      by_cases d3 : lhv K (V 0).toNat = -1
      · rw [if_neg (fun w => w d3), if_pos d3]
      · rw [if_pos d3, if_neg d3]
    rw [if_neg d2, if_neg d2]
    by_cases d3 : x3 = 3
    · rw [if_pos d3, if_pos d3]
    · rw [if_neg d3, if_neg d3]
theorem calm_dummy (V : Nat → Int) (s : Nat) : ∃ hm : AH, VM hm.2 V ∧ ∀ p : Nat, (p : Int) < V 0 → hm.2 84 p = V (24 + (6 * p + s)) := by
  obtain ⟨h0, z1, -⟩ := dummy V V
  exact ⟨(h0.1, fun a k => if a = 84 then V (24 + (6 * k + s)) else h0.2 a k), VM_same (fun k _ _ => rfl) (fun k => rfl) z1, fun p _ => rfl⟩
end CalmR
theorem q_calm {x1 x2 x3 : Int} (hx1 : Rg x1) (hx2 : Rg x2) (hx3 : Rg x3) : Agr (f10_calm x1 x2 x3) (f11_calm x1 x2 x3) := by
  refine agr_v hx1 (fun h e => ⟨-2, ?_, fun e2 => ?_⟩) (fun h v V hV hc h7 h17 e => ?_)
  · unfold f10_calm
    simp (disch := omega) only [w32_id, w32_0, w32_1, w32_m, if_pos, if_neg, bnd_some, lt_eq, asrt_t, ite10_0, ite10_or, e]
  · unfold f11_calm
    rw [e2, bnd_some, ite_w0]
  · have v0 := hV.1
    have v1 := hV.2.1
    by_cases hC : (0 ≤ x2 ∧ x2 < V 1) ∧ 0 ≤ x3 ∧ x3 ≤ 4
    · obtain ⟨s, rfl⟩ : ∃ s : Nat, x2 = s := ⟨x2.toNat, by omega⟩
      have hs : (s : Int) < V 1 := by omega
      obtain ⟨b1, p1, p2, p3, -⟩ := c_begin hV hc (by omega)
      obtain ⟨h0, z1, z2⟩ := calm_dummy V s
      obtain ⟨k, hc2, -, r1, -, r3, -, r5, K, r6, r7, -, r9, r10⟩ := s_calm hV hs p3 z1 z2 0 0 0
      have mk : f7_makeCalm v s h = some ((k : Int), hc2) := by unfold f7_makeCalm; rw [p1, bnd_some, r1]
      have ko := VK_ok (s := s) hV r7
      have f1 := c_firstHeld ko r6 s (by omega)
      have f2 := c_firstHeld hV.z hc s (by omega)
      have e0 : VK V K s 0 = V 0 := VK_o (by omega)
      have f3 : fhv (fun p => sHeld (VK V K s) p s) (V 0).toNat = lhv K (V 0).toNat := by
        rw [lhv_fhv r10]
        have : ∀ n, n ≤ (V 0).toNat → fhv (fun p => sHeld (VK V K s) p s) n = fhv K n := fun n hn => by
          induction n with
          | zero => rfl
          | succ n ih => simp only [fhv]; rw [ih (by omega), VK_held hV hs (by omega)]
        exact this _ (Nat.le_refl _)
      have f4 : fhv (fun p => sHeld V p s) (V 0).toNat = -1 ↔ lhv K (V 0).toNat = -1 := by
        rw [lhv_fhv r10, fhv_none, fhv_none]
        constructor
        · intro q i hi
          have := q i hi
          rw [sHeld_in (fun _ => trivial) (by omega), Int.toNat_natCast, Int.toNat_natCast] at this
          exact (r9 i (by omega)).mpr this
        · intro q i hi
          rw [sHeld_in (fun _ => trivial) (by omega), Int.toNat_natCast, Int.toNat_natCast]
          exact (r9 i (by omega)).mp (q i hi)
      rw [e0, f3] at f1
      have mr : sMid V s ≤ 9 := mdl_lt (fun x => sDif V s x) (n := 10) (by omega)
      have main : ∃ h1, f10_calm x1 s x3 h = some (sCalm V s x3 k (lhv K (V 0).toNat), h1) ∧ PK h h1 := by
        unfold f10_calm sCalm
        rw [e, bnd_some, if_neg (by omega), Int.toNat_natCast, v_hasS hV hc, bnd_some, w32_id (x := (s : Int)) (by omega) (by omega), if_pos (c := 0 ≤ (s : Int) ∧ _) hC.1, if_pos (by rw [w32_1]; omega), w32_id hx3.1 hx3.2, mk, bnd_some, bnd_some, f1, bnd_some, f2, bnd_some, c_middle hV hc (by omega), bnd_some, bnd_some, c_differing hV hc (by omega) mr, bnd_some, c_oath hV hc (by omega), bnd_some]
        by_cases d0 : x3 = 0
        · rw [if_pos d0, if_pos d0]; exact ⟨hc2, rfl, (p2.tr r3).pk⟩
        rw [if_neg d0, if_neg d0]
        by_cases d1 : x3 = 1
        · rw [if_pos d1, if_pos d1]; exact ⟨hc2, rfl, (p2.tr r3).pk⟩
        rw [if_neg d1, if_neg d1]
        refine ⟨h, ?_, PK.rf h⟩
        by_cases d2 : x3 = 2
        · rw [if_pos d2, if_pos d2]
          have fr1 : -1 ≤ fhv (fun p => sHeld V p s) (V 0).toNat ∧ fhv (fun p => sHeld V p s) (V 0).toNat ≤ 9 := by
            by_cases q : fhv (fun p => sHeld V p s) (V 0).toNat = -1
            · omega
            · obtain ⟨i, i1, i2⟩ := fhv_some q
              rw [← i2]; exact sHeld_rng hV i s
          rw [w32_id (x := fhv (fun p => sHeld V p s) (V 0).toNat) (by omega) (by omega)]
          by_cases d3 : lhv K (V 0).toNat = -1
          · rw [if_neg (fun w => w (f4.mpr d3)), if_pos d3]
          · rw [if_pos (fun w => d3 (f4.mp w)), if_neg d3]
        rw [if_neg d2, if_neg d2]
        by_cases d3 : x3 = 3
        · rw [if_pos d3, if_pos d3]
        · rw [if_neg d3, if_neg d3, if_pos (by omega)]
      obtain ⟨h1, a1, a2⟩ := main
      refine ⟨_, h1, a1, a2, fun hs2 e1 hm => ?_⟩
      obtain ⟨m1, g1, g2, g3⟩ := m_calm109 hV hm hs x3 (sMid V s) (mxs (fun x => sHol V s x) 10)
      obtain ⟨k2, hc3, hm3, t1, t2, -, t4, -, K2, t6, t7, t8, -, t10⟩ := s_calm hV hs p3 (g2.vm (fun k _ _ => by omega) (fun k => by omega) hm) g3 x3 (sMid V s) (mxs (fun x => sHol V s x) 10)
      obtain ⟨i1, i2⟩ := some_inj r1 t1
      subst i2
      have kk : ∀ p : Nat, (p : Int) < V 0 → hm3.2 84 p = K p := fun p hp => by
        rw [t8 p hp]
        have y1 := t6.2.2.2.2.2.2 (6 * p + s) (by omega)
        have y2 := r6.2.2.2.2.2.2 (6 * p + s) (by omega)
        rw [VK_k (by omega)] at y1 y2
        rw [← y1, y2]
      have g4 := g2.tr t4
      refine ⟨hm3, ?_, g4.pk (fun a k q => by omega)⟩
      unfold f11_calm
      rw [e1, bnd_some, ite_w1, m_isS hV hm, bnd_some, w32_id (x := (s : Int)) (by omega) (by omega), if_pos (c := 0 ≤ (s : Int) ∧ _) hC.1, ite_w1, m_isIn, bnd_some, w32_id hx3.1 hx3.2, w32_0, show w32 4 = 4 by decide, if_pos (c := 0 ≤ x3 ∧ _) hC.2, if_pos (by rw [w32_1]; omega), m_calm37 hV hm hs, g1, t2, m_calm160 hV (g4.vm (fun k _ _ => by omega) (fun k => by omega) hm) hs r7 kk hC.2, i1]
    · refine ⟨-2, h, ?_, PK.rf h, fun hs2 e1 hm => ⟨hs2, ?_, PK.rf hs2⟩⟩
      · unfold f10_calm
        rw [e, bnd_some, if_neg (by omega), Int.toNat_natCast, v_hasS hV hc, bnd_some, w32_id hx2.1 hx2.2, w32_id hx3.1 hx3.2]
        simp only [ite10_0]
        by_cases c1 : 0 ≤ x2 ∧ x2 < V 1
        · rw [if_pos (fun w => w c1), if_neg (by omega), if_neg (by omega), if_neg (by omega), if_neg (by omega), if_neg (by omega)]
        · rw [if_neg (fun w => w c1)]
      · unfold f11_calm
        rw [e1, bnd_some, ite_w1, m_isS hV hm, bnd_some, w32_id hx2.1 hx2.2, m_isIn, bnd_some, w32_id hx3.1 hx3.2, w32_0, show w32 4 = 4 by decide]
        simp only [ite10_0]
        by_cases c1 : 0 ≤ x2 ∧ x2 < V 1
        · rw [if_neg (fun w => w c1), if_neg (fun w => by omega)]
        · rw [if_pos c1]
