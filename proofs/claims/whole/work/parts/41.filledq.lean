/-! filled, the model -/
theorem it_acf {σ : Type} {p : Nat → Bool} {g : Nat → σ → σ} {s : σ} {c : Nat} (h : p c = false → g c (acf p g s c) = acf p g s c) : acf p g s (c + 1) = g c (acf p g s c) := by
  cases q : p c
  · rw [acf_0 q, h q]
  · rw [acf_1 q]
section FilledM
variable {V : Nat → Int} {h : AH}
def FlM (c : Nat → Nat → Int) (z : FlS) : Prop := (1 ≤ z.2.1 → c 85 0 = z.2.2.1) ∧ (2 ≤ z.2.1 → c 85 1 = z.2.2.2)
def kFm (a _k : Nat) : Prop := a = 85
theorem VM.fm {w : AH} (hm : VM h.2 V) (k : Ky kFm h w) : VM w.2 V := k.vm (fun k _ _ => by unfold kFm; omega) (fun k => by unfold kFm; omega) hm
theorem m_f90 (hV : VOK V) (hm : VM h.2 V) {q : Nat} (hq : (q : Int) < V 2) {c : Nat} (hc : c < 100 * (V 1).toNat) {z : FlS} (hz : FlI z) (hR : FlM h.2 z) (rec72 : Int × Int × Int × AH → Option (Int × AH)) : ∃ (z1 : FlS) (h1 : AH), l11_fillsOf_90 rec72 q c z.1 z.2.1 ((c : Int) + 1) h = rec72 (z1.1, z1.2.1, (c : Int) + 1, h1) ∧ Ky kFm h h1 ∧ FlM h1.2 z1 ∧ z1 = if sPq V c then sFB V (V (17 + 2 * q)) c z (100 * (V 1).toNat) else z := by
  have v1 := hV.2.1
  have v2 := hV.2.2.1
  have hw := hV.2.2.2.2.2.1 q hq
  unfold l11_fillsOf_90
  have key := fr (F := fun rec (z : Int × Int × Int × AH) => b11_fillsOf_90 rec rec72 q c z.1 z.2.1 z.2.2.1 z.2.2.2) (fun X => ∃ (z1 : FlS) (h1 : AH), X = rec72 (z1.1, z1.2.1, (c : Int) + 1, h1) ∧ Ky kFm h h1 ∧ FlM h1.2 z1 ∧ z1 = if sPq V c then sFB V (V (17 + 2 * q)) c z (100 * (V 1).toNat) else z) (fun (s : FlS × AH) i => (s.1.1, s.1.2.1, i, s.2)) (fun d s => Ky kFm h s.2 ∧ FlM s.2.2 s.1 ∧ s.1 = (if sPq V c then sFB V (V (17 + 2 * q)) c z d else z)) (c + 1) (100 * (V 1).toNat) (z, h) ⟨Ky.rf h, hR, by rw [acB_0, ite_self]⟩ (by omega) (by omega) (fun d s hd1 hd hI rec => ?_) (fun s hI rec => ?_)
  · exact key
  · obtain ⟨s, w⟩ := s
    obtain ⟨i1, i2, i3⟩ := hI
    simp only at i1 i2 i3
    have hm2 := hm.fm i1
    have rc := sBy_rng hV c
    have rd := sBy_rng hV d
    unfold b11_fillsOf_90 b11_fillsOf_191 b11_fillsOf_185
    dsimp only
    rw [vm_S hm2, w32_id (x := (100 * V 1)) (by omega) (by omega), w32_id (x := (d : Int)) (by omega) (by omega), if_neg (by omega), m_burnsBy hV hm2 (by omega), bnd_some, w32_id (x := sBy V c) (by omega) (by omega)]
    cases pc : sPq V c
    · left
      rw [if_pos (by have := of_decide_eq_false pc; omega)]
      rw [pc] at i3
      refine ⟨s, w, rfl, i1, i2, by rw [i3]; rfl⟩
    · right
      have pc1 : 0 < sBy V c := of_decide_eq_true pc
      rw [pc, if_pos rfl] at i3
      have si : FlI s := by rw [i3]; exact sFB_I hV hz d
      have e : sFB V (V (17 + 2 * q)) c z (d + 1) = gF2 V (V (17 + 2 * q)) c d s ∨ (sPq V d = false ∧ sFB V (V (17 + 2 * q)) c z (d + 1) = s) := by
        cases pd : sPq V d
        · right
          refine ⟨rfl, ?_⟩
          have pbd : pB V c d = false := by unfold pB; rw [pd]; rfl
          rw [i3]; exact acf_0 pbd
        · left
          have pbd : pB V c d = true := by unfold pB; rw [pd, decide_eq_true (by omega)]; rfl
          rw [i3]; exact acf_1 pbd
      have mc := m_cracks hm2 q (by omega)
      rw [Int.toNat_natCast] at mc
      unfold FlI at si
      rw [if_neg (c := sBy V c ≤ 0) (by omega), m_burnsBy hV hm2 (by omega), bnd_some, m_burnsBy hV hm2 (by omega), bnd_some, lt_eq, mc, bnd_some, m_burnsBy hV hm2 (by omega), bnd_some, m_areApart (by omega) (by omega), bnd_some, w32_id (x := sBy V c + sBy V d) (by omega) (by omega), w32_id (x := sBy V d) (by omega) (by omega), w32_id (x := s.1) (by omega) (by omega), w32_id (x := V (17 + 2 * q)) (by omega) (by omega)]
      by_cases g : (s.1 < sBy V c + sBy V d ∧ sBy V c + sBy V d ≤ V (17 + 2 * q) ∧ sApt c d = true) ∧ 0 < sBy V d
      · have e1 : sFB V (V (17 + 2 * q)) c z (d + 1) = (sBy V c + sBy V d, 2, (c : Int), (d : Int)) := by
          rcases e with e | ⟨e, -⟩
          · rw [e]; exact if_pos g.1
          · exact absurd g.2 (of_decide_eq_false e)
        rw [if_neg (c := sBy V c + sBy V d ≤ s.1) (by omega), if_neg (c := V (17 + 2 * q) < sBy V c + sBy V d) (by omega), if_neg (c := sBy V d = 0) (by omega), g.1.2.2, if_pos (c := ¬ w32 (if true = true then 1 else 0) = 0) (by decide), asrt_t (by decide), lt_eq, asrt_t (by decide), lt_eq, show (w32 0).toNat = 0 from rfl, show (w32 1).toNat = 1 from rfl]
        refine ⟨((sBy V c + sBy V d, 2, (c : Int), (d : Int)), wr (wr w 85 0 c) 85 1 d), ⟨(i1.w2 rfl).w2 rfl, ⟨fun _ => ?_, fun _ => ?_⟩, ?_⟩, rfl⟩
        · simp (disch := omega) only [wr_e, wr_at]
        · simp (disch := omega) only [wr_e, wr_at]
        · rw [if_pos rfl, e1]
      · have e1 : sFB V (V (17 + 2 * q)) c z (d + 1) = s := by
          rcases e with e | ⟨-, e⟩
          · rw [e]
            by_cases g2 : s.1 < sBy V c + sBy V d ∧ sBy V c + sBy V d ≤ V (17 + 2 * q) ∧ sApt c d = true
            · exfalso
              apply g
              refine ⟨g2, ?_⟩
              apply Classical.byContradiction
              intro g3
              have pd : sPq V d = false := decide_eq_false g3
              have pbd : pB V c d = false := by unfold pB; rw [pd]; rfl
              have e5 : sFB V (V (17 + 2 * q)) c z (d + 1) = s := by rw [i3]; exact acf_0 pbd
              rw [e5] at e
              have e6 : gF2 V (V (17 + 2 * q)) c d s = (sBy V c + sBy V d, 2, (c : Int), (d : Int)) := if_pos g2
              rw [e6] at e
              rw [e] at g2
              simp only at g2
              omega
            · exact if_neg g2
          · exact e
        refine ⟨(s, w), ⟨i1, i2, by rw [if_pos rfl, e1]⟩, ?_⟩
        by_cases g1 : sBy V c + sBy V d ≤ s.1
        · rw [if_pos g1]
        rw [if_neg g1]
        by_cases g2 : V (17 + 2 * q) < sBy V c + sBy V d
        · rw [if_pos g2]
        rw [if_neg g2]
        by_cases g3 : sBy V d = 0
        · rw [if_pos g3]
        rw [if_neg g3]
        cases ap : sApt c d
        · rw [if_neg (by decide)]
        · exact absurd ⟨⟨by omega, by omega, ap⟩, by omega⟩ g
  · obtain ⟨s, w⟩ := s
    obtain ⟨i1, i2, i3⟩ := hI
    simp only at i1 i2 i3
    refine ⟨s, w, ?_, i1, i2, i3⟩
    unfold b11_fillsOf_90 b11_fillsOf_191
    dsimp only
    rw [vm_S (hm.fm i1), w32_id (x := (100 * V 1)) (by omega) (by omega), w32_id (x := ((100 * (V 1).toNat : Nat) : Int)) (by omega) (by omega), if_pos (by omega)]
theorem m_fills (hV : VOK V) (hm : VM h.2 V) {q : Nat} (hq : (q : Int) < V 2) : ∃ h1, f11_fillsOf q h = some (10 * (sF2 V (V (17 + 2 * q)) (100 * (V 1).toNat) (100 * (V 1).toNat)).1 + (sF2 V (V (17 + 2 * q)) (100 * (V 1).toNat) (100 * (V 1).toNat)).2.1, h1) ∧ Ky kFm h h1 ∧ FlM h1.2 (sF2 V (V (17 + 2 * q)) (100 * (V 1).toNat) (100 * (V 1).toNat)) := by
  have v1 := hV.2.1
  have v2 := hV.2.2.1
  have hw := hV.2.2.2.2.2.1 q hq
  unfold f11_fillsOf l11_fillsOf_7
  refine fr (fun X => ∃ h1, X = some (10 * (sF2 V (V (17 + 2 * q)) (100 * (V 1).toNat) (100 * (V 1).toNat)).1 + (sF2 V (V (17 + 2 * q)) (100 * (V 1).toNat) (100 * (V 1).toNat)).2.1, h1) ∧ Ky kFm h h1 ∧ FlM h1.2 (sF2 V (V (17 + 2 * q)) (100 * (V 1).toNat) (100 * (V 1).toNat))) (fun (s : FlS × AH) i => (s.1.1, s.1.2.1, i, s.2)) (fun c s => Ky kFm h s.2 ∧ FlM s.2.2 s.1 ∧ s.1 = sF1 V (V (17 + 2 * q)) c) 0 (100 * (V 1).toNat) ((0, 0, 0, 0), h) ⟨Ky.rf h, ⟨fun y => absurd y (show ¬ (1 : Int) ≤ 0 by decide), fun y => absurd y (show ¬ (2 : Int) ≤ 0 by decide)⟩, rfl⟩ (by omega) (by omega) (fun c s _ hc hI rec => ?_) (fun s hI rec => ?_)
  · right
    obtain ⟨s, w⟩ := s
    obtain ⟨i1, i2, i3⟩ := hI
    simp only at i1 i2 i3
    have hm2 := hm.fm i1
    have rc := sBy_rng hV c
    have si := sF1_I hV (V (17 + 2 * q)) c
    rw [← i3] at si
    have e : sF1 V (V (17 + 2 * q)) (c + 1) = gF1 V (V (17 + 2 * q)) c s := by
      rw [i3]
      refine it_acf (fun pc => if_neg (fun y => ?_))
      have := of_decide_eq_false pc
      have s2 := sF1_I hV (V (17 + 2 * q)) c
      unfold FlI sF1 at s2
      omega
    have mc := m_cracks hm2 q (by omega)
    rw [Int.toNat_natCast] at mc
    unfold FlI at si
    unfold b11_fillsOf_7 b11_fillsOf_63
    dsimp only
    rw [vm_S hm2, w32_id (x := (100 * V 1)) (by omega) (by omega), w32_id (x := (c : Int)) (by omega) (by omega), if_neg (by omega), m_burnsBy hV hm2 (by omega), bnd_some, m_burnsBy hV hm2 (by omega), bnd_some, mc, bnd_some, m_burnsBy hV hm2 (by omega), bnd_some, w32_id (x := sBy V c) (by omega) (by omega), w32_id (x := s.1) (by omega) (by omega), w32_id (x := V (17 + 2 * q)) (by omega) (by omega), asrt_t (by decide), lt_eq, show (w32 0).toNat = 0 from rfl]
    by_cases g : s.1 < sBy V c ∧ sBy V c ≤ V (17 + 2 * q)
    · have eg : gF1 V (V (17 + 2 * q)) c s = (sBy V c, 1, (c : Int), s.2.2.2) := if_pos g
      rw [if_neg (by omega), if_pos (by omega)]
      refine ⟨((sBy V c, 1, (c : Int), s.2.2.2), wr w 85 0 c), ⟨i1.w2 rfl, ⟨fun _ => wr_at, fun y => absurd y (by simp)⟩, ?_⟩, rfl⟩
      rw [e, eg]
    · have eg : gF1 V (V (17 + 2 * q)) c s = s := if_neg g
      refine ⟨(s, w), ⟨i1, i2, by rw [e, eg]⟩, ?_⟩
      by_cases g1 : sBy V c ≤ s.1
      · rw [if_pos g1]
      · rw [if_neg g1, if_neg (by omega)]
  · obtain ⟨s, w⟩ := s
    obtain ⟨i1, i2, i3⟩ := hI
    simp only at i1 i2 i3
    unfold b11_fillsOf_7 l11_fillsOf_72
    dsimp only
    rw [vm_S (hm.fm i1), w32_id (x := (100 * V 1)) (by omega) (by omega), w32_id (x := ((100 * (V 1).toNat : Nat) : Int)) (by omega) (by omega), if_pos (by omega)]
    refine fr (fun X => ∃ h1, X = some (10 * (sF2 V (V (17 + 2 * q)) (100 * (V 1).toNat) (100 * (V 1).toNat)).1 + (sF2 V (V (17 + 2 * q)) (100 * (V 1).toNat) (100 * (V 1).toNat)).2.1, h1) ∧ Ky kFm h h1 ∧ FlM h1.2 (sF2 V (V (17 + 2 * q)) (100 * (V 1).toNat) (100 * (V 1).toNat))) (fun (s : FlS × AH) i => (s.1.1, s.1.2.1, i, s.2)) (fun c s => Ky kFm h s.2 ∧ FlM s.2.2 s.1 ∧ s.1 = sF2 V (V (17 + 2 * q)) (100 * (V 1).toNat) c) 0 (100 * (V 1).toNat) (s, w) ⟨i1, i2, i3⟩ (by omega) (by omega) (fun c s _ hc hI rec2 => ?_) (fun s hI rec2 => ?_)
    · right
      obtain ⟨s, u⟩ := s
      obtain ⟨j1, j2, j3⟩ := hI
      simp only at j1 j2 j3
      have si := sF2_I hV (V (17 + 2 * q)) (100 * (V 1).toNat) c
      rw [← j3] at si
      obtain ⟨z1, h1, b1, b2, b3, b4⟩ := m_f90 hV (hm.fm j1) hq hc si j2 rec2
      refine ⟨(z1, h1), ⟨j1.tr b2, b3, ?_⟩, ?_⟩
      · show z1 = acf _ _ _ (c + 1)
        rw [b4]
        cases pc : sPq V c
        · rw [acf_0 pc]; exact j3
        · rw [acf_1 pc, j3]; rfl
      · unfold b11_fillsOf_72
        dsimp only
        rw [vm_S (hm.fm j1), w32_id (x := (100 * V 1)) (by omega) (by omega), w32_id (x := (c : Int)) (by omega) (by omega), if_neg (by omega), lt_eq, b1]
    · obtain ⟨s, u⟩ := s
      obtain ⟨j1, j2, j3⟩ := hI
      simp only at j1 j2 j3
      refine ⟨u, ?_, j1, by rw [← j3]; exact j2⟩
      unfold b11_fillsOf_72
      dsimp only
      rw [vm_S (hm.fm j1), w32_id (x := (100 * V 1)) (by omega) (by omega), w32_id (x := ((100 * (V 1).toNat : Nat) : Int)) (by omega) (by omega), if_pos (by omega), j3]
end FilledM
def sFil (z : FlS) (k : Int) : Int := if k = -1 then z.1 else if 0 ≤ k ∧ k < z.2.1 then (if k = 0 then z.2.2.1 else z.2.2.2) else -1
theorem q_filled {x1 x2 x3 : Int} (hx1 : Rg x1) (hx2 : Rg x2) (hx3 : Rg x3) : Agr (f10_filled x1 x2 x3) (f11_filled x1 x2 x3) := by
  refine agr_v hx1 (fun h e => ⟨-1, ?_, fun e2 => ?_⟩) (fun h v V hV hc h7 h17 e => ?_)
  · unfold f10_filled
    simp (disch := omega) only [w32_id, w32_0, w32_1, w32_m, if_pos, if_neg, bnd_some, lt_eq, asrt_t, ite10_0, ite10_or, e]
  · unfold f11_filled
    rw [e2, bnd_some, ite_w0]
  · have v1 := hV.2.1
    have v2 := hV.2.2.1
    by_cases hC : 0 ≤ x2 ∧ x2 < V 2
    · obtain ⟨q, rfl⟩ : ∃ q : Nat, x2 = q := ⟨x2.toNat, by omega⟩
      obtain ⟨h1, a1, a2, a3, a4, a5, a6⟩ := c_fill4 hV hc (by omega) hC.2
      have si := sF2_I hV (V (17 + 2 * q)) (100 * (V 1).toNat) (100 * (V 1).toNat)
      refine ⟨sFil (sF2 V (V (17 + 2 * q)) (100 * (V 1).toNat) (100 * (V 1).toNat)) x3, h1, ?_, a2.pk (fun a k z => by unfold kQu kFi at z; omega), fun hs e1 hm => ?_⟩
      · generalize sF2 V (V (17 + 2 * q)) (100 * (V 1).toNat) (100 * (V 1).toNat) = z at *
        unfold FlI at si
        unfold f10_filled sFil
        rw [e, bnd_some, if_neg (by omega), Int.toNat_natCast, v_hasH hV hc, bnd_some, w32_id hx2.1 hx2.2, if_pos (c := 0 ≤ (q : Int) ∧ _) hC, if_pos (by decide), a1, bnd_some, w32_id hx3.1 hx3.2, a3, a4, w32_id (x := z.2.1) (by omega) (by omega)]
        by_cases d0 : x3 = -1
        · rw [if_neg (fun w => w d0), if_pos d0]
        rw [if_pos d0, if_neg d0]
        by_cases d1 : 0 ≤ x3 ∧ x3 < z.2.1
        · rw [if_neg (by omega), if_neg (by omega), if_pos d1, asrt_t (by omega)]
          by_cases d2 : x3 = 0
          · rw [if_pos d2, d2, ← a5 (by omega)]; rfl
          · rw [if_neg d2, show x3 = 1 by omega, ← a6 (by omega)]; rfl
        · rw [if_neg d1]
          by_cases d2 : x3 < 0
          · rw [if_pos d2]
          · rw [if_neg d2, if_pos (by omega)]
      · obtain ⟨h2, b1, b2, b3, b4⟩ := m_fills hV hm hC.2
        unfold f11_filled
        rw [e1, bnd_some, ite_w1, m_isIn, bnd_some, vm_H hm, w32_0, w32_id hx2.1 hx2.2, w32_id (x := (V 2 - 1)) (by omega) (by omega), if_pos (c := 0 ≤ (q : Int) ∧ _) (by omega), ite_w1, w32_id hx3.1 hx3.2, b1, bnd_some]
        generalize sF2 V (V (17 + 2 * q)) (100 * (V 1).toNat) (100 * (V 1).toNat) = z at *
        unfold FlI at si
        unfold sFil
        by_cases d : -1 ≤ x3
        · rw [if_pos d]
          refine ⟨h2, ?_, b2.pk (fun a k z => by unfold kFm at z; omega)⟩
          rw [rm32_nn (x := 10 * z.1 + z.2.1) (by omega) (by omega), dv32_nn (x := 10 * z.1 + z.2.1) (by omega) (by omega), show (10 * z.1 + z.2.1) % 10 = z.2.1 by omega, show (10 * z.1 + z.2.1) / 10 = z.1 by omega, w32_id (x := z.2.1) (by omega) (by omega)]
          by_cases d0 : x3 = -1
          · rw [if_neg (fun w => w d0), if_pos d0]
          rw [if_pos d0, if_neg d0]
          by_cases d1 : x3 < z.2.1
          · rw [if_neg (by omega), if_pos (by omega), asrt_t (by omega)]
            by_cases d2 : x3 = 0
            · rw [if_pos d2, d2, ← b3 (by omega)]; rfl
            · rw [if_neg d2, show x3 = 1 by omega, ← b4 (by omega)]; rfl
          · rw [if_pos (by omega), if_neg (by omega)]
        · rw [if_neg d, if_neg (by omega), if_neg (by omega)]
          exact ⟨hs, rfl, PK.rf hs⟩
    · refine ⟨-1, h, ?_, PK.rf h, fun hs e1 hm => ⟨hs, ?_, PK.rf hs⟩⟩
      · unfold f10_filled
        rw [e, bnd_some, if_neg (by omega), Int.toNat_natCast, v_hasH hV hc, bnd_some, w32_id hx2.1 hx2.2, if_neg (c := 0 ≤ x2 ∧ _) hC, if_neg (by decide)]
      · unfold f11_filled
        rw [e1, bnd_some, ite_w1, m_isIn, bnd_some, vm_H hm, w32_0, w32_id hx2.1 hx2.2, w32_id (x := (V 2 - 1)) (by omega) (by omega), if_neg (c := 0 ≤ x2 ∧ _) (by omega), ite_w0]
