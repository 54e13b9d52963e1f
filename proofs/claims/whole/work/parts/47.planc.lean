/-! plan: the class -/
section PlanC
variable {V : Nat → Int} {h : AH} {v N : Nat}
/-- what has been found out is right -/
def MEM (V : Nat → Int) (N : Nat) (h : AH) : Prop := ∀ q T, Vl q T → (q : Int) < V 2 → h.2 58 (keyN T) = -1 ∨ h.2 58 (keyN T) = (LPl V N ((V 2).toNat - q) q T).1
def kMe (a _k : Nat) : Prop := a = 58
def PF (V : Nat → Int) (N v : Nat) (h : AH) : Prop := VC h.2 v V ∧ QG V h N ∧ MEM V N h
theorem QG.me {w : AH} (hQ : QG V h N) (k : Ky kMe h w) : QG V w N := by
  refine ⟨(k.2 _ _ (by unfold kMe; omega)).trans hQ.1, fun j h1 h2 => ?_⟩
  rw [k.2 55 _ (by unfold kMe; omega), k.2 56 _ (by unfold kMe; omega), k.2 57 _ (by unfold kMe; omega)]
  exact hQ.2 j h1 h2
theorem cS_lt (hN : N = 100 * (V 1).toNat) (hV : VOK V) {c : Nat} (hc : c < N) : cS c < 6 := by
  have := hV.2.1
  unfold cS
  omega
theorem Vl.upC (hV : VOK V) (hN : N = 100 * (V 1).toNat) {q T c : Nat} (hT : Vl q T) (hc : c < N) (hf : sFt V q T c = true) : Vl (q + 1) (T ||| tkC c) := by
  obtain ⟨f1, f2, -⟩ := ft_in hf
  have i := pq_in hV f1
  exact hT.up i.1 i.2.1 (cS_lt hN hV hc) f2
theorem c_suits (hV : VOK V) (hN : N = 100 * (V 1).toNat) (hc : VC h.2 v V) (hQ : QG V h N) (hl : fc (sPq V) N ≤ 168) {c q T : Nat} (hcN : c < N) (hp : sPq V c = true) (hq : (q : Int) < V 2) (hT : T < 16384) : f4_suits v (fc (sPq V) c) q T h = some (if sFt V q T c then 1 else 0, h) := by
  have v2 := hV.2.2.1
  have hw := hV.2.2.2.2.2.1 q hq
  have r := sBy_rng hV c
  have i := pq_in hV hp
  have m1 := fc_mono (p := sPq V) (show c + 1 ≤ N by omega)
  rw [fc_s1 hp] at m1
  have qc := hQ.2 c hcN hp
  have tl := tk_lt (a := cA c) (b := cB c) (s := cS c) (by omega) (by omega) (cS_lt hN hV hcN)
  have tl2 : tkC c &&& T < 16384 := Nat.lt_of_le_of_lt Nat.and_le_left tl
  unfold f4_suits
  rw [w32_id (x := (fc (sPq V) c : Int)) (by omega) (by omega), asrt_t (by omega), Int.toNat_natCast, qc.2.2, and32_nat (show tkC c < 2147483648 by unfold tkC; omega) (by omega), w32_id (x := ((tkC c &&& T : Nat) : Int)) (by omega) (by omega), asrt_t (by omega), w32_id (x := (q : Int)) (by omega) (by omega), asrt_t (by omega), Int.toNat_natCast, qc.2.1, (hc.2.2.2.2.2.1 q hq).1, (hc.2.2.2.2.2.1 q hq).2, asrt_t (by omega), asrt_t (by omega), w32_id (x := sBy V c) (by omega) (by omega), w32_id (x := V (16 + 2 * q)) (by omega) (by omega), w32_id (x := V (17 + 2 * q)) (by omega) (by omega)]
  by_cases f : sFt V q T c = true
  · obtain ⟨f1, f2, f3⟩ := ft_in f
    rw [if_neg (by omega), if_neg (by omega), if_neg (by omega), f]; rfl
  · have f0 : sFt V q T c = false := Bool.eq_false_iff.mpr f
    rw [f0]
    by_cases g1 : tkC c &&& T = 0
    · rw [if_neg (by omega)]
      by_cases g2 : sBy V c < V (16 + 2 * q)
      · rw [if_pos g2]; rfl
      · rw [if_neg g2]
        by_cases g3 : V (17 + 2 * q) < sBy V c
        · rw [if_pos g3]; rfl
        · exact absurd (ft_mk hp g1 ⟨by omega, by omega⟩) f
    · rw [if_pos (by omega)]; rfl
theorem PF.me {w : AH} (hP : PF V N v h) (hv : v + 5 < 28) (k : Ky kMe h w) (hM : MEM V N w) : PF V N v w := ⟨k.vc (fun a k _ _ => by unfold kMe; omega) hP.1, hP.2.1.me k, hM⟩
theorem c_least (hV : VOK V) (hN : N = 100 * (V 1).toNat) (hv : v + 5 < 28) (hl : fc (sPq V) N ≤ 168) (m : Nat) : ∀ (fuel q T : Nat) (h : AH), m + 1 ≤ fuel → q + m = (V 2).toNat → Vl q T → PF V N v h → ∃ h1, f4_leastFrom fuel v q T h = some ((LPl V N m q T).1, h1) ∧ Ky kMe h h1 ∧ MEM V N h1 := by
  have v1 := hV.2.1
  have v2 := hV.2.2.1
  induction m with
  | zero =>
    intro fuel q T h hf hq hT hP
    obtain ⟨f, rfl⟩ : ∃ f, fuel = f + 1 := ⟨fuel - 1, by omega⟩
    refine ⟨h, ?_, Ky.rf h, hP.2.2⟩
    show e4_leastFrom (f4_leastFrom f) v q T h = _
    unfold e4_leastFrom
    rw [v_hasH hV hP.1, bnd_some, w32_id (x := (q : Int)) (by omega) (by omega), if_neg (c := 0 ≤ (q : Int) ∧ _) (by omega), if_neg (by decide)]
    rfl
  | succ m ih =>
    intro fuel q T h hf hq hT hP
    obtain ⟨f, rfl⟩ : ∃ f, fuel = f + 1 := ⟨fuel - 1, by omega⟩
    have kl := key_lt T
    have lr := LPl_rng hV N (m + 1) q T
    show ∃ h1, e4_leastFrom (f4_leastFrom f) v q T h = some ((LPl V N (m + 1) q T).1, h1) ∧ _
    unfold e4_leastFrom
    rw [v_hasH hV hP.1, bnd_some, w32_id (x := (q : Int)) (by omega) (by omega), if_pos (c := 0 ≤ (q : Int) ∧ _) (by omega), if_pos (by decide), c_keyOf hT.1, bnd_some, w32_id (x := (keyN T : Int)) (by omega) (by omega), asrt_t (by omega), Int.toNat_natCast]
    have me := hP.2.2 q T hT (by omega)
    rw [show (V 2).toNat - q = m + 1 by omega] at me
    by_cases g : h.2 58 (keyN T) = -1
    · clear me
      rw [g, if_neg (fun w => w w32_m)]
      unfold l4_leastFrom_35
      have sp := rms_spec (ok := sFt V q T) (f := fun c => sBy V c + (LPl V N m (q + 1) (T ||| tkC c)).1) (N := N) (k := N) (Nat.le_refl _)
      have eL : LPl V N (m + 1) q T = rms (sFt V q T) (fun c => sBy V c + (LPl V N m (q + 1) (T ||| tkC c)).1) N N := rfl
      rw [← eL, Nat.sub_self] at sp
      refine fr (fun X => ∃ h1, X = some ((LPl V N (m + 1) q T).1, h1) ∧ Ky kMe h h1 ∧ MEM V N h1) (fun (z : Int × AH) i => (z.1, i, z.2)) (fun i z => Ky kMe h z.2 ∧ MEM V N z.2 ∧ (0 ≤ z.1 ∧ z.1 ≤ 1000) ∧ (z.1 = 1000 ∨ ∃ c, c < N ∧ sFt V q T c = true ∧ z.1 = sBy V c + (LPl V N m (q + 1) (T ||| tkC c)).1) ∧ ∀ c, c < N → fc (sPq V) c < i → sFt V q T c = true → z.1 ≤ sBy V c + (LPl V N m (q + 1) (T ||| tkC c)).1) 0 (fc (sPq V) N) (1000, h) ⟨Ky.rf h, hP.2.2, by simp, Or.inl rfl, fun c _ hc => by omega⟩ (by omega) (by omega) (fun i z _ hi hI rec => ?_) (fun z hI rec => ?_)
      · right
        obtain ⟨z, w⟩ := z
        obtain ⟨i1, i2, i3, i4, i5⟩ := hI
        simp only at i1 i2 i3 i4 i5
        have hPw := hP.me hv i1 i2
        obtain ⟨c, c1, c2, c3⟩ := fc_hit hi
        subst c3
        have qc := hPw.2.1.2 c c1 c2
        have r := sBy_rng hV c
        unfold b4_leastFrom_35 b4_leastFrom_88
        dsimp only
        rw [hPw.2.1.1, w32_id (x := (fc (sPq V) N : Int)) (by omega) (by omega), w32_id (x := (fc (sPq V) c : Int)) (by omega) (by omega), if_neg (by omega), c_suits hV hN hPw.1 hPw.2.1 hl c1 c2 (by omega) hT.1, bnd_some]
        have nxt : ∀ d, d < N → fc (sPq V) d < fc (sPq V) c + 1 → sFt V q T d = true → fc (sPq V) d < fc (sPq V) c ∨ d = c := fun d d1 d2 d3 => by
          rcases Nat.lt_or_ge (fc (sPq V) d) (fc (sPq V) c) with y | y
          · exact Or.inl y
          · exact Or.inr (fc_uq (ft_in d3).1 c2 (by omega))
        cases ff : sFt V q T c
        · rw [show w32 (if false = true then 1 else 0) = 0 from rfl, if_pos rfl]
          refine ⟨(z, w), ⟨i1, i2, i3, i4, fun d d1 d2 d3 => ?_⟩, rfl⟩
          rcases nxt d d1 d2 d3 with y | y
          · exact i5 d d1 y d3
          · rw [y, ff] at d3; exact absurd d3 (by decide)
        · obtain ⟨h1, a1, a2, a3⟩ := ih f (q + 1) (T ||| tkC c) w (by omega) (by omega) (hT.upC hV hN c1 ff) hPw
          have lr2 := LPl_rng hV N m (q + 1) (T ||| tkC c)
          have tl := tk_lt (a := cA c) (b := cB c) (s := cS c) (by have := pq_in hV c2; omega) (by have := pq_in hV c2; omega) (cS_lt hN hV c1)
          rw [show w32 (if true = true then 1 else 0) = 1 from rfl, if_neg (by decide), asrt_t (by omega), asrt_t (by omega), Int.toNat_natCast, qc.2.2, qc.2.1, or32_nat (by have := hT.1; omega) (show tkC c < 2147483648 by unfold tkC; omega), show (q : Int) + 1 = ((q + 1 : Nat) : Int) from rfl, a1, bnd_some, min32_s (by omega) (by omega) (by omega) (by omega), lt_eq]
          refine ⟨(if sBy V c + (LPl V N m (q + 1) (T ||| tkC c)).1 < z then sBy V c + (LPl V N m (q + 1) (T ||| tkC c)).1 else z, h1), ⟨i1.tr a2, a3, by dsimp only; split <;> omega, ?_, fun d d1 d2 d3 => ?_⟩, rfl⟩
          · dsimp only
            by_cases y : sBy V c + (LPl V N m (q + 1) (T ||| tkC c)).1 < z
            · rw [if_pos y]; exact Or.inr ⟨c, c1, ff, rfl⟩
            · rw [if_neg y]; exact i4
          · dsimp only
            rcases nxt d d1 d2 d3 with y | y
            · have := i5 d d1 y d3
              split <;> omega
            · subst y
              split <;> omega
      · obtain ⟨z, w⟩ := z
        obtain ⟨i1, i2, i3, i4, i5⟩ := hI
        simp only at i1 i2 i3 i4 i5
        have hPw := hP.me hv i1 i2
        have ez : z = (LPl V N (m + 1) q T).1 := by
          rcases sp with ⟨s1, s2⟩ | ⟨c, s1, s2, s3, s4, s5, s6, s7⟩
          · rw [s1]
            rcases i4 with i4 | ⟨d, d1, d2, d3⟩
            · exact i4
            · have : 1000 ≤ sBy V d + (LPl V N m (q + 1) (T ||| tkC d)).1 := s2 d (by omega) d1 d2
              show z = 1000
              omega
          · rw [s4]
            have m1 := fc_mono (p := sPq V) (show c + 1 ≤ N by omega)
            rw [fc_s1 (ft_in s3).1] at m1
            have u := i5 c s2 (by omega) s3
            show z = sBy V c + (LPl V N m (q + 1) (T ||| tkC c)).1
            have s5 : sBy V c + (LPl V N m (q + 1) (T ||| tkC c)).1 < 1000 := s5
            rcases i4 with i4 | ⟨d, d1, d2, d3⟩
            · omega
            · have : sBy V c + (LPl V N m (q + 1) (T ||| tkC c)).1 ≤ sBy V d + (LPl V N m (q + 1) (T ||| tkC d)).1 := s7 d (by omega) d1 d2
              omega
        unfold b4_leastFrom_35 b4_leastFrom_103
        dsimp only
        rw [hPw.2.1.1, if_pos (Int.le_refl _), w32_id (x := (keyN T : Int)) (by omega) (by omega), asrt_t (by omega), lt_eq, asrt_t (by omega), Int.toNat_natCast, wr_at, ez]
        refine ⟨_, rfl, i1.w2 rfl, fun r R hR hr => ?_⟩
        by_cases y : keyN R = keyN T
        · right
          obtain ⟨y1, y2⟩ := key_inj hR hT y
          rw [y, wr_at, y1, y2, show (V 2).toNat - q = m + 1 by omega]
        · rw [wr_e (by omega)]; exact i2 r R hR hr
    · have e : h.2 58 (keyN T) = (LPl V N (m + 1) q T).1 := by
        rcases me with me | me
        · exact absurd me g
        · exact me
      clear me
      unfold b4_leastFrom_103
      rw [e, w32_id (x := (LPl V N (m + 1) q T).1) (by omega) (by omega), if_pos (by omega), w32_id (x := (keyN T : Int)) (by omega) (by omega), asrt_t (by omega), Int.toNat_natCast, e]
      exact ⟨h, rfl, Ky.rf h, hP.2.2⟩
theorem LPl_at (hV : VOK V) {m q T : Nat} (h : (LPl V N (m + 1) q T).1 < 1000) : ∃ c, c < N ∧ sFt V q T c = true ∧ (LPl V N (m + 1) q T).2 = (c : Int) ∧ (LPl V N (m + 1) q T).1 = sBy V c + (LPl V N m (q + 1) (T ||| tkC c)).1 ∧ ∀ d, d < c → sFt V q T d = true → (LPl V N (m + 1) q T).1 < sBy V d + (LPl V N m (q + 1) (T ||| tkC d)).1 := by
  have sp := rms_spec (ok := sFt V q T) (f := fun c => sBy V c + (LPl V N m (q + 1) (T ||| tkC c)).1) (N := N) (k := N) (Nat.le_refl _)
  have eL : LPl V N (m + 1) q T = rms (sFt V q T) (fun c => sBy V c + (LPl V N m (q + 1) (T ||| tkC c)).1) N N := rfl
  rw [← eL, Nat.sub_self] at sp
  rcases sp with ⟨s1, s2⟩ | ⟨c, s1, s2, s3, s4, s5, s6, s7⟩
  · rw [s1] at h
    exact absurd h (by decide)
  · refine ⟨c, s2, s3, by rw [s4], by rw [s4], fun d d1 d2 => ?_⟩
    rw [s4]
    exact s6 d (by omega) d1 d2
def kPl (a k : Nat) : Prop := a = 58 ∨ a = 54 ∨ (a = 53 ∧ k = 2)
theorem c_choose (hV : VOK V) (hN : N = 100 * (V 1).toNat) (hv : v + 5 < 28) (hl : fc (sPq V) N ≤ 168) {m q T : Nat} (hq : q + (m + 1) = (V 2).toNat) (hT : Vl q T) (hP : PF V N v h) (hL : (LPl V N (m + 1) q T).1 < 1000) : ∃ (c : Nat) (h1 : AH), f4_chooseFirst v q T h = some ((tkC c : Int), h1) ∧ Ky kPl h h1 ∧ PF V N v h1 ∧ c < N ∧ sFt V q T c = true ∧ (LPl V N (m + 1) q T).2 = (c : Int) ∧ (LPl V N (m + 1) q T).1 = sBy V c + (LPl V N m (q + 1) (T ||| tkC c)).1 ∧ h1.2 54 q = (c : Int) ∧ (∀ i, i ≠ q → h1.2 54 i = h.2 54 i) ∧ h1.2 53 2 = h.2 53 2 := by
  have v1 := hV.2.1
  have v2 := hV.2.2.1
  obtain ⟨c, c1, c2, c3, c4, c5⟩ := LPl_at hV hL
  obtain ⟨h1, a1, a2, a3⟩ := c_least hV hN hv hl (m + 1) 6 q T h (by omega) hq hT hP
  have lr := LPl_rng hV N (m + 1) q T
  have pc := (ft_in c2).1
  have m1 := fc_mono (p := sPq V) (show c + 1 ≤ N by omega)
  rw [fc_s1 pc] at m1
  unfold f4_chooseFirst l4_chooseFirst_12
  rw [a1, bnd_some]
  refine wh (fun n (z : Int × AH) => ∃ i : Nat, n = fc (sPq V) c + 1 - i ∧ i ≤ fc (sPq V) c ∧ z.1 = (i : Int) ∧ Ky kMe h z.2 ∧ MEM V N z.2) (fun X => ∃ (c : Nat) (h1 : AH), X = some ((tkC c : Int), h1) ∧ Ky kPl h h1 ∧ PF V N v h1 ∧ c < N ∧ sFt V q T c = true ∧ (LPl V N (m + 1) q T).2 = (c : Int) ∧ (LPl V N (m + 1) q T).1 = sBy V c + (LPl V N m (q + 1) (T ||| tkC c)).1 ∧ h1.2 54 q = (c : Int) ∧ (∀ i, i ≠ q → h1.2 54 i = h.2 54 i) ∧ h1.2 53 2 = h.2 53 2) (fun n z hp rec => ?_) FU (fc (sPq V) c + 1) (0, h1) ⟨0, by omega, by omega, rfl, a2, a3⟩ (FU_big (by omega))
  obtain ⟨z1, w⟩ := z
  obtain ⟨i, p1, p2, p3, p4, p5⟩ := hp
  simp only at p3 p4 p5
  subst p3
  have hPw := hP.me hv p4 p5
  obtain ⟨d, d1, d2, d3⟩ := fc_hit (p := sPq V) (n := N) (i := i) (by omega)
  subst d3
  have qd := hPw.2.1.2 d d1 d2
  have rd := sBy_rng hV d
  have tl := tk_lt (a := cA d) (b := cB d) (s := cS d) (by have := pq_in hV d2; omega) (by have := pq_in hV d2; omega) (cS_lt hN hV d1)
  unfold b4_chooseFirst_12 b4_chooseFirst_84
  dsimp only
  rw [hPw.2.1.1, w32_id (x := (fc (sPq V) N : Int)) (by omega) (by omega), w32_id (x := (fc (sPq V) d : Int)) (by omega) (by omega), if_neg (by omega), c_suits hV hN hPw.1 hPw.2.1 hl d1 d2 (by omega) hT.1, bnd_some]
  by_cases e : d = c
  · left
    subst e
    obtain ⟨u, b1, b2, b3⟩ := c_least hV hN hv hl m 6 (q + 1) (T ||| tkC d) w (by omega) (by omega) (hT.upC hV hN d1 c2) hPw
    have hPu := hPw.me hv b2 b3
    have qd2 := hPu.2.1.2 d d1 d2
    have lr2 := LPl_rng hV N m (q + 1) (T ||| tkC d)
    rw [c2, show w32 (if true = true then 1 else 0) = 1 from rfl, if_neg (by decide), asrt_t (by omega), asrt_t (by omega), Int.toNat_natCast, qd.2.2, qd.2.1, or32_nat (by have := hT.1; omega) (show tkC d < 2147483648 by unfold tkC; omega), show (q : Int) + 1 = ((q + 1 : Nat) : Int) from rfl, b1, bnd_some, ← c4, if_neg (fun y => y rfl), asrt_t (by omega), w32_id (x := (q : Int)) (by omega) (by omega), asrt_t (by omega), lt_eq, asrt_t (by omega), Int.toNat_natCast, wr_e (by omega), qd2.1, qd2.2.2]
    have kk : Ky kPl h (wr u 54 q d) := ((p4.tr b2).mono (fun a k z => Or.inl z)).w2 (Or.inr (Or.inl rfl))
    refine ⟨d, _, rfl, kk, ⟨?_, ?_, fun r R hR hr => ?_⟩, d1, c2, c3, c4, wr_at, fun j hj => ?_, ?_⟩
    · exact kk.vc (fun a k _ _ => by unfold kPl; omega) hP.1
    · refine ⟨by rw [wr_e (by omega)]; exact hPu.2.1.1, fun j j1 j2 => ?_⟩
      rw [wr_e (by omega), wr_e (by omega), wr_e (by omega)]
      exact hPu.2.1.2 j j1 j2
    · rw [wr_e (by omega)]; exact b3 r R hR hr
    · rw [wr_e (by omega), b2.2 _ _ (by unfold kMe; omega), p4.2 _ _ (by unfold kMe; omega)]
    · rw [wr_e (by omega), b2.2 _ _ (by unfold kMe; omega), p4.2 _ _ (by unfold kMe; omega)]
  · right
    have lt : fc (sPq V) d < fc (sPq V) c := by
      rcases Nat.lt_or_ge (fc (sPq V) d) (fc (sPq V) c) with y | y
      · exact y
      · exact absurd (fc_uq d2 pc (by omega)) e
    have dc : d < c := by
      rcases Nat.lt_or_ge d c with y | y
      · exact y
      · have := fc_mono (p := sPq V) y
        omega
    cases ff : sFt V q T d
    · rw [show w32 (if false = true then 1 else 0) = 0 from rfl, if_pos rfl]
      exact ⟨fc (sPq V) c + 1 - (fc (sPq V) d + 1), ((fc (sPq V) d : Int) + 1, w), by omega, ⟨fc (sPq V) d + 1, rfl, by omega, rfl, p4, p5⟩, rfl⟩
    · obtain ⟨u, b1, b2, b3⟩ := c_least hV hN hv hl m 6 (q + 1) (T ||| tkC d) w (by omega) (by omega) (hT.upC hV hN d1 ff) hPw
      have lr2 := LPl_rng hV N m (q + 1) (T ||| tkC d)
      have g := c5 d dc ff
      rw [show w32 (if true = true then 1 else 0) = 1 from rfl, if_neg (by decide), asrt_t (by omega), asrt_t (by omega), Int.toNat_natCast, qd.2.2, qd.2.1, or32_nat (by have := hT.1; omega) (show tkC d < 2147483648 by unfold tkC; omega), show (q : Int) + 1 = ((q + 1 : Nat) : Int) from rfl, b1, bnd_some, w32_id (x := (sBy V d + (LPl V N m (q + 1) (T ||| tkC d)).1)) (by omega) (by omega), w32_id (x := (LPl V N (m + 1) q T).1) (by omega) (by omega), if_pos (by omega)]
      exact ⟨fc (sPq V) c + 1 - (fc (sPq V) d + 1), ((fc (sPq V) d : Int) + 1, u), by omega, ⟨fc (sPq V) d + 1, rfl, by omega, rfl, p4.tr b2, b3⟩, rfl⟩
/-- the least, and the plan -/
theorem c_arrange (hV : VOK V) (hc : VC h.2 v V) (hv : v + 5 < 28) : ∃ (h1 : AH), f4_arrange v h = some (if (LPl V (100 * (V 1).toNat) (V 2).toNat 0 0).1 < 1000 then 1 else 0, h1) ∧ Ky (fun a k => kQu a k ∨ kPl a k) h h1 ∧ ((LPl V (100 * (V 1).toNat) (V 2).toNat 0 0).1 < 1000 → h1.2 53 2 = (LPl V (100 * (V 1).toNat) (V 2).toNat 0 0).1 ∧ ∀ q, q < (V 2).toNat → h1.2 54 q = plN V (100 * (V 1).toNat) (V 2).toNat 0 0 q) := by
  have v1 := hV.2.1
  have v2 := hV.2.2.1
  obtain ⟨w0, a1, a2, a3, a4⟩ := c_gatherQ hV hc hv
  generalize hN : 100 * (V 1).toNat = N at *
  unfold f4_arrange
  rw [a1, bnd_some, c_fill 58 8192 (-1) _ (by decide) (by omega), bnd_some]
  have k1 : Ky kMe w0 (fil w0 58 (-1) 8192) := ⟨rfl, fun a k hk => fil_e (by unfold kMe at hk; omega)⟩
  have P1 : PF V N v (fil w0 58 (-1) 8192) := by
    refine ⟨k1.vc (fun a k _ _ => by unfold kMe; omega) (a2.vc (fun a k _ _ => by unfold kQu; omega) hc), a3.me k1, fun q T _ _ => Or.inl (fil_i (key_lt T))⟩
  have V0 : Vl 0 0 := by
    refine ⟨by omega, ?_, ?_⟩ <;> rfl
  obtain ⟨w1, b1, b2, b3⟩ := c_least hV hN.symm hv a4 (V 2).toNat 6 0 0 _ (by omega) (by omega) V0 P1
  rw [show (((0 : Nat) : Int)) = 0 from rfl] at b1
  have lr := LPl_rng hV N (V 2).toNat 0 0
  rw [b1, bnd_some, lt_eq, wr_at, w32_id (x := (LPl V N (V 2).toNat 0 0).1) (by omega) (by omega)]
  have P2 := P1.me hv b2 b3
  have k2 : Ky (fun a k => kQu a k ∨ kPl a k) h (wr w1 53 2 (LPl V N (V 2).toNat 0 0).1) := ((a2.mono (fun _ _ z => Or.inl z)).tr ((k1.tr b2).mono (fun a k z => Or.inr (Or.inl z)))).w2 (Or.inr (Or.inr (Or.inr ⟨rfl, rfl⟩)))
  have P3 : PF V N v (wr w1 53 2 (LPl V N (V 2).toNat 0 0).1) := by
    refine ⟨k2.vc (fun a k _ _ => by unfold kQu kPl; omega) hc, ⟨by rw [wr_e (by omega)]; exact P2.2.1.1, fun j j1 j2 => ?_⟩, fun r R hR hr => ?_⟩
    · rw [wr_e (by omega), wr_e (by omega), wr_e (by omega)]
      exact P2.2.1.2 j j1 j2
    · rw [wr_e (by omega)]; exact b3 r R hR hr
  have e53 : (wr w1 53 2 (LPl V N (V 2).toNat 0 0).1).2 53 2 = (LPl V N (V 2).toNat 0 0).1 := wr_at
  generalize wr w1 53 2 (LPl V N (V 2).toNat 0 0).1 = w2 at *
  by_cases g : (LPl V N (V 2).toNat 0 0).1 < 1000
  · rw [if_pos g, if_pos g]
    unfold l4_arrange_40
    have main : ∃ h1, fx (fun rec (z : Int × Int × AH) => b4_arrange_40 rec v z.1 z.2.1 z.2.2) FU (0, 0, w2) = some (1, h1) ∧ Ky (fun a k => kQu a k ∨ kPl a k) h h1 ∧ h1.2 53 2 = (LPl V N (V 2).toNat 0 0).1 ∧ ∀ q, q < (V 2).toNat → h1.2 54 q = plN V N (V 2).toNat 0 0 q := by
      refine fr (fun X => ∃ h1, X = some (1, h1) ∧ Ky (fun a k => kQu a k ∨ kPl a k) h h1 ∧ h1.2 53 2 = (LPl V N (V 2).toNat 0 0).1 ∧ ∀ q, q < (V 2).toNat → h1.2 54 q = plN V N (V 2).toNat 0 0 q) (fun (z : Int × AH) i => (z.1, i, z.2)) (fun q z => ∃ T : Nat, z.1 = (T : Int) ∧ Vl q T ∧ Ky (fun a k => kQu a k ∨ kPl a k) h z.2 ∧ PF V N v z.2 ∧ z.2.2 53 2 = (LPl V N (V 2).toNat 0 0).1 ∧ (LPl V N ((V 2).toNat - q) q T).1 < 1000 ∧ (∀ i, i < q → z.2.2 54 i = plN V N (V 2).toNat 0 0 i) ∧ ∀ j, plN V N (V 2).toNat 0 0 (q + j) = plN V N ((V 2).toNat - q) q T j) 0 (V 2).toNat (0, w2) ⟨0, rfl, V0, k2, P3, e53, g, fun i hi => by omega, fun j => by rw [Nat.zero_add]; rfl⟩ (by omega) (by omega) (fun q z _ hq hI rec => ?_) (fun z hI rec => ?_)
      · right
        obtain ⟨z, u⟩ := z
        obtain ⟨T, p1, p2, p3, p4, p5, p6, p7, p8⟩ := hI
        simp only at p1 p3 p4 p5 p7
        subst p1
        obtain ⟨m, hm⟩ : ∃ m, (V 2).toNat - q = m + 1 := ⟨(V 2).toNat - q - 1, by omega⟩
        rw [hm] at p6 p8
        obtain ⟨c, u2, d1, d2, d3, d4, d5, d6, d7, d8, d9, d10⟩ := c_choose hV hN.symm hv a4 (m := m) (q := q) (by omega) p2 p4 p6
        have rc := sBy_rng hV c
        have tl := tk_lt (a := cA c) (b := cB c) (s := cS c) (by have := pq_in hV (ft_in d5).1; omega) (by have := pq_in hV (ft_in d5).1; omega) (cS_lt hN.symm hV d4)
        refine ⟨(((T ||| tkC c : Nat) : Int), u2), ⟨T ||| tkC c, rfl, p2.upC hV hN.symm d4 d5, p3.tr (d2.mono (fun _ _ z => Or.inr z)), d3, by rw [d10]; exact p5, ?_, fun i hi => ?_, fun j => ?_⟩, ?_⟩
        · rw [show (V 2).toNat - (q + 1) = m by omega]; omega
        · by_cases y : i = q
          · subst y
            have := p8 0
            rw [Nat.add_zero] at this
            show u2.2 54 i = _
            rw [d8, this]
            show (c : Int) = (LPl V N (m + 1) i T).2
            rw [d6]
          · show u2.2 54 i = _
            rw [d9 i y]; exact p7 i (by omega)
        · have := p8 (j + 1)
          rw [show q + 1 + j = q + (j + 1) by omega, this, show (V 2).toNat - (q + 1) = m by omega]
          show plN V N m (q + 1) (T ||| tkC (LPl V N (m + 1) q T).2.toNat) j = _
          rw [d6, Int.toNat_natCast]
        · unfold b4_arrange_40
          dsimp only
          rw [p4.1.2.2.1, w32_id (x := V 2) (by omega) (by omega), w32_id (x := (q : Int)) (by omega) (by omega), if_neg (by omega), d1, bnd_some, or32_nat (by have := p2.1; omega) (show tkC c < 2147483648 by unfold tkC; omega), lt_eq]
      · obtain ⟨z, u⟩ := z
        obtain ⟨T, p1, p2, p3, p4, p5, p6, p7, p8⟩ := hI
        simp only at p1 p3 p4 p5 p7
        refine ⟨u, ?_, p3, p5, p7⟩
        unfold b4_arrange_40
        dsimp only
        rw [p4.1.2.2.1, w32_id (x := V 2) (by omega) (by omega), w32_id (x := ((V 2).toNat : Int)) (by omega) (by omega), if_pos (by omega)]
    obtain ⟨h1, m1, m2, m3, m4⟩ := main
    exact ⟨h1, m1, m2, fun _ => ⟨m3, m4⟩⟩
  · rw [if_neg g, if_neg g]
    exact ⟨w2, rfl, k2, fun y => absurd y g⟩
end PlanC
