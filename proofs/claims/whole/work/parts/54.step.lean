/-! tokens: the class's step, the model's advance -/
theorem run_ex (P : Nat → Prop) (n : Nat) : ∀ (k p : Nat), p + k = n → ∃ q, p ≤ q ∧ q ≤ n ∧ (∀ i, p ≤ i → i < q → P i) ∧ (q = n ∨ ¬ P q) := by
  intro k
  induction k with
  | zero => intro p hp; exact ⟨p, by omega, by omega, fun i h1 h2 => by omega, Or.inl (by omega)⟩
  | succ k ih =>
    intro p hp
    by_cases c : P p
    · obtain ⟨q, q1, q2, q3, q4⟩ := ih (p + 1) (by omega)
      refine ⟨q, by omega, q2, fun i h1 h2 => ?_, q4⟩
      rcases Nat.lt_or_ge p i with z | z
      · exact q3 i (by omega) h2
      · rw [show i = p by omega]; exact c
    · exact ⟨p, by omega, by omega, fun i h1 h2 => by omega, Or.inr c⟩
section StepC
variable {h : AH} {n : Nat} {bt : Nat → Int}
/-- the reader's tape -/
def TP (n : Nat) (bt : Nat → Int) (h : AH) : Prop := h.2 28 7 = n ∧ n ≤ 600 ∧ ∀ i, i < n → (0 ≤ bt i ∧ bt i ≤ 255) ∧ h.2 39 i = i2b (bt i)
theorem i2b_c {x : Int} (h : 0 ≤ x ∧ x ≤ 255) : -128 ≤ i2b x ∧ i2b x ≤ 127 ∧ (x < 128 → i2b x = x) ∧ (128 ≤ x → i2b x < 0) := by
  unfold i2b
  omega
def kSt (a k : Nat) : Prop := a = 28 ∧ (k = 8 ∨ k = 9 ∨ k = 10)
theorem TP.ky {w : AH} (hT : TP n bt h) (k : Ky kSt h w) : TP n bt w := ⟨(k.2 _ _ (by unfold kSt; omega)).trans hT.1, hT.2.1, fun i hi => ⟨(hT.2.2 i hi).1, (k.2 _ _ (by unfold kSt; omega)).trans (hT.2.2 i hi).2⟩⟩
theorem c_isLetter {x : Int} (hx : 0 ≤ x ∧ x ≤ 255) (h : AH) : (isLe x → f5_isLetter (i2b x) h = some (1, h)) ∧ (¬ isLe x → f5_isLetter (i2b x) h = some (0, h)) := by
  have c := i2b_c hx
  unfold f5_isLetter isLe
  rw [w32_id (x := i2b x) (by omega) (by omega)]
  constructor
  · intro y; rw [if_neg (by omega), if_neg (by omega)]
  · intro y
    by_cases z : i2b x < 97
    · rw [if_pos z]
    · rw [if_neg z, if_pos (by omega)]
theorem c_isDigit {x : Int} (hx : 0 ≤ x ∧ x ≤ 255) (h : AH) : (isDi x → f5_isDigit (i2b x) h = some (1, h)) ∧ (¬ isDi x → f5_isDigit (i2b x) h = some (0, h)) := by
  have c := i2b_c hx
  unfold f5_isDigit isDi
  rw [w32_id (x := i2b x) (by omega) (by omega)]
  constructor
  · intro y; rw [if_neg (by omega), if_neg (by omega)]
  · intro y
    by_cases z : i2b x < 48
    · rw [if_pos z]
    · rw [if_neg z, if_pos (by omega)]
theorem c_letters {f : Nat} (hT : TP n bt h) (h10 : h.2 28 10 = (f : Int)) (hf : f ≤ n) {t : Nat} (t1 : f ≤ t) (t2 : t ≤ n) (t3 : ∀ i, f ≤ i → i < t → isLe (bt i)) (t4 : t = n ∨ ¬ isLe (bt t)) : ∃ h1, l5_step_102 h = some (0, h1) ∧ Ky kSt h h1 ∧ h1.2 28 8 = 1 ∧ h1.2 28 9 = h.2 28 9 ∧ h1.2 28 10 = (t : Int) := by
  unfold l5_step_102
  refine wh (fun m (z : AH) => ∃ i, m = t - i ∧ f ≤ i ∧ i ≤ t ∧ Ky kSt h z ∧ z.2 28 9 = h.2 28 9 ∧ z.2 28 10 = (i : Int)) (fun X => ∃ h1, X = some (0, h1) ∧ Ky kSt h h1 ∧ h1.2 28 8 = 1 ∧ h1.2 28 9 = h.2 28 9 ∧ h1.2 28 10 = (t : Int)) (fun m z hp rec => ?_) FU (t - f) h ⟨f, rfl, Nat.le_refl _, t1, Ky.rf h, rfl, h10⟩ (FU_big (by have := hT.2.1; omega))
  obtain ⟨i, p1, p2, p3, p4, p5, p6⟩ := hp
  have hZ := hT.ky p4
  have n6 := hT.2.1
  have last : ∃ h1, b5_step_141 z = some (0, h1) ∧ Ky kSt h h1 ∧ h1.2 28 8 = 1 ∧ h1.2 28 9 = h.2 28 9 ∧ h1.2 28 10 = (i : Int) := by
    unfold b5_step_141
    rw [lt_eq]
    exact ⟨_, rfl, p4.w2 (by unfold kSt; omega), wr_at, by rw [wr_e (by omega)]; exact p5, by rw [wr_e (by omega)]; exact p6⟩
  unfold b5_step_102
  rw [hZ.1, p6, w32_id (x := (n : Int)) (by omega) (by omega), w32_id (x := (i : Int)) (by omega) (by omega)]
  by_cases e : i = n
  · left
    rw [if_pos (by omega)]
    rw [show t = i by omega]; exact last
  · have hb := hZ.2.2 i (by omega)
    rw [if_neg (by omega), asrt_t (by omega), Int.toNat_natCast, hb.2]
    by_cases c : isLe (bt i)
    · right
      have it : i < t := by
        rcases Nat.lt_or_ge i t with y | y
        · exact y
        · have : i = t := by omega
          subst this
          rcases t4 with t4 | t4
          · omega
          · exact absurd c t4
      rw [(c_isLetter hb.1 z).1 c, bnd_some, ite_w1, lt_eq, p6]
      exact ⟨t - (i + 1), _, by omega, ⟨i + 1, rfl, by omega, by omega, p4.w2 (by unfold kSt; omega), by rw [wr_e (by omega)]; exact p5, wr_at⟩, rfl⟩
    · left
      have it : i = t := by
        rcases Nat.lt_or_ge i t with y | y
        · exact absurd (t3 i p2 y) c
        · omega
      rw [(c_isLetter hb.1 z).2 c, bnd_some, ite_w0, ← it]
      exact last
theorem c_digits {f : Nat} (hT : TP n bt h) (h9 : h.2 28 9 = (f : Int)) (h10 : h.2 28 10 = (f : Int)) (hf : f ≤ n) {t : Nat} (t1 : f ≤ t) (t2 : t ≤ n) (t3 : ∀ i, f ≤ i → i < t → isDi (bt i)) (t4 : t = n ∨ ¬ isDi (bt t)) : ∃ h1, l5_step_164 h = some (0, h1) ∧ Ky kSt h h1 ∧ h1.2 28 8 = ((if t - f ≤ 2 then 2 else 4 : Nat) : Int) ∧ h1.2 28 9 = (f : Int) ∧ h1.2 28 10 = (t : Int) := by
  unfold l5_step_164
  refine wh (fun m (z : AH) => ∃ i, m = t - i ∧ f ≤ i ∧ i ≤ t ∧ Ky kSt h z ∧ z.2 28 9 = (f : Int) ∧ z.2 28 10 = (i : Int)) (fun X => ∃ h1, X = some (0, h1) ∧ Ky kSt h h1 ∧ h1.2 28 8 = ((if t - f ≤ 2 then 2 else 4 : Nat) : Int) ∧ h1.2 28 9 = (f : Int) ∧ h1.2 28 10 = (t : Int)) (fun m z hp rec => ?_) FU (t - f) h ⟨f, rfl, Nat.le_refl _, t1, Ky.rf h, h9, h10⟩ (FU_big (by have := hT.2.1; omega))
  obtain ⟨i, p1, p2, p3, p4, p5, p6⟩ := hp
  have hZ := hT.ky p4
  have n6 := hT.2.1
  have last : i = t → ∃ h1, b5_step_203 z = some (0, h1) ∧ Ky kSt h h1 ∧ h1.2 28 8 = ((if t - f ≤ 2 then 2 else 4 : Nat) : Int) ∧ h1.2 28 9 = (f : Int) ∧ h1.2 28 10 = (t : Int) := fun e => by
    subst e
    unfold b5_step_203
    rw [p5, p6, w32_id (x := ((i : Int) - f)) (by omega) (by omega), lt_eq, lt_eq]
    by_cases y : i - f ≤ 2
    · rw [if_neg (by omega), if_pos y]
      exact ⟨_, rfl, p4.w2 (by unfold kSt; omega), wr_at, by rw [wr_e (by omega)]; exact p5, by rw [wr_e (by omega)]; exact p6⟩
    · rw [if_pos (by omega), if_neg y]
      exact ⟨_, rfl, p4.w2 (by unfold kSt; omega), wr_at, by rw [wr_e (by omega)]; exact p5, by rw [wr_e (by omega)]; exact p6⟩
  unfold b5_step_164
  rw [hZ.1, p6, w32_id (x := (n : Int)) (by omega) (by omega), w32_id (x := (i : Int)) (by omega) (by omega)]
  by_cases e : i = n
  · left
    rw [if_pos (by omega)]
    exact last (by omega)
  · have hb := hZ.2.2 i (by omega)
    rw [if_neg (by omega), asrt_t (by omega), Int.toNat_natCast, hb.2]
    by_cases c : isDi (bt i)
    · right
      have it : i < t := by
        rcases Nat.lt_or_ge i t with y | y
        · exact y
        · have : i = t := by omega
          subst this
          rcases t4 with t4 | t4
          · omega
          · exact absurd c t4
      rw [(c_isDigit hb.1 z).1 c, bnd_some, ite_w1, lt_eq, p6]
      exact ⟨t - (i + 1), _, by omega, ⟨i + 1, rfl, by omega, by omega, p4.w2 (by unfold kSt; omega), by rw [wr_e (by omega)]; exact p5, wr_at⟩, rfl⟩
    · left
      have it : i = t := by
        rcases Nat.lt_or_ge i t with y | y
        · exact absurd (t3 i p2 y) c
        · omega
      rw [(c_isDigit hb.1 z).2 c, bnd_some, ite_w0]
      exact last it
theorem c_step {p : Nat} (hT : TP n bt h) (h10 : h.2 28 10 = (p : Int)) (hp : p ≤ n) : ∃ (h1 : AH) (kd f t : Nat), f5_step h = some (0, h1) ∧ Ky kSt h h1 ∧ TK n bt p kd f t ∧ h1.2 28 8 = (kd : Int) ∧ h1.2 28 9 = (f : Int) ∧ h1.2 28 10 = (t : Int) := by
  have n6 := hT.2.1
  obtain ⟨f, f1, f2, f3, f4⟩ := run_ex (fun i => isSp (bt i)) n (n - p) p (by omega)
  unfold f5_step l5_step_8
  rw [lt_eq, h10]
  refine wh (fun m (z : AH) => ∃ i, m = f - i ∧ p ≤ i ∧ i ≤ f ∧ Ky kSt h z ∧ z.2 28 9 = (i : Int)) (fun X => ∃ (h1 : AH) (kd f t : Nat), X = some (0, h1) ∧ Ky kSt h h1 ∧ TK n bt p kd f t ∧ h1.2 28 8 = (kd : Int) ∧ h1.2 28 9 = (f : Int) ∧ h1.2 28 10 = (t : Int)) (fun m z hq rec => ?_) FU (f - p) (wr h 28 9 p) ⟨p, rfl, Nat.le_refl _, f1, Ky.w1 (by unfold kSt; omega), wr_at⟩ (FU_big (by omega))
  obtain ⟨i, p1, p2, p3, p4, p5⟩ := hq
  have hZ := hT.ky p4
  have last : i = f → ∃ (h1 : AH) (kd f t : Nat), b5_step_60 z = some (0, h1) ∧ Ky kSt h h1 ∧ TK n bt p kd f t ∧ h1.2 28 8 = (kd : Int) ∧ h1.2 28 9 = (f : Int) ∧ h1.2 28 10 = (t : Int) := fun e => by
    subst e
    unfold b5_step_60
    rw [lt_eq, p5]
    have k1 : Ky kSt h (wr z 28 10 (i : Int)) := p4.w2 (by unfold kSt; omega)
    have u9 : (wr z 28 10 (i : Int)).2 28 9 = (i : Int) := by rw [wr_e (by omega)]; exact p5
    have u10 : (wr z 28 10 (i : Int)).2 28 10 = (i : Int) := wr_at
    generalize wr z 28 10 (i : Int) = u at *
    have hU := hT.ky k1
    rw [u9, hU.1, w32_id (x := (i : Int)) (by omega) (by omega), w32_id (x := (n : Int)) (by omega) (by omega)]
    by_cases e : i = n
    · rw [if_neg (by omega), lt_eq]
      exact ⟨_, 0, i, i, rfl, k1.w2 (by unfold kSt; omega), ⟨f1, f2, f3, Or.inl ⟨e, rfl, rfl⟩⟩, wr_at, by rw [wr_e (by omega)]; exact u9, by rw [wr_e (by omega)]; exact u10⟩
    · have hb := hU.2.2 i (by omega)
      have ns : ¬ isSp (bt i) := by
        rcases f4 with f4 | f4
        · exact absurd f4 e
        · exact f4
      have cb := i2b_c hb.1
      rw [if_pos (by omega), asrt_t (by omega), Int.toNat_natCast, hb.2]
      by_cases cl : isLe (bt i)
      · obtain ⟨t, t1, t2, t3, t4⟩ := run_ex (fun i => isLe (bt i)) n (n - i) i (by omega)
        have t5 : i < t := by
          rcases Nat.lt_or_ge i t with y | y
          · exact y
          · have : t = i := by omega
            subst this
            rcases t4 with t4 | t4
            · exact absurd t4 e
            · exact absurd cl t4
        obtain ⟨h1, l1, l2, l3, l4, l5⟩ := c_letters hU u10 (by omega) t1 t2 t3 t4
        rw [(c_isLetter hb.1 u).1 cl, bnd_some, ite_w1, l1]
        exact ⟨h1, 1, i, t, rfl, k1.tr l2, ⟨f1, f2, f3, Or.inr ⟨by omega, ns, Or.inl ⟨cl, rfl, t5, t2, t3, t4⟩⟩⟩, l3, l4.trans u9, l5⟩
      · rw [(c_isLetter hb.1 u).2 cl, bnd_some, ite_w0, u9, w32_id (x := (i : Int)) (by omega) (by omega), asrt_t (by omega), Int.toNat_natCast, hb.2]
        by_cases cd : isDi (bt i)
        · obtain ⟨t, t1, t2, t3, t4⟩ := run_ex (fun i => isDi (bt i)) n (n - i) i (by omega)
          have t5 : i < t := by
            rcases Nat.lt_or_ge i t with y | y
            · exact y
            · have : t = i := by omega
              subst this
              rcases t4 with t4 | t4
              · exact absurd t4 e
              · exact absurd cd t4
          obtain ⟨h1, l1, l2, l3, l4, l5⟩ := c_digits hU u9 u10 (by omega) t1 t2 t3 t4
          rw [(c_isDigit hb.1 u).1 cd, bnd_some, ite_w1, l1]
          exact ⟨h1, _, i, t, rfl, k1.tr l2, ⟨f1, f2, f3, Or.inr ⟨by omega, ns, Or.inr (Or.inl ⟨cd, t5, t2, t3, t4, rfl⟩)⟩⟩, l3, l4, l5⟩
        · rw [(c_isDigit hb.1 u).2 cd, bnd_some, ite_w0, lt_eq, u10, wr_e (by omega), u9, w32_id (x := (i : Int)) (by omega) (by omega), asrt_t (by omega), Int.toNat_natCast, wr_e (by omega), hb.2, lt_eq, lt_eq, w32_id (x := i2b (bt i)) (by omega) (by omega)]
          have k2 : Ky kSt h (wr u 28 10 ((i : Int) + 1)) := k1.w2 (by unfold kSt; omega)
          by_cases y : bt i = 59
          · rw [if_neg (fun w => w (by omega))]
            refine ⟨_, 3, i, i + 1, rfl, k2.w2 (by unfold kSt; omega), ⟨f1, f2, f3, Or.inr ⟨by omega, ns, Or.inr (Or.inr ⟨cl, cd, rfl, by rw [if_pos y]⟩)⟩⟩, wr_at, ?_, ?_⟩
            · rw [wr_e (by omega), wr_e (by omega)]; exact u9
            · rw [wr_e (by omega), wr_at]; rfl
          · rw [if_pos (by omega)]
            refine ⟨_, 4, i, i + 1, rfl, k2.w2 (by unfold kSt; omega), ⟨f1, f2, f3, Or.inr ⟨by omega, ns, Or.inr (Or.inr ⟨cl, cd, rfl, by rw [if_neg y]⟩)⟩⟩, wr_at, ?_, ?_⟩
            · rw [wr_e (by omega), wr_e (by omega)]; exact u9
            · rw [wr_e (by omega), wr_at]; rfl
  have more : i < f → ∃ m' z', m' < m ∧ (∃ i, m' = f - i ∧ p ≤ i ∧ i ≤ f ∧ Ky kSt h z' ∧ z'.2 28 9 = (i : Int)) ∧ b5_step_47 rec z = rec z' := fun e => by
    unfold b5_step_47
    rw [lt_eq, p5]
    exact ⟨f - (i + 1), _, by omega, ⟨i + 1, rfl, by omega, by omega, p4.w2 (by unfold kSt; omega), wr_at⟩, rfl⟩
  unfold b5_step_8
  rw [hZ.1, p5, w32_id (x := (n : Int)) (by omega) (by omega), w32_id (x := (i : Int)) (by omega) (by omega)]
  by_cases e : i = n
  · left
    rw [if_pos (by omega)]
    exact last (by omega)
  · have hb := hZ.2.2 i (by omega)
    have cb := i2b_c hb.1
    rw [if_neg (by omega), asrt_t (by omega), Int.toNat_natCast, hb.2, asrt_t (by omega), w32_id (x := i2b (bt i)) (by omega) (by omega)]
    by_cases c : isSp (bt i)
    · right
      have it : i < f := by
        rcases Nat.lt_or_ge i f with y | y
        · exact y
        · have : i = f := by omega
          subst this
          rcases f4 with f4 | f4
          · exact absurd f4 e
          · exact absurd c f4
      obtain ⟨m', z', m1, m2, m3⟩ := more it
      refine ⟨m', z', m1, m2, ?_⟩
      unfold isSp at c
      by_cases y : i2b (bt i) = 10
      · rw [if_pos y, m3]
      · rw [if_neg y, if_neg (fun w => w (by omega)), m3]
    · left
      have it : i = f := by
        rcases Nat.lt_or_ge i f with y | y
        · exact absurd (f3 i p2 y) c
        · omega
      unfold isSp at c
      rw [if_neg (by omega), if_pos (by omega)]
      exact last it
end StepC
