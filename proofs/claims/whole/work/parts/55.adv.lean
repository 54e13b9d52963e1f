/-! tokens: the model's advance -/
def nmv (g : Nat → Int) : Nat → Int
  | 0 => 0
  | L + 1 => 10 * nmv g L + g L
def nmT (bt : Nat → Int) (f t : Nat) : Int := nmv (fun i => bt (f + i) - 48) (t - f)
theorem hsh_lt {g : Nat → Int} {L : Nat} (h : ∀ i, i < L → 1 ≤ g i ∧ g i ≤ 26) : hsh g L < ((32 ^ L : Nat) : Int) := by
  induction L with
  | zero => show (0 : Int) < ((1 : Nat) : Int); omega
  | succ L ih =>
    have := ih (fun i hi => h i (by omega))
    have := h L (by omega)
    rw [Nat.pow_succ]
    simp only [hsh]; omega
section AdvM
variable {h : AH} {n : Nat} {bt : Nat → Int}
def MT (n : Nat) (bt : Nat → Int) (h : AH) : Prop := h.2 69 2 = n ∧ n ≤ 600 ∧ ∀ i, i < n → (0 ≤ bt i ∧ bt i ≤ 255) ∧ h.2 70 (10 + i) = bt i
def kAd (a k : Nat) : Prop := a = 69 ∧ 3 ≤ k ∧ k ≤ 7
theorem MT.ky {w : AH} (hT : MT n bt h) (k : Ky kAd h w) : MT n bt w := ⟨(k.2 _ _ (by unfold kAd; omega)).trans hT.1, hT.2.1, fun i hi => ⟨(hT.2.2 i hi).1, (k.2 _ _ (by unfold kAd; omega)).trans (hT.2.2 i hi).2⟩⟩
theorem m_byteAt {p : Nat} (hT : MT n bt h) (hp : p ≤ n) : f11_byteAt p h = some (if p < n then bt p else -1, h) := by
  have n6 := hT.2.1
  unfold f11_byteAt
  rw [hT.1, w32_id (x := (n : Int)) (by omega) (by omega), w32_id (x := (p : Int)) (by omega) (by omega)]
  by_cases c : p < n
  · rw [if_neg (by omega), show (10 : Int) + (p : Int) = ((10 + p : Nat) : Int) by omega, w32_id (x := ((10 + p : Nat) : Int)) (by omega) (by omega), asrt_t (by omega), Int.toNat_natCast, (hT.2.2 p c).2, if_pos c]
  · rw [if_pos (by omega), if_neg c]
theorem m_isLetter {x : Int} (hx : -1 ≤ x ∧ x ≤ 255) (h : AH) : (isLe x → f11_isLetter x h = some (1, h)) ∧ (¬ isLe x → f11_isLetter x h = some (0, h)) := by
  unfold f11_isLetter isLe
  rw [w32_id (x := x) (by omega) (by omega)]
  constructor
  · intro y; rw [if_neg (by omega), if_neg (by omega)]
  · intro y
    by_cases z : x < 97
    · rw [if_pos z]
    · rw [if_neg z, if_pos (by omega)]
theorem m_isDigit {x : Int} (hx : -1 ≤ x ∧ x ≤ 255) (h : AH) : (isDi x → f11_isDigit x h = some (1, h)) ∧ (¬ isDi x → f11_isDigit x h = some (0, h)) := by
  unfold f11_isDigit isDi
  rw [w32_id (x := x) (by omega) (by omega)]
  constructor
  · intro y; rw [if_neg (by omega), if_neg (by omega)]
  · intro y
    by_cases z : x < 48
    · rw [if_pos z]
    · rw [if_neg z, if_pos (by omega)]
theorem m_letters {f : Nat} (hT : MT n bt h) (h3 : h.2 69 3 = (f : Int)) (h4 : h.2 69 4 = (f : Int)) {t : Nat} (t1 : f ≤ t) (t2 : t ≤ n) (t3 : ∀ i, f ≤ i → i < t → isLe (bt i)) (t4 : t = n ∨ ¬ isLe (bt t)) : ∃ h1, l11_advance_77 0 h = some (0, h1) ∧ Ky kAd h h1 ∧ h1.2 69 3 = (t : Int) ∧ h1.2 69 4 = (f : Int) ∧ h1.2 69 7 = wcT bt f t ∧ h1.2 69 5 = if wcT bt f t = 99 then 4 else 3 := by
  have n6 := hT.2.1
  unfold l11_advance_77
  refine wh (fun m (z : Int × AH) => ∃ i, m = t - i ∧ f ≤ i ∧ i ≤ t ∧ z.1 = hsh (fun j => bt (f + j) - 96) (if i - f ≤ 8 then i - f else 8) ∧ Ky kAd h z.2 ∧ z.2.2 69 3 = (i : Int) ∧ z.2.2 69 4 = (f : Int)) (fun X => ∃ h1, X = some (0, h1) ∧ Ky kAd h h1 ∧ h1.2 69 3 = (t : Int) ∧ h1.2 69 4 = (f : Int) ∧ h1.2 69 7 = wcT bt f t ∧ h1.2 69 5 = if wcT bt f t = 99 then 4 else 3) (fun m z hp rec => ?_) FU (t - f) (0, h) ⟨f, rfl, Nat.le_refl _, t1, by rw [Nat.sub_self]; rfl, Ky.rf h, h3, h4⟩ (FU_big (by omega))
  obtain ⟨v, z⟩ := z
  obtain ⟨i, p1, p2, p3, p4, p5, p6, p7⟩ := hp
  simp only at p4 p5 p6 p7
  have hZ := hT.ky p5
  have gl : ∀ L, L ≤ t - f → ∀ j, j < L → 1 ≤ (fun j => bt (f + j) - 96) j ∧ (fun j => bt (f + j) - 96) j ≤ 26 := fun L hL j hj => by
    have := t3 (f + j) (by omega) (by omega)
    unfold isLe at this
    simp only
    omega
  have br : -1 ≤ (if i < n then bt i else -1) ∧ (if i < n then bt i else -1) ≤ 255 := by
    by_cases y : i < n
    · rw [if_pos y]; have := (hT.2.2 i y).1; omega
    · rw [if_neg y]; omega
  unfold b11_advance_77
  dsimp only
  rw [p6, m_byteAt hZ (by omega), bnd_some]
  by_cases c : isLe (if i < n then bt i else -1)
  · right
    have it : i < t := by
      rcases Nat.lt_or_ge i t with y | y
      · exact y
      · have : i = t := by omega
        subst this
        rcases t4 with t4 | t4
        · rw [if_neg (by omega)] at c; unfold isLe at c; omega
        · by_cases y : i < n
          · rw [if_pos y] at c; exact absurd c t4
          · rw [if_neg y] at c; unfold isLe at c; omega
    have ib := hT.2.2 i (by omega)
    rw [(m_isLetter br z).1 c, bnd_some, ite_w1, p6, p7, w32_id (x := ((i : Int) - f)) (by omega) (by omega), m_byteAt hZ (by omega), bnd_some, if_pos (c := i < n) (by omega), lt_eq, w32_id (x := bt i) (by omega) (by omega)]
    unfold b11_advance_125
    rw [lt_eq, lt_eq, p6]
    by_cases y : 8 ≤ i - f
    · rw [if_pos (by omega)]
      refine ⟨t - (i + 1), (v, wr z 69 3 ((i : Int) + 1)), by omega, ⟨i + 1, rfl, by omega, by omega, ?_, p5.w2 (by unfold kAd; omega), wr_at, by rw [wr_e (by omega)]; exact p7⟩, rfl⟩
      rw [if_neg (by omega)]
      rw [p4]
      by_cases y2 : i - f ≤ 8
      · rw [if_pos y2, show i - f = 8 by omega]
      · rw [if_neg y2]
    · rw [if_neg (by omega)]
      refine ⟨t - (i + 1), (32 * v + bt i - 96, wr z 69 3 ((i : Int) + 1)), by omega, ⟨i + 1, rfl, by omega, by omega, ?_, p5.w2 (by unfold kAd; omega), wr_at, by rw [wr_e (by omega)]; exact p7⟩, rfl⟩
      show 32 * v + bt i - 96 = _
      rw [if_pos (by omega), show i + 1 - f = (i - f) + 1 by omega]
      rw [if_pos (by omega)] at p4
      simp only [hsh]
      rw [← p4, show f + (i - f) = i by omega]
      omega
  · left
    have it : i = t := by
      rcases Nat.lt_or_ge i t with y | y
      · have := t3 i p2 y
        rw [if_pos (by omega)] at c
        exact absurd this c
      · omega
    subst it
    rw [(m_isLetter br z).2 c, bnd_some, ite_w0, p6, p7, w32_id (x := ((i : Int) - f)) (by omega) (by omega)]
    have fin : ∀ s0 : Int, s0 = wcT bt f i → ∃ h1, b11_advance_162 s0 z = some (0, h1) ∧ Ky kAd h h1 ∧ h1.2 69 3 = (i : Int) ∧ h1.2 69 4 = (f : Int) ∧ h1.2 69 7 = wcT bt f i ∧ h1.2 69 5 = if wcT bt f i = 99 then 4 else 3 := fun s0 e => by
      have wr1 : (1 ≤ s0 ∧ s0 ≤ 11) ∨ s0 = 99 := by
        rw [e]
        unfold wcT
        split
        · exact wcN_rng _
        · exact Or.inr rfl
      unfold b11_advance_162
      rw [lt_eq, wr_at, w32_id (x := s0) (by omega) (by omega), lt_eq, lt_eq]
      have k1 : Ky kAd h (wr z 69 7 s0) := p5.w2 (by unfold kAd; omega)
      by_cases y : s0 = 99
      · rw [if_neg (fun w => w y)]
        refine ⟨_, rfl, k1.w2 (by unfold kAd; omega), ?_, ?_, ?_, ?_⟩
        · rw [wr_e (by omega), wr_e (by omega)]; exact p6
        · rw [wr_e (by omega), wr_e (by omega)]; exact p7
        · rw [wr_e (by omega), wr_at]; exact e
        · rw [wr_at, if_pos (by omega)]
      · rw [if_pos y]
        refine ⟨_, rfl, k1.w2 (by unfold kAd; omega), ?_, ?_, ?_, ?_⟩
        · rw [wr_e (by omega), wr_e (by omega)]; exact p6
        · rw [wr_e (by omega), wr_e (by omega)]; exact p7
        · rw [wr_e (by omega), wr_at]; exact e
        · rw [wr_at, if_neg (by omega)]
    by_cases y : i - f ≤ 8
    · rw [if_pos y] at p4
      have l1 := hsh_nn (gl (i - f) (by omega))
      have l2 := hsh_lt (gl (i - f) (by omega))
      have l3 : 32 ^ (i - f) ≤ 32 ^ 8 := Nat.pow_le_pow_right (by omega) y
      rw [if_pos (by omega), p4, m_wordOf _ (by omega), bnd_some]
      exact fin _ (by unfold wcT; rw [if_pos y])
    · rw [if_neg (by omega)]
      exact fin 99 (by unfold wcT; rw [if_neg y])
theorem m_digits {f : Nat} (hT : MT n bt h) (h3 : h.2 69 3 = (f : Int)) (h4 : h.2 69 4 = (f : Int)) (h6 : h.2 69 6 = 0) {t : Nat} (t1 : f ≤ t) (t2 : t ≤ n) (t3 : ∀ i, f ≤ i → i < t → isDi (bt i)) (t4 : t = n ∨ ¬ isDi (bt t)) : ∃ h1, l11_advance_198 h = some (0, h1) ∧ Ky kAd h h1 ∧ h1.2 69 3 = (t : Int) ∧ h1.2 69 4 = (f : Int) ∧ (t - f ≤ 2 → h1.2 69 5 = 1 ∧ h1.2 69 6 = nmT bt f t) ∧ (¬ t - f ≤ 2 → h1.2 69 5 = 4) := by
  have n6 := hT.2.1
  unfold l11_advance_198
  refine wh (fun m (z : AH) => ∃ i, m = t - i ∧ f ≤ i ∧ i ≤ t ∧ z.2 69 6 = nmv (fun j => bt (f + j) - 48) (if i - f ≤ 2 then i - f else 2) ∧ Ky kAd h z ∧ z.2 69 3 = (i : Int) ∧ z.2 69 4 = (f : Int)) (fun X => ∃ h1, X = some (0, h1) ∧ Ky kAd h h1 ∧ h1.2 69 3 = (t : Int) ∧ h1.2 69 4 = (f : Int) ∧ (t - f ≤ 2 → h1.2 69 5 = 1 ∧ h1.2 69 6 = nmT bt f t) ∧ (¬ t - f ≤ 2 → h1.2 69 5 = 4)) (fun m z hp rec => ?_) FU (t - f) h ⟨f, rfl, Nat.le_refl _, t1, by rw [Nat.sub_self]; exact h6, Ky.rf h, h3, h4⟩ (FU_big (by omega))
  obtain ⟨i, p1, p2, p3, p4, p5, p6, p7⟩ := hp
  have hZ := hT.ky p5
  have br : -1 ≤ (if i < n then bt i else -1) ∧ (if i < n then bt i else -1) ≤ 255 := by
    by_cases y : i < n
    · rw [if_pos y]; have := (hT.2.2 i y).1; omega
    · rw [if_neg y]; omega
  unfold b11_advance_198 b11_advance_248
  rw [p6, m_byteAt hZ (by omega), bnd_some]
  by_cases c : isDi (if i < n then bt i else -1)
  · right
    have it : i < t := by
      rcases Nat.lt_or_ge i t with y | y
      · exact y
      · have : i = t := by omega
        subst this
        rcases t4 with t4 | t4
        · rw [if_neg (by omega)] at c; unfold isDi at c; omega
        · by_cases y : i < n
          · rw [if_pos y] at c; exact absurd c t4
          · rw [if_neg y] at c; unfold isDi at c; omega
    rw [(m_isDigit br z).1 c, bnd_some, ite_w1, p6, p7, w32_id (x := ((i : Int) - f)) (by omega) (by omega), m_byteAt hZ (by omega), bnd_some, if_pos (c := i < n) (by omega), lt_eq, lt_eq, lt_eq]
    by_cases y : 2 ≤ i - f
    · rw [if_pos (by omega)]
      refine ⟨t - (i + 1), _, by omega, ⟨i + 1, rfl, by omega, by omega, ?_, p5.w2 (by unfold kAd; omega), wr_at, by rw [wr_e (by omega)]; exact p7⟩, rfl⟩
      rw [wr_e (by omega), p4, if_neg (c := i + 1 - f ≤ 2) (by omega)]
      by_cases y2 : i - f ≤ 2
      · rw [if_pos y2, show i - f = 2 by omega]
      · rw [if_neg y2]
    · rw [if_neg (by omega), wr_e (by omega), p6]
      refine ⟨t - (i + 1), _, by omega, ⟨i + 1, rfl, by omega, by omega, ?_, (p5.w2 (by unfold kAd; omega)).w2 (by unfold kAd; omega), wr_at, by rw [wr_e (by omega), wr_e (by omega)]; exact p7⟩, rfl⟩
      rw [wr_e (by omega), wr_at, if_pos (c := i + 1 - f ≤ 2) (by omega), show i + 1 - f = (i - f) + 1 by omega]
      rw [if_pos (by omega)] at p4
      simp only [nmv]
      rw [← p4, show f + (i - f) = i by omega]
      omega
  · left
    have it : i = t := by
      rcases Nat.lt_or_ge i t with y | y
      · have := t3 i p2 y
        rw [if_pos (by omega)] at c
        exact absurd this c
      · omega
    subst it
    rw [(m_isDigit br z).2 c, bnd_some, ite_w0, p6, p7, w32_id (x := ((i : Int) - f)) (by omega) (by omega), lt_eq, lt_eq]
    by_cases y : i - f ≤ 2
    · rw [if_pos (by omega)]
      refine ⟨_, rfl, p5.w2 (by unfold kAd; omega), by rw [wr_e (by omega)]; exact p6, by rw [wr_e (by omega)]; exact p7, fun _ => ⟨wr_at, ?_⟩, fun w => absurd y w⟩
      rw [wr_e (by omega), p4, if_pos y]; rfl
    · rw [if_neg (by omega)]
      exact ⟨_, rfl, p5.w2 (by unfold kAd; omega), by rw [wr_e (by omega)]; exact p6, by rw [wr_e (by omega)]; exact p7, fun w => absurd w y, fun _ => wr_at⟩
/-- what the model knows of a token -/
def TV (bt : Nat → Int) (h : AH) (kd f t : Nat) : Prop := (kd = 0 → h.2 69 5 = 0) ∧ (kd = 1 → h.2 69 7 = wcT bt f t ∧ h.2 69 5 = if wcT bt f t = 99 then 4 else 3) ∧ (kd = 2 → h.2 69 5 = 1 ∧ h.2 69 6 = nmT bt f t) ∧ (kd = 3 → h.2 69 5 = 2) ∧ (kd = 4 → h.2 69 5 = 4)
theorem m_adv {p : Nat} (hT : MT n bt h) (h3 : h.2 69 3 = (p : Int)) (hp : p ≤ n) : ∃ (h1 : AH) (kd f t : Nat), f11_advance h = some (0, h1) ∧ Ky kAd h h1 ∧ TK n bt p kd f t ∧ h1.2 69 3 = (t : Int) ∧ h1.2 69 4 = (f : Int) ∧ TV bt h1 kd f t := by
  have n6 := hT.2.1
  obtain ⟨f, f1, f2, f3, f4⟩ := run_ex (fun i => isSp (bt i)) n (n - p) p (by omega)
  unfold f11_advance l11_advance_0
  refine wh (fun m (z : AH) => ∃ i, m = f - i ∧ p ≤ i ∧ i ≤ f ∧ Ky kAd h z ∧ z.2 69 3 = (i : Int)) (fun X => ∃ (h1 : AH) (kd f t : Nat), X = some (0, h1) ∧ Ky kAd h h1 ∧ TK n bt p kd f t ∧ h1.2 69 3 = (t : Int) ∧ h1.2 69 4 = (f : Int) ∧ TV bt h1 kd f t) (fun m z hq rec => ?_) FU (f - p) h ⟨p, rfl, Nat.le_refl _, f1, Ky.rf h, h3⟩ (FU_big (by omega))
  obtain ⟨i, p1, p2, p3, p4, p5⟩ := hq
  have hZ := hT.ky p4
  have br : -1 ≤ (if i < n then bt i else -1) ∧ (if i < n then bt i else -1) ≤ 255 := by
    by_cases y : i < n
    · rw [if_pos y]; have := (hT.2.2 i y).1; omega
    · rw [if_neg y]; omega
  unfold b11_advance_0 b11_advance_26
  rw [p5, m_byteAt hZ (by omega), bnd_some, p5, m_byteAt hZ (by omega), bnd_some, w32_id (x := (if i < n then bt i else -1)) (by omega) (by omega), lt_eq, p5]
  by_cases c : isSp (if i < n then bt i else -1)
  · right
    have inn : i < n := by
      rcases Nat.lt_or_ge i n with y | y
      · exact y
      · rw [if_neg (by omega)] at c; unfold isSp at c; omega
    have it : i < f := by
      rcases Nat.lt_or_ge i f with y | y
      · exact y
      · have : i = f := by omega
        subst this
        rw [if_pos inn] at c
        rcases f4 with f4 | f4
        · omega
        · exact absurd c f4
    refine ⟨f - (i + 1), wr z 69 3 ((i : Int) + 1), by omega, ⟨i + 1, rfl, by omega, by omega, p4.w2 (by unfold kAd; omega), wr_at⟩, ?_⟩
    unfold isSp at c
    by_cases y : (if i < n then bt i else -1) = 10
    · rw [if_pos y]
    · rw [if_neg y, if_neg (fun w => w (by omega)), lt_eq]
  · left
    have it : i = f := by
      rcases Nat.lt_or_ge i f with y | y
      · have := f3 i p2 y
        rw [if_pos (by omega)] at c
        exact absurd this c
      · omega
    subst it
    have c2 := c
    unfold isSp at c2
    have k1 : Ky kAd h (wr z 69 4 (i : Int)) := p4.w2 (by unfold kAd; omega)
    have u3 : (wr z 69 4 (i : Int)).2 69 3 = (i : Int) := by rw [wr_e (by omega)]; exact p5
    have u4 : (wr z 69 4 (i : Int)).2 69 4 = (i : Int) := wr_at
    rw [if_neg (by omega), if_pos (by omega)]
    generalize wr z 69 4 (i : Int) = u at *
    have hU := hT.ky k1
    rw [lt_eq, u3, m_byteAt hU (by omega), bnd_some, w32_id (x := (if i < n then bt i else -1)) (by omega) (by omega)]
    by_cases e : i = n
    · rw [if_neg (c := i < n) (by omega), if_neg (by omega), lt_eq]
      refine ⟨_, 0, i, i, rfl, k1.w2 (by unfold kAd; omega), ⟨f1, f2, f3, Or.inl ⟨e, rfl, rfl⟩⟩, by rw [wr_e (by omega)]; exact u3, by rw [wr_e (by omega)]; exact u4, fun _ => wr_at, fun y => by omega, fun y => by omega, fun y => by omega, fun y => by omega⟩
    · have inn : i < n := by omega
      have hb := hU.2.2 i inn
      rw [if_pos inn] at c br ⊢
      rw [if_pos (by omega)]
      by_cases cl : isLe (bt i)
      · obtain ⟨t, t1, t2, t3, t4⟩ := run_ex (fun i => isLe (bt i)) n (n - i) i (by omega)
        have t5 : i < t := by
          rcases Nat.lt_or_ge i t with y | y
          · exact y
          · have : t = i := by omega
            subst this
            rcases t4 with t4 | t4
            · exact absurd t4 e
            · exact absurd cl t4
        obtain ⟨h1, l1, l2, l3, l4, l5, l6⟩ := m_letters hU u3 u4 t1 t2 t3 t4
        rw [(m_isLetter br u).1 cl, bnd_some, ite_w1, l1]
        exact ⟨h1, 1, i, t, rfl, k1.tr l2, ⟨f1, f2, f3, Or.inr ⟨inn, c, Or.inl ⟨cl, rfl, t5, t2, t3, t4⟩⟩⟩, l3, l4, fun y => by omega, fun _ => ⟨l5, l6⟩, fun y => by omega, fun y => by omega, fun y => by omega⟩
      · rw [(m_isLetter br u).2 cl, bnd_some, ite_w0]
        by_cases cd : isDi (bt i)
        · obtain ⟨t, t1, t2, t3, t4⟩ := run_ex (fun i => isDi (bt i)) n (n - i) i (by omega)
          have t5 : i < t := by
            rcases Nat.lt_or_ge i t with y | y
            · exact y
            · have : t = i := by omega
              subst this
              rcases t4 with t4 | t4
              · exact absurd t4 e
              · exact absurd cd t4
          have k2 : Ky kAd h (wr u 69 6 0) := k1.w2 (by unfold kAd; omega)
          obtain ⟨h1, l1, l2, l3, l4, l5, l6⟩ := m_digits (h := wr u 69 6 0) (hT.ky k2) (by rw [wr_e (by omega)]; exact u3) (by rw [wr_e (by omega)]; exact u4) wr_at t1 t2 t3 t4
          rw [(m_isDigit br u).1 cd, bnd_some, ite_w1, lt_eq, l1]
          by_cases y : t - i ≤ 2
          · exact ⟨h1, 2, i, t, rfl, k2.tr l2, ⟨f1, f2, f3, Or.inr ⟨inn, c, Or.inr (Or.inl ⟨cd, t5, t2, t3, t4, by rw [if_pos y]⟩)⟩⟩, l3, l4, fun w => by omega, fun w => by omega, fun _ => l5 y, fun w => by omega, fun w => by omega⟩
          · exact ⟨h1, 4, i, t, rfl, k2.tr l2, ⟨f1, f2, f3, Or.inr ⟨inn, c, Or.inr (Or.inl ⟨cd, t5, t2, t3, t4, by rw [if_neg y]⟩)⟩⟩, l3, l4, fun w => by omega, fun w => by omega, fun w => by omega, fun w => by omega, fun _ => l6 y⟩
        · rw [(m_isDigit br u).2 cd, bnd_some, ite_w0, lt_eq, u3, lt_eq, lt_eq]
          have k2 : Ky kAd h (wr u 69 3 ((i : Int) + 1)) := k1.w2 (by unfold kAd; omega)
          by_cases y : bt i = 59
          · rw [if_neg (fun w => w y)]
            refine ⟨_, 3, i, i + 1, rfl, k2.w2 (by unfold kAd; omega), ⟨f1, f2, f3, Or.inr ⟨inn, c, Or.inr (Or.inr ⟨cl, cd, rfl, by rw [if_pos y]⟩)⟩⟩, ?_, ?_, fun w => by omega, fun w => by omega, fun w => by omega, fun _ => wr_at, fun w => by omega⟩
            · rw [wr_e (by omega), wr_at]; rfl
            · rw [wr_e (by omega), wr_e (by omega)]; exact u4
          · rw [if_pos y]
            refine ⟨_, 4, i, i + 1, rfl, k2.w2 (by unfold kAd; omega), ⟨f1, f2, f3, Or.inr ⟨inn, c, Or.inr (Or.inr ⟨cl, cd, rfl, by rw [if_neg y]⟩)⟩⟩, ?_, ?_, fun w => by omega, fun w => by omega, fun w => by omega, fun w => by omega, fun _ => wr_at⟩
            · rw [wr_e (by omega), wr_at]; rfl
            · rw [wr_e (by omega), wr_e (by omega)]; exact u4
end AdvM
