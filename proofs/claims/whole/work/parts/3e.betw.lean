/-! what each two have between them -/
def TB (h : AH) (V : Nat → Int) (w : Nat → Nat → Int) : Prop := h.2 50 2 = V 0 ∧ ∀ a b : Nat, (a : Int) < V 0 → (b : Int) < V 0 → a ≠ b → h.2 52 (8 * a + b) = w a b
def kB (a k : Nat) : Prop := a = 52 ∨ (a = 50 ∧ k = 2)
theorem c_setB {a b : Nat} {x : Int} {h : AH} (ha : a < 8) (hb : b < 8) : f1_setBetween a b x h = some (0, wr (wr h 52 (8 * a + b) x) 52 (8 * b + a) x) := by
  unfold f1_setBetween
  rw [w32_id (x := ((a : Int) * 8 + b)) (by omega) (by omega), w32_id (x := ((b : Int) * 8 + a)) (by omega) (by omega), asrt_t (by omega), lt_eq, asrt_t (by omega), lt_eq, show ((a : Int) * 8 + b).toNat = 8 * a + b by omega, show ((b : Int) * 8 + a).toNat = 8 * b + a by omega]
theorem setB_get {h : AH} {w : Nat → Nat → Int} {a b i j : Nat} {x : Int} (hs : ∀ a b, w a b = w b a) (hx : x = w i j) (hi : i < 8) (hj : j < 8) (ha : a < 8) (hb : b < 8) (hij : i ≠ j) (hq : ¬ (a = i ∧ b = j) → ¬ (a = j ∧ b = i) → h.2 52 (8 * a + b) = w a b) : (wr (wr h 52 (8 * i + j) x) 52 (8 * j + i) x).2 52 (8 * a + b) = w a b := by
  rw [wr_2, wr_2]
  by_cases q1 : a = j ∧ b = i
  · rw [if_pos (by omega), hx, q1.1, q1.2, hs]
  · rw [if_neg (by omega)]
    by_cases q2 : a = i ∧ b = j
    · rw [if_pos (by omega), hx, q2.1, q2.2]
    · rw [if_neg (by omega)]
      exact hq q2 q1
theorem sBOA_comm (V : Nat → Int) (a b : Int) : sBOA V a b = sBOA V b a := by
  unfold sBOA
  apply sm_cong
  intro i _
  unfold sBIA
  rw [sGap_comm]
theorem sBurn_comm (V : Nat → Int) (a b s : Int) : sBurn V a b s = sBurn V b a s := by
  unfold sBurn
  rw [sGap_comm]
theorem sHot_comm (V : Nat → Int) (a b : Int) : sHot V a b = sHot V b a := by
  unfold sHot
  congr 1
  funext s
  rw [sBurn_comm]
theorem c_gathT {h : AH} {v : Nat} {V : Nat → Int} (hV : VOK V) (hc : VC h.2 v V) (hv : v + 5 < 28) : ∃ h1, f1_gatherTogether v h = some (0, h1) ∧ Ky kB h h1 ∧ TB h1 V (fun a b => sBOA V a b) := by
  have h0 := hV.1
  have hs : ∀ a b : Nat, (fun a b : Nat => sBOA V a b) a b = (fun a b : Nat => sBOA V a b) b a := fun a b => sBOA_comm V a b
  unfold f1_gatherTogether l1_gatherTogether_10
  rw [lt_eq, hc.1]
  refine fr (fun X => ∃ h1, X = some (0, h1) ∧ Ky kB h h1 ∧ TB h1 V (fun a b => sBOA V a b)) (fun h1 i => (i, h1)) (fun i h1 => Ky kB h h1 ∧ h1.2 50 2 = V 0 ∧ ∀ a b : Nat, (a : Int) < V 0 → (b : Int) < V 0 → a ≠ b → (a < i ∨ b < i) → h1.2 52 (8 * a + b) = sBOA V a b) 0 (V 0).toNat (wr h 50 2 (V 0)) ⟨Ky.w1 (by unfold kB; omega), wr_at, fun a b _ _ _ q => by omega⟩ (by omega) (by omega) (fun i h1 _ hi hI rec => ?_) (fun h1 hI rec => ?_)
  · obtain ⟨k1, k2, k3⟩ := hI
    right
    unfold b1_gatherTogether_10 l1_gatherTogether_22
    dsimp only
    rw [k2, w32_id (x := V 0) (by omega) (by omega), w32_id (x := (i : Int)) (by omega) (by omega), if_neg (by omega), lt_eq]
    refine fr (fun X => ∃ h2, (Ky kB h h2 ∧ h2.2 50 2 = V 0 ∧ ∀ a b : Nat, (a : Int) < V 0 → (b : Int) < V 0 → a ≠ b → (a < i + 1 ∨ b < i + 1) → h2.2 52 (8 * a + b) = sBOA V a b) ∧ X = rec ((i : Int) + 1, h2)) (fun h2 j => (j, h2)) (fun j h2 => Ky kB h h2 ∧ h2.2 50 2 = V 0 ∧ ∀ a b : Nat, (a : Int) < V 0 → (b : Int) < V 0 → a ≠ b → (a < i ∨ b < i ∨ (a = i ∧ b < j) ∨ (b = i ∧ a < j)) → h2.2 52 (8 * a + b) = sBOA V a b) (i + 1) (V 0).toNat h1 ⟨k1, k2, fun a b q1 q2 q3 q4 => k3 a b q1 q2 q3 (by omega)⟩ (by omega) (by omega) (fun j h2 hj1 hj hJ rec2 => ?_) (fun h2 hJ rec2 => ?_)
    · obtain ⟨q1, q2, q3⟩ := hJ
      have hc2 : VC h2.2 v V := q1.vc (fun a k _ _ => by unfold kB; omega) hc
      right
      unfold b1_gatherTogether_22
      dsimp only
      rw [q2, w32_id (x := V 0) (by omega) (by omega), w32_id (x := (j : Int)) (by omega) (by omega), if_neg (by omega), v_BOA hV hc2, bnd_some, w32_id (x := (i : Int)) (by omega) (by omega), w32_id (x := (j : Int)) (by omega) (by omega), c_setB (by omega) (by omega), bnd_some]
      refine ⟨_, ⟨(q1.w2 (Or.inl rfl)).w2 (Or.inl rfl), by rw [wr_ne (by decide), wr_ne (by decide)]; exact q2, fun a b r1 r2 r3 r4 => ?_⟩, rfl⟩
      exact setB_get (w := fun a b => sBOA V a b) hs (by rfl) (by omega) (by omega) (by omega) (by omega) (by omega) (fun s1 s2 => q3 a b r1 r2 r3 (by omega))
    · obtain ⟨q1, q2, q3⟩ := hJ
      refine ⟨h2, ⟨q1, q2, fun a b r1 r2 r3 r4 => q3 a b r1 r2 r3 (by omega)⟩, ?_⟩
      unfold b1_gatherTogether_22
      dsimp only
      rw [q2, w32_id (x := V 0) (by omega) (by omega), w32_id (x := ((V 0).toNat : Int)) (by omega) (by omega), if_pos (by omega)]
  · obtain ⟨k1, k2, k3⟩ := hI
    refine ⟨h1, ?_, k1, k2, fun a b q1 q2 q3 => k3 a b q1 q2 q3 (by omega)⟩
    unfold b1_gatherTogether_10
    dsimp only
    rw [k2, w32_id (x := V 0) (by omega) (by omega), w32_id (x := ((V 0).toNat : Int)) (by omega) (by omega), if_pos (by omega)]
theorem burn_hot {V : Nat → Int} (hV : VOK V) (a b : Int) : sBurn V a b (w32 (sHot V a b).1) = (sHot V a b).2 := by
  have h1 := hV.2.1
  have r2 := bst_val (fun s : Nat => sBurn V a b s) (V 1).toNat
  unfold sHot
  rcases r2 with r2 | ⟨k, r2, r3, r4⟩
  · rw [r2.1, r2.2, w32_m, sBurn_no (by omega)]
  · rw [r4, r3, w32_id (by omega) (by omega)]
theorem c_gathK {h : AH} {v : Nat} {V : Nat → Int} (hV : VOK V) (hc : VC h.2 v V) (hv : v + 5 < 28) : ∃ h1, f1_gatherKeenest v h = some (0, h1) ∧ Ky kB h h1 ∧ TB h1 V (fun a b => (sHot V a b).2) := by
  have h0 := hV.1
  have hs : ∀ a b : Nat, (fun a b : Nat => (sHot V a b).2) a b = (fun a b : Nat => (sHot V a b).2) b a := fun a b => by show (sHot V a b).2 = (sHot V b a).2; rw [sHot_comm]
  unfold f1_gatherKeenest l1_gatherKeenest_10
  rw [lt_eq, hc.1]
  refine fr (fun X => ∃ h1, X = some (0, h1) ∧ Ky kB h h1 ∧ TB h1 V (fun a b => (sHot V a b).2)) (fun h1 i => (i, h1)) (fun i h1 => Ky kB h h1 ∧ h1.2 50 2 = V 0 ∧ ∀ a b : Nat, (a : Int) < V 0 → (b : Int) < V 0 → a ≠ b → (a < i ∨ b < i) → h1.2 52 (8 * a + b) = (sHot V a b).2) 0 (V 0).toNat (wr h 50 2 (V 0)) ⟨Ky.w1 (by unfold kB; omega), wr_at, fun a b _ _ _ q => by omega⟩ (by omega) (by omega) (fun i h1 _ hi hI rec => ?_) (fun h1 hI rec => ?_)
  · obtain ⟨k1, k2, k3⟩ := hI
    right
    unfold b1_gatherKeenest_10 l1_gatherKeenest_22
    dsimp only
    rw [k2, w32_id (x := V 0) (by omega) (by omega), w32_id (x := (i : Int)) (by omega) (by omega), if_neg (by omega), lt_eq]
    refine fr (fun X => ∃ h2, (Ky kB h h2 ∧ h2.2 50 2 = V 0 ∧ ∀ a b : Nat, (a : Int) < V 0 → (b : Int) < V 0 → a ≠ b → (a < i + 1 ∨ b < i + 1) → h2.2 52 (8 * a + b) = (sHot V a b).2) ∧ X = rec ((i : Int) + 1, h2)) (fun h2 j => (j, h2)) (fun j h2 => Ky kB h h2 ∧ h2.2 50 2 = V 0 ∧ ∀ a b : Nat, (a : Int) < V 0 → (b : Int) < V 0 → a ≠ b → (a < i ∨ b < i ∨ (a = i ∧ b < j) ∨ (b = i ∧ a < j)) → h2.2 52 (8 * a + b) = (sHot V a b).2) (i + 1) (V 0).toNat h1 ⟨k1, k2, fun a b q1 q2 q3 q4 => k3 a b q1 q2 q3 (by omega)⟩ (by omega) (by omega) (fun j h2 hj1 hj hJ rec2 => ?_) (fun h2 hJ rec2 => ?_)
    · obtain ⟨q1, q2, q3⟩ := hJ
      have hc2 : VC h2.2 v V := q1.vc (fun a k _ _ => by unfold kB; omega) hc
      right
      unfold b1_gatherKeenest_22
      dsimp only
      rw [q2, w32_id (x := V 0) (by omega) (by omega), w32_id (x := (j : Int)) (by omega) (by omega), if_neg (by omega), v_hot hV hc2, bnd_some, v_burn hV hc2, bnd_some, w32_id (x := (i : Int)) (by omega) (by omega), w32_id (x := (j : Int)) (by omega) (by omega), burn_hot hV, c_setB (by omega) (by omega), bnd_some]
      refine ⟨_, ⟨(q1.w2 (Or.inl rfl)).w2 (Or.inl rfl), by rw [wr_ne (by decide), wr_ne (by decide)]; exact q2, fun a b r1 r2 r3 r4 => ?_⟩, rfl⟩
      exact setB_get (w := fun a b => (sHot V a b).2) hs (by rfl) (by omega) (by omega) (by omega) (by omega) (by omega) (fun s1 s2 => q3 a b r1 r2 r3 (by omega))
    · obtain ⟨q1, q2, q3⟩ := hJ
      refine ⟨h2, ⟨q1, q2, fun a b r1 r2 r3 r4 => q3 a b r1 r2 r3 (by omega)⟩, ?_⟩
      unfold b1_gatherKeenest_22
      dsimp only
      rw [q2, w32_id (x := V 0) (by omega) (by omega), w32_id (x := ((V 0).toNat : Int)) (by omega) (by omega), if_pos (by omega)]
  · obtain ⟨k1, k2, k3⟩ := hI
    refine ⟨h1, ?_, k1, k2, fun a b q1 q2 q3 => k3 a b q1 q2 q3 (by omega)⟩
    unfold b1_gatherKeenest_10
    dsimp only
    rw [k2, w32_id (x := V 0) (by omega) (by omega), w32_id (x := ((V 0).toNat : Int)) (by omega) (by omega), if_pos (by omega)]
/-! ranks -/
def sWA (V : Nat → Int) (p : Nat) : Int := sm (fun q => if q = p then 0 else sBOA V p q) (V 0).toNat
theorem sWA_rng {V : Nat → Int} (hV : VOK V) (p : Nat) : 0 ≤ sWA V p ∧ sWA V p ≤ 34992 := by
  have h0 := hV.1
  have := sm_rng (f := fun q : Nat => if q = p then (0 : Int) else sBOA V p q) (n := (V 0).toNat) (lo := 0) (hi := 4374) (fun i _ => by have := sBOA_rng hV p i; split <;> omega)
  unfold sWA
  omega
def ahd (V : Nat → Int) (p q : Nat) : Bool := decide (sWA V p < sWA V q ∨ (sWA V q = sWA V p ∧ q < p))
def sRk (V : Nat → Int) (p : Nat) : Int := sm (fun q => if ahd V p q then 1 else 0) (V 0).toNat
theorem sRk_rng {V : Nat → Int} (hV : VOK V) (p : Nat) : 0 ≤ sRk V p ∧ sRk V p ≤ 8 := by
  have h0 := hV.1
  have := sm_rng (f := fun q : Nat => if ahd V p q then (1 : Int) else 0) (n := (V 0).toNat) (lo := 0) (hi := 1) (fun i _ => by split <;> omega)
  unfold sRk
  omega
theorem c_withAll {h : AH} {V : Nat → Int} (hV : VOK V) (hT : TB h V (fun a b => sBOA V a b)) (p : Nat) (hp : (p : Int) < V 0) : f1_withAll p h = some (sWA V p, h) := by
  have h0 := hV.1
  unfold f1_withAll l1_withAll_4
  refine loopS0 (fun q => if q = p then 0 else sBOA V p q) (V 0).toNat h (by omega) (fun i hi x rec => ?_) (fun rec => ?_)
  · unfold b1_withAll_4 b1_withAll_33
    dsimp only
    rw [hT.1, w32_id (x := V 0) (by omega) (by omega), w32_id (x := (i : Int)) (by omega) (by omega), w32_id (x := (p : Int)) (by omega) (by omega), if_neg (by omega), w32_id (x := ((p : Int) * 8 + i)) (by omega) (by omega), asrt_t (by omega), lt_eq, lt_eq, show ((p : Int) * 8 + i).toNat = 8 * p + i by omega]
    by_cases q : i = p
    · rw [if_neg (by omega), if_pos q]
    · rw [if_pos (by omega), if_neg q, hT.2 p i (by omega) (by omega) (by omega)]
  · unfold b1_withAll_4
    dsimp only
    rw [hT.1, w32_id (x := V 0) (by omega) (by omega), w32_id (x := ((V 0).toNat : Int)) (by omega) (by omega), if_pos (by omega)]
    rfl
theorem m_withAll {h : AH} {V : Nat → Int} (hV : VOK V) (hm : VM h.2 V) (p : Nat) (hp : (p : Int) < V 0) : f11_withAll p h = some (sWA V p, h) := by
  have h0 := hV.1
  unfold f11_withAll l11_withAll_4
  refine loopS0 (fun q => if q = p then 0 else sBOA V p q) (V 0).toNat h (by omega) (fun i hi x rec => ?_) (fun rec => ?_)
  · unfold b11_withAll_4 b11_withAll_28
    dsimp only
    rw [vm_P hm, w32_id (x := V 0) (by omega) (by omega), w32_id (x := (i : Int)) (by omega) (by omega), w32_id (x := (p : Int)) (by omega) (by omega), if_neg (by omega), lt_eq]
    by_cases q : i = p
    · rw [if_neg (by omega), if_pos q]
    · rw [if_pos (by omega), if_neg q, m_tog hV hm p i (by omega) (by omega) (by omega), bnd_some, lt_eq]
  · unfold b11_withAll_4
    dsimp only
    rw [vm_P hm, w32_id (x := V 0) (by omega) (by omega), w32_id (x := ((V 0).toNat : Int)) (by omega) (by omega), if_pos (by omega)]
    rfl
theorem c_ahead {h : AH} {V : Nat → Int} (hV : VOK V) (hT : TB h V (fun a b => sBOA V a b)) (p : Nat) (hp : (p : Int) < V 0) : f1_aheadOf p h = some (sRk V p, h) := by
  have h0 := hV.1
  unfold f1_aheadOf l1_aheadOf_4
  refine loopS0 (fun q => if ahd V p q then 1 else 0) (V 0).toNat h (by omega) (fun i hi x rec => ?_) (fun rec => ?_)
  · have r1 := sWA_rng hV p
    have r2 := sWA_rng hV i
    unfold b1_aheadOf_4 b1_aheadOf_41 b1_aheadOf_45 b1_aheadOf_46
    dsimp only
    rw [hT.1, w32_id (x := V 0) (by omega) (by omega), w32_id (x := (i : Int)) (by omega) (by omega), w32_id (x := (p : Int)) (by omega) (by omega), if_neg (by omega), c_withAll hV hT i (by omega), bnd_some, c_withAll hV hT p hp, bnd_some, lt_eq, w32_id (x := (sWA V i - sWA V p)) (by omega) (by omega)]
    unfold ahd
    simp only [lt_eq, decide_eq_true_eq]
    repeat' split
    all_goals first | rfl | omega
  · unfold b1_aheadOf_4
    dsimp only
    rw [hT.1, w32_id (x := V 0) (by omega) (by omega), w32_id (x := ((V 0).toNat : Int)) (by omega) (by omega), if_pos (by omega)]
    rfl
theorem m_rank {h : AH} {V : Nat → Int} (hV : VOK V) (hm : VM h.2 V) (p : Nat) (hp : (p : Int) < V 0) : f11_rankOf p h = some (sRk V p, h) := by
  have h0 := hV.1
  unfold f11_rankOf l11_rankOf_4
  refine loopS0 (fun q => if ahd V p q then 1 else 0) (V 0).toNat h (by omega) (fun i hi x rec => ?_) (fun rec => ?_)
  · have r1 := sWA_rng hV p
    have r2 := sWA_rng hV i
    unfold b11_rankOf_4 b11_rankOf_44 b11_rankOf_48 b11_rankOf_49
    dsimp only
    rw [vm_P hm, w32_id (x := V 0) (by omega) (by omega), w32_id (x := (i : Int)) (by omega) (by omega), w32_id (x := (p : Int)) (by omega) (by omega), if_neg (by omega), m_withAll hV hm i (by omega), bnd_some, m_withAll hV hm p hp, bnd_some, m_withAll hV hm i (by omega), bnd_some, m_withAll hV hm p hp, bnd_some, w32_id (x := (sWA V i)) (by omega) (by omega), w32_id (x := (sWA V p)) (by omega) (by omega)]
    unfold ahd
    simp only [lt_eq, decide_eq_true_eq]
    repeat' split
    all_goals first | rfl | omega
  · unfold b11_rankOf_4
    dsimp only
    rw [vm_P hm, w32_id (x := V 0) (by omega) (by omega), w32_id (x := ((V 0).toNat : Int)) (by omega) (by omega), if_pos (by omega)]
    rfl
theorem php : ∀ (n m : Nat) (f : Nat → Nat), (∀ i, i < n → f i < m) → (∀ i j, i < n → j < n → f i = f j → i = j) → n ≤ m := by
  intro n
  induction n with
  | zero => intro m f _ _; omega
  | succ n ih =>
    intro m f h1 h2
    have hm := h1 n (by omega)
    have := ih (m - 1) (fun i => if f n < f i then f i - 1 else f i) (fun i hi => ?_) (fun i j hi hj e => ?_)
    · omega
    · have := h1 i (by omega)
      have : f i ≠ f n := fun q => by have := h2 i n (by omega) (by omega) q; omega
      try simp only
      split <;> omega
    · have q1 : f i ≠ f n := fun q => by have := h2 i n (by omega) (by omega) q; omega
      have q2 : f j ≠ f n := fun q => by have := h2 j n (by omega) (by omega) q; omega
      try simp only at e
      apply h2 i j (by omega) (by omega)
      split at e <;> split at e <;> omega
theorem php_onto {n k : Nat} {f : Nat → Nat} (hk : k < n) (h1 : ∀ i, i < n → f i < n) (h2 : ∀ i j, i < n → j < n → f i = f j → i = j) : ∃ i, i < n ∧ f i = k := by
  apply Classical.byContradiction
  intro hc
  have hne : ∀ i, i < n → f i ≠ k := fun i hi q => hc ⟨i, hi, q⟩
  have := php n (n - 1) (fun i => if k < f i then f i - 1 else f i) (fun i hi => ?_) (fun i j hi hj e => ?_)
  · omega
  · have := h1 i hi
    have := hne i hi
    try simp only
    split <;> omega
  · have q1 := hne i hi
    have q2 := hne j hj
    try simp only at e
    apply h2 i j hi hj
    split at e <;> split at e <;> omega
theorem sm_le {f g : Nat → Int} {n : Nat} (h : ∀ i, i < n → f i ≤ g i) : sm f n ≤ sm g n := by
  induction n with
  | zero => exact Int.le_refl _
  | succ n ih => simp only [sm]; have := ih (fun i hi => h i (by omega)); have := h n (by omega); omega
theorem sm_lt {f g : Nat → Int} {n k : Nat} (hk : k < n) (h : ∀ i, i < n → f i ≤ g i) (hl : f k < g k) : sm f n < sm g n := by
  induction n with
  | zero => omega
  | succ n ih =>
    simp only [sm]
    rcases Nat.lt_or_ge k n with q | q
    · have := ih q (fun i hi => h i (by omega)); have := h n (by omega); omega
    · have : k = n := by omega
      subst this
      have := sm_le (f := f) (g := g) (n := k) (fun i hi => h i (by omega))
      omega
theorem sm_one (n : Nat) : sm (fun _ => 1) n = n := by
  induction n with
  | zero => rfl
  | succ n ih => simp only [sm, ih]; omega
theorem ahd_ir (V : Nat → Int) (p : Nat) : ahd V p p = false := by unfold ahd; simp
theorem sRk_lt {V : Nat → Int} (hV : VOK V) {p : Nat} (hp : (p : Int) < V 0) : sRk V p < V 0 := by
  have h0 := hV.1
  have := sm_lt (f := fun q => if ahd V p q then (1 : Int) else 0) (g := fun _ => 1) (n := (V 0).toNat) (k := p) (by omega) (fun i _ => by split <;> omega) (by simp only [ahd_ir]; decide)
  rw [sm_one] at this
  unfold sRk
  omega
theorem sRk_mono {V : Nat → Int} {p q : Nat} (hp : (p : Int) < V 0) (h : ahd V q p = true) : sRk V p < sRk V q := by
  unfold sRk
  refine sm_lt (k := p) (by omega) (fun i _ => ?_) (by simp only [ahd_ir, h]; decide)
  try simp only
  by_cases w : ahd V p i = true
  · have : ahd V q i = true := by
      unfold ahd at *
      simp only [decide_eq_true_eq] at *
      omega
    rw [if_pos w, if_pos this]
    omega
  · rw [if_neg w]
    split <;> omega
theorem sRk_inj {V : Nat → Int} {p q : Nat} (hp : (p : Int) < V 0) (hq : (q : Int) < V 0) (h : sRk V p = sRk V q) : p = q := by
  apply Classical.byContradiction
  intro w
  have : ahd V p q = true ∨ ahd V q p = true := by
    unfold ahd
    simp only [decide_eq_true_eq]
    omega
  rcases this with r | r
  · have := sRk_mono hq r; omega
  · have := sRk_mono hp r; omega
theorem sRk_onto {V : Nat → Int} (hV : VOK V) {k : Int} (hk : 0 ≤ k ∧ k < V 0) : ∃ p : Nat, (p : Int) < V 0 ∧ sRk V p = k ∧ ∀ j : Nat, j < p → sRk V j ≠ k := by
  have h0 := hV.1
  obtain ⟨i, h1, h2⟩ := php_onto (n := (V 0).toNat) (k := k.toNat) (f := fun p => (sRk V p).toNat) (by omega) (fun i hi => by have := sRk_lt hV (p := i) (by omega); have := sRk_rng hV i; omega) (fun i j hi hj e => sRk_inj (V := V) (by omega) (by omega) (by have := sRk_rng hV i; have := sRk_rng hV j; (try simp only at e); omega))
  have := sRk_rng hV i
  refine ⟨i, by omega, by omega, fun j hj e => ?_⟩
  have := sRk_inj (V := V) (p := j) (q := i) (by omega) (by omega) (by omega)
  omega
def sKnd (V : Nat → Int) (x : Int) : Int := if x = 0 then sm (fun p => if sKO V p p = 0 then 1 else 0) (V 0).toNat else if x = 1 then mxs (fun p => sKO V p (V 0).toNat) (V 0).toNat else if x = 2 then sTri V else if 10 ≤ x ∧ x - 10 < V 0 then ff (fun p => decide (sRk V p = x - 10)) (V 0).toNat else -2
theorem c_ranked {h : AH} {V : Nat → Int} (hV : VOK V) (hT : TB h V (fun a b => sBOA V a b)) (k : Int) (hk : 0 ≤ k ∧ k < V 0) : f1_ranked k h = some (ff (fun p => decide (sRk V p = k)) (V 0).toNat, h) := by
  have h0 := hV.1
  obtain ⟨p, p1, p2, p3⟩ := sRk_onto hV hk
  rw [ff_hit (i := p) (by omega) (fun j hj => by simp [p3 j hj]) (by simp [p2])]
  unfold f1_ranked l1_ranked_2
  refine loop1 p h (fun i hi rec => ?_) (fun rec => ?_) (by omega)
  · have r := sRk_rng hV i
    unfold b1_ranked_2
    dsimp only
    rw [hT.1, w32_id (x := V 0) (by omega) (by omega), w32_id (x := (i : Int)) (by omega) (by omega), if_neg (by omega), c_ahead hV hT i (by omega), bnd_some, w32_id (x := sRk V i) (by omega) (by omega), w32_id (x := k) (by omega) (by omega), if_pos (p3 i hi)]
  · unfold b1_ranked_2
    dsimp only
    rw [hT.1, w32_id (x := V 0) (by omega) (by omega), w32_id (x := (p : Int)) (by omega) (by omega), if_neg (by omega), c_ahead hV hT p (by omega), bnd_some, p2, if_neg (by omega)]
theorem m_kindred {h : AH} {V : Nat → Int} (hV : VOK V) (hm : VM h.2 V) (x : Int) (hx : Rg x) (hx0 : 0 ≤ x) : l11_kindred_23 x 0 0 0 h = some (sKnd V x, h) := by
  have hx9 : -2147483648 ≤ x ∧ x < 2147483648 := hx
  have h0 := hV.1
  unfold l11_kindred_23
  refine loop3 (fun i => (sm (fun p => if sKO V p p = 0 then 1 else 0) i, mxs (fun p => sKO V p (V 0).toNat) i)) (V 0).toNat h (fun i hi rec => ?_) (fun rec => ?_) (by omega)
  · have r := sKO_rng V (i : Int) (n := i) (by omega)
    have r2 := sKO_rng V (i : Int) (n := (V 0).toNat) (by omega)
    have r3 := mxs_rng (f := fun p : Nat => sKO V p (V 0).toNat) (n := i) (hi := 8) (by omega) (fun j _ => (sKO_rng V (j : Int) (by omega)).2)
    have e : f11_kinOf (i : Int) (V 0) h = some (sKO V (i : Int) (V 0).toNat, h) := by
      have := m_kinOf hV hm (i : Int) (by omega) (V 0).toNat (by omega)
      rw [show ((V 0).toNat : Int) = V 0 by omega] at this
      exact this
    unfold b11_kindred_23 b11_kindred_49 b11_kindred_81
    dsimp only
    rw [vm_P hm, w32_id (x := V 0) (by omega) (by omega), w32_id (x := (i : Int)) (by omega) (by omega), if_neg (by omega), m_kinOf hV hm i (by omega) i (by omega), bnd_some, w32_id (x := sKO V (i : Int) i) (by omega) (by omega)]
    simp only [lt_eq, vm_P hm, e, bnd_some]
    rw [w32_id (x := sKO V (i : Int) (V 0).toNat) (by omega) (by omega), w32_id (x := mxs (fun p : Nat => sKO V p (V 0).toNat) i) (by omega) (by omega)]
    simp only [sm, mxs, mx]
    repeat' split
    all_goals first | rfl | omega
  · unfold b11_kindred_23
    dsimp only
    rw [vm_P hm, w32_id (x := V 0) (by omega) (by omega), w32_id (x := ((V 0).toNat : Int)) (by omega) (by omega), if_pos (by omega), w32_id hx.1 hx.2]
    unfold sKnd
    by_cases d0 : x = 0
    · rw [if_pos d0, if_pos d0]
    rw [if_neg d0, if_neg d0]
    by_cases d1 : x = 1
    · rw [if_pos d1, if_pos d1]
    rw [if_neg d1, if_neg d1]
    by_cases d2 : x = 2
    · rw [if_pos d2, if_pos d2, m_trios hV hm, bnd_some]
    rw [if_neg d2, if_neg d2]
    unfold l11_kindred_129
    by_cases d3 : 10 ≤ x ∧ x - 10 < V 0
    · rw [if_pos d3]
      obtain ⟨p, p1, p2, p3⟩ := sRk_onto hV (k := x - 10) (by omega)
      rw [ff_hit (i := p) (by omega) (fun j hj => by simp [p3 j hj]) (by simp [p2])]
      refine loop1 p h (fun i hi rec => ?_) (fun rec => ?_) (by omega)
      · have r := sRk_rng hV i
        unfold b11_kindred_129 b11_kindred_160
        dsimp only
        rw [vm_P hm, w32_id (x := V 0) (by omega) (by omega), w32_id (x := (i : Int)) (by omega) (by omega), if_neg (by omega), w32_id hx.1 hx.2, if_neg (by omega), m_rank hV hm i (by omega), bnd_some, w32_id (x := sRk V i) (by omega) (by omega), w32_id (x := (x - 10)) (by omega) (by omega), if_pos (p3 i hi)]
      · unfold b11_kindred_129
        dsimp only
        rw [vm_P hm, w32_id (x := V 0) (by omega) (by omega), w32_id (x := (p : Int)) (by omega) (by omega), if_neg (by omega), w32_id hx.1 hx.2, if_neg (by omega), m_rank hV hm p (by omega), bnd_some, p2, if_neg (by omega)]
    · rw [if_neg d3]
      refine loop1 (V 0).toNat h (fun i hi rec => ?_) (fun rec => ?_) (by omega)
      · have r := sRk_rng hV i
        have r2 := sRk_lt hV (p := i) (by omega)
        unfold b11_kindred_129 b11_kindred_160
        dsimp only
        rw [vm_P hm, w32_id (x := V 0) (by omega) (by omega), w32_id (x := (i : Int)) (by omega) (by omega), if_neg (by omega), w32_id hx.1 hx.2, m_rank hV hm i (by omega), bnd_some, w32_id (x := sRk V i) (by omega) (by omega), w32_id (x := (x - 10)) (by omega) (by omega)]
        repeat' split
        all_goals first | rfl | omega
      · unfold b11_kindred_129
        dsimp only
        rw [vm_P hm, w32_id (x := V 0) (by omega) (by omega), w32_id (x := ((V 0).toNat : Int)) (by omega) (by omega), if_pos (by omega)]
theorem q_kindred {x1 x2 : Int} (hx1 : Rg x1) (hx2 : Rg x2) : Agr (f10_kindred x1 x2) (f11_kindred x1 x2) := by
  have hx9 : -2147483648 ≤ x2 ∧ x2 < 2147483648 := hx2
  refine agr_v hx1 (fun h e => ⟨-2, ?_, fun e2 => ?_⟩) (fun h v V hV hc h7 h17 e => ?_)
  · unfold f10_kindred
    simp (disch := omega) only [w32_id, w32_0, w32_1, w32_m, if_pos, if_neg, bnd_some, lt_eq, asrt_t, ite10_0, ite10_or, e]
  · unfold f11_kindred
    rw [e2, bnd_some, ite_w0]
  · have h0 := hV.1
    have hB : ∀ h1 hs : AH, f11_isVillage x1 h1 = some (1, hs) → VM hs.2 V → ∃ h2 : AH, f11_kindred x1 x2 h1 = some (sKnd V x2, h2) ∧ PK hs h2 := fun h1 hs e1 hm => ⟨hs, by
      unfold f11_kindred
      rw [e1, bnd_some, ite_w1, w32_id hx2.1 hx2.2]
      by_cases q : 0 ≤ x2
      · rw [if_pos q, m_kindred hV hm x2 hx2 q]
      · rw [if_neg q]
        unfold sKnd
        rw [if_neg (by omega), if_neg (by omega), if_neg (by omega), if_neg (by omega)], PK.rf hs⟩
    have hA : ∃ h1, f10_kindred x1 x2 h = some (sKnd V x2, h1) ∧ PK h h1 := by
      unfold f10_kindred sKnd
      rw [e, bnd_some, if_neg (by omega), Int.toNat_natCast, w32_id hx2.1 hx2.2]
      by_cases d0 : x2 = 0
      · rw [if_pos d0, if_pos d0, c_kins hV hc, bnd_some]; exact ⟨h, rfl, PK.rf h⟩
      rw [if_neg d0, if_neg d0]
      by_cases d1 : x2 = 1
      · rw [if_pos d1, if_pos d1, c_largest hV hc, bnd_some]; exact ⟨h, rfl, PK.rf h⟩
      rw [if_neg d1, if_neg d1]
      by_cases d2 : x2 = 2
      · obtain ⟨h1, k1, k2, k3, k4⟩ := c_gatherCh hV hc (by omega)
        rw [if_pos d2, if_pos d2, k1, bnd_some, c_trios hV k3 k4, bnd_some]; exact ⟨h1, rfl, k2.pk (fun a k q => by omega)⟩
      rw [if_neg d2, if_neg d2]
      by_cases d3 : x2 < 10
      · rw [if_pos d3, if_neg (by omega)]; exact ⟨h, rfl, PK.rf h⟩
      rw [if_neg d3, v_hasP hV hc, bnd_some, w32_id (x := (x2 - 10)) (by omega) (by omega)]
      simp only [ite10_0]
      by_cases d4 : x2 - 10 < V 0
      · obtain ⟨h1, k1, k2, k3⟩ := c_gathT hV hc (by omega)
        rw [if_pos (by omega), if_pos (by omega), k1, bnd_some, c_ranked hV k3 (x2 - 10) (by omega), bnd_some]
        exact ⟨h1, rfl, k2.pk (fun a k q => by unfold kB at q; omega)⟩
      · rw [if_neg (by omega), if_neg (by omega)]; exact ⟨h, rfl, PK.rf h⟩
    obtain ⟨h1, a1, a2⟩ := hA
    exact ⟨sKnd V x2, h1, a1, a2, fun hs e1 hm => hB h1 hs e1 hm⟩
