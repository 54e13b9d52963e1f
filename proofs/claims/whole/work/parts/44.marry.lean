/-! married: couples by what will last -/
def gMar (V : Nat → Int) (K : Nat → Int) (a b : Nat) (z : Int × Int × Int) : Int × Int × Int := if K a = -1 ∧ K b = -1 ∧ z.1 < sBOA V a b then (sBOA V a b, (a : Int), (b : Int)) else z
def mPr (V : Nat → Int) (K : Nat → Int) : Int × Int × Int := itp (gMar V K) (V 0).toNat (0, -1, -1)
def mSt (V : Nat → Int) (K : Nat → Int) (p : Nat) : Int := if (mPr V K).2.1 = -1 then K p else if (p : Int) = (mPr V K).2.2 then (mPr V K).2.1 else if (p : Int) = (mPr V K).2.1 then (mPr V K).2.2 else K p
def mKs (V : Nat → Int) : Nat → Nat → Int
  | 0 => fun _ => -1
  | i + 1 => mSt V (mKs V i)
def marI (V : Nat → Int) (K : Nat → Int) (z : Int × Int × Int) : Prop := (0 ≤ z.1 ∧ z.1 ≤ 4374) ∧ ((z.2.1 = -1 ∧ z.2.2 = -1) ∨ ((0 ≤ z.2.1 ∧ z.2.1 < V 0) ∧ (0 ≤ z.2.2 ∧ z.2.2 < V 0) ∧ z.2.1 < z.2.2 ∧ K z.2.1.toNat = -1 ∧ K z.2.2.toNat = -1))
theorem gMar_I {V K : Nat → Int} (hV : VOK V) {a b : Nat} (hab : a < b) (hb : b < (V 0).toNat) {z : Int × Int × Int} (hz : marI V K z) : marI V K (gMar V K a b z) := by
  have r := sBOA_rng hV a b
  unfold gMar
  split
  · rename_i c
    refine ⟨by simp only; omega, Or.inr ⟨by simp only; omega, by simp only; omega, by simp only; omega, ?_, ?_⟩⟩
    · simp only [Int.toNat_natCast]; exact c.1
    · simp only [Int.toNat_natCast]; exact c.2.1
  · exact hz
theorem mPr_I {V : Nat → Int} (hV : VOK V) (K : Nat → Int) : marI V K (mPr V K) := by
  unfold mPr itp
  exact itf_inv (lo := 0) (n := (V 0).toNat) (fun _ z => marI V K z) ⟨by simp, Or.inl ⟨rfl, rfl⟩⟩ (fun a z _ ha hz => itf_inv (lo := a + 1) (n := (V 0).toNat - (a + 1)) (fun _ z => marI V K z) hz (fun b z hb1 hb2 hz => gMar_I hV (by omega) (by omega) hz))
theorem mKs_stay {V : Nat → Int} {i : Nat} (h : (mPr V (mKs V i)).2.1 = -1) (j : Nat) : mKs V (i + j) = mKs V i := by
  induction j with
  | zero => rfl
  | succ j ih =>
    show mSt V (mKs V (i + j)) = _
    rw [ih]
    funext p
    unfold mSt
    rw [if_pos h]
theorem fre2 {p q : Nat → Bool} {n a b : Nat} (hab : a < b) (hb : b < n) (ha : p a = true) (hpb : p b = true) (h : ∀ i, i < n → q i = (p i && decide (i ≠ a) && decide (i ≠ b))) : fc q n + 2 = fc p n := by
  have one : ∀ (p q : Nat → Bool) (m c : Nat), c < m → p c = true → (∀ i, i < m → q i = (p i && decide (i ≠ c))) → fc q m + 1 = fc p m := fun p q m c hc hp hq => by
    induction m with
    | zero => omega
    | succ m ih =>
      rcases Nat.lt_or_ge c m with z | z
      · have := ih z (fun i hi => hq i (by omega))
        have e := hq m (by omega)
        rw [decide_eq_true (show m ≠ c by omega), Bool.and_true] at e
        cases y : p m
        · rw [fc_s0 y, fc_s0 (by rw [e]; exact y)]; omega
        · rw [fc_s1 y, fc_s1 (by rw [e]; exact y)]; omega
      · have : c = m := by omega
        subst this
        have e := hq c (by omega)
        rw [decide_eq_false (show ¬ c ≠ c from fun y => y rfl), Bool.and_false] at e
        rw [fc_s1 hp, fc_s0 e, fc_cong (p := q) (q := p) (fun i hi => by rw [hq i (by omega), decide_eq_true (show i ≠ c by omega), Bool.and_true])]
  have h1 := one p (fun i => p i && decide (i ≠ a)) n a (by omega) ha (fun i _ => rfl)
  have h2 := one (fun i => p i && decide (i ≠ a)) q n b hb (by rw [hpb, decide_eq_true (show b ≠ a by omega)]; rfl) h
  omega
theorem mKs_free {V : Nat → Int} (hV : VOK V) (i : Nat) (h : ∀ j, j < i → (mPr V (mKs V j)).2.1 ≠ -1) : fc (fun p => decide (mKs V i p = -1)) (V 0).toNat + 2 * i = (V 0).toNat := by
  induction i with
  | zero =>
    have : ∀ n, fc (fun p => decide (mKs V 0 p = -1)) n = n := fun n => by
      induction n with
      | zero => rfl
      | succ n ih => rw [fc_s1 (decide_eq_true rfl), ih]
    rw [this]; omega
  | succ i ih =>
    have ih := ih (fun j hj => h j (by omega))
    have hs := h i (by omega)
    obtain ⟨-, z | ⟨z1, z2, z3, z4, z5⟩⟩ := mPr_I hV (mKs V i)
    · exact absurd z.1 hs
    · have := fre2 (p := fun p => decide (mKs V i p = -1)) (q := fun p => decide (mKs V (i + 1) p = -1)) (n := (V 0).toNat) (a := (mPr V (mKs V i)).2.1.toNat) (b := (mPr V (mKs V i)).2.2.toNat) (by omega) (by omega) (decide_eq_true z4) (decide_eq_true z5) (fun p hp => by
        have e : mKs V (i + 1) p = mSt V (mKs V i) p := rfl
        rw [e]
        unfold mSt
        rw [if_neg hs]
        by_cases y1 : (p : Int) = (mPr V (mKs V i)).2.2
        · rw [if_pos y1, decide_eq_false hs, decide_eq_false (show ¬ p ≠ (mPr V (mKs V i)).2.2.toNat by omega), Bool.and_false]
        · rw [if_neg y1]
          by_cases y2 : (p : Int) = (mPr V (mKs V i)).2.1
          · rw [if_pos y2, decide_eq_false (show ¬ (mPr V (mKs V i)).2.2 = -1 by omega), decide_eq_false (show ¬ p ≠ (mPr V (mKs V i)).2.1.toNat by omega), Bool.and_false, Bool.false_and]
          · rw [if_neg y2, decide_eq_true (show p ≠ (mPr V (mKs V i)).2.1.toNat by omega), decide_eq_true (show p ≠ (mPr V (mKs V i)).2.2.toNat by omega), Bool.and_true, Bool.and_true])
      omega
section Marry
variable {V K : Nat → Int} {h : AH}
theorem mar_loop (hV : VOK V) {F : (Int × Int × Int × Int × AH → Option (Int × AH)) → Int × Int × Int × Int × AH → Option (Int × AH)} {G : (Int × Int × Int × Int × AH → Option (Int × AH)) → Nat → (Int × Int × Int × Int × AH → Option (Int × AH)) → Int × Int × Int × Int × AH → Option (Int × AH)} {X : Int × Int × Int → Option (Int × AH)} (mk : Int × Int × Int → Int → Int × Int × Int × Int × AH)
  (hF : ∀ (a : Nat) z rec, a < (V 0).toNat → marI V K z → F rec (mk z a) = fx (G rec a) FU (mk z ((a : Int) + 1)))
  (hG : ∀ (a b : Nat) z rec rec2, a < b → b < (V 0).toNat → marI V K z → G rec a rec2 (mk z b) = rec2 (mk (gMar V K a b z) ((b : Int) + 1)))
  (hGe : ∀ (a : Nat) z rec rec2, a < (V 0).toNat → marI V K z → G rec a rec2 (mk z ((V 0).toNat : Int)) = rec (mk z ((a : Int) + 1)))
  (he : ∀ z rec, marI V K z → F rec (mk z ((V 0).toNat : Int)) = X z) : fx F FU (mk (0, -1, -1) 0) = X (mPr V K) := by
  have v0 := hV.1
  unfold mPr itp
  have key := for_run (F := F) mk (fun a s => itf (gMar V K a) (a + 1) ((V 0).toNat - (a + 1)) s) (K := X) (fun _ z => marI V K z) 0 (V 0).toNat (by omega) (by omega) (0, -1, -1) ⟨by simp, Or.inl ⟨rfl, rfl⟩⟩ (fun a z _ ha hz => ⟨itf_inv (lo := a + 1) (n := (V 0).toNat - (a + 1)) (fun _ z => marI V K z) hz (fun b z hb1 hb2 hz => gMar_I hV (by omega) (by omega) hz), fun rec => ?_⟩) (fun z hz rec => he z rec hz)
  · exact key
  · rw [hF a z rec ha hz]
    exact for_run (F := G rec a) mk (gMar V K a) (K := fun z => rec (mk z ((a : Int) + 1))) (fun _ z => marI V K z) (a + 1) (V 0).toNat (by omega) (by omega) z hz (fun b z hb1 hb hz => ⟨gMar_I hV (by omega) hb hz, fun rec2 => hG a b z rec rec2 (by omega) hb hz⟩) (fun z hz rec2 => hGe a z rec rec2 ha hz)
theorem c_keen (hV : VOK V) (hT : TB h V (fun a b => sBOA V a b)) (hK : ∀ p, p < 8 → h.2 51 p = K p) (hr : ∀ p, p < 8 → -1 ≤ K p ∧ K p ≤ 7) : ∃ h1, f1_marryKeenest h = some (if (mPr V K).2.1 = -1 then 0 else 1, h1) ∧ Ky (fun a _ => a = 51) h h1 ∧ ∀ p, p < 8 → h1.2 51 p = mSt V K p := by
  have v0 := hV.1
  have e : f1_marryKeenest h = (if (mPr V K).2.1 = -1 then some (0, h) else some (1, wr (wr h 51 (mPr V K).2.1.toNat (mPr V K).2.2) 51 (mPr V K).2.2.toNat (mPr V K).2.1)) := by
    unfold f1_marryKeenest l1_marryKeenest_9
    refine mar_loop hV (K := K) (F := fun rec z => b1_marryKeenest_9 rec z.1 z.2.1 z.2.2.1 z.2.2.2.1 z.2.2.2.2) (G := fun rec a rec2 z => b1_marryKeenest_24 rec2 rec a z.1 z.2.1 z.2.2.1 z.2.2.2.1 z.2.2.2.2) (X := fun z => if z.2.1 = -1 then some (0, h) else some (1, wr (wr h 51 z.2.1.toNat z.2.2) 51 z.2.2.toNat z.2.1)) (fun z i => (z.2.1, z.2.2, z.1, i, h)) (fun a z rec ha hz => ?_) (fun a b z rec rec2 hab hb hz => ?_) (fun a z rec rec2 ha hz => ?_) (fun z rec hz => ?_)
    · unfold b1_marryKeenest_9 l1_marryKeenest_24
      dsimp only
      rw [hT.1, w32_id (x := V 0) (by omega) (by omega), w32_id (x := (a : Int)) (by omega) (by omega), if_neg (by omega), lt_eq]
    · have r := sBOA_rng hV a b
      have k1 := hr a (by omega)
      have k2 := hr b (by omega)
      obtain ⟨z1, z2⟩ := hz
      have z1 : 0 ≤ z.1 ∧ z.1 ≤ 4374 := z1
      unfold b1_marryKeenest_24 b1_marryKeenest_85
      dsimp only
      rw [hT.1, w32_id (x := V 0) (by omega) (by omega), w32_id (x := (b : Int)) (by omega) (by omega), if_neg (by omega), w32_id (x := ((a : Int) * 8 + b)) (by omega) (by omega), asrt_t (by omega), lt_eq, w32_id (x := (a : Int)) (by omega) (by omega), asrt_t (by omega), asrt_t (by omega), Int.toNat_natCast, Int.toNat_natCast, show ((a : Int) * 8 + b).toNat = 8 * a + b by omega, hT.2 a b (by omega) (by omega) (by omega), hK a (by omega), hK b (by omega), w32_id (x := K a) (by omega) (by omega), w32_id (x := K b) (by omega) (by omega), w32_id (x := sBOA V a b) (by omega) (by omega), w32_id (x := z.1) (by omega) (by omega)]
      clear z2
      unfold gMar
      by_cases c1 : K a = -1
      · rw [if_neg (fun w => w c1)]
        by_cases c2 : K b = -1
        · rw [if_neg (fun w => w c2)]
          by_cases c3 : z.1 < sBOA V a b
          · rw [if_neg (by omega), if_pos ⟨c1, c2, c3⟩]
          · rw [if_pos (by omega), if_neg (fun w => c3 w.2.2)]
        · rw [if_pos c2, if_neg (fun w => c2 w.2.1)]
      · rw [if_pos c1, if_neg (fun w => c1 w.1)]
    · unfold b1_marryKeenest_24
      dsimp only
      rw [hT.1, w32_id (x := V 0) (by omega) (by omega), w32_id (x := ((V 0).toNat : Int)) (by omega) (by omega), if_pos (by omega)]
    · obtain ⟨-, z2⟩ := hz
      unfold b1_marryKeenest_9
      dsimp only
      rw [hT.1, w32_id (x := V 0) (by omega) (by omega), w32_id (x := ((V 0).toNat : Int)) (by omega) (by omega), if_pos (by omega)]
      rcases z2 with ⟨z2, z3⟩ | ⟨z2, z3, z4, -, -⟩
      · rw [z2, if_pos w32_m, if_pos rfl]
      · rw [w32_id (x := z.2.1) (by omega) (by omega), w32_id (x := z.2.2) (by omega) (by omega), if_neg (by omega), if_pos (by omega), asrt_t (by omega), lt_eq, asrt_t (by omega), lt_eq, if_neg (by omega)]
  rw [e]
  obtain ⟨-, z2⟩ := mPr_I hV K
  by_cases c : (mPr V K).2.1 = -1
  · rw [if_pos c, if_pos c]
    refine ⟨h, rfl, Ky.rf h, fun p hp => ?_⟩
    unfold mSt
    rw [if_pos c]; exact hK p hp
  · rw [if_neg c, if_neg c]
    refine ⟨_, rfl, Ky.w2 (P := fun a _ => a = 51) (Ky.w1 rfl) rfl, fun p hp => ?_⟩
    obtain ⟨y1, y2, y3⟩ : (0 ≤ (mPr V K).2.1 ∧ (mPr V K).2.1 < V 0) ∧ (0 ≤ (mPr V K).2.2 ∧ (mPr V K).2.2 < V 0) ∧ (mPr V K).2.1 < (mPr V K).2.2 := by
      rcases z2 with z2 | ⟨z2, z3, z4, -, -⟩
      · exact absurd z2.1 c
      · exact ⟨z2, z3, z4⟩
    clear z2
    unfold mSt
    rw [if_neg c]
    by_cases x1 : (p : Int) = (mPr V K).2.2
    · rw [if_pos x1, show (mPr V K).2.2.toNat = p by omega, wr_at]
    · rw [if_neg x1, wr_e (by omega)]
      by_cases x2 : (p : Int) = (mPr V K).2.1
      · rw [if_pos x2, show (mPr V K).2.1.toNat = p by omega, wr_at]
      · rw [if_neg x2, wr_e (by omega)]; exact hK p hp
theorem m_marries (hV : VOK V) (hm : VM h.2 V) (hK : ∀ p, p < 8 → h.2 78 p = K p) (hr : ∀ p, p < 8 → -1 ≤ K p ∧ K p ≤ 7) : ∃ h1, f11_marries h = some (if (mPr V K).2.1 = -1 then 0 else 1, h1) ∧ Ky (fun a _ => a = 78) h h1 ∧ ∀ p, p < 8 → h1.2 78 p = mSt V K p := by
  have v0 := hV.1
  have e : f11_marries h = (if (mPr V K).2.1 = -1 then some (0, h) else some (1, wr (wr h 78 (mPr V K).2.1.toNat (mPr V K).2.2) 78 (mPr V K).2.2.toNat (mPr V K).2.1)) := by
    unfold f11_marries l11_marries_9
    refine mar_loop hV (K := K) (F := fun rec z => b11_marries_9 rec z.1 z.2.1 z.2.2.1 z.2.2.2.1 z.2.2.2.2) (G := fun rec a rec2 z => b11_marries_24 rec2 rec a z.1 z.2.1 z.2.2.1 z.2.2.2.1 z.2.2.2.2) (X := fun z => if z.2.1 = -1 then some (0, h) else some (1, wr (wr h 78 z.2.1.toNat z.2.2) 78 z.2.2.toNat z.2.1)) (fun z i => (z.1, z.2.1, z.2.2, i, h)) (fun a z rec ha hz => ?_) (fun a b z rec rec2 hab hb hz => ?_) (fun a z rec rec2 ha hz => ?_) (fun z rec hz => ?_)
    · unfold b11_marries_9 l11_marries_24
      dsimp only
      rw [vm_P hm, w32_id (x := V 0) (by omega) (by omega), w32_id (x := (a : Int)) (by omega) (by omega), if_neg (by omega), lt_eq]
    · have r := sBOA_rng hV a b
      have k1 := hr a (by omega)
      have k2 := hr b (by omega)
      obtain ⟨z1, z2⟩ := hz
      have z1 : 0 ≤ z.1 ∧ z.1 ≤ 4374 := z1
      unfold b11_marries_24 b11_marries_85
      dsimp only
      rw [vm_P hm, w32_id (x := V 0) (by omega) (by omega), w32_id (x := (b : Int)) (by omega) (by omega), if_neg (by omega), w32_id (x := (a : Int)) (by omega) (by omega), asrt_t (by omega), asrt_t (by omega), Int.toNat_natCast, Int.toNat_natCast, hK a (by omega), hK b (by omega), w32_id (x := K a) (by omega) (by omega), w32_id (x := K b) (by omega) (by omega), m_tog hV hm a b (by omega) (by omega) (by omega), bnd_some, m_tog hV hm a b (by omega) (by omega) (by omega), bnd_some, w32_id (x := sBOA V a b) (by omega) (by omega), w32_id (x := z.1) (by omega) (by omega)]
      clear z2
      unfold gMar
      by_cases c1 : K a = -1
      · rw [if_neg (fun w => w c1)]
        by_cases c2 : K b = -1
        · rw [if_neg (fun w => w c2)]
          by_cases c3 : z.1 < sBOA V a b
          · rw [if_pos c3, if_pos ⟨c1, c2, c3⟩]
          · rw [if_neg c3, if_neg (fun w => c3 w.2.2)]
        · rw [if_pos c2, if_neg (fun w => c2 w.2.1)]
      · rw [if_pos c1, if_neg (fun w => c1 w.1)]
    · unfold b11_marries_24
      dsimp only
      rw [vm_P hm, w32_id (x := V 0) (by omega) (by omega), w32_id (x := ((V 0).toNat : Int)) (by omega) (by omega), if_pos (by omega)]
    · obtain ⟨-, z2⟩ := hz
      unfold b11_marries_9
      dsimp only
      rw [vm_P hm, w32_id (x := V 0) (by omega) (by omega), w32_id (x := ((V 0).toNat : Int)) (by omega) (by omega), if_pos (by omega)]
      rcases z2 with ⟨z2, z3⟩ | ⟨z2, z3, z4, -, -⟩
      · rw [z2, if_neg (fun y => y w32_m), if_pos rfl]
      · rw [w32_id (x := z.2.1) (by omega) (by omega), w32_id (x := z.2.2) (by omega) (by omega), if_pos (by omega), asrt_t (by omega), lt_eq, asrt_t (by omega), lt_eq, if_neg (by omega)]
  rw [e]
  obtain ⟨-, z2⟩ := mPr_I hV K
  by_cases c : (mPr V K).2.1 = -1
  · rw [if_pos c, if_pos c]
    refine ⟨h, rfl, Ky.rf h, fun p hp => ?_⟩
    unfold mSt
    rw [if_pos c]; exact hK p hp
  · rw [if_neg c, if_neg c]
    refine ⟨_, rfl, Ky.w2 (P := fun a _ => a = 78) (Ky.w1 rfl) rfl, fun p hp => ?_⟩
    obtain ⟨y1, y2, y3⟩ : (0 ≤ (mPr V K).2.1 ∧ (mPr V K).2.1 < V 0) ∧ (0 ≤ (mPr V K).2.2 ∧ (mPr V K).2.2 < V 0) ∧ (mPr V K).2.1 < (mPr V K).2.2 := by
      rcases z2 with z2 | ⟨z2, z3, z4, -, -⟩
      · exact absurd z2.1 c
      · exact ⟨z2, z3, z4⟩
    clear z2
    unfold mSt
    rw [if_neg c]
    by_cases x1 : (p : Int) = (mPr V K).2.2
    · rw [if_pos x1, show (mPr V K).2.2.toNat = p by omega, wr_at]
    · rw [if_neg x1, wr_e (by omega)]
      by_cases x2 : (p : Int) = (mPr V K).2.1
      · rw [if_pos x2, show (mPr V K).2.1.toNat = p by omega, wr_at]
      · rw [if_neg x2, wr_e (by omega)]; exact hK p hp
theorem mKs_rng (hV : VOK V) (i p : Nat) : -1 ≤ mKs V i p ∧ mKs V i p ≤ 7 := by
  have v0 := hV.1
  induction i generalizing p with
  | zero => exact ⟨Int.le_refl _, show (-1 : Int) ≤ 7 by omega⟩
  | succ i ih =>
    show -1 ≤ mSt V (mKs V i) p ∧ mSt V (mKs V i) p ≤ 7
    have r := ih p
    obtain ⟨-, z2⟩ := mPr_I hV (mKs V i)
    unfold mSt
    rcases z2 with z2 | ⟨z2, z3, z4, -, -⟩
    · rw [if_pos z2.1]; exact r
    · repeat' split
      all_goals omega
theorem c_marry (hV : VOK V) (hT : TB h V (fun a b => sBOA V a b)) : ∃ h1, f1_marry h = some (0, h1) ∧ Ky (fun a _ => a = 51) h h1 ∧ ∀ p, p < 8 → h1.2 51 p = mKs V 8 p := by
  unfold f1_marry l1_marry_12
  rw [c_fill 51 8 (-1) _ (by decide) (by omega), bnd_some]
  have f51 : Ky (fun a _ => a = 51) h (fil h 51 (-1) 8) := ⟨rfl, fun a k hk => fil_e (by omega)⟩
  have key := fr (F := fun rec (z : Int × Int × AH) => b1_marry_12 rec z.1 z.2.1 z.2.2) (fun X => ∃ h1, X = some (0, h1) ∧ Ky (fun a _ => a = 51) h h1 ∧ ∀ p, p < 8 → h1.2 51 p = mKs V 8 p) (fun (z : Int × AH) i => (z.1, i, z.2)) (fun i z => Ky (fun a _ => a = 51) h z.2 ∧ (∀ p, p < 8 → z.2.2 51 p = mKs V i p) ∧ ((z.1 = 0 ∧ ∀ p, mKs V i p = mKs V 8 p) ∨ z.1 = 1)) 0 8 (1, fil h 51 (-1) 8) ⟨f51, fun p hp => fil_i hp, Or.inr rfl⟩ (by omega) (by omega) (fun i z _ hi hI rec => ?_) (fun z hI rec => ?_)
  · exact key
  · obtain ⟨z1, z⟩ := z
    obtain ⟨i1, i2, i3⟩ := hI
    simp only at i1 i2 i3
    unfold b1_marry_12
    dsimp only
    rw [w32_id (x := (i : Int)) (by omega) (by omega), if_neg (by omega)]
    rcases i3 with ⟨i3, i4⟩ | i3
    · left
      rw [i3, w32_0, if_pos rfl]
      exact ⟨z, rfl, i1, fun p hp => by rw [i2 p hp]; exact i4 p⟩
    · right
      have hT2 : TB z V (fun a b => sBOA V a b) := ⟨(i1.2 _ _ (by omega)).trans hT.1, fun a b q1 q2 q3 => (i1.2 _ _ (by omega)).trans (hT.2 a b q1 q2 q3)⟩
      obtain ⟨h1, a1, a2, a3⟩ := c_keen hV hT2 i2 (fun p _ => mKs_rng hV i p)
      rw [i3, w32_1, if_neg (by omega), a1, bnd_some]
      refine ⟨(_, h1), ⟨i1.tr a2, a3, ?_⟩, rfl⟩
      by_cases c : (mPr V (mKs V i)).2.1 = -1
      · left
        refine ⟨if_pos c, fun p => ?_⟩
        have e1 := mKs_stay c 1
        have e2 := mKs_stay c (8 - i)
        rw [show i + (8 - i) = 8 by omega] at e2
        rw [e1, e2]
      · exact Or.inr (if_neg c)
  · obtain ⟨z1, z⟩ := z
    obtain ⟨i1, i2, i3⟩ := hI
    simp only at i1 i2 i3
    refine ⟨z, ?_, i1, i2⟩
    unfold b1_marry_12
    dsimp only
    rw [if_pos (by decide)]
theorem m_marry (hV : VOK V) (hm : VM h.2 V) {x : Nat} (hx : x < 8) : ∃ h1, l11_married_36 x 0 h = some (mKs V 8 x, h1) ∧ Ky (fun a _ => a = 78) h h1 := by
  have v0 := hV.1
  unfold l11_married_36
  refine fr (fun X => ∃ h1, X = some (mKs V 8 x, h1) ∧ Ky (fun a _ => a = 78) h h1) (fun (s : AH) i => (i, s)) (fun i w => Ky (fun a _ => a = 78) h w ∧ ∀ j, j < i → w.2 78 j = -1) 0 8 h ⟨Ky.rf h, fun j hj => by omega⟩ (by omega) (by omega) (fun i w _ hi hI rec => ?_) (fun w hI rec => ?_)
  · right
    refine ⟨wr w 78 i (-1), ⟨hI.1.w2 rfl, fun j hj => ?_⟩, ?_⟩
    · by_cases z : j = i
      · subst z; exact wr_at
      · rw [wr_e (by omega)]; exact hI.2 j (by omega)
    · unfold b11_married_36
      dsimp only
      rw [w32_id (x := (i : Int)) (by omega) (by omega), if_neg (by omega), asrt_t (by omega), lt_eq, Int.toNat_natCast]
  · obtain ⟨i1, i2⟩ := hI
    unfold b11_married_36 l11_married_57
    dsimp only
    rw [if_pos (by decide)]
    refine wh (fun m (z : Int × AH) => ∃ i, m = 10 - i ∧ i ≤ 9 ∧ Ky (fun a _ => a = 78) h z.2 ∧ (∀ p, p < 8 → z.2.2 78 p = mKs V i p) ∧ ((z.1 = 0 ∧ ∀ p, mKs V i p = mKs V 8 p) ∨ (z.1 = 1 ∧ ∀ j, j < i → (mPr V (mKs V j)).2.1 ≠ -1))) (fun X => ∃ h1, X = some (mKs V 8 x, h1) ∧ Ky (fun a _ => a = 78) h h1) (fun m z hp rec => ?_) FU 10 (1, w) ⟨0, rfl, by omega, i1, fun p hp => i2 p hp, Or.inr ⟨rfl, fun j hj => by omega⟩⟩ (FU_big (by omega))
    obtain ⟨z1, z⟩ := z
    obtain ⟨i, p1, p2, p3, p4, p5⟩ := hp
    simp only at p3 p4 p5
    unfold b11_married_57
    dsimp only
    rcases p5 with ⟨p5, p6⟩ | ⟨p5, p6⟩
    · left
      rw [p5, w32_0, if_pos rfl, w32_id (x := (x : Int)) (by omega) (by omega), asrt_t (by omega), Int.toNat_natCast, p4 x hx, p6]
      exact ⟨z, rfl, p3⟩
    · right
      have fr := mKs_free hV i p6
      obtain ⟨h1, a1, a2, a3⟩ := m_marries hV (p3.vm (fun k _ _ => by omega) (fun k => by omega) hm) p4 (fun p _ => mKs_rng hV i p)
      rw [p5, w32_1, if_neg (by omega), a1, bnd_some]
      refine ⟨10 - (i + 1), (_, h1), by omega, ⟨i + 1, rfl, by omega, p3.tr a2, a3, ?_⟩, rfl⟩
      by_cases c : (mPr V (mKs V i)).2.1 = -1
      · left
        refine ⟨if_pos c, fun p => ?_⟩
        have e1 := mKs_stay c 1
        have e2 := mKs_stay c (8 - i)
        rw [show i + (8 - i) = 8 by omega] at e2
        rw [e1, e2]
      · refine Or.inr ⟨if_neg c, fun j hj => ?_⟩
        rcases Nat.lt_or_ge j i with y | y
        · exact p6 j y
        · rw [show j = i by omega]; exact c
end Marry
