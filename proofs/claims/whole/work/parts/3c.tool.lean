/-! tools for loops that change the heap -/
theorem wh {α : Type} {F : (α → Option (Int × AH)) → α → Option (Int × AH)} (p : Nat → α → Prop) (Q : Option (Int × AH) → Prop) (hs : ∀ n z, p n z → ∀ rec : α → Option (Int × AH), Q (F rec z) ∨ ∃ m z', m < n ∧ p m z' ∧ F rec z = rec z') : ∀ (k n : Nat) (z : α), p n z → n < k → Q (fx F k z) := by
  intro k
  induction k with
  | zero => intro n z _ h; omega
  | succ k ih =>
    intro n z hp hk
    rw [fx_succ]
    rcases hs n z hp (fx F k) with h | ⟨m, z', h1, h2, h3⟩
    · exact h
    · rw [h3]; exact ih m z' h2 (by omega)
theorem fr {α σ : Type} {F : (α → Option (Int × AH)) → α → Option (Int × AH)} (Q : Option (Int × AH) → Prop) (mk : σ → Int → α) (I : Nat → σ → Prop) (lo N : Nat) (s : σ) (h0 : I lo s) (hle : lo ≤ N) (hN : N < 1000000)
  (hs : ∀ i s, lo ≤ i → i < N → I i s → ∀ rec : α → Option (Int × AH), Q (F rec (mk s (i : Int))) ∨ ∃ s', I (i + 1) s' ∧ F rec (mk s (i : Int)) = rec (mk s' ((i : Int) + 1)))
  (he : ∀ s, I N s → ∀ rec : α → Option (Int × AH), Q (F rec (mk s (N : Int)))) : Q (fx F FU (mk s (lo : Int))) := by
  refine wh (fun n z => ∃ i s, n = N - i ∧ lo ≤ i ∧ i ≤ N ∧ I i s ∧ z = mk s (i : Int)) Q (fun n z hp rec => ?_) FU (N - lo) _ ⟨lo, s, rfl, Nat.le_refl _, hle, h0, rfl⟩ (FU_big (by omega))
  obtain ⟨i, s, h1, h2, h3, h4, rfl⟩ := hp
  rcases Nat.lt_or_ge i N with q | q
  · rcases hs i s h2 q h4 rec with h | ⟨s', h5, h6⟩
    · exact Or.inl h
    · exact Or.inr ⟨N - (i + 1), _, by omega, ⟨i + 1, s', rfl, by omega, by omega, h5, rfl⟩, h6⟩
  · have : i = N := by omega
    subst this
    exact Or.inl (he s h4 rec)
def Ky (P : Nat → Nat → Prop) (h h1 : AH) : Prop := h1.1 = h.1 ∧ ∀ a k, ¬ P a k → h1.2 a k = h.2 a k
section KyS
variable {P Q : Nat → Nat → Prop} {h h1 h2 : AH} {a k v : Nat} {x : Int} {V : Nat → Int}
theorem Ky.rf (h : AH) : Ky P h h := ⟨rfl, fun _ _ _ => rfl⟩
theorem Ky.tr (a : Ky P h h1) (b : Ky P h1 h2) : Ky P h h2 := ⟨b.1.trans a.1, fun q k hq => (b.2 q k hq).trans (a.2 q k hq)⟩
theorem Ky.w1 (hp : P a k) : Ky P h (wr h a k x) := ⟨rfl, fun b j hb => by rw [wr_2, if_neg (fun q => hb (by rw [q.1, q.2]; exact hp))]⟩
theorem Ky.w2 (c : Ky P h h1) (hp : P a k) : Ky P h (wr h1 a k x) := c.tr (Ky.w1 hp)
theorem Ky.mono (c : Ky P h h1) (hpq : ∀ a k, P a k → Q a k) : Ky Q h h1 := ⟨c.1, fun a k hq => c.2 a k (fun q => hq (hpq a k q))⟩
theorem Ky.vc (c : Ky P h h1) (hp : ∀ a k, v ≤ a → a ≤ v + 5 → ¬ P a k) (hc : VC h.2 v V) : VC h1.2 v V := by
  obtain ⟨c0, c1, c2, c3, c4, c5, c6⟩ := hc
  have e := fun a k h1 h2 => c.2 a k (hp a k h1 h2)
  exact ⟨(e _ _ (by omega) (by omega)).trans c0, (e _ _ (by omega) (by omega)).trans c1, (e _ _ (by omega) (by omega)).trans c2, (e _ _ (by omega) (by omega)).trans c3, fun s hs => ⟨(e _ _ (by omega) (by omega)).trans (c4 s hs).1, (e _ _ (by omega) (by omega)).trans (c4 s hs).2⟩, fun s hs => ⟨(e _ _ (by omega) (by omega)).trans (c5 s hs).1, (e _ _ (by omega) (by omega)).trans (c5 s hs).2⟩, fun q hq => (e _ _ (by omega) (by omega)).trans (c6 q hq)⟩
theorem Ky.vm (c : Ky P h h1) (hp : ∀ k, 12 ≤ k → k ≤ 15 → ¬ P 69 k) (hp2 : ∀ k, ¬ P 70 k) (hm : VM h.2 V) : VM h1.2 V := by
  obtain ⟨o, m0, m1, m2, m3, m4, m5⟩ := hm
  exact ⟨o, m0, (c.2 69 12 (hp 12 (by omega) (by omega))).trans m1, (c.2 69 13 (hp 13 (by omega) (by omega))).trans m2, (c.2 69 14 (hp 14 (by omega) (by omega))).trans m3, (c.2 69 15 (hp 15 (by omega) (by omega))).trans m4, fun j hj => (c.2 70 _ (hp2 _)).trans (m5 j hj)⟩
theorem Ky.pk (c : Ky P h h1) (hp : ∀ a k, P a k → (27 < a ∧ a < 93) ∧ a ≠ 70 ∧ a ≠ 71 ∧ ¬ (a = 35 ∧ k < 2) ∧ ¬ (a = 37 ∧ k < 2)) : PK h h1 :=
  ⟨c.1, fun a ha => funext fun k => c.2 a k (fun q => by have := hp a k q; omega), ⟨c.2 _ _ (fun q => by have := hp _ _ q; omega), c.2 _ _ (fun q => by have := hp _ _ q; omega)⟩, c.2 _ _ (fun q => by have := hp _ _ q; omega), c.2 _ _ (fun q => by have := hp _ _ q; omega)⟩
end KyS
theorem wr_e {h : AH} {a k : Nat} {x : Int} {b j : Nat} (hb : ¬ (b = a ∧ j = k)) : (wr h a k x).2 b j = h.2 b j := by rw [wr_2, if_neg hb]
/-- for all below n -/
def al (f : Nat → Bool) : Nat → Bool
  | 0 => true
  | n + 1 => al f n && f n
theorem al_iff {f : Nat → Bool} {n : Nat} : al f n = true ↔ ∀ i, i < n → f i = true := by
  induction n with
  | zero => simp [al]
  | succ n ih =>
    simp only [al, Bool.and_eq_true, ih]
    constructor
    · intro h i hi
      rcases Nat.lt_or_ge i n with q | q
      · exact h.1 i q
      · rw [show i = n by omega]; exact h.2
    · intro h
      exact ⟨fun i hi => h i (by omega), h n (by omega)⟩
theorem al_no {f : Nat → Bool} {n i : Nat} (hi : i < n) (h : f i = false) : al f n = false := by
  cases q : al f n
  · rfl
  · have := al_iff.mp q i hi
    rw [h] at this; cases this
def mxs (f : Nat → Int) : Nat → Int
  | 0 => 0
  | n + 1 => mx (mxs f n) (f n)
theorem mxs_rng {f : Nat → Int} {n : Nat} {hi : Int} (h0 : 0 ≤ hi) (h : ∀ i, i < n → f i ≤ hi) : 0 ≤ mxs f n ∧ mxs f n ≤ hi := by
  induction n with
  | zero => exact ⟨Int.le_refl _, h0⟩
  | succ n ih =>
    have h1 := ih (fun i hi => h i (by omega))
    have h2 := h n (by omega)
    simp only [mxs, mx]
    split <;> omega
theorem sm_cong {f g : Nat → Int} {n : Nat} (h : ∀ i, i < n → f i = g i) : sm f n = sm g n := by
  induction n with
  | zero => rfl
  | succ n ih => simp only [sm]; rw [ih (fun i hi => h i (by omega)), h n (by omega)]
theorem sm_zero {f : Nat → Int} {n : Nat} (h : ∀ i, i < n → f i = 0) : sm f n = 0 := by
  induction n with
  | zero => rfl
  | succ n ih => simp only [sm]; rw [ih (fun i hi => h i (by omega)), h n (by omega)]; rfl
theorem sm_shift (g : Nat → Int) (k m : Nat) : sm (fun i => g (k + i)) m + sm g k = sm g (k + m) := by
  induction m with
  | zero => simp [sm]
  | succ m ih =>
    have e : sm g (k + (m + 1)) = sm g (k + m) + g (k + m) := rfl
    rw [e]
    simp only [sm]
    omega
theorem or_bs1 {f : Nat → Bool} {i : Nat} (hi : i < 30) (hf : f i = true) : or32 (bs f i : Int) (shl32 1 i) = (bs f (i + 1) : Int) := by
  rw [shl32_1 (by omega), or32_nat (bs_lt31 f (by omega)) (pow_lt31 (by omega))]
  simp only [bs, hf, if_true]
theorem or_bs0 {f : Nat → Bool} {i : Nat} (hi : i < 30) (hf : f i = false) : or32 (bs f i : Int) 0 = (bs f (i + 1) : Int) := by
  rw [show (0 : Int) = ((0 : Nat) : Int) from rfl, or32_nat (bs_lt31 f (by omega)) (by omega)]
  simp only [bs, hf]
  simp
theorem bst_pos {f : Nat → Int} {n : Nat} : 0 < (bst f n).2 ↔ ∃ i, i < n ∧ 0 < f i := by
  induction n with
  | zero => simp [bst]
  | succ n ih =>
    have h0 : 0 ≤ (bst f n).2 := by
      clear ih
      induction n with
      | zero => simp [bst]
      | succ n ih => simp only [bst]; split <;> (try simp only) <;> omega
    simp only [bst]
    constructor
    · intro h
      split at h
      · exact ⟨n, by omega, by omega⟩
      · obtain ⟨i, h1, h2⟩ := ih.mp h
        exact ⟨i, by omega, h2⟩
    · intro ⟨i, h1, h2⟩
      split
      · simp only; omega
      · rcases Nat.lt_or_ge i n with q | q
        · exact ih.mpr ⟨i, q, h2⟩
        · rw [show i = n by omega] at h2; omega
/-- two are apart on a subject -/
def sAp (V : Nat → Int) (a b : Int) : Bool := decide (0 < (sHot V a b).2)
theorem sBurn_pos {V : Nat → Int} (hV : VOK V) {a b s : Int} (hs : 0 ≤ s ∧ s < V 1) : 0 < sBurn V a b s ↔ 0 < sGap V a b s := by
  have h1 := (hV.2.2.2.2.1 s.toNat (by omega)).1
  unfold sBurn
  rw [sHeat_in (V := V) hs]
  unfold mx
  split
  · rename_i q
    exact ⟨fun _ => q, fun q => Int.mul_pos q (by omega)⟩
  · rw [Int.zero_mul]
    omega
theorem sAp_iff {V : Nat → Int} (hV : VOK V) {a b : Int} : sAp V a b = true ↔ ∃ s : Nat, (s : Int) < V 1 ∧ 0 < sGap V a b s := by
  unfold sAp sHot
  rw [decide_eq_true_iff, bst_pos]
  constructor
  · intro ⟨i, h1, h2⟩
    exact ⟨i, by omega, (sBurn_pos hV (by omega)).mp h2⟩
  · intro ⟨i, h1, h2⟩
    exact ⟨i, by omega, (sBurn_pos hV (by omega)).mpr h2⟩
theorem sGap_self (V : Nat → Int) (a s : Int) : sGap V a a s = -1 := by unfold sGap; rw [if_pos rfl]
theorem sAp_self {V : Nat → Int} (hV : VOK V) (a : Int) : sAp V a a = false := by
  cases q : sAp V a a
  · rfl
  · obtain ⟨s, h1, h2⟩ := (sAp_iff hV).mp q
    rw [sGap_self] at h2
    omega
theorem sGap_comm (V : Nat → Int) (a b s : Int) : sGap V a b s = sGap V b a s := by
  unfold sGap
  repeat' split
  all_goals first | rfl | omega
theorem c_apAny {h : AH} {v : Nat} {V : Nat → Int} (hV : VOK V) (hc : VC h.2 v V) (a b : Int) : f0_apartOnAny v a b h = some (if sAp V (w32 a) (w32 b) then 1 else 0, h) := by
  have h1 := hV.2.1
  unfold f0_apartOnAny l0_apartOnAny_2
  refine fr (fun X => X = some (if sAp V (w32 a) (w32 b) then 1 else 0, h)) (fun (_ : Unit) i => (i, h)) (fun i _ => ∀ j : Nat, j < i → sGap V (w32 a) (w32 b) j ≤ 0) 0 (V 1).toNat () (fun j hj => by omega) (by omega) (by omega) (fun i _ _ hi hI rec => ?_) (fun _ hI rec => ?_)
  · have r := sGap_rng hV (w32 a) (w32 b) (i : Int)
    unfold b0_apartOnAny_2
    dsimp only
    rw [hc.2.1, w32_id (x := V 1) (by omega) (by omega), v_gap hV hc, bnd_some, w32_id (x := (i : Int)) (by omega) (by omega), if_neg (by omega), w32_id (x := sGap V (w32 a) (w32 b) (i : Int)) (by omega) (by omega)]
    by_cases q : sGap V (w32 a) (w32 b) i ≤ 0
    · right
      refine ⟨(), fun j hj => ?_, by rw [if_pos q]⟩
      rcases Nat.lt_or_ge j i with w | w
      · exact hI j w
      · rw [show j = i by omega]; exact q
    · left
      rw [if_neg q, (sAp_iff hV).mpr ⟨i, by omega, by omega⟩]
      rfl
  · unfold b0_apartOnAny_2
    dsimp only
    rw [hc.2.1, w32_id (x := V 1) (by omega) (by omega), w32_id (x := ((V 1).toNat : Int)) (by omega) (by omega), if_pos (by omega)]
    cases q : sAp V (w32 a) (w32 b)
    · rfl
    · obtain ⟨s, q1, q2⟩ := (sAp_iff hV).mp q
      have := hI s (by omega)
      omega
theorem m_keen {h : AH} {V : Nat → Int} (hV : VOK V) (hm : VM h.2 V) (a b : Int) (ha : 0 ≤ a ∧ a < V 0) (hb : 0 ≤ b ∧ b < V 0) (hab : a ≠ b) : f11_keenOf a b h = some ((sHot V a b).2, h) := by
  have h1 := hV.2.1
  unfold f11_keenOf l11_keenOf_5 sHot
  refine loop2 (fun i => (bst (fun s => sBurn V a b s) i).2) (V 1).toNat h (fun i hi rec => ?_) (fun rec => ?_) (by omega)
  · have r1 := bst_rng (f := fun s : Nat => sBurn V a b s) (n := i) (hi := 81) (by omega) (fun j _ => (sBurn_rng hV _ _ _).2)
    have r5 := sBurn_rng hV a b (i : Int)
    unfold b11_keenOf_5 b11_keenOf_38
    dsimp only
    rw [vm_S hm, w32_id (x := V 1) (by omega) (by omega), w32_id (x := (i : Int)) (by omega) (by omega), if_neg (by omega), m_burns hV hm a b i ha hb (by omega) hab, bnd_some, m_burns hV hm a b i ha hb (by omega) hab, bnd_some, w32_id (x := sBurn V a b (i : Int)) (by omega) (by omega), w32_id (x := (bst (fun s : Nat => sBurn V a b s) i).2) (by omega) (by omega)]
    simp only [bst]
    repeat' split
    all_goals first | rfl | omega
  · unfold b11_keenOf_5
    dsimp only
    rw [vm_S hm, w32_id (x := V 1) (by omega) (by omega), w32_id (x := ((V 1).toNat : Int)) (by omega) (by omega), if_pos (by omega)]
theorem sHot_rng {V : Nat → Int} (hV : VOK V) (a b : Int) : 0 ≤ (sHot V a b).2 ∧ (sHot V a b).2 ≤ 81 := (bst_rng (f := fun s : Nat => sBurn V a b s) (hi := 81) (by omega) (fun j _ => (sBurn_rng hV _ _ _).2)).1
theorem m_isAp {h : AH} {V : Nat → Int} (hV : VOK V) (hm : VM h.2 V) (a b : Int) (ha : 0 ≤ a ∧ a < V 0) (hb : 0 ≤ b ∧ b < V 0) : f11_isApart a b h = some (if sAp V a b then 1 else 0, h) := by
  have h0 := hV.1
  unfold f11_isApart
  rw [w32_id (x := a) (by omega) (by omega), w32_id (x := b) (by omega) (by omega)]
  by_cases q : a = b
  · subst q
    rw [if_pos rfl, sAp_self hV]
    rfl
  · have r := sHot_rng hV a b
    rw [if_neg q, m_keen hV hm a b ha hb q, bnd_some, w32_id (x := (sHot V a b).2) (by omega) (by omega)]
    unfold sAp
    simp only [decide_eq_true_eq]
    repeat' split
    all_goals first | rfl | omega
theorem c_gatherCh {h : AH} {v : Nat} {V : Nat → Int} (hV : VOK V) (hc : VC h.2 v V) (hv : v + 5 < 28) : ∃ h1, f0_gather v h = some (0, h1) ∧ Ky (fun a k => a = 65 ∨ (a = 62 ∧ k = 4)) h h1 ∧ h1.2 62 4 = V 0 ∧ ∀ a : Nat, (a : Int) < V 0 → h1.2 65 a = ((bs (fun b => sAp V a b) (V 0).toNat : Nat) : Int) := by
  have h0 := hV.1
  unfold f0_gather l0_gather_10
  rw [lt_eq, hc.1]
  refine fr (fun X => ∃ h1, X = some (0, h1) ∧ Ky (fun a k => a = 65 ∨ (a = 62 ∧ k = 4)) h h1 ∧ h1.2 62 4 = V 0 ∧ ∀ a : Nat, (a : Int) < V 0 → h1.2 65 a = ((bs (fun b => sAp V a b) (V 0).toNat : Nat) : Int)) (fun h1 i => (i, h1)) (fun i h1 => Ky (fun a k => a = 65 ∨ (a = 62 ∧ k = 4)) h h1 ∧ h1.2 62 4 = V 0 ∧ ∀ a : Nat, a < i → h1.2 65 a = ((bs (fun b => sAp V a b) (V 0).toNat : Nat) : Int)) 0 (V 0).toNat (wr h 62 4 (V 0)) ⟨Ky.w1 (by omega), wr_at, fun a ha => by omega⟩ (by omega) (by omega) (fun i h1 _ hi hI rec => ?_) (fun h1 hI rec => ?_)
  · obtain ⟨k1, k2, k3⟩ := hI
    right
    unfold b0_gather_10 l0_gather_27
    dsimp only
    rw [k2, w32_id (x := V 0) (by omega) (by omega), w32_id (x := (i : Int)) (by omega) (by omega), if_neg (by omega), asrt_t (by omega), lt_eq, Int.toNat_natCast]
    refine fr (fun X => ∃ h2, (Ky (fun a k => a = 65 ∨ (a = 62 ∧ k = 4)) h h2 ∧ h2.2 62 4 = V 0 ∧ ∀ a : Nat, a < i + 1 → h2.2 65 a = ((bs (fun b => sAp V a b) (V 0).toNat : Nat) : Int)) ∧ X = rec ((i : Int) + 1, h2)) (fun h2 j => (j, h2)) (fun j h2 => Ky (fun a k => a = 65 ∨ (a = 62 ∧ k = 4)) h h2 ∧ h2.2 62 4 = V 0 ∧ (∀ a : Nat, a < i → h2.2 65 a = ((bs (fun b => sAp V a b) (V 0).toNat : Nat) : Int)) ∧ h2.2 65 i = ((bs (fun b => sAp V i b) j : Nat) : Int)) 0 (V 0).toNat (wr h1 65 i 0) ⟨k1.w2 (by omega), by rw [wr_e (by omega)]; exact k2, fun a ha => by rw [wr_e (by omega)]; exact k3 a ha, wr_at⟩ (by omega) (by omega) (fun j h2 _ hj hJ rec2 => ?_) (fun h2 hJ rec2 => ?_)
    · obtain ⟨q1, q2, q3, q4⟩ := hJ
      have hc2 : VC h2.2 v V := q1.vc (fun a k _ _ => by omega) hc
      right
      unfold b0_gather_27 b0_gather_58
      dsimp only
      rw [q2, w32_id (x := V 0) (by omega) (by omega), w32_id (x := (j : Int)) (by omega) (by omega), if_neg (by omega), w32_id (x := (i : Int)) (by omega) (by omega), asrt_t (by omega), c_apAny hV hc2, bnd_some, w32_id (x := (i : Int)) (by omega) (by omega), w32_id (x := (j : Int)) (by omega) (by omega), Int.toNat_natCast, q4, lt_eq, lt_eq, asrt_t (by omega), asrt_t (by omega)]
      refine ⟨wr h2 65 i ((bs (fun b => sAp V i b) (j + 1) : Nat) : Int), ⟨q1.w2 (by omega), by rw [wr_e (by omega)]; exact q2, fun a ha => by rw [wr_e (by omega)]; exact q3 a ha, wr_at⟩, ?_⟩
      cases q : sAp V i j
      · rw [← or_bs0 (f := fun b => sAp V i b) (by omega) q]; rfl
      · rw [← or_bs1 (f := fun b => sAp V i b) (by omega) q]; rfl
    · obtain ⟨q1, q2, q3, q4⟩ := hJ
      refine ⟨h2, ⟨q1, q2, fun a ha => ?_⟩, ?_⟩
      · rcases Nat.lt_or_ge a i with w | w
        · exact q3 a w
        · rw [show a = i by omega]; exact q4
      · unfold b0_gather_27
        dsimp only
        rw [q2, w32_id (x := V 0) (by omega) (by omega), w32_id (x := ((V 0).toNat : Int)) (by omega) (by omega), if_pos (by omega)]
  · obtain ⟨k1, k2, k3⟩ := hI
    refine ⟨h1, ?_, k1, k2, fun a ha => k3 a (by omega)⟩
    unfold b0_gather_10
    dsimp only
    rw [k2, w32_id (x := V 0) (by omega) (by omega), w32_id (x := ((V 0).toNat : Int)) (by omega) (by omega), if_pos (by omega)]
