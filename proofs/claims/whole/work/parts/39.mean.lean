/-! mean -/
theorem sm_nn {f : Nat → Int} (h : ∀ i, 0 ≤ f i) (n : Nat) : 0 ≤ sm f n := by
  induction n with
  | zero => exact Int.le_refl _
  | succ n ih => simp only [sm]; have := h n; omega
theorem sm_ge {f : Nat → Int} {n a : Nat} (h : ∀ i, 0 ≤ f i) (ha : a < n) : f a ≤ sm f n ∧ 0 ≤ sm f n := by
  refine ⟨?_, sm_nn h n⟩
  induction n with
  | zero => omega
  | succ n ih =>
    simp only [sm]
    have h1 := h n
    rcases Nat.lt_or_ge a n with q | q
    · have := ih q
      omega
    · have : a = n := by omega
      subst this
      have := sm_nn h a
      omega
theorem sm_pos {f : Nat → Int} {n : Nat} (h : 0 < sm f n) : ∃ a, a < n ∧ 0 < f a := by
  induction n with
  | zero => simp [sm] at h
  | succ n ih =>
    simp only [sm] at h
    by_cases q : 0 < f n
    · exact ⟨n, by omega, q⟩
    · obtain ⟨a, h1, h2⟩ := ih (by omega)
      exact ⟨a, by omega, h2⟩
theorem hold2 (f : Nat → Prop) (hd : ∀ a, Decidable (f a)) (n : Nat) : sm (fun a => if f a then 1 else 0) n < 2 ↔ ∀ a b : Nat, a < b → b < n → ¬ (f a ∧ f b) := by
  have h0 : ∀ i, (0 : Int) ≤ (fun a => if f a then (1 : Int) else 0) i := fun i => by show (0 : Int) ≤ if f i then 1 else 0; split <;> omega
  induction n with
  | zero => simp [sm]
  | succ n ih =>
    simp only [sm]
    constructor
    · intro h a b hab hb ⟨fa, fb⟩
      have h1 := h0 n
      simp only at h1
      rcases Nat.lt_or_ge b n with q | q
      · exact (ih.mp (by omega)) a b hab q ⟨fa, fb⟩
      · have : b = n := by omega
        subst this
        have h2 := (sm_ge h0 hab).1
        simp only [if_pos fa] at h2
        rw [if_pos fb] at h
        omega
    · intro h
      have h2 := ih.mpr (fun a b hab hb => h a b hab (by omega))
      by_cases q : f n
      · rw [if_pos q]
        by_cases q2 : 0 < sm (fun a => if f a then (1 : Int) else 0) n
        · obtain ⟨a, ha, fa⟩ := sm_pos q2
          exfalso
          refine h a n ha (by omega) ⟨?_, q⟩
          by_cases q3 : f a
          · exact q3
          · simp only [if_neg q3] at fa; omega
        · omega
      · rw [if_neg q]; omega
theorem itp_none {σ : Type} {g : Nat → Nat → σ → σ} {n : Nat} {s : σ} (h : ∀ a b, a < b → b < n → g a b s = s) : itp g n s = s := by
  unfold itp
  refine itf_inv (fun _ z => z = s) rfl (fun a z _ ha q => ?_)
  refine itf_inv (fun _ z => z = s) q (fun b z h1 h2 q => ?_)
  rw [q, h a b (by omega) (by omega)]
theorem itp_pos {σ : Type} {g : Nat → Nat → σ → σ} {n : Nat} {s : σ} (m : σ → Int) (h : ∀ a b z, m z ≤ m (g a b z)) {a b : Nat} (hab : a < b) (hb : b < n) (hp : ∀ z, m z < m (g a b z)) : m s < m (itp g n s) := by
  unfold itp
  have key := itf_inv (g := fun a s => itf (g a) (a + 1) (n - (a + 1)) s) (lo := 0) (n := n) (s := s) (fun i z => m s ≤ m z ∧ (a < i → m s < m z)) ⟨Int.le_refl _, fun q => by omega⟩ (fun i z _ hi q => ?_)
  · exact key.2 (by omega)
  · have k2 := itf_inv (g := g i) (lo := i + 1) (n := n - (i + 1)) (s := z) (fun j w => m z ≤ m w ∧ (i = a → b < j → m z < m w)) ⟨Int.le_refl _, fun q1 q2 => by omega⟩ (fun j w h1 h2 q => ?_)
    · refine ⟨by omega, fun q2 => ?_⟩
      rcases Nat.lt_or_ge a i with q3 | q3
      · have := q.2 q3; omega
      · have := k2.2 (by omega) (by omega); omega
    · have h3 := h i j w
      refine ⟨by omega, fun q1 q2 => ?_⟩
      rcases Nat.lt_or_ge b j with q3 | q3
      · have := q.2 q1 q3; omega
      · have : j = b := by omega
        subst this; subst q1
        have := hp w; omega
def gMean (V : Nat → Int) (s : Int) (a b : Nat) (z : Int × Int) : Int × Int := if sGap V a b s = -1 then z else (z.1 + sBurn V a b s, z.2 + 1)
def sHolders (V : Nat → Int) (s lo hi : Int) : Int := sm (fun a => if lo ≤ sHeld V a s ∧ sHeld V a s ≤ hi then 1 else 0) (V 0).toNat
theorem sHolders_rng {V : Nat → Int} (hV : VOK V) (s lo hi : Int) : 0 ≤ sHolders V s lo hi ∧ sHolders V s lo hi ≤ 8 := by
  have h0 := hV.1
  have := sm_rng (f := fun a : Nat => if lo ≤ sHeld V a s ∧ sHeld V a s ≤ hi then 1 else 0) (n := (V 0).toNat) (lo := 0) (hi := 1) (fun i _ => by split <;> omega)
  unfold sHolders
  omega
theorem m_holders {h : AH} {V : Nat → Int} (hV : VOK V) (hm : VM h.2 V) (s lo hi : Int) (hs : 0 ≤ s ∧ s < V 1) (hlo : Rg lo) (hhi : Rg hi) : f11_holdersOf s lo hi h = some (sHolders V s lo hi, h) := by
  have h0 := hV.1
  have h1 := hV.2.1
  unfold f11_holdersOf l11_holdersOf_6 sHolders
  refine loop2 (fun i => sm (fun a => if lo ≤ sHeld V a s ∧ sHeld V a s ≤ hi then 1 else 0) i) (V 0).toNat h (fun i hi2 rec => ?_) (fun rec => ?_) (by omega)
  · unfold b11_holdersOf_6 b11_holdersOf_37
    dsimp only
    have r6 := sHeld_rng hV (i : Int) s
    have r7 : f11_heldOf (i : Int) s h = some (sHeld V (i : Int) s, h) := by rw [m_held hm i s (by omega) (by omega), sHeld_in (fun _ => trivial) (by omega)]
    rw [vm_P hm, w32_id (x := V 0) (by omega) (by omega), w32_id (x := (i : Int)) (by omega) (by omega), if_neg (by omega), r7, bnd_some, m_isIn, bnd_some]
    simp only [ite10_0, lt_eq]
    rw [w32_id hlo.1 hlo.2, w32_id hhi.1 hhi.2, w32_id (x := sHeld V (i : Int) s) (by omega) (by omega)]
    simp only [sm]
    repeat' split
    all_goals first | rfl | omega
  · unfold b11_holdersOf_6
    dsimp only
    rw [vm_P hm, w32_id (x := V 0) (by omega) (by omega), w32_id (x := ((V 0).toNat : Int)) (by omega) (by omega), if_pos (by omega)]
theorem mean_zero {V : Nat → Int} (hV : VOK V) {s : Int} (hs : 0 ≤ s ∧ s < V 1) : (itp (gMean V s) (V 0).toNat (0, 0)).2 = 0 ↔ sHolders V s 0 9 < 2 := by
  have h0 := hV.1
  unfold sHolders
  rw [hold2]
  have hg : ∀ a b : Nat, a < b → b < (V 0).toNat → (sGap V a b s = -1 ↔ ¬ ((0 ≤ sHeld V a s ∧ sHeld V a s ≤ 9) ∧ (0 ≤ sHeld V b s ∧ sHeld V b s ≤ 9))) := by
    intro a b h1 h2
    have q1 := sHeld_rng hV a s
    have q2 := sHeld_rng hV b s
    unfold sGap
    repeat' split
    all_goals omega
  constructor
  · intro h a b hab hb
    rw [← hg a b hab hb]
    by_cases q : sGap V a b s = -1
    · exact q
    · have := itp_pos (g := gMean V s) (s := (0, 0)) (fun z => z.2) (fun a b z => by unfold gMean; split <;> (try simp only) <;> omega) hab hb (fun z => by unfold gMean; rw [if_neg q]; simp only; omega)
      simp only at this
      omega
  · intro h
    rw [itp_none (fun a b hab hb => by unfold gMean; rw [if_pos ((hg a b hab hb).mpr (h a b hab hb))])]
def mnI (a b : Nat) (z : Int × Int) : Prop := (0 ≤ z.1 ∧ z.1 ≤ 81 * (8 * (a : Int) + b)) ∧ (0 ≤ z.2 ∧ z.2 ≤ 8 * (a : Int) + b)
theorem gMean_rng {V : Nat → Int} (hV : VOK V) (s : Int) (a b : Nat) {q : Nat} {z : Int × Int} (h : mnI q b z) : mnI q (b + 1) (gMean V s a b z) := by
  have := sBurn_rng hV a b s
  unfold gMean mnI at *
  split <;> (try simp only) <;> omega
theorem gMean_rng2 {V : Nat → Int} (hV : VOK V) (s : Int) {n a : Nat} (hn : n ≤ 8) (ha : a < n) {z : Int × Int} (h : mnI a 0 z) : mnI (a + 1) 0 (itf (gMean V s a) (a + 1) (n - (a + 1)) z) := by
  have := itf_inv (g := gMean V s a) (lo := a + 1) (n := n - (a + 1)) (fun i z => mnI a i z) (s := z) (by unfold mnI at *; omega) (fun i s2 _ _ q => gMean_rng hV s a i q)
  unfold mnI at *
  omega
def sMean (V : Nat → Int) (s u : Int) : Int := if 0 ≤ s ∧ s < V 1 then (if (itp (gMean V s) (V 0).toNat (0, 0)).2 = 0 then -1 else if u = 0 then (((itp (gMean V s) (V 0).toNat (0, 0)).1.toNat / Nat.gcd (itp (gMean V s) (V 0).toNat (0, 0)).1.toNat (itp (gMean V s) (V 0).toNat (0, 0)).2.toNat : Nat) : Int) else (((itp (gMean V s) (V 0).toNat (0, 0)).2.toNat / Nat.gcd (itp (gMean V s) (V 0).toNat (0, 0)).1.toNat (itp (gMean V s) (V 0).toNat (0, 0)).2.toNat : Nat) : Int)) else -1
theorem c_mean {h : AH} {v : Nat} {V : Nat → Int} (hV : VOK V) (hc : VC h.2 v V) {x2 x3 : Int} (hx2 : Rg x2) (hx3 : x3 = 0 ∨ x3 = 1) (hC : 0 ≤ x2 ∧ x2 < V 1) : l10_mean_37 x2 x3 v 0 0 0 h = some (sMean V x2 x3, h) := by
  have h0 := hV.1
  have e5 : w32 x3 = x3 := w32_id (by omega) (by omega)
  unfold l10_mean_37 sMean itp
  rw [if_pos hC]
  have key := for_run (F := fun rec (z : Int × Int × Int × AH) => b10_mean_37 rec x2 x3 v z.1 z.2.1 z.2.2.1 z.2.2.2) (fun (z : Int × Int) i => (z.1, z.2, i, h)) (fun a s => itf (gMean V x2 a) (a + 1) ((V 0).toNat - (a + 1)) s) (K := fun z => some (if z.2 = 0 then -1 else if x3 = 0 then ((z.1.toNat / Nat.gcd z.1.toNat z.2.toNat : Nat) : Int) else ((z.2.toNat / Nat.gcd z.1.toNat z.2.toNat : Nat) : Int), h)) (fun a z => mnI a 0 z) 0 (V 0).toNat (by omega) (by omega) (0, 0) (by unfold mnI; simp) (fun a z _ ha hz => ?_) (fun z hz rec => ?_)
  · exact key
  · refine ⟨gMean_rng2 hV x2 (by omega) ha hz, fun rec => ?_⟩
    unfold b10_mean_37 l10_mean_53
    dsimp only
    rw [hc.1, w32_id (x := V 0) (by omega) (by omega), w32_id (x := (a : Int)) (by omega) (by omega), if_neg (by omega), lt_eq]
    have k2 := for_run (F := fun rec53 (z : Int × Int × Int × AH) => b10_mean_53 rec53 rec x2 x3 v a z.1 z.2.1 z.2.2.1 z.2.2.2) (fun (z : Int × Int) i => (z.1, z.2, i, h)) (gMean V x2 a) (K := fun z => rec (z.1, z.2, (a : Int) + 1, h)) (fun b z => mnI a b z) (a + 1) (V 0).toNat (by omega) (by omega) z (by unfold mnI at *; omega) (fun b z _ hb hz => ⟨gMean_rng hV x2 a b hz, fun rec => ?_⟩) (fun z hz rec => ?_)
    · exact k2
    · unfold b10_mean_53 b10_mean_99
      dsimp only
      have r1 := sGap_rng hV a b x2
      have r2 := sBurn_rng hV a b x2
      rw [hc.1, w32_id (x := V 0) (by omega) (by omega), v_gap hV hc, bnd_some, v_burn hV hc, bnd_some, w32_id (x := (a : Int)) (by omega) (by omega), w32_id (x := (b : Int)) (by omega) (by omega), w32_id hx2.1 hx2.2, if_neg (by omega), w32_id (x := sGap V a b x2) (by omega) (by omega), w32_id (x := sBurn V a b x2) (by omega) (by omega), lt_eq, lt_eq]
      unfold gMean
      repeat' split
      all_goals first | rfl | omega
    · unfold b10_mean_53
      dsimp only
      rw [hc.1, w32_id (x := V 0) (by omega) (by omega), w32_id (x := ((V 0).toNat : Int)) (by omega) (by omega), if_pos (by omega)]
  · unfold b10_mean_37
    unfold mnI at hz
    dsimp only
    rw [hc.1, w32_id (x := V 0) (by omega) (by omega), w32_id (x := ((V 0).toNat : Int)) (by omega) (by omega), if_pos (by omega)]
    by_cases q : z.2 = 0
    · rw [if_neg (by rw [cmp64_0 (by omega) (by omega)]; omega), if_pos q]
    · rw [if_pos (by rw [cmp64_0 (by omega) (by omega)]; omega), if_neg q]
      obtain ⟨A, hA⟩ : ∃ A : Nat, z.1 = A := ⟨z.1.toNat, by omega⟩
      obtain ⟨P, hP⟩ : ∃ P : Nat, z.2 = P := ⟨z.2.toNat, by omega⟩
      rw [hA, hP, c_lowest (by omega) (by omega) (by omega) x3 hx3, bnd_some]
      rfl
theorem m_mean {h : AH} {V : Nat → Int} (hV : VOK V) (hm : VM h.2 V) {x2 x3 : Int} (hx3 : x3 = 0 ∨ x3 = 1) (hC : 0 ≤ x2 ∧ x2 < V 1) (h2 : ¬ (itp (gMean V x2) (V 0).toNat (0, 0)).2 = 0) : l11_mean_41 x2 x3 0 0 0 h = some (sMean V x2 x3, h) := by
  have h0 := hV.1
  have e5 : w32 x3 = x3 := w32_id (by omega) (by omega)
  unfold l11_mean_41 sMean
  rw [if_pos hC, if_neg h2]
  have key := for_run (F := fun rec (z : Int × Int × Int × AH) => b11_mean_41 rec x2 x3 z.1 z.2.1 z.2.2.1 z.2.2.2) (fun (z : Int × Int) i => (z.1, z.2, i, h)) (fun a s => itf (gMean V x2 a) (a + 1) ((V 0).toNat - (a + 1)) s) (K := fun z => if z.2 = 0 then b11_mean_126 z.1 0 (if x3 = 0 then z.1 else 0) h else some (if x3 = 0 then ((z.1.toNat / Nat.gcd z.1.toNat z.2.toNat : Nat) : Int) else ((z.2.toNat / Nat.gcd z.1.toNat z.2.toNat : Nat) : Int), h)) (fun a z => mnI a 0 z) 0 (V 0).toNat (by omega) (by omega) (0, 0) (by unfold mnI; simp) (fun a z _ ha hz => ?_) (fun z hz rec => ?_)
  · have k3 : ∀ z : Int × Int, z = itp (gMean V x2) (V 0).toNat (0, 0) → fx (fun rec (z : Int × Int × Int × AH) => b11_mean_41 rec x2 x3 z.1 z.2.1 z.2.2.1 z.2.2.2) FU (0, 0, 0, h) = if z.2 = 0 then b11_mean_126 z.1 0 (if x3 = 0 then z.1 else 0) h else some (if x3 = 0 then ((z.1.toNat / Nat.gcd z.1.toNat z.2.toNat : Nat) : Int) else ((z.2.toNat / Nat.gcd z.1.toNat z.2.toNat : Nat) : Int), h) := fun z hz => by rw [hz]; exact key
    rw [k3 _ rfl, if_neg h2]
  · refine ⟨gMean_rng2 hV x2 (by omega) ha hz, fun rec => ?_⟩
    unfold b11_mean_41 l11_mean_56
    dsimp only
    rw [vm_P hm, w32_id (x := V 0) (by omega) (by omega), w32_id (x := (a : Int)) (by omega) (by omega), if_neg (by omega), lt_eq]
    have k2 := for_run (F := fun rec53 (z : Int × Int × Int × AH) => b11_mean_56 rec53 rec x2 x3 a z.1 z.2.1 z.2.2.1 z.2.2.2) (fun (z : Int × Int) i => (z.1, z.2, i, h)) (gMean V x2 a) (K := fun z => rec (z.1, z.2, (a : Int) + 1, h)) (fun b z => mnI a b z) (a + 1) (V 0).toNat (by omega) (by omega) z (by unfold mnI at *; omega) (fun b z _ hb hz => ⟨gMean_rng hV x2 a b hz, fun rec => ?_⟩) (fun z hz rec => ?_)
    · exact k2
    · unfold b11_mean_56 b11_mean_100
      dsimp only
      have r1 := sGap_rng hV a b x2
      have r2 := sBurn_rng hV a b x2
      have r3 : sGap V a b x2 = -1 → sBurn V a b x2 = 0 := fun q => by unfold sBurn mx; rw [q, if_neg (by decide), Int.zero_mul]
      rw [vm_P hm, w32_id (x := V 0) (by omega) (by omega), w32_id (x := (b : Int)) (by omega) (by omega), if_neg (by omega), m_burns hV hm a b x2 (by omega) (by omega) hC (by omega), bnd_some, lt_eq, m_apart hV hm a b x2 (by omega) (by omega) hC (by omega), bnd_some, w32_id (x := sGap V a b x2) (by omega) (by omega), w32_id (x := sBurn V a b x2) (by omega) (by omega), lt_eq, lt_eq]
      unfold gMean
      by_cases q : sGap V a b x2 = -1
      · rw [if_neg (fun w => w q), if_pos q, r3 q, Int.add_zero, Int.add_zero]
      · rw [if_pos q, if_neg q]
    · unfold b11_mean_56
      dsimp only
      rw [vm_P hm, w32_id (x := V 0) (by omega) (by omega), w32_id (x := ((V 0).toNat : Int)) (by omega) (by omega), if_pos (by omega)]
  · unfold b11_mean_41
    unfold mnI at hz
    dsimp only
    rw [vm_P hm, w32_id (x := V 0) (by omega) (by omega), w32_id (x := ((V 0).toNat : Int)) (by omega) (by omega), if_pos (by omega), e5]
    by_cases q : z.2 = 0
    · rw [if_pos q, q]
      split <;> rfl
    · rw [if_neg q]
      unfold b11_mean_126
      obtain ⟨A, hA⟩ : ∃ A : Nat, z.1 = A := ⟨z.1.toNat, by omega⟩
      obtain ⟨P, hP⟩ : ∃ P : Nat, z.2 = P := ⟨z.2.toNat, by omega⟩
      have hP0 : 0 < P := by omega
      have hg : Nat.gcd A P ≤ P := Nat.le_of_dvd hP0 (Nat.gcd_dvd_right A P)
      have hg0 : 0 < Nat.gcd A P := Nat.gcd_pos_of_pos_right A hP0
      rw [hA, hP, m_common (by omega) (by omega), bnd_some, w64_s (by omega) (by omega), asrt_t (by omega), dv64_nat (by omega) (by omega), bnd_some, w64_s (by omega) (by omega), asrt_t (by omega), dv64_nat (by omega) (by omega), Int.toNat_natCast, Int.toNat_natCast]
      split <;> rfl
theorem q_mean {x1 x2 x3 : Int} (hx1 : Rg x1) (hx2 : Rg x2) (hx3 : x3 = 0 ∨ x3 = 1) : Agr (f10_mean x1 x2 x3) (f11_mean x1 x2 x3) := by
  refine agr_v hx1 (fun h e => ⟨-1, ?_, fun e2 => ?_⟩) (fun h v V hV hc h7 h17 e => ⟨sMean V x2 x3, h, ?_, PK.rf h, fun hs e1 hm => ⟨hs, ?_, PK.rf hs⟩⟩)
  · unfold f10_mean
    simp (disch := omega) only [w32_id, w32_0, w32_1, w32_m, if_pos, if_neg, bnd_some, lt_eq, asrt_t, ite10_0, ite10_or, e]
  · unfold f11_mean
    rw [e2, bnd_some, ite_w0]
  · unfold f10_mean
    rw [e, bnd_some, if_neg (by omega), Int.toNat_natCast, v_hasS hV hc, bnd_some, w32_id hx2.1 hx2.2]
    simp only [ite10_0]
    by_cases hC : 0 ≤ x2 ∧ x2 < V 1
    · rw [if_pos (fun q => q hC), c_mean hV hc hx2 hx3 hC]
    · rw [if_neg (fun q => q hC)]
      unfold sMean
      rw [if_neg hC]
  · unfold f11_mean
    rw [e1, bnd_some, ite_w1, m_isS hV hm, bnd_some, w32_id hx2.1 hx2.2]
    simp only [ite10_0]
    by_cases hC : 0 ≤ x2 ∧ x2 < V 1
    · have r1 := sHolders_rng hV x2 0 9
      rw [if_neg (fun q => q hC), m_holders hV hm x2 0 9 hC (by unfold Rg; omega) (by unfold Rg; omega), bnd_some, w32_id (x := sHolders V x2 0 9) (by omega) (by omega)]
      by_cases q : (itp (gMean V x2) (V 0).toNat (0, 0)).2 = 0
      · have := (mean_zero hV hC).mp q
        rw [if_neg (by omega)]
        unfold sMean
        rw [if_pos hC, if_pos q]
      · have q2 : ¬ sHolders V x2 0 9 < 2 := fun w => q ((mean_zero hV hC).mpr w)
        rw [if_pos (by omega), m_mean hV hm hx3 hC q]
    · rw [if_pos hC]
      unfold sMean
      rw [if_neg hC]
