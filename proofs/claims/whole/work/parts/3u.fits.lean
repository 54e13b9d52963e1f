/-! logs: which subject, behind how many quarrels -/
def LM (m : Nat → Nat → Int) (D : Nat → Int) : Prop := ∃ o : Nat, o + 25 ≤ 4824 ∧ m 69 41 = o ∧ ∀ j, j < 25 → m 70 (o + j) = D j
theorem log_cases {h : AH} (hI : Inv h) {x2 : Int} (hx2 : Rg x2) : (f8_logAt 1 x2 h = some (-1, h) ∧ ∀ hs : AH, PK h hs → f11_isLog x2 hs = some (0, hs)) ∨ ∃ (r : Nat) (D : Nat → Int), f8_logAt 1 x2 h = some ((r : Int), h) ∧ r + 1 < 28 ∧ LOK D ∧ RW h.2 r 3 8 D ∧ ∀ hs : AH, PK h hs → ∃ hs2, f11_isLog x2 hs = some (1, hs2) ∧ LM hs2.2 D ∧ (∀ i k, ¬ (i = 69 ∧ k = 41) → hs2.2 i k = hs.2 i k) ∧ PK hs hs2 := by
  have a1 := c_logAt hI x2
  rw [w32_id hx2.1 hx2.2] at a1
  have a2 := fun hs (k : PK h hs) => m_isL (hI.keep k) x2
  obtain ⟨a3, -, a4⟩ := hI.log
  by_cases c : 0 ≤ x2 ∧ x2 < h.2 70 2
  · right
    rw [if_pos c] at a1
    have a5 := a4 x2.toNat (by omega)
    refine ⟨_, _, a1, by omega, a5.1, a5.2, fun hs k => ?_⟩
    have a6 := a2 hs k
    have e70 : hs.2 70 = h.2 70 := k.2.1 70 (by omega)
    rw [w32_id hx2.1 hx2.2, e70, if_pos c] at a6
    refine ⟨_, a6, ⟨1156 + 25 * x2.toNat, by omega, ?_, fun j hj => ?_⟩, fun i k hi => wr_e hi, wr_PK (by omega)⟩
    · rw [wr_at]; omega
    · rw [wr_e (by omega), e70]; rfl
  · left
    rw [if_neg c] at a1
    refine ⟨a1, fun hs k => ?_⟩
    have a6 := a2 hs k
    have e70 : hs.2 70 = h.2 70 := k.2.1 70 (by omega)
    rw [w32_id hx2.1 hx2.2, e70, if_neg c] at a6
    exact a6
/-- how many below n -/
def fc (p : Nat → Bool) : Nat → Nat
  | 0 => 0
  | n + 1 => fc p n + if p n then 1 else 0
theorem fc_mono {p : Nat → Bool} {a b : Nat} (h : a ≤ b) : fc p a ≤ fc p b := by
  induction b with
  | zero => rw [show a = 0 by omega]; exact Nat.le_refl _
  | succ b ih =>
    rcases Nat.lt_or_ge a (b + 1) with q | q
    · have := ih (by omega)
      simp only [fc]; omega
    · rw [show a = b + 1 by omega]; exact Nat.le_refl _
theorem fc_le (p : Nat → Bool) (n : Nat) : fc p n ≤ n := by
  induction n with
  | zero => exact Nat.le_refl _
  | succ n ih => simp only [fc]; split <;> omega
theorem fc_hit {p : Nat → Bool} {n i : Nat} (h : i < fc p n) : ∃ j, j < n ∧ p j = true ∧ fc p j = i := by
  induction n with
  | zero => simp only [fc] at h; omega
  | succ n ih =>
    simp only [fc] at h
    rcases Nat.lt_or_ge i (fc p n) with q | q
    · obtain ⟨j, h1, h2⟩ := ih q
      exact ⟨j, by omega, h2⟩
    · cases hp : p n
      · rw [hp] at h
        simp only [Bool.false_eq_true, if_false] at h
        omega
      · rw [hp] at h
        simp only [if_true] at h
        exact ⟨n, by omega, hp, by omega⟩
theorem fc_s1 {p : Nat → Bool} {n : Nat} (h : p n = true) : fc p (n + 1) = fc p n + 1 := by simp only [fc]; rw [h]; rfl
theorem fc_s0 {p : Nat → Bool} {n : Nat} (h : p n = false) : fc p (n + 1) = fc p n := by simp only [fc]; rw [h]; rfl
def acf {σ : Type} (p : Nat → Bool) (g : Nat → σ → σ) (s : σ) : Nat → σ
  | 0 => s
  | n + 1 => if p n then g n (acf p g s n) else acf p g s n
theorem acf_1 {σ : Type} {p : Nat → Bool} {g : Nat → σ → σ} {s : σ} {n : Nat} (h : p n = true) : acf p g s (n + 1) = g n (acf p g s n) := by simp only [acf]; rw [h]; rfl
theorem acf_0 {σ : Type} {p : Nat → Bool} {g : Nat → σ → σ} {s : σ} {n : Nat} (h : p n = false) : acf p g s (n + 1) = acf p g s n := by simp only [acf]; rw [h]; rfl
theorem acf_same {σ : Type} {p : Nat → Bool} {g : Nat → σ → σ} {s : σ} {a b : Nat} (h : a ≤ b) (he : fc p a = fc p b) : acf p g s a = acf p g s b := by
  induction b with
  | zero => rw [show a = 0 by omega]
  | succ b ih =>
    rcases Nat.lt_or_ge a (b + 1) with q | q
    · have m := fc_mono (p := p) (show a ≤ b by omega)
      cases hp : p b
      · rw [acf_0 hp]
        rw [fc_s0 hp] at he
        exact ih (by omega) he
      · rw [fc_s1 hp] at he
        omega
    · rw [show a = b + 1 by omega]
theorem acf_eq {σ : Type} {p : Nat → Bool} {g : Nat → σ → σ} {s : σ} {a b : Nat} (he : fc p a = fc p b) : acf p g s a = acf p g s b := by
  rcases Nat.le_total a b with q | q
  · exact acf_same q he
  · exact (acf_same q he.symm).symm
theorem fc_uq {p : Nat → Bool} {a b : Nat} (ha : p a = true) (hb : p b = true) (h : fc p a = fc p b) : a = b := by
  rcases Nat.lt_trichotomy a b with q | q | q
  · have := fc_mono (p := p) (show a + 1 ≤ b by omega)
    rw [fc_s1 ha] at this
    omega
  · exact q
  · have := fc_mono (p := p) (show b + 1 ≤ a by omega)
    rw [fc_s1 hb] at this
    omega
/-- the one that is behind k of them, or -2 -/
def fnd (p : Nat → Bool) (k : Int) : Nat → Int
  | 0 => -2
  | n + 1 => if p n = true ∧ (fc p n : Int) = k then (n : Int) else fnd p k n
theorem fnd_hit {p : Nat → Bool} {n j : Nat} {k : Int} (hj : j < n) (hp : p j = true) (hk : (fc p j : Int) = k) : fnd p k n = j := by
  induction n with
  | zero => omega
  | succ n ih =>
    simp only [fnd]
    split
    · rename_i c
      rw [fc_uq c.1 hp (by omega)]
    · rename_i c
      rcases Nat.lt_or_ge j n with q | q
      · exact ih q
      · rw [show n = j by omega] at c
        exact absurd ⟨hp, hk⟩ c
theorem fnd_no {p : Nat → Bool} {n : Nat} {k : Int} (h : ¬ (0 ≤ k ∧ k < fc p n)) : fnd p k n = -2 := by
  induction n with
  | zero => rfl
  | succ n ih =>
    have m := fc_mono (p := p) (show n ≤ n + 1 by omega)
    simp only [fnd]
    split
    · rename_i c
      rw [fc_s1 c.1] at h
      omega
    · exact ih (by omega)
def sThere (V D : Nat → Int) : Bool := al (fun q => decide (D (1 + 3 * q) < V 0 ∧ D (2 + 3 * q) < V 0)) (D 0).toNat
def sSo (V D : Nat → Int) (c : Nat) : Bool := al (fun i => decide (sBeh V (D (1 + 3 * i)) (D (2 + 3 * i)) ((c / 10 : Nat) : Int) (c % 10 + i) = D (3 + 3 * i))) (D 0).toNat
section FitsC
variable {V D : Nat → Int} {h : AH} {v r : Nat}
theorem c_cellL (hD : LOK D) (hR : RW h.2 r 3 8 D) {i j : Nat} (hi : (i : Int) < D 0) (hj : j < 3) : f6_cell r i j h = some (D (1 + j + 3 * i), h) := by
  have d0 := hD.1
  rw [c_cell (w := 3) (m := 8) (by omega) (by omega) hR, w32_id (x := (i : Int)) (by omega) (by omega), w32_id (x := (j : Int)) (by omega) (by omega)]
  unfold sCell
  rw [if_pos (by omega), show 1 + ((i : Int) * ((3 : Nat) : Int) + j).toNat = 1 + j + 3 * i by omega]
theorem c_isAs (hV : VOK V) (hD : LOK D) (hc : VC h.2 v V) (hR : RW h.2 r 3 8 D) (h66 : h.2 66 3 = D 0) {s n : Nat} (hs : (s : Int) < V 1) (hn : n ≤ 9) : f2_isAsLogged v r s n h = some (if sSo V D (10 * s + n) then 1 else 0, h) := by
  have v1 := hV.2.1
  have d0 := hD.1
  unfold f2_isAsLogged l2_isAsLogged_3
  have e1 : (10 * s + n) / 10 = s := by omega
  have e2 : (10 * s + n) % 10 = n := by omega
  refine fr (fun X => X = some (if sSo V D (10 * s + n) then 1 else 0, h)) (fun (_ : Unit) i => (i, h)) (fun i _ => ∀ j, j < i → sBeh V (D (1 + 3 * j)) (D (2 + 3 * j)) (s : Int) (n + j) = D (3 + 3 * j)) 0 (D 0).toNat () (fun j hj => by omega) (by omega) (by omega) (fun i _ _ hi hI rec => ?_) (fun _ hI rec => ?_)
  · have l := hD.2 i (by omega)
    have g := sGap_rng hV (D (1 + 3 * i)) (D (2 + 3 * i)) s
    have b := sBeh_rng hV (D (1 + 3 * i)) (D (2 + 3 * i)) s (n + i)
    have c0 := c_cellL hD hR (i := i) (j := 0) (by omega) (by omega)
    have c1 := c_cellL hD hR (i := i) (j := 1) (by omega) (by omega)
    have c2 := c_cellL hD hR (i := i) (j := 2) (by omega) (by omega)
    simp only [Nat.reduceAdd] at c0 c1 c2
    unfold b2_isAsLogged_3
    dsimp only
    have em : max32 0 (sGap V (D (1 + 3 * i)) (D (2 + 3 * i)) s) = mx 0 (sGap V (D (1 + 3 * i)) (D (2 + 3 * i)) s) := by
      rw [max32_s (by omega) (by omega) (by omega) (by omega)]; rfl
    rw [h66, w32_id (x := D 0) (by omega) (by omega), w32_id (x := (i : Int)) (by omega) (by omega), if_neg (by omega)]
    rw [show f6_cell r (i : Int) 0 h = some (D (1 + 3 * i), h) from c0, bnd_some, show f6_cell r (i : Int) 1 h = some (D (2 + 3 * i), h) from c1, bnd_some, v_gap hV hc, bnd_some, show (n : Int) + i = ((n + i : Nat) : Int) from rfl, v_aft hV hc _ _ (by omega), bnd_some, show f6_cell r (i : Int) 2 h = some (D (3 + 3 * i), h) from c2, bnd_some, w32_id (x := D (1 + 3 * i)) (by omega) (by omega), w32_id (x := D (2 + 3 * i)) (by omega) (by omega), w32_id (x := (s : Int)) (by omega) (by omega), em]
    show _ ∨ _
    rw [show mx 0 (sGap V (D (1 + 3 * i)) (D (2 + 3 * i)) s) * sAft V s ((n + i : Nat) : Int) = sBeh V (D (1 + 3 * i)) (D (2 + 3 * i)) s (n + i) from rfl, w32_id (x := sBeh V (D (1 + 3 * i)) (D (2 + 3 * i)) s (n + i)) (by omega) (by omega), w32_id (x := D (3 + 3 * i)) (by omega) (by omega)]
    by_cases q : sBeh V (D (1 + 3 * i)) (D (2 + 3 * i)) s (n + i) = D (3 + 3 * i)
    · right
      rw [if_pos q]
      refine ⟨(), fun j hj => ?_, rfl⟩
      rcases Nat.lt_or_ge j i with w | w
      · exact hI j w
      · rw [show j = i by omega]; exact q
    · left
      have : sSo V D (10 * s + n) = false := by
        unfold sSo
        rw [e1, e2]
        exact al_no (i := i) (by omega) (by simp [q])
      rw [if_neg q, this]
      rfl
  · unfold b2_isAsLogged_3
    dsimp only
    have : sSo V D (10 * s + n) = true := by
      unfold sSo
      rw [e1, e2]
      exact al_iff.mpr (fun j hj => by simp [hI j hj])
    rw [h66, w32_id (x := D 0) (by omega) (by omega), w32_id (x := ((D 0).toNat : Int)) (by omega) (by omega), if_pos (by omega), this]
    rfl
def kGu (a k : Nat) : Prop := (a = 66 ∧ (k = 2 ∨ k = 3)) ∨ a = 67
/-- what has been found of the first c -/
def GF (V D : Nat → Int) (h : AH) (c : Nat) : Prop := h.2 66 3 = D 0 ∧ h.2 66 2 = fc (sSo V D) c ∧ ∀ j, j < c → sSo V D j = true → h.2 67 (fc (sSo V D) j) = j
theorem c_gather2 (hV : VOK V) (hD : LOK D) (hc : VC h.2 v V) (hv : v + 5 < 28) (hR : RW h.2 r 3 8 D) (hr : r + 1 < 28) {h0 : AH} (hk : Ky kGu h h0) (h66 : h0.2 66 3 = D 0) (h62 : h0.2 66 2 = 0) : ∃ h1, l2_gather_59 v r 0 h0 = some (1, h1) ∧ Ky kGu h h1 ∧ GF V D h1 (10 * (V 1).toNat) := by
  have v1 := hV.2.1
  have vcs : ∀ w : AH, Ky kGu h w → VC w.2 v V := fun w kw => kw.vc (fun a k _ _ => by unfold kGu; omega) hc
  have rws : ∀ w : AH, Ky kGu h w → RW w.2 r 3 8 D := fun w kw => by
    obtain ⟨⟨a0, a1⟩, ⟨a2, a3⟩, a4, a5⟩ := hR
    have e : ∀ a k, a = r ∨ a = r + 1 → w.2 a k = h.2 a k := fun a k ha => kw.2 a k (by unfold kGu; omega)
    exact ⟨⟨(e _ _ (Or.inl rfl)).trans a0, (e _ _ (Or.inl rfl)).trans a1⟩, ⟨(e _ _ (Or.inl rfl)).trans a2, fun i hi => (e _ _ (Or.inr rfl)).trans (a3 i hi)⟩, a4, a5⟩
  unfold l2_gather_59
  refine fr (fun X => ∃ h1, X = some (1, h1) ∧ Ky kGu h h1 ∧ GF V D h1 (10 * (V 1).toNat)) (fun (s : AH) i => (i, s)) (fun s w => Ky kGu h w ∧ GF V D w (10 * s)) 0 (V 1).toNat h0 ⟨hk, h66, by rw [h62]; rfl, fun j hj => by omega⟩ (by omega) (by omega) (fun s w _ hs hI rec => ?_) (fun w hI rec => ?_)
  · right
    unfold b2_gather_59 l2_gather_70
    dsimp only
    rw [(vcs w hI.1).2.1, w32_id (x := V 1) (by omega) (by omega), w32_id (x := (s : Int)) (by omega) (by omega), if_neg (by omega)]
    refine fr (fun X => ∃ s1, (Ky kGu h s1 ∧ GF V D s1 (10 * (s + 1))) ∧ X = rec ((s : Int) + 1, s1)) (fun (s : AH) i => (i, s)) (fun n w => Ky kGu h w ∧ GF V D w (10 * s + n)) 0 10 w hI (by omega) (by omega) (fun n w _ hn hJ rec2 => ?_) (fun w hJ rec2 => ?_)
    · right
      obtain ⟨j1, j2, j3, j4⟩ := hJ
      have fl := fc_le (sSo V D) (10 * s + n)
      unfold b2_gather_70 b2_gather_127
      dsimp only
      rw [j3, w32_id (x := (n : Int)) (by omega) (by omega), if_neg (by omega), w32_id (x := (fc (sSo V D) (10 * s + n) : Int)) (by omega) (by omega), if_neg (by omega), c_isAs hV hD (vcs w j1) (rws w j1) j2 (by omega) (by omega), bnd_some]
      cases q : sSo V D (10 * s + n)
      · refine ⟨w, ⟨j1, j2, by rw [← Nat.add_assoc, fc_s0 q]; exact j3, fun j hj hp => ?_⟩, ?_⟩
        · rcases Nat.lt_or_ge j (10 * s + n) with z | z
          · exact j4 j z hp
          · rw [show j = 10 * s + n by omega, q] at hp; exact absurd hp (by decide)
        · rw [show w32 (if false = true then 1 else 0) = 0 from rfl, if_pos rfl]
      · rw [show w32 (if true = true then 1 else 0) = 1 from rfl, if_neg (by decide), asrt_t (by rw [j3, w32_id (x := (fc (sSo V D) (10 * s + n) : Int)) (by omega) (by omega)]; omega), lt_eq, lt_eq, j3, w32_id (x := (fc (sSo V D) (10 * s + n) : Int)) (by omega) (by omega), Int.toNat_natCast]
        refine ⟨wr (wr w 67 (fc (sSo V D) (10 * s + n)) (10 * (s : Int) + n)) 66 2 ((wr w 67 (fc (sSo V D) (10 * s + n)) (10 * (s : Int) + n)).2 66 2 + 1), ⟨(j1.w2 (Or.inr rfl)).w2 (Or.inl ⟨rfl, Or.inl rfl⟩), ?_, ?_, fun j hj hp => ?_⟩, rfl⟩
        · rw [wr_e (by omega), wr_e (by omega)]; exact j2
        · rw [wr_at, wr_e (by omega), j3, ← Nat.add_assoc, fc_s1 q]; rfl
        · rw [wr_e (by omega)]
          rcases Nat.lt_or_ge j (10 * s + n) with z | z
          · have := fc_mono (p := sSo V D) (show j + 1 ≤ 10 * s + n by omega)
            rw [fc_s1 hp] at this
            rw [wr_e (by omega)]; exact j4 j z hp
          · rw [show j = 10 * s + n by omega, wr_at]; rfl
    · refine ⟨w, ⟨hJ.1, hJ.2⟩, ?_⟩
      unfold b2_gather_70
      dsimp only
      rw [if_pos (by decide)]
  · refine ⟨w, ?_, hI⟩
    unfold b2_gather_59
    dsimp only
    rw [(vcs w hI.1).2.1, w32_id (x := V 1) (by omega) (by omega), w32_id (x := ((V 1).toNat : Int)) (by omega) (by omega), if_pos (by omega)]
theorem c_gather (hV : VOK V) (hD : LOK D) (hc : VC h.2 v V) (hv : v + 5 < 28) (hR : RW h.2 r 3 8 D) (hr : r + 1 < 28) : ∃ h1, f2_gather v r h = some (if sThere V D then 1 else 0, h1) ∧ Ky kGu h h1 ∧ (sThere V D = true → GF V D h1 (10 * (V 1).toNat)) := by
  have d0 := hD.1
  have v0 := hV.1
  unfold f2_gather
  rw [lt_eq, lt_eq]
  have g1 : Ky kGu h (wr (wr h 66 2 0) 66 3 ((wr h 66 2 0).2 r 3)) := (Ky.w1 (Or.inl ⟨rfl, Or.inl rfl⟩)).w2 (Or.inl ⟨rfl, Or.inr rfl⟩)
  have e3 : (wr (wr h 66 2 0) 66 3 ((wr h 66 2 0).2 r 3)).2 66 3 = D 0 := by rw [wr_at, wr_e (by omega)]; exact hR.2.1.1
  have e2 : (wr (wr h 66 2 0) 66 3 ((wr h 66 2 0).2 r 3)).2 66 2 = 0 := by rw [wr_e (by omega), wr_at]
  generalize wr (wr h 66 2 0) 66 3 ((wr h 66 2 0).2 r 3) = w at *
  obtain ⟨h1, a1, a2, a3⟩ := c_gather2 hV hD hc hv hR hr g1 e3 e2
  have hc2 : VC w.2 v V := g1.vc (fun a k _ _ => by unfold kGu; omega) hc
  have hR2 : RW w.2 r 3 8 D := by
    obtain ⟨⟨b0, b1⟩, ⟨b2, b3⟩, b4, b5⟩ := hR
    have e : ∀ a k, a = r ∨ a = r + 1 → w.2 a k = h.2 a k := fun a k ha => g1.2 a k (by unfold kGu; omega)
    exact ⟨⟨(e _ _ (Or.inl rfl)).trans b0, (e _ _ (Or.inl rfl)).trans b1⟩, ⟨(e _ _ (Or.inl rfl)).trans b2, fun i hi => (e _ _ (Or.inr rfl)).trans (b3 i hi)⟩, b4, b5⟩
  unfold l2_gather_15
  refine fr (fun X => ∃ h1, X = some (if sThere V D then 1 else 0, h1) ∧ Ky kGu h h1 ∧ (sThere V D = true → GF V D h1 (10 * (V 1).toNat))) (fun (_ : Unit) i => (i, w)) (fun i _ => ∀ j, j < i → D (1 + 3 * j) < V 0 ∧ D (2 + 3 * j) < V 0) 0 (D 0).toNat () (fun j hj => by omega) (by omega) (by omega) (fun i _ _ hi hI rec => ?_) (fun _ hI rec => ?_)
  · have l := hD.2 i (by omega)
    have c0 := c_cellL hD hR2 (i := i) (j := 0) (by omega) (by omega)
    have c1 := c_cellL hD hR2 (i := i) (j := 1) (by omega) (by omega)
    simp only [Nat.reduceAdd] at c0 c1
    unfold b2_gather_15
    dsimp only
    rw [e3, w32_id (x := D 0) (by omega) (by omega), w32_id (x := (i : Int)) (by omega) (by omega), if_neg (by omega), show f6_cell r (i : Int) 0 w = some (D (1 + 3 * i), w) from c0, bnd_some, v_hasP hV hc2, bnd_some, show f6_cell r (i : Int) 1 w = some (D (2 + 3 * i), w) from c1, bnd_some, v_hasP hV hc2, bnd_some, w32_id (x := D (1 + 3 * i)) (by omega) (by omega), w32_id (x := D (2 + 3 * i)) (by omega) (by omega)]
    simp only [ite10_0]
    by_cases q : D (1 + 3 * i) < V 0 ∧ D (2 + 3 * i) < V 0
    · right
      rw [if_neg (by omega), if_pos (by omega)]
      refine ⟨(), fun j hj => ?_, rfl⟩
      rcases Nat.lt_or_ge j i with z | z
      · exact hI j z
      · rw [show j = i by omega]; exact q
    · left
      have : sThere V D = false := al_no (i := i) hi (by simp only [decide_eq_false_iff_not]; exact q)
      rw [this, if_neg (c := false = true) (by decide)]
      refine ⟨w, ?_, g1, fun z => absurd z (by decide)⟩
      repeat' split
      all_goals first | omega | rfl
  · have : sThere V D = true := al_iff.mpr (fun j hj => by simp only [decide_eq_true_eq]; exact hI j hj)
    rw [this]
    refine ⟨h1, ?_, a2, fun _ => a3⟩
    unfold b2_gather_15
    dsimp only
    rw [e3, w32_id (x := D 0) (by omega) (by omega), w32_id (x := ((D 0).toNat : Int)) (by omega) (by omega), if_pos (by omega), a1]
    rfl
end FitsC
