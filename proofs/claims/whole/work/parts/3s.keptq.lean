/-! kept: the model's hours -/
theorem nz_1 : nz 1 = 1 := by decide
theorem nz_0 : nz 0 = 0 := by decide
theorem dvN {k : Nat} (h : k < 1000) : dv32 (k : Int) 100 = ((k / 100 : Nat) : Int) := by
  rw [dv32_nn (by omega) (by omega)]
  omega
theorem rmN {k : Nat} (h : k < 1000) : rm32 (k : Int) 100 = ((k % 100 : Nat) : Int) := by
  rw [rm32_nn (by omega) (by omega)]
  omega
theorem vm_L {c : Nat → Nat → Int} {V : Nat → Int} (hm : VM c V) : (0 ≤ w32 (c 69 12 + 3) ∧ w32 (c 69 12 + 3) < 4824) ∧ c 70 (w32 (c 69 12 + 3)).toNat = V 3 := m_at (h := (0, c)) hm 3 (by omega) (e := c 69 12 + 3) (fun o ho => by rw [show c 69 12 = o from ho]; rfl)
section KeptM
variable {V : Nat → Int} {h : AH} {B : Nat → Nat} {W C L q : Nat}
/-- the hour that rests, and the one that quarrels -/
def cn0 (W C k : Nat) : Prop := W ≤ k % 100 ∧ k % 100 ≤ C
def cn1 (B : Nat → Nat) (W C k : Nat) : Prop := B (k / 100) ≠ 0 ∧ W ≤ k % 100 + B (k / 100) ∧ k % 100 + B (k / 100) ≤ C
def id0 (L k : Nat) : Nat := 100 * (k / 100) + (k % 100 - L)
def id1 (B : Nat → Nat) (L k : Nat) : Nat := 100 * (k / 100 + 1) + (k % 100 + B (k / 100) - L)
def kCt (a _k : Nat) : Prop := a = 83
theorem m_c42 (hV : VOK V) (hm : VM h.2 V) (hk : KP3 V B W C L q) {a b s : Int} (ha : 0 ≤ a ∧ a < V 0) (hb : 0 ≤ b ∧ b < V 0) (hs : 0 ≤ s ∧ s < V 1) (hab : a ≠ b) (hB : ∀ n : Nat, n ≤ 9 → sBeh V a b s n = B n) {k : Nat} (hk1 : k < 1000) {any : Int} (h82 : h.2 82 k = 1) (rec42 rec31 : Int × Int × AH → Option (Int × AH)) :
    ((cn0 W C k → b11_counts_42 rec42 rec31 a b s q k any 0 h = rec42 (1, 1, wr h 83 (id0 L k) 1)) ∧ (¬ cn0 W C k → b11_counts_42 rec42 rec31 a b s q k any 0 h = rec42 (any, 1, h))) ∧
    ((cn1 B W C k → b11_counts_42 rec42 rec31 a b s q k any 1 h = rec42 (1, 2, wr h 83 (id1 B L k) 1)) ∧ (¬ cn1 B W C k → b11_counts_42 rec42 rec31 a b s q k any 1 h = rec42 (any, 2, h))) := by
  obtain ⟨k1, k2, k3, k4, k5, k6, k7, k8, k9, k10⟩ := hk
  have v2 := hV.2.2.1
  have b1 := k1 (k / 100)
  have e3 := m_behind hV hm a b s ha hb hs hab (n := k / 100) (by omega)
  rw [hB _ (by omega)] at e3
  have e4 := m_wants hm q (by omega)
  have e5 := m_cracks hm q (by omega)
  rw [Int.toNat_natCast, k3] at e4
  rw [Int.toNat_natCast, k4] at e5
  have kr : k / 100 ≤ 9 ∧ k % 100 < 100 := by omega
  have i3 : k / 100 = 9 → B (k / 100) = 0 := fun z => by rw [z]; exact k2
  unfold id0 id1 cn0 cn1
  generalize hn : k / 100 = n at *
  generalize hw : k % 100 = w at *
  refine ⟨⟨fun c => ?_, fun c => ?_⟩, fun c => ?_, fun c => ?_⟩
  · unfold b11_counts_42 b11_counts_190 b11_counts_135 b11_counts_187 b11_counts_190
    rw [show w32 0 = 0 from w32_0, if_neg (by omega), w32_id (x := (k : Int)) (by omega) (by omega), asrt_t (by omega), Int.toNat_natCast, h82, w32_1, if_neg (by omega), dvN hk1, hn, e3, bnd_some, lt_eq, rmN hk1, hw, e4, bnd_some, e5, bnd_some, Int.zero_mul, Int.add_zero, m_isIn, bnd_some, w32_id (x := (w : Int)) (by omega) (by omega), w32_id (x := (W : Int)) (by omega) (by omega), w32_id (x := (C : Int)) (by omega) (by omega), if_pos (c := (W : Int) ≤ w ∧ _) (by omega), w32_1, if_neg (by omega), if_pos (by omega), asrt_t (vm_L hm).1, (vm_L hm).2, k5, asrt_t (vm_L hm).1, Int.add_zero, w32_id (x := (L : Int)) (by omega) (by omega), nz_1]
    by_cases z : (w : Int) ≤ L
    · rw [if_pos z, lt_eq, w32_id (x := (100 * ((n : Int) + 0))) (by omega) (by omega), asrt_t (by omega), show (100 * ((n : Int) + 0)).toNat = 100 * n + (w - L) by omega]
      rfl
    · rw [if_neg z, lt_eq, w32_id (x := (100 * ((n : Int) + 0) + (w - L))) (by omega) (by omega), asrt_t (by omega), show (100 * ((n : Int) + 0) + (w - L)).toNat = 100 * n + (w - L) by omega]
      rfl
  · unfold b11_counts_42 b11_counts_190
    rw [show w32 0 = 0 from w32_0, if_neg (by omega), w32_id (x := (k : Int)) (by omega) (by omega), asrt_t (by omega), Int.toNat_natCast, h82, w32_1, if_neg (by omega), dvN hk1, hn, e3, bnd_some, lt_eq, rmN hk1, hw, e4, bnd_some, e5, bnd_some, Int.zero_mul, Int.add_zero, m_isIn, bnd_some, w32_id (x := (w : Int)) (by omega) (by omega), w32_id (x := (W : Int)) (by omega) (by omega), w32_id (x := (C : Int)) (by omega) (by omega), if_neg (c := (W : Int) ≤ w ∧ _) (by omega), w32_0, if_pos rfl]
    rfl
  · have n9 : n ≠ 9 := fun z => c.1 (i3 z)
    unfold b11_counts_42 b11_counts_190 b11_counts_135 b11_counts_187 b11_counts_190
    rw [w32_1, if_neg (by omega), w32_id (x := (k : Int)) (by omega) (by omega), asrt_t (by omega), Int.toNat_natCast, h82, w32_1, if_neg (by omega), dvN hk1, hn, e3, bnd_some, lt_eq, rmN hk1, hw, e4, bnd_some, e5, bnd_some, Int.one_mul, m_isIn, bnd_some, w32_id (x := (w : Int) + (B n : Int)) (by omega) (by omega), w32_id (x := (W : Int)) (by omega) (by omega), w32_id (x := (C : Int)) (by omega) (by omega), if_pos (c := (W : Int) ≤ w + B n ∧ _) (by omega), w32_1, if_neg (by omega), if_neg (fun z => z rfl), e3, bnd_some, w32_id (x := (B n : Int)) (by omega) (by omega), if_neg (by omega), w32_id (x := (n : Int)) (by omega) (by omega), if_pos (by omega), asrt_t (vm_L hm).1, (vm_L hm).2, k5, asrt_t (vm_L hm).1, w32_id (x := (L : Int)) (by omega) (by omega), nz_1]
    by_cases z : (w : Int) + B n ≤ L
    · rw [if_pos z, lt_eq, w32_id (x := (100 * ((n : Int) + 1) + 0)) (by omega) (by omega), asrt_t (by omega), show (100 * ((n : Int) + 1) + 0).toNat = 100 * (n + 1) + (w + B n - L) by omega]
      rfl
    · rw [if_neg z, lt_eq, w32_id (x := (100 * ((n : Int) + 1) + (w + B n - L))) (by omega) (by omega), asrt_t (by omega), show (100 * ((n : Int) + 1) + (w + B n - L)).toNat = 100 * (n + 1) + (w + B n - L) by omega]
      rfl
  · unfold b11_counts_42 b11_counts_190
    rw [w32_1, if_neg (by omega), w32_id (x := (k : Int)) (by omega) (by omega), asrt_t (by omega), Int.toNat_natCast, h82, w32_1, if_neg (by omega), dvN hk1, hn, e3, bnd_some, lt_eq, rmN hk1, hw, e4, bnd_some, e5, bnd_some, Int.one_mul, m_isIn, bnd_some, w32_id (x := (w : Int) + (B n : Int)) (by omega) (by omega), w32_id (x := (W : Int)) (by omega) (by omega), w32_id (x := (C : Int)) (by omega) (by omega)]
    by_cases y : (W : Int) ≤ w + B n ∧ (w : Int) + B n ≤ C
    · rw [if_pos y, w32_1, if_neg (by omega), if_neg (fun z => z rfl), e3, bnd_some, w32_id (x := (B n : Int)) (by omega) (by omega), if_pos (by omega)]
      rfl
    · rw [if_neg y, w32_0, if_pos rfl]
      rfl
/-- those that follow k -/
def sc (B : Nat → Nat) (W C L k j : Nat) : Prop := (cn0 W C k ∧ j = id0 L k) ∨ (cn1 B W C k ∧ j = id1 B L k)
theorem m_l42 (hV : VOK V) (hm : VM h.2 V) (hk : KP3 V B W C L q) {a b s : Int} (ha : 0 ≤ a ∧ a < V 0) (hb : 0 ≤ b ∧ b < V 0) (hs : 0 ≤ s ∧ s < V 1) (hab : a ≠ b) (hB : ∀ n : Nat, n ≤ 9 → sBeh V a b s n = B n) {k : Nat} (hk1 : k < 1000) {any : Int} (hany : any = 0 ∨ any = 1) (h82 : h.2 82 k = 0 ∨ h.2 82 k = 1) (rec31 : Int × Int × AH → Option (Int × AH)) :
    ∃ any1 h1, l11_counts_42 rec31 a b s q k any 0 h = rec31 (any1, (k : Int) + 1, h1) ∧ Ky kCt h h1 ∧ (any1 = 0 ∨ any1 = 1) ∧ (any1 = 1 ↔ any = 1 ∨ (h.2 82 k = 1 ∧ ∃ j, sc B W C L k j)) ∧ ∀ j, (h1.2 83 j = 1 ↔ h.2 83 j = 1 ∨ (h.2 82 k = 1 ∧ sc B W C L k j)) ∧ (h.2 83 j = 0 ∨ h.2 83 j = 1 → h1.2 83 j = 0 ∨ h1.2 83 j = 1) := by
  unfold l11_counts_42
  obtain ⟨rec, e⟩ := fx_open3 (fun rec (z : Int × Int × AH) => b11_counts_42 rec rec31 a b s q k z.1 z.2.1 z.2.2) (any, 0, h)
  rw [e]
  dsimp only
  rcases h82 with h82 | h82
  · refine ⟨any, h, ?_, Ky.rf h, hany, ⟨Or.inl, fun z => by rcases z with z | z <;> omega⟩, fun j => ⟨⟨Or.inl, fun z => by rcases z with z | z <;> omega⟩, fun z => z⟩⟩
    unfold b11_counts_42 b11_counts_196
    rw [show w32 0 = 0 from w32_0, if_neg (by omega), w32_id (x := (k : Int)) (by omega) (by omega), asrt_t (by omega), Int.toNat_natCast, h82, w32_0, if_pos rfl]
  · have fin : ∀ (x : Int) (w : AH) (r : Int × Int × AH → Option (Int × AH)), b11_counts_42 r rec31 a b s q k x 2 w = rec31 (x, (k : Int) + 1, w) := fun x w r => by
      unfold b11_counts_42 b11_counts_196
      rw [if_pos (by decide)]
    have s0 := fun (r : Int × Int × AH → Option (Int × AH)) => (m_c42 hV hm hk ha hb hs hab hB hk1 (any := any) h82 r rec31).1
    have s1 := fun (x : Int) (w : AH) (g : Ky kCt h w) (r : Int × Int × AH → Option (Int × AH)) => (m_c42 (h := w) hV (g.vm (fun k _ _ => by unfold kCt; omega) (fun k => by unfold kCt; omega) hm) hk ha hb hs hab hB hk1 (any := x) (by rw [g.2 82 k (by unfold kCt; omega)]; exact h82) r rec31).2
    have u0 : ∀ j, sc B W C L k j ↔ (cn0 W C k ∧ j = id0 L k) ∨ (cn1 B W C k ∧ j = id1 B L k) := fun j => Iff.rfl
    have g0 : Ky kCt h (wr h 83 (id0 L k) 1) := Ky.w1 rfl
    by_cases c0 : cn0 W C k
    · rw [(s0 _).1 c0]
      by_cases c1 : cn1 B W C k
      · rw [(s1 1 _ g0 _).1 c1, fin]
        refine ⟨1, _, rfl, g0.w2 rfl, Or.inr rfl, ⟨fun _ => Or.inr ⟨h82, _, Or.inl ⟨c0, rfl⟩⟩, fun _ => rfl⟩, fun j => ?_⟩
        rw [u0 j, wr_2, wr_2]
        by_cases z1 : j = id1 B L k
        · rw [if_pos ⟨rfl, z1⟩]; exact ⟨⟨fun _ => Or.inr ⟨h82, Or.inr ⟨c1, z1⟩⟩, fun _ => rfl⟩, fun _ => Or.inr rfl⟩
        · rw [if_neg (fun y => z1 y.2)]
          by_cases z0 : j = id0 L k
          · rw [if_pos ⟨rfl, z0⟩]; exact ⟨⟨fun _ => Or.inr ⟨h82, Or.inl ⟨c0, z0⟩⟩, fun _ => rfl⟩, fun _ => Or.inr rfl⟩
          · rw [if_neg (fun y => z0 y.2)]
            exact ⟨⟨Or.inl, fun y => by rcases y with y | ⟨-, y | y⟩; exact y; exact absurd y.2 z0; exact absurd y.2 z1⟩, fun y => y⟩
      · rw [(s1 1 _ g0 _).2 c1, fin]
        refine ⟨1, _, rfl, g0, Or.inr rfl, ⟨fun _ => Or.inr ⟨h82, _, Or.inl ⟨c0, rfl⟩⟩, fun _ => rfl⟩, fun j => ?_⟩
        rw [u0 j, wr_2]
        by_cases z0 : j = id0 L k
        · rw [if_pos ⟨rfl, z0⟩]; exact ⟨⟨fun _ => Or.inr ⟨h82, Or.inl ⟨c0, z0⟩⟩, fun _ => rfl⟩, fun _ => Or.inr rfl⟩
        · rw [if_neg (fun y => z0 y.2)]
          exact ⟨⟨Or.inl, fun y => by rcases y with y | ⟨-, y | y⟩; exact y; exact absurd y.2 z0; exact absurd y.1 c1⟩, fun y => y⟩
    · rw [(s0 _).2 c0]
      by_cases c1 : cn1 B W C k
      · rw [(s1 any _ (Ky.rf h) _).1 c1, fin]
        refine ⟨1, _, rfl, Ky.w1 rfl, Or.inr rfl, ⟨fun _ => Or.inr ⟨h82, _, Or.inr ⟨c1, rfl⟩⟩, fun _ => rfl⟩, fun j => ?_⟩
        rw [u0 j, wr_2]
        by_cases z1 : j = id1 B L k
        · rw [if_pos ⟨rfl, z1⟩]; exact ⟨⟨fun _ => Or.inr ⟨h82, Or.inr ⟨c1, z1⟩⟩, fun _ => rfl⟩, fun _ => Or.inr rfl⟩
        · rw [if_neg (fun y => z1 y.2)]
          exact ⟨⟨Or.inl, fun y => by rcases y with y | ⟨-, y | y⟩; exact y; exact absurd y.1 c0; exact absurd y.2 z1⟩, fun y => y⟩
      · rw [(s1 any _ (Ky.rf h) _).2 c1, fin]
        refine ⟨any, _, rfl, Ky.rf h, hany, ⟨Or.inl, fun y => ?_⟩, fun j => ⟨⟨Or.inl, fun y => ?_⟩, fun y => y⟩⟩
        · rcases y with y | ⟨-, j, y | y⟩
          · exact y
          · exact absurd y.1 c0
          · exact absurd y.1 c1
        · rcases y with y | ⟨-, y | y⟩
          · exact y
          · exact absurd y.1 c0
          · exact absurd y.1 c1
def kCs (a _k : Nat) : Prop := a = 82 ∨ a = 83
theorem m_counts (hV : VOK V) (hm : VM h.2 V) (hk : KP3 V B W C L q) {a b s : Int} (ha : 0 ≤ a ∧ a < V 0) (hb : 0 ≤ b ∧ b < V 0) (hs : 0 ≤ s ∧ s < V 1) (hab : a ≠ b) (hB : ∀ n : Nat, n ≤ 9 → sBeh V a b s n = B n) (h82 : ∀ k, k < 1000 → h.2 82 k = 0 ∨ h.2 82 k = 1) :
    ∃ r h1, f11_counts a b s q h = some (r, h1) ∧ Ky kCs h h1 ∧ (r = 0 ∨ r = 1) ∧ (r = 1 ↔ ∃ k j, k < 1000 ∧ h.2 82 k = 1 ∧ sc B W C L k j) ∧ (∀ j, j < 1000 → h1.2 82 j = 0 ∨ h1.2 82 j = 1) ∧ ∀ j, j < 1000 → (h1.2 82 j = 1 ↔ ∃ k, k < 1000 ∧ h.2 82 k = 1 ∧ sc B W C L k j) := by
  unfold f11_counts l11_counts_6
  refine fr (fun X => ∃ r h1, X = some (r, h1) ∧ Ky kCs h h1 ∧ (r = 0 ∨ r = 1) ∧ (r = 1 ↔ ∃ k j, k < 1000 ∧ h.2 82 k = 1 ∧ sc B W C L k j) ∧ (∀ j, j < 1000 → h1.2 82 j = 0 ∨ h1.2 82 j = 1) ∧ ∀ j, j < 1000 → (h1.2 82 j = 1 ↔ ∃ k, k < 1000 ∧ h.2 82 k = 1 ∧ sc B W C L k j)) (fun (s : AH) i => (i, s)) (fun i w => Ky kCt h w ∧ ∀ j, j < i → w.2 83 j = 0) 0 1000 h ⟨Ky.rf h, fun j hj => by omega⟩ (by omega) (by omega) (fun i w _ hi hI rec => ?_) (fun w hI rec => ?_)
  · right
    refine ⟨wr w 83 i 0, ⟨hI.1.w2 rfl, fun j hj => ?_⟩, ?_⟩
    · by_cases z : j = i
      · subst z; exact wr_at
      · rw [wr_e (by omega)]; exact hI.2 j (by omega)
    · unfold b11_counts_6
      dsimp only
      rw [w32_id (x := (i : Int)) (by omega) (by omega), if_neg (by omega), asrt_t (by omega), lt_eq, Int.toNat_natCast, nz_0]
  · obtain ⟨i1, i2⟩ := hI
    unfold b11_counts_6 l11_counts_31
    dsimp only
    rw [if_pos (by decide)]
    refine fr (fun X => ∃ r h1, X = some (r, h1) ∧ Ky kCs h h1 ∧ (r = 0 ∨ r = 1) ∧ (r = 1 ↔ ∃ k j, k < 1000 ∧ h.2 82 k = 1 ∧ sc B W C L k j) ∧ (∀ j, j < 1000 → h1.2 82 j = 0 ∨ h1.2 82 j = 1) ∧ ∀ j, j < 1000 → (h1.2 82 j = 1 ↔ ∃ k, k < 1000 ∧ h.2 82 k = 1 ∧ sc B W C L k j)) (fun (s : Int × AH) i => (s.1, i, s.2)) (fun i t => Ky kCt h t.2 ∧ (t.1 = 0 ∨ t.1 = 1) ∧ (t.1 = 1 ↔ ∃ k j, k < i ∧ h.2 82 k = 1 ∧ sc B W C L k j) ∧ (∀ j, j < 1000 → t.2.2 83 j = 0 ∨ t.2.2 83 j = 1) ∧ ∀ j, j < 1000 → (t.2.2 83 j = 1 ↔ ∃ k, k < i ∧ h.2 82 k = 1 ∧ sc B W C L k j)) 0 1000 (0, w) ⟨i1, Or.inl rfl, ⟨fun z => by simp at z, fun ⟨k, j, z, _⟩ => by omega⟩, fun j hj => Or.inl (i2 j hj), fun j hj => ⟨fun z => by rw [i2 j hj] at z; omega, fun ⟨k, z, _⟩ => by omega⟩⟩ (by omega) (by omega) (fun i t _ hi hI rec2 => ?_) (fun t hI rec2 => ?_)
    · right
      obtain ⟨t1, t⟩ := t
      obtain ⟨j1, j2, j3, j4, j5⟩ := hI
      simp only at j1 j2 j3 j4 j5
      have e82 : t.2 82 i = h.2 82 i := j1.2 82 i (by unfold kCt; omega)
      obtain ⟨any1, h1, a1, a2, a3, a4, a5⟩ := m_l42 (h := t) hV (j1.vm (fun k _ _ => by unfold kCt; omega) (fun k => by unfold kCt; omega) hm) hk ha hb hs hab hB hi j2 (by rw [e82]; exact h82 i hi) rec2
      rw [e82] at a4 a5
      refine ⟨(any1, h1), ⟨j1.tr a2, a3, ?_, fun j hj => (a5 j).2 (j4 j hj), fun j hj => ?_⟩, ?_⟩
      · show any1 = 1 ↔ _
        rw [a4, j3]
        constructor
        · rintro (⟨k, j, z1, z2⟩ | ⟨z1, j, z2⟩)
          · exact ⟨k, j, by omega, z2⟩
          · exact ⟨i, j, by omega, z1, z2⟩
        · rintro ⟨k, j, z1, z2⟩
          rcases Nat.lt_or_ge k i with y | y
          · exact Or.inl ⟨k, j, y, z2⟩
          · rw [show k = i by omega] at z2
            exact Or.inr ⟨z2.1, j, z2.2⟩
      · show h1.2 83 j = 1 ↔ _
        rw [(a5 j).1, j5 j hj]
        constructor
        · rintro (⟨k, z1, z2⟩ | ⟨z1, z2⟩)
          · exact ⟨k, by omega, z2⟩
          · exact ⟨i, by omega, z1, z2⟩
        · rintro ⟨k, z1, z2⟩
          rcases Nat.lt_or_ge k i with y | y
          · exact Or.inl ⟨k, y, z2⟩
          · rw [show k = i by omega] at z2
            exact Or.inr z2
      · unfold b11_counts_31
        dsimp only
        rw [w32_id (x := (i : Int)) (by omega) (by omega), if_neg (by omega), a1]
    · obtain ⟨t1, t⟩ := t
      obtain ⟨j1, j2, j3, j4, j5⟩ := hI
      simp only at j1 j2 j3 j4 j5
      unfold b11_counts_31 l11_counts_205
      dsimp only
      rw [if_pos (by decide)]
      refine fr (fun X => ∃ r h1, X = some (r, h1) ∧ Ky kCs h h1 ∧ (r = 0 ∨ r = 1) ∧ (r = 1 ↔ ∃ k j, k < 1000 ∧ h.2 82 k = 1 ∧ sc B W C L k j) ∧ (∀ j, j < 1000 → h1.2 82 j = 0 ∨ h1.2 82 j = 1) ∧ ∀ j, j < 1000 → (h1.2 82 j = 1 ↔ ∃ k, k < 1000 ∧ h.2 82 k = 1 ∧ sc B W C L k j)) (fun (s : AH) i => (i, s)) (fun i u => Ky kCs h u ∧ u.2 83 = t.2 83 ∧ ∀ j, j < i → u.2 82 j = t.2 83 j) 0 1000 t ⟨j1.mono (fun a k z => Or.inr z), rfl, fun j hj => by omega⟩ (by omega) (by omega) (fun i u _ hi hI rec3 => ?_) (fun u hI rec3 => ?_)
      · right
        obtain ⟨u1, u2, u3⟩ := hI
        have e : nz (t.2 83 i) = t.2 83 i := by rcases j4 i hi with z | z <;> rw [z] <;> decide
        refine ⟨wr u 82 i (t.2 83 i), ⟨u1.w2 (Or.inl rfl), by rw [wr_ne (by decide)]; exact u2, fun j hj => ?_⟩, ?_⟩
        · by_cases z : j = i
          · subst z; exact wr_at
          · rw [wr_nk (by omega)]; exact u3 j (by omega)
        · unfold b11_counts_205
          dsimp only
          rw [w32_id (x := (i : Int)) (by omega) (by omega), if_neg (by omega), asrt_t (by omega), asrt_t (by omega), lt_eq, Int.toNat_natCast, u2, e]
      · obtain ⟨u1, u2, u3⟩ := hI
        refine ⟨t1, u, ?_, u1, j2, j3, fun j hj => by rw [u3 j hj]; exact j4 j hj, fun j hj => by rw [u3 j hj]; exact j5 j hj⟩
        unfold b11_counts_205
        dsimp only
        rw [if_pos (by decide), asrt_t (by rcases j2 with z | z <;> rw [z] <;> decide)]
end KeptM
