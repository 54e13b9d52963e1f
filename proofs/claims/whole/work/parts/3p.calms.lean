/-! calm: the first two who are apart agree, until none are -/
def Fst (D : Nat → Nat → Prop) (n a b : Nat) : Prop := a < b ∧ b < n ∧ D a b ∧ ∀ c d, c < d → d < n → (c < a ∨ (c = a ∧ d < b)) → ¬ D c d
theorem Fst.uq {D : Nat → Nat → Prop} {n a b c d : Nat} (h1 : Fst D n a b) (h2 : Fst D n c d) : a = c ∧ b = d := by
  obtain ⟨p1, p2, p3, p4⟩ := h1
  obtain ⟨q1, q2, q3, q4⟩ := h2
  rcases Nat.lt_trichotomy a c with z | z | z
  · exact absurd p3 (q4 a b p1 p2 (Or.inl z))
  · subst z
    rcases Nat.lt_trichotomy b d with y | y | y
    · exact absurd p3 (q4 a b p1 p2 (Or.inr ⟨rfl, y⟩))
    · exact ⟨rfl, y⟩
    · exact absurd q3 (p4 a d q1 q2 (Or.inr ⟨rfl, y⟩))
  · exact absurd q3 (p4 c d q1 q2 (Or.inl z))
def VK (V K : Nat → Int) (s : Nat) (j : Nat) : Int := if 24 ≤ j ∧ (j - 24) % 6 = s then K ((j - 24) / 6) else V j
theorem VK_k {V K : Nat → Int} {s p : Nat} (hs : s < 6) : VK V K s (24 + (6 * p + s)) = K p := by
  unfold VK
  rw [if_pos (by omega), show (24 + (6 * p + s) - 24) / 6 = p by omega]
theorem VK_o {V K : Nat → Int} {s j : Nat} (h : ¬ (24 ≤ j ∧ (j - 24) % 6 = s)) : VK V K s j = V j := by
  unfold VK
  rw [if_neg h]
theorem VK_ok {V K : Nat → Int} {s : Nat} (hV : VOK V) (hK : ∀ p, p < 8 → -1 ≤ K p ∧ K p ≤ 9) : VOK0 (VK V K s) := by
  obtain ⟨c0, c1, c2, c3, c4, c5, c6⟩ := hV
  refine ⟨?_, ?_, ?_, ?_, fun i hi => ?_, fun q hq => ?_, fun q hq => ?_⟩
  · rw [VK_o (by omega)]; exact c0
  · rw [VK_o (by omega)]; exact c1
  · rw [VK_o (by omega)]; exact c2
  · rw [VK_o (by omega)]; exact c3
  · rw [VK_o (by omega)] at hi
    rw [VK_o (by omega), VK_o (by omega)]
    have := c4 i hi
    omega
  · rw [VK_o (by omega)] at hq
    rw [VK_o (by omega), VK_o (by omega)]
    exact c5 q hq
  · unfold VK
    split
    · exact hK _ (by omega)
    · exact c6 q hq
theorem VK_vc {V K K1 : Nat → Int} {s : Nat} {c d : Nat → Nat → Int} (hV : VOK V) (hc : VC c 42 (VK V K s)) (e1 : ∀ a k, 42 ≤ a → a ≤ 46 → d a k = c a k) (e2 : ∀ q, q < 48 → q % 6 ≠ s → d 47 q = c 47 q) (e3 : ∀ p, p < 8 → d 47 (6 * p + s) = K1 p) : VC d 42 (VK V K1 s) := by
  obtain ⟨c0, c1, c2, c3, c4, c5, c6⟩ := hc
  have v1 := hV.2.1
  have v2 := hV.2.2.1
  refine ⟨?_, ?_, ?_, ?_, fun i hi => ⟨?_, ?_⟩, fun q hq => ⟨?_, ?_⟩, fun q hq => ?_⟩
  · rw [VK_o (by omega), e1 _ _ (by omega) (by omega), c0, VK_o (by omega)]
  · rw [VK_o (by omega), e1 _ _ (by omega) (by omega), c1, VK_o (by omega)]
  · rw [VK_o (by omega), e1 _ _ (by omega) (by omega), c2, VK_o (by omega)]
  · rw [VK_o (by omega), e1 _ _ (by omega) (by omega), c3, VK_o (by omega)]
  · rw [VK_o (by omega)] at hi
    rw [VK_o (by omega), e1 _ _ (by omega) (by omega), (c4 i (by rw [VK_o (by omega)]; exact hi)).1, VK_o (by omega)]
  · rw [VK_o (by omega)] at hi
    rw [VK_o (by omega), e1 _ _ (by omega) (by omega), (c4 i (by rw [VK_o (by omega)]; exact hi)).2, VK_o (by omega)]
  · rw [VK_o (by omega)] at hq
    rw [VK_o (by omega), e1 _ _ (by omega) (by omega), (c5 q (by rw [VK_o (by omega)]; exact hq)).1, VK_o (by omega)]
  · rw [VK_o (by omega)] at hq
    rw [VK_o (by omega), e1 _ _ (by omega) (by omega), (c5 q (by rw [VK_o (by omega)]; exact hq)).2, VK_o (by omega)]
  · show d 47 q = _
    by_cases z : q % 6 = s
    · obtain ⟨p, rfl⟩ : ∃ p, q = 6 * p + s := ⟨q / 6, by omega⟩
      rw [VK_k (by omega), e3 p (by omega)]
    · rw [e2 q hq z, VK_o (by omega)]
      have := c6 q hq
      rw [VK_o (by omega)] at this
      exact this
section Calms
variable {V K : Nat → Int} {s : Nat} {h : AH}
theorem VK_held (hV : VOK V) (hs : (s : Int) < V 1) {p : Nat} (hp : (p : Int) < V 0) : sHeld (VK V K s) p s = K p := by
  have v1 := hV.2.1
  unfold sHeld
  rw [VK_o (j := 0) (by omega), VK_o (j := 1) (by omega), if_pos (by omega), Int.toNat_natCast, Int.toNat_natCast, VK_k (by omega)]
theorem VK_gap (hV : VOK V) (hs : (s : Int) < V 1) (hK : ∀ p, p < 8 → -1 ≤ K p ∧ K p ≤ 9) {a b : Nat} (ha : (a : Int) < V 0) (hb : (b : Int) < V 0) (hab : a ≠ b) : 0 < sGap (VK V K s) a b s ↔ dK K a b := by
  have v0 := hV.1
  have k1 := hK a (by omega)
  have k2 := hK b (by omega)
  unfold sGap dK
  rw [VK_held hV hs ha, VK_held hV hs hb]
  repeat' split
  all_goals omega
theorem c_agF (hV : VOK V) (hs : (s : Int) < V 1) (hK : ∀ p, p < 8 → -1 ≤ K p ∧ K p ≤ 9) (hc : VC h.2 42 (VK V K s)) : ((∀ a b, a < b → b < (V 0).toNat → ¬ dK K a b) ∧ f9_agreeFirst 42 s h = some (0, h)) ∨ ∃ a b, Fst (dK K) (V 0).toNat a b ∧ f9_agreeFirst 42 s h = some (1, wr (wr h 47 (6 * a + s) ((K a + K b) / 2)) 47 (6 * b + s) ((K a + K b) / 2)) := by
  have v0 := hV.1
  have v1 := hV.2.1
  have hz := VK_ok (s := s) hV hK
  have e0 : VK V K s 0 = V 0 := VK_o (by omega)
  unfold f9_agreeFirst l9_agreeFirst_2
  refine fr (fun X => ((∀ a b, a < b → b < (V 0).toNat → ¬ dK K a b) ∧ X = some (0, h)) ∨ ∃ a b, Fst (dK K) (V 0).toNat a b ∧ X = some (1, wr (wr h 47 (6 * a + s) ((K a + K b) / 2)) 47 (6 * b + s) ((K a + K b) / 2))) (fun (_ : Unit) i => (i, h)) (fun i _ => ∀ a b, a < i → a < b → b < (V 0).toNat → ¬ dK K a b) 0 (V 0).toNat () (fun a b q => by omega) (by omega) (by omega) (fun i _ _ hi hI rec => ?_) (fun _ hI rec => ?_)
  · unfold b9_agreeFirst_2 l9_agreeFirst_14
    dsimp only
    rw [hc.1, e0, w32_id (x := V 0) (by omega) (by omega), w32_id (x := (i : Int)) (by omega) (by omega), if_neg (by omega), lt_eq]
    have inn := fr (F := fun rec1 (z : Int × AH) => b9_agreeFirst_14 rec1 rec 42 s i z.1 z.2) (fun X => ((∀ b, i < b → b < (V 0).toNat → ¬ dK K i b) ∧ X = rec ((i : Int) + 1, h)) ∨ ∃ a b, Fst (dK K) (V 0).toNat a b ∧ X = some (1, wr (wr h 47 (6 * a + s) ((K a + K b) / 2)) 47 (6 * b + s) ((K a + K b) / 2))) (fun (_ : Unit) i => (i, h)) (fun j _ => ∀ b, i < b → b < j → ¬ dK K i b) (i + 1) (V 0).toNat () (fun b q1 q2 => by omega) (by omega) (by omega) (fun j _ hj1 hj hJ rec1 => ?_) (fun _ hJ rec1 => ?_)
    · rcases inn with ⟨n1, n2⟩ | n
      · right
        refine ⟨(), fun a b q1 q2 q3 => ?_, n2⟩
        rcases Nat.lt_or_ge a i with w | w
        · exact hI a b w q2 q3
        · rw [show a = i by omega] at q2 ⊢; exact n1 b q2 q3
      · exact Or.inl (Or.inr n)
    · have gr := zGap_rng hz i j s
      have gi := VK_gap hV hs hK (a := i) (b := j) (by omega) (by omega) (by omega)
      unfold b9_agreeFirst_14
      dsimp only
      rw [hc.1, e0, w32_id (x := V 0) (by omega) (by omega), w32_id (x := (j : Int)) (by omega) (by omega), if_neg (by omega), z_gap hz hc, bnd_some, w32_id (x := (i : Int)) (by omega) (by omega), w32_id (x := (j : Int)) (by omega) (by omega), w32_id (x := (s : Int)) (by omega) (by omega), w32_id (x := sGap (VK V K s) i j s) (by omega) (by omega)]
      by_cases q : sGap (VK V K s) i j s ≤ 0
      · right
        refine ⟨(), fun b q1 q2 => ?_, by rw [if_pos q]⟩
        rcases Nat.lt_or_ge b j with w | w
        · exact hJ b q1 w
        · rw [show b = j by omega]; exact fun w => by have := gi.mpr w; omega
      · left
        right
        have dk := gi.mp (by omega)
        have k1 := hK i (by omega)
        have k2 := hK j (by omega)
        obtain ⟨d1, d2, d3⟩ := dk
        refine ⟨i, j, ⟨by omega, hj, ⟨d1, d2, d3⟩, fun c d q1 q2 q3 => ?_⟩, ?_⟩
        · rcases q3 with q3 | ⟨rfl, q3⟩
          · exact hI c d q3 q1 q2
          · exact hJ d q1 q3
        · rw [if_neg q]
          unfold f9_agreeOn
          rw [z_gap hz hc, bnd_some, w32_id (x := (i : Int)) (by omega) (by omega), w32_id (x := (j : Int)) (by omega) (by omega), w32_id (x := (s : Int)) (by omega) (by omega), w32_id (x := sGap (VK V K s) i j s) (by omega) (by omega), if_pos (by omega), z_held hz hc, bnd_some, z_held hz hc, bnd_some, w32_id (x := (i : Int)) (by omega) (by omega), w32_id (x := (j : Int)) (by omega) (by omega), w32_id (x := (s : Int)) (by omega) (by omega), VK_held hV hs (by omega), VK_held hV hs (by omega), dv32_nn (by omega) (by omega), lt_eq, s_hold (by omega) (by omega), bnd_some, s_hold (by omega) (by omega), bnd_some, bnd_some, asrt_t (Or.inr w32_1)]
    · left
      refine ⟨hJ, ?_⟩
      unfold b9_agreeFirst_14
      dsimp only
      rw [hc.1, e0, w32_id (x := V 0) (by omega) (by omega), w32_id (x := ((V 0).toNat : Int)) (by omega) (by omega), if_pos (by omega)]
  · left
    refine ⟨fun a b q1 q2 => hI a b (by omega) q1 q2, ?_⟩
    unfold b9_agreeFirst_2
    dsimp only
    rw [hc.1, e0, w32_id (x := V 0) (by omega) (by omega), w32_id (x := ((V 0).toNat : Int)) (by omega) (by omega), if_pos (by omega)]
theorem m_calms (hV : VOK V) (hm : VM h.2 V) (hK : ∀ p, p < 8 → -1 ≤ K p ∧ K p ≤ 9) (h84 : ∀ p : Nat, (p : Int) < V 0 → h.2 84 p = K p) : ((∀ a b, a < b → b < (V 0).toNat → ¬ dK K a b) ∧ f11_calms h = some (0, h)) ∨ ∃ a b, Fst (dK K) (V 0).toNat a b ∧ f11_calms h = some (1, wr (wr h 84 a ((K a + K b) / 2)) 84 b ((K a + K b) / 2)) := by
  have v0 := hV.1
  unfold f11_calms l11_calms_2
  refine fr (fun X => ((∀ a b, a < b → b < (V 0).toNat → ¬ dK K a b) ∧ X = some (0, h)) ∨ ∃ a b, Fst (dK K) (V 0).toNat a b ∧ X = some (1, wr (wr h 84 a ((K a + K b) / 2)) 84 b ((K a + K b) / 2))) (fun (_ : Unit) i => (i, h)) (fun i _ => ∀ a b, a < i → a < b → b < (V 0).toNat → ¬ dK K a b) 0 (V 0).toNat () (fun a b q => by omega) (by omega) (by omega) (fun i _ _ hi hI rec => ?_) (fun _ hI rec => ?_)
  · unfold b11_calms_2 l11_calms_14
    dsimp only
    rw [vm_P hm, w32_id (x := V 0) (by omega) (by omega), w32_id (x := (i : Int)) (by omega) (by omega), if_neg (by omega), lt_eq]
    have inn := fr (F := fun rec1 (z : Int × AH) => b11_calms_14 rec1 rec i z.1 z.2) (fun X => ((∀ b, i < b → b < (V 0).toNat → ¬ dK K i b) ∧ X = rec ((i : Int) + 1, h)) ∨ ∃ a b, Fst (dK K) (V 0).toNat a b ∧ X = some (1, wr (wr h 84 a ((K a + K b) / 2)) 84 b ((K a + K b) / 2))) (fun (_ : Unit) i => (i, h)) (fun j _ => ∀ b, i < b → b < j → ¬ dK K i b) (i + 1) (V 0).toNat () (fun b q1 q2 => by omega) (by omega) (by omega) (fun j _ hj1 hj hJ rec1 => ?_) (fun _ hJ rec1 => ?_)
    · rcases inn with ⟨n1, n2⟩ | n
      · right
        refine ⟨(), fun a b q1 q2 q3 => ?_, n2⟩
        rcases Nat.lt_or_ge a i with w | w
        · exact hI a b w q2 q3
        · rw [show a = i by omega] at q2 ⊢; exact n1 b q2 q3
      · exact Or.inl (Or.inr n)
    · have k1 := hK i (by omega)
      have k2 := hK j (by omega)
      have no : ¬ dK K i j → ∀ b, i < b → b < j + 1 → ¬ dK K i b := fun w b q1 q2 => by
        rcases Nat.lt_or_ge b j with z | z
        · exact hJ b q1 z
        · rw [show b = j by omega]; exact w
      unfold b11_calms_14 b11_calms_95
      dsimp only
      rw [vm_P hm, w32_id (x := V 0) (by omega) (by omega), w32_id (x := (j : Int)) (by omega) (by omega), w32_id (x := (i : Int)) (by omega) (by omega), if_neg (by omega), asrt_t (by omega), Int.toNat_natCast, Int.toNat_natCast, h84 i (by omega), h84 j (by omega), w32_id (x := K i) (by omega) (by omega), w32_id (x := K j) (by omega) (by omega)]
      by_cases c1 : K i = -1
      · right
        exact ⟨(), no (fun w => w.1 c1), by rw [if_pos c1]⟩
      rw [if_neg c1, asrt_t (by omega)]
      by_cases c2 : K j = -1
      · right
        exact ⟨(), no (fun w => w.2.1 c2), by rw [if_pos c2]⟩
      rw [if_neg c2, asrt_t (by omega), asrt_t (by omega)]
      by_cases c3 : K i = K j
      · right
        exact ⟨(), no (fun w => w.2.2 c3), by rw [if_neg (fun w => w c3)]⟩
      · left
        right
        refine ⟨i, j, ⟨by omega, hj, ⟨c1, c2, c3⟩, fun c d q1 q2 q3 => ?_⟩, ?_⟩
        · rcases q3 with q3 | ⟨rfl, q3⟩
          · exact hI c d q3 q1 q2
          · exact hJ d q1 q3
        · rw [if_pos c3, asrt_t (by omega), asrt_t (by omega), asrt_t (by omega), lt_eq, asrt_t (by omega), asrt_t (by omega), lt_eq, dv32_nn (by omega) (by omega), wr_at]
    · left
      refine ⟨hJ, ?_⟩
      unfold b11_calms_14
      dsimp only
      rw [vm_P hm, w32_id (x := V 0) (by omega) (by omega), w32_id (x := ((V 0).toNat : Int)) (by omega) (by omega), if_pos (by omega)]
  · left
    refine ⟨fun a b q1 q2 => hI a b (by omega) q1 q2, ?_⟩
    unfold b11_calms_2
    dsimp only
    rw [vm_P hm, w32_id (x := V 0) (by omega) (by omega), w32_id (x := ((V 0).toNat : Int)) (by omega) (by omega), if_pos (by omega)]
theorem sm_upd {f : Nat → Int} {a n : Nat} {x : Int} (ha : a < n) : sm (fun i => if i = a then x else f i) n = sm f n - f a + x := by
  induction n with
  | zero => omega
  | succ n ih =>
    simp only [sm]
    rcases Nat.lt_or_ge a n with q | q
    · rw [ih q, if_neg (by omega)]; omega
    · have : a = n := by omega
      subst this
      rw [if_pos rfl, sm_cong (g := f) (fun i hi => by rw [if_neg (by omega)])]; omega
def kU (K : Nat → Int) (a b p : Nat) : Int := if p = b then (K a + K b) / 2 else if p = a then (K a + K b) / 2 else K p
theorem sq_less : ∀ x : Nat, x < 10 → ∀ y : Nat, y < 10 → x ≠ y → 2 * (((x + y) / 2) * ((x + y) / 2)) < x * x + y * y := by decide
def sqs (K : Nat → Int) (n : Nat) : Int := sm (fun p => K p * K p) n
theorem sqs_up {n a b : Nat} (hK : ∀ p, p < 8 → -1 ≤ K p ∧ K p ≤ 9) (hn : n ≤ 8) (hF : Fst (dK K) n a b) : sqs (kU K a b) n < sqs K n := by
  obtain ⟨h1, h2, ⟨d1, d2, d3⟩, -⟩ := hF
  have k1 := hK a (by omega)
  have k2 := hK b (by omega)
  obtain ⟨x, hx⟩ : ∃ x : Nat, K a = x := ⟨(K a).toNat, by omega⟩
  obtain ⟨y, hy⟩ : ∃ y : Nat, K b = y := ⟨(K b).toNat, by omega⟩
  have e : sqs (kU K a b) n = sm (fun i => if i = b then ((K a + K b) / 2) * ((K a + K b) / 2) else (fun j => if j = a then ((K a + K b) / 2) * ((K a + K b) / 2) else K j * K j) i) n := by
    unfold sqs
    apply sm_cong
    intro i _
    unfold kU
    simp only
    split
    · rfl
    · split <;> rfl
  rw [e, sm_upd (by omega), sm_upd (by omega), if_neg (by omega)]
  unfold sqs
  have q := sq_less x (by omega) y (by omega) (by omega)
  have z : (K a + K b) / 2 = (((x + y) / 2 : Nat) : Int) := by rw [hx, hy]; omega
  rw [z, hx, hy]
  have : ((x * x + y * y : Nat) : Int) = (x : Int) * x + (y : Int) * y := by simp
  have : ((2 * (((x + y) / 2) * ((x + y) / 2)) : Nat) : Int) = 2 * ((((x + y) / 2 : Nat) : Int) * (((x + y) / 2 : Nat) : Int)) := by simp
  omega
theorem sqs_rng {n : Nat} (hK : ∀ p, p < 8 → -1 ≤ K p ∧ K p ≤ 9) (hn : n ≤ 8) : 0 ≤ sqs K n ∧ sqs K n ≤ 648 := by
  have := sm_rng (f := fun p => K p * K p) (n := n) (lo := 0) (hi := 81) (fun i hi => by
    have k := hK i (by omega)
    rcases Int.lt_or_le (K i) 0 with q | q
    · rw [show K i = -1 by omega]; decide
    · exact mul_rng (a := 9) (b := 9) (by omega) (by omega))
  unfold sqs
  omega
end Calms
