/-! circle: the model -/
section CircleM
variable {V : Nat → Int} {h : AH}
def lgV (V : Nat → Int) (S : Nat) (l : Int) : Int × Int := lpN (apV V) (V 0).toNat (fre S (V 0).toNat) S l
/-- the longest rows of the sets above S are known -/
def LO (V : Nat → Int) (h : AH) (S : Nat) : Prop := ∀ T l, S < T → T < 2 ^ (V 0).toNat → l < (V 0).toNat → T.testBit l = true → h.2 87 (8 * T + l) = (lgV V T l).2
theorem or_pow {S a : Nat} (h : S.testBit a = false) : S < S ||| 2 ^ a := by
  have h1 : S ≤ S ||| 2 ^ a := Nat.left_le_or
  rcases Nat.lt_or_ge S (S ||| 2 ^ a) with q | q
  · exact q
  · have e : S ||| 2 ^ a = S := by omega
    have : (S ||| 2 ^ a).testBit a = true := by rw [Nat.testBit_or, Nat.testBit_two_pow, decide_eq_true rfl, Bool.or_true]
    rw [e, h] at this
    exact absurd this (by decide)
theorem or_self_tb (S a : Nat) : (S ||| 2 ^ a).testBit a = true := by rw [Nat.testBit_or, Nat.testBit_two_pow, decide_eq_true rfl, Bool.or_true]
def candV (V : Nat → Int) (S : Nat) (l : Int) (a : Nat) : Int := if cnd (apV V) S l a then 1 + (lgV V (S ||| 2 ^ a) a).2 else 0
theorem lg_bst (hV : VOK V) (S : Nat) (l : Int) : lgV V S l = bst (candV V S l) (V 0).toNat := by
  unfold lgV
  generalize hm : fre S (V 0).toNat = m
  cases m with
  | zero =>
    show (-1, 0) = _
    rw [bst_none (fun i hi => ?_)]
    unfold candV cnd
    rw [fre_z hi hm]
    simp
  | succ m =>
    show bst _ _ = _
    refine bst_cong (fun i hi => ?_)
    unfold candV
    cases q : cnd (apV V) S l i
    · rfl
    · have : S.testBit i = false := by
        unfold cnd at q
        simp at q
        exact q.1
      have f := fre_set hi this
      unfold lgV
      rw [show fre (S ||| 2 ^ i) (V 0).toNat = m by omega]
theorem lg_rng (V : Nat → Int) (S : Nat) (l : Int) : (0 ≤ (lgV V S l).2 ∧ (lgV V S l).2 ≤ (V 0).toNat) ∧ -1 ≤ (lgV V S l).1 ∧ (lgV V S l).1 < (V 0).toNat := by
  have := lpN_rng (apV V) (V 0).toNat (fre S (V 0).toNat) S l
  have f := fc_le (fun i => !S.testBit i) (V 0).toNat
  unfold fre at *
  unfold lgV fre
  omega
theorem cand_rng (V : Nat → Int) (S : Nat) (l : Int) (a : Nat) : 0 ≤ candV V S l a ∧ candV V S l a ≤ (V 0).toNat + 1 := by
  have := (lg_rng V (S ||| 2 ^ a) a).1
  unfold candV
  split <;> omega
theorem m_longest (hV : VOK V) (hm : VM h.2 V) {S : Nat} (hS : S < 2 ^ (V 0).toNat) (hL : LO V h S) {l : Int} (hl : l = -1 ∨ (0 ≤ l ∧ l < V 0)) : f11_longest S l h = some ((lgV V S l).2, h) := by
  have v0 := hV.1
  have pn := pow_n hV
  rw [lg_bst hV]
  unfold f11_longest l11_longest_5
  refine loop2 (fun i => (bst (candV V S l) i).2) (V 0).toNat h (fun a ha rec => ?_) (fun rec => ?_) (by omega)
  · have cr := cand_rng V S l a
    have br := bst_rng (f := candV V S l) (n := a) (hi := 9) (by omega) (fun j _ => by have := cand_rng V S l j; omega)
    have key : b11_longest_5 rec S l (bst (candV V S l) a).2 a h = if cnd (apV V) S l a then b11_longest_38 rec S l (bst (candV V S l) a).2 a h else rec ((bst (candV V S l) a).2, (a : Int) + 1, h) := by
      unfold b11_longest_5 b11_longest_81
      rw [vm_P hm, w32_id (x := V 0) (by omega) (by omega), w32_id (x := (a : Int)) (by omega) (by omega), if_neg (by omega), bit_s (by omega) (by omega), w32_id (x := l) (by omega) (by omega), ite_b]
      unfold cnd
      cases q : S.testBit a
      · rw [if_neg (by decide)]
        by_cases z : l = -1
        · rw [if_pos z, decide_eq_true z]; rfl
        · have il : f11_isApart l (a : Int) h = some (if sAp V l a then 1 else 0, h) := m_isAp hV hm l a (by omega) (by omega)
          have el : apV V l.toNat a = sAp V l a := by unfold apV; rw [show ((l.toNat : Nat) : Int) = l by omega]
          rw [if_neg z, decide_eq_false z, il, bnd_some, el]
          cases sAp V l a <;> rfl
      · rw [if_pos (by decide)]; rfl
    show b11_longest_5 rec S l (bst (candV V S l) a).2 a h = rec ((bst (candV V S l) (a + 1)).2, (a : Int) + 1, h)
    rw [key]
    cases q : cnd (apV V) S l a
    · have e : candV V S l a = 0 := by unfold candV; rw [q]; rfl
      have e2 : bst (candV V S l) (a + 1) = bst (candV V S l) a := by
        simp only [bst]
        rw [e, if_neg (by omega)]
      rw [if_neg (by decide), e2]
    · have e : candV V S l a = 1 + (lgV V (S ||| 2 ^ a) a).2 := by unfold candV; rw [q]; rfl
      have Sa : S.testBit a = false := by
        unfold cnd at q
        simp at q
        exact q.1
      have ol : S ||| 2 ^ a < 2 ^ (V 0).toNat := Nat.or_lt_two_pow hS (Nat.pow_lt_pow_right (by omega) ha)
      have lo := hL (S ||| 2 ^ a) a (or_pow Sa) ol ha (or_self_tb S a)
      rw [if_pos rfl]
      unfold b11_longest_38 b11_longest_81
      rw [shl32_1 (by omega), or32_nat (by omega) (pow_lt31 (by omega)), show 8 * ((S ||| 2 ^ a : Nat) : Int) + (a : Int) = ((8 * (S ||| 2 ^ a) + a : Nat) : Int) from rfl, w32_id (x := ((8 * (S ||| 2 ^ a) + a : Nat) : Int)) (by omega) (by omega), asrt_t (by omega), asrt_t (by omega), Int.toNat_natCast, lo, ← e, lt_eq, w32_id (x := candV V S l a) (by omega) (by omega), w32_id (x := (bst (candV V S l) a).2) (by omega) (by omega)]
      simp only [bst]
      by_cases c : (bst (candV V S l) a).2 < candV V S l a
      · rw [if_neg (by omega), if_pos c]
      · rw [if_pos (by omega), if_neg c]
  · unfold b11_longest_5
    dsimp only
    rw [vm_P hm, w32_id (x := V 0) (by omega) (by omega), w32_id (x := ((V 0).toNat : Int)) (by omega) (by omega), if_pos (by omega)]
def kLg (a _k : Nat) : Prop := a = 87
theorem VM.lg {w : AH} (hm : VM h.2 V) (k : Ky kLg h w) : VM w.2 V := k.vm (fun k _ _ => by unfold kLg; omega) (fun k => by unfold kLg; omega) hm
theorem m_c31 (hV : VOK V) (hm : VM h.2 V) {S : Nat} (hS : S < 2 ^ (V 0).toNat) (hL : LO V h S) (x2 : Int) (rec24 : Int × AH → Option (Int × AH)) : ∃ h1, l11_circle_31 rec24 x2 S 0 h = rec24 ((S : Int) + (-1), h1) ∧ Ky kLg h h1 ∧ ∀ T l, S ≤ T → T < 2 ^ (V 0).toNat → l < (V 0).toNat → T.testBit l = true → h1.2 87 (8 * T + l) = (lgV V T l).2 := by
  have v0 := hV.1
  have pn := pow_n hV
  unfold l11_circle_31
  refine fr (fun X => ∃ h1, X = rec24 ((S : Int) + (-1), h1) ∧ Ky kLg h h1 ∧ ∀ T l, S ≤ T → T < 2 ^ (V 0).toNat → l < (V 0).toNat → T.testBit l = true → h1.2 87 (8 * T + l) = (lgV V T l).2) (fun (s : AH) i => (i, s)) (fun i w => Ky kLg h w ∧ LO V w S ∧ ∀ l, l < i → S.testBit l = true → w.2 87 (8 * S + l) = (lgV V S l).2) 0 (V 0).toNat h ⟨Ky.rf h, hL, fun l hl => by omega⟩ (by omega) (by omega) (fun l w _ hl hI rec => ?_) (fun w hI rec => ?_)
  · right
    obtain ⟨i1, i2, i3⟩ := hI
    have hm2 := hm.lg i1
    have upd : ∀ x : Int, (S.testBit l = true → x = (lgV V S l).2) → (Ky kLg h (wr w 87 (8 * S + l) x) ∧ LO V (wr w 87 (8 * S + l) x) S ∧ ∀ j, j < l + 1 → S.testBit j = true → (wr w 87 (8 * S + l) x).2 87 (8 * S + j) = (lgV V S j).2) := fun x hx => by
      refine ⟨i1.w2 rfl, fun T j t1 t2 t3 t4 => ?_, fun j hj tj => ?_⟩
      · rw [wr_e (by omega)]; exact i2 T j t1 t2 t3 t4
      · by_cases z : j = l
        · subst z; rw [wr_at]; exact hx tj
        · rw [wr_e (by omega)]; exact i3 j (by omega) tj
    unfold b11_circle_31 b11_circle_72
    dsimp only
    rw [vm_P hm2, w32_id (x := V 0) (by omega) (by omega), w32_id (x := (l : Int)) (by omega) (by omega), if_neg (by omega), bit_s (by omega) (by omega), m_longest hV hm2 hS i2 (Or.inr (by omega)), bnd_some, show 8 * (S : Int) + (l : Int) = ((8 * S + l : Nat) : Int) from rfl, w32_id (x := ((8 * S + l : Nat) : Int)) (by omega) (by omega), asrt_t (by omega), asrt_t (by omega), lt_eq, lt_eq, Int.toNat_natCast, ite_b]
    cases q : S.testBit l
    · rw [if_pos (by decide)]
      exact ⟨_, upd 0 (fun z => by rw [q] at z; exact absurd z (by decide)), rfl⟩
    · rw [if_neg (by decide)]
      exact ⟨_, upd _ (fun _ => rfl), rfl⟩
  · obtain ⟨i1, i2, i3⟩ := hI
    refine ⟨w, ?_, i1, fun T l t1 t2 t3 t4 => ?_⟩
    · unfold b11_circle_31
      dsimp only
      rw [vm_P (hm.lg i1), w32_id (x := V 0) (by omega) (by omega), w32_id (x := ((V 0).toNat : Int)) (by omega) (by omega), if_pos (by omega)]
    · rcases Nat.lt_or_ge S T with z | z
      · exact i2 T l z t2 t3 t4
      · rw [show T = S by omega] at t4 ⊢
        exact i3 l t3 t4
/-- the row that the model tells, by and by -/
theorem m_c108 (hV : VOK V) (hm : VM h.2 V) (hL : LO V h 0) {x2 : Int} (hx2 : Rg x2) (hx0 : 0 ≤ x2) (m : Nat) : ∀ (count S : Nat) (l : Int), count + m = (V 0).toNat → fre S (V 0).toNat = m → S < 2 ^ (V 0).toNat → (l = -1 ∨ (0 ≤ l ∧ l < V 0)) → (count : Int) ≤ x2 → ∀ k, m < k → fx (fun rec z => b11_circle_108 rec x2 z.1 z.2.1 z.2.2.1 z.2.2.2.1 z.2.2.2.2) k ((lgV V S l).2, (S : Int), l, (count : Int), h) = some (if x2 < count + (lgV V S l).2 then gpN (apV V) (V 0).toNat m S l (x2 - count).toNat else -1, h) := by
  have v0 := hV.1
  have pn := pow_n hV
  induction m with
  | zero =>
    intro count S l hc hf hS hl hx k hk
    obtain ⟨j, rfl⟩ : ∃ j, k = j + 1 := ⟨k - 1, by omega⟩
    have e : (lgV V S l).2 = 0 := by unfold lgV; rw [hf]; rfl
    rw [fx_succ, e]
    show b11_circle_108 _ x2 0 S l count h = _
    unfold b11_circle_108
    rw [if_pos (by decide), if_neg (by omega)]
  | succ m ih =>
    intro count S l hc hf hS hl hx k hk
    obtain ⟨j, rfl⟩ : ∃ j, k = j + 1 := ⟨k - 1, by omega⟩
    have lr := lg_rng V S l
    have lb := lg_bst hV S l
    rw [fx_succ]
    show b11_circle_108 (fx (fun rec z => b11_circle_108 rec x2 z.1 z.2.1 z.2.2.1 z.2.2.2.1 z.2.2.2.2) j) x2 (lgV V S l).2 S l count h = _
    generalize hR : fx (fun rec (z : Int × Int × Int × Int × AH) => b11_circle_108 rec x2 z.1 z.2.1 z.2.2.1 z.2.2.2.1 z.2.2.2.2) j = R
    unfold b11_circle_108
    rw [w32_id (x := (lgV V S l).2) (by omega) (by omega)]
    by_cases z : (lgV V S l).2 ≤ 0
    · rw [if_pos z, if_neg (by omega)]
    rw [if_neg z]
    have lm : lgV V S l = lpN (apV V) (V 0).toNat (m + 1) S l := by unfold lgV; rw [hf]
    -- the first that is best
    have bv := bst_val (candV V S l) (V 0).toNat
    rw [← lb] at bv
    obtain ⟨a, a1, a2, a3⟩ : ∃ a : Nat, a < (V 0).toNat ∧ (lgV V S l).1 = a ∧ (lgV V S l).2 = candV V S l a := by
      rcases bv with bv | bv
      · omega
      · exact bv
    clear bv
    have bf : ∀ i : Nat, i < a → candV V S l i < (lgV V S l).2 := fun i hi => by
      rw [lb]
      apply bst_first
      rw [← lb, a2]; omega
    have ca : cnd (apV V) S l a = true := by
      cases q : cnd (apV V) S l a
      · have : candV V S l a = 0 := by unfold candV; rw [q]; rfl
        omega
      · rfl
    have Sa : S.testBit a = false := by
      have q := ca
      unfold cnd at q
      simp at q
      exact q.1
    have ce : candV V S l a = 1 + (lgV V (S ||| 2 ^ a) a).2 := by unfold candV; rw [ca]; rfl
    have ol : S ||| 2 ^ a < 2 ^ (V 0).toNat := Nat.or_lt_two_pow hS (Nat.pow_lt_pow_right (by omega) a1)
    have fs := fre_set a1 Sa
    have step : ∀ (rec115 : Int × AH → Option (Int × AH)) (rec108 : Int × Int × Int × Int × AH → Option (Int × AH)) (i : Nat), i ≤ a → b11_circle_115 rec115 rec108 x2 (lgV V S l).2 S l count i h = if i = a then (if ¬ (count : Int) = x2 then rec108 ((lgV V S l).2 + (-1), ((S ||| 2 ^ a : Nat) : Int), (a : Int), (count : Int) + 1, h) else some ((a : Int), h)) else rec115 ((i : Int) + 1, h) := fun rec115 rec108 i hi => by
      have k1 : b11_circle_115 rec115 rec108 x2 (lgV V S l).2 S l count i h = if cnd (apV V) S l i then b11_circle_143 rec108 rec115 x2 (lgV V S l).2 S l count i h else rec115 ((i : Int) + 1, h) := by
        unfold b11_circle_115 b11_circle_167
        rw [bit_s (by omega) (by omega), w32_id (x := l) (by omega) (by omega), ite_b]
        unfold cnd
        cases q : S.testBit i
        · rw [if_neg (by decide)]
          by_cases y : l = -1
          · rw [if_pos y, decide_eq_true y]; rfl
          · have il : f11_isApart l (i : Int) h = some (if sAp V l i then 1 else 0, h) := m_isAp hV hm l i (by omega) (by omega)
            have el : apV V l.toNat i = sAp V l i := by unfold apV; rw [show ((l.toNat : Nat) : Int) = l by omega]
            rw [if_neg y, decide_eq_false y, il, bnd_some, el]
            cases sAp V l i <;> rfl
        · rw [if_pos (by decide)]; rfl
      rw [k1]
      cases q : cnd (apV V) S l i
      · rw [if_neg (by decide), if_neg (fun y => by rw [y, ca] at q; exact absurd q (by decide))]
      · have Si : S.testBit i = false := by
          have q2 := q
          unfold cnd at q2
          simp at q2
          exact q2.1
        have oi : S ||| 2 ^ i < 2 ^ (V 0).toNat := Nat.or_lt_two_pow hS (Nat.pow_lt_pow_right (by omega) (by omega))
        have lo := hL (S ||| 2 ^ i) i (by have := or_pow Si; omega) oi (by omega) (or_self_tb S i)
        have ci : candV V S l i = 1 + (lgV V (S ||| 2 ^ i) i).2 := by unfold candV; rw [q]; rfl
        have cr := cand_rng V S l i
        rw [if_pos rfl]
        unfold b11_circle_143 b11_circle_167
        rw [shl32_1 (by omega), or32_nat (by omega) (pow_lt31 (by omega)), show 8 * ((S ||| 2 ^ i : Nat) : Int) + (i : Int) = ((8 * (S ||| 2 ^ i) + i : Nat) : Int) from rfl, w32_id (x := ((8 * (S ||| 2 ^ i) + i : Nat) : Int)) (by omega) (by omega), asrt_t (by omega), Int.toNat_natCast, lo, ← ci, w32_id (x := candV V S l i) (by omega) (by omega), w32_id (x := (lgV V S l).2) (by omega) (by omega), w32_id (x := (count : Int)) (by omega) (by omega), w32_id hx2.1 hx2.2, lt_eq]
        by_cases y : i = a
        · subst y
          rw [if_pos a3.symm, if_pos rfl]
        · have := bf i (by omega)
          rw [if_neg (by omega), if_neg y]
    have run : l11_circle_115 R x2 (lgV V S l).2 S l count 0 h = (if ¬ (count : Int) = x2 then R ((lgV V S l).2 + (-1), ((S ||| 2 ^ a : Nat) : Int), (a : Int), (count : Int) + 1, h) else some ((a : Int), h)) := by
      unfold l11_circle_115
      refine loop1 a h (fun i hi rec => ?_) (fun rec => ?_) (by omega)
      · have := step rec R i (by omega)
        dsimp only
        rw [this, if_neg (by omega)]
      · have := step rec R a (by omega)
        dsimp only
        rw [this, if_pos rfl]
    rw [run]
    have gp : ∀ i, gpN (apV V) (V 0).toNat (m + 1) S l (i + 1) = gpN (apV V) (V 0).toNat m (S ||| 2 ^ a) a i := fun i => by
      show gpN (apV V) (V 0).toNat m (S ||| 2 ^ (lpN (apV V) (V 0).toNat (m + 1) S l).1.toNat) (lpN (apV V) (V 0).toNat (m + 1) S l).1 i = _
      rw [← lm, a2, Int.toNat_natCast]
    by_cases y : (count : Int) = x2
    · rw [if_neg (fun w => w y), if_pos (by omega), show (x2 - (count : Int)).toNat = 0 by omega]
      show some ((a : Int), h) = some ((lpN (apV V) (V 0).toNat (m + 1) S l).1, h)
      rw [← lm, a2]
    · have e1 : (lgV V S l).2 + (-1) = (lgV V (S ||| 2 ^ a) a).2 := by omega
      rw [if_pos y, e1, show (count : Int) + 1 = ((count + 1 : Nat) : Int) from rfl, ← hR, ih (count + 1) (S ||| 2 ^ a) a (by omega) (by omega) ol (Or.inr (by omega)) (by omega) j (by omega)]
      have e2 : (x2 - (count : Int)).toNat = (x2 - ((count + 1 : Nat) : Int)).toNat + 1 := by omega
      rw [e2, gp]
      by_cases w : x2 < count + (lgV V S l).2
      · rw [if_pos w, if_pos (by omega)]
      · rw [if_neg w, if_neg (by omega)]
def sCir (V : Nat → Int) (k : Int) : Int := if k = -1 then (lgV V 0 (-1)).2 else if 0 ≤ k ∧ k < (lgV V 0 (-1)).2 then gpN (apV V) (V 0).toNat (V 0).toNat 0 (-1) k.toNat else -1
theorem fre_0 (n : Nat) : fre 0 n = n := by
  unfold fre
  induction n with
  | zero => rfl
  | succ n ih => rw [fc_s1 (by rw [Nat.zero_testBit]; rfl), ih]
theorem m_circle (hV : VOK V) (hm : VM h.2 V) {x2 : Int} (hx2 : Rg x2) (hx1 : -1 ≤ x2) : ∃ h1, l11_circle_24 x2 (shl32 1 (V 0) - 1) h = some (sCir V x2, h1) ∧ Ky kLg h h1 := by
  have v0 := hV.1
  have pn := pow_n hV
  have pp : 0 < 2 ^ (V 0).toNat := Nat.pow_pos (by omega)
  unfold l11_circle_24
  rw [shl_n hV, show ((2 ^ (V 0).toNat : Nat) : Int) - 1 = ((2 ^ (V 0).toNat - 1 : Nat) : Int) by omega]
  refine wh (fun m (z : Int × AH) => z.1 = (m : Int) ∧ m < 2 ^ (V 0).toNat ∧ Ky kLg h z.2 ∧ LO V z.2 m) (fun X => ∃ h1, X = some (sCir V x2, h1) ∧ Ky kLg h h1) (fun S z hp rec => ?_) FU (2 ^ (V 0).toNat - 1) (_, h) ⟨rfl, by omega, Ky.rf h, fun T l t1 t2 => by omega⟩ (FU_big (by omega))
  obtain ⟨z1, z⟩ := z
  obtain ⟨p1, p2, p3, p4⟩ := hp
  simp only at p1 p2 p3 p4
  subst p1
  have hm2 := hm.lg p3
  by_cases q : S = 0
  · left
    subst q
    have lr := lg_rng V 0 (-1)
    have f0 := fre_0 (V 0).toNat
    unfold b11_circle_24 sCir
    dsimp only
    rw [if_pos (by decide)]
    have ml := m_longest hV hm2 (S := 0) pp p4 (l := -1) (Or.inl rfl)
    rw [show (((0 : Nat) : Int)) = 0 from rfl] at ml
    rw [ml, bnd_some, w32_id hx2.1 hx2.2]
    refine ⟨z, ?_, p3⟩
    by_cases d : x2 = -1
    · rw [if_neg (fun w => w d), if_pos d]
    · have c := m_c108 hV hm2 p4 hx2 (by omega) (V 0).toNat 0 0 (-1) (by omega) f0 pp (Or.inl rfl) (by omega) FU (FU_big (by omega))
      rw [if_pos d, if_neg d]
      unfold l11_circle_108
      rw [show (((0 : Nat) : Int)) = 0 from rfl] at c
      rw [c, Int.zero_add, Int.sub_zero]
      by_cases e : x2 < (lgV V 0 (-1)).2
      · rw [if_pos e, if_pos (by omega)]
      · rw [if_neg e, if_neg (by omega)]
  · right
    obtain ⟨h1, a1, a2, a3⟩ := m_c31 hV hm2 p2 p4 x2 rec
    refine ⟨S - 1, ((S : Int) + (-1), h1), by omega, ⟨by simp only; omega, by omega, p3.tr a2, fun T l t1 t2 t3 t4 => a3 T l (by omega) t2 t3 t4⟩, ?_⟩
    unfold b11_circle_24
    dsimp only
    rw [w32_id (x := (S : Int)) (by omega) (by omega), if_neg (by omega), a1]
end CircleM
theorem q_circle {x1 x2 : Int} (hx1 : Rg x1) (hx2 : Rg x2) : Agr (f10_circle x1 x2) (f11_circle x1 x2) := by
  refine agr_v hx1 (fun h e => ⟨-1, ?_, fun e2 => ?_⟩) (fun h v V hV hc h7 h17 e => ?_)
  · unfold f10_circle
    simp (disch := omega) only [w32_id, w32_0, w32_1, w32_m, if_pos, if_neg, bnd_some, lt_eq, asrt_t, ite10_0, ite10_or, e]
  · unfold f11_circle
    rw [e2, bnd_some, ite_w0]
  · have v0 := hV.1
    have pn := pow_n hV
    have pp : 0 < 2 ^ (V 0).toNat := Nat.pow_pos (by omega)
    have lr := lg_rng V 0 (-1)
    obtain ⟨h1, a1, a2, a3⟩ := c_gatherCh hV hc (by omega)
    have hC : CH V (wr h1 62 1 0) := ⟨by rw [wr_e (by omega)]; exact a3.1, fun a ha => by rw [wr_e (by omega)]; exact a3.2 a ha⟩
    obtain ⟨h2, b1, b2, -, b4, b5⟩ := c_grow hV (V 0).toNat 10 0 0 (2 ^ (V 0).toNat - 1) (-1) (wr h1 62 1 0) (by omega) (by omega) (fre_0 _) (by omega) (by omega) (fun a ha _ => by
      rw [Nat.testBit_two_pow_sub_one, decide_eq_true ha, decide_eq_true rfl]; rfl) hC (by rw [wr_at]; omega)
    have lg : lgV V 0 (-1) = lpN (apV V) (V 0).toNat (V 0).toNat 0 (-1) := by unfold lgV; rw [fre_0]
    rw [← lg, wr_at] at b4 b5
    have fl : f0_findLongest h1 = some (0, h2) := by
      unfold f0_findLongest
      rw [lt_eq, hC.1, shl_n hV, show ((2 ^ (V 0).toNat : Nat) : Int) - 1 = ((2 ^ (V 0).toNat - 1 : Nat) : Int) by omega]
      rw [show (((0 : Nat) : Int)) = 0 from rfl] at b1
      rw [b1, bnd_some]
    have hB : h2.2 62 1 = (lgV V 0 (-1)).2 ∧ ∀ i : Nat, (i : Int) < (lgV V 0 (-1)).2 → h2.2 63 i = gpN (apV V) (V 0).toNat (V 0).toNat 0 (-1) i := by
      by_cases z : (0 : Int) < ((0 : Nat) : Int) + (lgV V 0 (-1)).2
      · obtain ⟨s1, s2⟩ := b4 z
        refine ⟨by omega, fun i hi => ?_⟩
        rw [s2 i (by omega), if_neg (by omega)]
        rfl
      · obtain ⟨s1, s2⟩ := b5 z
        exact ⟨by omega, fun i hi => by omega⟩
    have pk2 : PK h h2 := (a2.pk (fun a k z => by omega)).tr ((wr_PK (by omega)).tr (b2.pk (fun a k z => by unfold kCh at z; omega)))
    refine ⟨sCir V x2, h2, ?_, pk2, fun hs e1 hm => ?_⟩
    · unfold f10_circle sCir
      rw [e, bnd_some, if_neg (by omega), Int.toNat_natCast, a1, bnd_some, fl, bnd_some, w32_id hx2.1 hx2.2, hB.1, w32_id (x := (lgV V 0 (-1)).2) (by omega) (by omega)]
      by_cases d0 : x2 = -1
      · rw [if_neg (fun w => w d0), if_pos d0]
      rw [if_pos d0, if_neg d0]
      by_cases d1 : 0 ≤ x2 ∧ x2 < (lgV V 0 (-1)).2
      · rw [if_neg (by omega), if_neg (by omega), if_pos d1, asrt_t (by omega), hB.2 _ (by omega)]
      · rw [if_neg d1]
        by_cases d2 : x2 < 0
        · rw [if_pos d2]
        · rw [if_neg d2, if_pos (by omega)]
    · unfold f11_circle
      rw [e1, bnd_some, ite_w1, w32_id hx2.1 hx2.2, lt_eq, vm_P hm]
      by_cases d : -1 ≤ x2
      · obtain ⟨h3, c1, c2⟩ := m_circle hV hm hx2 d
        rw [if_pos d, c1]
        exact ⟨h3, rfl, c2.pk (fun a k z => by unfold kLg at z; omega)⟩
      · rw [if_neg d]
        refine ⟨hs, ?_, PK.rf hs⟩
        unfold sCir
        rw [if_neg (by omega), if_neg (by omega)]
