/-! calm: what is asked of a village as told -/
theorem dv32_nn {x n : Int} (hx : 0 ≤ x ∧ x < 2147483648) (hn : 0 < n ∧ n < 2147483648) : dv32 x n = x / n := by
  unfold dv32
  rw [w32_id (x := x) (by omega) (by omega), w32_id (x := n) (by omega) (by omega), Int.tdiv_eq_ediv_of_nonneg hx.1]
/-- the first that is held, or -1 -/
def fhv (K : Nat → Int) : Nat → Int
  | 0 => -1
  | n + 1 => if fhv K n = -1 then K n else fhv K n
theorem fhv_hit {K : Nat → Int} {i n : Nat} (h : fhv K i = -1) (hK : K i ≠ -1) (hi : i < n) : fhv K n = K i := by
  induction n with
  | zero => omega
  | succ n ih =>
    simp only [fhv]
    rcases Nat.lt_or_ge i n with q | q
    · rw [ih q, if_neg hK]
    · rw [show n = i by omega, if_pos h]
theorem fhv_none {K : Nat → Int} {n : Nat} : fhv K n = -1 ↔ ∀ i, i < n → K i = -1 := by
  induction n with
  | zero => exact ⟨fun _ i hi => by omega, fun _ => rfl⟩
  | succ n ih =>
    simp only [fhv]
    constructor
    · intro q
      split at q
      · rename_i w
        intro i hi
        rcases Nat.lt_or_ge i n with z | z
        · exact ih.mp w i z
        · rw [show i = n by omega]; exact q
      · rename_i w; exact absurd q w
    · intro q
      rw [if_pos (ih.mpr (fun i hi => q i (by omega)))]
      exact q n (by omega)
theorem fhv_some {K : Nat → Int} {n : Nat} (h : fhv K n ≠ -1) : ∃ i, i < n ∧ K i = fhv K n := by
  induction n with
  | zero => exact absurd rfl h
  | succ n ih =>
    simp only [fhv] at h ⊢
    split
    · exact ⟨n, by omega, rfl⟩
    · rename_i w
      obtain ⟨i, h1, h2⟩ := ih w
      exact ⟨i, by omega, h2⟩
def lhv (K : Nat → Int) : Nat → Int
  | 0 => -1
  | n + 1 => if K n = -1 then lhv K n else K n
def dK (K : Nat → Int) (a b : Nat) : Prop := K a ≠ -1 ∧ K b ≠ -1 ∧ K a ≠ K b
theorem lhv_fhv {K : Nat → Int} {n : Nat} (h : ∀ a b, a < b → b < n → ¬ dK K a b) : lhv K n = fhv K n := by
  induction n with
  | zero => rfl
  | succ n ih =>
    have ih := ih (fun a b h1 h2 => h a b h1 (by omega))
    simp only [lhv, fhv]
    by_cases c : K n = -1
    · rw [if_pos c, ih, c]
      split
      · assumption
      · rfl
    · rw [if_neg c]
      split
      · rfl
      · rename_i w
        obtain ⟨i, h1, h2⟩ := fhv_some w
        have := h i n h1 (by omega)
        unfold dK at this
        rw [← h2]
        rw [← h2] at w
        by_cases z : K i = K n
        · exact z.symm
        · exact absurd ⟨w, c, z⟩ this
theorem c_firstHeld {h : AH} {v : Nat} {N : Nat → Int} (hz : VOK0 N) (hc : VC h.2 v N) (s : Nat) (hs : s < 6) : f9_firstHeld v s h = some (fhv (fun p => sHeld N p s) (N 0).toNat, h) := by
  have v0 := hz.1
  unfold f9_firstHeld l9_firstHeld_2
  refine fr (fun X => X = some (fhv (fun p => sHeld N p s) (N 0).toNat, h)) (fun (_ : Unit) i => (i, h)) (fun i _ => fhv (fun p => sHeld N p s) i = -1) 0 (N 0).toNat () rfl (by omega) (by omega) (fun i _ _ hi hI rec => ?_) (fun _ hI rec => ?_)
  · have r := zHeld_rng hz i s
    unfold b9_firstHeld_2
    dsimp only
    rw [hc.1, w32_id (x := N 0) (by omega) (by omega), z_held hz hc, bnd_some, z_held hz hc, bnd_some, w32_id (x := (i : Int)) (by omega) (by omega), w32_id (x := (s : Int)) (by omega) (by omega), if_neg (by omega), w32_id (x := sHeld N i s) (by omega) (by omega)]
    by_cases q : sHeld N i s = -1
    · right
      rw [if_pos q]
      refine ⟨(), ?_, rfl⟩
      simp only [fhv]
      rw [if_pos hI]; exact q
    · left
      rw [if_neg q, fhv_hit hI q hi]
  · unfold b9_firstHeld_2
    dsimp only
    rw [hc.1, w32_id (x := N 0) (by omega) (by omega), w32_id (x := ((N 0).toNat : Int)) (by omega) (by omega), if_pos (by omega), hI]
def sDif (V : Nat → Int) (s x : Int) : Int := sm (fun p => if sHeld V p s = -1 then 0 else if x ≤ sHeld V p s then sHeld V p s - x else x - sHeld V p s) (V 0).toNat
theorem sDif_rng {V : Nat → Int} (hV : VOK V) (s : Int) {x : Int} (hx : 0 ≤ x ∧ x ≤ 9) : 0 ≤ sDif V s x ∧ sDif V s x ≤ 72 := by
  have v0 := hV.1
  have := sm_rng (f := fun p : Nat => if sHeld V p s = -1 then (0 : Int) else if x ≤ sHeld V p s then sHeld V p s - x else x - sHeld V p s) (n := (V 0).toNat) (lo := 0) (hi := 9) (fun i _ => by
    have := sHeld_rng hV i s
    repeat' split
    all_goals omega)
  unfold sDif
  omega
def mdl (f : Nat → Int) : Nat → Nat
  | 0 => 0
  | n + 1 => if f n < f (mdl f n) then n else mdl f n
theorem mdl_lt (f : Nat → Int) {n : Nat} (hn : n ≤ 10) : mdl f n ≤ 9 := by
  induction n with
  | zero => show 0 ≤ 9; omega
  | succ n ih =>
    have := ih (by omega)
    simp only [mdl]
    split <;> omega
def sMid (V : Nat → Int) (s : Int) : Nat := mdl (fun x => sDif V s x) 10
section CalmQ
variable {V : Nat → Int} {h : AH} {v : Nat}
theorem c_differing (hV : VOK V) (hc : VC h.2 v V) {s x : Nat} (hs : s < 6) (hx : x ≤ 9) : f9_differing v s x h = some (sDif V s x, h) := by
  have v0 := hV.1
  unfold f9_differing l9_differing_5 sDif
  refine loopS0 (fun p => if sHeld V p s = -1 then 0 else if (x : Int) ≤ sHeld V p s then sHeld V p s - x else x - sHeld V p s) (V 0).toNat h (by omega) (fun i hi y rec => ?_) (fun rec => ?_)
  · have r := sHeld_rng hV i s
    unfold b9_differing_5 b9_differing_42
    dsimp only
    rw [hc.1, w32_id (x := V 0) (by omega) (by omega), v_held hV hc, bnd_some, v_held hV hc, bnd_some, w32_id (x := (i : Int)) (by omega) (by omega), w32_id (x := (s : Int)) (by omega) (by omega), if_neg (by omega), w32_id (x := sHeld V i s) (by omega) (by omega), lt_eq, lt_eq, abs32_s (by omega) (by omega)]
    by_cases q : sHeld V i s = -1
    · rw [if_neg (fun w => w q), if_pos q]
    · rw [if_pos q, if_neg q]
      by_cases q2 : (x : Int) ≤ sHeld V i s
      · rw [if_pos (by omega), if_pos q2]
      · rw [if_neg (by omega), if_neg q2, show -(sHeld V i s - (x : Int)) = x - sHeld V i s by omega]
  · unfold b9_differing_5
    dsimp only
    rw [hc.1, w32_id (x := V 0) (by omega) (by omega), w32_id (x := ((V 0).toNat : Int)) (by omega) (by omega), if_pos (by omega)]
theorem m_away (hV : VOK V) (hm : VM h.2 V) {s x : Nat} (hs : (s : Int) < V 1) (hx : x ≤ 9) : f11_awayOf s x h = some (sDif V s x, h) := by
  have v0 := hV.1
  have v1 := hV.2.1
  unfold f11_awayOf l11_awayOf_5 sDif
  refine loopS0 (fun p => if sHeld V p s = -1 then 0 else if (x : Int) ≤ sHeld V p s then sHeld V p s - x else x - sHeld V p s) (V 0).toNat h (by omega) (fun i hi y rec => ?_) (fun rec => ?_)
  · have r := sHeld_rng hV i s
    have e1 : f11_heldOf (i : Int) (s : Int) h = some (sHeld V i s, h) := by rw [m_held hm i s (by omega) (by omega), sHeld_in (fun _ => trivial) (by omega)]
    unfold b11_awayOf_5 b11_awayOf_41
    dsimp only
    rw [vm_P hm, w32_id (x := V 0) (by omega) (by omega), w32_id (x := (i : Int)) (by omega) (by omega), if_neg (by omega), e1, bnd_some, e1, bnd_some, m_off _ _ _ (by omega) (by omega), bnd_some, w32_id (x := sHeld V i s) (by omega) (by omega), lt_eq, lt_eq]
    by_cases q : sHeld V i s = -1
    · rw [if_neg (fun w => w q), if_pos q]
    · rw [if_pos q, if_neg q]
  · unfold b11_awayOf_5
    dsimp only
    rw [vm_P hm, w32_id (x := V 0) (by omega) (by omega), w32_id (x := ((V 0).toNat : Int)) (by omega) (by omega), if_pos (by omega)]
theorem c_middle (hV : VOK V) (hc : VC h.2 v V) {s : Nat} (hs : s < 6) : f9_middle v s h = some ((sMid V s : Int), h) := by
  unfold f9_middle l9_middle_4 sMid
  have key := fx_run (F := fun rec (z : Int × Int × AH) => b9_middle_4 rec v s z.1 z.2.1 z.2.2) (X := some ((mdl (fun x => sDif V s x) 10 : Int), h)) (fun i => ((mdl (fun x => sDif V s x) (i + 1) : Int), ((i + 1 : Nat) : Int), h)) 9 (fun i hi rec => ?_) (fun rec => ?_) (n := FU) (FU_big (by omega))
  · have m1 : mdl (fun x => sDif V s x) 1 = 0 := by
      simp only [mdl]
      exact ite_self _
    simp only [Nat.zero_add, m1] at key
    exact key
  · have q1 := mdl_lt (fun x => sDif V s x) (n := i + 1) (by omega)
    have r1 := sDif_rng hV s (x := ((i + 1 : Nat) : Int)) (by omega)
    have r2 := sDif_rng hV s (x := ((mdl (fun x => sDif V s x) (i + 1) : Nat) : Int)) (by omega)
    unfold b9_middle_4 b9_middle_27
    dsimp only
    rw [w32_id (x := ((i + 1 : Nat) : Int)) (by omega) (by omega), if_neg (by omega), c_differing hV hc hs (by omega), bnd_some, c_differing hV hc hs (by omega), bnd_some, w32_id (x := sDif V s ((i + 1 : Nat) : Int)) (by omega) (by omega), w32_id (x := sDif V s ((mdl (fun x => sDif V s x) (i + 1) : Nat) : Int)) (by omega) (by omega)]
    have e : mdl (fun x => sDif V s x) (i + 1 + 1) = if sDif V s ((i + 1 : Nat) : Int) < sDif V s ((mdl (fun x => sDif V s x) (i + 1) : Nat) : Int) then i + 1 else mdl (fun x => sDif V s x) (i + 1) := rfl
    rw [e]
    by_cases c : sDif V s ((i + 1 : Nat) : Int) < sDif V s ((mdl (fun x => sDif V s x) (i + 1) : Nat) : Int)
    · rw [if_neg (by omega), if_pos c]; rfl
    · rw [if_pos (by omega), if_neg c]; rfl
  · unfold b9_middle_4
    dsimp only
    rw [if_pos (by decide)]
def sHol (V : Nat → Int) (s x : Int) : Int := sm (fun p => if sHeld V p s = x then 1 else 0) (V 0).toNat
theorem sHol_rng (hV : VOK V) (s x : Int) : 0 ≤ sHol V s x ∧ sHol V s x ≤ 8 := by
  have v0 := hV.1
  have := sm_rng (f := fun p : Nat => if sHeld V p s = x then (1 : Int) else 0) (n := (V 0).toNat) (lo := 0) (hi := 1) (fun i _ => by split <;> omega)
  unfold sHol
  omega
theorem c_holders (hV : VOK V) (hc : VC h.2 v V) {s x : Nat} (hs : s < 6) (hx : x ≤ 9) : f9_holdersOf v s x h = some (sHol V s x, h) := by
  have v0 := hV.1
  unfold f9_holdersOf l9_holdersOf_5 sHol
  refine loopS0 (fun p => if sHeld V p s = x then 1 else 0) (V 0).toNat h (by omega) (fun i hi y rec => ?_) (fun rec => ?_)
  · have r := sHeld_rng hV i s
    unfold b9_holdersOf_5 b9_holdersOf_31
    dsimp only
    rw [hc.1, w32_id (x := V 0) (by omega) (by omega), v_held hV hc, bnd_some, w32_id (x := (i : Int)) (by omega) (by omega), w32_id (x := (s : Int)) (by omega) (by omega), w32_id (x := (x : Int)) (by omega) (by omega), if_neg (by omega), w32_id (x := sHeld V i s) (by omega) (by omega), lt_eq, lt_eq]
    by_cases q : sHeld V i s = x
    · rw [if_neg (fun w => w q), if_pos q]
    · rw [if_pos q, if_neg q]
  · unfold b9_holdersOf_5
    dsimp only
    rw [hc.1, w32_id (x := V 0) (by omega) (by omega), w32_id (x := ((V 0).toNat : Int)) (by omega) (by omega), if_pos (by omega)]
theorem sHol_s (V : Nat → Int) (s : Int) (x : Nat) : sHolders V s x x = sHol V s x := by
  unfold sHolders sHol
  apply sm_cong
  intro i _
  by_cases q : sHeld V i s = x
  · rw [if_pos q, if_pos (by omega)]
  · rw [if_neg q, if_neg (by omega)]
theorem sm_add (f g : Nat → Int) (n : Nat) : sm (fun i => f i + g i) n = sm f n + sm g n := by
  induction n with
  | zero => rfl
  | succ n ih => simp only [sm]; rw [ih]; omega
theorem sm_swap (g : Nat → Nat → Int) (m n : Nat) : sm (fun x => sm (fun p => g x p) n) m = sm (fun p => sm (fun x => g x p) m) n := by
  induction m with
  | zero => simp only [sm]; rw [sm_zero (fun i _ => rfl)]
  | succ m ih =>
    simp only [sm]
    rw [ih, ← sm_add]
theorem sHol_all (hV : VOK V) (s : Int) : sm (fun x => sHol V s x) 10 = sHolders V s 0 9 := by
  unfold sHol sHolders
  rw [sm_swap (fun x p => if sHeld V p s = (x : Int) then 1 else 0)]
  apply sm_cong
  intro i _
  have r := sHeld_rng hV i s
  generalize sHeld V i s = y at *
  have : y = -1 ∨ y = 0 ∨ y = 1 ∨ y = 2 ∨ y = 3 ∨ y = 4 ∨ y = 5 ∨ y = 6 ∨ y = 7 ∨ y = 8 ∨ y = 9 := by omega
  rcases this with rfl | rfl | rfl | rfl | rfl | rfl | rfl | rfl | rfl | rfl | rfl <;> decide
def sOath (V : Nat → Int) (s : Int) : Int := sHolders V s 0 9 - mxs (fun x => sHol V s x) 10
theorem c_oath (hV : VOK V) (hc : VC h.2 v V) {s : Nat} (hs : s < 6) : f9_leavingForOath v s h = some (sOath V s, h) := by
  unfold f9_leavingForOath l9_leavingForOath_7 sOath
  rw [← sHol_all hV]
  refine loop3 (fun i => (sm (fun x => sHol V s x) i, mxs (fun x => sHol V s x) i)) 10 h (fun i hi rec => ?_) (fun rec => ?_) (by omega)
  · have r := sHol_rng hV s i
    have r2 := mxs_rng (f := fun x : Nat => sHol V s x) (n := i) (hi := 8) (by omega) (fun j _ => (sHol_rng hV s j).2)
    unfold b9_leavingForOath_7
    dsimp only
    rw [w32_id (x := (i : Int)) (by omega) (by omega), if_neg (by omega), c_holders hV hc hs (by omega), bnd_some, lt_eq, lt_eq, max32_s (by omega) (by omega) (by omega) (by omega)]
    rfl
  · unfold b9_leavingForOath_7
    dsimp only
    rw [if_pos (by decide)]
theorem m_calm37 (hV : VOK V) (hm : VM h.2 V) {s : Nat} (hs : (s : Int) < V 1) (x3 : Int) : l11_calm_37 s x3 0 0 0 h = l11_calm_109 s x3 (sMid V s) (mxs (fun x => sHol V s x) 10) 0 h := by
  unfold l11_calm_37 sMid
  refine loop3 (fun i => ((mdl (fun x => sDif V s x) i : Int), mxs (fun x => sHol V s x) i)) 10 h (fun i hi rec => ?_) (fun rec => ?_) (by omega)
  · have q1 := mdl_lt (fun x => sDif V s x) (n := i) (by omega)
    have r1 := sDif_rng hV s (x := (i : Int)) (by omega)
    have r2 := sDif_rng hV s (x := ((mdl (fun x => sDif V s x) i : Nat) : Int)) (by omega)
    have r3 := sHol_rng hV s i
    have r4 := mxs_rng (f := fun x : Nat => sHol V s x) (n := i) (hi := 8) (by omega) (fun j _ => (sHol_rng hV s j).2)
    have mh := m_holders hV hm s i i (by omega) ⟨by omega, by omega⟩ ⟨by omega, by omega⟩
    rw [sHol_s] at mh
    unfold b11_calm_37 b11_calm_68 b11_calm_98
    dsimp only
    rw [w32_id (x := (i : Int)) (by omega) (by omega), if_neg (by omega), m_away hV hm hs (by omega), bnd_some, m_away hV hm hs (by omega), bnd_some, w32_id (x := sDif V s (i : Int)) (by omega) (by omega), w32_id (x := sDif V s ((mdl (fun x => sDif V s x) i : Nat) : Int)) (by omega) (by omega), mh, bnd_some, bnd_some, w32_id (x := sHol V s i) (by omega) (by omega), w32_id (x := mxs (fun x : Nat => sHol V s x) i) (by omega) (by omega)]
    have e1 : mdl (fun x => sDif V s x) (i + 1) = if sDif V s (i : Int) < sDif V s ((mdl (fun x => sDif V s x) i : Nat) : Int) then i else mdl (fun x => sDif V s x) i := rfl
    have e2 : mxs (fun x : Nat => sHol V s x) (i + 1) = if mxs (fun x : Nat => sHol V s x) i < sHol V s i then sHol V s i else mxs (fun x : Nat => sHol V s x) i := rfl
    rw [e1, e2]
    by_cases c : sDif V s (i : Int) < sDif V s ((mdl (fun x => sDif V s x) i : Nat) : Int)
    · rw [if_neg (by omega), if_pos c]
      by_cases d : mxs (fun x : Nat => sHol V s x) i < sHol V s i
      · rw [if_neg (by omega), if_pos d, mh, bnd_some]
      · rw [if_pos (by omega), if_neg d]
    · rw [if_pos (by omega), if_neg c]
      by_cases d : mxs (fun x : Nat => sHol V s x) i < sHol V s i
      · rw [if_neg (by omega), if_pos d, mh, bnd_some]
      · rw [if_pos (by omega), if_neg d]
  · unfold b11_calm_37
    dsimp only
    rw [if_pos (by decide)]
theorem m_calm109 (hV : VOK V) (hm : VM h.2 V) {s : Nat} (hs : (s : Int) < V 1) (x3 x4 x5 : Int) : ∃ h1, l11_calm_109 s x3 x4 x5 0 h = l11_calm_141 s x3 x4 x5 0 h1 ∧ Ky (fun a _ => a = 84) h h1 ∧ ∀ p : Nat, (p : Int) < V 0 → h1.2 84 p = V (24 + (6 * p + s)) := by
  have v0 := hV.1
  have v1 := hV.2.1
  unfold l11_calm_109
  refine fr (fun X => ∃ h1, X = l11_calm_141 s x3 x4 x5 0 h1 ∧ Ky (fun a _ => a = 84) h h1 ∧ ∀ p : Nat, (p : Int) < V 0 → h1.2 84 p = V (24 + (6 * p + s))) (fun (s : AH) i => (i, s)) (fun i w => Ky (fun a _ => a = 84) h w ∧ ∀ p, p < i → w.2 84 p = V (24 + (6 * p + s))) 0 (V 0).toNat h ⟨Ky.rf h, fun j hj => by omega⟩ (by omega) (by omega) (fun i w _ hi hI rec => ?_) (fun w hI rec => ?_)
  · right
    have vm : VM w.2 V := hI.1.vm (fun k _ _ => by omega) (fun k => by omega) hm
    have mh := m_held vm i s (by omega) (by omega)
    rw [Int.toNat_natCast, Int.toNat_natCast] at mh
    refine ⟨wr w 84 i (V (24 + (6 * i + s))), ⟨hI.1.w2 rfl, fun j hj => ?_⟩, ?_⟩
    · by_cases e : j = i
      · subst e; exact wr_at
      · rw [wr_e (by omega)]; exact hI.2 j (by omega)
    · unfold b11_calm_109
      dsimp only
      rw [vm_P vm, w32_id (x := V 0) (by omega) (by omega), w32_id (x := (i : Int)) (by omega) (by omega), if_neg (by omega), mh, bnd_some, asrt_t (by omega), lt_eq, Int.toNat_natCast]
  · have vm : VM w.2 V := hI.1.vm (fun k _ _ => by omega) (fun k => by omega) hm
    refine ⟨w, ?_, hI.1, fun p hp => hI.2 p (by omega)⟩
    unfold b11_calm_109
    dsimp only
    rw [vm_P vm, w32_id (x := V 0) (by omega) (by omega), w32_id (x := ((V 0).toNat : Int)) (by omega) (by omega), if_pos (by omega)]
end CalmQ
