/-! The game: bits of longs, who wins -/
def lb (x : Int64) (i : Nat) : Bool := x.toBitVec.getLsbD i
theorem lb_ext {x y : Int64} (h : ∀ i, i < 64 → lb x i = lb y i) : x = y := Int64.toBitVec_inj.mp (BitVec.eq_of_getLsbD_eq (fun i hi => h i hi))
theorem lb_or (x y : Int64) (i : Nat) : lb (x ||| y) i = (lb x i || lb y i) := by unfold lb; rw [Int64.toBitVec_or, BitVec.getLsbD_or]
theorem lb_and (x y : Int64) (i : Nat) : lb (x &&& y) i = (lb x i && lb y i) := by unfold lb; rw [Int64.toBitVec_and, BitVec.getLsbD_and]
theorem lb_xor (x y : Int64) (i : Nat) : lb (x ^^^ y) i = (lb x i ^^ lb y i) := by unfold lb; rw [Int64.toBitVec_xor, BitVec.getLsbD_xor]
theorem lb_m1 : ∀ i, i < 64 → lb (-1) i = true := by decide +kernel
theorem lb_0 (i : Nat) : lb 0 i = false := BitVec.getLsbD_zero
theorem lb_not (x : Int64) {i : Nat} (hi : i < 64) : lb (x ^^^ (-1 : Int64)) i = !lb x i := by rw [lb_xor, lb_m1 i hi]; cases lb x i <;> rfl
theorem lb_pw {j i : Nat} (hi : i < 64) : lb (lN (2 ^ j)) i = decide (i = j) := by
  show (BitVec.ofNat 64 (2 ^ j)).getLsbD i = _
  rw [BitVec.getLsbD_ofNat, decide_eq_true hi, Bool.true_and, Nat.testBit_two_pow]
  by_cases c : i = j
  · rw [decide_eq_true c, decide_eq_true c.symm]
  · rw [decide_eq_false c, decide_eq_false (Ne.symm c)]
theorem lb_t {x : Int64} {j : Nat} (hj : j < 64) : lg_cmp (x &&& lN (2 ^ j)) 0 = 0 ↔ lb x j = false := by
  constructor
  · intro h
    have h0 : x &&& lN (2 ^ j) = 0 := by
      unfold lg_cmp at h
      by_cases h1 : x &&& lN (2 ^ j) > 0
      · rw [if_pos h1] at h; exact absurd h (by decide)
      · rw [if_neg h1] at h
        by_cases h2 : x &&& lN (2 ^ j) = 0
        · exact h2
        · rw [if_neg h2] at h; exact absurd h (by decide)
    have h2 := congrArg (fun y => lb y j) h0
    simp only [lb_and, lb_0] at h2
    rw [lb_pw hj, decide_eq_true rfl, Bool.and_true] at h2
    exact h2
  · intro h
    apply lg_eq
    apply lb_ext
    intro i hi
    rw [lb_and, lb_pw hi, lb_0]
    by_cases c : i = j
    · subst c; rw [h]; rfl
    · rw [decide_eq_false c, Bool.and_false]
def kb (f : Nat → Int64) (v : Nat) : Bool := lb (f (v / 64)) (v % 64)
section WN
variable {m : Nat} {F : Nat → Bool} {C R : Nat → Nat → Bool}
def q_win (m : Nat) (F : Nat → Bool) (C R : Nat → Nat → Bool) : Nat → (Nat → Bool) → Prop
  | 0, _ => False
  | d + 1, T => ∃ u, u < m ∧ T u = false ∧ q_law m F C R (q_ins T u) ∧ ¬ q_win m F C R d (q_ins T u)
theorem q_ins_cg {T T' : Nat → Bool} {u : Nat} (h : ∀ i, i < m → T i = T' i) : ∀ i, i < m → q_ins T u i = q_ins T' u i := fun i hi => by
  unfold q_ins
  rw [h i hi]
theorem q_win_cg : ∀ d T T', (∀ i, i < m → T i = T' i) → (q_win m F C R d T → q_win m F C R d T') := by
  intro d
  induction d with
  | zero => intro T T' _ h; exact h
  | succ d ih =>
    rintro T T' hT ⟨u, h1, h2, h3, h4⟩
    refine ⟨u, h1, by rw [← hT u h1]; exact h2, q_law_sub h3 (fun i hi h => by rw [q_ins_cg hT i hi]; exact h), fun h => h4 (ih _ _ (fun i hi => (q_ins_cg hT i hi).symm) h)⟩
theorem q_win_st : ∀ d T, m ≤ q_cnt T m + d → (q_win m F C R d T ↔ q_win m F C R (d + 1) T) := by
  intro d
  induction d with
  | zero =>
    intro T hT
    constructor
    · exact False.elim
    · rintro ⟨u, h1, h2, -, -⟩
      have h3 : q_cnt (q_ins T u) m = q_cnt T m + 1 := q_cnt_in h1 h2
      have h4 := q_cnt_le (q_ins T u) m
      omega
  | succ d ih =>
    intro T hT
    constructor
    · rintro ⟨u, h1, h2, h3, h4⟩
      have h5 : q_cnt (q_ins T u) m = q_cnt T m + 1 := q_cnt_in h1 h2
      exact ⟨u, h1, h2, h3, fun h => h4 ((ih _ (by omega)).mpr h)⟩
    · rintro ⟨u, h1, h2, h3, h4⟩
      have h5 : q_cnt (q_ins T u) m = q_cnt T m + 1 := q_cnt_in h1 h2
      exact ⟨u, h1, h2, h3, fun h => h4 ((ih _ (by omega)).mp h)⟩
def q_wn (m : Nat) (F : Nat → Bool) (C R : Nat → Nat → Bool) (T : Nat → Bool) : Prop := q_win m F C R 16 T
theorem q_wn_cg {T T' : Nat → Bool} (h : ∀ i, i < m → T i = T' i) : q_wn m F C R T ↔ q_wn m F C R T' := ⟨q_win_cg 16 T T' h, q_win_cg 16 T' T (fun i hi => (h i hi).symm)⟩
theorem q_wn_iff (hm : m ≤ 16) {T : Nat → Bool} : q_wn m F C R T ↔ ∃ u, u < m ∧ T u = false ∧ q_law m F C R (q_ins T u) ∧ ¬ q_wn m F C R (q_ins T u) := q_win_st 16 T (by omega)
theorem q_wn_ok (hm : m ≤ 16) {T M : Nat → Bool} (ok : q_ok m F C R T M) : q_wn m F C R T ↔ ∃ u, u < m ∧ M u = true ∧ ¬ q_wn m F C R (q_ins T u) := by
  rw [q_wn_iff hm]
  constructor
  · rintro ⟨u, h1, h2, h3, h4⟩
    exact ⟨u, h1, (ok.2 u h1).mpr ⟨h2, h3⟩, h4⟩
  · rintro ⟨u, h1, h2, h3⟩
    exact ⟨u, h1, ((ok.2 u h1).mp h2).1, ((ok.2 u h1).mp h2).2, h3⟩
/-- without bars: only whether those that may come are odd counts -/
theorem q_odd (sy : q_sy C R) (hC : ∀ i j, C i j = false) (hR : ∀ i j, R i j = false) : ∀ (n d : Nat) (T M : Nat → Bool), q_ok m F C R T M → q_cnt M m = n → n ≤ d → (q_win m F C R d T ↔ n % 2 = 1) := by
  intro n
  induction n with
  | zero =>
    intro d T M ok hn hd
    constructor
    · intro h
      cases d with
      | zero => exact h.elim
      | succ d =>
        obtain ⟨u, h1, h2, h3, -⟩ := h
        have h4 := (ok.2 u h1).mpr ⟨h2, h3⟩
        rw [q_cnt_0 hn u h1] at h4; cases h4
    · intro h; omega
  | succ n ih =>
    intro d T M ok hn hd
    obtain ⟨d, rfl⟩ : ∃ e, d = e + 1 := ⟨d - 1, by omega⟩
    have hst : ∀ u, u < m → M u = true → (q_win m F C R d (q_ins T u) ↔ n % 2 = 1) := fun u hu hM => by
      refine ih d (q_ins T u) (q_stp m C R u T M) (q_ok_step sy ok hu hM) ?_ (by omega)
      have h1 := q_cnt_rm hu hM
      have h2 : q_cnt (q_stp m C R u T M) m = q_cnt (fun j => M j && !(j == u)) m := q_cnt_cg (fun i hi => by
        unfold q_stp q_bb
        rw [hC, hR, show (i != u) = !(i == u) from rfl]
        simp)
      omega
    constructor
    · rintro ⟨u, h1, h2, h3, h4⟩
      have h5 := (ok.2 u h1).mpr ⟨h2, h3⟩
      rw [hst u h1 h5] at h4
      omega
    · intro h
      obtain ⟨u, h1, h2⟩ := q_cnt_ex hn
      refine ⟨u, h1, ((ok.2 u h1).mp h2).1, ((ok.2 u h1).mp h2).2, ?_⟩
      rw [hst u h1 h2]
      omega
/-! the program's memory -/
def q_K (m : Nat) (F : Nat → Bool) (C R : Nat → Nat → Bool) (kn wo : Nat → Int64) : Prop := ∀ v, v < 65536 → kb kn v = true → (kb wo v = true ↔ q_wn m F C R (fun u => v.testBit u))
theorem q_word {v : Nat} (hv : v < 65536) : (((nI v).toUInt32 >>> ((6 : Int32).toUInt32 &&& Int32.toUInt32 31)).toInt32) &&& (1023 : Int32) = nI (v / 64) := by
  rw [pk_ushrN (by omega) (6 : Int32) 6 (by decide), pk_andN (n := v / 2 ^ 6) (by omega) 10 (by decide), show v / 2 ^ 6 % 2 ^ 10 = v / 64 by omega]
theorem q_bit {v : Nat} (hv : v < 65536) : (1 : Int64) <<< ((nI v &&& (63 : Int32)).toInt64 &&& 63) = lN (2 ^ (v % 64)) := by
  rw [pk_andN (n := v) (by omega) 6 (by decide)]
  have h := wb_shl 1 (k := v % 2 ^ 6) (by omega)
  rw [Nat.one_mul] at h
  exact h
theorem q_K_set {kn wo : Nat → Int64} (hK : q_K m F C R kn wo) {T : Nat → Bool} {v : Nat} (hv : v < 65536) (hT : ∀ i, i < m → v.testBit i = T i) {s : Int64} {b : Bool} (hs : ∀ i, i < 64 → lb s i = if i = v % 64 then b else lb (wo (v / 64)) i) (hb : b = true ↔ q_wn m F C R T) :
    q_K m F C R (vp_updL kn (v / 64) (kn (v / 64) ||| lN (2 ^ (v % 64)))) (vp_updL wo (v / 64) s) := by
  intro v' hv' hk
  unfold kb at hk ⊢
  by_cases c1 : v' / 64 = v / 64
  · rw [c1, pk_uLs, lb_or, lb_pw (by omega)] at hk
    rw [c1, pk_uLs, hs _ (by omega)]
    by_cases c2 : v' % 64 = v % 64
    · rw [if_pos c2, hb]
      have : v' = v := by omega
      subst this
      exact q_wn_cg (fun i hi => (hT i hi).symm)
    · rw [if_neg c2]
      rw [decide_eq_false c2, Bool.or_false] at hk
      have := hK v' hv' (by unfold kb; rw [c1]; exact hk)
      unfold kb at this
      rw [c1] at this
      exact this
  · rw [pk_uLn c1] at hk
    rw [pk_uLn c1]
    exact hK v' hv' hk
end WN
