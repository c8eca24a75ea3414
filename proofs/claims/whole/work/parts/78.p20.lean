/-! Sets of items as bits -/
def q_val (P : Nat → Bool) : Nat → Nat
  | 0 => 0
  | m + 1 => q_val P m + (if P m = true then 2 ^ m else 0)
def q_mk (P : Nat → Bool) (m : Nat) : Int32 := nI (q_val P m)
theorem q_val_lt (P : Nat → Bool) : ∀ m, q_val P m < 2 ^ m := by
  intro m
  induction m with
  | zero => exact (by decide : 0 < 2 ^ 0)
  | succ m ih =>
    rw [q_val, Nat.pow_succ]
    split <;> omega
theorem q_val_tb (P : Nat → Bool) : ∀ m i, (q_val P m).testBit i = (decide (i < m) && P i) := by
  intro m
  induction m with
  | zero => intro i; simp [q_val]
  | succ m ih =>
    intro i
    have h := q_val_lt P m
    rw [q_val]
    cases hP : P m with
    | false =>
      rw [if_neg (by decide), Nat.add_zero, ih]
      by_cases h1 : i < m
      · rw [decide_eq_true h1, decide_eq_true (by omega)]
      · by_cases h2 : i = m
        · subst h2; rw [hP]; simp
        · rw [decide_eq_false h1, decide_eq_false (by omega)]
    | true =>
      rw [if_pos rfl, Nat.add_comm]
      have e : 2 ^ m + q_val P m = 2 ^ m * 1 + q_val P m := by omega
      rw [e, Nat.testBit_two_pow_mul_add 1 h]
      by_cases h1 : i < m
      · rw [if_pos h1, ih, decide_eq_true h1, decide_eq_true (by omega)]
      · rw [if_neg h1]
        by_cases h2 : i = m
        · subst h2; rw [hP, Nat.sub_self]; simp
        · rw [decide_eq_false (show ¬ i < m + 1 by omega), Bool.false_and]
          have : ∃ t, i - m = t + 1 := ⟨i - m - 1, by omega⟩
          obtain ⟨t, ht⟩ := this
          rw [ht, Nat.testBit_succ]
          exact Nat.zero_testBit t
theorem q_nIbt (v : Nat) {i : Nat} (hi : i < 32) : bt (nI v) i = v.testBit i := by
  show (BitVec.ofNat 32 v).getLsbD i = _
  rw [BitVec.getLsbD_ofNat, decide_eq_true hi, Bool.true_and]
theorem q_bt (P : Nat → Bool) {m : Nat} (hm : m ≤ 32) (i : Nat) : bt (q_mk P m) i = (decide (i < m) && P i) := by
  rcases Nat.lt_or_ge i 32 with h | h
  · rw [q_mk, q_nIbt _ h, q_val_tb]
  · rw [b_big h, decide_eq_false (by omega), Bool.false_and]
theorem q_of {x : Int32} {P : Nat → Bool} {m : Nat} (hm : m ≤ 32) (h : ∀ i, i < 32 → bt x i = (decide (i < m) && P i)) : x = q_mk P m :=
  b_ext (fun i hi => by rw [h i hi, q_bt P hm])
theorem q_cg {P Q : Nat → Bool} : ∀ {m : Nat}, (∀ i, i < m → P i = Q i) → q_val P m = q_val Q m := by
  intro m
  induction m with
  | zero => intro _; rfl
  | succ m ih => intro h; rw [q_val, q_val, ih (fun i hi => h i (by omega)), h m (by omega)]
theorem q_mkcg {P Q : Nat → Bool} {m : Nat} (h : ∀ i, i < m → P i = Q i) : q_mk P m = q_mk Q m := congrArg nI (q_cg h)
theorem q_inj {P Q : Nat → Bool} {m : Nat} (hm : m ≤ 32) (h : q_mk P m = q_mk Q m) : ∀ i, i < m → P i = Q i := by
  intro i hi
  have h2 := congrArg (fun x => bt x i) h
  simp only [q_bt _ hm] at h2
  rw [decide_eq_true hi] at h2
  simpa using h2
theorem q_0 {m : Nat} : q_mk (fun _ => false) m = 0 := by
  have : ∀ m, q_val (fun _ => false) m = 0 := by
    intro m
    induction m with
    | zero => rfl
    | succ m ih => rw [q_val, ih, if_neg (by decide)]
  rw [q_mk, this]; rfl
theorem q_eq0 {P : Nat → Bool} {m : Nat} (hm : m ≤ 32) : q_mk P m = 0 ↔ ∀ i, i < m → P i = false := by
  constructor
  · intro h
    exact q_inj hm (Q := fun _ => false) (by rw [h, q_0])
  · intro h
    rw [q_mkcg (Q := fun _ => false) h, q_0]
theorem q_b1 : ∀ i, i < 32 → bt 1 i = decide (i = 0) := by decide +kernel
theorem q_one {n i : Nat} (hn : n < 32) (hi : i < 32) : bt ((1 : Int32) <<< (nI n &&& 31)) i = decide (i = n) := by
  rw [b_shl n hn 1 hi]
  by_cases h : i < n
  · rw [decide_eq_false (by omega), decide_eq_false (by omega), Bool.false_and]
  · rw [decide_eq_true (by omega), Bool.true_and, q_b1 _ (by omega)]
    by_cases h2 : i = n
    · rw [decide_eq_true h2, decide_eq_true (by omega)]
    · rw [decide_eq_false h2, decide_eq_false (by omega)]
theorem q_step (P : Nat → Bool) {i : Nat} (hi : i < 32) : q_mk P (i + 1) = if P i = true then q_mk P i ||| ((1 : Int32) <<< (nI i &&& 31)) else q_mk P i := by
  cases h : P i with
  | false =>
    rw [if_neg (by decide)]
    show nI (q_val P (i + 1)) = _
    rw [q_val, h, if_neg (by decide)]; rfl
  | true =>
    rw [if_pos rfl]
    symm
    apply q_of (by omega)
    intro j hj
    rw [b_or, q_bt P (by omega), q_one hi hj]
    by_cases h1 : j < i
    · rw [decide_eq_true h1, decide_eq_true (show j < i + 1 by omega), decide_eq_false (by omega)]; simp
    · by_cases h2 : j = i
      · subst h2; rw [h]; simp
      · rw [decide_eq_false h1, decide_eq_false (show ¬ j < i + 1 by omega), decide_eq_false h2]; rfl
theorem q_add (P : Nat → Bool) {m k : Nat} (hm : m ≤ 32) (hk : k < m) : q_mk P m ||| ((1 : Int32) <<< (nI k &&& 31)) = q_mk (fun j => P j || j == k) m := by
  apply q_of hm
  intro j hj
  rw [b_or, q_bt P hm, q_one (by omega) hj]
  by_cases h2 : j = k
  · subst h2; simp [hk]
  · rw [decide_eq_false h2, show (j == k) = false from beq_eq_false_iff_ne.mpr h2, Bool.or_false, Bool.or_false]
theorem q_or (P Q : Nat → Bool) {m : Nat} (hm : m ≤ 32) : q_mk P m ||| q_mk Q m = q_mk (fun j => P j || Q j) m := by
  apply q_of hm
  intro j hj
  rw [b_or, q_bt P hm, q_bt Q hm]
  cases decide (j < m) <;> simp
theorem q_and (P Q : Nat → Bool) {m : Nat} (hm : m ≤ 32) : q_mk P m &&& q_mk Q m = q_mk (fun j => P j && Q j) m := by
  apply q_of hm
  intro j hj
  rw [b_and, q_bt P hm, q_bt Q hm]
  cases decide (j < m) <;> simp
theorem q_dif (P Q : Nat → Bool) {m : Nat} (hm : m ≤ 32) : q_mk P m &&& (q_mk Q m ^^^ (-1 : Int32)) = q_mk (fun j => P j && !Q j) m := by
  apply q_of hm
  intro j hj
  rw [b_and, b_not _ hj, q_bt P hm, q_bt Q hm]
  cases decide (j < m) <;> simp
theorem q_all {m : Nat} (hm : m < 17) : (1 : Int32) <<< (nI m &&& 31) - 1 = q_mk (fun _ => true) m := by
  rw [pw1m hm]
  apply q_of (by omega)
  intro i hi
  rw [q_nIbt _ hi, Nat.testBit_two_pow_sub_one, Bool.and_true]
theorem q_has (x : Int32) {i : Nat} (hi : i < 32) : M_X8_has x (nI i) = some (if bt x i = true then 1 else 0) := by
  have key : ((x.toUInt32 >>> ((nI i).toUInt32 &&& Int32.toUInt32 31)).toInt32 &&& (1 : Int32)) = 0 ↔ bt x i = false := by
    constructor
    · intro h
      have h2 := congrArg (fun y => bt y 0) h
      simp only [b_and, b_ushr i hi, b_0] at h2
      rw [q_b1 0 (by decide)] at h2
      simpa using h2
    · intro h
      apply b_ext
      intro j hj
      rw [b_and, b_ushr i hi, q_b1 j hj, b_0]
      by_cases h0 : j = 0
      · subst h0; rw [Nat.add_zero, h]; rfl
      · rw [decide_eq_false h0, Bool.and_false]
  unfold M_X8_has
  cases h : bt x i with
  | false => rw [if_pos (key.mpr h)]; rfl
  | true => rw [if_neg (fun c => by rw [key.mp c] at h; cases h)]; rfl
theorem q_hasR (x : Int32) {i : Nat} (hi : i < 32) : ((x >>> (nI i &&& 31)) &&& (1 : Int32)) = if bt x i = true then 1 else 0 := by
  apply b_ext
  intro j hj
  rw [b_and, b_sshr i hi x hj, q_b1 j hj]
  by_cases h0 : j = 0
  · subst h0
    rw [if_pos (by omega), Nat.add_zero]
    cases bt x i <;> rfl
  · rw [decide_eq_false h0, Bool.and_false]
    cases bt x i
    · exact (b_0 j).symm
    · rw [if_pos rfl, q_b1 j hj, decide_eq_false h0]
theorem q_hasR1 (x : Int32) {i : Nat} (hi : i < 32) : ((x >>> (nI i &&& 31)) &&& (1 : Int32)) = 1 ↔ bt x i = true := by
  rw [q_hasR x hi]
  cases bt x i <;> decide
theorem q_hasR0 (x : Int32) {i : Nat} (hi : i < 32) : ((x >>> (nI i &&& 31)) &&& (1 : Int32)) = 0 ↔ bt x i = false := by
  rw [q_hasR x hi]
  cases bt x i <;> decide
/-! the laws of two boxes -/
def q_nst (a b : Nat) : Bool := a != b && ((a &&& b) == a || (a &&& b) == b)
def q_agr (L a b : Nat) : Bool := !((L == 1 || L == 4) && q_nst a b) && !(decide (2 < L) && (a &&& b) == 0)
def q_fit (L lo hi a : Nat) : Bool := decide (lo ≤ pc a) && decide (pc a ≤ hi) && (decide (L < 3) || a != 0)
theorem q_nst_comm (a b : Nat) : q_nst a b = q_nst b a := by
  unfold q_nst
  rw [Nat.and_comm b a, Bool.or_comm, show (a != b) = (b != a) from bne_comm]
theorem q_agr_comm (L a b : Nat) : q_agr L a b = q_agr L b a := by
  unfold q_agr
  rw [Nat.and_comm b a, q_nst_comm]
theorem q_sub {a b : Nat} (ha : a < 2 ^ 31) : (nI a &&& (nI b ^^^ (-1 : Int32))) = 0 ↔ (a &&& b) = a := by
  constructor
  · intro h
    apply Nat.eq_of_testBit_eq
    intro i
    rcases Nat.lt_or_ge i 32 with hi | hi
    · have h2 := congrArg (fun x => bt x i) h
      simp only [b_and, b_not _ hi, b_0, q_nIbt _ hi] at h2
      rw [Nat.testBit_and]
      cases h3 : a.testBit i <;> cases h4 : b.testBit i <;> simp [h3, h4] at h2 ⊢
    · rw [Nat.testBit_and, Nat.testBit_lt_two_pow (show a < 2 ^ i from Nat.lt_of_lt_of_le ha (Nat.pow_le_pow_right (by decide) (by omega))), Bool.false_and]
  · intro h
    apply b_ext
    intro i hi
    have h2 := congrArg (fun x => x.testBit i) h
    simp only [Nat.testBit_and] at h2
    rw [b_and, b_not _ hi, b_0, q_nIbt _ hi, q_nIbt _ hi]
    cases h3 : a.testBit i <;> cases h4 : b.testBit i <;> simp [h3, h4] at h2 ⊢
theorem q_withC {a b : Nat} (ha : a < 256) (hb : b < 256) : M_X8_within (nI a) (nI b) = some (if a ≠ b ∧ (a &&& b) = a then 1 else 0) := by
  unfold M_X8_within
  by_cases h : a = b
  · rw [if_pos (by rw [h]), if_neg (fun c => c.1 h)]
  · rw [if_neg (fun c => h ((nI_eq (by omega) (by omega)).mp c))]
    by_cases h2 : (a &&& b) = a
    · rw [if_pos ((q_sub (by omega)).mpr h2), if_pos ⟨h, h2⟩]
    · rw [if_neg (fun c => h2 ((q_sub (by omega)).mp c)), if_neg (fun c => h2 c.2)]
theorem q_and_lt {a b : Nat} (ha : a < 256) : (a &&& b) < 2 ^ 31 := Nat.lt_of_le_of_lt Nat.and_le_left (by omega)
theorem q_and0 {a b : Nat} (ha : a < 256) : nI a &&& nI b = 0 ↔ (a &&& b) = 0 := by
  rw [nx_and, ← nI_0, nI_eq (q_and_lt ha) (by decide)]
theorem q_clC {L a b : Nat} (hL : L ≤ 4) (ha : a < 256) (hb : b < 256) : M_X3_clashes (nI L) (nI a) (nI b) = some (if q_agr L a b = true then 0 else 1) := by
  have h1 : M_X3_clashes (nI L) (nI a) (nI b) = B_X3_clashes_21 (nI a) (nI b) (if q_nst a b = true then 1 else 0) (nI L) := by
    rw [M_X3_clashes, q_withC ha hb, ob]
    by_cases c1 : a ≠ b ∧ (a &&& b) = a
    · rw [if_pos c1, if_neg (by decide), B_X3_clashes_16, if_pos (by simp [q_nst, c1.1, c1.2])]
    · rw [if_neg c1, if_pos rfl, q_withC hb ha, ob]
      by_cases c2 : b ≠ a ∧ (b &&& a) = b
      · rw [if_pos c2, if_neg (by decide), B_X3_clashes_16, if_pos (by rw [q_nst_comm]; simp [q_nst, c2.1, c2.2])]
      · rw [if_neg c2, if_pos rfl, if_neg]
        intro h
        simp only [q_nst, Bool.and_eq_true, bne_iff_ne, Bool.or_eq_true, beq_iff_eq] at h
        rcases h.2 with h2 | h2
        · exact c1 ⟨h.1, h2⟩
        · exact c2 ⟨Ne.symm h.1, by rw [Nat.and_comm]; exact h2⟩
  rw [h1, B_X3_clashes_21]
  by_cases h0 : (a &&& b) = 0
  · rw [if_pos ((q_and0 ha).mpr h0)]
    have h0' : ((a &&& b) == 0) = true := by rw [beq_iff_eq]; exact h0
    unfold q_agr
    rw [h0']
    cases q_nst a b <;> (rcases (show L = 0 ∨ L = 1 ∨ L = 2 ∨ L = 3 ∨ L = 4 by omega) with rfl | rfl | rfl | rfl | rfl <;> rfl)
  · rw [if_neg (fun c => h0 ((q_and0 ha).mp c))]
    have h0' : ((a &&& b) == 0) = false := by rw [beq_eq_false_iff_ne]; exact h0
    unfold q_agr
    rw [h0']
    cases q_nst a b <;> (rcases (show L = 0 ∨ L = 1 ∨ L = 2 ∨ L = 3 ∨ L = 4 by omega) with rfl | rfl | rfl | rfl | rfl <;> rfl)
theorem q_nsR {a b : Nat} (ha : a < 256) (hb : b < 256) : M_X9_areNested (nI a) (nI b) = some (if q_nst a b = true then 1 else 0) := by
  unfold M_X9_areNested q_nst
  by_cases h : a = b
  · subst h
    rw [if_pos rfl]; simp
  · have h' : (a != b) = true := by rw [bne_iff_ne]; exact h
    rw [if_neg (fun c => h ((nI_eq (by omega) (by omega)).mp c)), nx_and, h', Bool.true_and]
    by_cases h2 : (a &&& b) = a
    · rw [if_pos (by rw [h2]), if_pos (by rw [h2]; simp)]
    · rw [if_neg (fun c => h2 ((nI_eq (q_and_lt ha) (by omega)).mp c))]
      by_cases h3 : (a &&& b) = b
      · rw [if_pos (by rw [h3]), if_pos (by simp [h3])]
      · rw [if_neg (fun c => h3 ((nI_eq (q_and_lt ha) (by omega)).mp c)), if_neg (by simp [h2, h3])]
theorem q_agR {L a b : Nat} (hL : L ≤ 4) (ha : a < 256) (hb : b < 256) : M_X9_agree (nI L) (nI a) (nI b) = some (if q_agr L a b = true then 1 else 0) := by
  have h0' : (if nI a &&& nI b = 0 then (1 : Int32) else 0) = if ((a &&& b) == 0) = true then 1 else 0 := by
    by_cases h0 : (a &&& b) = 0
    · rw [if_pos ((q_and0 ha).mpr h0), if_pos (by rw [beq_iff_eq]; exact h0)]
    · rw [if_neg (fun c => h0 ((q_and0 ha).mp c)), if_neg (by rw [beq_iff_eq]; exact h0)]
  unfold M_X9_agree B_X9_agree_10
  rw [q_nsR ha hb, ob]
  unfold q_agr
  by_cases h0 : (a &&& b) = 0
  · have h1 : ((a &&& b) == 0) = true := by rw [beq_iff_eq]; exact h0
    unfold B_X9_agree_22 B_X9_agree_23
    rw [h1, if_pos ((q_and0 ha).mpr h0), if_pos ((q_and0 ha).mpr h0)]
    cases q_nst a b <;> (rcases (show L = 0 ∨ L = 1 ∨ L = 2 ∨ L = 3 ∨ L = 4 by omega) with rfl | rfl | rfl | rfl | rfl <;> rfl)
  · have h1 : ((a &&& b) == 0) = false := by rw [beq_eq_false_iff_ne]; exact h0
    have h2 : ¬ (nI a &&& nI b = 0) := fun c => h0 ((q_and0 ha).mp c)
    unfold B_X9_agree_22 B_X9_agree_23
    rw [h1, if_neg h2, if_neg h2]
    cases q_nst a b <;> (rcases (show L = 0 ∨ L = 1 ∨ L = 2 ∨ L = 3 ∨ L = 4 by omega) with rfl | rfl | rfl | rfl | rfl <;> rfl)
theorem q_chR {a b c : Nat} (ha : a < 256) (hb : b < 256) (hc : c < 256) : M_X9_isChain (nI a) (nI b) (nI c) = some (if (q_nst a b && q_nst b c && q_nst a c) = true then 1 else 0) := by
  unfold M_X9_isChain
  rw [q_nsR ha hb, ob, q_nsR hb hc, ob, q_nsR ha hc, ob]
  cases q_nst a b <;> cases q_nst b c <;> cases q_nst a c <;> rfl
theorem q_fitC {L lo hi a : Nat} (hL : L ≤ 4) (hlo : lo ≤ 8) (hh : hi ≤ 8) (ha : a < 256) : M_X3_fitsAlone (nI hi) (nI L) (nI lo) (nI a) = some (if q_fit L lo hi a = true then 1 else 0) := by
  have hp : pc a ≤ 8 := pc_le 8 (by decide) a ha
  unfold M_X3_fitsAlone q_fit
  rw [(pc_ok a ha).1, ob, bw, ob]
  by_cases h1 : lo ≤ pc a
  · by_cases h2 : pc a ≤ hi
    · rw [if_pos (show nI lo ≤ nI (pc a) ∧ nI (pc a) ≤ nI hi from ⟨nI_le h1 (by omega), nI_le h2 (by omega)⟩), if_neg (show ¬ (1 : Int32) = 0 by decide), decide_eq_true h1, decide_eq_true h2]
      by_cases h3 : a = 0
      · subst h3
        rw [if_pos nI_0]
        rcases (show L = 0 ∨ L = 1 ∨ L = 2 ∨ L = 3 ∨ L = 4 by omega) with rfl | rfl | rfl | rfl | rfl <;> rfl
      · rw [if_neg (nI_ne0 (by omega) (by omega)), show (a != 0) = true from bne_iff_ne.mpr h3]
        simp
    · rw [if_neg (show ¬ (nI lo ≤ nI (pc a) ∧ nI (pc a) ≤ nI hi) from fun c => h2 ((nI_leI (by omega) (by omega)).mp c.2)), if_pos rfl, decide_eq_false h2]; simp
  · rw [if_neg (show ¬ (nI lo ≤ nI (pc a) ∧ nI (pc a) ≤ nI hi) from fun c => h1 ((nI_leI (by omega) (by omega)).mp c.1)), if_pos rfl, decide_eq_false h1]; simp
theorem q_fitR {L lo hi a : Nat} (hL : L ≤ 4) (hlo : lo ≤ 8) (hh : hi ≤ 8) (ha : a < 256) : M_X9_fits (nI hi) (nI lo) (nI L) (nI a) = some (if q_fit L lo hi a = true then 1 else 0) := by
  have hp : pc a ≤ 8 := pc_le 8 (by decide) a ha
  unfold M_X9_fits q_fit
  rw [(pc_ok a ha).2, ob, in32, ob]
  by_cases h1 : lo ≤ pc a
  · by_cases h2 : pc a ≤ hi
    · rw [if_pos (show nI lo ≤ nI (pc a) ∧ nI (pc a) ≤ nI hi from ⟨nI_le h1 (by omega), nI_le h2 (by omega)⟩), if_neg (show ¬ (1 : Int32) = 0 by decide), decide_eq_true h1, decide_eq_true h2]
      by_cases h3 : a = 0
      · subst h3
        rw [if_pos nI_0]
        rcases (show L = 0 ∨ L = 1 ∨ L = 2 ∨ L = 3 ∨ L = 4 by omega) with rfl | rfl | rfl | rfl | rfl <;> rfl
      · rw [if_neg (nI_ne0 (by omega) (by omega)), show (a != 0) = true from bne_iff_ne.mpr h3]
        simp
    · rw [if_neg (show ¬ (nI lo ≤ nI (pc a) ∧ nI (pc a) ≤ nI hi) from fun c => h2 ((nI_leI (by omega) (by omega)).mp c.2)), if_pos rfl, decide_eq_false h2]; simp
  · rw [if_neg (show ¬ (nI lo ≤ nI (pc a) ∧ nI (pc a) ≤ nI hi) from fun c => h1 ((nI_leI (by omega) (by omega)).mp c.1)), if_pos rfl, decide_eq_false h1]; simp
