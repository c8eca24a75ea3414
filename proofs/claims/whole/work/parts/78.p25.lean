/-! How many of a set -/
def q_cnt (P : Nat → Bool) : Nat → Nat
  | 0 => 0
  | m + 1 => q_cnt P m + (if P m = true then 1 else 0)
theorem q_cnt_le (P : Nat → Bool) : ∀ m, q_cnt P m ≤ m := by
  intro m
  induction m with
  | zero => exact Nat.le_refl 0
  | succ m ih => rw [q_cnt]; split <;> omega
theorem q_cnt_cg {P Q : Nat → Bool} : ∀ {m : Nat}, (∀ i, i < m → P i = Q i) → q_cnt P m = q_cnt Q m := by
  intro m
  induction m with
  | zero => intro _; rfl
  | succ m ih => intro h; rw [q_cnt, q_cnt, ih (fun i hi => h i (by omega)), h m (by omega)]
theorem q_cnt_0 {P : Nat → Bool} : ∀ {m : Nat}, q_cnt P m = 0 → ∀ i, i < m → P i = false := by
  intro m
  induction m with
  | zero => intro _ i hi; omega
  | succ m ih =>
    intro h i hi
    rw [q_cnt] at h
    cases hP : P m with
    | true => rw [hP, if_pos rfl] at h; omega
    | false =>
      rw [hP, if_neg (by decide)] at h
      rcases Nat.lt_or_ge i m with c | c
      · exact ih (by omega) i c
      · have : i = m := by omega
        subst this; exact hP
theorem q_cnt_z {P : Nat → Bool} : ∀ {m : Nat}, (∀ i, i < m → P i = false) → q_cnt P m = 0 := by
  intro m
  induction m with
  | zero => intro _; rfl
  | succ m ih => intro h; rw [q_cnt, ih (fun i hi => h i (by omega)), h m (by omega), if_neg (by decide)]
theorem q_cnt_ex {P : Nat → Bool} {m c : Nat} (h : q_cnt P m = c + 1) : ∃ i, i < m ∧ P i = true := by
  by_cases hx : ∃ i, i < m ∧ P i = true
  · exact hx
  · have : q_cnt P m = 0 := q_cnt_z (fun i hi => by
      cases hP : P i with
      | false => rfl
      | true => exact absurd ⟨i, hi, hP⟩ hx)
    omega
theorem q_cnt_rm {P : Nat → Bool} {k : Nat} : ∀ {m : Nat}, k < m → P k = true → q_cnt P m = q_cnt (fun j => P j && !(j == k)) m + 1 := by
  intro m
  induction m with
  | zero => intro h _; omega
  | succ m ih =>
    intro h hk
    rw [q_cnt, q_cnt]
    by_cases c : k = m
    · subst c
      rw [hk, if_pos rfl, show (true && !(k == k)) = false by simp, if_neg (by decide)]
      have : q_cnt P k = q_cnt (fun j => P j && !(j == k)) k := q_cnt_cg (fun i hi => by
        rw [show (i == k) = false from beq_eq_false_iff_ne.mpr (by omega)]; simp)
      omega
    · rw [ih (by omega) hk, show (m == k) = false from beq_eq_false_iff_ne.mpr (Ne.symm c)]
      simp only [Bool.not_false, Bool.and_true]
      omega
theorem q_cnt_in {P : Nat → Bool} {k m : Nat} (hk : k < m) (h : P k = false) : q_cnt (fun j => P j || j == k) m = q_cnt P m + 1 := by
  rw [q_cnt_rm (P := fun j => P j || j == k) hk (by simp)]
  congr 1
  apply q_cnt_cg
  intro i hi
  by_cases c : i = k
  · subst c; simp [h]
  · rw [show (i == k) = false from beq_eq_false_iff_ne.mpr c]; simp
theorem q_low {v t : Nat} (b1 : v.testBit t = true) (b0 : ∀ i, i < t → v.testBit i = false) (i : Nat) : (v - 1).testBit i = if i < t then true else if i = t then false else v.testBit i := by
  have hmod : v % 2 ^ (t + 1) = 2 ^ t := by
    apply Nat.eq_of_testBit_eq
    intro i
    rw [Nat.testBit_mod_two_pow, Nat.testBit_two_pow]
    by_cases c1 : i < t
    · rw [b0 i c1, Bool.and_false, decide_eq_false (by omega)]
    · by_cases c2 : i = t
      · subst c2; rw [b1]; simp
      · rw [decide_eq_false (show ¬ i < t + 1 by omega), decide_eq_false (show ¬ t = i by omega), Bool.false_and]
  have hv := Nat.div_add_mod v (2 ^ (t + 1))
  rw [hmod] at hv
  have hp : 1 ≤ 2 ^ t := Nat.one_le_two_pow
  have hlt : 2 ^ t - 1 < 2 ^ (t + 1) := by rw [Nat.pow_succ]; omega
  have hlt2 : 2 ^ t < 2 ^ (t + 1) := by rw [Nat.pow_succ]; omega
  have hv1 : v - 1 = 2 ^ (t + 1) * (v / 2 ^ (t + 1)) + (2 ^ t - 1) := by omega
  rw [hv1, Nat.testBit_two_pow_mul_add _ hlt]
  by_cases c1 : i < t + 1
  · rw [if_pos c1, Nat.testBit_two_pow_sub_one]
    by_cases c2 : i < t
    · rw [if_pos c2, decide_eq_true c2]
    · rw [if_neg c2, if_pos (by omega), decide_eq_false c2]
  · rw [if_neg c1, if_neg (by omega), if_neg (by omega)]
    have h6 := Nat.testBit_two_pow_mul_add (v / 2 ^ (t + 1)) hlt2 i
    rw [hv, if_neg c1] at h6
    exact h6.symm
theorem q_rml (P : Nat → Bool) {m t : Nat} (hm : m ≤ 31) (ht : t < m) (h1 : P t = true) (h0 : ∀ i, i < t → P i = false) : q_mk P m &&& (q_mk P m - 1) = q_mk (fun j => P j && !(j == t)) m := by
  have hv : ∀ i, (q_val P m).testBit i = (decide (i < m) && P i) := q_val_tb P m
  have b1 : (q_val P m).testBit t = true := by rw [hv, decide_eq_true ht, h1]; rfl
  have b0 : ∀ i, i < t → (q_val P m).testBit i = false := fun i hi => by rw [hv, h0 i hi, Bool.and_false]
  have hpos : 1 ≤ q_val P m := by
    rcases Nat.eq_zero_or_pos (q_val P m) with h | h
    · rw [h, Nat.zero_testBit] at b1; cases b1
    · exact h
  have e : q_mk P m - 1 = nI (q_val P m - 1) := pk_sub (a := q_val P m) (b := 1) hpos
  apply q_of (by omega)
  intro i hi
  rw [b_and, e, q_bt P (by omega), q_nIbt _ hi, q_low b1 b0, hv]
  by_cases c1 : i < t
  · rw [if_pos c1, h0 i c1]; simp
  · rw [if_neg c1]
    by_cases c2 : i = t
    · subst c2; rw [if_pos rfl]; simp
    · rw [if_neg c2, show (i == t) = false from beq_eq_false_iff_ne.mpr c2]
      cases decide (i < m) <;> cases P i <;> rfl
theorem q_manyL : ∀ (c : Nat) (P : Nat → Bool) (m a n : Nat), m ≤ 31 → q_cnt P m = c → c < n → lpN (fun z : Int32 × Int32 => L_X9_many_4 z.1 z.2) n (nI a, q_mk P m) = some (nI (a + c)) := by
  intro c
  induction c with
  | zero =>
    intro P m a n hm hc hn
    obtain ⟨n, rfl⟩ : ∃ k, n = k + 1 := ⟨n - 1, by omega⟩
    have e0 : q_mk P m = 0 := (q_eq0 (by omega)).mpr (q_cnt_0 hc)
    have e : L_X9_many_4 (nI a) (q_mk P m) = some (Sum.inr (nI a)) := by rw [L_X9_many_4, if_pos e0]; rfl
    unfold lpN
    rw [e]
    rfl
  | succ c ih =>
    intro P m a n hm hc hn
    obtain ⟨n, rfl⟩ : ∃ k, n = k + 1 := ⟨n - 1, by omega⟩
    obtain ⟨t, ⟨ht, h1⟩, hl⟩ := pk_least _ (q_cnt_ex hc)
    have h0 : ∀ i, i < t → P i = false := fun i hi => by
      cases hP : P i with
      | false => rfl
      | true => exact absurd ⟨by omega, hP⟩ (hl i hi)
    have e : L_X9_many_4 (nI a) (q_mk P m) = some (Sum.inl (nI (a + 1), q_mk (fun j => P j && !(j == t)) m)) := by
      rw [L_X9_many_4, if_neg (fun h => by
        have := (q_eq0 (by omega)).mp h t ht
        rw [h1] at this; cases this), q_rml P hm ht h1 h0, nI_1]
    have e2 := q_cnt_rm ht h1
    have e3 := ih (fun j => P j && !(j == t)) m (a + 1) n hm (by omega) (by omega)
    have e4 : lpN (fun z : Int32 × Int32 => L_X9_many_4 z.1 z.2) (n + 1) (nI a, q_mk P m) = lpN (fun z : Int32 × Int32 => L_X9_many_4 z.1 z.2) n (nI (a + 1), q_mk (fun j => P j && !(j == t)) m) := lpS n e
    rw [e4, e3, show a + 1 + c = a + (c + 1) by omega]
theorem q_many (P : Nat → Bool) {m : Nat} (hm : m ≤ 31) : M_X9_many (q_mk P m) = some (nI (q_cnt P m)) := by
  have h := q_manyL _ P m 0 fuelK hm rfl (by have := q_cnt_le P m; unfold fuelK; omega)
  rw [Nat.zero_add] at h
  exact h
def q_bc1 (x : Int32) : Int32 := x - ((x.toUInt32 >>> ((1 : Int32).toUInt32 &&& Int32.toUInt32 31)).toInt32 &&& (1431655765 : Int32))
def q_bc2 (x : Int32) : Int32 := (x &&& (858993459 : Int32)) + ((x.toUInt32 >>> ((2 : Int32).toUInt32 &&& Int32.toUInt32 31)).toInt32 &&& (858993459 : Int32))
def q_bc3 (x : Int32) : Int32 := (x + (x.toUInt32 >>> ((4 : Int32).toUInt32 &&& Int32.toUInt32 31)).toInt32) &&& (252645135 : Int32)
def q_bc4 (x : Int32) : Int32 := x + (x.toUInt32 >>> ((8 : Int32).toUInt32 &&& Int32.toUInt32 31)).toInt32
def q_bc5 (x : Int32) : Int32 := (x + (x.toUInt32 >>> ((16 : Int32).toUInt32 &&& Int32.toUInt32 31)).toInt32) &&& (63 : Int32)
theorem q_bcE (x : Int32) : M_J6_bitCount_0f7a4 x = some (q_bc5 (q_bc4 (q_bc3 (q_bc2 (q_bc1 x))))) := rfl
def q_n1 (v : Nat) : Nat := v - ((v / 2) &&& 1431655765)
def q_n2 (v : Nat) : Nat := (v &&& 858993459) + ((v / 4) &&& 858993459)
def q_n3 (v : Nat) : Nat := (v + v / 16) &&& 252645135
def q_n4 (v : Nat) : Nat := v + v / 256
def q_n5 (v : Nat) : Nat := (v + v / 65536) &&& 63
theorem q_bcn {v : Nat} (hv : v < 65536) : M_J6_bitCount_0f7a4 (nI v) = some (nI (q_n5 (q_n4 (q_n3 (q_n2 (q_n1 v)))))) := by
  have e1 : ∀ v, v < 65536 → q_bc1 (nI v) = nI (q_n1 v) := by
    intro v hv
    have h : (v / 2) &&& 1431655765 ≤ v := Nat.le_trans Nat.and_le_left (Nat.div_le_self v 2)
    rw [q_bc1, pk_ushrN (by omega) (1 : Int32) 1 (by decide), show (1431655765 : Int32) = nI 1431655765 from rfl, nx_and, pk_sub h]
    rfl
  have e2 : ∀ v, v < 65536 → q_bc2 (nI v) = nI (q_n2 v) := by
    intro v hv
    rw [q_bc2, pk_ushrN (by omega) (2 : Int32) 2 (by decide), show (858993459 : Int32) = nI 858993459 from rfl, nx_and, nx_and, nI_add]
    rfl
  have e3 : ∀ v, v < 262144 → q_bc3 (nI v) = nI (q_n3 v) := by
    intro v hv
    rw [q_bc3, pk_ushrN (by omega) (4 : Int32) 4 (by decide), show (252645135 : Int32) = nI 252645135 from rfl, nI_add, nx_and]
    rfl
  have e4 : ∀ v, v < 262144 * 2 → q_bc4 (nI v) = nI (q_n4 v) := by
    intro v hv
    rw [q_bc4, pk_ushrN (by omega) (8 : Int32) 8 (by decide), nI_add]
    rfl
  have e5 : ∀ v, v < 262144 * 4 → q_bc5 (nI v) = nI (q_n5 v) := by
    intro v hv
    rw [q_bc5, pk_ushrN (by omega) (16 : Int32) 16 (by decide), show (63 : Int32) = nI 63 from rfl, nI_add, nx_and]
    rfl
  have b1 : q_n1 v ≤ v := Nat.sub_le _ _
  have b2 : q_n2 (q_n1 v) < 131072 := by
    have h1 : q_n1 v &&& 858993459 ≤ q_n1 v := Nat.and_le_left
    have h2 : q_n1 v / 4 &&& 858993459 ≤ q_n1 v / 4 := Nat.and_le_left
    have h3 : q_n1 v / 4 ≤ q_n1 v := Nat.div_le_self _ _
    show (q_n1 v &&& 858993459) + ((q_n1 v / 4) &&& 858993459) < 131072
    omega
  have b3 : q_n3 (q_n2 (q_n1 v)) < 262144 := by
    have h1 : q_n3 (q_n2 (q_n1 v)) ≤ q_n2 (q_n1 v) + q_n2 (q_n1 v) / 16 := Nat.and_le_left
    omega
  have b4 : q_n4 (q_n3 (q_n2 (q_n1 v))) < 262144 * 4 := by
    show q_n3 (q_n2 (q_n1 v)) + q_n3 (q_n2 (q_n1 v)) / 256 < 262144 * 4
    omega
  rw [q_bcE, e1 v hv, e2 _ (by omega), e3 _ (by omega), e4 _ (by omega), e5 _ b4]
theorem q_bc_ok : ∀ h, h < 256 → ∀ l, l < 256 → q_n5 (q_n4 (q_n3 (q_n2 (q_n1 (256 * h + l))))) = q_n5 (q_n4 (q_n3 (q_n2 (q_n1 h)))) + q_n5 (q_n4 (q_n3 (q_n2 (q_n1 l)))) := by decide +kernel
