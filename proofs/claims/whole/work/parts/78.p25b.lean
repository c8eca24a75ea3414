theorem q_bc_pc : ∀ h, h < 256 → q_n5 (q_n4 (q_n3 (q_n2 (q_n1 h)))) = pc h := by decide +kernel
theorem q_cnt_ext {P Q : Nat → Bool} {m : Nat} : ∀ d, (∀ i, i < m → Q i = P i) → (∀ i, m ≤ i → Q i = false) → q_cnt Q (m + d) = q_cnt P m := by
  intro d
  induction d with
  | zero => intro h _; exact q_cnt_cg h
  | succ d ih =>
    intro h h0
    show q_cnt Q (m + d) + (if Q (m + d) = true then 1 else 0) = _
    rw [ih h h0, h0 (m + d) (by omega), if_neg (by decide), Nat.add_zero]
theorem q_bitC (P : Nat → Bool) {m : Nat} (hm : m ≤ 16) : M_J6_bitCount_0f7a4 (q_mk P m) = some (nI (q_cnt P m)) := by
  have h2 : 2 ^ m ≤ 2 ^ 16 := Nat.pow_le_pow_right (by decide) hm
  have hv : q_val P m < 65536 := Nat.lt_of_lt_of_le (q_val_lt P m) h2
  have ht : ∀ i, (q_val P m).testBit i = (decide (i < m) && P i) := q_val_tb P m
  have hc : q_cnt P m = q_cnt (fun i => (q_val P m).testBit i) 16 := by
    have := q_cnt_ext (P := P) (Q := fun i => (q_val P m).testBit i) (m := m) (16 - m) (fun i hi => by show (q_val P m).testBit i = _; rw [ht, decide_eq_true hi, Bool.true_and]) (fun i hi => by show (q_val P m).testBit i = _; rw [ht, decide_eq_false (by omega), Bool.false_and])
    rw [show m + (16 - m) = 16 by omega] at this
    exact this.symm
  rw [q_mk, q_bcn hv, hc]
  generalize q_val P m = v at hv
  have e := q_bc_ok (v / 256) (by omega) (v % 256) (by omega)
  rw [show 256 * (v / 256) + v % 256 = v by omega, q_bc_pc (v / 256) (by omega), q_bc_pc (v % 256) (by omega)] at e
  rw [e]
  have t1 : ∀ i, i < 8 → (v % 256).testBit i = v.testBit i := fun i hi => by
    rw [show v % 256 = v % 2 ^ 8 from rfl, Nat.testBit_mod_two_pow, decide_eq_true hi, Bool.true_and]
  have t2 : ∀ i, (v / 256).testBit i = v.testBit (8 + i) := fun i => by
    rw [show v / 256 = v >>> 8 from (Nat.shiftRight_eq_div_pow v 8).symm, Nat.testBit_shiftRight]
  have tn : ∀ b : Bool, (if b = true then 1 else 0) = b.toNat := by decide
  unfold pc
  rw [t1 0 (by decide), t1 1 (by decide), t1 2 (by decide), t1 3 (by decide), t1 4 (by decide), t1 5 (by decide), t1 6 (by decide), t1 7 (by decide), t2 0, t2 1, t2 2, t2 3, t2 4, t2 5, t2 6, t2 7]
  simp only [q_cnt, tn, Nat.reduceAdd]
  congr 2
  omega
