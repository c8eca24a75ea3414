/-! ===== lN n to 2^64: shifts, and, or, masks, one bit ===== -/
theorem wb_tb (n : Nat) : (lN n).toBitVec = BitVec.ofNat 64 n := rfl
theorem wb_inj {a b : Int64} (h : a.toBitVec = b.toBitVec) : a = b := Int64.toBitVec_inj.mp h
theorem wb_tn {n : Nat} (h : n < 2 ^ 64) : (lN n).toBitVec.toNat = n := by rw [wb_tb, BitVec.toNat_ofNat, Nat.mod_eq_of_lt h]
theorem wb_of (x : Int64) : ∃ n, n < 2 ^ 64 ∧ x = lN n := ⟨x.toBitVec.toNat, x.toBitVec.isLt, wb_inj (by rw [wb_tb]; simp)⟩
theorem wb_of32 (x : Int32) : ∃ n, n < 2 ^ 32 ∧ x = nI n := ⟨x.toBitVec.toNat, x.toBitVec.isLt, Int32.toBitVec_inj.mp (by show _ = BitVec.ofNat 32 _; simp)⟩
theorem wb_c : ∀ k, k < 64 → ((nI k).toInt64 &&& 63) = lN k := by decide +kernel
theorem wb_cu : ∀ k, k < 64 → ((nI k).toInt64.toUInt64 &&& Int64.toUInt64 63) = UInt64.ofNat k := by decide +kernel
theorem wb_sm : ∀ k, k < 64 → (BitVec.ofNat 64 k).smod 64 = BitVec.ofNat 64 k := by decide +kernel
theorem wb_pw {a b : Nat} (h : a ≤ b) : 2 ^ b = 2 ^ a * 2 ^ (b - a) := by rw [← Nat.pow_add]; congr 1; omega
theorem wb_lt2 {a b : Nat} (h : a < b) : 2 ^ a < 2 ^ b := Nat.pow_lt_pow_right (by decide) h
theorem wb_mod (n : Nat) : lN n = lN (n % 2 ^ 64) := wb_inj (by rw [wb_tb, wb_tb]; apply BitVec.eq_of_toNat_eq; rw [BitVec.toNat_ofNat, BitVec.toNat_ofNat, Nat.mod_mod])
theorem wb_shr {n k : Nat} (hn : n < 2 ^ 64) (hk : k < 64) : ((lN n).toUInt64 >>> ((nI k).toInt64.toUInt64 &&& Int64.toUInt64 63)).toInt64 = lN (n / 2 ^ k) := by
  rw [wb_cu k hk]
  apply wb_inj
  apply BitVec.eq_of_toNat_eq
  show ((lN n).toUInt64 >>> UInt64.ofNat k).toNat = (BitVec.ofNat 64 _).toNat
  have h1 : (UInt64.ofNat k).toNat = k := by
    show (BitVec.ofNat 64 k).toNat = k
    rw [BitVec.toNat_ofNat, Nat.mod_eq_of_lt (by omega)]
  have h2 : (lN n).toUInt64.toNat = n := wb_tn hn
  rw [UInt64.toNat_shiftRight, h1, h2, Nat.mod_eq_of_lt hk, Nat.shiftRight_eq_div_pow, BitVec.toNat_ofNat, Nat.mod_eq_of_lt (Nat.lt_of_le_of_lt (Nat.div_le_self _ _) hn)]
theorem wb_shl (n : Nat) {k : Nat} (hk : k < 64) : lN n <<< ((nI k).toInt64 &&& 63) = lN (n * 2 ^ k) := by
  rw [wb_c k hk]
  apply wb_inj
  rw [Int64.toBitVec_shiftLeft, wb_tb, wb_tb, wb_tb, wb_sm k hk]
  apply BitVec.eq_of_toNat_eq
  rw [BitVec.shiftLeft_eq', BitVec.toNat_shiftLeft, BitVec.toNat_ofNat, BitVec.toNat_ofNat, BitVec.toNat_ofNat, Nat.mod_eq_of_lt (show k < 2 ^ 64 by omega), Nat.shiftLeft_eq, Nat.mul_mod, Nat.mod_mod, ← Nat.mul_mod]
theorem wb_and {a b : Nat} (ha : a < 2 ^ 64) (hb : b < 2 ^ 64) : lN a &&& lN b = lN (a &&& b) := by
  apply wb_inj
  rw [Int64.toBitVec_and, wb_tb, wb_tb, wb_tb]
  apply BitVec.eq_of_toNat_eq
  rw [BitVec.toNat_and, BitVec.toNat_ofNat, BitVec.toNat_ofNat, BitVec.toNat_ofNat, Nat.mod_eq_of_lt ha, Nat.mod_eq_of_lt hb, Nat.mod_eq_of_lt (Nat.and_lt_two_pow _ hb)]
theorem wb_or {a b : Nat} (ha : a < 2 ^ 64) (hb : b < 2 ^ 64) : lN a ||| lN b = lN (a ||| b) := by
  apply wb_inj
  rw [Int64.toBitVec_or, wb_tb, wb_tb, wb_tb]
  apply BitVec.eq_of_toNat_eq
  rw [BitVec.toNat_or, BitVec.toNat_ofNat, BitVec.toNat_ofNat, BitVec.toNat_ofNat, Nat.mod_eq_of_lt ha, Nat.mod_eq_of_lt hb, Nat.mod_eq_of_lt (Nat.or_lt_two_pow ha hb)]
theorem wb_mask {n k : Nat} (hn : n < 2 ^ 64) (hk : k < 64) : lN n &&& lN (2 ^ k - 1) = lN (n % 2 ^ k) := by
  rw [wb_and hn (by have := wb_lt2 hk; omega), Nat.and_two_pow_sub_one_eq_mod]
theorem wb_a1 {n : Nat} (hn : n < 2 ^ 64) : lN n &&& 1 = lN (n % 2) := wb_mask (k := 1) hn (by decide)
theorem wb_bit {n k : Nat} (hn : n < 2 ^ 64) (hk : k < 64) : ((lN n).toUInt64 >>> ((nI k).toInt64.toUInt64 &&& Int64.toUInt64 63)).toInt64 &&& 1 = lN (n / 2 ^ k % 2) := by
  rw [wb_shr hn hk, wb_a1 (Nat.lt_of_le_of_lt (Nat.div_le_self _ _) hn)]
theorem wb_xor {q k : Nat} (hk : k < 63) (h : 2 ^ k ≤ q) (h2 : q < 2 ^ (k + 1)) : lN q ^^^ lN (2 ^ k) = lN (q - 2 ^ k) := by
  obtain ⟨r, rfl⟩ : ∃ r, q = 2 ^ k + r := ⟨q - 2 ^ k, by omega⟩
  have hr : r < 2 ^ k := by rw [Nat.pow_succ] at h2; omega
  have hx : (2 ^ k + r) ^^^ 2 ^ k = r := by
    apply Nat.eq_of_testBit_eq
    intro i
    rw [Nat.testBit_xor, Nat.testBit_two_pow]
    rcases Nat.lt_trichotomy i k with h | h | h
    · rw [Nat.testBit_two_pow_add_gt h]
      simp [show ¬ k = i by omega]
    · subst h
      rw [Nat.testBit_two_pow_add_eq]
      simp
    · have a1 : 2 ^ (k + 1) ≤ 2 ^ i := Nat.pow_le_pow_right (by decide) h
      rw [Nat.testBit_lt_two_pow (show 2 ^ k + r < 2 ^ i by omega), Nat.testBit_lt_two_pow (show r < 2 ^ i by omega)]
      simp [show ¬ k = i by omega]
  have b1 := wb_lt2 (show k + 1 < 64 by omega)
  have b2 := wb_lt2 (show k < 64 by omega)
  apply wb_inj
  rw [Int64.toBitVec_xor, wb_tb, wb_tb, wb_tb]
  apply BitVec.eq_of_toNat_eq
  rw [BitVec.toNat_xor, BitVec.toNat_ofNat, BitVec.toNat_ofNat, BitVec.toNat_ofNat, Nat.mod_eq_of_lt (by omega : 2 ^ k + r < 2 ^ 64), Nat.mod_eq_of_lt b2, hx, Nat.add_sub_cancel_left, Nat.mod_eq_of_lt (by omega)]
/-! type: one byte of a long, by the one shift and the other -/
theorem sh_c : ∀ j, j < 8 → (((8 : Int32) * nI j).toInt64 &&& 63).toBitVec.smod 64 = BitVec.ofNat 64 (8 * j) := by decide +kernel
theorem sh_and {n j : Nat} (hn : n < 2 ^ 64) (hj : j < 8) : (lN n >>> (((8 : Int32) * nI j).toInt64 &&& 63)) &&& (255 : Int64) = lN (n / 2 ^ (8 * j) % 256) := by
  apply wb_inj
  rw [Int64.toBitVec_and, Int64.toBitVec_shiftRight, wb_tb, wb_tb]
  show (BitVec.sshiftRight (BitVec.ofNat 64 n) ((((8 : Int32) * nI j).toInt64 &&& 63).toBitVec.smod 64).toNat) &&& (255#64) = _
  rw [sh_c j hj]
  have e : (BitVec.ofNat 64 (8 * j)).toNat = 8 * j := by rw [BitVec.toNat_ofNat]; exact Nat.mod_eq_of_lt (by omega)
  rw [e]
  apply BitVec.eq_of_getLsbD_eq
  intro i hi
  rw [BitVec.getLsbD_and, BitVec.getLsbD_sshiftRight, BitVec.getLsbD_ofNat, BitVec.getLsbD_ofNat, BitVec.getLsbD_ofNat]
  rw [show (256 : Nat) = 2 ^ 8 from rfl, Nat.testBit_mod_two_pow, Nat.testBit_div_two_pow]
  have h255 : Nat.testBit 255 i = decide (i < 8) := by
    rw [show (255 : Nat) = 2 ^ 8 - 1 from rfl, Nat.testBit_two_pow_sub_one]
  rw [h255]
  rcases Nat.lt_or_ge i 8 with h | h
  · have h1 : i + 8 * j < 64 := by omega
    simp [h, hi, h1, Nat.not_le.mpr hi, Nat.add_comm]
  · simp [Nat.not_lt.mpr h]
theorem byte_eq (v : Int64) {j : Nat} (hj : j < 8) : ∃ z, z < 256 ∧ ((v.toUInt64 >>> (((8 : Int32) * nI j).toInt64.toUInt64 &&& Int64.toUInt64 63)).toInt64).toInt32 &&& (255 : Int32) = nI z ∧ ((v >>> (((8 : Int32) * nI j).toInt64 &&& 63)) &&& (255 : Int64)).toInt32 = nI z := by
  obtain ⟨n, hn, rfl⟩ := wb_of v
  refine ⟨n / 2 ^ (8 * j) % 256, Nat.mod_lt _ (by decide), ?_, ?_⟩
  · rw [show (8 : Int32) * nI j = nI (8 * j) from pk_mul 8 j, wb_shr hn (by omega), lN_i, pk_and _ 8 (by decide)]
    show nI ((BitVec.ofNat 32 (n / 2 ^ (8 * j))).toNat % 2 ^ 8) = _
    rw [BitVec.toNat_ofNat, Nat.mod_mod_of_dvd _ (by decide)]
  · rw [sh_and hn hj, lN_i]
/-- the text behind i bytes more -/
def tyC (v : Int64) (n b : Nat) (f : Nat → Int32) : Nat → Nat → Int32
  | 0 => f
  | i + 1 => upd (tyC v n b f i) (b + i) (((v.toUInt64 >>> (((8 : Int32) * nI (n - 1 - i)).toInt64.toUInt64 &&& Int64.toUInt64 63)).toInt64).toInt32 &&& (255 : Int32))
def tyR (v : Int64) (n b : Nat) (f : Nat → Int32) : Nat → Nat → Int32
  | 0 => f
  | i + 1 => upd (tyR v n b f i) (b + i) ((v >>> (((8 : Int32) * nI (n - 1 - i)).toInt64 &&& 63)) &&& (255 : Int64)).toInt32
theorem ty_ok (v : Int64) {n b : Nat} (hn : n ≤ 8) {f g : Nat → Int32} {B : Nat → Nat} (h : ∀ j, j < b → B j < 256 ∧ f j = nI (B j) ∧ g j = nI (B j)) : ∀ i, i ≤ n → ∃ B' : Nat → Nat, ∀ j, j < b + i → B' j < 256 ∧ tyC v n b f i j = nI (B' j) ∧ tyR v n b g i j = nI (B' j) := by
  intro i
  induction i with
  | zero => intro _; exact ⟨B, h⟩
  | succ i ih =>
    intro hi
    obtain ⟨B', hB⟩ := ih (by omega)
    obtain ⟨z, hz, e1, e2⟩ := byte_eq v (j := n - 1 - i) (by omega)
    refine ⟨fun j => if j = b + i then z else B' j, fun j hj => ?_⟩
    rw [tyC, tyR]
    by_cases hE : j = b + i
    · subst hE
      simp only [if_pos rfl]
      exact ⟨hz, by rw [pk_us]; exact e1, by rw [pk_us]; exact e2⟩
    · simp only [if_neg hE]
      rw [pk_un hE, pk_un hE]
      exact hB j (by omega)
theorem cd {n i : Nat} (h : i < n) : nI (n - i) - 1 = nI (n - 1 - i) ∧ nI (n - 1 - i) + (-1 : Int32) = nI (n - (i + 1)) - 1 := by
  obtain ⟨m, hm⟩ : ∃ m, n - i = m + 1 := ⟨n - i - 1, by omega⟩
  have e1 : n - 1 - i = m := by omega
  have e2 : n - (i + 1) = m := by omega
  rw [hm, e1, e2]
  exact ⟨nI_pred m, (Int32.sub_eq_add_neg (nI m) 1).symm⟩
theorem typeC {n b : Nat} (hn : n ≤ 8) (hb : b + n ≤ 200) (v : Int64) (bad full no : Int32) (f : Nat → Int32) : lpN (fun z => L_X8_type_45 v bad full no z.1 z.2.1 z.2.2) fuelK (nI n - 1, nI b, f) = some (nI (b + n), bad, nI (b + n), full, no, tyC v n b f n) := by
  refine lp_runK (fun i => (nI (n - i) - 1, nI (b + i), tyC v n b f i)) n _ (by omega) (fun i hi => ?_) ?_
  · show L_X8_type_45 v bad full no (nI (n - i) - 1) (nI (b + i)) (tyC v n b f i) = _
    rw [L_X8_type_45, (cd hi).1, if_neg (nI_pos (by omega)), ix_in (vp_in_nI (by omega) (by decide)), nI_clamp (by omega), (cd hi).2, nI_1]
    rfl
  · show L_X8_type_45 v bad full no (nI (n - n) - 1) (nI (b + n)) (tyC v n b f n) = _
    rw [L_X8_type_45, Nat.sub_self, if_pos (by decide)]
    rfl
theorem typeR {n b : Nat} (hn : n ≤ 8) (hb : b + n ≤ 200) (v : Int64) (refused : Nat → Int32) (f : Nat → Int32) : lpN (fun z => L_X9_type_43 v refused z.1 z.2.1 z.2.2) fuelK (nI n - 1, nI b, f) = some (nI (b + n), nI (b + n), refused, tyR v n b f n) := by
  refine lp_runK (fun i => (nI (n - i) - 1, nI (b + i), tyR v n b f i)) n _ (by omega) (fun i hi => ?_) ?_
  · show L_X9_type_43 v refused (nI (n - i) - 1) (nI (b + i)) (tyR v n b f i) = _
    rw [L_X9_type_43, (cd hi).1, if_neg (nI_pos (by omega)), ix_in (vp_in_nI (by omega) (by decide)), nI_clamp (by omega), (cd hi).2, nI_1]
    rfl
  · show L_X9_type_43 v refused (nI (n - n) - 1) (nI (b + n)) (tyR v n b f n) = _
    rw [L_X9_type_43, Nat.sub_self, if_pos (by decide)]
    rfl
