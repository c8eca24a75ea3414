/-! fullness -/
theorem lpS {σ τ : Type} {body : σ → Option (σ ⊕ τ)} {z z' : σ} (n : Nat) (h : body z = some (.inl z')) : lpN body (n + 1) z = lpN body n z' := by rw [lpN, h]
theorem lg_ne0 {y : Nat} (h : 0 < y) (hy : y < 2 ^ 63) : ¬ lg_cmp (lN y) (0 : Int64) = 0 := by
  have h1 : (0 : Int64) < lN y := (pk_lLT (a := 0) (by decide) hy).mpr h
  have h2 := lg_gt0.mpr h1
  intro c
  rw [c] at h2
  exact absurd h2 (by decide)
theorem lN_ne0 {y : Nat} (h : 0 < y) (hy : y < 2 ^ 63) : ¬ lN y = 0 := fun c => absurd ((pk_lEQ (a := y) (b := 0) hy (by decide)).mp c) (by omega)
theorem gcdC : ∀ (m x y i n : Nat), x < 2 ^ 62 → y < 2 ^ m → m ≤ 40 → i + 2 * m < 100 → 2 * m < n → lpN (fun z => L_X0_commonDivisor_9 z.1 z.2.1 z.2.2) n (lN x, lN y, nI i) = some (lN (Nat.gcd x y)) := by
  have fin : ∀ x i n, i < 100 → 0 < n → lpN (fun z => L_X0_commonDivisor_9 z.1 z.2.1 z.2.2) n (lN x, lN 0, nI i) = some (lN (Nat.gcd x 0)) := by
    intro x i n hi hn
    obtain ⟨n, rfl⟩ : ∃ k, n = k + 1 := ⟨n - 1, by omega⟩
    unfold lpN
    have e : L_X0_commonDivisor_9 (lN x) (lN 0) (nI i) = some (Sum.inr (lN x)) := by
      rw [L_X0_commonDivisor_9, if_neg (show ¬ (100 : Int32) ≤ nI i from nle (a := 100) hi (by decide)), if_pos (show lg_cmp (lN 0) (0 : Int64) = 0 from lg_eq rfl)]
      rfl
    rw [e, Nat.gcd_zero_right]
  have stp : ∀ x y i n, x < 2 ^ 63 → 0 < y → y < 2 ^ 63 → i < 100 → lpN (fun z => L_X0_commonDivisor_9 z.1 z.2.1 z.2.2) (n + 1) (lN x, lN y, nI i) = lpN (fun z => L_X0_commonDivisor_9 z.1 z.2.1 z.2.2) n (lN y, lN (x % y), nI (i + 1)) := by
    intro x y i n hx h0 hy hi
    have e : L_X0_commonDivisor_9 (lN x) (lN y) (nI i) = some (Sum.inl (lN y, lN (x % y), nI (i + 1))) := by
      rw [L_X0_commonDivisor_9, if_neg (show ¬ (100 : Int32) ≤ nI i from nle (a := 100) hi (by decide)), if_neg (lg_ne0 h0 hy), dzL, if_neg (lN_ne0 h0 hy), pk_lRem hx h0 hy, nI_1]
    exact lpS n e
  intro m
  induction m with
  | zero => intro x y i n hx hy hm hi hn; have : y = 0 := by omega
            subst this; exact fin x i n (by omega) (by omega)
  | succ m ih =>
    intro x y i n hx hy hm hi hn
    have hp : 2 ^ (m + 1) ≤ 2 ^ 40 := Nat.pow_le_pow_right (by decide) hm
    rcases Nat.eq_zero_or_pos y with rfl | h0
    · exact fin x i n (by omega) (by omega)
    · obtain ⟨n, rfl⟩ : ∃ k, n = k + 2 := ⟨n - 2, by omega⟩
      rw [stp x y i (n + 1) (by omega) h0 (by omega) (by omega), Nat.gcd_comm, Nat.gcd_rec]
      have hr : x % y < y := Nat.mod_lt x h0
      rcases Nat.eq_zero_or_pos (x % y) with hz | hz
      · rw [hz]
        have := fin y (i + 1) (n + 1) (by omega) (by omega)
        rw [this, Nat.gcd_zero_right, Nat.gcd_zero_left]
      · rw [stp y (x % y) (i + 1) n (by omega) hz (by omega) (by omega), Nat.gcd_rec]
        have hlt : y % (x % y) < 2 ^ m := by
          have h1 : y % (x % y) < x % y := Nat.mod_lt _ hz
          have h2 : y % (x % y) + (x % y) ≤ y := by
            have h3 := Nat.div_add_mod y (x % y)
            have h4 : 1 ≤ y / (x % y) := Nat.div_pos (by omega) hz
            have h5 : (x % y) * 1 ≤ (x % y) * (y / (x % y)) := Nat.mul_le_mul_left _ h4
            omega
          rw [Nat.pow_succ] at hy
          omega
        have h9 := ih (x % y) (y % (x % y)) (i + 1 + 1) n (by omega) hlt (by omega) (by omega) (by omega)
        rw [h9, Nat.gcd_comm]
theorem gcdR : ∀ (m x y n : Nat), x < 2 ^ 62 → y < 2 ^ m → m ≤ 40 → 2 * m < n → lpN (fun z => L_X9_divisor_6 z.1 z.2) n (lN x, lN y) = some (lN (Nat.gcd x y)) := by
  have fin : ∀ x n, 0 < n → lpN (fun z => L_X9_divisor_6 z.1 z.2) n (lN x, lN 0) = some (lN (Nat.gcd x 0)) := by
    intro x n hn
    obtain ⟨n, rfl⟩ : ∃ k, n = k + 1 := ⟨n - 1, by omega⟩
    unfold lpN
    have e : L_X9_divisor_6 (lN x) (lN 0) = some (Sum.inr (lN x)) := by
      rw [L_X9_divisor_6, if_pos (show lg_cmp (lN 0) (0 : Int64) = 0 from lg_eq rfl)]
      rfl
    rw [e, Nat.gcd_zero_right]
  have stp : ∀ x y n, x < 2 ^ 63 → 0 < y → y < 2 ^ 63 → lpN (fun z => L_X9_divisor_6 z.1 z.2) (n + 1) (lN x, lN y) = lpN (fun z => L_X9_divisor_6 z.1 z.2) n (lN y, lN (x % y)) := by
    intro x y n hx h0 hy
    have e : L_X9_divisor_6 (lN x) (lN y) = some (Sum.inl (lN y, lN (x % y))) := by
      rw [L_X9_divisor_6, if_neg (lg_ne0 h0 hy), dzL, if_neg (lN_ne0 h0 hy), pk_lRem hx h0 hy]
    exact lpS n e
  intro m
  induction m with
  | zero => intro x y n hx hy hm hn; have : y = 0 := by omega
            subst this; exact fin x n (by omega)
  | succ m ih =>
    intro x y n hx hy hm hn
    have hp : 2 ^ (m + 1) ≤ 2 ^ 40 := Nat.pow_le_pow_right (by decide) hm
    rcases Nat.eq_zero_or_pos y with rfl | h0
    · exact fin x n (by omega)
    · obtain ⟨n, rfl⟩ : ∃ k, n = k + 2 := ⟨n - 2, by omega⟩
      rw [stp x y (n + 1) (by omega) h0 (by omega), Nat.gcd_comm, Nat.gcd_rec]
      have hr : x % y < y := Nat.mod_lt x h0
      rcases Nat.eq_zero_or_pos (x % y) with hz | hz
      · rw [hz]
        have := fin y (n + 1) (by omega)
        rw [this, Nat.gcd_zero_right, Nat.gcd_zero_left]
      · rw [stp y (x % y) n (by omega) hz (by omega), Nat.gcd_rec]
        have hlt : y % (x % y) < 2 ^ m := by
          have h1 : y % (x % y) < x % y := Nat.mod_lt _ hz
          have h2 : y % (x % y) + (x % y) ≤ y := by
            have h3 := Nat.div_add_mod y (x % y)
            have h4 : 1 ≤ y / (x % y) := Nat.div_pos (by omega) hz
            have h5 : (x % y) * 1 ≤ (x % y) * (y / (x % y)) := Nat.mul_le_mul_left _ h4
            omega
          rw [Nat.pow_succ] at hy
          omega
        have h9 := ih (x % y) (y % (x % y)) n (by omega) hlt (by omega) (by omega)
        rw [h9, Nat.gcd_comm]
theorem gcd_C {x y : Nat} (hx : x < 2 ^ 40) (hy : y < 2 ^ 40) : M_X0_commonDivisor (lN x) (lN y) = some (lN (Nat.gcd x y)) := gcdC 40 x y 0 fuelK (by omega) hy (by decide) (by decide) (by decide)
theorem gcd_R {x y : Nat} (hx : x < 2 ^ 40) (hy : y < 2 ^ 40) : M_X9_divisor (lN x) (lN y) = some (lN (Nat.gcd x y)) := gcdR 40 x y fuelK (by omega) hy (by decide) (by decide)
theorem put_C {x y : Nat} (hx : x < 2 ^ 40) (h0 : 0 < y) (hy : y < 2 ^ 40) (a b : Int64) : M_X0_put a b (lN x) (lN y) = some (lN (x / Nat.gcd x y), lN (y / Nat.gcd x y)) := by
  have hg : 0 < Nat.gcd x y := Nat.gcd_pos_of_pos_right x h0
  have hgy : Nat.gcd x y ≤ y := Nat.gcd_le_right x h0
  rw [M_X0_put, gcd_C hx hy, ob]
  have h1 : (0 : Int32) < lg_cmp (lN (Nat.gcd x y)) (0 : Int64) := lg_gt0.mpr ((pk_lLT (a := 0) (by decide) (by omega)).mpr hg)
  rw [if_neg (Int32.not_le.mpr h1), dzL, if_neg (lN_ne0 hg (by omega)), dzL, if_neg (lN_ne0 hg (by omega)), pk_lDiv (by omega) hg (by omega), pk_lDiv (by omega) hg (by omega)]
def pc (z : Nat) : Nat := (z.testBit 0).toNat + (z.testBit 1).toNat + (z.testBit 2).toNat + (z.testBit 3).toNat + (z.testBit 4).toNat + (z.testBit 5).toNat + (z.testBit 6).toNat + (z.testBit 7).toNat
theorem pc_ok : ∀ z, z < 256 → M_J6_bitCount_0f7a4 (nI z) = some (nI (pc z)) ∧ M_X9_many (nI z) = some (nI (pc z)) := by decide +kernel
theorem pc_le : ∀ N, N < 9 → ∀ z, z < 2 ^ N → pc z ≤ N := by decide +kernel
theorem bn_840 : ∀ N, N < 9 → ∀ k, k < N + 1 → 840 % bn N k = 0 ∧ 0 < bn N k ∧ bn N k ≤ 70 := by decide +kernel
/-- the fraction behind i boxes -/
def frx (C : Nat → Nat) : Nat → Nat × Nat
  | 0 => (0, 1)
  | i + 1 => (((frx C i).1 * C i + (frx C i).2) / Nat.gcd ((frx C i).1 * C i + (frx C i).2) ((frx C i).2 * C i), ((frx C i).2 * C i) / Nat.gcd ((frx C i).1 * C i + (frx C i).2) ((frx C i).2 * C i))
theorem frx_ok {C : Nat → Nat} {k : Nat} (hC : ∀ j, j < k → 840 % C j = 0 ∧ 0 < C j ∧ C j ≤ 70) : ∀ i, i ≤ k → 0 < (frx C i).2 ∧ (frx C i).2 ∣ 840 ∧ Nat.gcd (frx C i).1 (frx C i).2 = 1 ∧ (frx C i).1 ≤ i * (frx C i).2 := by
  intro i
  induction i with
  | zero => intro _; exact (by decide : 0 < 1 ∧ 1 ∣ 840 ∧ Nat.gcd 0 1 = 1 ∧ 0 ≤ 0 * 1)
  | succ i ih =>
    intro hi
    obtain ⟨h1, ⟨p, hp⟩, h3, h4⟩ := ih (by omega)
    obtain ⟨c1, c2, c3⟩ := hC i (by omega)
    obtain ⟨q, hq⟩ := Nat.dvd_of_mod_eq_zero c1
    rw [frx]
    generalize (frx C i).1 = a at h3 h4 ⊢
    generalize (frx C i).2 = b at h1 hp h3 h4 ⊢
    generalize C i = c at c2 c3 hq ⊢
    have hy : 0 < b * c := Nat.mul_pos h1 c2
    obtain ⟨x', hx'⟩ := Nat.gcd_dvd_left (a * c + b) (b * c)
    obtain ⟨y', hy'⟩ := Nat.gcd_dvd_right (a * c + b) (b * c)
    have hg : 0 < Nat.gcd (a * c + b) (b * c) := Nat.gcd_pos_of_pos_right _ hy
    have hco : Nat.gcd ((a * c + b) / Nat.gcd (a * c + b) (b * c)) ((b * c) / Nat.gcd (a * c + b) (b * c)) = 1 := by
      rw [Nat.gcd_div (Nat.gcd_dvd_left _ _) (Nat.gcd_dvd_right _ _)]
      exact Nat.div_self hg
    have ex : (a * c + b) / Nat.gcd (a * c + b) (b * c) = x' := Nat.div_eq_of_eq_mul_right hg hx'
    have ey : (b * c) / Nat.gcd (a * c + b) (b * c) = y' := Nat.div_eq_of_eq_mul_right hg hy'
    rw [ex, ey] at hco
    show 0 < (b * c) / Nat.gcd (a * c + b) (b * c) ∧ (b * c) / Nat.gcd (a * c + b) (b * c) ∣ 840 ∧ Nat.gcd ((a * c + b) / Nat.gcd (a * c + b) (b * c)) ((b * c) / Nat.gcd (a * c + b) (b * c)) = 1 ∧ (a * c + b) / Nat.gcd (a * c + b) (b * c) ≤ (i + 1) * ((b * c) / Nat.gcd (a * c + b) (b * c))
    rw [ex, ey]
    generalize Nat.gcd (a * c + b) (b * c) = g at hg hx' hy'
    refine ⟨?_, ?_, hco, ?_⟩
    · rcases Nat.eq_zero_or_pos y' with h | h
      · rw [h, Nat.mul_zero] at hy'; omega
      · exact h
    · have key : x' * 840 = y' * (a * p + q) := by
        apply Nat.eq_of_mul_eq_mul_left hg
        rw [← Nat.mul_assoc, ← Nat.mul_assoc, ← hx', ← hy', Nat.add_mul, Nat.mul_add]
        have t1 : a * c * 840 = b * c * (a * p) := by rw [hp, Nat.mul_comm a c, Nat.mul_comm b c, Nat.mul_assoc, Nat.mul_assoc, Nat.mul_left_comm a b p]
        have t2 : b * 840 = b * c * q := by rw [hq, Nat.mul_assoc]
        rw [t1, t2]
      have d1 : y' ∣ 840 * x' := ⟨a * p + q, by rw [Nat.mul_comm]; exact key⟩
      have d2 : y' ∣ 840 * y' := Nat.dvd_mul_left y' 840
      have d3 := Nat.dvd_gcd d1 d2
      rw [Nat.gcd_mul_left, hco, Nat.mul_one] at d3
      exact d3
    · have h5 : a * c + b ≤ (i + 1) * (b * c) := by
        have t1 : a * c ≤ i * b * c := Nat.mul_le_mul_right c h4
        have t2 : b * 1 ≤ b * c := Nat.mul_le_mul_left b c2
        rw [Nat.add_mul, Nat.one_mul, ← Nat.mul_assoc]
        omega
      rw [hx', hy', Nat.mul_left_comm] at h5
      exact Nat.le_of_mul_le_mul_left h5 hg
theorem frx_b {C : Nat → Nat} {k : Nat} (hk : k ≤ 16) (hC : ∀ j, j < k → 840 % C j = 0 ∧ 0 < C j ∧ C j ≤ 70) {i : Nat} (hi : i ≤ k) : (frx C i).2 ≤ 840 ∧ (frx C i).1 ≤ 13440 := by
  obtain ⟨h1, h2, -, h4⟩ := frx_ok hC i hi
  have h5 : (frx C i).2 ≤ 840 := Nat.le_of_dvd (by decide) h2
  have h6 : i * (frx C i).2 ≤ 16 * 840 := Nat.mul_le_mul (by omega) h5
  exact ⟨h5, by omega⟩
theorem frx_xy {C : Nat → Nat} {k : Nat} (hk : k ≤ 16) (hC : ∀ j, j < k → 840 % C j = 0 ∧ 0 < C j ∧ C j ≤ 70) {i : Nat} (hi : i < k) : (frx C i).1 * C i + (frx C i).2 < 2 ^ 40 ∧ 0 < (frx C i).2 * C i ∧ (frx C i).2 * C i < 2 ^ 40 := by
  obtain ⟨h1, h2⟩ := frx_b hk hC (Nat.le_of_lt hi)
  obtain ⟨-, c2, c3⟩ := hC i hi
  have h0 := (frx_ok hC i (Nat.le_of_lt hi)).1
  have t1 : (frx C i).1 * C i ≤ 13440 * 70 := Nat.mul_le_mul h2 c3
  have t2 : (frx C i).2 * C i ≤ 840 * 70 := Nat.mul_le_mul h1 c3
  exact ⟨by omega, Nat.mul_pos h0 c2, by omega⟩
theorem fullC {N k : Nat} (hN : N ≤ 8) (hk : k ≤ 16) {S : Nat → Nat} {f : Nat → Int32} (hS : ∀ j, j < k → S j < 2 ^ N ∧ f j = nI (S j)) (a0 b0 : Int64) : M_X8_fullness a0 b0 (nI k) (nI N) f = some (1, lN (frx (fun j => bn N (pc (S j))) k).1, lN (frx (fun j => bn N (pc (S j))) k).2) := by
  have h28 : 2 ^ N ≤ 2 ^ 8 := Nat.pow_le_pow_right (by decide) hN
  have hp : ∀ j, j < k → pc (S j) ≤ N := fun j hj => pc_le N (by omega) _ (hS j hj).1
  have hC : ∀ j, j < k → 840 % (fun j => bn N (pc (S j))) j = 0 ∧ 0 < (fun j => bn N (pc (S j))) j ∧ (fun j => bn N (pc (S j))) j ≤ 70 := fun j hj => bn_840 N (by omega) _ (by have := hp j hj; omega)
  generalize hCe : (fun j => bn N (pc (S j))) = C at hC
  have hCj : ∀ j, bn N (pc (S j)) = C j := fun j => by rw [← hCe]
  have e0 : M_X0_put a0 b0 (0 : Int64) (1 : Int64) = some (lN 0, lN 1) := put_C (x := 0) (y := 1) (by decide) (by decide) (by decide) a0 b0
  rw [M_X8_fullness, e0, ob]
  refine lp_runK (fun i => (nI i, lN (frx C i).1, lN (frx C i).2)) k _ (by omega) (fun i hi => ?_) ?_
  · show L_X8_fullness_11 (nI k) (nI N) f (nI i) (lN (frx C i).1) (lN (frx C i).2) = _
    obtain ⟨q1, q2, q3⟩ := frx_xy hk hC hi
    have hz : S i < 256 := by have := (hS i hi).1; omega
    rw [L_X8_fullness_11, if_neg (nle hi (by omega)), ix_in (vp_in_nI (by omega) (by decide)), nI_clamp (by omega), (hS i hi).2, (pc_ok _ hz).1, ob, chooseC (by omega) (hp i hi), ob, hCj, M_X0_addOneBy, lN_mul, lN_add, lN_mul, put_C q1 q2 q3, ob, ob, nI_1]
    rfl
  · show L_X8_fullness_11 (nI k) (nI N) f (nI k) (lN (frx C k).1) (lN (frx C k).2) = _
    rw [L_X8_fullness_11, if_pos (nI_le (Nat.le_refl k) (by omega))]
    rfl
theorem fullR {N k : Nat} (hN : N ≤ 8) (hk : k ≤ 16) {S : Nat → Nat} {f : Nat → Int32} (hS : ∀ j, j < k → S j < 2 ^ N ∧ f j = nI (S j)) (a0 b0 : Int64) (tri : Nat → Int64) : ∃ g, M_X9_fullness a0 b0 (nI k) (nI N) f tri = some (1, lN (frx (fun j => bn N (pc (S j))) k).1, lN (frx (fun j => bn N (pc (S j))) k).2, g) := by
  have h28 : 2 ^ N ≤ 2 ^ 8 := Nat.pow_le_pow_right (by decide) hN
  have hp : ∀ j, j < k → pc (S j) ≤ N := fun j hj => pc_le N (by omega) _ (hS j hj).1
  have hC : ∀ j, j < k → 840 % (fun j => bn N (pc (S j))) j = 0 ∧ 0 < (fun j => bn N (pc (S j))) j ∧ (fun j => bn N (pc (S j))) j ≤ 70 := fun j hj => bn_840 N (by omega) _ (by have := hp j hj; omega)
  generalize hCe : (fun j => bn N (pc (S j))) = C at hC
  have hCj : ∀ j, bn N (pc (S j)) = C j := fun j => by rw [← hCe]
  obtain ⟨t, et, g, rfl⟩ := lp_invK (body := fun z : Int64 × Int64 × Int32 × (Nat → Int64) => L_X9_fullness_7 a0 b0 (nI k) (nI N) f z.1 z.2.1 z.2.2.1 z.2.2.2) (fun (i : Nat) (z : Int64 × Int64 × Int32 × (Nat → Int64)) => ∃ g, z = (lN (frx C i).1, lN (frx C i).2, nI i, g)) (fun t => ∃ g, t = (1, lN (frx C k).1, lN (frx C k).2, g)) k (by omega) (by
    rintro i z hi ⟨g, rfl⟩
    obtain ⟨q1, q2, q3⟩ := frx_xy hk hC hi
    have hz : S i < 256 := by have := (hS i hi).1; omega
    obtain ⟨g', hg'⟩ := chosenR (n := N) (k := pc (S i)) (by omega) (hp i hi) g
    have hg : 0 < Nat.gcd ((frx C i).1 * C i + (frx C i).2) ((frx C i).2 * C i) := Nat.gcd_pos_of_pos_right _ q2
    have hgy : Nat.gcd ((frx C i).1 * C i + (frx C i).2) ((frx C i).2 * C i) ≤ (frx C i).2 * C i := Nat.gcd_le_right _ q2
    refine Or.inl ⟨(lN (frx C (i + 1)).1, lN (frx C (i + 1)).2, nI (i + 1), g'), ?_, g', rfl⟩
    show L_X9_fullness_7 a0 b0 (nI k) (nI N) f (lN (frx C i).1) (lN (frx C i).2) (nI i) g = _
    rw [L_X9_fullness_7, if_neg (nle hi (by omega)), ix_in (vp_in_nI (by omega) (by decide)), nI_clamp (by omega), (hS i hi).2, (pc_ok _ hz).2, ob, hg', ob, hCj]
    show Option.bind (M_X9_divisor (lN (frx C i).1 * lN (C i) + lN (frx C i).2) (lN (frx C i).2 * lN (C i))) (fun t50 => dzL t50 (dzL t50 (some (Sum.inl (((lN (frx C i).1 * lN (C i) + lN (frx C i).2) / t50), ((lN (frx C i).2 * lN (C i)) / t50), (nI i + (1 : Int32)), g'))))) = _
    rw [lN_mul, lN_add, lN_mul, gcd_R q1 q3, ob, dzL, if_neg (lN_ne0 hg (by omega)), dzL, if_neg (lN_ne0 hg (by omega)), pk_lDiv (by omega) hg (by omega), pk_lDiv (by omega) hg (by omega), nI_1]
    rfl) (by
    rintro z ⟨g, rfl⟩
    obtain ⟨r1, r2, r3, r4⟩ := frx_ok hC k (Nat.le_refl k)
    obtain ⟨b1, b2⟩ := frx_b hk hC (Nat.le_refl k)
    refine ⟨_, ?_, g, rfl⟩
    show L_X9_fullness_7 a0 b0 (nI k) (nI N) f (lN (frx C k).1) (lN (frx C k).2) (nI k) g = _
    rw [L_X9_fullness_7, if_pos (nI_le (Nat.le_refl k) (by omega)), M_X9_tell, gcd_R (by omega) (by omega), r3, ob, dzL, if_neg (show ¬ lN 1 = 0 by decide), dzL, if_neg (show ¬ lN 1 = 0 by decide), pk_lDiv (by omega) (by decide) (by decide), pk_lDiv (by omega) (by decide) (by decide), Nat.div_one, Nat.div_one, ob]
    rfl) ((0 : Int64), (1 : Int64), (0 : Int32), tri) ⟨tri, rfl⟩
  exact ⟨g, et⟩
