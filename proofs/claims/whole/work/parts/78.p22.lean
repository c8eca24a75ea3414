/-! The first that break a law -/
theorem lp_fromK {σ τ : Type} {body : σ → Option (σ ⊕ τ)} (st : Nat → σ) (a e : Nat) (t : τ) (hae : a ≤ e) (he : e < 1000000) (h : ∀ i, a ≤ i → i < e → body (st i) = some (.inl (st (i + 1)))) (hx : body (st e) = some (.inr t)) : lpN body fuelK (st a) = some t := by
  have h1 := lp_runK (fun d => st (a + d)) (e - a) t (by omega) (fun i hi => h (a + i) (by omega) (by omega)) (by show body (st (a + (e - a))) = _; rw [show a + (e - a) = e by omega]; exact hx)
  exact h1
def q_nz (y : Int32) : Option Int32 := if 0 < y then (if y ≤ (65536 : Int32) then (B_J6_numberOfTrailingZeros_0f7a4_34 y (1 : Int32)) else (B_J6_numberOfTrailingZeros_0f7a4_34 ((y.toUInt32 >>> ((16 : Int32).toUInt32 &&& Int32.toUInt32 31)).toInt32) ((1 : Int32) + (16 : Int32)))) else (some (y &&& (32 : Int32)))
theorem q_nz_ok : ∀ t, t < 16 → q_nz (nI (2 ^ t - 1)) = some (nI t) := by decide +kernel
theorem q_ntz {x : Int32} {t : Nat} (ht : t < 16) (h1 : bt x t = true) (h0 : ∀ i, i < t → bt x i = false) : M_J6_numberOfTrailingZeros_0f7a4 x = some (nI t) := by
  have e : x = nI x.toBitVec.toNat := by
    apply Int32.toBitVec_inj.1
    show x.toBitVec = BitVec.ofNat 32 x.toBitVec.toNat
    simp
  generalize x.toBitVec.toNat = v at e
  subst e
  have b1 : v.testBit t = true := by rw [← q_nIbt v (by omega)]; exact h1
  have b0 : ∀ i, i < t → v.testBit i = false := fun i hi => by rw [← q_nIbt v (by omega)]; exact h0 i hi
  have hmod : v % 2 ^ (t + 1) = 2 ^ t := by
    apply Nat.eq_of_testBit_eq
    intro i
    rw [Nat.testBit_mod_two_pow, Nat.testBit_two_pow]
    by_cases c1 : i < t
    · rw [b0 i c1, Bool.and_false, decide_eq_false (by omega)]
    · by_cases c2 : i = t
      · subst c2; rw [b1]; simp
      · rw [decide_eq_false (show ¬ i < t + 1 by omega), decide_eq_false (show ¬ t = i by omega), Bool.false_and]
  have hv := Nat.div_add_mod v (2 ^ (t + 1))
  rw [hmod] at hv
  have hp : 1 ≤ 2 ^ t := Nat.one_le_two_pow
  have hlt : 2 ^ t - 1 < 2 ^ (t + 1) := by rw [Nat.pow_succ]; omega
  have hlt2 : 2 ^ t < 2 ^ (t + 1) := by rw [Nat.pow_succ]; omega
  have hv1 : v - 1 = 2 ^ (t + 1) * (v / 2 ^ (t + 1)) + (2 ^ t - 1) := by omega
  have y : (nI v ^^^ (-1 : Int32)) &&& (nI v - 1) = nI (2 ^ t - 1) := by
    rw [show nI v - 1 = nI (v - 1) from pk_sub (a := v) (b := 1) (by omega)]
    apply b_ext
    intro i hi
    rw [b_and, b_not _ hi, q_nIbt _ hi, q_nIbt _ hi, q_nIbt _ hi, Nat.testBit_two_pow_sub_one, hv1, Nat.testBit_two_pow_mul_add _ hlt]
    by_cases c1 : i < t + 1
    · rw [if_pos c1, Nat.testBit_two_pow_sub_one]
      by_cases c2 : i < t
      · rw [b0 i c2, decide_eq_true c2]; rfl
      · rw [decide_eq_false c2, Bool.and_false]
    · rw [if_neg c1, decide_eq_false (by omega)]
      have h5 : v.testBit i = (v / 2 ^ (t + 1)).testBit (i - (t + 1)) := by
        have h6 := Nat.testBit_two_pow_mul_add (v / 2 ^ (t + 1)) hlt2 i
        rw [hv, if_neg c1] at h6
        exact h6
      rw [h5]
      cases (v / 2 ^ (t + 1)).testBit (i - (t + 1)) <;> rfl
  have h9 : M_J6_numberOfTrailingZeros_0f7a4 (nI v) = q_nz ((nI v ^^^ (-1 : Int32)) &&& (nI v - 1)) := rfl
  rw [h9, y]
  exact q_nz_ok t ht
/-- bits pushed down -/
theorem q_ush (P : Nat → Bool) {m s : Nat} (hm : m ≤ 16) (hs : s ≤ 16) (j : Nat) : bt (((q_mk P m).toUInt32 >>> ((nI s).toUInt32 &&& Int32.toUInt32 31)).toInt32) j = (decide (s + j < m) && P (s + j)) := by
  rw [b_ushr s (by omega), q_bt P (by omega)]
theorem q_ush0 (P : Nat → Bool) {m s : Nat} (hm : m ≤ 16) (hs : s ≤ 16) : (((q_mk P m).toUInt32 >>> ((nI s).toUInt32 &&& Int32.toUInt32 31)).toInt32) = 0 ↔ ∀ j, s ≤ j → j < m → P j = false := by
  constructor
  · intro h j h1 h2
    have h3 := congrArg (fun x => bt x (j - s)) h
    simp only [q_ush P hm hs, b_0] at h3
    rw [show s + (j - s) = j by omega, decide_eq_true h2] at h3
    simpa using h3
  · intro h
    apply b_ext
    intro i hi
    rw [q_ush P hm hs, b_0]
    by_cases h1 : s + i < m
    · rw [h (s + i) (by omega) h1, Bool.and_false]
    · rw [decide_eq_false h1, Bool.false_and]
theorem q_ushz (P : Nat → Bool) {m s j : Nat} (hm : m ≤ 16) (hs : s ≤ j) (hj : j < m) (h1 : P j = true) (h0 : ∀ i, s ≤ i → i < j → P i = false) : M_J6_numberOfTrailingZeros_0f7a4 (((q_mk P m).toUInt32 >>> ((nI s).toUInt32 &&& Int32.toUInt32 31)).toInt32) = some (nI (j - s)) := by
  apply q_ntz (by omega)
  · rw [q_ush P hm (by omega), show s + (j - s) = j by omega, decide_eq_true hj, h1]; rfl
  · intro i hi
    rw [q_ush P hm (by omega), h0 (s + i) (by omega) (by omega), Bool.and_false]
section FB
variable {m : Nat} {F : Nat → Bool} {C R : Nat → Nat → Bool} {c n : Nat → Int32}
theorem q_fb1 (hm : m ≤ 16) {i0 : Nat} (hi : i0 < m) (h : F i0 = false) (hl : ∀ j, j < i0 → F j = true) : M_X3_firstBreak (nI m) (q_mk F m) c n = some (nI (1000000 + i0)) := by
  refine lp_runK (fun i => nI i) i0 _ (by omega) (fun i h2 => ?_) ?_
  · show L_X3_firstBreak_2 (nI m) (q_mk F m) c n (nI i) = _
    rw [L_X3_firstBreak_2, if_neg (nle (by omega) (by omega)), q_has _ (by omega), ob, q_bt _ (by omega), decide_eq_true (show i < m by omega), hl i h2, Bool.true_and, nb1, nI_1]
  · show L_X3_firstBreak_2 (nI m) (q_mk F m) c n (nI i0) = _
    rw [L_X3_firstBreak_2, if_neg (nle (by omega) (by omega)), q_has _ (by omega), ob, q_bt _ (by omega), h, Bool.and_false, nb0]
    rw [show (1000000 : Int32) + nI i0 = nI (1000000 + i0) from nI_add 1000000 i0]
    rfl
theorem q_fb1' (hm : m ≤ 16) (hl : ∀ j, j < m → F j = true) {t : Int32} (h34 : lpN (fun z => L_X3_firstBreak_34 (nI m) (q_mk F m) c n z) fuelK (0 : Int32) = some t) : M_X3_firstBreak (nI m) (q_mk F m) c n = some t := by
  refine lp_runK (fun i => nI i) m _ (by omega) (fun i h2 => ?_) ?_
  · show L_X3_firstBreak_2 (nI m) (q_mk F m) c n (nI i) = _
    rw [L_X3_firstBreak_2, if_neg (nle (by omega) (by omega)), q_has _ (by omega), ob, q_bt _ (by omega), decide_eq_true (show i < m by omega), hl i h2, Bool.true_and, nb1, nI_1]
  · show L_X3_firstBreak_2 (nI m) (q_mk F m) c n (nI m) = _
    rw [L_X3_firstBreak_2, if_pos (nI_le (Nat.le_refl m) (by omega)), h34]
    rfl
theorem q_fb2s (hm : m ≤ 16) (hc : ∀ j, j < m → c j = q_mk (C j) m) {ft : Int32} {i : Nat} (hi : i < m) (h : ∀ j, i < j → j < m → C i j = false) : L_X3_firstBreak_34 (nI m) ft c n (nI i) = some (Sum.inl (nI (i + 1))) := by
  rw [L_X3_firstBreak_34, if_neg (nle hi (by omega)), ix_in (vp_in_nI (by omega) (by decide)), nI_clamp (by omega), hc i hi, nI_1, if_pos ((q_ush0 (C i) hm (by omega)).mpr (fun j h1 h2 => h j (by omega) h2))]
theorem q_fb2 (hm : m ≤ 16) (hc : ∀ j, j < m → c j = q_mk (C j) m) {ft : Int32} {i0 j0 : Nat} (hij : i0 < j0) (hj : j0 < m) (h : C i0 j0 = true) (hl : ∀ i, i < i0 → ∀ j, i < j → j < m → C i j = false) (hl2 : ∀ j, i0 < j → j < j0 → C i0 j = false) : lpN (fun z => L_X3_firstBreak_34 (nI m) ft c n z) fuelK (0 : Int32) = some (nI (2000000 + (100 * i0 + j0))) := by
  refine lp_runK (fun i => nI i) i0 _ (by omega) (fun i h2 => q_fb2s hm hc (by omega) (hl i h2)) ?_
  show L_X3_firstBreak_34 (nI m) ft c n (nI i0) = _
  rw [L_X3_firstBreak_34, if_neg (nle (by omega) (by omega)), ix_in (vp_in_nI (by omega) (by decide)), nI_clamp (by omega), hc i0 (by omega), nI_1, if_neg (fun h3 => by
    have h4 := (q_ush0 (C i0) hm (by omega)).mp h3 j0 (by omega) hj
    rw [h] at h4; cases h4), q_ushz (C i0) hm (s := i0 + 1) (by omega) hj h (fun i a b => hl2 i (by omega) b), ob]
  rw [show (2000000 : Int32) = nI 2000000 from rfl, show (100 : Int32) = nI 100 from rfl, show (1 : Int32) = nI 1 from rfl, pk_mul, nI_add, nI_add, nI_add, nI_add, show 2000000 + 100 * i0 + i0 + 1 + (j0 - (i0 + 1)) = 2000000 + (100 * i0 + j0) by omega]
  rfl
theorem q_fb2' (hm : m ≤ 16) (hc : ∀ j, j < m → c j = q_mk (C j) m) {ft t : Int32} (hl : ∀ i, i < m → ∀ j, i < j → j < m → C i j = false) (h82 : lpN (fun z => L_X3_firstBreak_82 (nI m) ft c n z) fuelK (0 : Int32) = some t) : lpN (fun z => L_X3_firstBreak_34 (nI m) ft c n z) fuelK (0 : Int32) = some t := by
  refine lp_runK (fun i => nI i) m _ (by omega) (fun i h2 => q_fb2s hm hc (by omega) (hl i h2)) ?_
  show L_X3_firstBreak_34 (nI m) ft c n (nI m) = _
  rw [L_X3_firstBreak_34, if_pos (nI_le (Nat.le_refl m) (by omega)), h82]
  rfl
theorem q_fb3a (hm : m ≤ 16) (hn : ∀ j, j < m → n j = q_mk (R j) m) {ft : Int32} {i j : Nat} (hi : i < m) (hj : j < m) (h : ∀ k, j < k → k < m → (R i j && R i k && R j k) = false) : L_X3_firstBreak_94 (nI i) (nI m) ft c n (nI j) = some (Sum.inl (nI (j + 1))) := by
  have hin : vp_in (nI i) 16 := vp_in_nI (by omega) (by decide)
  have hinj : vp_in (nI j) 16 := vp_in_nI (by omega) (by decide)
  rw [L_X3_firstBreak_94, if_neg (nle hj (by omega)), ix_in hin, nI_clamp (by omega), hn i hi, q_has _ (by omega), ob, q_bt _ (by omega), decide_eq_true hj, Bool.true_and]
  cases hr : R i j with
  | false => rw [nb0, B_X3_firstBreak_136, if_pos rfl, nI_1]
  | true =>
    rw [if_pos rfl, if_neg (by decide), ix_in hin, ix_in hinj, nI_clamp (by omega), hn j hj, q_and _ _ (by omega), B_X3_firstBreak_136, nI_1, if_pos]
    apply (q_ush0 (fun k => R i k && R j k) hm (by omega)).mpr
    intro k h1 h2
    have h3 := h k (by omega) h2
    rw [hr, Bool.true_and] at h3
    exact h3
theorem q_fb3s (hm : m ≤ 16) (hn : ∀ j, j < m → n j = q_mk (R j) m) {ft : Int32} {i : Nat} (hi : i < m) (h : ∀ j k, i < j → j < k → k < m → (R i j && R i k && R j k) = false) : L_X3_firstBreak_82 (nI m) ft c n (nI i) = some (Sum.inl (nI (i + 1))) := by
  rw [L_X3_firstBreak_82, if_neg (nle hi (by omega)), nI_1]
  refine lp_fromK (fun j => nI j) (i + 1) m _ (by omega) (by omega) (fun j h1 h2 => q_fb3a hm hn hi h2 (fun k a b => h j k (by omega) a b)) ?_
  show L_X3_firstBreak_94 (nI i) (nI m) ft c n (nI m) = _
  rw [L_X3_firstBreak_94, if_pos (nI_le (Nat.le_refl m) (by omega)), nI_1]
  rfl
theorem q_fb3 (hm : m ≤ 16) (hn : ∀ j, j < m → n j = q_mk (R j) m) {ft : Int32} {i0 j0 k0 : Nat} (hij : i0 < j0) (hjk : j0 < k0) (hk : k0 < m) (h : (R i0 j0 && R i0 k0 && R j0 k0) = true) (hl : ∀ i, i < i0 → ∀ j k, i < j → j < k → k < m → (R i j && R i k && R j k) = false) (hl2 : ∀ j k, i0 < j → j < j0 → j < k → k < m → (R i0 j && R i0 k && R j k) = false) (hl3 : ∀ k, j0 < k → k < k0 → (R i0 j0 && R i0 k && R j0 k) = false) : lpN (fun z => L_X3_firstBreak_82 (nI m) ft c n z) fuelK (0 : Int32) = some (nI (3000000 + (10000 * i0 + 100 * j0 + k0))) := by
  refine lp_runK (fun i => nI i) i0 _ (by omega) (fun i h2 => q_fb3s hm hn (by omega) (hl i h2)) ?_
  show L_X3_firstBreak_82 (nI m) ft c n (nI i0) = _
  rw [L_X3_firstBreak_82, if_neg (nle (by omega) (by omega)), nI_1]
  refine lp_fromK (fun j => nI j) (i0 + 1) j0 _ (by omega) (by omega) (fun j h1 h2 => q_fb3a hm hn (by omega) (by omega) (fun k a b => hl2 j k (by omega) h2 a b)) ?_
  show L_X3_firstBreak_94 (nI i0) (nI m) ft c n (nI j0) = _
  have hin : vp_in (nI i0) 16 := vp_in_nI (by omega) (by decide)
  have hinj : vp_in (nI j0) 16 := vp_in_nI (by omega) (by decide)
  have h' := h
  rw [Bool.and_eq_true, Bool.and_eq_true] at h'
  rw [L_X3_firstBreak_94, if_neg (nle (by omega) (by omega)), ix_in hin, nI_clamp (by omega), hn i0 (by omega), q_has _ (by omega), ob, q_bt _ (by omega), decide_eq_true (show j0 < m by omega), h'.1.1, Bool.true_and, nb1, ix_in hin, ix_in hinj, nI_clamp (by omega), hn j0 (by omega), q_and _ _ (by omega), B_X3_firstBreak_136, nI_1, if_neg (fun h3 => by
    have h4 := (q_ush0 (fun k => R i0 k && R j0 k) hm (by omega)).mp h3 k0 (by omega) hk
    simp only [h'.1.2, h'.2] at h4; cases h4), q_ushz (fun k => R i0 k && R j0 k) hm (s := j0 + 1) (by omega) hk (by show (R i0 k0 && R j0 k0) = true; rw [h'.1.2, h'.2]; rfl) (fun k a b => by
      have h5 := hl3 k (by omega) b
      rw [h'.1.1, Bool.true_and] at h5
      exact h5), ob]
  rw [show (3000000 : Int32) = nI 3000000 from rfl, show (10000 : Int32) = nI 10000 from rfl, show (100 : Int32) = nI 100 from rfl, show (1 : Int32) = nI 1 from rfl, pk_mul, pk_mul, nI_add, nI_add, nI_add, nI_add, nI_add, show 3000000 + 10000 * i0 + 100 * j0 + j0 + 1 + (k0 - (j0 + 1)) = 3000000 + (10000 * i0 + 100 * j0 + k0) by omega]
  rfl
theorem q_fb3' (hm : m ≤ 16) (hn : ∀ j, j < m → n j = q_mk (R j) m) {ft : Int32} (hl : ∀ i j k, i < j → j < k → k < m → (R i j && R i k && R j k) = false) : lpN (fun z => L_X3_firstBreak_82 (nI m) ft c n z) fuelK (0 : Int32) = some (-1) := by
  refine lp_runK (fun i => nI i) m _ (by omega) (fun i h2 => q_fb3s hm hn (by omega) (hl i)) ?_
  show L_X3_firstBreak_82 (nI m) ft c n (nI m) = _
  rw [L_X3_firstBreak_82, if_pos (nI_le (Nat.le_refl m) (by omega))]
  rfl
end FB
section RB
variable {L lo hi m : Nat} {A : Nat → Nat} {box : Nat → Int32}
theorem q_rb1s (hL : L ≤ 4) (hlo : lo ≤ 8) (hh : hi ≤ 8) (hm : m ≤ 16) (hA : ∀ j, j < m → A j < 256 ∧ box j = nI (A j)) (vb : Int32) {i : Nat} (hi' : i < m) (h : q_F L lo hi A i = true) : L_X9_breaks_2 (nI L) (nI m) vb (nI hi) (nI lo) box (nI i) = some (Sum.inl (nI (i + 1))) := by
  rw [L_X9_breaks_2, if_neg (nle hi' (by omega)), ix_in (vp_in_nI (by omega) (by decide)), nI_clamp (by omega), (hA i hi').2, q_fitR hL hlo hh (hA i hi').1, ob, show q_fit L lo hi (A i) = true from h, if_pos rfl, if_neg (by decide), nI_1]
theorem q_rb1 (hL : L ≤ 4) (hlo : lo ≤ 8) (hh : hi ≤ 8) (hm : m ≤ 16) (hA : ∀ j, j < m → A j < 256 ∧ box j = nI (A j)) (vb : Int32) {i0 : Nat} (hi0 : i0 < m) (h : q_F L lo hi A i0 = false) (hl : ∀ j, j < i0 → q_F L lo hi A j = true) : M_X9_breaks (nI m) vb (nI hi) (nI lo) box (nI L) = some (nI i0, 1) := by
  refine lp_runK (fun i => nI i) i0 _ (by omega) (fun i h2 => q_rb1s hL hlo hh hm hA vb (by omega) (hl i h2)) ?_
  show L_X9_breaks_2 (nI L) (nI m) vb (nI hi) (nI lo) box (nI i0) = _
  rw [L_X9_breaks_2, if_neg (nle hi0 (by omega)), ix_in (vp_in_nI (by omega) (by decide)), nI_clamp (by omega), (hA i0 hi0).2, q_fitR hL hlo hh (hA i0 hi0).1, ob, show q_fit L lo hi (A i0) = false from h, nb0]
  rfl
theorem q_rb1' (hL : L ≤ 4) (hlo : lo ≤ 8) (hh : hi ≤ 8) (hm : m ≤ 16) (hA : ∀ j, j < m → A j < 256 ∧ box j = nI (A j)) (vb : Int32) (hl : ∀ j, j < m → q_F L lo hi A j = true) {t : Int32 × Int32} (h39 : lpN (fun z => L_X9_breaks_39 (nI L) (nI m) vb (nI hi) (nI lo) box z) fuelK (0 : Int32) = some t) : M_X9_breaks (nI m) vb (nI hi) (nI lo) box (nI L) = some t := by
  refine lp_runK (fun i => nI i) m _ (by omega) (fun i h2 => q_rb1s hL hlo hh hm hA vb (by omega) (hl i h2)) ?_
  show L_X9_breaks_2 (nI L) (nI m) vb (nI hi) (nI lo) box (nI m) = _
  rw [L_X9_breaks_2, if_pos (nI_le (Nat.le_refl m) (by omega)), h39]
  rfl
theorem q_rb2a (hL : L ≤ 4) (hm : m ≤ 16) (hA : ∀ j, j < m → A j < 256 ∧ box j = nI (A j)) (vb vh vl : Int32) {i j : Nat} (hi' : i < m) (hj : j < m) (h : q_agr L (A i) (A j) = true) : L_X9_breaks_51 (nI L) (nI i) (nI m) vb vh vl box (nI j) = some (Sum.inl (nI (j + 1))) := by
  rw [L_X9_breaks_51, if_neg (nle hj (by omega)), ix_in (vp_in_nI (by omega) (by decide)), ix_in (vp_in_nI (by omega) (by decide)), nI_clamp (by omega), nI_clamp (by omega), (hA i hi').2, (hA j hj).2, q_agR hL (hA i hi').1 (hA j hj).1, ob, h, if_pos rfl, if_neg (by decide), nI_1]
theorem q_rb2s (hL : L ≤ 4) (hm : m ≤ 16) (hA : ∀ j, j < m → A j < 256 ∧ box j = nI (A j)) (vb vh vl : Int32) {i : Nat} (hi' : i < m) (h : ∀ j, i < j → j < m → q_agr L (A i) (A j) = true) : L_X9_breaks_39 (nI L) (nI m) vb vh vl box (nI i) = some (Sum.inl (nI (i + 1))) := by
  rw [L_X9_breaks_39, if_neg (nle hi' (by omega)), nI_1]
  refine lp_fromK (fun j => nI j) (i + 1) m _ (by omega) (by omega) (fun j h1 h2 => q_rb2a hL hm hA vb vh vl hi' h2 (h j (by omega) h2)) ?_
  show L_X9_breaks_51 (nI L) (nI i) (nI m) vb vh vl box (nI m) = _
  rw [L_X9_breaks_51, if_pos (nI_le (Nat.le_refl m) (by omega)), nI_1]
  rfl
theorem q_rb2 (hL : L ≤ 4) (hm : m ≤ 16) (hA : ∀ j, j < m → A j < 256 ∧ box j = nI (A j)) (vb vh vl : Int32) {i0 j0 : Nat} (hij : i0 < j0) (hj : j0 < m) (h : q_agr L (A i0) (A j0) = false) (hl : ∀ i, i < i0 → ∀ j, i < j → j < m → q_agr L (A i) (A j) = true) (hl2 : ∀ j, i0 < j → j < j0 → q_agr L (A i0) (A j) = true) : lpN (fun z => L_X9_breaks_39 (nI L) (nI m) vb vh vl box z) fuelK (0 : Int32) = some (nI (100 * i0 + j0), 2) := by
  refine lp_runK (fun i => nI i) i0 _ (by omega) (fun i h2 => q_rb2s hL hm hA vb vh vl (by omega) (hl i h2)) ?_
  show L_X9_breaks_39 (nI L) (nI m) vb vh vl box (nI i0) = _
  rw [L_X9_breaks_39, if_neg (nle (by omega) (by omega)), nI_1]
  refine lp_fromK (fun j => nI j) (i0 + 1) j0 _ (by omega) (by omega) (fun j h1 h2 => q_rb2a hL hm hA vb vh vl (by omega) (by omega) (hl2 j (by omega) h2)) ?_
  show L_X9_breaks_51 (nI L) (nI i0) (nI m) vb vh vl box (nI j0) = _
  rw [L_X9_breaks_51, if_neg (nle hj (by omega)), ix_in (vp_in_nI (by omega) (by decide)), ix_in (vp_in_nI (by omega) (by decide)), nI_clamp (by omega), nI_clamp (by omega), (hA i0 (by omega)).2, (hA j0 hj).2, q_agR hL (hA i0 (by omega)).1 (hA j0 hj).1, ob, h, nb0]
  rw [show (100 : Int32) = nI 100 from rfl, pk_mul, nI_add]
  rfl
theorem q_rb2' (hL : L ≤ 4) (hm : m ≤ 16) (hA : ∀ j, j < m → A j < 256 ∧ box j = nI (A j)) (vb vh vl : Int32) (hl : ∀ i, i < m → ∀ j, i < j → j < m → q_agr L (A i) (A j) = true) {t : Int32 × Int32} (h104 : lpN (fun z => L_X9_breaks_104 (nI L) (nI m) vb vh vl box z) fuelK (0 : Int32) = some t) : lpN (fun z => L_X9_breaks_39 (nI L) (nI m) vb vh vl box z) fuelK (0 : Int32) = some t := by
  refine lp_runK (fun i => nI i) m _ (by omega) (fun i h2 => q_rb2s hL hm hA vb vh vl (by omega) (hl i h2)) ?_
  show L_X9_breaks_39 (nI L) (nI m) vb vh vl box (nI m) = _
  rw [L_X9_breaks_39, if_pos (nI_le (Nat.le_refl m) (by omega)), h104]
  rfl
theorem q_rb3n (h2 : L ≠ 2) (hL : L ≤ 4) (vb vh vl : Int32) : lpN (fun z => L_X9_breaks_104 (nI L) (nI m) vb vh vl box z) fuelK (0 : Int32) = some (-1, 0) := by
  refine lp_runK (fun _ => (0 : Int32)) 0 _ (by omega) (fun i hi => by omega) ?_
  show L_X9_breaks_104 (nI L) (nI m) vb vh vl box 0 = _
  rw [L_X9_breaks_104, if_neg (show ¬ nI L = 2 from fun c => h2 ((nI_eq (a := L) (b := 2) (by omega) (by decide)).mp c))]
  split <;> rfl
def q_ch (A : Nat → Nat) (i j k : Nat) : Bool := q_nst (A i) (A j) && q_nst (A j) (A k) && q_nst (A i) (A k)
theorem q_rb3a (hm : m ≤ 16) (hA : ∀ j, j < m → A j < 256 ∧ box j = nI (A j)) (vb vh vl : Int32) {t : Nat} (ht : t < m * m * m) : L_X9_breaks_104 (nI 2) (nI m) vb vh vl box (nI t) = if t / m / m < t / m % m ∧ t / m % m < t % m ∧ q_ch A (t / m / m) (t / m % m) (t % m) = true then some (Sum.inr (nI (10000 * (t / m / m) + 100 * (t / m % m) + t % m), 3)) else some (Sum.inl (nI (t + 1))) := by
  have h0 : 0 < m := by
    rcases Nat.eq_zero_or_pos m with h | h
    · subst h; omega
    · exact h
  have hmm : m * m ≤ 16 * 16 := Nat.mul_le_mul hm hm
  have hmmm : m * m * m ≤ 16 * 16 * 16 := Nat.mul_le_mul hmm hm
  have hk : t % m < m := Nat.mod_lt t h0
  have hj : t / m % m < m := Nat.mod_lt _ h0
  have hi' : t / m / m < m := by
    rw [Nat.div_div_eq_div_mul]
    exact (Nat.div_lt_iff_lt_mul (Nat.mul_pos h0 h0)).mpr (by rw [Nat.mul_comm m (m * m)] ; exact ht)
  have htm : t / m ≤ t := Nat.div_le_self t m
  have hz : ¬ nI m = 0 := nI_ne0 h0 (by omega)
  have d1 : nI t / nI m = nI (t / m) := pk_div (by omega) h0 (by omega)
  have d2 : nI (t / m) / nI m = nI (t / m / m) := pk_div (by omega) h0 (by omega)
  have d3 : nI (t / m) - nI (t / m / m) * nI m = nI (t / m % m) := by rw [← d2]; exact pk_rem (by omega) h0 (by omega)
  have d4 : nI t - nI (t / m) * nI m = nI (t % m) := by rw [← d1]; exact pk_rem (by omega) h0 (by omega)
  rw [L_X9_breaks_104, pk_mul, pk_mul, if_neg (nle ht (by omega)), if_pos (show nI 2 = (2 : Int32) from rfl), d1, d2, d3, d4, dz, if_neg hz, dz, if_neg hz, dz, if_neg hz, dz, if_neg hz, dz, if_neg hz, nI_1]
  by_cases c1 : t / m / m < t / m % m
  · by_cases c2 : t / m % m < t % m
    · rw [if_neg (nle c1 (by omega)), if_neg (nle c2 (by omega)), ix_in (vp_in_nI (by omega) (by decide)), ix_in (vp_in_nI (by omega) (by decide)), ix_in (vp_in_nI (by omega) (by decide)), nI_clamp (by omega), nI_clamp (by omega), nI_clamp (by omega), (hA _ hi').2, (hA _ hj).2, (hA _ hk).2, q_chR (hA _ hi').1 (hA _ hj).1 (hA _ hk).1, ob]
      rw [show (q_nst (A (t / m / m)) (A (t / m % m)) && q_nst (A (t / m % m)) (A (t % m)) && q_nst (A (t / m / m)) (A (t % m))) = q_ch A (t / m / m) (t / m % m) (t % m) from rfl]
      cases hq : q_ch A (t / m / m) (t / m % m) (t % m) with
      | false => rw [nb0, if_neg (fun h => by cases h.2.2)]
      | true =>
        rw [if_pos rfl, if_neg (by decide), if_pos ⟨c1, c2, rfl⟩]
        rw [show (10000 : Int32) = nI 10000 from rfl, show (100 : Int32) = nI 100 from rfl, pk_mul, pk_mul, nI_add, nI_add]
        rfl
    · rw [if_neg (nle c1 (by omega)), if_pos (nI_le (by omega) (by omega)), if_neg (fun h => c2 h.2.1)]
  · rw [if_pos (nI_le (by omega) (by omega)), if_neg (fun h => c1 h.1)]
theorem q_rb3 (hm : m ≤ 16) (hA : ∀ j, j < m → A j < 256 ∧ box j = nI (A j)) (vb vh vl : Int32) {i0 j0 k0 : Nat} (hij : i0 < j0) (hjk : j0 < k0) (hk : k0 < m) (h : q_ch A i0 j0 k0 = true) (hl : ∀ i, i < i0 → ∀ j k, i < j → j < k → k < m → q_ch A i j k = false) (hl2 : ∀ j k, i0 < j → j < j0 → j < k → k < m → q_ch A i0 j k = false) (hl3 : ∀ k, j0 < k → k < k0 → q_ch A i0 j0 k = false) : lpN (fun z => L_X9_breaks_104 (nI 2) (nI m) vb vh vl box z) fuelK (0 : Int32) = some (nI (10000 * i0 + 100 * j0 + k0), 3) := by
  have h0 : 0 < m := by omega
  have hmm : m * m ≤ 16 * 16 := Nat.mul_le_mul hm hm
  have hmmm : m * m * m ≤ 16 * 16 * 16 := Nat.mul_le_mul hmm hm
  have e1 : ((i0 * m + j0) * m + k0) / m = i0 * m + j0 := by
    rw [Nat.mul_comm, Nat.mul_add_div h0, Nat.div_eq_of_lt hk, Nat.add_zero]
  have e2 : ((i0 * m + j0) * m + k0) % m = k0 := by
    rw [Nat.mul_comm, Nat.mul_add_mod, Nat.mod_eq_of_lt hk]
  have e3 : (i0 * m + j0) / m = i0 := by
    rw [Nat.mul_comm, Nat.mul_add_div h0, Nat.div_eq_of_lt (by omega), Nat.add_zero]
  have e4 : (i0 * m + j0) % m = j0 := by
    rw [Nat.mul_comm, Nat.mul_add_mod, Nat.mod_eq_of_lt (by omega)]
  have hb1 : i0 * m + j0 < m * m := by
    have : (i0 + 1) * m ≤ m * m := Nat.mul_le_mul_right m (by omega)
    rw [Nat.add_mul, Nat.one_mul] at this
    omega
  have hb2 : (i0 * m + j0) * m + k0 < m * m * m := by
    have : (i0 * m + j0 + 1) * m ≤ m * m * m := Nat.mul_le_mul_right m (by omega)
    rw [Nat.add_mul, Nat.one_mul] at this
    omega
  refine lp_runK (fun i => nI i) ((i0 * m + j0) * m + k0) _ (by omega) (fun t ht => ?_) ?_
  · show L_X9_breaks_104 (nI 2) (nI m) vb vh vl box (nI t) = _
    rw [q_rb3a hm hA vb vh vl (by omega), if_neg]
    rintro ⟨a1, a2, a3⟩
    have hkm : t % m < m := Nat.mod_lt t h0
    have hjm : t / m % m < m := Nat.mod_lt _ h0
    have w1 : t / m ≤ i0 * m + j0 := by
      have := Nat.div_le_div_right (c := m) (Nat.le_of_lt ht)
      rw [e1] at this; exact this
    have w2 : t / m / m ≤ i0 := by
      have := Nat.div_le_div_right (c := m) w1
      rw [e3] at this; exact this
    rcases Nat.lt_or_ge (t / m / m) i0 with c | c
    · rw [hl _ c _ _ a1 a2 hkm] at a3; cases a3
    · have c' : t / m / m = i0 := by omega
      have v1 := Nat.div_add_mod (t / m) m
      rw [c', Nat.mul_comm m i0] at v1
      rcases Nat.lt_or_ge (t / m % m) j0 with d | d
      · rw [c'] at a1 a3
        rw [hl2 _ _ a1 d a2 hkm] at a3; cases a3
      · have d' : t / m % m = j0 := by omega
        have v2 := Nat.div_add_mod t m
        have v3 : t / m = i0 * m + j0 := by omega
        rw [v3, Nat.mul_comm m (i0 * m + j0)] at v2
        rw [c', d'] at a3
        rw [d'] at a2
        rw [hl3 _ a2 (by omega)] at a3; cases a3
  · show L_X9_breaks_104 (nI 2) (nI m) vb vh vl box (nI ((i0 * m + j0) * m + k0)) = _
    rw [q_rb3a hm hA vb vh vl hb2, e1, e2, e3, e4, if_pos ⟨hij, hjk, h⟩]
theorem q_rb3' (hm : m ≤ 16) (hA : ∀ j, j < m → A j < 256 ∧ box j = nI (A j)) (vb vh vl : Int32) (hl : ∀ i j k, i < j → j < k → k < m → q_ch A i j k = false) : lpN (fun z => L_X9_breaks_104 (nI 2) (nI m) vb vh vl box z) fuelK (0 : Int32) = some (-1, 0) := by
  have hmm : m * m ≤ 16 * 16 := Nat.mul_le_mul hm hm
  have hmmm : m * m * m ≤ 16 * 16 * 16 := Nat.mul_le_mul hmm hm
  refine lp_runK (fun i => nI i) (m * m * m) _ (by omega) (fun t ht => ?_) ?_
  · show L_X9_breaks_104 (nI 2) (nI m) vb vh vl box (nI t) = _
    have h0 : 0 < m := by
      rcases Nat.eq_zero_or_pos m with h | h
      · subst h; omega
      · exact h
    rw [q_rb3a hm hA vb vh vl ht, if_neg]
    rintro ⟨a1, a2, a3⟩
    rw [hl _ _ _ a1 a2 (Nat.mod_lt t h0)] at a3; cases a3
  · show L_X9_breaks_104 (nI 2) (nI m) vb vh vl box (nI (m * m * m)) = _
    rw [L_X9_breaks_104, pk_mul, pk_mul, if_pos (nI_le (Nat.le_refl _) (by omega))]
    rfl
end RB
/-- both find the same -/
theorem q_break {L lo hi m : Nat} (hL : L ≤ 4) (hlo : lo ≤ 8) (hh : hi ≤ 8) (hm : m ≤ 16) {A : Nat → Nat} {box c n : Nat → Int32} (hA : ∀ j, j < m → A j < 256 ∧ box j = nI (A j)) (hinj : ∀ i j, i < m → j < m → A i = A j → i = j) (hc : ∀ j, j < m → c j = q_mk (q_C L A j) m) (hn : ∀ j, j < m → n j = q_mk (q_R L A j) m) (vb : Int32) :
    (M_X3_firstBreak (nI m) (q_mk (q_F L lo hi A) m) c n = some (-1) ∧ M_X9_breaks (nI m) vb (nI hi) (nI lo) box (nI L) = some (-1, 0)) ∨ ∃ b r, 1 ≤ b ∧ b ≤ 3 ∧ r < 1000000 ∧ M_X3_firstBreak (nI m) (q_mk (q_F L lo hi A) m) c n = some (nI (1000000 * b + r)) ∧ M_X9_breaks (nI m) vb (nI hi) (nI lo) box (nI L) = some (nI r, nI b) := by
  by_cases c1 : ∃ i, i < m ∧ q_F L lo hi A i = false
  · obtain ⟨i, ⟨h1, h2⟩, h3⟩ := pk_least _ c1
    have h4 : ∀ j, j < i → q_F L lo hi A j = true := fun j hj => by
      cases hq : q_F L lo hi A j with
      | true => rfl
      | false => exact absurd ⟨by omega, hq⟩ (h3 j hj)
    exact Or.inr ⟨1, i, by omega, by omega, by omega, q_fb1 hm h1 h2 h4, q_rb1 hL hlo hh hm hA vb h1 h2 h4⟩
  · have f1 : ∀ j, j < m → q_F L lo hi A j = true := fun j hj => by
      cases hq : q_F L lo hi A j with
      | true => rfl
      | false => exact absurd ⟨j, hj, hq⟩ c1
    have hCa : ∀ i j, i < j → j < m → q_C L A i j = !q_agr L (A i) (A j) := by
      intro i j h1 h2
      rw [q_C, show (A j != A i) = true from bne_iff_ne.mpr (fun h => by have := hinj j i h2 (by omega) h; omega), Bool.true_and]
    by_cases c2 : ∃ i, i < m ∧ ∃ j, i < j ∧ j < m ∧ q_C L A i j = true
    · obtain ⟨i, ⟨h1, h2⟩, h3⟩ := pk_least _ c2
      obtain ⟨j, ⟨k1, k2, k3⟩, k4⟩ := pk_least _ h2
      have l1 : ∀ a, a < i → ∀ b, a < b → b < m → q_C L A a b = false := fun a ha b hb hb2 => by
        cases hq : q_C L A a b with
        | false => rfl
        | true => exact absurd ⟨by omega, b, hb, hb2, hq⟩ (h3 a ha)
      have l2 : ∀ b, i < b → b < j → q_C L A i b = false := fun b hb hb2 => by
        cases hq : q_C L A i b with
        | false => rfl
        | true => exact absurd ⟨hb, by omega, hq⟩ (k4 b hb2)
      have n1 : ∀ a b, a < b → b < m → q_C L A a b = false → q_agr L (A a) (A b) = true := fun a b x1 x2 x3 => by
        rw [hCa a b x1 x2] at x3
        cases hq : q_agr L (A a) (A b) with
        | true => rfl
        | false => rw [hq] at x3; cases x3
      have n2 : q_agr L (A i) (A j) = false := by
        rw [hCa i j k1 k2] at k3
        cases hq : q_agr L (A i) (A j) with
        | false => rfl
        | true => rw [hq] at k3; cases k3
      exact Or.inr ⟨2, 100 * i + j, by omega, by omega, by omega, q_fb1' hm f1 (q_fb2 hm hc k1 k2 k3 l1 l2), q_rb1' hL hlo hh hm hA vb f1 (q_rb2 hL hm hA vb _ _ k1 k2 n2 (fun a ha b hb hb2 => n1 a b hb hb2 (l1 a ha b hb hb2)) (fun b hb hb2 => n1 i b hb (by omega) (l2 b hb hb2)))⟩
    · have f2 : ∀ i, i < m → ∀ j, i < j → j < m → q_C L A i j = false := fun i hi j h1 h2 => by
        cases hq : q_C L A i j with
        | false => rfl
        | true => exact absurd ⟨i, hi, j, h1, h2, hq⟩ c2
      have f2' : ∀ i, i < m → ∀ j, i < j → j < m → q_agr L (A i) (A j) = true := fun i hi j h1 h2 => by
        have x3 := f2 i hi j h1 h2
        rw [hCa i j h1 h2] at x3
        cases hq : q_agr L (A i) (A j) with
        | true => rfl
        | false => rw [hq] at x3; cases x3
      by_cases hL2 : L = 2
      · subst hL2
        have hR : ∀ i j k, (q_R 2 A i j && q_R 2 A i k && q_R 2 A j k) = q_ch A i j k := by
          intro i j k
          unfold q_R q_ch
          cases q_nst (A i) (A j) <;> cases q_nst (A i) (A k) <;> cases q_nst (A j) (A k) <;> rfl
        by_cases c3 : ∃ i j k, i < j ∧ j < k ∧ k < m ∧ q_ch A i j k = true
        · obtain ⟨i, h2, h3⟩ := pk_least _ c3
          obtain ⟨j, g2, g3⟩ := pk_least _ h2
          obtain ⟨k, ⟨k1, k2, k3, k4⟩, k5⟩ := pk_least _ g2
          have l1 : ∀ a, a < i → ∀ b d, a < b → b < d → d < m → q_ch A a b d = false := fun a ha b d x1 x2 x3 => by
            cases hq : q_ch A a b d with
            | false => rfl
            | true => exact absurd ⟨b, d, x1, x2, x3, hq⟩ (h3 a ha)
          have l2 : ∀ b d, i < b → b < j → b < d → d < m → q_ch A i b d = false := fun b d x1 x2 x3 x4 => by
            cases hq : q_ch A i b d with
            | false => rfl
            | true => exact absurd ⟨d, x1, x3, x4, hq⟩ (g3 b x2)
          have l3 : ∀ d, j < d → d < k → q_ch A i j d = false := fun d x1 x2 => by
            cases hq : q_ch A i j d with
            | false => rfl
            | true => exact absurd ⟨k1, x1, by omega, hq⟩ (k5 d x2)
          exact Or.inr ⟨3, 10000 * i + 100 * j + k, by omega, by omega, by omega, q_fb1' hm f1 (q_fb2' hm hc f2 (q_fb3 hm hn k1 k2 k3 (by rw [hR]; exact k4) (fun a ha b d x1 x2 x3 => by rw [hR]; exact l1 a ha b d x1 x2 x3) (fun b d x1 x2 x3 x4 => by rw [hR]; exact l2 b d x1 x2 x3 x4) (fun d x1 x2 => by rw [hR]; exact l3 d x1 x2))), q_rb1' hL hlo hh hm hA vb f1 (q_rb2' hL hm hA vb _ _ f2' (q_rb3 hm hA vb _ _ k1 k2 k3 k4 l1 l2 l3))⟩
        · have f3 : ∀ i j k, i < j → j < k → k < m → q_ch A i j k = false := fun i j k x1 x2 x3 => by
            cases hq : q_ch A i j k with
            | false => rfl
            | true => exact absurd ⟨i, j, k, x1, x2, x3, hq⟩ c3
          exact Or.inl ⟨q_fb1' hm f1 (q_fb2' hm hc f2 (q_fb3' hm hn (fun i j k x1 x2 x3 => by rw [hR]; exact f3 i j k x1 x2 x3))), q_rb1' hL hlo hh hm hA vb f1 (q_rb2' hL hm hA vb _ _ f2' (q_rb3' hm hA vb _ _ f3))⟩
      · have hR : ∀ i j, q_R L A i j = false := fun i j => by rw [q_R, show (L == 2) = false from beq_eq_false_iff_ne.mpr hL2, Bool.false_and]
        exact Or.inl ⟨q_fb1' hm f1 (q_fb2' hm hc f2 (q_fb3' hm hn (fun i j k _ _ _ => by rw [hR]; rfl))), q_rb1' hL hlo hh hm hA vb f1 (q_rb2' hL hm hA vb _ _ f2' (q_rb3n hL2 hL vb _ _))⟩
