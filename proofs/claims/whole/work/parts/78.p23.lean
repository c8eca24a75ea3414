/-! judge, more: small things -/
theorem q_lawC (x : Int32) : M_X8_isLaw x = some (if (0 : Int32) ≤ x ∧ x ≤ 4 then 1 else 0) := by
  rw [M_X8_isLaw, bw, ob]
  by_cases c : (0 : Int32) ≤ x ∧ x ≤ 4
  · rw [if_pos c]; rfl
  · rw [if_neg c]; rfl
theorem q_lawR (x : Int32) : M_X9_isLaw x = some (if (0 : Int32) ≤ x ∧ x ≤ 4 then 1 else 0) := by
  rw [M_X9_isLaw, in32n x 0 4 0 4 rfl rfl, ob]
  by_cases c : (0 : Int32) ≤ x ∧ x ≤ 4
  · rw [if_pos c]; rfl
  · rw [if_neg c]; rfl
theorem q_nm1 {a : Nat} (h : a < 2 ^ 31) : ¬ nI a = (-1 : Int32) := fun c => absurd (show nI a < 0 by rw [c]; decide) (nI_pos h)
theorem q_twoC {m : Nat} (hm : m ≤ 16) {R : Nat → Nat → Bool} {n : Nat → Int32} (hn : ∀ j, j < m → n j = q_mk (R j) m) (P : Nat → Bool) : M_X3_anyTwoNear (nI m) n (q_mk P m) = some (if q_ex (fun i => P i && q_ex (fun j => R i j && P j) m) m = true then 1 else 0) := by
  have stp : ∀ i, i < m → L_X3_anyTwoNear_2 (q_mk P m) (nI m) n (nI i) = if (P i && q_ex (fun j => R i j && P j) m) = true then some (Sum.inr 1) else some (Sum.inl (nI (i + 1))) := by
    intro i hi
    rw [L_X3_anyTwoNear_2, if_neg (nle hi (by omega)), q_has _ (by omega), ob, q_bt _ (by omega), decide_eq_true hi, Bool.true_and, nI_1]
    cases hP : P i with
    | false => rw [nb0, Bool.false_and, if_neg (by decide)]
    | true =>
      rw [if_pos rfl, if_neg (by decide), ix_in (vp_in_nI (by omega) (by decide)), nI_clamp (by omega), hn i hi, q_and _ _ (by omega), Bool.true_and]
      cases hq : q_ex (fun j => R i j && P j) m with
      | false =>
        rw [if_neg (show ¬ false = true by decide)]
        refine if_pos ((q_eq0 (by omega)).mpr (fun j hj => ?_))
        cases hb : (R i j && P j) with
        | false => rfl
        | true =>
          have := (q_ex_iff (fun j => R i j && P j) m).mpr ⟨j, hj, hb⟩
          rw [hq] at this; cases this
      | true =>
        rw [if_pos rfl, if_neg]
        · rfl
        · intro h
          obtain ⟨j, hj, hb⟩ := (q_ex_iff (fun j => R i j && P j) m).mp hq
          have := (q_eq0 (by omega)).mp h j hj
          rw [hb] at this; cases this
  by_cases c : ∃ i, i < m ∧ (P i && q_ex (fun j => R i j && P j) m) = true
  · rw [if_pos ((q_ex_iff _ m).mpr c)]
    obtain ⟨i, ⟨h1, h2⟩, h3⟩ := pk_least _ c
    refine lp_runK (fun i => nI i) i _ (by omega) (fun a ha => ?_) ?_
    · show L_X3_anyTwoNear_2 (q_mk P m) (nI m) n (nI a) = _
      rw [stp a (by omega), if_neg (fun h => h3 a ha ⟨by omega, h⟩)]
    · show L_X3_anyTwoNear_2 (q_mk P m) (nI m) n (nI i) = _
      rw [stp i h1, if_pos h2]
  · rw [if_neg (fun h => c ((q_ex_iff _ m).mp h))]
    refine lp_runK (fun i => nI i) m _ (by omega) (fun a ha => ?_) ?_
    · show L_X3_anyTwoNear_2 (q_mk P m) (nI m) n (nI a) = _
      rw [stp a ha, if_neg (fun h => c ⟨a, ha, h⟩)]
    · show L_X3_anyTwoNear_2 (q_mk P m) (nI m) n (nI m) = _
      rw [L_X3_anyTwoNear_2, if_pos (nI_le (Nat.le_refl m) (by omega))]
      rfl
theorem q_ex0 {P : Nat → Bool} {m : Nat} (hm : m ≤ 32) : q_mk P m = 0 ↔ q_ex P m = false := by
  rw [q_eq0 hm]
  constructor
  · intro h
    cases hq : q_ex P m with
    | false => rfl
    | true =>
      obtain ⟨j, hj, hb⟩ := (q_ex_iff P m).mp hq
      rw [h j hj] at hb; cases hb
  · intro h j hj
    cases hb : P j with
    | false => rfl
    | true =>
      have := (q_ex_iff P m).mpr ⟨j, hj, hb⟩
      rw [h] at this; cases this
def q_adX (L m : Nat) (A : Nat → Nat) (z : Nat) : Bool := q_ex (fun j => A j != z && !q_agr L z (A j)) m
def q_adY (L m : Nat) (A : Nat → Nat) (z : Nat) : Bool := q_ex (fun i => (L == 2 && q_nst z (A i)) && q_ex (fun j => q_R L A i j && (L == 2 && q_nst z (A j))) m) m
theorem q_admC {L lo hi m z : Nat} (hL : L ≤ 4) (hlo : lo ≤ 8) (hh : hi ≤ 8) (hm : m ≤ 16) (hz : z < 256) {A : Nat → Nat} {f n : Nat → Int32} (hA : ∀ j, j < m → A j < 256 ∧ f j = nI (A j)) (hn : ∀ j, j < m → n j = q_mk (q_R L A j) m) : M_X3_admits (nI m) (nI hi) (nI L) (nI lo) n f (nI z) = some (if (q_fit L lo hi z && !q_adX L m A z && !q_adY L m A z) = true then 1 else 0) := by
  rw [M_X3_admits, q_fitC hL hlo hh hz, ob]
  cases q_fit L lo hi z with
  | false => rw [nb0]; rfl
  | true =>
    rw [if_pos rfl, if_neg (by decide), q_clashC hL hm hA hz, ob]
    cases hX : q_adX L m A z with
    | true =>
      rw [if_neg (fun h => by
        have := (q_ex0 (by omega)).mp h
        rw [show q_ex (fun j => A j != z && !q_agr L z (A j)) m = true from hX] at this; cases this)]
      rfl
    | false =>
      rw [if_pos ((q_ex0 (by omega)).mpr hX), q_nearC hL hm hA hz, ob, q_twoC hm hn, ob]
      show (if (if q_adY L m A z = true then (1 : Int32) else 0) = 0 then _ else _) = _
      cases q_adY L m A z <;> rfl
def q_mcP (A : Nat → Nat) (z i j : Nat) : Bool := q_nst z (A i) && q_nst (A i) (A j) && q_nst z (A j)
def q_mcV (L : Nat) (A : Nat → Nat) (z i : Nat) : Bool := q_agr L z (A i) && !(L == 2 && q_ex (q_mcP A z i) i)
theorem q_mayR {L lo hi m z : Nat} (hL : L ≤ 4) (hlo : lo ≤ 8) (hh : hi ≤ 8) (hm : m ≤ 16) (hz : z < 256) {A : Nat → Nat} {box : Nat → Int32} (hA : ∀ j, j < m → A j < 256 ∧ box j = nI (A j)) : M_X9_mayCome (nI m) (nI hi) (nI lo) box (nI L) (nI z) = some (if (q_fit L lo hi z && !q_ex (fun i => !q_mcV L A z i) m) = true then 1 else 0) := by
  have inner : ∀ i, i < m → lpN (fun w : Int32 × Int32 => L_X9_mayCome_39 (nI L) (nI z) (nI i) (nI m) (nI hi) (nI lo) box w.1 w.2) fuelK ((if q_agr L z (A i) = true then (1 : Int32) else 0), (0 : Int32)) = some (Sum.inl ((if q_mcV L A z i = true then (1 : Int32) else 0), nI (i + 1))) := by
    intro i hi'
    by_cases h2 : L = 2
    · subst h2
      have e0 : (if q_agr 2 z (A i) = true then (1 : Int32) else 0) = if (q_agr 2 z (A i) && !q_ex (q_mcP A z i) 0) = true then (1 : Int32) else 0 := by
        rw [q_ex]; cases q_agr 2 z (A i) <;> rfl
      rw [e0]
      refine lp_runK (fun j => ((if (q_agr 2 z (A i) && !q_ex (q_mcP A z i) j) = true then (1 : Int32) else 0), nI j)) i _ (by omega) (fun j hj => ?_) ?_
      · show L_X9_mayCome_39 (nI 2) (nI z) (nI i) (nI m) (nI hi) (nI lo) box (if (q_agr 2 z (A i) && !q_ex (q_mcP A z i) j) = true then (1 : Int32) else 0) (nI j) = _
        rw [L_X9_mayCome_39, if_neg (nle hj (by omega)), if_pos (show nI 2 = (2 : Int32) from rfl), nI_1, q_ex]
        cases hb : (q_agr 2 z (A i) && !q_ex (q_mcP A z i) j) with
        | false =>
          rw [nb0, if_neg (fun h => by
            cases h3 : q_agr 2 z (A i) <;> cases h4 : q_ex (q_mcP A z i) j <;> simp [h3, h4] at h hb)]
        | true =>
          rw [if_pos rfl, if_neg (by decide), ix_in (vp_in_nI (by omega) (by decide)), ix_in (vp_in_nI (by omega) (by decide)), nI_clamp (by omega), nI_clamp (by omega), (hA i hi').2, (hA j (by omega)).2, q_chR hz (hA i hi').1 (hA j (by omega)).1, ob]
          rw [Bool.and_eq_true] at hb
          have h4 : q_ex (q_mcP A z i) j = false := by
            cases h5 : q_ex (q_mcP A z i) j with
            | false => rfl
            | true => rw [h5] at hb; cases hb.2
          rw [hb.1, h4, Bool.true_and, Bool.false_or]
          show (if (if q_mcP A z i j = true then (1 : Int32) else 0) = 0 then _ else _) = _
          cases q_mcP A z i j <;> rfl
      · show L_X9_mayCome_39 (nI 2) (nI z) (nI i) (nI m) (nI hi) (nI lo) box _ (nI i) = _
        rw [L_X9_mayCome_39, if_pos (nI_le (Nat.le_refl i) (by omega)), nI_1]
        rfl
    · have hv : q_mcV L A z i = q_agr L z (A i) := by rw [q_mcV, show (L == 2) = false from beq_eq_false_iff_ne.mpr h2]; simp
      rw [hv]
      refine lp_runK (fun _ => ((if q_agr L z (A i) = true then (1 : Int32) else 0), (0 : Int32))) 0 _ (by omega) (fun j hj => by omega) ?_
      show L_X9_mayCome_39 (nI L) (nI z) (nI i) (nI m) (nI hi) (nI lo) box _ 0 = _
      rw [L_X9_mayCome_39, if_neg (show ¬ nI L = 2 from fun c => h2 ((nI_eq (a := L) (b := 2) (by omega) (by decide)).mp c)), nI_1]
      split <;> rfl
  rw [M_X9_mayCome, q_fitR hL hlo hh hz, ob]
  cases hf : q_fit L lo hi z with
  | false =>
    rw [if_neg (by decide)]
    refine lp_runK (fun _ => ((0 : Int32), (0 : Int32))) 0 _ (by omega) (fun j hj => by omega) ?_
    show L_X9_mayCome_10 (nI L) (nI z) (nI m) (nI hi) (nI lo) box 0 0 = _
    rw [L_X9_mayCome_10, if_pos (show (0 : Int32) = 0 from rfl)]
    split <;> rfl
  | true =>
    rw [if_pos rfl, Bool.true_and]
    have stp : ∀ i, i < m → L_X9_mayCome_10 (nI L) (nI z) (nI m) (nI hi) (nI lo) box 1 (nI i) = some (Sum.inl ((if q_mcV L A z i = true then (1 : Int32) else 0), nI (i + 1))) := by
      intro i hi'
      rw [L_X9_mayCome_10, if_neg (nle hi' (by omega)), if_neg (by decide), ix_in (vp_in_nI (by omega) (by decide)), nI_clamp (by omega), (hA i hi').2, q_agR hL hz (hA i hi').1, ob, inner i hi']
    by_cases c : ∃ i, i < m ∧ (!q_mcV L A z i) = true
    · have hx := (q_ex_iff (fun i => !q_mcV L A z i) m).mpr c
      rw [hx, if_neg (by decide)]
      obtain ⟨i, ⟨h1, h2⟩, h3⟩ := pk_least _ c
      have h2' : q_mcV L A z i = false := by cases h : q_mcV L A z i with
        | false => rfl
        | true => rw [h] at h2; cases h2
      refine lp_runK (fun j => ((if j ≤ i then (1 : Int32) else 0), nI j)) (i + 1) _ (by omega) (fun j hj => ?_) ?_
      · show L_X9_mayCome_10 (nI L) (nI z) (nI m) (nI hi) (nI lo) box (if j ≤ i then (1 : Int32) else 0) (nI j) = _
        rw [if_pos (by omega), stp j (by omega)]
        by_cases hji : j = i
        · subst hji; rw [h2', if_neg (by decide), if_neg (by omega)]
        · have : q_mcV L A z j = true := by
            cases h : q_mcV L A z j with
            | true => rfl
            | false => exact absurd ⟨by omega, by rw [h]; rfl⟩ (h3 j (by omega))
          rw [this, if_pos rfl, if_pos (by omega)]
      · show L_X9_mayCome_10 (nI L) (nI z) (nI m) (nI hi) (nI lo) box (if i + 1 ≤ i then (1 : Int32) else 0) (nI (i + 1)) = _
        rw [if_neg (by omega), L_X9_mayCome_10, if_pos (show (0 : Int32) = 0 from rfl)]
        split <;> rfl
    · have hx : q_ex (fun i => !q_mcV L A z i) m = false := by
        cases h : q_ex (fun i => !q_mcV L A z i) m with
        | false => rfl
        | true => exact absurd ((q_ex_iff _ m).mp h) c
      rw [hx, if_pos (by rfl)]
      refine lp_runK (fun j => ((1 : Int32), nI j)) m _ (by omega) (fun j hj => ?_) ?_
      · show L_X9_mayCome_10 (nI L) (nI z) (nI m) (nI hi) (nI lo) box 1 (nI j) = _
        have : q_mcV L A z j = true := by
          cases h : q_mcV L A z j with
          | true => rfl
          | false => exact absurd ⟨j, hj, by rw [h]; rfl⟩ c
        rw [stp j hj, this, if_pos rfl]
      · show L_X9_mayCome_10 (nI L) (nI z) (nI m) (nI hi) (nI lo) box 1 (nI m) = _
        rw [L_X9_mayCome_10, if_pos (nI_le (Nat.le_refl m) (by omega))]
        rfl
theorem q_nst_self (a : Nat) : q_nst a a = false := by simp [q_nst]
theorem q_adm_eq {L m z : Nat} {A : Nat → Nat} (hz : ∀ j, j < m → A j ≠ z) : (!q_adX L m A z && !q_adY L m A z) = !q_ex (fun i => !q_mcV L A z i) m := by
  have h : (q_adX L m A z || q_adY L m A z) = q_ex (fun i => !q_mcV L A z i) m := by
    rw [Bool.eq_iff_iff, Bool.or_eq_true]
    unfold q_adX q_adY
    rw [q_ex_iff, q_ex_iff, q_ex_iff]
    constructor
    · rintro (⟨j, h1, h2⟩ | ⟨i, h1, h2⟩)
      · refine ⟨j, h1, ?_⟩
        rw [Bool.and_eq_true] at h2
        rw [q_mcV]
        cases hq : q_agr L z (A j) with
        | false => rfl
        | true => rw [hq] at h2; cases h2.2
      · rw [Bool.and_eq_true, Bool.and_eq_true, q_ex_iff] at h2
        obtain ⟨⟨h3, h4⟩, j, h5, h6⟩ := h2
        simp only [q_R, Bool.and_eq_true] at h6
        obtain ⟨⟨-, h7⟩, -, h8⟩ := h6
        have hij : i ≠ j := fun h => by rw [h, q_nst_self] at h7; cases h7
        have fin : ∀ a b, b < a → a < m → q_nst z (A a) = true → q_nst (A a) (A b) = true → q_nst z (A b) = true → ∃ i, i < m ∧ (!q_mcV L A z i) = true := by
          intro a b x1 x2 x3 x4 x5
          refine ⟨a, x2, ?_⟩
          have : q_ex (q_mcP A z a) a = true := (q_ex_iff _ _).mpr ⟨b, x1, by rw [q_mcP, x3, x4, x5]; rfl⟩
          rw [q_mcV, this, h3]; simp
        rcases Nat.lt_or_ge j i with x | x
        · exact fin i j x h1 h4 h7 h8
        · exact fin j i (by omega) h5 h8 (by rw [q_nst_comm]; exact h7) h4
    · rintro ⟨i, h1, h2⟩
      rw [q_mcV] at h2
      cases hq : q_agr L z (A i) with
      | false => exact Or.inl ⟨i, h1, by rw [hq, show (A i != z) = true from bne_iff_ne.mpr (hz i h1)]; rfl⟩
      | true =>
        rw [hq, Bool.true_and, Bool.not_not, Bool.and_eq_true, q_ex_iff] at h2
        obtain ⟨h3, j, h4, h5⟩ := h2
        rw [q_mcP, Bool.and_eq_true, Bool.and_eq_true] at h5
        refine Or.inr ⟨i, h1, ?_⟩
        have : q_ex (fun j => q_R L A i j && (L == 2 && q_nst z (A j))) m = true := (q_ex_iff _ _).mpr ⟨j, by omega, by rw [q_R, h3, h5.1.2, h5.2]; rfl⟩
        rw [this, h3, h5.1.1]; rfl
  rw [← h]
  cases q_adX L m A z <;> cases q_adY L m A z <;> rfl
