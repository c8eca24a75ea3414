/-! alone -/
def sn (f : Nat → Int32) : Nat → Int32
  | 0 => 0
  | i + 1 => sn f i ||| f i
def tw (f : Nat → Int32) : Nat → Int32
  | 0 => 0
  | i + 1 => tw f i ||| (sn f i &&& f i)
def ot (f : Nat → Int32) (i : Nat) : Nat → Int32
  | 0 => 0
  | m + 1 => if m = i then ot f i m else ot f i m ||| f m
def fo (x : Nat → Int32) : Nat → Int32
  | 0 => 0
  | i + 1 => if x i = 0 then fo x i else fo x i ||| ((1 : Int32) <<< (nI i &&& 31))
theorem sn_bt (f : Nat → Int32) (b : Nat) : ∀ i, bt (sn f i) b = true ↔ ∃ j, j < i ∧ bt (f j) b = true := by
  intro i
  induction i with
  | zero => exact ⟨fun h => (by rw [sn, b_0] at h; cases h), fun ⟨j, h, _⟩ => absurd h (by omega)⟩
  | succ i ih =>
    rw [sn, b_or, Bool.or_eq_true, ih]
    constructor
    · rintro (⟨j, h1, h2⟩ | h)
      · exact ⟨j, by omega, h2⟩
      · exact ⟨i, by omega, h⟩
    · rintro ⟨j, h1, h2⟩
      rcases Nat.lt_or_ge j i with h | h
      · exact Or.inl ⟨j, h, h2⟩
      · have : j = i := by omega
        subst this
        exact Or.inr h2
theorem tw_bt (f : Nat → Int32) (b : Nat) : ∀ i, bt (tw f i) b = true ↔ ∃ j l, j < l ∧ l < i ∧ bt (f j) b = true ∧ bt (f l) b = true := by
  intro i
  induction i with
  | zero => exact ⟨fun h => (by rw [tw, b_0] at h; cases h), fun ⟨j, l, _, h, _⟩ => absurd h (by omega)⟩
  | succ i ih =>
    rw [tw, b_or, b_and, Bool.or_eq_true, Bool.and_eq_true, ih, sn_bt]
    constructor
    · rintro (⟨j, l, h1, h2, h3⟩ | ⟨⟨j, h1, h2⟩, h3⟩)
      · exact ⟨j, l, h1, by omega, h3⟩
      · exact ⟨j, i, h1, by omega, h2, h3⟩
    · rintro ⟨j, l, h1, h2, h3, h4⟩
      rcases Nat.lt_or_ge l i with h | h
      · exact Or.inl ⟨j, l, h1, h, h3, h4⟩
      · have : l = i := by omega
        subst this
        exact Or.inr ⟨⟨j, h1, h3⟩, h4⟩
theorem ot_bt (f : Nat → Int32) (i b : Nat) : ∀ m, bt (ot f i m) b = true ↔ ∃ j, j < m ∧ j ≠ i ∧ bt (f j) b = true := by
  intro m
  induction m with
  | zero => exact ⟨fun h => (by rw [ot, b_0] at h; cases h), fun ⟨j, h, _⟩ => absurd h (by omega)⟩
  | succ m ih =>
    rw [ot]
    by_cases hm : m = i
    · rw [if_pos hm, ih]
      constructor
      · rintro ⟨j, h1, h2, h3⟩
        exact ⟨j, by omega, h2, h3⟩
      · rintro ⟨j, h1, h2, h3⟩
        exact ⟨j, by omega, h2, h3⟩
    · rw [if_neg hm, b_or, Bool.or_eq_true, ih]
      constructor
      · rintro (⟨j, h1, h2, h3⟩ | h)
        · exact ⟨j, by omega, h2, h3⟩
        · exact ⟨m, by omega, hm, h⟩
      · rintro ⟨j, h1, h2, h3⟩
        rcases Nat.lt_or_ge j m with h | h
        · exact Or.inl ⟨j, h, h2, h3⟩
        · have : j = m := by omega
          subst this
          exact Or.inr h3
theorem b_not (x : Int32) {i : Nat} (hi : i < 32) : bt (x ^^^ (-1 : Int32)) i = !bt x i := by
  rw [b_xor, b_m1 i hi]; simp
theorem alone_eq (f : Nat → Int32) {i k : Nat} (hi : i < k) : f i &&& (sn f k &&& (tw f k ^^^ (-1 : Int32))) = f i &&& (ot f i k ^^^ (-1 : Int32)) := by
  apply b_ext
  intro b hb
  rw [b_and, b_and, b_not _ hb, b_and, b_not _ hb]
  cases hf : bt (f i) b with
  | false => simp
  | true =>
    have h1 : bt (sn f k) b = true := (sn_bt f b k).mpr ⟨i, hi, hf⟩
    have h2 : bt (tw f k) b = bt (ot f i k) b := by
      rw [Bool.eq_iff_iff, tw_bt, ot_bt]
      constructor
      · rintro ⟨j, l, a1, a2, a3, a4⟩
        by_cases hj : j = i
        · exact ⟨l, a2, by omega, a4⟩
        · exact ⟨j, by omega, hj, a3⟩
      · rintro ⟨j, a1, a2, a3⟩
        rcases Nat.lt_or_ge j i with h | h
        · exact ⟨j, i, h, hi, a3, hf⟩
        · exact ⟨i, j, by omega, a1, hf, a3⟩
    rw [h1, h2]; simp
theorem fo_eq {x y : Nat → Int32} : ∀ k, (∀ i, i < k → x i = y i) → fo x k = fo y k := by
  intro k
  induction k with
  | zero => intro _; rfl
  | succ k ih =>
    intro h
    rw [fo, fo, ih (fun i hi => h i (by omega)), h k (by omega)]
theorem aloneC {k : Nat} (hk : k ≤ 16) (f : Nat → Int32) : M_X8_alone (nI k) f = some (fo (fun i => f i &&& (sn f k &&& (tw f k ^^^ (-1 : Int32)))) k) := by
  refine lp_runK (fun i => (sn f i, tw f i, nI i)) k _ (by omega) (fun i hi => ?_) ?_
  · show L_X8_alone_6 (nI k) f (sn f i) (tw f i) (nI i) = _
    rw [L_X8_alone_6, if_neg (nle hi (by omega)), ix_in (vp_in_nI (by omega) (by decide)), ix_in (vp_in_nI (by omega) (by decide)), nI_clamp (by omega), nI_1]
    rfl
  · show L_X8_alone_6 (nI k) f (sn f k) (tw f k) (nI k) = _
    rw [L_X8_alone_6, if_pos (nI_le (Nat.le_refl k) (by omega))]
    refine congrArg (Option.map Sum.inr) (a₂ := some _) (lp_runK (fun i => (fo (fun i => f i &&& (sn f k &&& (tw f k ^^^ (-1 : Int32)))) i, nI i)) k _ (by omega) (fun i hi => ?_) ?_)
    · show L_X8_alone_61 (sn f k &&& (tw f k ^^^ (-1 : Int32))) (nI k) f (fo (fun i => f i &&& (sn f k &&& (tw f k ^^^ (-1 : Int32)))) i) (nI i) = _
      rw [L_X8_alone_61, if_neg (nle hi (by omega)), ix_in (vp_in_nI (by omega) (by decide)), nI_clamp (by omega), nI_1, fo]
      by_cases h : f i &&& (sn f k &&& (tw f k ^^^ (-1 : Int32))) = 0
      · rw [if_pos h, if_pos h]
      · rw [if_neg h, if_neg h]
    · show L_X8_alone_61 (sn f k &&& (tw f k ^^^ (-1 : Int32))) (nI k) f _ (nI k) = _
      rw [L_X8_alone_61, if_pos (nI_le (Nat.le_refl k) (by omega))]
      rfl
theorem aloneR {k : Nat} (hk : k ≤ 16) (f : Nat → Int32) : M_X9_alone (nI k) f = some (fo (fun i => f i &&& (ot f i k ^^^ (-1 : Int32))) k) := by
  refine lp_runK (fun i => (fo (fun i => f i &&& (ot f i k ^^^ (-1 : Int32))) i, nI i)) k _ (by omega) (fun i hi => ?_) ?_
  · show L_X9_alone_4 (nI k) f (fo (fun i => f i &&& (ot f i k ^^^ (-1 : Int32))) i) (nI i) = _
    rw [L_X9_alone_4, if_neg (nle hi (by omega))]
    refine lp_runK (fun m => (ot f i m, nI m)) k _ (by omega) (fun m hm => ?_) ?_
    · show L_X9_alone_17 _ (nI i) (nI k) f (ot f i m) (nI m) = _
      rw [L_X9_alone_17, if_neg (nle hm (by omega)), ot]
      by_cases hmi : m = i
      · rw [if_pos (by rw [hmi]), if_pos hmi, B_X9_alone_44, nI_1, Int32.or_zero]
      · rw [if_neg (fun h => hmi ((nI_eq (by omega) (by omega)).mp h)), if_neg hmi, ix_in (vp_in_nI (by omega) (by decide)), nI_clamp (by omega), B_X9_alone_44, nI_1]
    · show L_X9_alone_17 _ (nI i) (nI k) f (ot f i k) (nI k) = _
      rw [L_X9_alone_17, if_pos (nI_le (Nat.le_refl k) (by omega)), ix_in (vp_in_nI (by omega) (by decide)), nI_clamp (by omega), fo]
      by_cases h : f i &&& (ot f i k ^^^ (-1 : Int32)) = 0
      · rw [if_pos h, if_pos h, B_X9_alone_73, nI_1, Int32.or_zero]
        rfl
      · rw [if_neg h, if_neg h, B_X9_alone_73, nI_1]
        rfl
  · show L_X9_alone_4 (nI k) f _ (nI k) = _
    rw [L_X9_alone_4, if_pos (nI_le (Nat.le_refl k) (by omega))]
    rfl
theorem alone_cg {f g : Nat → Int32} {k : Nat} (h : ∀ j, j < k → f j = g j) : (∀ i, i ≤ k → sn f i = sn g i) ∧ (∀ i, i ≤ k → tw f i = tw g i) := by
  have h1 : ∀ i, i ≤ k → sn f i = sn g i := by
    intro i
    induction i with
    | zero => intro _; rfl
    | succ i ih => intro hi; rw [sn, sn, ih (by omega), h i (by omega)]
  refine ⟨h1, ?_⟩
  intro i
  induction i with
  | zero => intro _; rfl
  | succ i ih => intro hi; rw [tw, tw, ih (by omega), h1 i (by omega), h i (by omega)]
