/-! digest -/
def dgC (n boxes bytes low high : Int32) : Nat → Int32 := fun i => if i = 0 then n else if i = 1 then boxes else if i = 2 then bytes else if i = 3 then low else high
def dg5 (c : Nat → Int32) : Nat → Int64
  | 0 => 659
  | i + 1 => 31 * dg5 c i + (c i).toInt64
def dgB (f g : Nat → Int32) (h : Int64) : Nat → Int64
  | 0 => h
  | i + 1 => 31 * (31 * dgB f g h i + (f i).toInt64) + (g i).toInt64
def dgA (f : Nat → Int32) (h : Int64) : Nat → Int64
  | 0 => h
  | i + 1 => 31 * dgA f h i + (f i).toInt64
theorem dgB_eq {f g f' g' : Nat → Int32} (h : Int64) : ∀ k, (∀ j, j < k → f j = f' j ∧ g j = g' j) → dgB f g h k = dgB f' g' h k := by
  intro k
  induction k with
  | zero => intro _; rfl
  | succ k ih =>
    intro hj
    show 31 * (31 * dgB f g h k + _) + _ = 31 * (31 * dgB f' g' h k + _) + _
    rw [ih (fun j h => hj j (by omega)), (hj k (by omega)).1, (hj k (by omega)).2]
theorem dgA_eq {f f' : Nat → Int32} (h : Int64) : ∀ k, (∀ j, j < k → f j = f' j) → dgA f h k = dgA f' h k := by
  intro k
  induction k with
  | zero => intro _; rfl
  | succ k ih =>
    intro hj
    show 31 * dgA f h k + _ = 31 * dgA f' h k + _
    rw [ih (fun j h => hj j (by omega)), hj k (by omega)]
theorem digC {k : Nat} (hk : k ≤ 16) (bad bytes full no : Int32) (alike : Nat → Int32) (above below : Int64) (high low n : Int32) (sets worths : Nat → Int32) :
    M_X8_digest bad bytes full no alike above below (nI k) high low n sets worths = some (31 * (31 * dgA alike (dgB sets worths (dg5 (dgC n (nI k) bytes low high) 5) k) 8 + above) + below, bad, full, no) := by
  refine lp_runK (fun i => (dg5 (dgC n (nI k) bytes low high) i, nI i, bad, full, no)) 5 _ (by decide) (fun i hi => ?_) ?_
  · show L_X8_digest_6 bytes alike above below (nI k) high low n sets worths (dg5 (dgC n (nI k) bytes low high) i) (nI i) bad full no = _
    rw [L_X8_digest_6]
    rcases (show i = 0 ∨ i = 1 ∨ i = 2 ∨ i = 3 ∨ i = 4 by omega) with rfl | rfl | rfl | rfl | rfl <;> rfl
  · show L_X8_digest_6 bytes alike above below (nI k) high low n sets worths (dg5 (dgC n (nI k) bytes low high) 5) (nI 5) bad full no = _
    rw [L_X8_digest_6, if_pos (by decide)]
    generalize dg5 (dgC n (nI k) bytes low high) 5 = h
    refine congrArg (Option.map Sum.inr) (a₂ := some _) (lp_runK (fun i => (dgB sets worths h i, nI i)) k _ (by omega) (fun i hi => ?_) ?_)
    · show L_X8_digest_32 bad bytes full no alike above below (nI k) high low n sets worths (dgB sets worths h i) (nI i) = _
      rw [L_X8_digest_32, if_neg (nle hi (by omega)), ix_in (vp_in_nI (by omega) (by decide)), ix_in (vp_in_nI (by omega) (by decide)), nI_clamp (by omega)]
      exact congrArg some (congrArg Sum.inl (Prod.ext rfl (nI_1 i)))
    · show L_X8_digest_32 bad bytes full no alike above below (nI k) high low n sets worths (dgB sets worths h k) (nI k) = _
      rw [L_X8_digest_32, if_pos (nI_le (Nat.le_refl k) (by omega))]
      generalize dgB sets worths h k = h2
      refine congrArg (Option.map Sum.inr) (a₂ := some _) (lp_runK (fun i => (dgA alike h2 i, nI i)) 8 _ (by decide) (fun i hi => ?_) ?_)
      · show L_X8_digest_85 bad bytes full no alike above below (nI k) high low n sets worths (dgA alike h2 i) (nI i) = _
        rw [L_X8_digest_85, if_neg (show ¬ (8 : Int32) ≤ nI i from nle (a := 8) hi (by decide)), ix_in (vp_in_nI (by omega) (by decide)), nI_clamp (by omega)]
        exact congrArg some (congrArg Sum.inl (Prod.ext rfl (nI_1 i)))
      · show L_X8_digest_85 bad bytes full no alike above below (nI k) high low n sets worths (dgA alike h2 8) (nI 8) = _
        rw [L_X8_digest_85, if_pos (by decide)]
        rfl
theorem digR {k : Nat} (hk : k ≤ 16) (size : Int32) (alike : Nat → Int32) (above below : Int64) (high low n : Int32) (sets worths : Nat → Int32) :
    M_X9_digest above below (nI k) high low n size alike sets worths = some (31 * (31 * dgA alike (dgB sets worths (dg5 (dgC n (nI k) size low high) 5) k) 8 + above) + below) := by
  refine lp_runK (fun i => (dg5 (dgC n (nI k) size low high) i, nI i)) 5 _ (by decide) (fun i hi => ?_) ?_
  · show L_X9_digest_6 above below (nI k) high low n size alike sets worths (dg5 (dgC n (nI k) size low high) i) (nI i) = _
    rw [L_X9_digest_6]
    rcases (show i = 0 ∨ i = 1 ∨ i = 2 ∨ i = 3 ∨ i = 4 by omega) with rfl | rfl | rfl | rfl | rfl <;> rfl
  · show L_X9_digest_6 above below (nI k) high low n size alike sets worths (dg5 (dgC n (nI k) size low high) 5) (nI 5) = _
    rw [L_X9_digest_6, if_pos (by decide)]
    generalize dg5 (dgC n (nI k) size low high) 5 = h
    refine congrArg (Option.map Sum.inr) (a₂ := some _) (lp_runK (fun i => (dgB sets worths h i, nI i)) k _ (by omega) (fun i hi => ?_) ?_)
    · show L_X9_digest_32 above below (nI k) high low n size alike sets worths (dgB sets worths h i) (nI i) = _
      rw [L_X9_digest_32, if_neg (nle hi (by omega)), ix_in (vp_in_nI (by omega) (by decide)), ix_in (vp_in_nI (by omega) (by decide)), nI_clamp (by omega)]
      exact congrArg some (congrArg Sum.inl (Prod.ext rfl (nI_1 i)))
    · show L_X9_digest_32 above below (nI k) high low n size alike sets worths (dgB sets worths h k) (nI k) = _
      rw [L_X9_digest_32, if_pos (nI_le (Nat.le_refl k) (by omega))]
      generalize dgB sets worths h k = h2
      refine congrArg (Option.map Sum.inr) (a₂ := some _) (lp_runK (fun i => (dgA alike h2 i, nI i)) 8 _ (by decide) (fun i hi => ?_) ?_)
      · show L_X9_digest_74 above below (nI k) high low n size alike sets worths (dgA alike h2 i) (nI i) = _
        rw [L_X9_digest_74, if_neg (show ¬ (8 : Int32) ≤ nI i from nle (a := 8) hi (by decide)), ix_in (vp_in_nI (by omega) (by decide)), nI_clamp (by omega)]
        exact congrArg some (congrArg Sum.inl (Prod.ext rfl (nI_1 i)))
      · show L_X9_digest_74 above below (nI k) high low n size alike sets worths (dgA alike h2 8) (nI 8) = _
        rw [L_X9_digest_74, if_pos (by decide)]
        rfl
