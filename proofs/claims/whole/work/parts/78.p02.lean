/-! Loops of the shadows -/
theorem lp_run {σ τ : Type} {body : σ → Option (σ ⊕ τ)} (st : Nat → σ) (e : Nat) (t : τ) (h : ∀ i, i < e → body (st i) = some (.inl (st (i + 1)))) (hx : body (st e) = some (.inr t)) : ∀ (n i : Nat), i ≤ e → e < i + n → lpN body n (st i) = some t := by
  intro n
  induction n with
  | zero => intro i h1 h2; omega
  | succ n ih =>
    intro i h1 h2
    unfold lpN
    rcases Nat.lt_or_ge i e with h3 | h3
    · rw [h i h3]
      exact ih (i + 1) h3 (by omega)
    · have h4 : i = e := by omega
      subst h4
      rw [hx]
theorem lp_runK {σ τ : Type} {body : σ → Option (σ ⊕ τ)} (st : Nat → σ) (e : Nat) (t : τ) (he : e < 1000000) (h : ∀ i, i < e → body (st i) = some (.inl (st (i + 1)))) (hx : body (st e) = some (.inr t)) : lpN body fuelK (st 0) = some t :=
  lp_run st e t h hx fuelK 0 (Nat.zero_le e) (by unfold fuelK; omega)
/-- a loop that is known by an invariant -/
theorem lp_inv {σ τ : Type} {body : σ → Option (σ ⊕ τ)} (I : Nat → σ → Prop) (Q : τ → Prop) (e : Nat) (h : ∀ i z, i < e → I i z → (∃ z', body z = some (.inl z') ∧ I (i + 1) z') ∨ ∃ t, body z = some (.inr t) ∧ Q t) (hx : ∀ z, I e z → ∃ t, body z = some (.inr t) ∧ Q t) : ∀ (n i : Nat) (z : σ), i ≤ e → e < i + n → I i z → ∃ t, lpN body n z = some t ∧ Q t := by
  intro n
  induction n with
  | zero => intro i z h1 h2; omega
  | succ n ih =>
    intro i z h1 h2 hI
    rcases Nat.lt_or_ge i e with h3 | h3
    · rcases h i z h3 hI with ⟨z', e1, e2⟩ | ⟨t, e1, e2⟩
      · obtain ⟨t, e3, e4⟩ := ih (i + 1) z' h3 (by omega) e2
        exact ⟨t, by unfold lpN; rw [e1]; exact e3, e4⟩
      · exact ⟨t, by unfold lpN; rw [e1], e2⟩
    · have h4 : i = e := by omega
      subst h4
      obtain ⟨t, e1, e2⟩ := hx z hI
      exact ⟨t, by unfold lpN; rw [e1], e2⟩
theorem lp_invK {σ τ : Type} {body : σ → Option (σ ⊕ τ)} (I : Nat → σ → Prop) (Q : τ → Prop) (e : Nat) (he : e < 1000000) (h : ∀ i z, i < e → I i z → (∃ z', body z = some (.inl z') ∧ I (i + 1) z') ∨ ∃ t, body z = some (.inr t) ∧ Q t) (hx : ∀ z, I e z → ∃ t, body z = some (.inr t) ∧ Q t) (z : σ) (h0 : I 0 z) : ∃ t, lpN body fuelK z = some t ∧ Q t :=
  lp_inv I Q e h hx fuelK 0 z (Nat.zero_le e) (by unfold fuelK; omega) h0
theorem nle {a b : Nat} (h : b < a) (ha : a < 2 ^ 31) : ¬ nI a ≤ nI b := fun c => absurd ((nI_leI ha (by omega)).mp c) (by omega)
theorem holds_yes {k j : Nat} (hk : k ≤ 16) (sets : Nat → Int32) (x : Int32) (hj : j < k) (e : sets j = x) : M_X6_holds (nI k) sets x = some 1 := by
  obtain ⟨i, ⟨hi, ei⟩, hl⟩ := pk_least (fun i => i < k ∧ sets i = x) ⟨j, hj, e⟩
  refine lp_runK (fun i => nI i) i 1 (by omega) (fun a ha => ?_) ?_
  · show L_X6_holds_2 x (nI k) sets (nI a) = _
    rw [L_X6_holds_2, if_neg (nle (by omega) (by omega)), ix_in (vp_in_nI (by omega) (by decide)), nI_clamp (by omega), if_neg (fun h => hl a ha ⟨by omega, h⟩)]
    exact congrArg some (congrArg Sum.inl (nI_1 a))
  · show L_X6_holds_2 x (nI k) sets (nI i) = _
    rw [L_X6_holds_2, if_neg (nle (by omega) (by omega)), ix_in (vp_in_nI (by omega) (by decide)), nI_clamp (by omega), if_pos ei]
    rfl
theorem holds_no {k : Nat} (hk : k ≤ 16) (sets : Nat → Int32) (x : Int32) (h : ∀ j, j < k → ¬ sets j = x) : M_X6_holds (nI k) sets x = some 0 := by
  refine lp_runK (fun i => nI i) k 0 (by omega) (fun a ha => ?_) ?_
  · show L_X6_holds_2 x (nI k) sets (nI a) = _
    rw [L_X6_holds_2, if_neg (nle (by omega) (by omega)), ix_in (vp_in_nI (by omega) (by decide)), nI_clamp (by omega), if_neg (h a ha)]
    exact congrArg some (congrArg Sum.inl (nI_1 a))
  · show L_X6_holds_2 x (nI k) sets (nI k) = _
    rw [L_X6_holds_2, if_pos (nI_le (Nat.le_refl k) (by omega))]
    rfl
theorem numberOf_yes {k j : Nat} (hk : k ≤ 16) (sets : Nat → Int32) (x : Int32) (hj : j < k) (e : sets j = x) : ∃ i, i < k ∧ M_X9_numberOf (nI k) sets x = some (nI i) := by
  obtain ⟨i, ⟨hi, ei⟩, hl⟩ := pk_least (fun i => i < k ∧ sets i = x) ⟨j, hj, e⟩
  refine ⟨i, hi, lp_runK (fun i => nI i) i (nI i) (by omega) (fun a ha => ?_) ?_⟩
  · show L_X9_numberOf_2 x (nI k) sets (nI a) = _
    rw [L_X9_numberOf_2, if_neg (nle (by omega) (by omega)), ix_in (vp_in_nI (by omega) (by decide)), nI_clamp (by omega), if_neg (fun h => hl a ha ⟨by omega, h⟩)]
    exact congrArg some (congrArg Sum.inl (nI_1 a))
  · show L_X9_numberOf_2 x (nI k) sets (nI i) = _
    rw [L_X9_numberOf_2, if_neg (nle (by omega) (by omega)), ix_in (vp_in_nI (by omega) (by decide)), nI_clamp (by omega), if_pos ei]
    rfl
theorem numberOf_no {k : Nat} (hk : k ≤ 16) (sets : Nat → Int32) (x : Int32) (h : ∀ j, j < k → ¬ sets j = x) : M_X9_numberOf (nI k) sets x = some (-1) := by
  refine lp_runK (fun i => nI i) k (-1) (by omega) (fun a ha => ?_) ?_
  · show L_X9_numberOf_2 x (nI k) sets (nI a) = _
    rw [L_X9_numberOf_2, if_neg (nle (by omega) (by omega)), ix_in (vp_in_nI (by omega) (by decide)), nI_clamp (by omega), if_neg (h a ha)]
    exact congrArg some (congrArg Sum.inl (nI_1 a))
  · show L_X9_numberOf_2 x (nI k) sets (nI k) = _
    rw [L_X9_numberOf_2, if_pos (nI_le (Nat.le_refl k) (by omega))]
    rfl
theorem pw1 : ∀ N, N < 17 → (1 : Int32) <<< (nI N &&& 31) = nI (2 ^ N) := by decide
theorem pw1m {N : Nat} (h : N < 17) : (1 : Int32) <<< (nI N &&& 31) - 1 = nI (2 ^ N - 1) := by
  rw [pw1 N h]
  exact pk_sub (a := 2 ^ N) (b := 1) Nat.one_le_two_pow
theorem isBoxC {N : Nat} (h : N < 17) (x : Int32) : M_X8_isBox (nI N) x = some (if (0 : Int32) ≤ x ∧ x ≤ nI (2 ^ N - 1) then 1 else 0) := by
  rw [M_X8_isBox, pw1m h, bw]
  by_cases c : (0 : Int32) ≤ x ∧ x ≤ nI (2 ^ N - 1)
  · rw [if_pos c]; rfl
  · rw [if_neg c]; rfl
theorem isBoxR {N : Nat} (h : N < 17) (x : Int32) : M_X9_isBox (nI N) x = some (if (0 : Int32) ≤ x ∧ x ≤ nI (2 ^ N - 1) then 1 else 0) := by
  rw [M_X9_isBox, pw1m h, in32n x 0 (nI (2 ^ N - 1)) 0 _ rfl rfl]
  by_cases c : (0 : Int32) ≤ x ∧ x ≤ nI (2 ^ N - 1)
  · rw [if_pos c]; rfl
  · rw [if_neg c]; rfl
theorem box_of {N : Nat} (hN : N ≤ 8) {x : Int32} (c : (0 : Int32) ≤ x ∧ x ≤ nI (2 ^ N - 1)) : ∃ z, z < 2 ^ N ∧ x = nI z := by
  have h2 : 2 ^ N ≤ 2 ^ 8 := Nat.pow_le_pow_right (by decide) hN
  have h1 : 1 ≤ 2 ^ N := Nat.one_le_two_pow
  obtain ⟨z, _, hz, rfl⟩ := nI_btw (lo := 0) (hi := 2 ^ N - 1) (by omega) c (by decide)
  exact ⟨z, by omega, rfl⟩
theorem idx_of {k : Nat} (hk : k ≤ 300) {x : Int32} (c : (0 : Int32) ≤ x ∧ x ≤ nI k - 1) : ∃ j, j < k ∧ x = nI j := by
  have h1 : (nI k - nI 1).toInt = (k : Int) - 1 := pk_sub_toInt (by omega) (by decide)
  have h2 : ¬ x < 0 := Int32.not_lt.mpr c.1
  obtain ⟨j, hj, rfl⟩ := nI_of h2
  have h3 := Int32.le_iff_toInt_le.mp c.2
  rw [show nI k - 1 = nI k - nI 1 from rfl, h1, nI_toInt hj] at h3
  exact ⟨j, by omega, rfl⟩
theorem i64m1 (k : Int32) : M_X9_in = M_X9_in := rfl
