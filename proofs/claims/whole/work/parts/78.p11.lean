/-! binomials: the program's product, the reference's triangle -/
def bn : Nat → Nat → Nat
  | _, 0 => 1
  | 0, _ + 1 => 0
  | n + 1, k + 1 => bn n k + bn n (k + 1)
theorem bn_0 (n : Nat) : bn n 0 = 1 := by cases n <;> rfl
theorem bn_s (n k : Nat) : bn (n + 1) (k + 1) = bn n k + bn n (k + 1) := rfl
theorem bn_big : ∀ n k, n < k → bn n k = 0 := by
  intro n
  induction n with
  | zero => intro k hk; cases k with
    | zero => omega
    | succ k => rfl
  | succ n ih => intro k hk; cases k with
    | zero => omega
    | succ k => rw [bn_s, ih k (by omega), ih (k + 1) (by omega)]
theorem bn_id : ∀ n k, bn (n + 1) (k + 1) * (k + 1) = bn n k * (n + 1) := by
  intro n
  induction n with
  | zero => intro k; cases k with
    | zero => rfl
    | succ k => rw [bn_s, bn_big 0 (k + 1) (by omega), bn_big 0 (k + 1 + 1) (by omega)]; omega
  | succ n ih => intro k; cases k with
    | zero =>
      have h := ih 0
      rw [bn_0] at h
      rw [bn_s, bn_0]
      omega
    | succ k =>
      have h1 := ih k
      have h2 := ih (k + 1)
      rw [show bn (n + 1 + 1) (k + 1 + 1) = bn (n + 1) (k + 1) + bn (n + 1) (k + 1 + 1) from rfl]
      have h3 : bn (n + 1) (k + 1) = bn n k + bn n (k + 1) := rfl
      rw [Nat.add_mul, h2]
      rw [show bn (n + 1) (k + 1) * (k + 1 + 1) = bn (n + 1) (k + 1) * (k + 1) + bn (n + 1) (k + 1) by rw [Nat.mul_add, Nat.mul_one], h1]
      rw [h3, Nat.add_mul]
      have e1 : bn n k * (n + 1 + 1) = bn n k * (n + 1) + bn n k := by rw [Nat.mul_add (bn n k) (n + 1) 1, Nat.mul_one]
      have e2 : bn n (k + 1) * (n + 1 + 1) = bn n (k + 1) * (n + 1) + bn n (k + 1) := by rw [Nat.mul_add (bn n (k + 1)) (n + 1) 1, Nat.mul_one]
      omega
/-- a row of the triangle, as a list -/
def pr : Nat → List Nat
  | 0 => [1]
  | n + 1 => 1 :: List.zipWith (· + ·) (pr n) ((pr n).tail ++ [0])
theorem pr_len : ∀ n, (pr n).length = n + 1 := by
  intro n
  induction n with
  | zero => rfl
  | succ n ih => simp [pr, ih]
theorem pr_bn : ∀ n k, k ≤ n → (pr n)[k]? = some (bn n k) := by
  intro n
  induction n with
  | zero => intro k hk; have : k = 0 := by omega
            subst this; rfl
  | succ n ih =>
    intro k hk
    cases k with
    | zero => rfl
    | succ k =>
      rw [pr, List.getElem?_cons_succ, List.getElem?_zipWith, ih k (by omega)]
      have ht : ((pr n).tail ++ [0])[k]? = some (bn n (k + 1)) := by
        rcases Nat.lt_or_ge k n with h | h
        · rw [List.getElem?_append_left (by rw [List.length_tail, pr_len]; omega), List.getElem?_tail, ih (k + 1) (by omega)]
        · have hk : k = n := by omega
          subst hk
          rw [List.getElem?_append_right (by rw [List.length_tail, pr_len]; omega), List.length_tail, pr_len, bn_big k (k + 1) (by omega)]
          simp
      rw [ht]
      rfl
theorem pr_small : ∀ n, n < 61 → ∀ x, x ∈ pr n → x * 60 < 2 ^ 63 := by decide +kernel
theorem bn_small {n k : Nat} (hn : n < 61) (hk : k ≤ n) : bn n k * 60 < 2 ^ 63 := pr_small n hn _ (List.mem_of_getElem? (pr_bn n k hk))
theorem chooseC {n k : Nat} (hn : n ≤ 60) (hk : k ≤ n) : M_X8_choose (nI n) (nI k) = some (lN (bn n k)) := by
  have key : lpN (fun z => L_X8_choose_5 (nI n) (nI k) z.1 z.2) fuelK (lN (bn (n - k + 0) 0), nI (0 + 1)) = some (lN (bn n k)) := by
    refine lp_runK (fun i => (lN (bn (n - k + i) i), nI (i + 1))) k _ (by omega) (fun i hi => ?_) ?_
    · show L_X8_choose_5 (nI n) (nI k) (lN (bn (n - k + i) i)) (nI (i + 1)) = _
      have h1 : (nI n - nI k) + nI (i + 1) = nI (n - k + (i + 1)) := by rw [pk_sub hk, nI_add]
      have h2 := bn_id (n - k + i) i
      have h3 := bn_small (n := n - k + i) (k := i) (by omega) (by omega)
      have h4 : bn (n - k + i) i * (n - k + (i + 1)) < 2 ^ 63 := Nat.lt_of_le_of_lt (Nat.mul_le_mul_left _ (by omega)) h3
      have h5 : bn (n - k + i) i * (n - k + (i + 1)) / (i + 1) = bn (n - k + (i + 1)) (i + 1) := by
        rw [show n - k + (i + 1) = n - k + i + 1 from rfl, ← h2]
        exact Nat.mul_div_cancel _ (by omega)
      rw [L_X8_choose_5, if_neg (nI_nlt (by omega) (by omega)), h1, nI_l (by omega), nI_l (by omega), dzL, if_neg (show ¬ lN (i + 1) = 0 from fun h => absurd ((pk_lEQ (a := i + 1) (b := 0) (by omega) (by decide)).mp h) (by omega)), lN_mul, pk_lDiv h4 (by omega) (by omega), h5, nI_1]
    · show L_X8_choose_5 (nI n) (nI k) (lN (bn (n - k + k) k)) (nI (k + 1)) = _
      rw [L_X8_choose_5, if_pos (nI_lt (by omega) (by omega)), Nat.sub_add_cancel hk]
      rfl
  rw [bn_0] at key
  exact key
/-- one row of the triangle more, from its end down -/
theorem tri_in {of k : Int32} {i : Nat} (hi : i ≤ 60) (f : Nat → Int64) (hf : ∀ j, j ≤ i → f j = lN (if i = 0 then 1 else bn (i - 1) j)) :
    ∃ t, lpN (fun z => L_X9_chosen_25 of k (nI i) z.1 z.2) fuelK (nI i, f) = some t ∧ ∃ g, t = Sum.inl (nI (i + 1), g) ∧ ∀ j, j ≤ i → g j = lN (bn i j) := by
  refine lp_invK (fun m z => z.1 = nI (i - m) ∧ (∀ j, i - m < j → j ≤ i → z.2 j = lN (bn i j)) ∧ ∀ j, j ≤ i - m → z.2 j = lN (if i = 0 then 1 else bn (i - 1) j)) _ i (by omega) ?_ ?_ _ ⟨rfl, fun j h1 h2 => absurd h1 (by omega), fun j hj => hf j (by omega)⟩
  · rintro m ⟨x, g⟩ hm ⟨rfl, h1, h2⟩
    have h1 : ∀ j, i - m < j → j ≤ i → g j = lN (bn i j) := h1
    have h2 : ∀ j, j ≤ i - m → g j = lN (if i = 0 then 1 else bn (i - 1) j) := h2
    obtain ⟨y, hy⟩ : ∃ y, i - m = y + 1 := ⟨i - m - 1, by omega⟩
    refine Or.inl ⟨(nI y, vp_updL g (y + 1) (g (y + 1) + g y)), ?_, by rw [show i - (m + 1) = y by omega], fun j h3 h4 => ?_, fun j hj => ?_⟩
    · show L_X9_chosen_25 of k (nI i) (nI (i - m)) g = _
      rw [hy, L_X9_chosen_25, if_neg (nI_nle (by omega) (by omega)), ix_in (vp_in_nI (by omega) (by decide)), nI_pred, ix_in (vp_in_nI (by omega) (by decide)), ix_in (vp_in_nI (by omega) (by decide)), nI_clamp (by omega), nI_clamp (by omega), pk_m1]
    · show vp_updL g (y + 1) (g (y + 1) + g y) j = lN (bn i j)
      by_cases hj : j = y + 1
      · subst hj
        rw [pk_uLs, h2 (y + 1) (by omega), h2 y (by omega), if_neg (show ¬ i = 0 by omega), if_neg (show ¬ i = 0 by omega), lN_add]
        obtain ⟨i', rfl⟩ : ∃ i', i = i' + 1 := ⟨i - 1, by omega⟩
        rw [show i' + 1 - 1 = i' from rfl, bn_s, Nat.add_comm]
      · rw [pk_uLn hj]; exact h1 j (by omega) h4
    · show vp_updL g (y + 1) (g (y + 1) + g y) j = _
      rw [pk_uLn (by omega)]; exact h2 j (by omega)
  · rintro ⟨x, g⟩ ⟨rfl, h1, h2⟩
    have h1 : ∀ j, i - i < j → j ≤ i → g j = lN (bn i j) := h1
    have h2 : ∀ j, j ≤ i - i → g j = lN (if i = 0 then 1 else bn (i - 1) j) := h2
    refine ⟨_, ?_, g, rfl, fun j hj => ?_⟩
    · show L_X9_chosen_25 of k (nI i) (nI (i - i)) g = _
      rw [L_X9_chosen_25, Nat.sub_self, if_pos (by decide), nI_1]
      rfl
    · rcases Nat.eq_zero_or_pos j with rfl | hj0
      · rw [h2 0 (by omega), bn_0 i]
        by_cases h0 : i = 0
        · rw [if_pos h0]
        · rw [if_neg h0, bn_0]
      · exact h1 j (by omega) hj
theorem chosenR {n k : Nat} (hn : n ≤ 60) (hk : k ≤ n) (f : Nat → Int64) : ∃ g, M_X9_chosen f (nI n) (nI k) = some (lN (bn n k), g) := by
  have key : ∃ t, lpN (fun z => L_X9_chosen_2 (nI n) (nI k) z.1 z.2) fuelK ((0 : Int32), f) = some t ∧ t.1 = lN (bn n k) := by
    refine lp_invK (fun (i : Nat) (z : Int32 × (Nat → Int64)) => z.1 = nI i ∧ ∀ j, j < i → z.2 j = lN (bn (i - 1) j)) (fun (t : Int64 × (Nat → Int64)) => t.1 = lN (bn n k)) (n + 1) (by omega) ?_ ?_ _ ⟨rfl, fun j h => absurd h (by omega)⟩
    · rintro i ⟨x, g⟩ hi ⟨rfl, h1⟩
      have h1 : ∀ j, j < i → g j = lN (bn (i - 1) j) := h1
      have hh : ∀ v : Int64, v = lN (if i = 0 then 1 else bn (i - 1) i) → ∃ t, B_X9_chosen_21 (nI n) (nI k) (nI i) (nI i) v g = some t ∧ ∃ g', t = Sum.inl (nI (i + 1), g') ∧ ∀ j, j ≤ i → g' j = lN (bn i j) := by
        intro v hv
        obtain ⟨t, et, h⟩ := tri_in (of := nI n) (k := nI k) (i := i) (by omega) (vp_updL g i v) (fun j hj => by
          by_cases hji : j = i
          · subst hji; rw [pk_uLs]; exact hv
          · rw [pk_uLn hji, h1 j (by omega), if_neg (show ¬ i = 0 by omega)])
        exact ⟨t, by rw [B_X9_chosen_21, ix_in (vp_in_nI (by omega) (by decide)), nI_clamp (by omega)]; exact et, h⟩
      rcases Nat.eq_zero_or_pos i with rfl | h0
      · obtain ⟨t, et, g', rfl, hg⟩ := hh 1 rfl
        refine Or.inl ⟨(nI (0 + 1), g'), ?_, rfl, fun j hj => hg j (by omega)⟩
        show L_X9_chosen_2 (nI n) (nI k) (nI 0) g = _
        rw [L_X9_chosen_2, if_neg (nI_nlt (by omega) (by omega)), if_pos (show nI 0 = 0 from rfl)]
        exact et
      · obtain ⟨t, et, g', rfl, hg⟩ := hh 0 (by rw [if_neg (show ¬ i = 0 by omega), bn_big (i - 1) i (by omega)]; rfl)
        refine Or.inl ⟨(nI (i + 1), g'), ?_, rfl, fun j hj => hg j (by omega)⟩
        show L_X9_chosen_2 (nI n) (nI k) (nI i) g = _
        rw [L_X9_chosen_2, if_neg (nI_nlt (by omega) (by omega)), if_neg (nI_ne0 h0 (by omega))]
        exact et
    · rintro ⟨x, g⟩ ⟨rfl, h1⟩
      have h1 : ∀ j, j < n + 1 → g j = lN (bn n j) := h1
      refine ⟨(lN (bn n k), g), ?_, rfl⟩
      show L_X9_chosen_2 (nI n) (nI k) (nI (n + 1)) g = _
      rw [L_X9_chosen_2, if_pos (nI_lt (by omega) (by omega)), ix_in (vp_in_nI (by omega) (by decide)), nI_clamp (by omega), h1 k (by omega)]
      rfl
  obtain ⟨t, et, h⟩ := key
  exact ⟨t.2, by rw [M_X9_chosen, et, ← h]⟩
