theorem wn_cg {f g : Nat → Int64} {m : Nat} (h : ∀ q, q ≤ 72 → f q = g q) {q : Nat} (hq : q ≤ 72) : wn f m q = wn g m q := ac_cg (fun r hr => h r (by omega)) _
theorem fillJ {n : Nat} (hn : n ≤ 1024) (f : Nat → Int64) (v : Int64) : ∃ g, M_J7_fill_d0a16 n f v = some g ∧ ∀ q, q < n → g q = v := by
  obtain ⟨t, et, h⟩ := lp_invK (body := fun z : Int32 × (Nat → Int64) => L_J7_fill_d0a16_6 n v (Int32.ofNat n) z.1 z.2) (fun (i : Nat) (z : Int32 × (Nat → Int64)) => z.1 = nI i ∧ ∀ q, q < i → z.2 q = v) (fun g => ∀ q, q < n → g q = v) n (by omega) (by
    rintro i ⟨x, g⟩ hi ⟨rfl, h1⟩
    refine Or.inl ⟨(nI (i + 1), vp_updL g i v), ?_, rfl, fun q hq => ?_⟩
    · show L_J7_fill_d0a16_6 n v (nI n) (nI i) g = _
      rw [L_J7_fill_d0a16_6, if_neg (nle hi (by omega)), ix_in (vp_in_nI hi (by omega)), nI_clamp (by omega), nI_1]
    · show vp_updL g i v q = v
      by_cases hE : q = i
      · rw [hE, pk_uLs]
      · rw [pk_uLn hE]; exact h1 q (by omega)) (by
    rintro ⟨x, g⟩ ⟨rfl, h1⟩
    refine ⟨g, ?_, h1⟩
    show L_J7_fill_d0a16_6 n v (nI n) (nI n) g = _
    rw [L_J7_fill_d0a16_6, if_pos (nI_le (Nat.le_refl n) (by omega))]
    rfl) ((0 : Int32), f) ⟨rfl, fun q h => absurd h (by omega)⟩
  exact ⟨t, et, h⟩
theorem waysC {M : Nat → Nat} {al : Nat → Int32} (hM : ∀ j, j < 8 → M j ≤ 9 ∧ al j = nI (M j)) (ways : Nat → Int64) : ∃ g, M_X8_countWays al ways = some (nI (wyT M 8), g) ∧ ∀ q, q ≤ 72 → g q = wyW M 8 q := by
  obtain ⟨g0, e0, h0⟩ := fillJ (n := 73) (by decide) ways 0
  have hT := wy_T M (n := 8) (fun j hj => (hM j hj).1)
  obtain ⟨t, et, g, rfl, hg⟩ := lp_invK (body := fun z : Int32 × Int32 × (Nat → Int64) => L_X8_countWays_19 al z.1 z.2.1 z.2.2) (fun (k : Nat) (z : Int32 × Int32 × (Nat → Int64)) => z.1 = nI (wyT M k) ∧ z.2.1 = nI k ∧ ∀ q, q ≤ 72 → z.2.2 q = wyW M k q) (fun t => ∃ g, t = (nI (wyT M 8), g) ∧ ∀ q, q ≤ 72 → g q = wyW M 8 q) 8 (by decide) (by
    rintro k ⟨x, y, g⟩ hk ⟨rfl, rfl, h1⟩
    have h1 : ∀ q, q ≤ 72 → g q = wyW M k q := h1
    have hTk := hT (k + 1) (by omega)
    obtain ⟨g', eg, hg⟩ := ways_sC (T := wyT M (k + 1)) (k := k) (m := M k) hk (hM k hk).1 (by omega) al (hM k hk).2 g
    refine Or.inl ⟨(nI (wyT M (k + 1)), nI (k + 1), g'), ?_, rfl, rfl, fun q hq => ?_⟩
    · show L_X8_countWays_19 al (nI (wyT M k)) (nI k) g = _
      rw [L_X8_countWays_19, if_neg (show ¬ (8 : Int32) ≤ nI k from nle (a := 8) hk (by decide)), ix_in (vp_in_nI hk (by decide)), nI_clamp (n := k) (by omega), (hM k hk).2, nI_add]
      rw [nI_1] at eg
      exact eg
    · show g' q = wyW M (k + 1) q
      rw [hg q hq]
      by_cases hc : q ≤ wyT M (k + 1)
      · rw [if_pos hc]; exact wn_cg h1 hq
      · rw [if_neg hc, h1 q hq, wy_0 M (k + 1) q (by omega)]
        exact wy_0 M k q (by rw [wyT] at hc; omega)) (by
    rintro ⟨x, y, g⟩ ⟨rfl, rfl, h1⟩
    refine ⟨_, ?_, g, rfl, h1⟩
    show L_X8_countWays_19 al (nI (wyT M 8)) (nI 8) g = _
    rw [L_X8_countWays_19, if_pos (by decide)]
    rfl) ((0 : Int32), (0 : Int32), vp_updL g0 0 1) ⟨rfl, rfl, fun q hq => (by
      show vp_updL g0 0 1 q = (if q = 0 then (1 : Int64) else 0)
      by_cases h : q = 0
      · rw [h, pk_uLs, if_pos rfl]
      · rw [pk_uLn h, if_neg h]; exact h0 q (by omega))⟩
  refine ⟨g, ?_, hg⟩
  rw [M_X8_countWays, e0]
  exact et
theorem waysR {M : Nat → Nat} {al : Nat → Int32} (hM : ∀ j, j < 8 → M j ≤ 9 ∧ al j = nI (M j)) (ways : Nat → Int64) : ∃ g, M_X9_spread al ways = some (nI (wyT M 8), g) ∧ ∀ q, q ≤ 72 → g q = wyW M 8 q := by
  have hT := wy_T M (n := 8) (fun j hj => (hM j hj).1)
  have main : ∀ g0 : Nat → Int64, (∀ q, q ≤ 72 → g0 q = wyW M 0 q) → ∃ t, lpN (fun z => L_X9_spread_33 al z.1 z.2.1 z.2.2) fuelK ((0 : Int32), (0 : Int32), g0) = some t ∧ ∃ g, t = (nI (wyT M 8), g) ∧ ∀ q, q ≤ 72 → g q = wyW M 8 q := by
    intro g0 h0
    exact lp_invK (body := fun z : Int32 × Int32 × (Nat → Int64) => L_X9_spread_33 al z.1 z.2.1 z.2.2) (fun (k : Nat) (z : Int32 × Int32 × (Nat → Int64)) => z.1 = nI (wyT M k) ∧ z.2.1 = nI k ∧ ∀ q, q ≤ 72 → z.2.2 q = wyW M k q) (fun t => ∃ g, t = (nI (wyT M 8), g) ∧ ∀ q, q ≤ 72 → g q = wyW M 8 q) 8 (by decide) (by
      rintro k ⟨x, y, g⟩ hk ⟨rfl, rfl, h1⟩
      have h1 : ∀ q, q ≤ 72 → g q = wyW M k q := h1
      obtain ⟨g', eg, hg⟩ := ways_sR (T := 72) (k := k) (m := M k) hk (hM k hk).1 (by omega) (nI (wyT M k) + nI (M k)) al (hM k hk).2 g
      refine Or.inl ⟨(nI (wyT M (k + 1)), nI (k + 1), g'), ?_, rfl, rfl, fun q hq => ?_⟩
      · show L_X9_spread_33 al (nI (wyT M k)) (nI k) g = _
        rw [L_X9_spread_33, if_neg (show ¬ (8 : Int32) ≤ nI k from nle (a := 8) hk (by decide)), ix_in (vp_in_nI hk (by decide)), nI_clamp (n := k) (by omega), (hM k hk).2]
        rw [nI_1] at eg
        refine eg.trans ?_
        rw [nI_add]
        rfl
      · show g' q = wyW M (k + 1) q
        rw [hg q hq, if_pos hq]; exact wn_cg h1 hq) (by
      rintro ⟨x, y, g⟩ ⟨rfl, rfl, h1⟩
      refine ⟨_, ?_, g, rfl, h1⟩
      show L_X9_spread_33 al (nI (wyT M 8)) (nI 8) g = _
      rw [L_X9_spread_33, if_pos (by decide)]
      rfl) ((0 : Int32), (0 : Int32), g0) ⟨rfl, rfl, h0⟩
  obtain ⟨t, et, g, rfl, hg⟩ := lp_invK (body := fun z : Int32 × (Nat → Int64) => L_X9_spread_2 al z.1 z.2) (fun (i : Nat) (z : Int32 × (Nat → Int64)) => z.1 = nI i ∧ ∀ q, q < i → z.2 q = wyW M 0 q) (fun t => ∃ g, t = (nI (wyT M 8), g) ∧ ∀ q, q ≤ 72 → g q = wyW M 8 q) 73 (by decide) (by
    rintro i ⟨x, g⟩ hi ⟨rfl, h1⟩
    have h1 : ∀ q, q < i → g q = wyW M 0 q := h1
    refine Or.inl ⟨(nI (i + 1), vp_updL g i (wyW M 0 i)), ?_, rfl, fun q hq => ?_⟩
    · show L_X9_spread_2 al (nI i) g = _
      rw [L_X9_spread_2, if_neg (show ¬ (72 : Int32) < nI i from nI_nlt (b := i) (a := 72) (by omega) (by decide))]
      by_cases h : i = 0
      · subst h; rfl
      · rw [if_neg (nI_ne0 (by omega) (by omega)), B_X9_spread_22, ix_in (vp_in_nI (by omega) (by decide)), nI_clamp (by omega), nI_1]
        show _ = some (Sum.inl (nI (i + 1), vp_updL g i (if i = 0 then (1 : Int64) else 0)))
        rw [if_neg h]
    · show vp_updL g i (wyW M 0 i) q = wyW M 0 q
      by_cases hE : q = i
      · rw [hE, pk_uLs]
      · rw [pk_uLn hE]; exact h1 q (by omega)) (by
    rintro ⟨x, g⟩ ⟨rfl, h1⟩
    obtain ⟨t, et, h⟩ := main g (fun q hq => h1 q (by omega))
    refine ⟨t, ?_, h⟩
    show L_X9_spread_2 al (nI 73) g = _
    rw [L_X9_spread_2, if_pos (by decide), et]
    rfl) ((0 : Int32), ways) ⟨rfl, fun q h => absurd h (by omega)⟩
  exact ⟨g, et, hg⟩
/-- the least number with the most ways so far -/
def bsx (w : Nat → Int64) : Nat → Nat
  | 0 => 0
  | i + 1 => if lg_cmp (w (i + 1)) (w (bsx w i)) ≤ 0 then bsx w i else i + 1
theorem bsx_le (w : Nat → Int64) : ∀ i, bsx w i ≤ i := by
  intro i
  induction i with
  | zero => exact Nat.le_refl 0
  | succ i ih =>
    rw [bsx]
    by_cases h : lg_cmp (w (i + 1)) (w (bsx w i)) ≤ 0
    · rw [if_pos h]; omega
    · rw [if_neg h]; omega
theorem bsx_cg {w v : Nat → Int64} : ∀ i, (∀ q, q ≤ i → w q = v q) → bsx w i = bsx v i := by
  intro i
  induction i with
  | zero => intro _; rfl
  | succ i ih =>
    intro h
    have hi := ih (fun q hq => h q (by omega))
    rw [bsx, bsx, hi, h (i + 1) (Nat.le_refl _), h (bsx v i) (by have := bsx_le v i; omega)]
theorem midC (bad full no : Int32) (al : Nat → Int32) (w : Nat → Int64) : lpN (fun z => L_X8_middle_35 bad full no al w z.1 z.2) fuelK ((0 : Int32), (1 : Int32)) = some (nI (bsx w 72), bad, full, no, w) := by
  refine lp_runK (fun i => (nI (bsx w i), nI (i + 1))) 72 _ (by decide) (fun i hi => ?_) ?_
  · show L_X8_middle_35 bad full no al w (nI (bsx w i)) (nI (i + 1)) = _
    have hb := bsx_le w i
    rw [L_X8_middle_35, if_neg (show ¬ (72 : Int32) < nI (i + 1) from nI_nlt (b := i + 1) (a := 72) (by omega) (by decide)), ix_in (vp_in_nI (by omega) (by decide)), ix_in (vp_in_nI (by omega) (by decide)), nI_clamp (by omega), nI_clamp (by omega), nI_1, bsx]
    by_cases h : lg_cmp (w (i + 1)) (w (bsx w i)) ≤ 0
    · rw [if_pos h, if_pos h]
    · rw [if_neg h, if_neg h]
  · show L_X8_middle_35 bad full no al w (nI (bsx w 72)) (nI 73) = _
    rw [L_X8_middle_35, if_pos (by decide)]
    rfl
theorem midR (p x : Int32) (al ref : Nat → Int32) (w : Nat → Int64) : lpN (fun z => L_X9_middle_27 p x al ref w z.1 z.2) fuelK ((0 : Int32), (1 : Int32)) = (if p = 0 then some (nI (bsx w 72), ref, w) else some (x, ref, w)) := by
  have h : ∀ r, (if p = 0 then some (nI (bsx w 72), ref, w) else some (x, ref, w)) = some r → lpN (fun z => L_X9_middle_27 p x al ref w z.1 z.2) fuelK ((0 : Int32), (1 : Int32)) = some r := by
    intro r hr
    refine lp_runK (fun i => (nI (bsx w i), nI (i + 1))) 72 _ (by decide) (fun i hi => ?_) ?_
    · show L_X9_middle_27 p x al ref w (nI (bsx w i)) (nI (i + 1)) = _
      have hb := bsx_le w i
      rw [L_X9_middle_27, if_neg (show ¬ (72 : Int32) < nI (i + 1) from nI_nlt (b := i + 1) (a := 72) (by omega) (by decide)), ix_in (vp_in_nI (by omega) (by decide)), ix_in (vp_in_nI (by omega) (by decide)), nI_clamp (by omega), nI_clamp (by omega), nI_1, bsx]
      by_cases h : lg_cmp (w (i + 1)) (w (bsx w i)) ≤ 0
      · rw [if_pos h, if_pos h]
      · rw [if_neg h, if_neg h]
    · show L_X9_middle_27 p x al ref w (nI (bsx w 72)) (nI 73) = _
      rw [L_X9_middle_27, if_pos (show (72 : Int32) < nI 73 by decide), hr]
      rfl
  by_cases hp : p = 0
  · rw [if_pos hp] at h ⊢; exact h _ rfl
  · rw [if_neg hp] at h ⊢; exact h _ rfl
theorem ob {α β : Type} (a : α) (f : α → Option β) : Option.bind (some a) f = f a := rfl
