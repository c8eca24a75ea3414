/-! things: the ways, by rows from their ends down -/
def ac (f : Nat → Int64) (s : Nat) : Nat → Int64
  | 0 => f s
  | t + 1 => ac f s t + f (s - (t + 1))
def wn (f : Nat → Int64) (m : Nat) : Nat → Int64 := fun s => ac f s (min s m)
def wyT (M : Nat → Nat) : Nat → Nat
  | 0 => 0
  | k + 1 => wyT M k + M k
def wyW (M : Nat → Nat) : Nat → Nat → Int64
  | 0 => fun q => if q = 0 then 1 else 0
  | k + 1 => wn (wyW M k) (M k)
theorem ac_cg {f g : Nat → Int64} {s : Nat} (h : ∀ q, q ≤ s → f q = g q) : ∀ t, ac f s t = ac g s t := by
  intro t
  induction t with
  | zero => exact h s (Nat.le_refl s)
  | succ t ih => rw [ac, ac, ih, h _ (by omega)]
theorem ac_0 {f : Nat → Int64} {s : Nat} : ∀ t, (∀ q, s - t ≤ q → q ≤ s → f q = 0) → ac f s t = 0 := by
  intro t
  induction t with
  | zero => intro h; exact h s (by omega) (Nat.le_refl s)
  | succ t ih => intro h; rw [ac, ih (fun q h1 h2 => h q (by omega) h2), h (s - (t + 1)) (by omega) (by omega)]; rfl
theorem wy_T (M : Nat → Nat) {n : Nat} (hM : ∀ j, j < n → M j ≤ 9) : ∀ k, k ≤ n → wyT M k ≤ 9 * k := by
  intro k
  induction k with
  | zero => intro _; exact Nat.le_refl 0
  | succ k ih => intro h; have := ih (by omega); have := hM k (by omega); rw [wyT]; omega
theorem wy_0 (M : Nat → Nat) : ∀ k q, wyT M k < q → wyW M k q = 0 := by
  intro k
  induction k with
  | zero => intro q hq; have h : ¬ q = 0 := by rw [wyT] at hq; omega
            show (if q = 0 then (1 : Int64) else 0) = 0
            rw [if_neg h]
  | succ k ih =>
    intro q hq
    rw [wyT] at hq
    show ac (wyW M k) q (min q (M k)) = 0
    exact ac_0 _ (fun r h1 _ => ih r (by omega))
theorem mn {m s : Nat} (hm : m < 2 ^ 31) (hs : s < 2 ^ 31) : (if nI m < nI s then nI m else nI s) = nI (min s m) := by
  by_cases h : m < s
  · rw [if_pos (nI_lt h hs), Nat.min_eq_right (by omega)]
  · rw [if_neg (nI_nlt (by omega) hm), Nat.min_eq_left (by omega)]
theorem ways_inC {s m : Nat} (hs : s ≤ 72) (x1 x2 : Int32) (al : Nat → Int32) (f : Nat → Int64) : ∃ g, lpN (fun z => L_X8_countWays_55 x1 x2 (nI s) (nI (min s m)) al z.1 z.2) fuelK ((1 : Int32), f) = some (Sum.inl (nI s + (-1 : Int32), g)) ∧ ∀ q, q ≤ 72 → g q = if q = s then ac f s (min s m) else f q := by
  obtain ⟨t, et, g, rfl, h2⟩ := lp_invK (body := fun z : Int32 × (Nat → Int64) => L_X8_countWays_55 x1 x2 (nI s) (nI (min s m)) al z.1 z.2) (fun (i : Nat) (z : Int32 × (Nat → Int64)) => z.1 = nI (i + 1) ∧ ∀ q, q ≤ 72 → z.2 q = if q = s then ac f s i else f q) (fun t => ∃ g, t = Sum.inl (nI s + (-1 : Int32), g) ∧ ∀ q, q ≤ 72 → g q = if q = s then ac f s (min s m) else f q) (min s m) (by omega) (by
    rintro i ⟨x, g⟩ hi ⟨rfl, h1⟩
    have h1 : ∀ q, q ≤ 72 → g q = if q = s then ac f s i else f q := h1
    have hi' : i < s := by omega
    refine Or.inl ⟨(nI (i + 1 + 1), vp_updL g s (g s + g (s - (i + 1)))), ?_, rfl, fun q hq => ?_⟩
    · show L_X8_countWays_55 x1 x2 (nI s) (nI (min s m)) al (nI (i + 1)) g = _
      rw [L_X8_countWays_55, if_neg (nI_nlt (by omega) (by omega)), ix_in (vp_in_nI (by omega) (by decide)), pk_sub (by omega), ix_in (vp_in_nI (by omega) (by decide)), ix_in (vp_in_nI (by omega) (by decide)), nI_clamp (by omega), nI_clamp (by omega), nI_1]
    · show vp_updL g s (g s + g (s - (i + 1))) q = _
      by_cases hE : q = s
      · subst hE
        rw [pk_uLs, if_pos rfl, h1 q hq, if_pos rfl, h1 (q - (i + 1)) (by omega), if_neg (by omega), ac]
      · rw [pk_uLn hE, if_neg hE, h1 q hq, if_neg hE]) (by
    rintro ⟨x, g⟩ ⟨rfl, h1⟩
    refine ⟨_, ?_, g, rfl, h1⟩
    show L_X8_countWays_55 x1 x2 (nI s) (nI (min s m)) al (nI (min s m + 1)) g = _
    rw [L_X8_countWays_55, if_pos (nI_lt (by omega) (by omega))]
    rfl) ((1 : Int32), f) ⟨rfl, fun q _ => (by
    by_cases h : q = s
    · rw [if_pos h, h]; rfl
    · rw [if_neg h])⟩
  exact ⟨g, et, h2⟩
theorem ways_inR {s m : Nat} (hs : s ≤ 72) {k : Nat} (hk : k < 8) (hm : m ≤ 9) (x1 : Int32) (al : Nat → Int32) (f : Nat → Int64) (ha : al k = nI m) : ∃ g, lpN (fun z => L_X9_spread_58 x1 (nI k) (nI s) al z.1 z.2) fuelK ((1 : Int32), f) = some (Sum.inl (nI s + (-1 : Int32), g)) ∧ ∀ q, q ≤ 72 → g q = if q = s then ac f s (min s m) else f q := by
  obtain ⟨t, et, g, rfl, h2⟩ := lp_invK (body := fun z : Int32 × (Nat → Int64) => L_X9_spread_58 x1 (nI k) (nI s) al z.1 z.2) (fun (i : Nat) (z : Int32 × (Nat → Int64)) => z.1 = nI (i + 1) ∧ ∀ q, q ≤ 72 → z.2 q = if q = s then ac f s i else f q) (fun t => ∃ g, t = Sum.inl (nI s + (-1 : Int32), g) ∧ ∀ q, q ≤ 72 → g q = if q = s then ac f s (min s m) else f q) (min s m) (by omega) (by
    rintro i ⟨x, g⟩ hi ⟨rfl, h1⟩
    have h1 : ∀ q, q ≤ 72 → g q = if q = s then ac f s i else f q := h1
    have hi' : i < s := by omega
    refine Or.inl ⟨(nI (i + 1 + 1), vp_updL g s (g s + g (s - (i + 1)))), ?_, rfl, fun q hq => ?_⟩
    · show L_X9_spread_58 x1 (nI k) (nI s) al (nI (i + 1)) g = _
      rw [L_X9_spread_58, ix_in (vp_in_nI hk (by decide)), nI_clamp (n := k) (by omega), ha, if_neg (nI_nlt (by omega) (by omega)), if_neg (nI_nlt (by omega) (by omega)), ix_in (vp_in_nI (by omega) (by decide)), pk_sub (by omega), ix_in (vp_in_nI (by omega) (by decide)), ix_in (vp_in_nI (by omega) (by decide)), nI_clamp (by omega), nI_clamp (by omega), nI_1]
    · show vp_updL g s (g s + g (s - (i + 1))) q = _
      by_cases hE : q = s
      · subst hE
        rw [pk_uLs, if_pos rfl, h1 q hq, if_pos rfl, h1 (q - (i + 1)) (by omega), if_neg (by omega), ac]
      · rw [pk_uLn hE, if_neg hE, h1 q hq, if_neg hE]) (by
    rintro ⟨x, g⟩ ⟨rfl, h1⟩
    refine ⟨_, ?_, g, rfl, h1⟩
    show L_X9_spread_58 x1 (nI k) (nI s) al (nI (min s m + 1)) g = _
    rw [L_X9_spread_58, ix_in (vp_in_nI hk (by decide)), nI_clamp (n := k) (by omega), ha]
    by_cases hms : m < min s m + 1
    · rw [if_pos (nI_lt hms (by omega))]
      rfl
    · rw [if_neg (nI_nlt (by omega) (by omega)), if_pos (nI_lt (by omega) (by omega))]
      rfl) ((1 : Int32), f) ⟨rfl, fun q _ => (by
    by_cases h : q = s
    · rw [if_pos h, h]; rfl
    · rw [if_neg h])⟩
  exact ⟨g, et, h2⟩
/-- one sort more: from the top down -/
theorem ways_sC {k m : Nat} (hk : k < 8) (hm : m ≤ 9) {T : Nat} (hT : T ≤ 72) (al : Nat → Int32) (ha : al k = nI m) (f : Nat → Int64) : ∃ g, lpN (fun z => L_X8_countWays_36 (nI T) (nI k) al z.1 z.2) fuelK (nI T, f) = some (Sum.inl (nI T, nI k + (1 : Int32), g)) ∧ ∀ q, q ≤ 72 → g q = if q ≤ T then wn f m q else f q := by
  obtain ⟨t, et, g, rfl, h2⟩ := lp_invK (body := fun z : Int32 × (Nat → Int64) => L_X8_countWays_36 (nI T) (nI k) al z.1 z.2) (fun (a : Nat) (z : Int32 × (Nat → Int64)) => z.1 = nI (T + 1 - a) - 1 ∧ ∀ q, q ≤ 72 → z.2 q = if T + 1 - a ≤ q ∧ q ≤ T then wn f m q else f q) (fun t => ∃ g, t = Sum.inl (nI T, nI k + (1 : Int32), g) ∧ ∀ q, q ≤ 72 → g q = if q ≤ T then wn f m q else f q) (T + 1) (by omega) (by
    rintro a ⟨x, g⟩ hi ⟨rfl, h1⟩
    have h1 : ∀ q, q ≤ 72 → g q = if T + 1 - a ≤ q ∧ q ≤ T then wn f m q else f q := h1
    obtain ⟨c1, c2⟩ := cd (n := T + 1) (i := a) hi
    have e0 : T + 1 - 1 - a = T - a := by omega
    rw [e0] at c1 c2
    obtain ⟨g', eg, hg⟩ := ways_inC (s := T - a) (m := m) (by omega) (nI T) (nI k) al g
    refine Or.inl ⟨(nI (T + 1 - (a + 1)) - 1, g'), ?_, rfl, fun q hq => ?_⟩
    · show L_X8_countWays_36 (nI T) (nI k) al (nI (T + 1 - a) - 1) g = _
      rw [c1, L_X8_countWays_36, if_neg (nI_pos (by omega)), ix_in (vp_in_nI hk (by decide)), nI_clamp (n := k) (by omega), ha, mn (by omega) (by omega)]
      rw [c2] at eg
      exact eg
    · show g' q = _
      rw [hg q hq]
      by_cases hE : q = T - a
      · subst hE
        rw [if_pos rfl, if_pos (by omega)]
        exact ac_cg (fun r hr => by rw [h1 r (by omega), if_neg (by omega)]) _
      · rw [if_neg hE, h1 q hq]
        by_cases hc : T + 1 - a ≤ q ∧ q ≤ T
        · rw [if_pos hc, if_pos (by omega)]
        · rw [if_neg hc, if_neg (by omega)]) (by
    rintro ⟨x, g⟩ ⟨rfl, h1⟩
    refine ⟨_, ?_, g, rfl, fun q hq => ?_⟩
    · show L_X8_countWays_36 (nI T) (nI k) al (nI (T + 1 - (T + 1)) - 1) g = _
      rw [L_X8_countWays_36, Nat.sub_self, if_pos (by decide)]
      rfl
    · have h3 : g q = if T + 1 - (T + 1) ≤ q ∧ q ≤ T then wn f m q else f q := h1 q hq
      rw [h3]
      by_cases hc : q ≤ T
      · rw [if_pos hc, if_pos ⟨by omega, hc⟩]
      · rw [if_neg hc, if_neg (fun h => hc h.2)]) (nI T, f) ⟨(nI_pred T).symm, fun q _ => (by rw [if_neg (by omega)])⟩
  exact ⟨g, et, h2⟩
/-- one sort more: from the top down -/
theorem ways_sR {k m : Nat} (hk : k < 8) (hm : m ≤ 9) {T : Nat} (hT : T ≤ 72) (x1 : Int32) (al : Nat → Int32) (ha : al k = nI m) (f : Nat → Int64) : ∃ g, lpN (fun z => L_X9_spread_51 x1 (nI k) al z.1 z.2) fuelK (nI T, f) = some (Sum.inl (x1, nI k + (1 : Int32), g)) ∧ ∀ q, q ≤ 72 → g q = if q ≤ T then wn f m q else f q := by
  obtain ⟨t, et, g, rfl, h2⟩ := lp_invK (body := fun z : Int32 × (Nat → Int64) => L_X9_spread_51 x1 (nI k) al z.1 z.2) (fun (a : Nat) (z : Int32 × (Nat → Int64)) => z.1 = nI (T + 1 - a) - 1 ∧ ∀ q, q ≤ 72 → z.2 q = if T + 1 - a ≤ q ∧ q ≤ T then wn f m q else f q) (fun t => ∃ g, t = Sum.inl (x1, nI k + (1 : Int32), g) ∧ ∀ q, q ≤ 72 → g q = if q ≤ T then wn f m q else f q) (T + 1) (by omega) (by
    rintro a ⟨x, g⟩ hi ⟨rfl, h1⟩
    have h1 : ∀ q, q ≤ 72 → g q = if T + 1 - a ≤ q ∧ q ≤ T then wn f m q else f q := h1
    obtain ⟨c1, c2⟩ := cd (n := T + 1) (i := a) hi
    have e0 : T + 1 - 1 - a = T - a := by omega
    rw [e0] at c1 c2
    obtain ⟨g', eg, hg⟩ := ways_inR (s := T - a) (m := m) (by omega) hk hm x1 al g ha
    refine Or.inl ⟨(nI (T + 1 - (a + 1)) - 1, g'), ?_, rfl, fun q hq => ?_⟩
    · show L_X9_spread_51 x1 (nI k) al (nI (T + 1 - a) - 1) g = _
      rw [c1, L_X9_spread_51, if_neg (nI_pos (by omega))]
      rw [c2] at eg
      exact eg
    · show g' q = _
      rw [hg q hq]
      by_cases hE : q = T - a
      · subst hE
        rw [if_pos rfl, if_pos (by omega)]
        exact ac_cg (fun r hr => by rw [h1 r (by omega), if_neg (by omega)]) _
      · rw [if_neg hE, h1 q hq]
        by_cases hc : T + 1 - a ≤ q ∧ q ≤ T
        · rw [if_pos hc, if_pos (by omega)]
        · rw [if_neg hc, if_neg (by omega)]) (by
    rintro ⟨x, g⟩ ⟨rfl, h1⟩
    refine ⟨_, ?_, g, rfl, fun q hq => ?_⟩
    · show L_X9_spread_51 x1 (nI k) al (nI (T + 1 - (T + 1)) - 1) g = _
      rw [L_X9_spread_51, Nat.sub_self, if_pos (by decide)]
      rfl
    · have h3 : g q = if T + 1 - (T + 1) ≤ q ∧ q ≤ T then wn f m q else f q := h1 q hq
      rw [h3]
      by_cases hc : q ≤ T
      · rw [if_pos hc, if_pos ⟨by omega, hc⟩]
      · rw [if_neg hc, if_neg (fun h => hc h.2)]) (nI T, f) ⟨(nI_pred T).symm, fun q _ => (by rw [if_neg (by omega)])⟩
  exact ⟨g, et, h2⟩
