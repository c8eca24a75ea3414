/-! read: tokens -/
def q_kd (x : Nat) : Nat := if 97 ≤ x ∧ x ≤ 122 then 1 else if 48 ≤ x ∧ x ≤ 57 then 2 else if x = 45 then 3 else if x = 59 then 4 else 5
theorem q_kdC : ∀ x, x < 256 → M_X7_kindOf (nI x) = some (nI (q_kd x)) := by decide +kernel
theorem q_letR : ∀ x, x < 256 → M_X9_isLetter (nI x) = some (if q_kd x = 1 then 1 else 0) := by decide +kernel
theorem q_figR : ∀ x, x < 256 → M_X9_isFigure (nI x) = some (if q_kd x = 2 then 1 else 0) := by decide +kernel
theorem q_kd1 {x : Nat} (h : q_kd x = 1) : 97 ≤ x ∧ x ≤ 122 := by
  unfold q_kd at h
  by_cases c : 97 ≤ x ∧ x ≤ 122
  · exact c
  · rw [if_neg c] at h
    split at h
    · omega
    · split at h
      · omega
      · split at h <;> omega
theorem q_kd2 {x : Nat} (h : q_kd x = 2) : 48 ≤ x ∧ x ≤ 57 := by
  unfold q_kd at h
  by_cases c : 97 ≤ x ∧ x ≤ 122
  · rw [if_pos c] at h; omega
  · rw [if_neg c] at h
    by_cases c2 : 48 ≤ x ∧ x ≤ 57
    · exact c2
    · rw [if_neg c2] at h
      split at h
      · omega
      · split at h <;> omega
theorem q_kd_b (x : Nat) : 1 ≤ q_kd x ∧ q_kd x ≤ 5 := by
  unfold q_kd
  split
  · omega
  · split
    · omega
    · split
      · omega
      · split <;> omega
theorem q_kd3 {x : Nat} : (q_kd x = 3 → x = 45) ∧ (q_kd x = 4 → x = 59) ∧ (q_kd x = 5 → x ≠ 45 ∧ x ≠ 59) := by
  unfold q_kd
  by_cases c1 : 97 ≤ x ∧ x ≤ 122
  · rw [if_pos c1]; omega
  · rw [if_neg c1]
    by_cases c2 : 48 ≤ x ∧ x ≤ 57
    · rw [if_pos c2]; omega
    · rw [if_neg c2]
      by_cases c3 : x = 45
      · rw [if_pos c3]; omega
      · rw [if_neg c3]
        by_cases c4 : x = 59
        · rw [if_pos c4]; omega
        · rw [if_neg c4]; omega
def q_hv (B : Nat → Nat) (s : Nat) : Nat → Nat
  | 0 => 0
  | j + 1 => 32 * q_hv B s j + B (s + j) - 96
def q_nv (B : Nat → Nat) (s : Nat) : Nat → Nat
  | 0 => 0
  | j + 1 => 10 * q_nv B s j + B (s + j) - 48
def q_wv2 (B : Nat → Nat) (s j : Nat) : Int64 := if j ≤ 8 then lN (q_hv B s j) else -1
def q_mv (B : Nat → Nat) (s j : Nat) : Int64 := if j ≤ 2 then lN (q_nv B s j) else 1000
/-- a token: where it begins, where it ends, its kind -/
def q_tk (k : Nat) (B : Nat → Nat) (a s e K : Nat) : Prop :=
  a ≤ s ∧ s ≤ e ∧ e ≤ k ∧ K ≤ 5 ∧ (K = 0 → s = k ∧ e = k) ∧ (K ≠ 0 → s < e) ∧ (K = 1 → ∀ j, s ≤ j → j < e → q_kd (B j) = 1) ∧ (K = 2 → ∀ j, s ≤ j → j < e → q_kd (B j) = 2)
section TK
variable {k : Nat} {B : Nat → Nat} {f g : Nat → Int32}
theorem q_skC (hk : k ≤ 200) (hB : ∀ j, j < k → B j < 256 ∧ f j = nI (B j)) {a s : Nat} (has : a ≤ s) (hs : s ≤ k) (hsk : ∀ j, a ≤ j → j < s → B j = 32) (hs2 : s = k ∨ B s ≠ 32) (vk vs : Int32) {t : Int32 × Int32 × Int32} (ht : B_X7_advance_46 (nI a) vk (nI k) (nI s) f = some t) : M_X7_advance (nI a) vk (nI k) vs f = some t := by
  refine lp_fromK (fun i => nI i) a s _ has (by omega) (fun i h1 h2 => ?_) ?_
  · show L_X7_advance_8 (nI a) vk (nI k) f (nI i) = _
    rw [L_X7_advance_8, if_neg (nle (by omega) (by omega)), ix_in (vp_in_nI (by omega) (by decide)), nI_clamp (by omega), (hB i (by omega)).2, hsk i h1 h2, if_pos (show nI 32 = (32 : Int32) from rfl), nI_1]
  · show L_X7_advance_8 (nI a) vk (nI k) f (nI s) = _
    rw [L_X7_advance_8, ht]
    rcases Nat.lt_or_ge s k with h | h
    · have hb := hB s h
      rw [if_neg (nle h (by omega)), ix_in (vp_in_nI (by omega) (by decide)), nI_clamp (by omega), hb.2, if_neg (fun c => by
        rcases hs2 with h2 | h2
        · omega
        · exact h2 ((nI_eq (a := B s) (b := 32) (by omega) (by decide)).mp c))]
      rfl
    · rw [if_pos (nI_le (by omega) (by omega))]
      rfl
theorem q_skR (hk : k ≤ 200) (hB : ∀ j, j < k → B j < 256 ∧ g j = nI (B j)) {a s : Nat} (has : a ≤ s) (hs : s ≤ k) (hsk : ∀ j, a ≤ j → j < s → B j = 32) (hs2 : s = k ∨ B s ≠ 32) (vb vk : Int32) (vv : Int64) {t : Int32 × Int32 × Int32 × Int64} (ht : B_X9_next_38 (nI s) vb vk (nI k) vv g = some t) : M_X9_next (nI a) vb vk (nI k) vv g = some t := by
  refine lp_fromK (fun i => nI i) a s _ has (by omega) (fun i h1 h2 => ?_) ?_
  · show L_X9_next_0 vb vk (nI k) vv g (nI i) = _
    rw [L_X9_next_0, if_neg (nle (by omega) (by omega)), ix_in (vp_in_nI (by omega) (by decide)), nI_clamp (by omega), (hB i (by omega)).2, hsk i h1 h2, if_pos (show nI 32 = (32 : Int32) from rfl), nI_1]
  · show L_X9_next_0 vb vk (nI k) vv g (nI s) = _
    rw [L_X9_next_0, ht]
    rcases Nat.lt_or_ge s k with h | h
    · have hb := hB s h
      rw [if_neg (nle h (by omega)), ix_in (vp_in_nI (by omega) (by decide)), nI_clamp (by omega), hb.2, if_neg (fun c => by
        rcases hs2 with h2 | h2
        · omega
        · exact h2 ((nI_eq (a := B s) (b := 32) (by omega) (by decide)).mp c))]
      rfl
    · rw [if_pos (nI_le (by omega) (by omega))]
      rfl
theorem q_runC (hk : k ≤ 200) (hB : ∀ j, j < k → B j < 256 ∧ f j = nI (B j)) {s e K : Nat} (hse : s < e) (he : e ≤ k) (hK : K ≤ 5) (hrun : ∀ j, s ≤ j → j < e → q_kd (B j) = K) (he2 : e = k ∨ q_kd (B e) ≠ K) : B_X7_advance_117 (nI (s + 1)) (nI K) (nI k) (nI s) f = some (nI e, nI K, nI s) := by
  refine lp_fromK (fun i => nI i) (s + 1) e _ (by omega) (by omega) (fun i h1 h2 => ?_) ?_
  · show L_X7_advance_117 (nI K) (nI k) (nI s) f (nI i) = _
    rw [L_X7_advance_117, if_neg (nle (by omega) (by omega)), ix_in (vp_in_nI (by omega) (by decide)), nI_clamp (by omega), (hB i (by omega)).2, q_kdC _ (hB i (by omega)).1, ob, hrun i (by omega) h2, if_pos rfl, nI_1]
  · show L_X7_advance_117 (nI K) (nI k) (nI s) f (nI e) = _
    rw [L_X7_advance_117]
    rcases Nat.lt_or_ge e k with h | h
    · have hb := q_kd_b (B e)
      rw [if_neg (nle h (by omega)), ix_in (vp_in_nI (by omega) (by decide)), nI_clamp (by omega), (hB e h).2, q_kdC _ (hB e h).1, ob, if_neg (fun c => by
        rcases he2 with h2 | h2
        · omega
        · exact h2 ((nI_eq (by omega) (by omega)).mp c))]
      rfl
    · rw [if_pos (nI_le (by omega) (by omega))]
      rfl
theorem q_256n {K : Nat} (hK : K ≤ 5) (h2 : K ≠ 2) (x : Int32) (vv : Int64) (s : Nat) : B_X9_next_256 x (nI s) (nI K) (nI k) vv g = some (x, nI s, nI K, vv) := by
  refine lp_runK (fun _ => (x, vv)) 0 _ (by omega) (fun j hj => by omega) ?_
  show L_X9_next_256 (nI s) (nI K) (nI k) g x vv = _
  rw [L_X9_next_256, if_neg (show ¬ nI K = (2 : Int32) from fun c => h2 ((nI_eq (a := K) (b := 2) (by omega) (by decide)).mp c))]
  rfl
theorem q_162n {K : Nat} (hK : K ≤ 5) (h1 : K ≠ 1) (x : Int32) (vv : Int64) (s : Nat) {t : Int32 × Int32 × Int32 × Int64} (ht : B_X9_next_256 x (nI s) (nI K) (nI k) vv g = some t) : lpN (fun z : Int32 × Int64 => L_X9_next_162 (nI s) (nI K) (nI k) g z.1 z.2) fuelK (x, vv) = some t := by
  refine lp_runK (fun _ => (x, vv)) 0 _ (by omega) (fun j hj => by omega) ?_
  show L_X9_next_162 (nI s) (nI K) (nI k) g x vv = _
  rw [L_X9_next_162, if_neg (show ¬ nI K = (1 : Int32) from fun c => h1 ((nI_eq (a := K) (b := 1) (by omega) (by decide)).mp c)), ht]
  rfl
theorem q_wordR (hk : k ≤ 200) (hB : ∀ j, j < k → B j < 256 ∧ g j = nI (B j)) {s e : Nat} (hse : s < e) (he : e ≤ k) (hrun : ∀ j, s ≤ j → j < e → q_kd (B j) = 1) (he2 : e = k ∨ q_kd (B e) ≠ 1) : lpN (fun z : Int32 × Int64 => L_X9_next_162 (nI s) (nI 1) (nI k) g z.1 z.2) fuelK (nI s, (0 : Int64)) = some (nI e, nI s, nI 1, q_wv2 B s (e - s)) := by
  have h0 : (nI s, (0 : Int64)) = (fun i => (nI i, q_wv2 B s (i - s))) s := by
    show (nI s, (0 : Int64)) = (nI s, q_wv2 B s (s - s))
    rw [Nat.sub_self]; rfl
  rw [h0]
  refine lp_fromK (fun i => (nI i, q_wv2 B s (i - s))) s e _ (by omega) (by omega) (fun i h1 h2 => ?_) ?_
  · show L_X9_next_162 (nI s) (nI 1) (nI k) g (nI i) (q_wv2 B s (i - s)) = some (Sum.inl (nI (i + 1), q_wv2 B s (i + 1 - s)))
    have hb := hB i (by omega)
    have hkd := q_kd1 (hrun i h1 h2)
    rw [L_X9_next_162, if_pos (show nI 1 = (1 : Int32) from rfl), if_neg (nle (by omega) (by omega)), ix_in (vp_in_nI (by omega) (by decide)), nI_clamp (by omega), hb.2, q_letR _ hb.1, ob, hrun i h1 h2, if_neg (show ¬ (if (1 : Nat) = 1 then (1 : Int32) else 0) = 0 by decide), pk_sub h1, B_X9_next_240, B_X9_next_240, nI_1]
    by_cases c : 8 ≤ i - s
    · rw [if_pos (show (8 : Int32) ≤ nI (i - s) from nI_le (a := 8) c (by omega)), q_wv2, if_neg (show ¬ i + 1 - s ≤ 8 by omega)]
    · rw [if_neg (show ¬ (8 : Int32) ≤ nI (i - s) from nle (a := 8) (by omega) (by decide)), ix_in (vp_in_nI (by omega) (by decide)), q_wv2, if_pos (show i - s ≤ 8 by omega), q_wv2, if_pos (show i + 1 - s ≤ 8 by omega), nI_l (by omega), show (32 : Int64) = lN 32 from rfl, show (96 : Int64) = lN 96 from rfl, lN_mul, lN_add, lN_sub (by omega), show i + 1 - s = (i - s) + 1 by omega, q_hv, show s + (i - s) = i by omega]
  · show L_X9_next_162 (nI s) (nI 1) (nI k) g (nI e) (q_wv2 B s (e - s)) = _
    rw [L_X9_next_162, if_pos (show nI 1 = (1 : Int32) from rfl), q_256n (by decide) (by decide)]
    rcases Nat.lt_or_ge e k with h | h
    · rw [if_neg (nle h (by omega)), ix_in (vp_in_nI (by omega) (by decide)), nI_clamp (by omega), (hB e h).2, q_letR _ (hB e h).1, ob]
      have hne : ¬ q_kd (B e) = 1 := by
        rcases he2 with h2 | h2
        · omega
        · exact h2
      rw [if_neg hne, if_pos rfl]
      rfl
    · rw [if_pos (nI_le (by omega) (by omega))]
      rfl
theorem q_figsR (hk : k ≤ 200) (hB : ∀ j, j < k → B j < 256 ∧ g j = nI (B j)) {s e : Nat} (hse : s < e) (he : e ≤ k) (hrun : ∀ j, s ≤ j → j < e → q_kd (B j) = 2) (he2 : e = k ∨ q_kd (B e) ≠ 2) : B_X9_next_256 (nI s) (nI s) (nI 2) (nI k) 0 g = some (nI e, nI s, nI 2, q_mv B s (e - s)) := by
  rw [B_X9_next_256]
  have h0 : (nI s, (0 : Int64)) = (fun i => (nI i, q_mv B s (i - s))) s := by
    show (nI s, (0 : Int64)) = (nI s, q_mv B s (s - s))
    rw [Nat.sub_self]; rfl
  rw [h0]
  refine lp_fromK (fun i => (nI i, q_mv B s (i - s))) s e _ (by omega) (by omega) (fun i h1 h2 => ?_) ?_
  · show L_X9_next_256 (nI s) (nI 2) (nI k) g (nI i) (q_mv B s (i - s)) = some (Sum.inl (nI (i + 1), q_mv B s (i + 1 - s)))
    have hb := hB i (by omega)
    have hkd := q_kd2 (hrun i h1 h2)
    rw [L_X9_next_256, if_pos (show nI 2 = (2 : Int32) from rfl), if_neg (nle (by omega) (by omega)), ix_in (vp_in_nI (by omega) (by decide)), nI_clamp (by omega), hb.2, q_figR _ hb.1, ob, hrun i h1 h2, if_neg (show ¬ (if (2 : Nat) = 2 then (1 : Int32) else 0) = 0 by decide), pk_sub h1, B_X9_next_333, B_X9_next_333, nI_1]
    by_cases c : 2 ≤ i - s
    · rw [if_pos (show (2 : Int32) ≤ nI (i - s) from nI_le (a := 2) c (by omega)), q_mv, if_neg (show ¬ i + 1 - s ≤ 2 by omega)]
    · rw [if_neg (show ¬ (2 : Int32) ≤ nI (i - s) from nle (a := 2) (by omega) (by decide)), ix_in (vp_in_nI (by omega) (by decide)), q_mv, if_pos (show i - s ≤ 2 by omega), q_mv, if_pos (show i + 1 - s ≤ 2 by omega), nI_l (by omega), show (10 : Int64) = lN 10 from rfl, show (48 : Int64) = lN 48 from rfl, lN_mul, lN_add, lN_sub (by omega), show i + 1 - s = (i - s) + 1 by omega, q_nv, show s + (i - s) = i by omega]
  · show L_X9_next_256 (nI s) (nI 2) (nI k) g (nI e) (q_mv B s (e - s)) = _
    rw [L_X9_next_256, if_pos (show nI 2 = (2 : Int32) from rfl)]
    rcases Nat.lt_or_ge e k with h | h
    · rw [if_neg (nle h (by omega)), ix_in (vp_in_nI (by omega) (by decide)), nI_clamp (by omega), (hB e h).2, q_figR _ (hB e h).1, ob]
      have hne : ¬ q_kd (B e) = 2 := by
        rcases he2 with h2 | h2
        · omega
        · exact h2
      rw [if_neg hne, if_pos rfl]
      rfl
    · rw [if_pos (nI_le (by omega) (by omega))]
      rfl
/-- both read the same token -/
theorem q_tok (hk : k ≤ 200) (hB : ∀ j, j < k → B j < 256 ∧ f j = nI (B j)) (hG : ∀ j, j < k → B j < 256 ∧ g j = nI (B j)) {a : Nat} (ha : a ≤ k) :
    ∃ s e K, q_tk k B a s e K ∧ (∀ vk vs, M_X7_advance (nI a) vk (nI k) vs f = some (nI e, nI K, nI s)) ∧ ∀ vb vk vv, ∃ x v, M_X9_next (nI a) vb vk (nI k) vv g = some (x, nI s, nI K, v) ∧ (K ≠ 5 → x = nI e) ∧ (K = 1 → v = q_wv2 B s (e - s)) ∧ (K = 2 → v = q_mv B s (e - s)) := by
  obtain ⟨s, ⟨has, hs2⟩, hsl⟩ := pk_least (fun s => a ≤ s ∧ (s = k ∨ B s ≠ 32)) ⟨k, ha, Or.inl rfl⟩
  have hsk : s ≤ k := by
    rcases Nat.lt_or_ge k s with h | h
    · exact absurd ⟨ha, Or.inl rfl⟩ (hsl k h)
    · exact h
  have hbl : ∀ j, a ≤ j → j < s → B j = 32 := fun j h1 h2 => by
    by_cases c : B j = 32
    · exact c
    · exact absurd ⟨h1, Or.inr c⟩ (hsl j h2)
  rcases Nat.lt_or_ge s k with hlt | hge
  · -- a sign
    have hb := hB s hlt
    have hg := hG s hlt
    have hkb := q_kd_b (B s)
    have n1 : ∀ n : Nat, n < 256 → (nI (B s) = nI n ↔ B s = n) := fun n hn => nI_eq (by omega) (by omega)
    have e46 : ∀ vk, B_X7_advance_46 (nI a) vk (nI k) (nI s) f = B_X7_advance_98 (nI (s + 1)) (nI a) (nI (q_kd (B s))) (nI k) (nI s) f := fun vk => by
      rw [B_X7_advance_46, if_neg (nle hlt (by omega)), ix_in (vp_in_nI (by omega) (by decide)), nI_clamp (by omega), hb.2, q_kdC _ hb.1, ob, B_X7_advance_74, if_neg (nI_ne0 (by omega) (by omega)), nI_1]
    have e38 : ∀ vb vk vv, B_X9_next_38 (nI s) vb vk (nI k) vv g = B_X9_next_129 (nI (q_kd (B s))) (nI s) (nI s) vk (nI k) 0 g := fun vb vk vv => by
      rw [B_X9_next_38, if_neg (nle hlt (by omega)), ix_in (vp_in_nI (by omega) (by decide)), nI_clamp (by omega), hg.2, B_X9_next_75, if_neg (q_nm1 (by omega)), q_letR _ hg.1, ob, q_figR _ hg.1]
      rcases (show q_kd (B s) = 1 ∨ q_kd (B s) = 2 ∨ q_kd (B s) = 3 ∨ q_kd (B s) = 4 ∨ q_kd (B s) = 5 by omega) with h | h | h | h | h
      · rw [h, if_neg (show ¬ (if (1 : Nat) = 1 then (1 : Int32) else 0) = 0 by decide), show nI 1 = (1 : Int32) from rfl]
      · rw [h, if_pos (show (if (2 : Nat) = 1 then (1 : Int32) else 0) = 0 by decide), ob, if_neg (show ¬ (if (2 : Nat) = 2 then (1 : Int32) else 0) = 0 by decide), show nI 2 = (2 : Int32) from rfl]
      · have hx := q_kd3.1 h
        rw [h, if_pos (show (if (3 : Nat) = 1 then (1 : Int32) else 0) = 0 by decide), ob, if_pos (show (if (3 : Nat) = 2 then (1 : Int32) else 0) = 0 by decide), if_pos (show nI (B s) = (45 : Int32) by rw [hx]; rfl), show nI 3 = (3 : Int32) from rfl]
      · have hx := q_kd3.2.1 h
        rw [h, if_pos (show (if (4 : Nat) = 1 then (1 : Int32) else 0) = 0 by decide), ob, if_pos (show (if (4 : Nat) = 2 then (1 : Int32) else 0) = 0 by decide), if_neg (show ¬ nI (B s) = (45 : Int32) by rw [hx]; decide), if_pos (show nI (B s) = (59 : Int32) by rw [hx]; rfl), show nI 4 = (4 : Int32) from rfl]
      · have hx := q_kd3.2.2 h
        rw [h, if_pos (show (if (5 : Nat) = 1 then (1 : Int32) else 0) = 0 by decide), ob, if_pos (show (if (5 : Nat) = 2 then (1 : Int32) else 0) = 0 by decide), if_neg (show ¬ nI (B s) = (45 : Int32) from fun h => hx.1 ((n1 45 (by decide)).mp h)), if_neg (show ¬ nI (B s) = (59 : Int32) from fun h => hx.2 ((n1 59 (by decide)).mp h)), show nI 5 = (5 : Int32) from rfl]
    have kn : ∀ n : Nat, n < 9 → (nI (q_kd (B s)) = nI n ↔ q_kd (B s) = n) := fun n hn => nI_eq (by omega) (by omega)
    have lst : ∀ K, q_kd (B s) = K → ∃ e, s < e ∧ e ≤ k ∧ (∀ j, s ≤ j → j < e → q_kd (B j) = K) ∧ (e = k ∨ q_kd (B e) ≠ K) := fun K hK => by
      obtain ⟨e, ⟨h1, h2⟩, h3⟩ := pk_least (fun e => s < e ∧ (e = k ∨ q_kd (B e) ≠ K)) ⟨k, hlt, Or.inl rfl⟩
      refine ⟨e, h1, ?_, fun j h4 h5 => ?_, h2⟩
      · rcases Nat.lt_or_ge k e with h | h
        · exact absurd ⟨hlt, Or.inl rfl⟩ (h3 k h)
        · exact h
      · rcases Nat.lt_or_ge s j with h6 | h6
        · by_cases c : q_kd (B j) = K
          · exact c
          · exact absurd ⟨h6, Or.inr c⟩ (h3 j h5)
        · have : j = s := by omega
          rw [this]; exact hK
    by_cases k1 : q_kd (B s) = 1
    · obtain ⟨e, h1, h2, h3, h4⟩ := lst 1 k1
      refine ⟨s, e, 1, ⟨has, by omega, h2, by decide, fun h => by omega, fun _ => h1, fun _ => h3, fun h => by omega⟩, fun vk vs => ?_, fun vb vk vv => ⟨nI e, q_wv2 B s (e - s), ?_, fun _ => rfl, fun _ => rfl, fun h => by omega⟩⟩
      · refine q_skC hk hB has hsk hbl hs2 vk vs ?_
        rw [e46, k1, B_X7_advance_98, if_pos (show nI 1 = (1 : Int32) from rfl), q_runC hk hB h1 h2 (by decide) h3 h4]
      · refine q_skR hk hG has hsk hbl hs2 vb vk vv ?_
        rw [e38, k1, B_X9_next_129, if_neg (show ¬ nI 1 = (3 : Int32) by decide), if_neg (show ¬ nI 1 = (4 : Int32) by decide), B_X9_next_158, Int32.add_zero, q_wordR hk hG h1 h2 h3 h4]
    · by_cases k2 : q_kd (B s) = 2
      · obtain ⟨e, h1, h2, h3, h4⟩ := lst 2 k2
        refine ⟨s, e, 2, ⟨has, by omega, h2, by decide, fun h => by omega, fun _ => h1, fun h => by omega, fun _ => h3⟩, fun vk vs => ?_, fun vb vk vv => ⟨nI e, q_mv B s (e - s), ?_, fun _ => rfl, fun h => by omega, fun _ => rfl⟩⟩
        · refine q_skC hk hB has hsk hbl hs2 vk vs ?_
          rw [e46, k2, B_X7_advance_98, if_neg (show ¬ nI 2 = (1 : Int32) by decide), if_pos (show nI 2 = (2 : Int32) from rfl), q_runC hk hB h1 h2 (by decide) h3 h4]
        · refine q_skR hk hG has hsk hbl hs2 vb vk vv ?_
          rw [e38, k2, B_X9_next_129, if_neg (show ¬ nI 2 = (3 : Int32) by decide), if_neg (show ¬ nI 2 = (4 : Int32) by decide), B_X9_next_158, Int32.add_zero]
          exact q_162n (by decide) (by decide) _ _ s (q_figsR hk hG h1 h2 h3 h4)
      · have hC : ∀ vk vs, M_X7_advance (nI a) vk (nI k) vs f = some (nI (s + 1), nI (q_kd (B s)), nI s) := fun vk vs => by
          refine q_skC hk hB has hsk hbl hs2 vk vs ?_
          rw [e46, B_X7_advance_98, if_neg (show ¬ nI (q_kd (B s)) = (1 : Int32) from fun h => k1 ((kn 1 (by decide)).mp h)), if_neg (show ¬ nI (q_kd (B s)) = (2 : Int32) from fun h => k2 ((kn 2 (by decide)).mp h))]
        have fin : ∀ x : Int32, lpN (fun z : Int32 × Int64 => L_X9_next_162 (nI s) (nI (q_kd (B s))) (nI k) g z.1 z.2) fuelK (x, 0) = some (x, nI s, nI (q_kd (B s)), 0) := fun x => q_162n (by omega) k1 _ _ s (q_256n (by omega) k2 _ _ s)
        refine ⟨s, s + 1, q_kd (B s), ⟨has, by omega, by omega, by omega, fun h => by omega, fun _ => by omega, fun h => absurd h k1, fun h => absurd h k2⟩, hC, fun vb vk vv => ?_⟩
        by_cases k34 : q_kd (B s) = 3 ∨ q_kd (B s) = 4
        · refine ⟨nI (s + 1), 0, ?_, fun _ => rfl, fun h => absurd h k1, fun h => absurd h k2⟩
          refine q_skR hk hG has hsk hbl hs2 vb vk vv ?_
          rw [e38, B_X9_next_129, B_X9_next_153, B_X9_next_158, nI_1, fin]
          by_cases k3 : q_kd (B s) = 3
          · rw [if_pos (show nI (q_kd (B s)) = (3 : Int32) by rw [k3]; rfl)]
          · have k4 : q_kd (B s) = 4 := by omega
            rw [if_neg (show ¬ nI (q_kd (B s)) = (3 : Int32) from fun h => k3 ((kn 3 (by decide)).mp h)), if_pos (show nI (q_kd (B s)) = (4 : Int32) by rw [k4]; rfl)]
        · refine ⟨nI s, 0, ?_, fun h => by omega, fun h => absurd h k1, fun h => absurd h k2⟩
          refine q_skR hk hG has hsk hbl hs2 vb vk vv ?_
          rw [e38, B_X9_next_129, if_neg (show ¬ nI (q_kd (B s)) = (3 : Int32) from fun h => k34 (Or.inl ((kn 3 (by decide)).mp h))), if_neg (show ¬ nI (q_kd (B s)) = (4 : Int32) from fun h => k34 (Or.inr ((kn 4 (by decide)).mp h))), B_X9_next_158, Int32.add_zero, fin]
  · have hsk2 : s = k := by omega
    refine ⟨k, k, 0, ⟨ha, Nat.le_refl k, Nat.le_refl k, by decide, fun _ => ⟨rfl, rfl⟩, fun h => absurd rfl h, fun h => by omega, fun h => by omega⟩, fun vk vs => ?_, fun vb vk vv => ⟨nI k, 0, ?_, fun _ => rfl, fun h => by omega, fun h => by omega⟩⟩
    · refine q_skC hk hB has hsk hbl hs2 vk vs ?_
      rw [hsk2, B_X7_advance_46, if_pos (nI_le (Nat.le_refl k) (by omega)), B_X7_advance_74, if_pos rfl, B_X7_advance_98, if_neg (by decide), if_neg (by decide)]
      rfl
    · refine q_skR hk hG has hsk hbl hs2 vb vk vv ?_
      rw [hsk2, B_X9_next_38, if_pos (nI_le (Nat.le_refl k) (by omega)), B_X9_next_75, if_pos rfl, B_X9_next_129, if_neg (by decide), if_neg (by decide), B_X9_next_158, Int32.add_zero]
      exact q_162n (K := 0) (by decide) (by decide) _ _ k (q_256n (by decide) (by decide) _ _ k)
end TK
