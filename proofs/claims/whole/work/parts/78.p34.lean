/-! rows -/
def q_mx (f : Nat → Nat) : Nat → Nat
  | 0 => 0
  | m + 1 => max (q_mx f m) (f m)
theorem q_mx_cg {f g : Nat → Nat} : ∀ {m : Nat}, (∀ j, j < m → f j = g j) → q_mx f m = q_mx g m := by
  intro m
  induction m with
  | zero => intro _; rfl
  | succ m ih => intro h; rw [q_mx, q_mx, ih (fun j hj => h j (by omega)), h m (by omega)]
theorem q_mx_le {f : Nat → Nat} {b : Nat} : ∀ {m : Nat}, (∀ j, j < m → f j ≤ b) → q_mx f m ≤ b := by
  intro m
  induction m with
  | zero => intro _; exact Nat.zero_le b
  | succ m ih =>
    intro h
    have h1 := ih (fun j hj => h j (by omega))
    have h2 := h m (by omega)
    rw [q_mx]
    omega
theorem q_mx_one {f g : Nat → Nat} {i : Nat} : ∀ {m : Nat}, i < m → f i = 0 → (∀ j, j < m → j ≠ i → g j = f j) → q_mx g m = max (q_mx f m) (g i) := by
  intro m
  induction m with
  | zero => intro h; omega
  | succ m ih =>
    intro hi h0 h
    rw [q_mx, q_mx]
    by_cases c : i = m
    · subst c
      rw [q_mx_cg (f := g) (g := f) (fun j hj => h j (by omega) (by omega)), h0]
      omega
    · rw [ih (by omega) h0 (fun j hj => h j (by omega)), h m (by omega) (by omega)]
      omega
theorem q_mx_z {f : Nat → Nat} : ∀ {m : Nat}, (∀ j, j < m → f j = 0) → q_mx f m = 0 := by
  intro m h
  have := q_mx_le (f := f) (b := 0) (m := m) (fun j hj => by rw [h j hj]; exact Nat.le_refl 0)
  omega
def q_wi (a b : Nat) : Bool := a != b && (a &&& b) == a
def q_D (S : Nat → Nat) (k : Nat) : Nat → Nat → Nat
  | 0, _ => 0
  | s + 1, i => 1 + q_mx (fun j => if q_wi (S j) (S i) = true then q_D S k s j else 0) k
theorem q_pcs {a b : Nat} (h : (a &&& b) = a) : pc a ≤ pc b ∧ (pc a = pc b → ∀ i, i < 8 → a.testBit i = b.testBit i) := by
  have hb : ∀ i, (a.testBit i).toNat ≤ (b.testBit i).toNat := fun i => by
    have h2 := congrArg (fun x => x.testBit i) h
    simp only [Nat.testBit_and] at h2
    cases h3 : a.testBit i <;> cases h4 : b.testBit i <;> simp [h3, h4] at h2 ⊢
  have b0 := hb 0
  have b1 := hb 1
  have b2 := hb 2
  have b3 := hb 3
  have b4 := hb 4
  have b5 := hb 5
  have b6 := hb 6
  have b7 := hb 7
  have tn : ∀ x y : Bool, x.toNat = y.toNat → x = y := by decide
  unfold pc
  refine ⟨by omega, fun he i hi => ?_⟩
  rcases (show i = 0 ∨ i = 1 ∨ i = 2 ∨ i = 3 ∨ i = 4 ∨ i = 5 ∨ i = 6 ∨ i = 7 by omega) with rfl | rfl | rfl | rfl | rfl | rfl | rfl | rfl <;> (apply tn; omega)
theorem q_wi_lt {a b : Nat} (ha : a < 256) (hb : b < 256) (h : q_wi a b = true) : pc a < pc b := by
  unfold q_wi at h
  rw [Bool.and_eq_true, bne_iff_ne, beq_iff_eq] at h
  obtain ⟨h1, h2⟩ := h
  obtain ⟨h3, h4⟩ := q_pcs h2
  rcases Nat.lt_or_ge (pc a) (pc b) with h5 | h5
  · exact h5
  · exfalso
    apply h1
    apply Nat.eq_of_testBit_eq
    intro i
    rcases Nat.lt_or_ge i 8 with h6 | h6
    · exact h4 (by omega) i h6
    · have h7 : 2 ^ 8 ≤ 2 ^ i := Nat.pow_le_pow_right (by decide) h6
      rw [Nat.testBit_lt_two_pow (show a < 2 ^ i by omega), Nat.testBit_lt_two_pow (show b < 2 ^ i by omega)]
theorem q_wi_nst {a b : Nat} (ha : a < 256) (hb : b < 256) : q_wi a b = (decide (pc a < pc b) && q_nst b a) := by
  cases h : q_wi a b with
  | true =>
    rw [decide_eq_true (q_wi_lt ha hb h), q_nst_comm]
    unfold q_wi at h
    rw [Bool.and_eq_true] at h
    unfold q_nst
    rw [h.1, h.2]; rfl
  | false =>
    symm
    rw [Bool.and_eq_false_iff]
    by_cases c : pc a < pc b
    · right
      cases h2 : q_nst b a with
      | false => rfl
      | true =>
        rw [q_nst_comm] at h2
        unfold q_nst at h2
        unfold q_wi at h
        rw [Bool.and_eq_true, Bool.or_eq_true] at h2
        rw [h2.1, Bool.true_and] at h
        rcases h2.2 with h3 | h3
        · rw [h] at h3; cases h3
        · rw [beq_iff_eq, Nat.and_comm] at h3
          have := (q_pcs h3).1
          omega
    · exact Or.inl (decide_eq_false c)
section RW
variable {k : Nat} {S : Nat → Nat}
theorem q_D_le : ∀ s i, q_D S k s i ≤ s := by
  intro s
  induction s with
  | zero => intro i; exact Nat.le_refl 0
  | succ s ih =>
    intro i
    rw [q_D]
    have := q_mx_le (f := fun j => if q_wi (S j) (S i) = true then q_D S k s j else 0) (b := s) (m := k) (fun j _ => by
      show (if q_wi (S j) (S i) = true then q_D S k s j else 0) ≤ s
      split
      · exact ih j
      · exact Nat.zero_le s)
    omega
theorem q_D_st (hS : ∀ j, j < k → S j < 256) : ∀ s i, i < k → pc (S i) < s → q_D S k s i = q_D S k (s + 1) i := by
  intro s
  induction s with
  | zero => intro i _ h; omega
  | succ s ih =>
    intro i hi h
    rw [q_D, q_D]
    congr 1
    apply q_mx_cg
    intro j hj
    cases hw : q_wi (S j) (S i) with
    | false => rfl
    | true =>
      have h1 := q_wi_lt (hS j hj) (hS i hi) hw
      rw [if_pos rfl, if_pos rfl]
      exact ih j hj (by omega)
/-- the longest row that ends in a box -/
def q_d (S : Nat → Nat) (k : Nat) (i : Nat) : Nat := q_D S k 9 i
theorem q_d_eq (hS : ∀ j, j < k → S j < 256) {i : Nat} (hi : i < k) : q_d S k i = 1 + q_mx (fun j => if q_wi (S j) (S i) = true then q_d S k j else 0) k := by
  have hp : pc (S i) ≤ 8 := pc_le 8 (by decide) _ (hS i hi)
  rw [q_d, q_D_st hS 9 i hi (by omega), q_D]
  rfl
theorem q_d_le (i : Nat) : q_d S k i ≤ 9 := q_D_le 9 i
def q_pr (S : Nat → Nat) (s i j : Nat) : Bool := decide (pc (S j) < s) || (decide (pc (S j) = s) && decide (j < i))
def q_v (S : Nat → Nat) (k s i : Nat) : Nat := q_mx (fun j => if q_pr S s i j = true then q_d S k j else 0) k
theorem q_v_le (s i : Nat) : q_v S k s i ≤ 9 := q_mx_le (fun j _ => by
  show (if q_pr S s i j = true then q_d S k j else 0) ≤ 9
  split
  · exact q_d_le j
  · omega)
theorem q_pr_n {s i j : Nat} (h : ¬ pc (S i) = s) : q_pr S s (i + 1) j = q_pr S s i j := by
  unfold q_pr
  by_cases c : j = i
  · subst c; rw [decide_eq_false h]; rfl
  · by_cases c2 : j < i
    · rw [decide_eq_true c2, decide_eq_true (show j < i + 1 by omega)]
    · rw [decide_eq_false c2, decide_eq_false (show ¬ j < i + 1 by omega)]
theorem q_v_n {s i : Nat} (h : ¬ pc (S i) = s) : q_v S k s (i + 1) = q_v S k s i := q_mx_cg (fun j _ => by
  show (if q_pr S s (i + 1) j = true then q_d S k j else 0) = if q_pr S s i j = true then q_d S k j else 0
  rw [q_pr_n h])
theorem q_pr_o {s i j : Nat} (c : j ≠ i) : q_pr S s (i + 1) j = q_pr S s i j := by
  unfold q_pr
  by_cases c2 : j < i
  · rw [decide_eq_true c2, decide_eq_true (show j < i + 1 by omega)]
  · rw [decide_eq_false c2, decide_eq_false (show ¬ j < i + 1 by omega)]
theorem q_v_y {s i : Nat} (hi : i < k) (h : pc (S i) = s) : q_v S k s (i + 1) = max (q_v S k s i) (q_d S k i) := by
  have h1 : q_pr S s (i + 1) i = true := by unfold q_pr; rw [decide_eq_true h, decide_eq_true (Nat.lt_succ_self i)]; simp
  have h2 : q_pr S s i i = false := by unfold q_pr; rw [decide_eq_false (show ¬ pc (S i) < s by omega), decide_eq_false (Nat.lt_irrefl i)]; simp
  have := q_mx_one (f := fun j => if q_pr S s i j = true then q_d S k j else 0) (g := fun j => if q_pr S s (i + 1) j = true then q_d S k j else 0) hi (by show (if q_pr S s i i = true then q_d S k i else 0) = 0; rw [h2]; rfl) (fun j _ hj => by
    show (if q_pr S s (i + 1) j = true then q_d S k j else 0) = if q_pr S s i j = true then q_d S k j else 0
    rw [q_pr_o hj])
  rw [h1, if_pos rfl] at this
  exact this
theorem q_v_k (s : Nat) : q_v S k s k = q_v S k (s + 1) 0 := q_mx_cg (fun j hj => by
  show (if q_pr S s k j = true then q_d S k j else 0) = if q_pr S (s + 1) 0 j = true then q_d S k j else 0
  have : q_pr S s k j = q_pr S (s + 1) 0 j := by
    unfold q_pr
    rw [decide_eq_true hj, decide_eq_false (Nat.not_lt_zero j)]
    by_cases c1 : pc (S j) < s
    · rw [decide_eq_true c1, decide_eq_true (show pc (S j) < s + 1 by omega)]; simp
    · by_cases c2 : pc (S j) = s
      · rw [decide_eq_true c2, decide_eq_true (show pc (S j) < s + 1 by omega)]; simp
      · rw [decide_eq_false c1, decide_eq_false c2, decide_eq_false (show ¬ pc (S j) < s + 1 by omega)]; simp
  rw [this])
theorem q_v_0 : q_v S k 0 0 = 0 := q_mx_z (fun j _ => by
  show (if q_pr S 0 0 j = true then q_d S k j else 0) = 0
  have : q_pr S 0 0 j = false := by unfold q_pr; simp
  rw [this]; rfl)
theorem q_mxI {a b : Nat} (ha : a < 2 ^ 31) (hb : b < 2 ^ 31) : (if nI a < nI b then nI b else nI a) = nI (max a b) := by
  by_cases h : a < b
  · rw [if_pos (nI_lt h hb), show max a b = b by omega]
  · rw [if_neg (nI_nlt (by omega) ha), show max a b = a by omega]
theorem q_lbC (hk : k ≤ 16) (hS : ∀ j, j < k → S j < 256) {sets f : Nat → Int32} (hs : ∀ j, j < k → sets j = nI (S j)) {i : Nat} (hi : i < k) (hf : ∀ j, j < k → q_wi (S j) (S i) = true → f j = nI (q_d S k j)) : M_X8_longestBelow f (nI k) sets (nI i) = some (nI (q_mx (fun j => if q_wi (S j) (S i) = true then q_d S k j else 0) k)) := by
  refine lp_runK (fun j => (nI (q_mx (fun j => if q_wi (S j) (S i) = true then q_d S k j else 0) j), nI j)) k _ (by omega) (fun j hj => ?_) ?_
  · show L_X8_longestBelow_4 (nI i) f (nI k) sets (nI (q_mx (fun j => if q_wi (S j) (S i) = true then q_d S k j else 0) j)) (nI j) = some (Sum.inl (nI (max (q_mx (fun j => if q_wi (S j) (S i) = true then q_d S k j else 0) j) (if q_wi (S j) (S i) = true then q_d S k j else 0)), nI (j + 1)))
    have hle : q_mx (fun j => if q_wi (S j) (S i) = true then q_d S k j else 0) j ≤ 9 := q_mx_le (fun l _ => by
      show (if q_wi (S l) (S i) = true then q_d S k l else 0) ≤ 9
      split
      · exact q_d_le l
      · omega)
    have hd := q_d_le (S := S) (k := k) j
    rw [L_X8_longestBelow_4, if_neg (nle hj (by omega)), ix_in (vp_in_nI (by omega) (by decide)), ix_in (vp_in_nI (by omega) (by decide)), nI_clamp (by omega), nI_clamp (by omega), hs j hj, hs i hi, q_withC (hS j hj) (hS i hi), ob, nI_1]
    cases hw : q_wi (S j) (S i) with
    | true =>
      have h2 := hw
      unfold q_wi at h2
      rw [Bool.and_eq_true, bne_iff_ne, beq_iff_eq] at h2
      rw [if_pos h2, if_neg (show ¬ (1 : Int32) = 0 by decide), ix_in (vp_in_nI (by omega) (by decide)), hf j hj hw, q_mxI (by omega) (by omega), if_pos rfl]
    | false =>
      rw [if_neg (show ¬ (S j ≠ S i ∧ (S j &&& S i) = S j) from fun h => by
        have : q_wi (S j) (S i) = true := by
          unfold q_wi
          rw [Bool.and_eq_true, bne_iff_ne, beq_iff_eq]; exact h
        rw [hw] at this; cases this), if_pos rfl, if_neg q_ff, Nat.max_zero]
  · show L_X8_longestBelow_4 (nI i) f (nI k) sets _ (nI k) = _
    rw [L_X8_longestBelow_4, if_pos (nI_le (Nat.le_refl k) (by omega))]
    rfl
theorem q_pr_w (hS : ∀ j, j < k → S j < 256) {s i j : Nat} (hi : i < k) (hj : j < k) (h : pc (S i) = s) (hw : q_wi (S j) (S i) = true) : q_pr S s i j = true := by
  have := q_wi_lt (hS j hj) (hS i hi) hw
  unfold q_pr
  rw [decide_eq_true (show pc (S j) < s by omega)]; rfl
theorem q_lrC (hk : k ≤ 16) (hS : ∀ j, j < k → S j < 256) {sets : Nat → Int32} (hs : ∀ j, j < k → sets j = nI (S j)) (f0 : Nat → Int32) : ∃ f, M_X8_longestRow f0 (nI k) sets = some (nI (q_v S k 9 0), f) := by
  have inner : ∀ s, s < 9 → ∀ f, (∀ j, j < k → q_pr S s 0 j = true → f j = nI (q_d S k j)) → ∃ g, lpN (fun z : Int32 × Int32 × (Nat → Int32) => L_X8_longestRow_12 (nI s) (nI k) sets z.1 z.2.1 z.2.2) fuelK (nI (q_v S k s 0), (0 : Int32), f) = some (Sum.inl (nI (q_v S k (s + 1) 0), nI (s + 1), g)) ∧ ∀ j, j < k → q_pr S (s + 1) 0 j = true → g j = nI (q_d S k j) := by
    intro s hs9 f hf
    obtain ⟨t, et, g, rfl, hg⟩ := lp_invK (body := fun z : Int32 × Int32 × (Nat → Int32) => L_X8_longestRow_12 (nI s) (nI k) sets z.1 z.2.1 z.2.2)
      (fun i z => ∃ f, z = (nI (q_v S k s i), nI i, f) ∧ ∀ j, j < k → q_pr S s i j = true → f j = nI (q_d S k j))
      (fun t => ∃ g, t = Sum.inl (nI (q_v S k (s + 1) 0), nI (s + 1), g) ∧ ∀ j, j < k → q_pr S (s + 1) 0 j = true → g j = nI (q_d S k j)) k (by omega) (by
      rintro i z hi ⟨f, rfl, hf⟩
      have hp : pc (S i) ≤ 8 := pc_le 8 (by decide) _ (hS i hi)
      have hin : vp_in (nI i) 16 := vp_in_nI (by omega) (by decide)
      left
      by_cases c : pc (S i) = s
      · refine ⟨(nI (q_v S k s (i + 1)), nI (i + 1), upd f i (nI (q_d S k i))), ?_, _, rfl, fun j hj hpr => ?_⟩
        · show L_X8_longestRow_12 (nI s) (nI k) sets (nI (q_v S k s i)) (nI i) f = _
          have hv := q_v_le (S := S) (k := k) s i
          have hd := q_d_le (S := S) (k := k) i
          rw [L_X8_longestRow_12, if_neg (nle hi (by omega)), ix_in hin, nI_clamp (by omega), hs i hi, (pc_ok _ (hS i hi)).1, ob, if_pos (by rw [c]), q_lbC hk hS hs hi (fun j hj hw => hf j hj (q_pr_w hS hi hj c hw)), ob, ix_in hin, ix_in hin, pk_us, show (1 : Int32) = nI 1 from rfl, nI_add, ← q_d_eq hS hi, q_mxI (by omega) (by omega), nI_add, q_v_y hi c]
        · by_cases c2 : j = i
          · subst c2; exact pk_us
          · rw [pk_un c2]; exact hf j hj (by rw [← q_pr_o c2]; exact hpr)
      · refine ⟨(nI (q_v S k s (i + 1)), nI (i + 1), f), ?_, _, rfl, fun j hj hpr => hf j hj (by rw [← q_pr_n c]; exact hpr)⟩
        show L_X8_longestRow_12 (nI s) (nI k) sets (nI (q_v S k s i)) (nI i) f = _
        rw [L_X8_longestRow_12, if_neg (nle hi (by omega)), ix_in hin, nI_clamp (by omega), hs i hi, (pc_ok _ (hS i hi)).1, ob, if_neg (fun h => c ((nI_eq (by omega) (by omega)).mp h)), nI_1, q_v_n c]) (by
      rintro z ⟨f, rfl, hf⟩
      refine ⟨_, ?_, f, rfl, fun j hj hpr => hf j hj ?_⟩
      · show L_X8_longestRow_12 (nI s) (nI k) sets (nI (q_v S k s k)) (nI k) f = _
        rw [L_X8_longestRow_12, if_pos (nI_le (Nat.le_refl k) (by omega)), nI_1, q_v_k]
        rfl
      · have : q_pr S s k j = q_pr S (s + 1) 0 j := by
          unfold q_pr
          rw [decide_eq_true hj, decide_eq_false (Nat.not_lt_zero j)]
          by_cases c1 : pc (S j) < s
          · rw [decide_eq_true c1, decide_eq_true (show pc (S j) < s + 1 by omega)]; simp
          · by_cases c2 : pc (S j) = s
            · rw [decide_eq_true c2, decide_eq_true (show pc (S j) < s + 1 by omega)]; simp
            · rw [decide_eq_false c1, decide_eq_false c2, decide_eq_false (show ¬ pc (S j) < s + 1 by omega)]; simp
        rw [this]; exact hpr) (nI (q_v S k s 0), (0 : Int32), f) ⟨f, rfl, hf⟩
    exact ⟨g, et, hg⟩
  obtain ⟨t, et, f, rfl⟩ := lp_invK (body := fun z : Int32 × Int32 × (Nat → Int32) => L_X8_longestRow_4 (nI k) sets z.1 z.2.1 z.2.2)
    (fun s z => ∃ f, z = (nI (q_v S k s 0), nI s, f) ∧ ∀ j, j < k → q_pr S s 0 j = true → f j = nI (q_d S k j)) (fun t => ∃ f, t = (nI (q_v S k 9 0), f)) 9 (by omega) (by
    rintro s z hs9 ⟨f, rfl, hf⟩
    obtain ⟨g, eg, hg⟩ := inner s hs9 f hf
    refine Or.inl ⟨(nI (q_v S k (s + 1) 0), nI (s + 1), g), ?_, g, rfl, hg⟩
    show L_X8_longestRow_4 (nI k) sets (nI (q_v S k s 0)) (nI s) f = _
    rw [L_X8_longestRow_4, if_neg (show ¬ (8 : Int32) < nI s from nI_nlt (a := 8) (by omega) (by decide)), eg]) (by
    rintro z ⟨f, rfl, hf⟩
    refine ⟨_, ?_, f, rfl⟩
    show L_X8_longestRow_4 (nI k) sets (nI (q_v S k 9 0)) (nI 9) f = _
    rw [L_X8_longestRow_4, if_pos (show (8 : Int32) < nI 9 by decide)]
    rfl) ((0 : Int32), (0 : Int32), f0) ⟨f0, by rw [q_v_0]; rfl, fun j _ h => by
      have : q_pr S 0 0 j = false := by unfold q_pr; simp
      rw [this] at h; cases h⟩
  exact ⟨f, et⟩
/-! the reference -/
theorem q_lbR (hk : k ≤ 16) (hS : ∀ j, j < k → S j < 256) {box : Nat → Int32} (hs : ∀ j, j < k → box j = nI (S j)) {s i : Nat} (hi : i < k) (hc : pc (S i) = s) {f : Nat → Int32} (hf : ∀ j, j < k → q_wi (S j) (S i) = true → f j = nI (q_d S k j)) (hfi : f i = nI 1) (v fe ft vh it la vl mo mm ms vn rs ri wh : Int32) (bars may near refused worth : Nat → Int32) :
    ∃ g, lpN (fun z : Int32 × (Nat → Int32) => L_X9_rows_90 (nI (q_v S k s i)) (nI s) (nI i) (nI k) fe ft vh it la vl mo mm ms vn rs ri wh bars box may near refused worth z.1 z.2) fuelK ((0 : Int32), f) = some (Sum.inl (nI (q_v S k s (i + 1)), nI (i + 1), g)) ∧ g i = nI (q_d S k i) ∧ ∀ j, j ≠ i → g j = f j := by
  have hp : pc (S i) ≤ 8 := pc_le 8 (by decide) _ (hS i hi)
  have h17 : vp_in (nI i) 17 := vp_in_nI (by omega) (by decide)
  have h16 : vp_in (nI i) 16 := vp_in_nI (by omega) (by decide)
  have hle : ∀ j, q_mx (fun j => if q_wi (S j) (S i) = true then q_d S k j else 0) j ≤ 9 := fun j => q_mx_le (fun l _ => by
    show (if q_wi (S l) (S i) = true then q_d S k l else 0) ≤ 9
    split
    · exact q_d_le l
    · omega)
  obtain ⟨t, et, g, rfl, h1, h2⟩ := lp_invK (body := fun z : Int32 × (Nat → Int32) => L_X9_rows_90 (nI (q_v S k s i)) (nI s) (nI i) (nI k) fe ft vh it la vl mo mm ms vn rs ri wh bars box may near refused worth z.1 z.2)
    (fun j z => ∃ g, z = (nI j, g) ∧ g i = nI (1 + q_mx (fun j => if q_wi (S j) (S i) = true then q_d S k j else 0) j) ∧ ∀ l, l ≠ i → g l = f l)
    (fun t => ∃ g, t = Sum.inl (nI (q_v S k s (i + 1)), nI (i + 1), g) ∧ g i = nI (q_d S k i) ∧ ∀ j, j ≠ i → g j = f j) k (by omega) (by
    rintro j z hj ⟨g, rfl, hgi, hgo⟩
    have hpj : pc (S j) ≤ 8 := pc_le 8 (by decide) _ (hS j hj)
    have hj16 : vp_in (nI j) 16 := vp_in_nI (by omega) (by decide)
    have hj17 : vp_in (nI j) 17 := vp_in_nI (by omega) (by decide)
    have hl := hle j
    have hd := q_d_le (S := S) (k := k) j
    have hw := q_wi_nst (hS j hj) (hS i hi)
    left
    show ∃ z', L_X9_rows_90 (nI (q_v S k s i)) (nI s) (nI i) (nI k) fe ft vh it la vl mo mm ms vn rs ri wh bars box may near refused worth (nI j) g = some (Sum.inl z') ∧ _
    rw [L_X9_rows_90, if_neg (nle hj (by omega)), ix_in hj16, nI_clamp (by omega), hs j hj, (pc_ok _ (hS j hj)).2, ob, nI_1]
    have hno : q_wi (S j) (S i) = false → ∃ z', some (Sum.inl (nI (j + 1), g)) = some (Sum.inl z' : (Int32 × (Nat → Int32)) ⊕ ((Int32 × Int32 × (Nat → Int32)) ⊕ ((Int32 × Int32 × (Nat → Int32)) ⊕ (Int32 × Int32 × Int32 × Int32 × Int32 × Int32 × Int32 × Int32 × Int32 × Int32 × Int32 × (Nat → Int32) × (Nat → Int32) × (Nat → Int32) × (Nat → Int32) × (Nat → Int32))))) ∧ ∃ g, z' = (nI (j + 1), g) ∧ g i = nI (1 + q_mx (fun j => if q_wi (S j) (S i) = true then q_d S k j else 0) (j + 1)) ∧ ∀ l, l ≠ i → g l = f l := fun h => by
      refine ⟨_, rfl, g, rfl, ?_, hgo⟩
      rw [hgi, q_mx, h, if_neg q_ff, Nat.max_zero]
    by_cases c1 : pc (S j) < s
    · rw [if_neg (nle c1 (by omega)), ix_in h16, ix_in hj16, nI_clamp (by omega), hs i hi, q_nsR (hS i hi) (hS j hj), ob]
      rw [hc, decide_eq_true c1, Bool.true_and] at hw
      cases hq : q_nst (S i) (S j) with
      | false =>
        rw [nb0]
        exact hno (by rw [hw, hq])
      | true =>
        have hwt : q_wi (S j) (S i) = true := by rw [hw, hq]
        have hji : j ≠ i := fun h => by rw [h, hc] at c1; omega
        have hgj : g j = nI (q_d S k j) := by rw [hgo j hji]; exact hf j hj hwt
        rw [nb1, ix_in hj17, ix_in h17, hgj, hgi]
        by_cases c2 : q_d S k j < 1 + q_mx (fun j => if q_wi (S j) (S i) = true then q_d S k j else 0) j
        · rw [if_pos (nI_lt c2 (by omega))]
          refine ⟨_, rfl, g, rfl, ?_, hgo⟩
          rw [hgi, q_mx, hwt, if_pos rfl, show max (q_mx (fun j => if q_wi (S j) (S i) = true then q_d S k j else 0) j) (q_d S k j) = q_mx (fun j => if q_wi (S j) (S i) = true then q_d S k j else 0) j by omega]
        · rw [if_neg (nI_nlt (by omega) (by omega)), ix_in hj17, ix_in h17, nI_1]
          refine ⟨_, rfl, upd g i (nI (q_d S k j + 1)), rfl, ?_, fun l hl => by rw [pk_un hl]; exact hgo l hl⟩
          rw [pk_us, q_mx, hwt, if_pos rfl, show max (q_mx (fun j => if q_wi (S j) (S i) = true then q_d S k j else 0) j) (q_d S k j) = q_d S k j by omega, Nat.add_comm]
    · rw [if_pos (nI_le (by omega) (by omega))]
      exact hno (by rw [hw, hc, decide_eq_false c1]; rfl)) (by
    rintro z ⟨g, rfl, hgi, hgo⟩
    have hv := q_v_le (S := S) (k := k) s i
    have hd := q_d_le (S := S) (k := k) i
    rw [← q_d_eq hS hi] at hgi
    refine ⟨_, ?_, g, rfl, hgi, hgo⟩
    show L_X9_rows_90 (nI (q_v S k s i)) (nI s) (nI i) (nI k) fe ft vh it la vl mo mm ms vn rs ri wh bars box may near refused worth (nI k) g = _
    rw [L_X9_rows_90, if_pos (nI_le (Nat.le_refl k) (by omega)), ix_in h17, nI_clamp (by omega), hgi, nI_1, q_v_y hi hc]
    by_cases c : q_d S k i ≤ q_v S k s i
    · rw [if_pos (nI_le c (by omega)), show max (q_v S k s i) (q_d S k i) = q_v S k s i by omega]
      rfl
    · rw [if_neg (nle (by omega) (by omega)), ix_in h17, show max (q_v S k s i) (q_d S k i) = q_d S k i by omega]
      rfl) ((0 : Int32), f) ⟨f, rfl, by rw [hfi]; rfl, fun _ _ => rfl⟩
  exact ⟨g, et, h1, h2⟩
theorem q_lrR (hk : k ≤ 16) (hS : ∀ j, j < k → S j < 256) {box : Nat → Int32} (hs : ∀ j, j < k → box j = nI (S j)) (fe ft vh it la vl mo mm ms vn rs ri wh : Int32) (bars may near refused worth f0 : Nat → Int32) :
    ∃ f, lpN (fun z : Int32 × Int32 × (Nat → Int32) => L_X9_rows_44 (nI k) fe ft vh it la vl mo mm ms vn rs ri wh bars box may near refused worth z.1 z.2.1 z.2.2) fuelK ((0 : Int32), (0 : Int32), f0) = some (nI (q_v S k 9 0), fe, ft, it, la, mo, mm, ms, rs, ri, wh, bars, may, near, refused, f) := by
  have inner : ∀ s, s < 9 → ∀ f, (∀ j, j < k → q_pr S s 0 j = true → f j = nI (q_d S k j)) → ∃ g, lpN (fun z : Int32 × Int32 × (Nat → Int32) => L_X9_rows_53 (nI s) (nI k) fe ft vh it la vl mo mm ms vn rs ri wh bars box may near refused worth z.1 z.2.1 z.2.2) fuelK (nI (q_v S k s 0), (0 : Int32), f) = some (Sum.inl (nI (q_v S k (s + 1) 0), nI (s + 1), g)) ∧ ∀ j, j < k → q_pr S (s + 1) 0 j = true → g j = nI (q_d S k j) := by
    intro s hs9 f hf
    obtain ⟨t, et, g, rfl, hg⟩ := lp_invK (body := fun z : Int32 × Int32 × (Nat → Int32) => L_X9_rows_53 (nI s) (nI k) fe ft vh it la vl mo mm ms vn rs ri wh bars box may near refused worth z.1 z.2.1 z.2.2)
      (fun i z => ∃ f, z = (nI (q_v S k s i), nI i, f) ∧ ∀ j, j < k → q_pr S s i j = true → f j = nI (q_d S k j))
      (fun t => ∃ g, t = Sum.inl (nI (q_v S k (s + 1) 0), nI (s + 1), g) ∧ ∀ j, j < k → q_pr S (s + 1) 0 j = true → g j = nI (q_d S k j)) k (by omega) (by
      rintro i z hi ⟨f, rfl, hf⟩
      have hp : pc (S i) ≤ 8 := pc_le 8 (by decide) _ (hS i hi)
      have hin : vp_in (nI i) 16 := vp_in_nI (by omega) (by decide)
      left
      show ∃ z', L_X9_rows_53 (nI s) (nI k) fe ft vh it la vl mo mm ms vn rs ri wh bars box may near refused worth (nI (q_v S k s i)) (nI i) f = some (Sum.inl z') ∧ _
      rw [L_X9_rows_53, if_neg (nle hi (by omega)), ix_in hin, nI_clamp (by omega), hs i hi, (pc_ok _ (hS i hi)).2, ob]
      by_cases c : pc (S i) = s
      · obtain ⟨g, eg, hgi, hgo⟩ := q_lbR hk hS hs hi c (f := upd f i 1) (fun j hj hw => by
          have hji : j ≠ i := fun h => by rw [h] at hw; have := q_wi_lt (hS i hi) (hS i hi) hw; omega
          rw [pk_un hji]; exact hf j hj (q_pr_w hS hi hj c hw)) (by rw [pk_us]; rfl) 0 fe ft vh it la vl mo mm ms vn rs ri wh bars may near refused worth
        rw [if_pos (show nI (pc (S i)) = nI s by rw [c]), ix_in (vp_in_nI (by omega) (by decide)), eg]
        refine ⟨_, rfl, g, rfl, fun j hj hpr => ?_⟩
        by_cases c2 : j = i
        · rw [c2]; exact hgi
        · rw [hgo j c2, pk_un c2]; exact hf j hj (by rw [← q_pr_o c2]; exact hpr)
      · rw [if_neg (fun h => c ((nI_eq (by omega) (by omega)).mp h)), nI_1]
        exact ⟨_, rfl, f, by rw [q_v_n c], fun j hj hpr => hf j hj (by rw [← q_pr_n c]; exact hpr)⟩) (by
      rintro z ⟨f, rfl, hf⟩
      refine ⟨_, ?_, f, rfl, fun j hj hpr => hf j hj ?_⟩
      · show L_X9_rows_53 (nI s) (nI k) fe ft vh it la vl mo mm ms vn rs ri wh bars box may near refused worth (nI (q_v S k s k)) (nI k) f = _
        rw [L_X9_rows_53, if_pos (nI_le (Nat.le_refl k) (by omega)), nI_1, q_v_k]
        rfl
      · have : q_pr S s k j = q_pr S (s + 1) 0 j := by
          unfold q_pr
          rw [decide_eq_true hj, decide_eq_false (Nat.not_lt_zero j)]
          by_cases c1 : pc (S j) < s
          · rw [decide_eq_true c1, decide_eq_true (show pc (S j) < s + 1 by omega)]; simp
          · by_cases c2 : pc (S j) = s
            · rw [decide_eq_true c2, decide_eq_true (show pc (S j) < s + 1 by omega)]; simp
            · rw [decide_eq_false c1, decide_eq_false c2, decide_eq_false (show ¬ pc (S j) < s + 1 by omega)]; simp
        rw [this]; exact hpr) (nI (q_v S k s 0), (0 : Int32), f) ⟨f, rfl, hf⟩
    exact ⟨g, et, hg⟩
  obtain ⟨t, et, f, rfl⟩ := lp_invK (body := fun z : Int32 × Int32 × (Nat → Int32) => L_X9_rows_44 (nI k) fe ft vh it la vl mo mm ms vn rs ri wh bars box may near refused worth z.1 z.2.1 z.2.2)
    (fun s z => ∃ f, z = (nI (q_v S k s 0), nI s, f) ∧ ∀ j, j < k → q_pr S s 0 j = true → f j = nI (q_d S k j)) (fun t => ∃ f, t = (nI (q_v S k 9 0), fe, ft, it, la, mo, mm, ms, rs, ri, wh, bars, may, near, refused, f)) 9 (by omega) (by
    rintro s z hs9 ⟨f, rfl, hf⟩
    obtain ⟨g, eg, hg⟩ := inner s hs9 f hf
    refine Or.inl ⟨(nI (q_v S k (s + 1) 0), nI (s + 1), g), ?_, g, rfl, hg⟩
    show L_X9_rows_44 (nI k) fe ft vh it la vl mo mm ms vn rs ri wh bars box may near refused worth (nI (q_v S k s 0)) (nI s) f = _
    rw [L_X9_rows_44, if_neg (show ¬ (8 : Int32) < nI s from nI_nlt (a := 8) (by omega) (by decide)), eg]) (by
    rintro z ⟨f, rfl, hf⟩
    refine ⟨_, ?_, f, rfl⟩
    show L_X9_rows_44 (nI k) fe ft vh it la vl mo mm ms vn rs ri wh bars box may near refused worth (nI (q_v S k 9 0)) (nI 9) f = _
    rw [L_X9_rows_44, if_pos (show (8 : Int32) < nI 9 by decide)]
    rfl) ((0 : Int32), (0 : Int32), f0) ⟨f0, by rw [q_v_0]; rfl, fun j _ h => by
      have : q_pr S 0 0 j = false := by unfold q_pr; simp
      rw [this] at h; cases h⟩
  exact ⟨f, et⟩
end RW
theorem q_fewC {k : Nat} (hk : k ≤ 16) {F : Nat → Bool} {C R : Nat → Nat → Bool} (sy : q_sy C R) {c n : Nat → Int32} (hc : ∀ j, j < k → c j = q_mk (C j) k) (hn : ∀ j, j < k → n j = q_mk (R j) k) (vb vi th tl tw : Int32) (sets ts f0 : Nat → Int32) :
    ∃ t, lpN (fun z : Int32 × (Nat → Int32) => L_X8_fewestRows_27 vb vi (nI k) sets (nI k) (q_mk F k) th tl tw c n ts z.1 z.2) fuelK ((0 : Int32), f0) = some t ∧ ∃ T, q_bst k F C R (fun _ => 1) (fun _ => false) T ∧ t.1 = nI (q_sum (fun _ => 1) T k) := by
  have hV : ∀ j, j < k → (fun _ : Nat => 1) j ≤ 99 := fun _ _ => (by decide : 1 ≤ 99)
  refine lp_invK (body := fun z : Int32 × (Nat → Int32) => L_X8_fewestRows_27 vb vi (nI k) sets (nI k) (q_mk F k) th tl tw c n ts z.1 z.2)
    (fun i z => ∃ f, z = (nI i, f) ∧ ∀ j, j < i → f j = iI (q_wv (fun _ => 1) j)) (fun t => ∃ T, q_bst k F C R (fun _ => 1) (fun _ => false) T ∧ t.1 = nI (q_sum (fun _ => 1) T k)) k (by omega) ?_ ?_ ((0 : Int32), f0) ⟨f0, rfl, fun j hj => absurd hj (by omega)⟩
  · rintro i z hi ⟨f, rfl, hf⟩
    refine Or.inl ⟨(nI (i + 1), upd f i (iI (q_wv (fun _ => 1) i))), ?_, _, rfl, fun j hj => ?_⟩
    · show L_X8_fewestRows_27 vb vi (nI k) sets (nI k) (q_mk F k) th tl tw c n ts (nI i) f = _
      have e := q_valueC f (V := fun _ => 1) (i := i) (by omega) (by decide)
      rw [L_X8_fewestRows_27, if_neg (nle hi (by omega)), show M_X2_value f (nI i) 1 = some (upd f i (iI (q_wv (fun _ => 1) i))) from e, ob, nI_1]
    · by_cases c1 : j = i
      · subst c1; exact pk_us
      · rw [pk_un c1]; exact hf j (by omega)
  · rintro z ⟨f, rfl, hf⟩
    show ∃ t, L_X8_fewestRows_27 vb vi (nI k) sets (nI k) (q_mk F k) th tl tw c n ts (nI k) f = some (Sum.inr t) ∧ _
    rw [L_X8_fewestRows_27, if_pos (nI_le (Nat.le_refl k) (by omega))]
    rcases q_keep (F := F) sy hk hc hn hV hf (fun _ => false) vb vi with ⟨h1, h2⟩ | ⟨T, h1, h2⟩
    · exact absurd (q_ok_0 sy).1 h1
    · rw [q_0] at h2
      rw [h2, ob, if_neg (show ¬ ((1 : Int32), iI (q_w (q_wv (fun _ => 1)) T k), q_mk T k).1 = 0 from by show ¬ (1 : Int32) = 0; decide), q_bestSum hk hV, ob]
      exact ⟨_, rfl, T, h1, rfl⟩
