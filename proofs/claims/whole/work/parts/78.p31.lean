/-! The keeper -/
def q_w (w : Nat → Int) (P : Nat → Bool) : Nat → Int
  | 0 => 0
  | m + 1 => q_w w P m + (if P m = true then w m else 0)
theorem q_w_cg {w : Nat → Int} {P Q : Nat → Bool} : ∀ {m : Nat}, (∀ i, i < m → P i = Q i) → q_w w P m = q_w w Q m := by
  intro m
  induction m with
  | zero => intro _; rfl
  | succ m ih => intro h; rw [q_w, q_w, ih (fun i hi => h i (by omega)), h m (by omega)]
theorem q_w_le {w : Nat → Int} {P Q : Nat → Bool} : ∀ {m : Nat}, (∀ i, i < m → P i = true → Q i = true) → (∀ i, i < m → Q i = true → P i = false → 0 ≤ w i) → q_w w P m ≤ q_w w Q m := by
  intro m
  induction m with
  | zero => intro _ _; exact Int.le_refl 0
  | succ m ih =>
    intro h h2
    have h3 := ih (fun i hi => h i (by omega)) (fun i hi => h2 i (by omega))
    rw [q_w, q_w]
    cases hP : P m with
    | true => rw [h m (by omega) hP]; omega
    | false =>
      cases hQ : Q m with
      | true =>
        have h4 := h2 m (by omega) hQ hP
        rw [if_neg q_ff, if_pos rfl]; omega
      | false => omega
theorem q_w_dis {w : Nat → Int} {P Q : Nat → Bool} : ∀ {m : Nat}, (∀ i, i < m → P i = true → Q i = false) → q_w w (fun i => P i || Q i) m = q_w w P m + q_w w Q m := by
  intro m
  induction m with
  | zero => intro _; rfl
  | succ m ih =>
    intro h
    rw [q_w, q_w, q_w, ih (fun i hi => h i (by omega))]
    cases hP : P m with
    | true => rw [h m (by omega) hP, Bool.true_or, if_pos rfl, if_neg (by decide)]; omega
    | false => rw [Bool.false_or, if_neg (show ¬ false = true by decide)]; omega
theorem q_w_one {w : Nat → Int} {k : Nat} : ∀ {m : Nat}, k < m → q_w w (fun i => i == k) m = w k := by
  intro m
  induction m with
  | zero => intro h; omega
  | succ m ih =>
    intro h
    rw [q_w]
    by_cases c : k = m
    · subst c
      have : q_w w (fun i => i == k) k = q_w w (fun _ => false) k := q_w_cg (fun i hi => beq_eq_false_iff_ne.mpr (by omega))
      have h0 : ∀ m, q_w w (fun _ => false) m = 0 := by
        intro m
        induction m with
        | zero => rfl
        | succ m ih => rw [q_w, ih, if_neg (by decide)]; rfl
      rw [this, h0, if_pos (by simp)]; omega
    · rw [ih (by omega), if_neg (by simp; omega)]; omega
theorem q_w_b {w : Nat → Int} (P : Nat → Bool) : ∀ {m : Nat}, (∀ i, i < m → -8388608 ≤ w i ∧ w i ≤ 8388608) → -(8388608 * (m : Int)) ≤ q_w w P m ∧ q_w w P m ≤ 8388608 * (m : Int) := by
  intro m
  induction m with
  | zero => intro _; rw [q_w]; omega
  | succ m ih =>
    intro h
    have h1 := ih (fun i hi => h i (by omega))
    have h2 := h m (by omega)
    rw [q_w]
    split <;> omega
def iI (z : Int) : Int32 := Int32.ofInt z
theorem iI_t {z : Int} (h1 : -2147483648 ≤ z) (h2 : z < 2147483648) : (iI z).toInt = z := Int32.toInt_ofInt_of_le h1 h2
theorem iI_lt {a b : Int} (h1 : -2147483648 ≤ a) (h2 : a < 2147483648) (h3 : -2147483648 ≤ b) (h4 : b < 2147483648) : iI a < iI b ↔ a < b := by
  rw [Int32.lt_iff_toInt_lt, iI_t h1 h2, iI_t h3 h4]
theorem iI_le {a b : Int} (h1 : -2147483648 ≤ a) (h2 : a < 2147483648) (h3 : -2147483648 ≤ b) (h4 : b < 2147483648) : iI a ≤ iI b ↔ a ≤ b := by
  rw [Int32.le_iff_toInt_le, iI_t h1 h2, iI_t h3 h4]
theorem iI_add (a b : Int) : iI a + iI b = iI (a + b) := (Int32.ofInt_add a b).symm
theorem iI_sub (a b : Int) : iI a - iI b = iI (a - b) := (Int32.ofInt_sub a b).symm
theorem iI_n (n : Nat) : nI n = iI (n : Int) := Int32.ofInt_eq_ofNat.symm
section KP
variable {m : Nat} {w : Nat → Int} {wt : Nat → Int32}
theorem q_weigh (hm : m ≤ 16) (hw : ∀ j, j < m → wt j = iI (w j)) (P : Nat → Bool) : M_X2_weigh (nI m) wt (q_mk P m) = some (iI (q_w w P m)) := by
  refine lp_runK (fun j => (iI (q_w w P j), nI j)) m _ (by omega) (fun j hj => ?_) ?_
  · show L_X2_weigh_4 (q_mk P m) (nI m) wt (iI (q_w w P j)) (nI j) = some (Sum.inl (iI (q_w w P j + (if P j = true then w j else 0)), nI (j + 1)))
    rw [L_X2_weigh_4, if_neg (nle hj (by omega)), q_has _ (by omega), ob, q_bt _ (by omega), decide_eq_true hj, Bool.true_and, nI_1]
    cases P j with
    | true => rw [if_pos rfl, if_neg (by decide), ix_in (vp_in_nI (by omega) (by decide)), nI_clamp (by omega), hw j hj, iI_add, if_pos rfl]
    | false => rw [nb0, if_neg (by decide), Int.add_zero]
  · show L_X2_weigh_4 (q_mk P m) (nI m) wt (iI (q_w w P m)) (nI m) = _
    rw [L_X2_weigh_4, if_pos (nI_le (Nat.le_refl m) (by omega))]
    rfl
theorem q_worthw (hm : m ≤ 16) (hw : ∀ j, j < m → wt j = iI (w j)) (hwb : ∀ i, i < m → -8388608 ≤ w i ∧ w i ≤ 8388608) (P : Nat → Bool) : M_X2_worthwhile (nI m) wt (q_mk P m) = some (q_mk (fun j => P j && decide (0 < w j)) m) := by
  refine q_collect (fun j => P j && decide (0 < w j)) hm (fun j x hj => ?_) (fun x => ?_)
  · show L_X2_worthwhile_4 (q_mk P m) (nI m) wt x (nI j) = _
    rw [L_X2_worthwhile_4, if_neg (nle hj (by omega)), q_has _ (by omega), ob, q_bt _ (by omega), decide_eq_true hj, Bool.true_and, nI_1]
    have h0 : wt j ≤ 0 ↔ w j ≤ 0 := by
      rw [hw j hj, show (0 : Int32) = iI 0 from rfl]
      exact iI_le (by have := hwb j hj; omega) (by have := hwb j hj; omega) (by decide) (by decide)
    cases P j with
    | true =>
      rw [if_pos rfl, if_neg (by decide), ix_in (vp_in_nI (by omega) (by decide)), nI_clamp (by omega)]
      by_cases h : w j ≤ 0
      · rw [if_pos (h0.mpr h), if_neg (by simp; omega)]
      · rw [if_neg (fun c => h (h0.mp c)), if_pos (by simp; omega)]
    | false => rw [nb0, if_neg (by simp)]
  · show L_X2_worthwhile_4 (q_mk P m) (nI m) wt x (nI m) = _
    rw [L_X2_worthwhile_4, if_pos (nI_le (Nat.le_refl m) (by omega))]
    rfl
end KP
def q_tg (m : Nat) (C R : Nat → Nat → Bool) (x : Nat) (G : Nat → Bool) : Bool := q_ex (fun u => C x u && G u) m || q_ex (fun i => (R x i && G i) && q_ex (fun j => R i j && (R x j && G j)) m) m
section SR
variable {m : Nat} {F : Nat → Bool} {C R : Nat → Nat → Bool} {c n wt : Nat → Int32} {w : Nat → Int}
theorem q_tangC (hm : m ≤ 16) (hc : ∀ j, j < m → c j = q_mk (C j) m) (hn : ∀ j, j < m → n j = q_mk (R j) m) {x : Nat} (hx : x < m) (G : Nat → Bool) : M_X3_tangled (nI m) c n (nI x) (q_mk G m) = some (if q_tg m C R x G = true then 1 else 0) := by
  have hin : vp_in (nI x) 16 := vp_in_nI (by omega) (by decide)
  rw [M_X3_tangled, ix_in hin, nI_clamp (by omega), hc x hx, q_and _ _ (by omega)]
  unfold q_tg
  cases h1 : q_ex (fun u => C x u && G u) m with
  | true =>
    rw [if_neg (fun h => by
      have := (q_ex0 (by omega)).mp h
      rw [h1] at this; cases this), Bool.true_or, if_pos rfl]
  | false =>
    rw [if_pos ((q_ex0 (by omega)).mpr h1), ix_in hin, hn x hx, q_and _ _ (by omega), q_twoC hm hn, ob, Bool.false_or]
    cases q_ex (fun i => (R x i && G i) && q_ex (fun j => R i j && (R x j && G j)) m) m <;> rfl
def q_un (m : Nat) (C R : Nat → Nat → Bool) (G : Nat → Bool) (x : Nat) : Prop := (∀ v, v < m → G v = true → C x v = false) ∧ ∀ a b, a < m → b < m → G a = true → G b = true → R x a = true → R x b = true → R a b = true → False
theorem q_tg_un {x : Nat} {G : Nat → Bool} (h : q_tg m C R x G = false) : q_un m C R G x := by
  unfold q_tg at h
  rw [Bool.or_eq_false_iff] at h
  refine ⟨fun v hv hG => ?_, fun a b ha hb hGa hGb h1 h2 h3 => ?_⟩
  · cases hC : C x v with
    | false => rfl
    | true =>
      have := (q_ex_iff (fun u => C x u && G u) m).mpr ⟨v, hv, by rw [hC, hG]; rfl⟩
      rw [h.1] at this; cases this
  · have h4 : q_ex (fun j => R a j && (R x j && G j)) m = true := (q_ex_iff _ m).mpr ⟨b, hb, by rw [h3, h2, hGb]; rfl⟩
    have := (q_ex_iff (fun i => (R x i && G i) && q_ex (fun j => R i j && (R x j && G j)) m) m).mpr ⟨a, ha, by rw [h1, hGa, h4]; rfl⟩
    rw [h.2] at this; cases this
theorem q_law_un (sy : q_sy C R) {T U G : Nat → Bool} (hT : q_law m F C R T) (hTG : ∀ u, u < m → T u = true → G u = true) (hUG : ∀ u, u < m → U u = true → G u = true) (hU : ∀ u, u < m → U u = true → F u = true ∧ q_un m C R G u) : q_law m F C R (fun u => T u || U u) := by
  obtain ⟨sC, iC, sR, iR⟩ := sy
  have hG : ∀ u, u < m → (T u || U u) = true → G u = true := fun u hu h => by
    rw [Bool.or_eq_true] at h
    rcases h with h | h
    · exact hTG u hu h
    · exact hUG u hu h
  refine ⟨fun i hi h => ?_, fun i j hi hj h1 h2 => ?_, fun i j l hi hj hl h1 h2 h3 a b c => ?_⟩
  · rw [Bool.or_eq_true] at h
    rcases h with h | h
    · exact hT.1 i hi h
    · exact (hU i hi h).1
  · have g1 := hG i hi h1
    have g2 := hG j hj h2
    simp only [Bool.or_eq_true] at h1 h2
    rcases h1 with h1 | h1
    · rcases h2 with h2 | h2
      · exact hT.2.1 i j hi hj h1 h2
      · rw [sC]; exact (hU j hj h2).2.1 i hi g1
    · exact (hU i hi h1).2.1 j hj g2
  · have g1 := hG i hi h1
    have g2 := hG j hj h2
    have g3 := hG l hl h3
    simp only [Bool.or_eq_true] at h1 h2 h3
    rcases h1 with h1 | h1
    · rcases h2 with h2 | h2
      · rcases h3 with h3 | h3
        · exact hT.2.2 i j l hi hj hl h1 h2 h3 a b c
        · exact (hU l hl h3).2.2 i j hi hj g1 g2 (by rw [sR]; exact c) (by rw [sR]; exact b) a
      · exact (hU j hj h2).2.2 i l hi hl g1 g3 (by rw [sR]; exact a) b c
    · exact (hU i hi h1).2.2 j l hj hl g2 g3 a c b
def q_fe (m : Nat) (F : Nat → Bool) (C R : Nat → Nat → Bool) (S M T : Nat → Bool) : Prop := (∀ i, i < m → S i = true → T i = true) ∧ (∀ i, i < m → T i = true → S i = true ∨ M i = true) ∧ q_law m F C R T
def q_sp (m : Nat) (F : Nat → Bool) (C R : Nat → Nat → Bool) (w : Nat → Int) (S M : Nat → Bool) (b : Int) (bits : Int32) (r : Int32 × Int32) : Prop :=
  (r = (iI b, bits) ∧ ∀ T, q_fe m F C R S M T → q_w w T m ≤ b) ∨ ∃ T, q_fe m F C R S M T ∧ r = (iI (q_w w T m), q_mk T m) ∧ b < q_w w T m ∧ ∀ T', q_fe m F C R S M T' → q_w w T' m ≤ q_w w T m
theorem q_and1 (P : Nat → Bool) {k : Nat} (hm : m ≤ 32) (hk : k < 32) : q_mk P m &&& ((1 : Int32) <<< (nI k &&& 31)) = q_mk (fun j => P j && j == k) m := by
  apply q_of hm
  intro j hj
  rw [b_and, q_bt P hm, q_one hk hj]
  by_cases c : j = k
  · subst c; simp
  · rw [decide_eq_false c, show (j == k) = false from beq_eq_false_iff_ne.mpr c]; simp
def q_px (S M : Nat → Bool) (x : Nat) (u : Nat) : Bool := S u || (M u && decide (u < x))
def q_re (S M : Nat → Bool) (x : Nat) (u : Nat) : Bool := (M u && !q_px S M x u) && !(u == x)
theorem q_px_s {S M : Nat → Bool} {x : Nat} (hm : m ≤ 16) (hx : x < m) : q_mk (q_px S M x) m ||| (q_mk M m &&& ((1 : Int32) <<< (nI x &&& 31))) = q_mk (q_px S M (x + 1)) m := by
  rw [q_and1 M (by omega) (by omega), q_or _ _ (by omega)]
  apply q_mkcg
  intro u hu
  unfold q_px
  by_cases c1 : u = x
  · subst c1
    rw [decide_eq_false (Nat.lt_irrefl u), decide_eq_true (show u < u + 1 by omega)]
    simp
  · rw [show (u == x) = false from beq_eq_false_iff_ne.mpr c1]
    by_cases c2 : u < x
    · rw [decide_eq_true c2, decide_eq_true (show u < x + 1 by omega)]; simp
    · rw [decide_eq_false c2, decide_eq_false (show ¬ u < x + 1 by omega)]; simp
theorem q_re_iff {S M : Nat → Bool} {x u : Nat} (hS : M u = true → S u = false) : q_re S M x u = true ↔ M u = true ∧ x < u := by
  unfold q_re q_px
  cases hM : M u with
  | false => simp
  | true =>
    rw [hS hM]
    by_cases c1 : u = x
    · subst c1; simp
    · rw [show (u == x) = false from beq_eq_false_iff_ne.mpr c1]
      by_cases c2 : u < x
      · rw [decide_eq_true c2]; simp; omega
      · rw [decide_eq_false c2]; simp; omega
/-- one choice -/
theorem q_choice (sy : q_sy C R) {S M : Nat → Bool} {x : Nat} (hx : x < m) (hM : M x = true) (hSM : ∀ u, u < m → M u = true → S u = false ∧ q_law m F C R (q_ins S u) ∧ 0 < w u) (hS : q_law m F C R S) (hun : ∀ u, u < m → u < x → M u = true → q_un m C R (fun v => S v || M v) u) :
    q_law m F C R (q_px S M x) ∧ q_law m F C R (q_ins (q_px S M x) x) ∧ (∀ u, u < m → q_re S M x u = true → q_px S M x u = false ∧ q_law m F C R (q_ins (q_px S M x) u)) ∧ (∀ u, u < m → (q_re S M x u && !(q_re S M x u && q_bb m C R x (q_px S M x) u)) = true → q_ins (q_px S M x) x u = false ∧ q_law m F C R (q_ins (q_ins (q_px S M x) x) u)) ∧
    (∀ T, q_fe m F C R (q_ins (q_px S M x) x) (fun u => q_re S M x u && !(q_re S M x u && q_bb m C R x (q_px S M x) u)) T → q_fe m F C R S M T) ∧ (∀ T, q_fe m F C R (q_px S M x) (q_re S M x) T → q_fe m F C R S M T) ∧
    ∀ T, q_fe m F C R S M T → ∃ T', q_w w T m ≤ q_w w T' m ∧ (q_fe m F C R (q_ins (q_px S M x) x) (fun u => q_re S M x u && !(q_re S M x u && q_bb m C R x (q_px S M x) u)) T' ∨ q_fe m F C R (q_px S M x) (q_re S M x) T') := by
  have hre : ∀ u, u < m → (q_re S M x u = true ↔ M u = true ∧ x < u) := fun u hu => q_re_iff (fun h => (hSM u hu h).1)
  have hSx := (hSM x hx hM).1
  have hU : ∀ u, u < m → (M u && decide (u < x)) = true → F u = true ∧ q_un m C R (fun v => S v || M v) u := fun u hu h => by
    rw [Bool.and_eq_true, decide_eq_true_eq] at h
    exact ⟨(hSM u hu h.1).2.1.1 u hu (q_ins_iff.mpr (Or.inr rfl)), hun u hu h.2 h.1⟩
  have hUG : ∀ u, u < m → (M u && decide (u < x)) = true → (S u || M u) = true := fun u hu h => by
    rw [Bool.and_eq_true] at h
    rw [h.1, Bool.or_true]
  have hP : q_law m F C R (q_px S M x) := q_law_un sy hS (G := fun v => S v || M v) (fun u _ h => by simp [h]) hUG hU
  have hPi : ∀ v, v < m → M v = true → q_law m F C R (q_ins (q_px S M x) v) := fun v hv hMv => by
    have h1 := q_law_un sy (hSM v hv hMv).2.1 (G := fun v => S v || M v) (fun u hu h => by
      rcases q_ins_iff.mp h with h | h
      · simp [h]
      · rw [h]; simp [hMv]) hUG hU
    refine q_law_sub h1 (fun u hu h => ?_)
    rcases q_ins_iff.mp h with h | h
    · unfold q_px at h
      rw [Bool.or_eq_true] at h ⊢
      rcases h with h | h
      · exact Or.inl (q_ins_iff.mpr (Or.inl h))
      · exact Or.inr h
    · rw [Bool.or_eq_true]
      exact Or.inl (q_ins_iff.mpr (Or.inr h))
  have hpx : ∀ u, q_px S M x u = true ↔ S u = true ∨ (M u = true ∧ u < x) := fun u => by
    unfold q_px
    rw [Bool.or_eq_true, Bool.and_eq_true, decide_eq_true_eq]
  have hnp : ∀ u, u < m → q_re S M x u = true → q_px S M x u = false := fun u hu h => by
    cases hp : q_px S M x u with
    | false => rfl
    | true =>
      have h1 := (hre u hu).mp h
      rcases (hpx u).mp hp with h2 | h2
      · rw [(hSM u hu h1.1).1] at h2; cases h2
      · omega
  refine ⟨hP, hPi x hx hM, fun u hu h => ⟨hnp u hu h, hPi u hu ((hre u hu).mp h).1⟩, fun u hu h => ?_, fun T hT => ?_, fun T hT => ?_, fun T hT => ?_⟩
  · rw [Bool.and_eq_true] at h
    obtain ⟨h1, h2⟩ := h
    rw [h1, Bool.true_and] at h2
    have hbb : q_bb m C R x (q_px S M x) u = false := by simpa using h2
    obtain ⟨hMu, hxu⟩ := (hre u hu).mp h1
    unfold q_bb at hbb
    rw [Bool.or_eq_false_iff] at hbb
    refine ⟨q_ins_f.mpr ⟨hnp u hu h1, by omega⟩, q_law_two sy (hPi x hx hM) (hPi u hu hMu) hbb.1 (fun t ht hSt a b c => ?_)⟩
    have hxx : q_ex (fun t => q_px S M x t && R x t && R t u) m = true := (q_ex_iff _ m).mpr ⟨t, ht, by rw [hSt, b, c]; rfl⟩
    have := hbb.2
    rw [a, hxx] at this; cases this
  · refine ⟨fun i hi h => hT.1 i hi (q_ins_iff.mpr (Or.inl ((hpx i).mpr (Or.inl h)))), fun i hi h => ?_, hT.2.2⟩
    rcases hT.2.1 i hi h with h | h
    · rcases q_ins_iff.mp h with h | h
      · rcases (hpx i).mp h with h | h
        · exact Or.inl h
        · exact Or.inr h.1
      · rw [h]; exact Or.inr hM
    · rw [Bool.and_eq_true] at h
      exact Or.inr ((hre i hi).mp h.1).1
  · refine ⟨fun i hi h => hT.1 i hi ((hpx i).mpr (Or.inl h)), fun i hi h => ?_, hT.2.2⟩
    rcases hT.2.1 i hi h with h | h
    · rcases (hpx i).mp h with h | h
      · exact Or.inl h
      · exact Or.inr h.1
    · exact Or.inr ((hre i hi).mp h).1
  · have hT' : q_law m F C R (fun u => T u || (M u && decide (u < x))) := q_law_un sy hT.2.2 (G := fun v => S v || M v) (fun u hu h => by
      rcases hT.2.1 u hu h with h | h <;> simp [h]) hUG hU
    have hsub : ∀ i, i < m → q_px S M x i = true → (T i || (M i && decide (i < x))) = true := fun i hi h => by
      unfold q_px at h
      rw [Bool.or_eq_true] at h ⊢
      rcases h with h | h
      · exact Or.inl (hT.1 i hi h)
      · exact Or.inr h
    have hcases : ∀ i, i < m → (T i || (M i && decide (i < x))) = true → q_px S M x i = true ∨ i = x ∨ q_re S M x i = true := fun i hi h => by
      have h1 : S i = true ∨ M i = true := by
        rw [Bool.or_eq_true] at h
        rcases h with h | h
        · exact hT.2.1 i hi h
        · rw [Bool.and_eq_true] at h; exact Or.inr h.1
      rcases h1 with h1 | h1
      · exact Or.inl ((hpx i).mpr (Or.inl h1))
      · rcases Nat.lt_trichotomy i x with h2 | h2 | h2
        · exact Or.inl ((hpx i).mpr (Or.inr ⟨h1, h2⟩))
        · exact Or.inr (Or.inl h2)
        · exact Or.inr (Or.inr ((hre i hi).mpr ⟨h1, h2⟩))
    refine ⟨fun u => T u || (M u && decide (u < x)), q_w_le (fun i _ h => by simp [h]) (fun i hi h h2 => ?_), ?_⟩
    · simp only [h2, Bool.false_or, Bool.and_eq_true] at h
      have := (hSM i hi h.1).2.2
      omega
    · cases hTx : T x with
      | true =>
        left
        have hxT : (T x || (M x && decide (x < x))) = true := by rw [hTx]; rfl
        refine ⟨fun i hi h => ?_, fun i hi h => ?_, hT'⟩
        · rcases q_ins_iff.mp h with h | h
          · exact hsub i hi h
          · rw [h]; exact hxT
        · rcases hcases i hi h with h1 | h1 | h1
          · exact Or.inl (q_ins_iff.mpr (Or.inl h1))
          · exact Or.inl (q_ins_iff.mpr (Or.inr h1))
          · right
            have hbb : q_bb m C R x (q_px S M x) i = false := by
              unfold q_bb
              rw [hT'.2.1 x i hx hi hxT h, Bool.false_or]
              cases hR : R x i with
              | false => rfl
              | true =>
                cases he : q_ex (fun t => q_px S M x t && R x t && R t i) m with
                | false => rfl
                | true =>
                  obtain ⟨t, ht, hb⟩ := (q_ex_iff _ m).mp he
                  rw [Bool.and_eq_true, Bool.and_eq_true] at hb
                  exact (hT'.2.2 x t i hx ht hi hxT (hsub t ht hb.1.1) h hb.1.2 hb.2 hR).elim
            show (q_re S M x i && !(q_re S M x i && q_bb m C R x (q_px S M x) i)) = true
            rw [h1, hbb]; rfl
      | false =>
        right
        refine ⟨hsub, fun i hi h => ?_, hT'⟩
        rcases hcases i hi h with h1 | h1 | h1
        · exact Or.inl h1
        · have h' : (T i || (M i && decide (i < x))) = true := h
          rw [h1, hTx, decide_eq_false (Nat.lt_irrefl x)] at h'
          simp at h'
        · exact Or.inr h1
theorem q_sr_end (sy : q_sy C R) (hm : m ≤ 16) {S M : Nat → Bool} (hS : q_law m F C R S) (hSM : ∀ u, u < m → M u = true → S u = false ∧ q_law m F C R (q_ins S u) ∧ 0 < w u) (hun : ∀ u, u < m → u < m → M u = true → q_un m C R (fun v => S v || M v) u) {b : Int} {bits : Int32} (hlt : b < q_w w (fun u => S u || M u) m) (htop : ∀ T, q_fe m F C R S M T → q_w w T m ≤ q_w w (fun u => S u || M u) m) (rec_ : Int32 → Int32 → Int32 → (Nat → Int32) → (Nat → Int32) → (Nat → Int32) → Int32 → Int32 → Int32 → Int32 → Option (Int32 × Int32)) :
    ∃ r, B_X2_search_69 rec_ (q_mk M m) (iI (q_w w (fun u => S u || M u) m)) (nI m) (q_mk (q_px S M m) m) (iI b) bits (nI m) c n wt = some r ∧ q_sp m F C R w S M b bits r := by
  have hl : q_law m F C R (fun u => S u || M u) := q_law_un sy hS (G := fun v => S v || M v) (fun u _ h => by simp [h]) (fun u _ h => by simp [h]) (fun u hu h => ⟨(hSM u hu h).2.1.1 u hu (q_ins_iff.mpr (Or.inr rfl)), hun u hu hu h⟩)
  have e : q_mk (q_px S M m) m = q_mk (fun u => S u || M u) m := q_mkcg (fun u hu => by
    unfold q_px
    rw [decide_eq_true hu, Bool.and_true])
  refine ⟨_, by rw [B_X2_search_69, if_neg (nI_nlt (Nat.le_refl m) (by omega)), e], Or.inr ⟨fun u => S u || M u, ⟨fun u _ h => by simp [h], fun u _ h => by simpa using h, hl⟩, rfl, hlt, htop⟩⟩
theorem q_sr_two (sy : q_sy C R) (hm : m ≤ 16) (hc : ∀ j, j < m → c j = q_mk (C j) m) (hn : ∀ j, j < m → n j = q_mk (R j) m) (hw : ∀ j, j < m → wt j = iI (w j)) (hwb : ∀ i, i < m → -8388608 ≤ w i ∧ w i ≤ 8388608) {D x : Nat} (hx : x < m)
    (ih : ∀ (S M : Nat → Bool) (b : Int) (bits : Int32), -1073741824 ≤ b → b ≤ 268435456 → q_law m F C R S → (∀ u, u < m → M u = true → S u = false ∧ q_law m F C R (q_ins S u) ∧ 0 < w u) → (∀ u, u < m → M u = true → x + 1 ≤ u) → ∃ r, M_X2_search D (iI b) bits (nI m) c n wt (nI (x + 1)) (q_mk S m) (q_mk M m) (iI (q_w w (fun u => S u || M u) m)) = some r ∧ q_sp m F C R w S M b bits r)
    {S M : Nat → Bool} (hM : M x = true) (hS : q_law m F C R S) (hSM : ∀ u, u < m → M u = true → S u = false ∧ q_law m F C R (q_ins S u) ∧ 0 < w u) (hun : ∀ u, u < m → u < x → M u = true → q_un m C R (fun v => S v || M v) u) {b : Int} {bits : Int32} (hb1 : -1073741824 ≤ b) (hb2 : b ≤ 268435456) :
    ∃ r, B_X2_search_69 (M_X2_search D) (q_mk M m) (iI (q_w w (fun u => S u || M u) m)) (nI x) (q_mk (q_px S M x) m) (iI b) bits (nI m) c n wt = some r ∧ q_sp m F C R w S M b bits r := by
  have hB : ∀ P, -134217728 ≤ q_w w P m ∧ q_w w P m ≤ 134217728 := fun P => by
    have := q_w_b (w := w) P hwb
    omega
  have hin : vp_in (nI x) 16 := vp_in_nI (by omega) (by decide)
  obtain ⟨hP, hPx, hre, hre1, hf1, hf2, hcomp⟩ := q_choice (w := w) sy hx hM hSM hS hun
  have hri : ∀ u, u < m → (q_re S M x u = true ↔ M u = true ∧ x < u) := fun u hu => q_re_iff (fun h => (hSM u hu h).1)
  have hrf : ∀ u, u < m → ¬ (M u = true ∧ x < u) → q_re S M x u = false := fun u hu h => by
    cases h2 : q_re S M x u with
    | false => rfl
    | true => exact absurd ((hri u hu).mp h2) h
  have hpf : ∀ u, u < m → M u = true → ¬ u < x → q_px S M x u = false := fun u hu h h2 => by
    unfold q_px
    rw [(hSM u hu h).1, decide_eq_false h2]; simp
  have hpt : ∀ u, M u = true → u < x → q_px S M x u = true := fun u h h2 => by
    unfold q_px
    rw [h, decide_eq_true h2]; simp
  have hpn : ∀ u, M u = false → q_px S M x u = S u := fun u h => by
    unfold q_px
    rw [h]; simp
  have e1 : q_w w (fun u => S u || M u) m - q_w w (fun u => q_re S M x u && q_bb m C R x (q_px S M x) u) m = q_w w (fun u => q_ins (q_px S M x) x u || (q_re S M x u && !(q_re S M x u && q_bb m C R x (q_px S M x) u))) m := by
    have h := q_w_dis (w := w) (m := m) (P := fun u => q_ins (q_px S M x) x u || (q_re S M x u && !(q_re S M x u && q_bb m C R x (q_px S M x) u))) (Q := fun u => q_re S M x u && q_bb m C R x (q_px S M x) u) (fun u hu h => by
      cases h2 : q_re S M x u with
      | false => rfl
      | true =>
        have h3 := (hri u hu).mp h2
        simp only [q_ins, hpf u hu h3.1 (by omega), h2, show (u == x) = false from beq_eq_false_iff_ne.mpr (by omega)] at h
        cases h4 : q_bb m C R x (q_px S M x) u with
        | false => rfl
        | true => rw [h4] at h; simp at h)
    have h2 : q_w w (fun u => (q_ins (q_px S M x) x u || (q_re S M x u && !(q_re S M x u && q_bb m C R x (q_px S M x) u))) || (q_re S M x u && q_bb m C R x (q_px S M x) u)) m = q_w w (fun u => S u || M u) m := q_w_cg (fun u hu => by
      cases hMu : M u with
      | false =>
        have : u ≠ x := fun h => by rw [h, hM] at hMu; cases hMu
        rw [hrf u hu (fun h => by rw [hMu] at h; cases h.1), q_ins, hpn u hMu, show (u == x) = false from beq_eq_false_iff_ne.mpr this]
        simp
      | true =>
        rw [(hSM u hu hMu).1]
        rcases Nat.lt_trichotomy u x with h2 | h2 | h2
        · rw [q_ins, hpt u hMu h2]; simp
        · rw [q_ins, h2]; simp
        · rw [(hri u hu).mpr ⟨hMu, h2⟩]
          cases q_bb m C R x (q_px S M x) u <;> simp)
    rw [h2] at h
    omega
  have e2 : q_w w (fun u => S u || M u) m - w x = q_w w (fun u => q_px S M x u || q_re S M x u) m := by
    have h := q_w_dis (w := w) (m := m) (P := fun u => q_px S M x u || q_re S M x u) (Q := fun u => u == x) (fun u hu h => by
      rw [beq_eq_false_iff_ne]
      intro h2
      subst h2
      simp only [hpf u hu hM (Nat.lt_irrefl u), hrf u hu (fun h => absurd h.2 (Nat.lt_irrefl u))] at h
      cases h)
    have h2 : q_w w (fun u => (q_px S M x u || q_re S M x u) || u == x) m = q_w w (fun u => S u || M u) m := q_w_cg (fun u hu => by
      cases hMu : M u with
      | false =>
        have : u ≠ x := fun h => by rw [h, hM] at hMu; cases hMu
        rw [hrf u hu (fun h => by rw [hMu] at h; cases h.1), hpn u hMu, show (u == x) = false from beq_eq_false_iff_ne.mpr this]
        simp
      | true =>
        rw [(hSM u hu hMu).1]
        rcases Nat.lt_trichotomy u x with h2 | h2 | h2
        · rw [hpt u hMu h2]; simp
        · rw [h2]; simp
        · rw [(hri u hu).mpr ⟨hMu, h2⟩]; simp)
    rw [h2, q_w_one hx] at h
    omega
  obtain ⟨r1, hr1, sp1⟩ := ih (q_ins (q_px S M x) x) (fun u => q_re S M x u && !(q_re S M x u && q_bb m C R x (q_px S M x) u)) b bits hb1 hb2 hPx (fun u hu h => by
    have h1 := hre1 u hu h
    rw [Bool.and_eq_true] at h
    exact ⟨h1.1, h1.2, (hSM u hu ((hri u hu).mp h.1).1).2.2⟩) (fun u hu h => by
    rw [Bool.and_eq_true] at h
    have := (hri u hu).mp h.1
    omega)
  obtain ⟨b1, bits1, rfl, hbb, hb12, hall1, hor1⟩ : ∃ b1 bits1, r1 = (iI b1, bits1) ∧ b ≤ b1 ∧ b1 ≤ 268435456 ∧ (∀ T, q_fe m F C R (q_ins (q_px S M x) x) (fun u => q_re S M x u && !(q_re S M x u && q_bb m C R x (q_px S M x) u)) T → q_w w T m ≤ b1) ∧ ((b1 = b ∧ bits1 = bits) ∨ ∃ T, q_fe m F C R (q_ins (q_px S M x) x) (fun u => q_re S M x u && !(q_re S M x u && q_bb m C R x (q_px S M x) u)) T ∧ b1 = q_w w T m ∧ bits1 = q_mk T m ∧ b < b1) := by
    rcases sp1 with ⟨h1, h2⟩ | ⟨T, h1, h2, h3, h4⟩
    · exact ⟨b, bits, h1, Int.le_refl b, hb2, h2, Or.inl ⟨rfl, rfl⟩⟩
    · exact ⟨q_w w T m, q_mk T m, h2, by omega, by have := hB T; omega, h4, Or.inr ⟨T, h1, rfl, rfl, h3⟩⟩
  obtain ⟨r2, hr2, sp2⟩ := ih (q_px S M x) (q_re S M x) b1 bits1 (by omega) hb12 hP (fun u hu h => ⟨(hre u hu h).1, (hre u hu h).2, (hSM u hu ((hri u hu).mp h).1).2.2⟩) (fun u hu h => by
    have := (hri u hu).mp h
    omega)
  refine ⟨r2, ?_, ?_⟩
  · have er : q_mk (fun j => (M j && !q_px S M x j) && !(j == x)) m = q_mk (q_re S M x) m := rfl
    rw [B_X2_search_69, if_pos (nI_lt hx (by omega)), q_barC hm hx hc hn, ob, q_dif _ _ (by omega), q_del _ (by omega) (by omega), er, q_and _ _ (by omega), q_weigh hm hw, ob, q_dif _ _ (by omega), q_insm _ (by omega) hx, nI_1, iI_sub, e1, hr1, ob, ix_in hin, nI_clamp (by omega), hw x hx, iI_sub, e2]
    rw [hr2]
    rfl
  · have hle : ∀ T, q_fe m F C R S M T → (∀ T', q_fe m F C R (q_px S M x) (q_re S M x) T' → q_w w T' m ≤ b1) → q_w w T m ≤ b1 := fun T hT h2 => by
      obtain ⟨T', h3, h4⟩ := hcomp T hT
      rcases h4 with h4 | h4
      · have := hall1 T' h4; omega
      · have := h2 T' h4; omega
    rcases sp2 with ⟨h1, h2⟩ | ⟨T, h1, h2, h3, h4⟩
    · rcases hor1 with ⟨h3, h4⟩ | ⟨T, h3, h4, h5, h6⟩
      · exact Or.inl ⟨by rw [h1, h3, h4], fun T hT => by have := hle T hT h2; omega⟩
      · exact Or.inr ⟨T, hf1 T h3, by rw [h1, h4, h5], by omega, fun T' hT' => by have := hle T' hT' h2; omega⟩
    · refine Or.inr ⟨T, hf2 T h1, h2, by omega, fun T' hT' => ?_⟩
      obtain ⟨T2, h5, h6⟩ := hcomp T' hT'
      rcases h6 with h6 | h6
      · have := hall1 T2 h6; omega
      · have := h4 T2 h6; omega
theorem q_search (sy : q_sy C R) (hm : m ≤ 16) (hc : ∀ j, j < m → c j = q_mk (C j) m) (hn : ∀ j, j < m → n j = q_mk (R j) m) (hw : ∀ j, j < m → wt j = iI (w j)) (hwb : ∀ i, i < m → -8388608 ≤ w i ∧ w i ≤ 8388608) :
    ∀ (D i : Nat) (S M : Nat → Bool) (b : Int) (bits : Int32), m - i < D → i ≤ m → -1073741824 ≤ b → b ≤ 268435456 → q_law m F C R S → (∀ u, u < m → M u = true → S u = false ∧ q_law m F C R (q_ins S u) ∧ 0 < w u) → (∀ u, u < m → M u = true → i ≤ u) →
    ∃ r, M_X2_search D (iI b) bits (nI m) c n wt (nI i) (q_mk S m) (q_mk M m) (iI (q_w w (fun u => S u || M u) m)) = some r ∧ q_sp m F C R w S M b bits r := by
  have hB : ∀ P, -134217728 ≤ q_w w P m ∧ q_w w P m ≤ 134217728 := fun P => by
    have := q_w_b (w := w) P hwb
    omega
  intro D
  induction D with
  | zero => intro i S M b bits h; omega
  | succ D ih =>
    intro i S M b bits hD him hb1 hb2 hS hSM hMi
    have hF : M_X2_search (D + 1) (iI b) bits (nI m) c n wt (nI i) (q_mk S m) (q_mk M m) (iI (q_w w (fun u => S u || M u) m)) = F_X2_search (M_X2_search D) (iI b) bits (nI m) c n wt (nI i) (q_mk S m) (q_mk M m) (iI (q_w w (fun u => S u || M u) m)) := rfl
    have htop : ∀ T, q_fe m F C R S M T → q_w w T m ≤ q_w w (fun u => S u || M u) m := fun T hT => q_w_le (fun u hu h => by
      rcases hT.2.1 u hu h with h | h <;> simp [h]) (fun u hu h h2 => by
      rw [Bool.or_eq_true] at h
      rcases h with h | h
      · rw [hT.1 u hu h] at h2; cases h2
      · have := (hSM u hu h).2.2; omega)
    have hBG := hB (fun u => S u || M u)
    rw [hF, F_X2_search]
    by_cases hlt : b < q_w w (fun u => S u || M u) m
    · rw [if_pos ((iI_lt (by omega) (by omega) (by omega) (by omega)).mpr hlt)]
      obtain ⟨r, er, hr⟩ := lp_invK (body := fun z : Int32 × Int32 => L_X2_search_16 (M_X2_search D) (q_mk S m) (q_mk M m) (iI (q_w w (fun u => S u || M u) m)) (iI b) bits (nI m) c n wt z.1 z.2)
        (fun j z => z = (nI (i + j), q_mk (q_px S M (i + j)) m) ∧ ∀ u, u < m → u < i + j → M u = true → q_un m C R (fun v => S v || M v) u)
        (fun r => q_sp m F C R w S M b bits r) (m - i) (by omega) (by
        rintro j z hj ⟨rfl, hun⟩
        have hx : i + j < m := by omega
        show (∃ z', L_X2_search_16 (M_X2_search D) (q_mk S m) (q_mk M m) (iI (q_w w (fun u => S u || M u) m)) (iI b) bits (nI m) c n wt (nI (i + j)) (q_mk (q_px S M (i + j)) m) = some (Sum.inl z') ∧ _) ∨ (∃ t, L_X2_search_16 (M_X2_search D) (q_mk S m) (q_mk M m) (iI (q_w w (fun u => S u || M u) m)) (iI b) bits (nI m) c n wt (nI (i + j)) (q_mk (q_px S M (i + j)) m) = some (Sum.inr t) ∧ _)
        rw [L_X2_search_16, if_neg (nle hx (by omega)), q_has _ (by omega), ob, q_bt _ (by omega), decide_eq_true hx, Bool.true_and, B_X2_search_52, q_px_s hm hx, nI_1]
        cases hM : M (i + j) with
        | false =>
          left
          rw [nb0]
          refine ⟨_, rfl, rfl, fun u hu h hMu => ?_⟩
          rcases Nat.lt_or_ge u (i + j) with h2 | h2
          · exact hun u hu h2 hMu
          · have : u = i + j := by omega
            rw [this, hM] at hMu; cases hMu
        | true =>
          rw [if_pos rfl, if_neg (by decide), q_or S M (by omega), q_tangC hm hc hn hx, ob]
          cases ht : q_tg m C R (i + j) (fun u => S u || M u) with
          | false =>
            left
            rw [nb0]
            refine ⟨_, rfl, rfl, fun u hu h hMu => ?_⟩
            rcases Nat.lt_or_ge u (i + j) with h2 | h2
            · exact hun u hu h2 hMu
            · have : u = i + j := by omega
              rw [this]; exact q_tg_un ht
          | true =>
            right
            rw [if_pos rfl, if_neg (by decide)]
            obtain ⟨r, hr, hsp⟩ := q_sr_two sy hm hc hn hw hwb hx (fun S' M' b' bits' a1 a2 a3 a4 a5 => ih (i + j + 1) S' M' b' bits' (by omega) (by omega) a1 a2 a3 a4 a5) hM hS hSM hun hb1 hb2 (bits := bits)
            exact ⟨r, by rw [hr]; rfl, hsp⟩) (by
        rintro z ⟨rfl, hun⟩
        have hx : i + (m - i) = m := by omega
        rw [hx] at hun ⊢
        obtain ⟨r, hr, hsp⟩ := q_sr_end (c := c) (n := n) (wt := wt) sy hm hS hSM hun hlt htop (M_X2_search D) (bits := bits)
        refine ⟨r, ?_, hsp⟩
        show L_X2_search_16 (M_X2_search D) (q_mk S m) (q_mk M m) (iI (q_w w (fun u => S u || M u) m)) (iI b) bits (nI m) c n wt (nI m) (q_mk (q_px S M m) m) = _
        rw [L_X2_search_16, if_pos (nI_le (Nat.le_refl m) (by omega)), hr]
        rfl) (nI i, q_mk S m) ⟨by
          rw [Nat.add_zero]
          congr 1
          apply q_mkcg
          intro u hu
          unfold q_px
          cases hM : M u with
          | false => simp
          | true => rw [decide_eq_false (by have := hMi u hu hM; omega)]; simp, fun u hu h hM => by have := hMi u hu hM; omega⟩
      exact ⟨r, er, hr⟩
    · rw [if_neg (fun h => hlt ((iI_lt (by omega) (by omega) (by omega) (by omega)).mp h))]
      exact ⟨_, rfl, Or.inl ⟨rfl, fun T hT => by have := htop T hT; omega⟩⟩
end SR
