/-! chance: parts of 8! -/
def q_sm (f : Nat → Nat) : Nat → Nat
  | 0 => 0
  | m + 1 => q_sm f m + f m
theorem q_sm_cg {f g : Nat → Nat} : ∀ {m : Nat}, (∀ j, j < m → f j = g j) → q_sm f m = q_sm g m := by
  intro m
  induction m with
  | zero => intro _; rfl
  | succ m ih => intro h; rw [q_sm, q_sm, ih (fun j hj => h j (by omega)), h m (by omega)]
theorem q_sm_dv {f : Nat → Nat} {a b : Nat} : ∀ {m : Nat}, (∀ j, j < m → a ∣ f j * b) → a ∣ q_sm f m * b := by
  intro m
  induction m with
  | zero => intro _; rw [q_sm, Nat.zero_mul]; exact Nat.dvd_zero a
  | succ m ih => intro h; rw [q_sm, Nat.add_mul]; exact Nat.dvd_add (ih (fun j hj => h j (by omega))) (h m (by omega))
theorem q_sm_le {M : Nat → Bool} {f : Nat → Nat} {b : Nat} : ∀ {m : Nat}, (∀ j, j < m → f j ≤ if M j = true then b else 0) → q_sm f m ≤ q_cnt M m * b := by
  intro m
  induction m with
  | zero => intro _; exact Nat.zero_le _
  | succ m ih =>
    intro h
    have h1 := ih (fun j hj => h j (by omega))
    have h2 := h m (by omega)
    rw [q_sm, q_cnt]
    cases hM : M m with
    | true => rw [hM, if_pos rfl] at h2; rw [if_pos rfl, Nat.add_mul, Nat.one_mul]; omega
    | false => rw [hM, if_neg q_ff] at h2; rw [if_neg q_ff, Nat.add_zero]; omega
def q_fa : Nat → Nat
  | 0 => 1
  | n + 1 => (n + 1) * q_fa n
theorem q_fa_dv : ∀ {a b : Nat}, a ≤ b → q_fa a ∣ q_fa b := by
  intro a b h
  obtain ⟨d, rfl⟩ : ∃ d, b = a + d := ⟨b - a, by omega⟩
  clear h
  induction d with
  | zero => exact Nat.dvd_refl _
  | succ d ih => exact Nat.dvd_trans ih (Nat.dvd_mul_left _ _)
theorem q_fa_pos : ∀ n, 0 < q_fa n := by
  intro n
  induction n with
  | zero => decide
  | succ n ih => exact Nat.mul_pos (Nat.succ_pos n) ih
theorem q_fa_8 : ∀ f, f < 9 → q_fa f ∣ 40320 := by decide
def q_P (m : Nat) (C R : Nat → Nat → Bool) : Nat → (Nat → Bool) → (Nat → Bool) → Nat
  | 0, _, _ => 0
  | d + 1, T, M => q_sm (fun u => if M u = true then 40320 - q_P m C R d (q_ins T u) (q_stp m C R u T M) else 0) m / q_cnt M m
section PT
variable {m : Nat} {C R : Nat → Nat → Bool}
theorem q_bb_cg {S T : Nat → Bool} {i u : Nat} (h : ∀ j, j < m → S j = T j) : q_bb m C R i S u = q_bb m C R i T u := by
  unfold q_bb
  rw [q_ex_cg (P := fun t => S t && R i t && R t u) (Q := fun t => T t && R i t && R t u) (fun j hj => by rw [h j hj])]
theorem q_stp_cg {S T M N : Nat → Bool} {i : Nat} (h : ∀ j, j < m → S j = T j) (h2 : ∀ j, j < m → M j = N j) : ∀ j, j < m → q_stp m C R i S M j = q_stp m C R i T N j := fun j hj => by
  unfold q_stp
  rw [q_bb_cg h, h2 j hj]
theorem q_P_cg : ∀ d (S T M N : Nat → Bool), (∀ j, j < m → S j = T j) → (∀ j, j < m → M j = N j) → q_P m C R d S M = q_P m C R d T N := by
  intro d
  induction d with
  | zero => intros; rfl
  | succ d ih =>
    intro S T M N h h2
    rw [q_P, q_P, q_cnt_cg h2]
    congr 1
    apply q_sm_cg
    intro u hu
    rw [h2 u hu, ih _ _ _ _ (q_ins_cg h) (q_stp_cg h h2)]
theorem q_stp_cnt {T M : Nat → Bool} {u : Nat} (hu : u < m) (hM : M u = true) : q_cnt (q_stp m C R u T M) m + 1 ≤ q_cnt M m := by
  rw [q_cnt_rm hu hM]
  have key : ∀ n, q_cnt (q_stp m C R u T M) n ≤ q_cnt (fun j => M j && !(j == u)) n := by
    intro n
    induction n with
    | zero => exact Nat.le_refl 0
    | succ n ih =>
      rw [q_cnt, q_cnt]
      have : q_stp m C R u T M n = true → (M n && !(n == u)) = true := fun h => by
        unfold q_stp at h
        rw [Bool.and_eq_true] at h
        exact h.1
      cases h1 : q_stp m C R u T M n with
      | true => rw [this h1]; omega
      | false => rw [if_neg q_ff]; split <;> omega
  have := key m
  omega
theorem q_P_st : ∀ d (T M : Nat → Bool), q_cnt M m ≤ d → q_P m C R (d + 1) T M = q_P m C R d T M := by
  intro d
  induction d with
  | zero =>
    intro T M h
    have h0 : q_cnt M m = 0 := by omega
    show q_sm _ m / q_cnt M m = 0
    rw [h0, Nat.div_zero]
  | succ d ih =>
    intro T M h
    rw [q_P, q_P]
    congr 1
    apply q_sm_cg
    intro u hu
    cases hM : M u with
    | false => rfl
    | true =>
      have := q_stp_cnt (C := C) (R := R) (T := T) hu hM
      rw [if_pos rfl, if_pos rfl, ih _ _ (by omega)]
/-- the sum of the parts of those that lose -/
def q_ps (m : Nat) (C R : Nat → Nat → Bool) (d : Nat) (T M : Nat → Bool) (u : Nat) : Nat := if M u = true then 40320 - q_P m C R d (q_ins T u) (q_stp m C R u T M) else 0
theorem q_P_ok : ∀ d (T M : Nat → Bool), q_cnt M m ≤ d → q_cnt M m ≤ 8 → q_P m C R d T M ≤ 40320 ∧ 40320 ∣ q_P m C R d T M * q_fa (q_cnt M m) ∧ (∀ e, d = e + 1 → q_cnt M m * q_P m C R d T M = q_sm (q_ps m C R e T M) m) := by
  intro d
  induction d with
  | zero =>
    intro T M h _
    exact ⟨Nat.zero_le _, by rw [q_P, Nat.zero_mul]; exact Nat.dvd_zero _, fun e he => by omega⟩
  | succ d ih =>
    intro T M h h8
    have hch : ∀ u, u < m → M u = true → q_P m C R d (q_ins T u) (q_stp m C R u T M) ≤ 40320 ∧ 40320 ∣ q_P m C R d (q_ins T u) (q_stp m C R u T M) * q_fa (q_cnt M m - 1) := fun u hu hM => by
      have h1 := q_stp_cnt (C := C) (R := R) (T := T) hu hM
      obtain ⟨a, b, -⟩ := ih (q_ins T u) (q_stp m C R u T M) (by omega) (by omega)
      exact ⟨a, Nat.dvd_trans b (Nat.mul_dvd_mul_left _ (q_fa_dv (by omega)))⟩
    have hle : q_sm (q_ps m C R d T M) m ≤ q_cnt M m * 40320 := q_sm_le (fun u hu => by
      unfold q_ps
      cases M u with
      | true => rw [if_pos rfl, if_pos rfl]; omega
      | false => exact Nat.le_refl 0)
    have hdv : 40320 ∣ q_sm (q_ps m C R d T M) m * q_fa (q_cnt M m - 1) := q_sm_dv (fun u hu => by
      unfold q_ps
      cases hM : M u with
      | true =>
        rw [if_pos rfl, Nat.sub_mul]
        exact Nat.dvd_sub (Nat.dvd_mul_right _ _) (hch u hu hM).2
      | false => rw [if_neg q_ff, Nat.zero_mul]; exact Nat.dvd_zero _)
    have hP : q_P m C R (d + 1) T M = q_sm (q_ps m C R d T M) m / q_cnt M m := rfl
    rw [hP]
    rcases Nat.eq_zero_or_pos (q_cnt M m) with h0 | h0
    · rw [h0, Nat.div_zero]
      refine ⟨Nat.zero_le _, by rw [Nat.zero_mul]; exact Nat.dvd_zero _, fun e he => ?_⟩
      rw [h0, Nat.zero_mul] at hle
      have : e = d := by omega
      subst this
      omega
    · obtain ⟨f, hf⟩ : ∃ f, q_cnt M m = f + 1 := ⟨q_cnt M m - 1, by omega⟩
      rw [hf] at hle hdv h8 ⊢
      rw [Nat.add_sub_cancel] at hdv
      obtain ⟨g, hg⟩ := q_fa_8 (f + 1) (by omega)
      have hfp := q_fa_pos f
      have hfd : f + 1 ∣ q_sm (q_ps m C R d T M) m := by
        rw [hg, show q_fa (f + 1) = (f + 1) * q_fa f from rfl, Nat.mul_assoc, Nat.mul_comm (q_fa f) g, ← Nat.mul_assoc] at hdv
        have := Nat.dvd_of_mul_dvd_mul_right hfp hdv
        exact Nat.dvd_trans (Nat.dvd_mul_right _ _) this
      obtain ⟨q, hq⟩ := hfd
      have hdiv : q_sm (q_ps m C R d T M) m / (f + 1) = q := by rw [hq]; exact Nat.mul_div_cancel_left q (Nat.succ_pos f)
      rw [hdiv]
      refine ⟨?_, ?_, fun e he => ?_⟩
      · rw [hq] at hle
        exact Nat.le_of_mul_le_mul_left hle (Nat.succ_pos f)
      · rw [hq] at hdv
        rw [show q_fa (f + 1) = (f + 1) * q_fa f from rfl, ← Nat.mul_assoc, Nat.mul_comm q (f + 1)]
        exact hdv
      · have : e = d := by omega
        subst this
        exact hq.symm
/-- 8! times the chance that who is on turn wins -/
def q_Pn (m : Nat) (C R : Nat → Nat → Bool) (T M : Nat → Bool) : Nat := q_P m C R 16 T M
theorem q_Pn_ok {T M : Nat → Bool} (h8 : q_cnt M m ≤ 8) : q_Pn m C R T M ≤ 40320 ∧ q_cnt M m * q_Pn m C R T M = q_sm (fun u => if M u = true then 40320 - q_Pn m C R (q_ins T u) (q_stp m C R u T M) else 0) m := by
  have h1 := q_P_ok (C := C) (R := R) 17 T M (by omega) h8
  have h2 := q_P_st (m := m) (C := C) (R := R) 16 T M (by omega)
  rw [h2] at h1
  exact ⟨h1.1, h1.2.2 16 rfl⟩
end PT
theorem q_cnt_sub {M X : Nat → Bool} : ∀ {m : Nat}, (∀ j, j < m → X j = true → M j = true) → q_cnt X m ≤ q_cnt M m := by
  intro m
  induction m with
  | zero => intro _; exact Nat.le_refl 0
  | succ m ih =>
    intro h
    have h1 := ih (fun j hj => h j (by omega))
    rw [q_cnt, q_cnt]
    cases hX : X m with
    | true => rw [h m (by omega) hX]; omega
    | false => rw [if_neg q_ff]; split <;> omega
theorem q_cnt_dis {M X Y : Nat → Bool} : ∀ {m : Nat}, (∀ j, j < m → X j = true → M j = true ∧ Y j = false) → (∀ j, j < m → Y j = true → M j = true) → q_cnt X m + q_cnt Y m ≤ q_cnt M m := by
  intro m
  induction m with
  | zero => intro _ _; exact Nat.le_refl 0
  | succ m ih =>
    intro h h2
    have h1 := ih (fun j hj => h j (by omega)) (fun j hj => h2 j (by omega))
    rw [q_cnt, q_cnt, q_cnt]
    cases hX : X m with
    | true => rw [(h m (by omega) hX).1, (h m (by omega) hX).2, if_pos rfl, if_neg q_ff]; omega
    | false =>
      cases hY : Y m with
      | true => rw [h2 m (by omega) hY, if_neg q_ff, if_pos rfl]; omega
      | false => rw [if_neg q_ff]; split <;> omega
theorem q_cnt_c {M : Nat → Bool} {c : Nat} : ∀ m, q_cnt (fun u => M u && c.testBit (q_cnt M u)) m = q_cnt (fun b => c.testBit b) (q_cnt M m) := by
  intro m
  induction m with
  | zero => rfl
  | succ m ih =>
    rw [q_cnt, ih, q_cnt]
    cases hM : M m with
    | true => rw [if_pos rfl, Bool.true_and, q_cnt]
    | false => rw [Bool.false_and, if_neg q_ff]; rfl
/-- two like fractions in lowest terms -/
theorem q_fr {a b c d : Nat} (hb : 0 < b) (hd : 0 < d) (h : a * d = c * b) : a / Nat.gcd a b = c / Nat.gcd c d ∧ b / Nat.gcd a b = d / Nat.gcd c d := by
  have hg : 0 < Nat.gcd a b := Nat.gcd_pos_of_pos_right a hb
  have hk : 0 < Nat.gcd c d := Nat.gcd_pos_of_pos_right c hd
  obtain ⟨a', ha⟩ := Nat.gcd_dvd_left a b
  obtain ⟨b', hb'⟩ := Nat.gcd_dvd_right a b
  obtain ⟨c', hc⟩ := Nat.gcd_dvd_left c d
  obtain ⟨d', hd'⟩ := Nat.gcd_dvd_right c d
  have ea : a / Nat.gcd a b = a' := Nat.div_eq_of_eq_mul_right hg ha
  have eb : b / Nat.gcd a b = b' := Nat.div_eq_of_eq_mul_right hg hb'
  have ec : c / Nat.gcd c d = c' := Nat.div_eq_of_eq_mul_right hk hc
  have ed : d / Nat.gcd c d = d' := Nat.div_eq_of_eq_mul_right hk hd'
  have g1 : Nat.gcd a' b' = 1 := by
    have := Nat.gcd_div (Nat.gcd_dvd_left a b) (Nat.gcd_dvd_right a b)
    rw [ea, eb, Nat.div_self hg] at this
    exact this
  have g2 : Nat.gcd c' d' = 1 := by
    have := Nat.gcd_div (Nat.gcd_dvd_left c d) (Nat.gcd_dvd_right c d)
    rw [ec, ed, Nat.div_self hk] at this
    exact this
  have hb0 : 0 < b' := by
    rcases Nat.eq_zero_or_pos b' with h0 | h0
    · rw [h0, Nat.mul_zero] at hb'; omega
    · exact h0
  rw [ea, eb, ec, ed]
  have hm : a' * d' = c' * b' := by
    have h1 : Nat.gcd a b * Nat.gcd c d * (a' * d') = Nat.gcd a b * Nat.gcd c d * (c' * b') := by
      have e1 : Nat.gcd a b * Nat.gcd c d * (a' * d') = (Nat.gcd a b * a') * (Nat.gcd c d * d') := by
        rw [Nat.mul_mul_mul_comm]
      have e2 : Nat.gcd a b * Nat.gcd c d * (c' * b') = (Nat.gcd c d * c') * (Nat.gcd a b * b') := by
        rw [Nat.mul_comm (Nat.gcd a b) (Nat.gcd c d), Nat.mul_mul_mul_comm]
      rw [e1, e2, ← ha, ← hd', ← hc, ← hb', h]
    exact Nat.eq_of_mul_eq_mul_left (Nat.mul_pos hg hk) h1
  have d1 : b' ∣ d' := by
    have h1 : b' ∣ a' * d' := ⟨c', by rw [hm, Nat.mul_comm]⟩
    have h2 : b' ∣ d' * a' := by rw [Nat.mul_comm]; exact h1
    have h3 := Nat.dvd_gcd h2 (Nat.dvd_mul_left b' d')
    rw [Nat.gcd_mul_left, g1, Nat.mul_one] at h3
    exact h3
  have d2 : d' ∣ b' := by
    have h2 : d' ∣ b' * c' := ⟨a', by rw [Nat.mul_comm b' c', ← hm, Nat.mul_comm]⟩
    have h3 := Nat.dvd_gcd h2 (Nat.dvd_mul_left d' b')
    rw [Nat.gcd_mul_left, g2, Nat.mul_one] at h3
    exact h3
  have e : b' = d' := Nat.dvd_antisymm d1 d2
  refine ⟨?_, e⟩
  rw [← e] at hm
  exact Nat.eq_of_mul_eq_mul_right hb0 hm
