/-! What is told of a set -/
theorem q_b162 (x1 x5 fe it la mo mm ms rs ri wh : Int32) (wo : Nat → Int32) : B_X9_meets_162 x1 x5 fe it la mo mm ms rs ri wh wo = some (fe, la, mo, mm, ms, (if ri < x5 ∨ (x5 = ri ∧ ¬ rs ≤ x1) then x1 else rs), (if ri < x5 ∨ (x5 = ri ∧ ¬ rs ≤ x1) then x5 else ri), wh) := by
  unfold B_X9_meets_162
  by_cases h1 : ri < x5
  · rw [if_pos h1, if_pos (Or.inl h1), if_pos (Or.inl h1)]; rfl
  · rw [if_neg h1]
    by_cases h2 : x5 = ri
    · rw [if_pos h2]
      by_cases h3 : rs ≤ x1
      · have hn : ¬ (ri < x5 ∨ (x5 = ri ∧ ¬ rs ≤ x1)) := by
          rintro (c | c)
          · exact h1 c
          · exact c.2 h3
        rw [if_pos h3, if_neg hn, if_neg hn]
      · have hp : ri < x5 ∨ (x5 = ri ∧ ¬ rs ≤ x1) := Or.inr ⟨h2, h3⟩
        rw [if_neg h3, if_pos hp, if_pos hp]; rfl
    · have hn : ¬ (ri < x5 ∨ (x5 = ri ∧ ¬ rs ≤ x1)) := by
        rintro (c | c)
        · exact h1 c
        · exact h2 c.1
      rw [if_neg h2, if_neg hn, if_neg hn]
theorem q_b125 (x1 x4 x5 fe it la mo mm ms rs ri wh : Int32) (wo : Nat → Int32) : B_X9_meets_125 x1 x4 x5 fe it la mo mm ms rs ri wh wo = some (fe, la, mo, (if mm < x4 ∨ (x4 = mm ∧ ¬ ms ≤ x1) then x4 else mm), (if mm < x4 ∨ (x4 = mm ∧ ¬ ms ≤ x1) then x1 else ms), (if ri < x5 ∨ (x5 = ri ∧ ¬ rs ≤ x1) then x1 else rs), (if ri < x5 ∨ (x5 = ri ∧ ¬ rs ≤ x1) then x5 else ri), wh) := by
  unfold B_X9_meets_125 B_X9_meets_151
  rw [q_b162, q_b162]
  by_cases h1 : mm < x4
  · rw [if_pos h1, if_pos (Or.inl h1), if_pos (Or.inl h1)]
  · rw [if_neg h1]
    by_cases h2 : x4 = mm
    · rw [if_pos h2]
      by_cases h3 : ms ≤ x1
      · have hn : ¬ (mm < x4 ∨ (x4 = mm ∧ ¬ ms ≤ x1)) := by
          rintro (c | c)
          · exact h1 c
          · exact c.2 h3
        rw [if_pos h3, if_neg hn, if_neg hn]
      · have hp : mm < x4 ∨ (x4 = mm ∧ ¬ ms ≤ x1) := Or.inr ⟨h2, h3⟩
        rw [if_neg h3, if_pos hp, if_pos hp]
    · have hn : ¬ (mm < x4 ∨ (x4 = mm ∧ ¬ ms ≤ x1)) := by
        rintro (c | c)
        · exact h1 c
        · exact h2 c.1
      rw [if_neg h2, if_neg hn, if_neg hn]
def q_sum (V : Nat → Nat) (S : Nat → Bool) : Nat → Nat
  | 0 => 0
  | m + 1 => q_sum V S m + (if S m = true then V m else 0)
theorem q_b74 {m : Nat} (hm : m ≤ 16) {V : Nat → Nat} {wo : Nat → Int32} (S : Nat → Bool) (p2 : Int32) (hV : p2 = 0 → ∀ j, j < m → wo j = nI (V j)) (x4 fe la mo mm ms rs ri wh : Int32) : B_X9_meets_74 (q_mk S m) p2 x4 fe (nI m) la mo mm ms rs ri wh wo = B_X9_meets_125 (q_mk S m) x4 (if p2 = 0 then nI (q_sum V S m) else 0) fe (nI m) la mo mm ms rs ri wh wo := by
  rw [B_X9_meets_74]
  by_cases hp : p2 = 0
  · rw [if_pos hp, q_b125]
    refine lp_runK (fun j => (nI (q_sum V S j), nI j)) m _ (by omega) (fun j hj => ?_) ?_
    · show L_X9_meets_80 (q_mk S m) p2 x4 fe (nI m) la mo mm ms rs ri wh wo (nI (q_sum V S j)) (nI j) = _
      rw [L_X9_meets_80, if_neg (nle hj (by omega)), if_pos hp, B_X9_meets_116, B_X9_meets_116, nI_1]
      cases h : S j with
      | true =>
        rw [if_pos ((q_hasR1 _ (by omega)).mpr (by rw [q_bt _ (by omega), decide_eq_true hj, h]; rfl)), ix_in (vp_in_nI (by omega) (by decide)), nI_clamp (by omega), hV hp j hj, nI_add]
        show _ = some (Sum.inl (nI (q_sum V S j + (if S j = true then V j else 0)), nI (j + 1)))
        rw [h, if_pos rfl]
      | false =>
        rw [if_neg (fun c => by
          have := (q_hasR1 _ (by omega)).mp c
          rw [q_bt _ (by omega), h, Bool.and_false] at this; cases this)]
        show _ = some (Sum.inl (nI (q_sum V S j + (if S j = true then V j else 0)), nI (j + 1)))
        rw [h, if_neg (by decide), Int32.add_zero]
        rfl
    · show L_X9_meets_80 (q_mk S m) p2 x4 fe (nI m) la mo mm ms rs ri wh wo (nI (q_sum V S m)) (nI m) = _
      rw [L_X9_meets_80, if_pos (nI_le (Nat.le_refl m) (by omega)), q_b125]
      rfl
  · rw [if_neg hp, q_b125]
    refine lp_runK (fun _ => ((0 : Int32), (0 : Int32))) 0 _ (by omega) (fun j hj => by omega) ?_
    show L_X9_meets_80 (q_mk S m) p2 x4 fe (nI m) la mo mm ms rs ri wh wo 0 0 = _
    rw [L_X9_meets_80, if_neg hp, q_b125]
    split <;> rfl
def q_mt (m : Nat) (p2 : Int32) (V : Nat → Nat) (S M : Nat → Bool) (a : Q8) : Q8 :=
  (if q_mk M m = 0 then (if a.1 ≤ nI (q_cnt S m) then a.1 else nI (q_cnt S m)) else a.1,
   a.2.1 + 1,
   if q_mk M m = 0 then (if nI (q_cnt S m) ≤ a.2.2.1 then a.2.2.1 else nI (q_cnt S m)) else a.2.2.1,
   if a.2.2.2.1 < nI (q_cnt S m) ∨ (nI (q_cnt S m) = a.2.2.2.1 ∧ ¬ a.2.2.2.2.1 ≤ q_mk S m) then nI (q_cnt S m) else a.2.2.2.1,
   if a.2.2.2.1 < nI (q_cnt S m) ∨ (nI (q_cnt S m) = a.2.2.2.1 ∧ ¬ a.2.2.2.2.1 ≤ q_mk S m) then q_mk S m else a.2.2.2.2.1,
   if a.2.2.2.2.2.2.1 < (if p2 = 0 then nI (q_sum V S m) else 0) ∨ ((if p2 = 0 then nI (q_sum V S m) else 0) = a.2.2.2.2.2.2.1 ∧ ¬ a.2.2.2.2.2.1 ≤ q_mk S m) then q_mk S m else a.2.2.2.2.2.1,
   if a.2.2.2.2.2.2.1 < (if p2 = 0 then nI (q_sum V S m) else 0) ∨ ((if p2 = 0 then nI (q_sum V S m) else 0) = a.2.2.2.2.2.2.1 ∧ ¬ a.2.2.2.2.2.1 ≤ q_mk S m) then (if p2 = 0 then nI (q_sum V S m) else 0) else a.2.2.2.2.2.2.1,
   if q_mk M m = 0 then a.2.2.2.2.2.2.2 + 1 else a.2.2.2.2.2.2.2)
theorem q_mtR {m : Nat} (hm : m ≤ 16) {V : Nat → Nat} {wo : Nat → Int32} (p2 : Int32) (hV : p2 = 0 → ∀ j, j < m → wo j = nI (V j)) (a : Q8) (S M : Nat → Bool) : M_X9_meets a.1 (nI m) a.2.1 a.2.2.1 a.2.2.2.1 a.2.2.2.2.1 a.2.2.2.2.2.1 a.2.2.2.2.2.2.1 a.2.2.2.2.2.2.2 wo (q_mk S m) (q_mk M m) p2 = some (q_mt m p2 V S M a) := by
  obtain ⟨fe, la, mo, mm, ms, rs, ri, wh⟩ := a
  show M_X9_meets fe (nI m) la mo mm ms rs ri wh wo (q_mk S m) (q_mk M m) p2 = _
  rw [M_X9_meets, q_many S (by omega), ob]
  have h49 : ∀ s1 fe', B_X9_meets_49 (q_mk S m) p2 (nI (q_cnt S m)) s1 fe' (nI m) (la + 1) mo mm ms rs ri (wh + 1) wo = B_X9_meets_74 (q_mk S m) p2 (nI (q_cnt S m)) s1 (nI m) (la + 1) (if nI (q_cnt S m) ≤ mo then mo else nI (q_cnt S m)) mm ms rs ri (wh + 1) wo := by
    intro s1 fe'
    unfold B_X9_meets_49 B_X9_meets_71
    split <;> rfl
  unfold q_mt
  dsimp only
  by_cases h : q_mk M m = 0
  · rw [if_pos h, if_pos h, if_pos h, if_pos h, h49, h49, q_b74 hm S p2 hV, q_b74 hm S p2 hV, q_b125, q_b125]
    split <;> rfl
  · rw [if_neg h, if_neg h, if_neg h, if_neg h, q_b74 hm S p2 hV, q_b125]
