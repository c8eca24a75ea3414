/-! Small things about the shadows -/
theorem bw (x lo hi : Int32) : M_X8_between x lo hi = some (if lo ≤ x ∧ x ≤ hi then 1 else 0) := by
  unfold M_X8_between
  by_cases h1 : x < lo
  · rw [if_pos h1, if_neg (fun h => absurd h.1 (Int32.not_le.mpr h1))]
  · rw [if_neg h1]
    by_cases h2 : hi < x
    · rw [if_pos h2, if_neg (fun h => absurd h.2 (Int32.not_le.mpr h2))]
    · rw [if_neg h2, if_pos ⟨Int32.not_lt.mp h1, Int32.not_lt.mp h2⟩]
theorem lg_lt0 {a b : Int64} : lg_cmp a b < 0 ↔ a < b := by
  unfold lg_cmp
  by_cases h : a > b
  · rw [if_pos h]
    exact ⟨fun c => absurd c (by decide), fun c => absurd c (lg_lt_not h)⟩
  · rw [if_neg h]
    by_cases h2 : a = b
    · rw [if_pos h2]
      exact ⟨fun c => absurd c (by decide), fun c => absurd (h2 ▸ c) (Int64.lt_irrefl)⟩
    · rw [if_neg h2]
      refine ⟨fun _ => ?_, fun _ => by decide⟩
      rcases Int64.lt_or_lt_of_ne h2 with h3 | h3
      · exact h3
      · exact absurd h3 h
theorem lg_gt0 {a b : Int64} : 0 < lg_cmp a b ↔ b < a := by
  unfold lg_cmp
  by_cases h : a > b
  · rw [if_pos h]
    exact ⟨fun _ => h, fun _ => by decide⟩
  · rw [if_neg h]
    by_cases h2 : a = b
    · rw [if_pos h2]
      exact ⟨fun c => absurd c (by decide), fun c => absurd c h⟩
    · rw [if_neg h2]
      exact ⟨fun c => absurd c (by decide), fun c => absurd c h⟩
theorem i64_le (x y : Int32) : x.toInt64 ≤ y.toInt64 ↔ x ≤ y := by
  rw [Int64.le_iff_toInt_le, Int32.le_iff_toInt_le, Int32.toInt_toInt64, Int32.toInt_toInt64]
theorem i64_lt (x y : Int32) : x.toInt64 < y.toInt64 ↔ x < y := by
  rw [Int64.lt_iff_toInt_lt, Int32.lt_iff_toInt_lt, Int32.toInt_toInt64, Int32.toInt_toInt64]
theorem in32 (x lo hi : Int32) : M_X9_in x.toInt64 lo.toInt64 hi.toInt64 = some (if lo ≤ x ∧ x ≤ hi then 1 else 0) := by
  unfold M_X9_in
  by_cases h1 : x < lo
  · rw [if_pos (lg_lt0.mpr ((i64_lt _ _).mpr h1)), if_neg (fun h => absurd h.1 (Int32.not_le.mpr h1))]
  · rw [if_neg (fun h => h1 ((i64_lt _ _).mp (lg_lt0.mp h)))]
    by_cases h2 : hi < x
    · rw [if_pos (lg_gt0.mpr ((i64_lt _ _).mpr h2)), if_neg (fun h => absurd h.2 (Int32.not_le.mpr h2))]
    · rw [if_neg (fun h => h2 ((i64_lt _ _).mp (lg_gt0.mp h))), if_pos ⟨Int32.not_lt.mp h1, Int32.not_lt.mp h2⟩]
/-- the reference's 'in' with numbers for its bounds -/
theorem in32n (x lo hi : Int32) (a b : Int64) (ha : a = lo.toInt64) (hb : b = hi.toInt64) : M_X9_in x.toInt64 a b = some (if lo ≤ x ∧ x ≤ hi then 1 else 0) := by
  subst ha; subst hb; exact in32 x lo hi
theorem rf_bad (b f n r : Int32) : M_X8_refuse b f n (-2) r = some (r, b + 1, f, n) := rfl
theorem rf_no (b f n r : Int32) : M_X8_refuse b f n (-3) r = some (r, b, f, n + 1) := rfl
theorem rf_full (b f n r : Int32) : M_X8_refuse b f n (-4) r = some (r, b, f + 1, n) := rfl
theorem rr_bad (g : Nat → Int32) : M_X9_refuse g (-2) = some (-2, upd g 0 (g 0 + 1)) := rfl
theorem rr_no (g : Nat → Int32) : M_X9_refuse g (-3) = some (-3, upd g 1 (g 1 + 1)) := rfl
theorem rr_full (g : Nat → Int32) : M_X9_refuse g (-4) = some (-4, upd g 2 (g 2 + 1)) := rfl
section PI
variable {n low high boxes : Int32} {sets worths alike text : Nat → Int32} {bytes : Int32} {above below : Int64} {bad no full : Int32}
variable {t0 n0 l0 h0 b0 : Int32} {s0 w0 k0 : Nat → Int32} {t1 n1 l1 h1 b1 : Int32} {s1 w1 k1 : Nat → Int32}
variable {n' low' high' boxes' : Int32} {box' worth' alike' text' : Nat → Int32} {size' : Int32} {above' below' : Int64} {refused' images' : Nat → Int32}
theorem inv_bad (h : Inv n low high boxes sets worths alike text bytes above below bad no full t0 n0 l0 h0 b0 s0 w0 k0 t1 n1 l1 h1 b1 s1 w1 k1 n' low' high' boxes' box' worth' alike' text' size' above' below' refused' images') :
    Inv n low high boxes sets worths alike text bytes above below (bad + 1) no full t0 n0 l0 h0 b0 s0 w0 k0 t1 n1 l1 h1 b1 s1 w1 k1 n' low' high' boxes' box' worth' alike' text' size' above' below' (upd refused' 0 (refused' 0 + 1)) images' := by
  obtain ⟨a1, a2, a3, a4, ⟨e1, e2, e3⟩, a6, a7⟩ := h
  exact ⟨a1, a2, a3, a4, ⟨by rw [e1]; exact pk_us.symm, by rw [e2]; exact (pk_un (by decide)).symm, by rw [e3]; exact (pk_un (by decide)).symm⟩, a6, a7⟩
theorem inv_no (h : Inv n low high boxes sets worths alike text bytes above below bad no full t0 n0 l0 h0 b0 s0 w0 k0 t1 n1 l1 h1 b1 s1 w1 k1 n' low' high' boxes' box' worth' alike' text' size' above' below' refused' images') :
    Inv n low high boxes sets worths alike text bytes above below bad (no + 1) full t0 n0 l0 h0 b0 s0 w0 k0 t1 n1 l1 h1 b1 s1 w1 k1 n' low' high' boxes' box' worth' alike' text' size' above' below' (upd refused' 1 (refused' 1 + 1)) images' := by
  obtain ⟨a1, a2, a3, a4, ⟨e1, e2, e3⟩, a6, a7⟩ := h
  exact ⟨a1, a2, a3, a4, ⟨by rw [e1]; exact (pk_un (by decide)).symm, by rw [e2]; exact pk_us.symm, by rw [e3]; exact (pk_un (by decide)).symm⟩, a6, a7⟩
theorem inv_full (h : Inv n low high boxes sets worths alike text bytes above below bad no full t0 n0 l0 h0 b0 s0 w0 k0 t1 n1 l1 h1 b1 s1 w1 k1 n' low' high' boxes' box' worth' alike' text' size' above' below' refused' images') :
    Inv n low high boxes sets worths alike text bytes above below bad no (full + 1) t0 n0 l0 h0 b0 s0 w0 k0 t1 n1 l1 h1 b1 s1 w1 k1 n' low' high' boxes' box' worth' alike' text' size' above' below' (upd refused' 2 (refused' 2 + 1)) images' := by
  obtain ⟨a1, a2, a3, a4, ⟨e1, e2, e3⟩, a6, a7⟩ := h
  exact ⟨a1, a2, a3, a4, ⟨by rw [e1]; exact (pk_un (by decide)).symm, by rw [e2]; exact (pk_un (by decide)).symm, by rw [e3]; exact pk_us.symm⟩, a6, a7⟩
end PI
/-- a number between two -/
theorem nI_btw {x : Int32} {lo hi : Nat} (hh : hi < 2 ^ 31) (h : nI lo ≤ x ∧ x ≤ nI hi) (hlo : lo < 2 ^ 31) : ∃ j : Nat, lo ≤ j ∧ j ≤ hi ∧ x = nI j := by
  have h0 : ¬ x < 0 := by
    intro c
    have h1 := Int32.le_iff_toInt_le.mp h.1
    have h2 := Int32.lt_iff_toInt_lt.mp c
    rw [nI_toInt hlo] at h1
    have h3 : (0 : Int32).toInt = 0 := rfl
    rw [h3] at h2
    omega
  obtain ⟨j, hj, rfl⟩ := nI_of h0
  exact ⟨j, (nI_leI hlo hj).mp h.1, (nI_leI hj hh).mp h.2, rfl⟩
