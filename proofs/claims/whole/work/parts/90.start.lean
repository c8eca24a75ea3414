/-! What lies still at the law's entry -/
def tmS : Nat → Term := fun i => Term.string "NoneWithin$ShopReader" (if i = 0 then 51 else if i = 1 then 72 else 77)
abbrev tmA : Term := Term.static "NoneWithin$LawTable" "ALL" "[I"
abbrev tmV (i : Nat) : Term := Term.field (tmS i) "java/lang/String" "value" "[B"
set_option maxHeartbeats 4000000 in
set_option maxRecDepth 100000 in
theorem st_S {s : State} {b : Nat} (hs : ∀ w ∈ flatC (Jvm.Cond.and given_1 narrow_1), w.before #[Value.ref b] s = true) : ∃ adK adV : Nat → Nat, vk_S 3 gsL gsB adK adV (fun q => s.heap.size ≤ q) s s.heap ∧ ∀ i : Nat, i < 3 → (tmS i).eval #[Value.ref b] s none [] s = some (.ref (adK i)) := by
  refine vk_Sof (N := 3) (tm := tmS) (len := gsL) (byt := gsB) (args := #[Value.ref b]) (s := s) ?_ ?_ ?_ ?_ ?_ ?_ ?_ (fun a h => Nat.not_le.mpr h)
  · intro i hi
    rcases (show i = 0 ∨ i = 1 ∨ i = 2 by omega) with rfl | rfl | rfl <;> decide
  · intro i hi
    rcases (show i = 0 ∨ i = 1 ∨ i = 2 by omega) with rfl | rfl | rfl
    · exact hs (.exactly (tmS 0) "java/lang/String") (by decide +kernel)
    · exact hs (.exactly (tmS 1) "java/lang/String") (by decide +kernel)
    · exact hs (.exactly (tmS 2) "java/lang/String") (by decide +kernel)
  · intro i hi
    rcases (show i = 0 ∨ i = 1 ∨ i = 2 by omega) with rfl | rfl | rfl
    · exact hs (.eq (.field (tmS 0) "java/lang/String" "coder" "B") (.int 0)) (by decide +kernel)
    · exact hs (.eq (.field (tmS 1) "java/lang/String" "coder" "B") (.int 0)) (by decide +kernel)
    · exact hs (.eq (.field (tmS 2) "java/lang/String" "coder" "B") (.int 0)) (by decide +kernel)
  · intro i hi
    rcases (show i = 0 ∨ i = 1 ∨ i = 2 by omega) with rfl | rfl | rfl
    · exact hs (.arrayOf (tmV 0) .byte) (by decide +kernel)
    · exact hs (.arrayOf (tmV 1) .byte) (by decide +kernel)
    · exact hs (.arrayOf (tmV 2) .byte) (by decide +kernel)
  · intro i hi
    rcases (show i = 0 ∨ i = 1 ∨ i = 2 by omega) with rfl | rfl | rfl
    · exact hs (.eq (.length (tmV 0)) (.int 5)) (by decide +kernel)
    · exact hs (.eq (.length (tmV 1)) (.int 5)) (by decide +kernel)
    · exact hs (.eq (.length (tmV 2)) (.int 3)) (by decide +kernel)
  · intro i hi j hj
    rcases (show i = 0 ∨ i = 1 ∨ i = 2 by omega) with rfl | rfl | rfl
    · have hj : j < 5 := hj
      rcases (show j = 0 ∨ j = 1 ∨ j = 2 ∨ j = 3 ∨ j = 4 by omega) with rfl | rfl | rfl | rfl | rfl
      · exact hs (.eq (.elem (tmV 0) (.int 0)) (.int 115)) (by decide +kernel)
      · exact hs (.eq (.elem (tmV 0) (.int 1)) (.int 111)) (by decide +kernel)
      · exact hs (.eq (.elem (tmV 0) (.int 2)) (.int 114)) (by decide +kernel)
      · exact hs (.eq (.elem (tmV 0) (.int 3)) (.int 116)) (by decide +kernel)
      · exact hs (.eq (.elem (tmV 0) (.int 4)) (.int 115)) (by decide +kernel)
    · have hj : j < 5 := hj
      rcases (show j = 0 ∨ j = 1 ∨ j = 2 ∨ j = 3 ∨ j = 4 by omega) with rfl | rfl | rfl | rfl | rfl
      · exact hs (.eq (.elem (tmV 1) (.int 0)) (.int 115)) (by decide +kernel)
      · exact hs (.eq (.elem (tmV 1) (.int 1)) (.int 105)) (by decide +kernel)
      · exact hs (.eq (.elem (tmV 1) (.int 2)) (.int 122)) (by decide +kernel)
      · exact hs (.eq (.elem (tmV 1) (.int 3)) (.int 101)) (by decide +kernel)
      · exact hs (.eq (.elem (tmV 1) (.int 4)) (.int 115)) (by decide +kernel)
    · have hj : j < 3 := hj
      rcases (show j = 0 ∨ j = 1 ∨ j = 2 by omega) with rfl | rfl | rfl
      · exact hs (.eq (.elem (tmV 2) (.int 0)) (.int 98)) (by decide +kernel)
      · exact hs (.eq (.elem (tmV 2) (.int 1)) (.int 111)) (by decide +kernel)
      · exact hs (.eq (.elem (tmV 2) (.int 2)) (.int 120)) (by decide +kernel)
  · intro i j hi hj hn
    rcases (show i = 0 ∨ i = 1 ∨ i = 2 by omega) with rfl | rfl | rfl <;> rcases (show j = 0 ∨ j = 1 ∨ j = 2 by omega) with rfl | rfl | rfl
    · exact absurd rfl hn
    · exact Or.inl (hs (.not (.eq (tmS 0) (tmS 1))) (by decide +kernel))
    · exact Or.inl (hs (.not (.eq (tmS 0) (tmS 2))) (by decide +kernel))
    · exact Or.inr (hs (.not (.eq (tmS 0) (tmS 1))) (by decide +kernel))
    · exact absurd rfl hn
    · exact Or.inl (hs (.not (.eq (tmS 1) (tmS 2))) (by decide +kernel))
    · exact Or.inr (hs (.not (.eq (tmS 0) (tmS 2))) (by decide +kernel))
    · exact Or.inr (hs (.not (.eq (tmS 1) (tmS 2))) (by decide +kernel))
    · exact absurd rfl hn
set_option maxHeartbeats 4000000 in
set_option maxRecDepth 100000 in
theorem st_T {s : State} {b : Nat} (hs : ∀ w ∈ flatC (Jvm.Cond.and given_1 narrow_1), w.before #[Value.ref b] s = true) : ∃ t : Nat, tmA.eval #[Value.ref b] s none [] s = some (.ref t) ∧ va_T .int t 16 (fun j => .int (nI j)) (fun q => s.heap.size ≤ q) s s.heap := by
  refine va_Tof (N := 16) (f := fun j => .int (nI j)) (by decide) (hs (.arrayOf tmA .int) (by decide +kernel)) (va_eqt (hs (.eq (.length tmA) (.int 16)) (by decide +kernel))) ?_ (fun a h => Nat.not_le.mpr h)
  intro j hj
  rcases (show j = 0 ∨ j = 1 ∨ j = 2 ∨ j = 3 ∨ j = 4 ∨ j = 5 ∨ j = 6 ∨ j = 7 ∨ j = 8 ∨ j = 9 ∨ j = 10 ∨ j = 11 ∨ j = 12 ∨ j = 13 ∨ j = 14 ∨ j = 15 by omega) with rfl | rfl | rfl | rfl | rfl | rfl | rfl | rfl | rfl | rfl | rfl | rfl | rfl | rfl | rfl | rfl
  · exact va_eqt (hs (.eq (.elem tmA (.int 0)) (.int 0)) (by decide +kernel))
  · exact va_eqt (hs (.eq (.elem tmA (.int 1)) (.int 1)) (by decide +kernel))
  · exact va_eqt (hs (.eq (.elem tmA (.int 2)) (.int 2)) (by decide +kernel))
  · exact va_eqt (hs (.eq (.elem tmA (.int 3)) (.int 3)) (by decide +kernel))
  · exact va_eqt (hs (.eq (.elem tmA (.int 4)) (.int 4)) (by decide +kernel))
  · exact va_eqt (hs (.eq (.elem tmA (.int 5)) (.int 5)) (by decide +kernel))
  · exact va_eqt (hs (.eq (.elem tmA (.int 6)) (.int 6)) (by decide +kernel))
  · exact va_eqt (hs (.eq (.elem tmA (.int 7)) (.int 7)) (by decide +kernel))
  · exact va_eqt (hs (.eq (.elem tmA (.int 8)) (.int 8)) (by decide +kernel))
  · exact va_eqt (hs (.eq (.elem tmA (.int 9)) (.int 9)) (by decide +kernel))
  · exact va_eqt (hs (.eq (.elem tmA (.int 10)) (.int 10)) (by decide +kernel))
  · exact va_eqt (hs (.eq (.elem tmA (.int 11)) (.int 11)) (by decide +kernel))
  · exact va_eqt (hs (.eq (.elem tmA (.int 12)) (.int 12)) (by decide +kernel))
  · exact va_eqt (hs (.eq (.elem tmA (.int 13)) (.int 13)) (by decide +kernel))
  · exact va_eqt (hs (.eq (.elem tmA (.int 14)) (.int 14)) (by decide +kernel))
  · exact va_eqt (hs (.eq (.elem tmA (.int 15)) (.int 15)) (by decide +kernel))
set_option maxHeartbeats 4000000 in
set_option maxRecDepth 100000 in
theorem st_GS {s : State} {b : Nat} (hts : ∀ w ∈ lw_tbl, w.before #[Value.ref b] s = true) (hgv : (Jvm.Cond.and given_1 narrow_1).before #[Value.ref b] s = true) : ∃ gx : GX, GS gx (fun q => s.heap.size ≤ q) s s.heap := by
  have hs := flat_of_before _ hgv
  obtain ⟨adK, adV, hS, hE⟩ := st_S hs
  obtain ⟨t, ht, hT⟩ := st_T hs
  have hA : ∀ a : Nat, a < s.heap.size → ¬ s.heap.size ≤ a := fun a h => Nat.not_le.mpr h
  refine ⟨(adK, adV, t), hS, ⟨?_, ?_, ?_⟩, ?_, ?_, hT, ?_, ?_⟩
  · exact vk_R.of (hts (.stringRef RX7 51 "sorts") (by decide +kernel)) (hE 0 (by decide))
  · exact vk_R.of (hts (.stringRef RX7 72 "sizes") (by decide +kernel)) (hE 1 (by decide))
  · exact vk_R.of (hts (.stringRef RX7 77 "box") (by decide +kernel)) (hE 2 (by decide))
  · exact va_Zof (hts (.laysStatic "java/lang/String" "COMPACT_STRINGS" "Z") (by decide +kernel)) (hts (.initialized "java/lang/String") (by decide +kernel)) (va_eqt (hs (.eq (.static "java/lang/String" "COMPACT_STRINGS" "Z") (.int 1)) (by decide +kernel))) hA
  · exact va_Zof (hts (.laysStatic RX3 "ALL" "[I") (by decide +kernel)) (hts (.initialized RX3) (by decide +kernel)) ht hA
  · exact va_Zqof (hts (.laysStatic "jdk/internal/util/Preconditions" "SIOOBE_FORMATTER" "Ljava/util/function/BiFunction;") (by decide +kernel)) (hts (.initialized "jdk/internal/util/Preconditions") (by decide +kernel)) (hs (.isRef (.static "jdk/internal/util/Preconditions" "SIOOBE_FORMATTER" "Ljava/util/function/BiFunction;")) (by decide +kernel)) hA
  · exact va_AO.of (hts (.arrayOver (.object RX1)) (by decide +kernel))
set_option maxHeartbeats 4000000 in
set_option maxRecDepth 100000 in
theorem st_GN {s : State} {b : Nat} (hts : ∀ w ∈ lw_tbl, w.before #[Value.ref b] s = true) : GN s :=
  ⟨va_Nw.of rfl (hts (.methodLinkNest RX7 106 yX8_between RX8) (by decide +kernel)), va_Nw.of rfl (hts (.methodLinkNest RX3 85 yX8_between RX8) (by decide +kernel)), va_Nw.of rfl (hts (.methodLinkNest RX3 92 yX8_within RX8) (by decide +kernel)), va_Nw.of rfl (hts (.methodLinkNest RX3 60 yX8_has RX8) (by decide +kernel)),
   va_Nw.of rfl (hts (.methodLinkNest RX2 26 yX8_between RX8) (by decide +kernel)), va_Nw.of rfl (hts (.methodLinkNest RX2 54 yX8_has RX8) (by decide +kernel)), va_Nw.of rfl (hts (.methodLinkNest RX4 66 yX8_has RX8) (by decide +kernel)), va_Nw.of rfl (hts (.methodLinkNest RX5 66 yX8_has RX8) (by decide +kernel))⟩
theorem st_arr {s : State} {b : Nat} {ty : FieldType} (h : (Cond.arrayClass ty).before #[Value.ref b] s = true) (hra : ∀ cA, s.vm.findClass ("[" ++ ty.toString) = some cA → va_RA s cA ty) : ∃ cA : ClassId, ArrOfT s cA ty ∧ va_RA s cA ty := by
  obtain ⟨c, k, comp, h1, h2, h3⟩ := Cond.arrayClass_spec h
  exact ⟨c, fun n z => ⟨fun k h => (by cases h), k, h2, comp, h3⟩, hra c h1⟩
set_option maxHeartbeats 4000000 in
set_option maxRecDepth 100000 in
theorem st_K {s : State} {b : Nat} (hts : ∀ w ∈ lw_tbl, w.before #[Value.ref b] s = true) : ∃ (dC : Nat → ClassId) (dI : Nat → Nat → Nat) (cI cJ cZ cQ : ClassId), va_K (dC, dI) classes (tysN cI cJ cZ cQ) s := by
  obtain ⟨cI, hI1, hI2⟩ := st_arr (hts (.arrayClass .int) (by decide +kernel)) (fun cA h => h)
  obtain ⟨cJ, hJ1, hJ2⟩ := st_arr (hts (.arrayClass .long) (by decide +kernel)) (fun cA h => h)
  obtain ⟨cZ, hZ1, hZ2⟩ := st_arr (hts (.arrayClass .boolean) (by decide +kernel)) (fun cA h => h)
  obtain ⟨comp, cQ, kQ, q1, -, q3, q4, q5⟩ := Cond.arrayOver_spec (n := RX1) (hts (.arrayOver (.object RX1)) (by decide +kernel))
  have hk : ∀ k : Nat, ∃ z : ClassId × (Nat → Nat), ∀ q : vw_C, classes[k]? = some q → u_Kn s q.1 q.2.1 q.2.2 z.1 z.2 := by
    intro k
    match k with
    | 0 => obtain ⟨a, i, h⟩ := u_known (C := RX0) (T := TX0) (N := 2) hts (fun w h => (lic_X0 w h).1) (hts (.instantiable RX0 2) (by decide +kernel)); exact ⟨(a, i), fun q hq => by cases hq; exact h⟩
    | 1 => obtain ⟨a, i, h⟩ := u_known (C := RX1) (T := TX1) (N := 3) hts (fun w h => (lic_X1 w h).1) (hts (.instantiable RX1 3) (by decide +kernel)); exact ⟨(a, i), fun q hq => by cases hq; exact h⟩
    | 2 => obtain ⟨a, i, h⟩ := u_known (C := RX2) (T := TX2) (N := 4) hts (fun w h => (lic_X2 w h).1) (hts (.instantiable RX2 4) (by decide +kernel)); exact ⟨(a, i), fun q hq => by cases hq; exact h⟩
    | 3 => obtain ⟨a, i, h⟩ := u_known (C := RX3) (T := TX3) (N := 8) hts (fun w h => (lic_X3 w h).1) (hts (.instantiable RX3 8) (by decide +kernel)); exact ⟨(a, i), fun q hq => by cases hq; exact h⟩
    | 4 => obtain ⟨a, i, h⟩ := u_known (C := RX4) (T := TX4) (N := 5) hts (fun w h => (lic_X4 w h).1) (hts (.instantiable RX4 5) (by decide +kernel)); exact ⟨(a, i), fun q hq => by cases hq; exact h⟩
    | 5 => obtain ⟨a, i, h⟩ := u_known (C := RX5) (T := TX5) (N := 6) hts (fun w h => (lic_X5 w h).1) (hts (.instantiable RX5 6) (by decide +kernel)); exact ⟨(a, i), fun q hq => by cases hq; exact h⟩
    | 6 => obtain ⟨a, i, h⟩ := u_known (C := RX6) (T := TX6) (N := 6) hts (fun w h => (lic_X6 w h).1) (hts (.instantiable RX6 6) (by decide +kernel)); exact ⟨(a, i), fun q hq => by cases hq; exact h⟩
    | 7 => obtain ⟨a, i, h⟩ := u_known (C := RX7) (T := TX7) (N := 6) hts (fun w h => (lic_X7 w h).1) (hts (.instantiable RX7 6) (by decide +kernel)); exact ⟨(a, i), fun q hq => by cases hq; exact h⟩
    | 8 => obtain ⟨a, i, h⟩ := u_known (C := RX8) (T := TX8) (N := 17) hts (fun w h => (lic_X8 w h).1) (hts (.instantiable RX8 17) (by decide +kernel)); exact ⟨(a, i), fun q hq => by cases hq; exact h⟩
    | 9 => obtain ⟨a, i, h⟩ := u_known (C := RX9) (T := TX9) (N := 51) hts (fun w h => (lic_X9 w h).1) (hts (.instantiable RX9 51) (by decide +kernel)); exact ⟨(a, i), fun q hq => by cases hq; exact h⟩
    | k + 10 => exact ⟨(0, fun _ => 0), fun q hq => by simp [classes] at hq⟩
  obtain ⟨z, hz⟩ := Classical.skolem.mp hk
  refine ⟨fun k => (z k).1, fun k => (z k).2, cI, cJ, cZ, cQ, fun k q hq => hz k q hq, fun k q hq => ?_⟩
  match k, hq with
  | 0, hq => cases hq; exact ⟨hI1, hI2⟩
  | 1, hq => cases hq; exact ⟨hJ1, hJ2⟩
  | 2, hq => cases hq; exact ⟨hZ1, hZ2⟩
  | 3, hq => cases hq; exact ⟨fun n z => ⟨fun k h => (by cases h), kQ, q3, comp, q4⟩, kQ, comp, q3, q4, q1, q5⟩
  | k + 4, hq => simp [tysN] at hq
