def W_X0_init (cI cJ cZ cQ : ClassId) (a_t : Nat) (u : Unit) : va_W := [(a_t, .inr (0, [.long (0 : Int64), .long (1 : Int64)]))]
theorem in_X0_init_X0 : ∀ w ∈ wsX00, w ∈ wsX0_init := fun _ h => List.mem_cons_of_mem _ (List.mem_append_right _ h)
abbrev rm_X0_init : Room := { frames := 1, cells := 0, slots := 0, locals := 12 }
set_option maxHeartbeats 4000000 in
set_option maxRecDepth 100000 in
theorem c_X0_init (l : Launch) (dC : Nat → ClassId) (dI : Nat → Nat → Nat) (cI cJ cZ cQ : ClassId) (gx : GX) (a_t : Nat) (sz : Nat) : Met l yX0_init wsX0_init rm_X0_init (kP dC dI cI cJ cZ cQ gx [.ref a_t] sz [(a_t, .inr (0, [.long 0, .long 0]))]) (kQn dC dI cI cJ cZ cQ (W_X0_init cI cJ cZ cQ a_t ) (va_A [(a_t, .inr (0, [.long 0, .long 0]))] sz)) 0 0 (va_A [(a_t, .inr (0, [.long 0, .long 0]))] sz) := by
  refine nw_entry (y := yX0_init) (ws := wsX0_init) (rm := rm_X0_init) (sz := sz) (wpre := [(a_t, .inr (0, [.long 0, .long 0]))]) (av := [.ref a_t]) (Qc := kQn dC dI cI cJ cZ cQ (W_X0_init cI cJ cZ cQ a_t )) (cc := cX0_init) (own := RX0) [(0, .ref a_t)] (by decide) rfl rfl (Nat.le_of_ble_eq_true rfl) rfl ?_
  intro p e s m below meth c A ls H locs hfix hr hlocks hin0 hsz0 hP hK hD hA hS hN hG hl
  obtain ⟨hx, hb, hml, hown, hts⟩ := id hfix
  refine lv_aload_n hx hb dX0_init_0 rfl (lv_at hl 0 rfl) ?_
  refine W.objInit hx hb hown (hts (.methodLink RX0 1 objectInit) (by decide +kernel)) (hts (.instanceMethod objectInit) (by decide +kernel)) (hts (.code objectInit ⟨#[0xb1]⟩ 1 none) (by decide +kernel)) rfl (by rw [hml]; exact hl.1) rfl dX0_init_1 (Nat.le_of_ble_eq_true rfl) (Nat.le_of_ble_eq_true rfl) ?_
  refine W.eq (g2 := F0 m 4 ls []) rfl ?_
  refine lv_aload_n hx hb dX0_init_4 rfl (lv_at hl 0 rfl) ?_
  refine lv_lconst (v := 0) hx hb dX0_init_5 (by decide) ?_
  refine va_put (D := (dC, dI)) (ci := 0) (v := .long (0 : Int64)) (ty := .long) (C := RX0) (T := TX0) (N := 2) hx hb hts in_X0_init_X0 tyX0 tyX0_ok nmX0 hown hK hP hD hS 0 rfl rfl 0 (by decide) (hts (.fieldLink RX0 7 "NoneWithin$Fraction" "above" "J") (by decide +kernel)) (fun _ h9 => h9) rfl (by decide +kernel) rfl rfl (Nat.le_of_ble_eq_true rfl) dX0_init_6 (fun H locs hP hD hS => ?_)
  have hP : va_P (dC, dI) classes [(a_t, .inr (0, [.long (0 : Int64), .long 0]))] H := hP
  have hD : va_D A [(a_t, .inr (0, [.long (0 : Int64), .long 0]))] := hD
  refine lv_aload_n hx hb dX0_init_9 rfl (lv_at hl 0 rfl) ?_
  refine lv_lconst (v := 1) hx hb dX0_init_10 (by decide) ?_
  refine va_put (D := (dC, dI)) (ci := 0) (v := .long (1 : Int64)) (ty := .long) (C := RX0) (T := TX0) (N := 2) hx hb hts in_X0_init_X0 tyX0 tyX0_ok nmX0 hown hK hP hD hS 0 rfl rfl 1 (by decide) (hts (.fieldLink RX0 13 "NoneWithin$Fraction" "below" "J") (by decide +kernel)) (fun _ h9 => h9) rfl (by decide +kernel) rfl rfl (Nat.le_of_ble_eq_true rfl) dX0_init_11 (fun H locs hP hD hS => ?_)
  have hP : va_P (dC, dI) classes [(a_t, .inr (0, [.long (0 : Int64), .long (1 : Int64)]))] H := hP
  have hD : va_D A [(a_t, .inr (0, [.long (0 : Int64), .long (1 : Int64)]))] := hD
  exact nw_nret (Wf := W_X0_init cI cJ cZ cQ a_t ) () rfl hx hb hr hlocks hK hP hD hS dX0_init_14
def W_X6_init (cI cJ cZ cQ : ClassId) (a_t : Nat) (u : (Nat × Nat)) : va_W := [(a_t, .inr (6, [.int (4 : Int32), .int (0 : Int32), .int (8 : Int32), .int (0 : Int32), .ref u.1, .ref u.2])), (u.1, .inl (cI, 16, .inl (fun _ => 0))), (u.2, .inl (cI, 16, .inl (fun _ => 0)))]
theorem in_X6_init_X6 : ∀ w ∈ wsX60, w ∈ wsX6_init := fun _ h => List.mem_cons_of_mem _ (List.mem_append_right _ h)
abbrev rm_X6_init : Room := { frames := 1, cells := 2, slots := 32, locals := 12 }
set_option maxHeartbeats 4000000 in
set_option maxRecDepth 100000 in
theorem c_X6_init (l : Launch) (dC : Nat → ClassId) (dI : Nat → Nat → Nat) (cI cJ cZ cQ : ClassId) (gx : GX) (a_t : Nat) (sz : Nat) : Met l yX6_init wsX6_init rm_X6_init (kP dC dI cI cJ cZ cQ gx [.ref a_t] sz [(a_t, .inr (6, [.int 0, .int 0, .int 0, .int 0, .null, .null]))]) (kQn dC dI cI cJ cZ cQ (W_X6_init cI cJ cZ cQ a_t ) (va_A [(a_t, .inr (6, [.int 0, .int 0, .int 0, .int 0, .null, .null]))] sz)) 2 32 (va_A [(a_t, .inr (6, [.int 0, .int 0, .int 0, .int 0, .null, .null]))] sz) := by
  refine nw_entry (y := yX6_init) (ws := wsX6_init) (rm := rm_X6_init) (sz := sz) (wpre := [(a_t, .inr (6, [.int 0, .int 0, .int 0, .int 0, .null, .null]))]) (av := [.ref a_t]) (Qc := kQn dC dI cI cJ cZ cQ (W_X6_init cI cJ cZ cQ a_t )) (cc := cX6_init) (own := RX6) [(0, .ref a_t)] (by decide) rfl rfl (Nat.le_of_ble_eq_true rfl) rfl ?_
  intro p e s m below meth c A ls H locs hfix hr hlocks hin0 hsz0 hP hK hD hA hS hN hG hl
  obtain ⟨hx, hb, hml, hown, hts⟩ := id hfix
  refine lv_aload_n hx hb dX6_init_0 rfl (lv_at hl 0 rfl) ?_
  refine W.objInit hx hb hown (hts (.methodLink RX6 3 objectInit) (by decide +kernel)) (hts (.instanceMethod objectInit) (by decide +kernel)) (hts (.code objectInit ⟨#[0xb1]⟩ 1 none) (by decide +kernel)) rfl (by rw [hml]; exact hl.1) rfl dX6_init_1 (Nat.le_of_ble_eq_true rfl) (Nat.le_of_ble_eq_true rfl) ?_
  refine W.eq (g2 := F0 m 4 ls []) rfl ?_
  refine lv_aload_n hx hb dX6_init_4 rfl (lv_at hl 0 rfl) ?_
  refine lv_iconst (v := (4 : Int32)) hx hb dX6_init_5 (by decide) ?_
  refine va_put (D := (dC, dI)) (ci := 6) (v := .int (4 : Int32)) (ty := .int) (C := RX6) (T := TX6) (N := 6) hx hb hts in_X6_init_X6 tyX6 tyX6_ok nmX6 hown hK hP hD hS 0 rfl rfl 0 (by decide) (hts (.fieldLink RX6 9 "NoneWithin$Shop" "n" "I") (by decide +kernel)) (fun _ h9 => h9) rfl (by decide +kernel) rfl rfl (Nat.le_of_ble_eq_true rfl) dX6_init_6 (fun H locs hP hD hS => ?_)
  have hP : va_P (dC, dI) classes [(a_t, .inr (6, [.int (4 : Int32), .int 0, .int 0, .int 0, .null, .null]))] H := hP
  have hD : va_D A [(a_t, .inr (6, [.int (4 : Int32), .int 0, .int 0, .int 0, .null, .null]))] := hD
  refine lv_aload_n hx hb dX6_init_9 rfl (lv_at hl 0 rfl) ?_
  refine lv_iconst (v := (0 : Int32)) hx hb dX6_init_10 (by decide) ?_
  refine va_put (D := (dC, dI)) (ci := 6) (v := .int (0 : Int32)) (ty := .int) (C := RX6) (T := TX6) (N := 6) hx hb hts in_X6_init_X6 tyX6 tyX6_ok nmX6 hown hK hP hD hS 0 rfl rfl 1 (by decide) (hts (.fieldLink RX6 15 "NoneWithin$Shop" "low" "I") (by decide +kernel)) (fun _ h9 => h9) rfl (by decide +kernel) rfl rfl (Nat.le_of_ble_eq_true rfl) dX6_init_11 (fun H locs hP hD hS => ?_)
  have hP : va_P (dC, dI) classes [(a_t, .inr (6, [.int (4 : Int32), .int (0 : Int32), .int 0, .int 0, .null, .null]))] H := hP
  have hD : va_D A [(a_t, .inr (6, [.int (4 : Int32), .int (0 : Int32), .int 0, .int 0, .null, .null]))] := hD
  refine lv_aload_n hx hb dX6_init_14 rfl (lv_at hl 0 rfl) ?_
  refine lv_bipush (v := (8 : Int32)) hx hb dX6_init_15 (by decide) ?_
  refine va_put (D := (dC, dI)) (ci := 6) (v := .int (8 : Int32)) (ty := .int) (C := RX6) (T := TX6) (N := 6) hx hb hts in_X6_init_X6 tyX6 tyX6_ok nmX6 hown hK hP hD hS 0 rfl rfl 2 (by decide) (hts (.fieldLink RX6 18 "NoneWithin$Shop" "high" "I") (by decide +kernel)) (fun _ h9 => h9) rfl (by decide +kernel) rfl rfl (Nat.le_of_ble_eq_true rfl) dX6_init_17 (fun H locs hP hD hS => ?_)
  have hP : va_P (dC, dI) classes [(a_t, .inr (6, [.int (4 : Int32), .int (0 : Int32), .int (8 : Int32), .int 0, .null, .null]))] H := hP
  have hD : va_D A [(a_t, .inr (6, [.int (4 : Int32), .int (0 : Int32), .int (8 : Int32), .int 0, .null, .null]))] := hD
  refine lv_aload_n hx hb dX6_init_20 rfl (lv_at hl 0 rfl) ?_
  refine lv_iconst (v := (0 : Int32)) hx hb dX6_init_21 (by decide) ?_
  refine va_put (D := (dC, dI)) (ci := 6) (v := .int (0 : Int32)) (ty := .int) (C := RX6) (T := TX6) (N := 6) hx hb hts in_X6_init_X6 tyX6 tyX6_ok nmX6 hown hK hP hD hS 0 rfl rfl 3 (by decide) (hts (.fieldLink RX6 21 "NoneWithin$Shop" "boxes" "I") (by decide +kernel)) (fun _ h9 => h9) rfl (by decide +kernel) rfl rfl (Nat.le_of_ble_eq_true rfl) dX6_init_22 (fun H locs hP hD hS => ?_)
  have hP : va_P (dC, dI) classes [(a_t, .inr (6, [.int (4 : Int32), .int (0 : Int32), .int (8 : Int32), .int (0 : Int32), .null, .null]))] H := hP
  have hD : va_D A [(a_t, .inr (6, [.int (4 : Int32), .int (0 : Int32), .int (8 : Int32), .int (0 : Int32), .null, .null]))] := hD
  refine lv_aload_n hx hb dX6_init_25 rfl (lv_at hl 0 rfl) ?_
  refine lv_bipush (v := (16 : Int32)) hx hb dX6_init_26 (by decide) ?_
  refine nw_newI hx hb (hts (.arrayClass .int) (by decide +kernel)) hK hP hD hS hA 16 (by decide) (by decide) (by decide) (Nat.le_of_ble_eq_true rfl) (Nat.le_of_ble_eq_true rfl) dX6_init_28 (fun q28 H hP hD hS => ?_)
  have hP : va_P (dC, dI) classes [(a_t, .inr (6, [.int (4 : Int32), .int (0 : Int32), .int (8 : Int32), .int (0 : Int32), .null, .null])), (q28, .inl (cI, 16, .inl (fun _ => 0)))] H := hP
  have hD : va_D A [(a_t, .inr (6, [.int (4 : Int32), .int (0 : Int32), .int (8 : Int32), .int (0 : Int32), .null, .null])), (q28, .inl (cI, 16, .inl (fun _ => 0)))] := hD
  refine W.widen (k := 1) (n := 16) (Nat.le_of_ble_eq_true rfl) (Nat.le_of_ble_eq_true rfl) ?_
  refine va_putF (D := (dC, dI)) (ci := 6) (v := .ref q28) (ty := (.array .int)) (C := RX6) (T := TX6) (N := 6) hx hb hts in_X6_init_X6 tyX6 tyX6_ok nmX6 hown hK hP hD hS 0 rfl rfl 4 (by decide) (hts (.fieldLink RX6 24 "NoneWithin$Shop" "sets" "[I") (by decide +kernel)) (fun _ h9 => h9) rfl hin0 rfl (by decide +kernel) rfl rfl (Nat.le_of_ble_eq_true rfl) dX6_init_30 (fun H locs hP hD hS => ?_)
  have hP : va_P (dC, dI) classes [(a_t, .inr (6, [.int (4 : Int32), .int (0 : Int32), .int (8 : Int32), .int (0 : Int32), .ref q28, .null])), (q28, .inl (cI, 16, .inl (fun _ => 0)))] H := hP
  have hD : va_D A [(a_t, .inr (6, [.int (4 : Int32), .int (0 : Int32), .int (8 : Int32), .int (0 : Int32), .ref q28, .null])), (q28, .inl (cI, 16, .inl (fun _ => 0)))] := hD
  refine lv_aload_n hx hb dX6_init_33 rfl (lv_at hl 0 rfl) ?_
  refine lv_bipush (v := (16 : Int32)) hx hb dX6_init_34 (by decide) ?_
  refine nw_newI hx hb (hts (.arrayClass .int) (by decide +kernel)) hK hP hD hS hA 16 (by decide) (by decide) (by decide) (Nat.le_of_ble_eq_true rfl) (Nat.le_of_ble_eq_true rfl) dX6_init_36 (fun q36 H hP hD hS => ?_)
  have hP : va_P (dC, dI) classes [(a_t, .inr (6, [.int (4 : Int32), .int (0 : Int32), .int (8 : Int32), .int (0 : Int32), .ref q28, .null])), (q28, .inl (cI, 16, .inl (fun _ => 0))), (q36, .inl (cI, 16, .inl (fun _ => 0)))] H := hP
  have hD : va_D A [(a_t, .inr (6, [.int (4 : Int32), .int (0 : Int32), .int (8 : Int32), .int (0 : Int32), .ref q28, .null])), (q28, .inl (cI, 16, .inl (fun _ => 0))), (q36, .inl (cI, 16, .inl (fun _ => 0)))] := hD
  refine W.widen (k := 2) (n := 32) (Nat.le_of_ble_eq_true rfl) (Nat.le_of_ble_eq_true rfl) ?_
  refine va_putF (D := (dC, dI)) (ci := 6) (v := .ref q36) (ty := (.array .int)) (C := RX6) (T := TX6) (N := 6) hx hb hts in_X6_init_X6 tyX6 tyX6_ok nmX6 hown hK hP hD hS 0 rfl rfl 5 (by decide) (hts (.fieldLink RX6 28 "NoneWithin$Shop" "worths" "[I") (by decide +kernel)) (fun _ h9 => h9) rfl hin0 rfl (by decide +kernel) rfl rfl (Nat.le_of_ble_eq_true rfl) dX6_init_38 (fun H locs hP hD hS => ?_)
  have hP : va_P (dC, dI) classes [(a_t, .inr (6, [.int (4 : Int32), .int (0 : Int32), .int (8 : Int32), .int (0 : Int32), .ref q28, .ref q36])), (q28, .inl (cI, 16, .inl (fun _ => 0))), (q36, .inl (cI, 16, .inl (fun _ => 0)))] H := hP
  have hD : va_D A [(a_t, .inr (6, [.int (4 : Int32), .int (0 : Int32), .int (8 : Int32), .int (0 : Int32), .ref q28, .ref q36])), (q28, .inl (cI, 16, .inl (fun _ => 0))), (q36, .inl (cI, 16, .inl (fun _ => 0)))] := hD
  exact nw_nret (Wf := W_X6_init cI cJ cZ cQ a_t ) (q28, q36) rfl hx hb hr hlocks hK hP hD hS dX6_init_41
def W_X1_init (cI cJ cZ cQ : ClassId) (a_t : Nat) (u : (Nat × Nat × Nat × Nat)) : va_W := [(a_t, .inr (1, [.int (0 : Int32), .ref u.1, .ref u.2.2.2])), (u.1, .inr (6, [.int (4 : Int32), .int (0 : Int32), .int (8 : Int32), .int (0 : Int32), .ref u.2.1, .ref u.2.2.1])), (u.2.1, .inl (cI, 16, .inl (fun _ => 0))), (u.2.2.1, .inl (cI, 16, .inl (fun _ => 0))), (u.2.2.2, .inl (cI, 8, .inl (fun _ => 0)))]
theorem in_X1_init_X1 : ∀ w ∈ wsX10, w ∈ wsX1_init := fun _ h => List.mem_cons_of_mem _ (List.mem_append_left _ (List.mem_append_right _ h))
theorem in_X1_init_X6 : ∀ w ∈ wsX60, w ∈ wsX1_init := fun _ h => List.mem_cons_of_mem _ (List.mem_append_right _ h)
abbrev rm_X1_init : Room := { frames := 2, cells := 4, slots := 46, locals := 32 }
set_option maxHeartbeats 4000000 in
set_option maxRecDepth 100000 in
theorem c_X1_init (l : Launch) (dC : Nat → ClassId) (dI : Nat → Nat → Nat) (cI cJ cZ cQ : ClassId) (gx : GX) (a_t : Nat) (sz : Nat) : Met l yX1_init wsX1_init rm_X1_init (kP dC dI cI cJ cZ cQ gx [.ref a_t] sz [(a_t, .inr (1, [.int 0, .null, .null]))]) (kQn dC dI cI cJ cZ cQ (W_X1_init cI cJ cZ cQ a_t ) (va_A [(a_t, .inr (1, [.int 0, .null, .null]))] sz)) 4 46 (va_A [(a_t, .inr (1, [.int 0, .null, .null]))] sz) := by
  refine nw_entry (y := yX1_init) (ws := wsX1_init) (rm := rm_X1_init) (sz := sz) (wpre := [(a_t, .inr (1, [.int 0, .null, .null]))]) (av := [.ref a_t]) (Qc := kQn dC dI cI cJ cZ cQ (W_X1_init cI cJ cZ cQ a_t )) (cc := cX1_init) (own := RX1) [(0, .ref a_t)] (by decide) rfl rfl (Nat.le_of_ble_eq_true rfl) rfl ?_
  intro p e s m below meth c A ls H locs hfix hr hlocks hin0 hsz0 hP hK hD hA hS hN hG hl
  obtain ⟨hx, hb, hml, hown, hts⟩ := id hfix
  refine lv_aload_n hx hb dX1_init_0 rfl (lv_at hl 0 rfl) ?_
  refine W.objInit hx hb hown (hts (.methodLink RX1 3 objectInit) (by decide +kernel)) (hts (.instanceMethod objectInit) (by decide +kernel)) (hts (.code objectInit ⟨#[0xb1]⟩ 1 none) (by decide +kernel)) rfl (by rw [hml]; exact hl.1) rfl dX1_init_1 (Nat.le_of_ble_eq_true rfl) (Nat.le_of_ble_eq_true rfl) ?_
  refine W.eq (g2 := F0 m 4 ls []) rfl ?_
  refine lv_aload_n hx hb dX1_init_4 rfl (lv_at hl 0 rfl) ?_
  refine lv_iconst (v := (0 : Int32)) hx hb dX1_init_5 (by decide) ?_
  refine va_put (D := (dC, dI)) (ci := 1) (v := .int (0 : Int32)) (ty := .boolean) (C := RX1) (T := TX1) (N := 3) hx hb hts in_X1_init_X1 tyX1 tyX1_ok nmX1 hown hK hP hD hS 0 rfl rfl 0 (by decide) (hts (.fieldLink RX1 9 "NoneWithin$Image" "there" "Z") (by decide +kernel)) (fun _ h9 => h9) rfl (by decide +kernel) rfl rfl (Nat.le_of_ble_eq_true rfl) dX1_init_6 (fun H locs hP hD hS => ?_)
  have hP : va_P (dC, dI) classes [(a_t, .inr (1, [.int (0 : Int32), .null, .null]))] H := hP
  have hD : va_D A [(a_t, .inr (1, [.int (0 : Int32), .null, .null]))] := hD
  refine lv_aload_n hx hb dX1_init_9 rfl (lv_at hl 0 rfl) ?_
  refine va_new (ci := 6) (fs := [.int 0, .int 0, .int 0, .int 0, .null, .null]) (C := RX6) (T := TX6) (N := 6) hx hb hts in_X1_init_X6 tyX6 tyX6_ok hown (hts (.classLink RX1 15 RX6) (by decide +kernel)) (hts (.instantiable RX6 6) (by decide +kernel)) (hts (.initialized RX6) (by decide +kernel)) hK hP hD hS hA rfl (fun j hj => by rcases (show j = 0 ∨ j = 1 ∨ j = 2 ∨ j = 3 ∨ j = 4 ∨ j = 5 by omega) with rfl | rfl | rfl | rfl | rfl | rfl <;> rfl) (Nat.le_of_ble_eq_true rfl) (Nat.le_of_ble_eq_true rfl) dX1_init_10 (fun q10 H hP hD hS => ?_)
  have hP : va_P (dC, dI) classes [(a_t, .inr (1, [.int (0 : Int32), .null, .null])), (q10, .inr (6, [.int 0, .int 0, .int 0, .int 0, .null, .null]))] H := hP
  have hD : va_D A [(a_t, .inr (1, [.int (0 : Int32), .null, .null])), (q10, .inr (6, [.int 0, .int 0, .int 0, .int 0, .null, .null]))] := hD
  refine W.widen (k := 1) (n := 6) (Nat.le_of_ble_eq_true rfl) (Nat.le_of_ble_eq_true rfl) ?_
  refine lv_dup hx hb dX1_init_13 rfl ?_
  refine nw_n (wc := [(q10, .inr (6, [.int 0, .int 0, .int 0, .int 0, .null, .null]))]) (wr := [(a_t, .inr (1, [.int (0 : Int32), .null, .null]))]) (Wf := W_X6_init cI cJ cZ cQ q10 ) [1] [0] hP hD hS hA rfl rfl rfl (by decide) (nw_runI (As := []) (rest := [.ref q10, .ref a_t]) hfix (c_X6_init l dC dI cI cJ cZ cQ gx q10 H.size ) (cwI 0 hts gX1_init_X6_init rfl rfl rfl (hts (.initialized RX6) (by decide +kernel)) (hts (.methodLink RX1 17 yX6_init) (by decide +kernel)) (hts (.instanceMethod yX6_init) (by decide +kernel)) rfl (by decide +kernel) ⟨Nat.le_of_ble_eq_true rfl, Nat.le_of_ble_eq_true rfl⟩) hP hD hK hN hS hA hG [1] rfl rfl hl.1 rfl rfl (Nat.le_of_ble_eq_true rfl) dX1_init_14 ⟨Nat.le_of_ble_eq_true rfl, Nat.le_of_ble_eq_true rfl⟩) (fun u14_9 H locs hP hD hS => ?_)
  have hP : va_P (dC, dI) classes [(a_t, .inr (1, [.int (0 : Int32), .null, .null])), (q10, .inr (6, [.int (4 : Int32), .int (0 : Int32), .int (8 : Int32), .int (0 : Int32), .ref u14_9.1, .ref u14_9.2])), (u14_9.1, .inl (cI, 16, .inl (fun _ => 0))), (u14_9.2, .inl (cI, 16, .inl (fun _ => 0)))] H := hP
  have hD : va_D A [(a_t, .inr (1, [.int (0 : Int32), .null, .null])), (q10, .inr (6, [.int (4 : Int32), .int (0 : Int32), .int (8 : Int32), .int (0 : Int32), .ref u14_9.1, .ref u14_9.2])), (u14_9.1, .inl (cI, 16, .inl (fun _ => 0))), (u14_9.2, .inl (cI, 16, .inl (fun _ => 0)))] := hD
  refine W.widen (k := 3) (n := 38) (Nat.le_of_ble_eq_true rfl) (Nat.le_of_ble_eq_true rfl) ?_
  refine va_putF (D := (dC, dI)) (ci := 1) (v := .ref q10) (ty := (.object "NoneWithin$Shop")) (C := RX1) (T := TX1) (N := 3) hx hb hts in_X1_init_X1 tyX1 tyX1_ok nmX1 hown hK hP hD hS 0 rfl rfl 1 (by decide) (hts (.fieldLink RX1 18 "NoneWithin$Image" "shop" "LNoneWithin$Shop;") (by decide +kernel)) (fun _ h9 => h9) rfl hin0 rfl (by decide +kernel) rfl rfl (Nat.le_of_ble_eq_true rfl) dX1_init_17 (fun H locs hP hD hS => ?_)
  have hP : va_P (dC, dI) classes [(a_t, .inr (1, [.int (0 : Int32), .ref q10, .null])), (q10, .inr (6, [.int (4 : Int32), .int (0 : Int32), .int (8 : Int32), .int (0 : Int32), .ref u14_9.1, .ref u14_9.2])), (u14_9.1, .inl (cI, 16, .inl (fun _ => 0))), (u14_9.2, .inl (cI, 16, .inl (fun _ => 0)))] H := hP
  have hD : va_D A [(a_t, .inr (1, [.int (0 : Int32), .ref q10, .null])), (q10, .inr (6, [.int (4 : Int32), .int (0 : Int32), .int (8 : Int32), .int (0 : Int32), .ref u14_9.1, .ref u14_9.2])), (u14_9.1, .inl (cI, 16, .inl (fun _ => 0))), (u14_9.2, .inl (cI, 16, .inl (fun _ => 0)))] := hD
  refine lv_aload_n hx hb dX1_init_20 rfl (lv_at hl 0 rfl) ?_
  refine lv_bipush (v := (8 : Int32)) hx hb dX1_init_21 (by decide) ?_
  refine nw_newI hx hb (hts (.arrayClass .int) (by decide +kernel)) hK hP hD hS hA 8 (by decide) (by decide) (by decide) (Nat.le_of_ble_eq_true rfl) (Nat.le_of_ble_eq_true rfl) dX1_init_23 (fun q23 H hP hD hS => ?_)
  have hP : va_P (dC, dI) classes [(a_t, .inr (1, [.int (0 : Int32), .ref q10, .null])), (q10, .inr (6, [.int (4 : Int32), .int (0 : Int32), .int (8 : Int32), .int (0 : Int32), .ref u14_9.1, .ref u14_9.2])), (u14_9.1, .inl (cI, 16, .inl (fun _ => 0))), (u14_9.2, .inl (cI, 16, .inl (fun _ => 0))), (q23, .inl (cI, 8, .inl (fun _ => 0)))] H := hP
  have hD : va_D A [(a_t, .inr (1, [.int (0 : Int32), .ref q10, .null])), (q10, .inr (6, [.int (4 : Int32), .int (0 : Int32), .int (8 : Int32), .int (0 : Int32), .ref u14_9.1, .ref u14_9.2])), (u14_9.1, .inl (cI, 16, .inl (fun _ => 0))), (u14_9.2, .inl (cI, 16, .inl (fun _ => 0))), (q23, .inl (cI, 8, .inl (fun _ => 0)))] := hD
  refine W.widen (k := 4) (n := 46) (Nat.le_of_ble_eq_true rfl) (Nat.le_of_ble_eq_true rfl) ?_
  refine va_putF (D := (dC, dI)) (ci := 1) (v := .ref q23) (ty := (.array .int)) (C := RX1) (T := TX1) (N := 3) hx hb hts in_X1_init_X1 tyX1 tyX1_ok nmX1 hown hK hP hD hS 0 rfl rfl 2 (by decide) (hts (.fieldLink RX1 22 "NoneWithin$Image" "alike" "[I") (by decide +kernel)) (fun _ h9 => h9) rfl hin0 rfl (by decide +kernel) rfl rfl (Nat.le_of_ble_eq_true rfl) dX1_init_25 (fun H locs hP hD hS => ?_)
  have hP : va_P (dC, dI) classes [(a_t, .inr (1, [.int (0 : Int32), .ref q10, .ref q23])), (q10, .inr (6, [.int (4 : Int32), .int (0 : Int32), .int (8 : Int32), .int (0 : Int32), .ref u14_9.1, .ref u14_9.2])), (u14_9.1, .inl (cI, 16, .inl (fun _ => 0))), (u14_9.2, .inl (cI, 16, .inl (fun _ => 0))), (q23, .inl (cI, 8, .inl (fun _ => 0)))] H := hP
  have hD : va_D A [(a_t, .inr (1, [.int (0 : Int32), .ref q10, .ref q23])), (q10, .inr (6, [.int (4 : Int32), .int (0 : Int32), .int (8 : Int32), .int (0 : Int32), .ref u14_9.1, .ref u14_9.2])), (u14_9.1, .inl (cI, 16, .inl (fun _ => 0))), (u14_9.2, .inl (cI, 16, .inl (fun _ => 0))), (q23, .inl (cI, 8, .inl (fun _ => 0)))] := hD
  exact nw_nret (Wf := W_X1_init cI cJ cZ cQ a_t ) (q10, u14_9.1, u14_9.2, q23) rfl hx hb hr hlocks hK hP hD hS dX1_init_28
def W_X2_init (cI cJ cZ cQ : ClassId) (a_t a_p0 : Nat) (u : Nat) : va_W := [(a_t, .inr (2, [.ref u, .ref a_p0, .int (0 : Int32), .int (0 : Int32)])), (u, .inl (cI, 16, .inl (fun _ => 0)))]
theorem in_X2_init_X2 : ∀ w ∈ wsX20, w ∈ wsX2_init := fun _ h => List.mem_cons_of_mem _ (List.mem_append_right _ h)
abbrev rm_X2_init : Room := { frames := 1, cells := 1, slots := 16, locals := 12 }
set_option maxHeartbeats 4000000 in
set_option maxRecDepth 100000 in
theorem c_X2_init (l : Launch) (dC : Nat → ClassId) (dI : Nat → Nat → Nat) (cI cJ cZ cQ : ClassId) (gx : GX) (a_t : Nat) (sz : Nat) (a_p0 : Nat) : Met l yX2_init wsX2_init rm_X2_init (kP dC dI cI cJ cZ cQ gx [.ref a_t, .ref a_p0] sz [(a_t, .inr (2, [.null, .null, .int 0, .int 0]))]) (kQn dC dI cI cJ cZ cQ (W_X2_init cI cJ cZ cQ a_t a_p0) (va_A [(a_t, .inr (2, [.null, .null, .int 0, .int 0]))] sz)) 1 16 (va_A [(a_t, .inr (2, [.null, .null, .int 0, .int 0]))] sz) := by
  refine nw_entry (y := yX2_init) (ws := wsX2_init) (rm := rm_X2_init) (sz := sz) (wpre := [(a_t, .inr (2, [.null, .null, .int 0, .int 0]))]) (av := [.ref a_t, .ref a_p0]) (Qc := kQn dC dI cI cJ cZ cQ (W_X2_init cI cJ cZ cQ a_t a_p0)) (cc := cX2_init) (own := RX2) [(0, .ref a_t), (1, .ref a_p0)] (by decide) rfl rfl (Nat.le_of_ble_eq_true rfl) rfl ?_
  intro p e s m below meth c A ls H locs hfix hr hlocks hin0 hsz0 hP hK hD hA hS hN hG hl
  obtain ⟨hx, hb, hml, hown, hts⟩ := id hfix
  refine lv_aload_n hx hb dX2_init_0 rfl (lv_at hl 0 rfl) ?_
  refine W.objInit hx hb hown (hts (.methodLink RX2 3 objectInit) (by decide +kernel)) (hts (.instanceMethod objectInit) (by decide +kernel)) (hts (.code objectInit ⟨#[0xb1]⟩ 1 none) (by decide +kernel)) rfl (by rw [hml]; exact hl.1) rfl dX2_init_1 (Nat.le_of_ble_eq_true rfl) (Nat.le_of_ble_eq_true rfl) ?_
  refine W.eq (g2 := F0 m 4 ls []) rfl ?_
  refine lv_aload_n hx hb dX2_init_4 rfl (lv_at hl 0 rfl) ?_
  refine lv_bipush (v := (16 : Int32)) hx hb dX2_init_5 (by decide) ?_
  refine nw_newI hx hb (hts (.arrayClass .int) (by decide +kernel)) hK hP hD hS hA 16 (by decide) (by decide) (by decide) (Nat.le_of_ble_eq_true rfl) (Nat.le_of_ble_eq_true rfl) dX2_init_7 (fun q7 H hP hD hS => ?_)
  have hP : va_P (dC, dI) classes [(a_t, .inr (2, [.null, .null, .int 0, .int 0])), (q7, .inl (cI, 16, .inl (fun _ => 0)))] H := hP
  have hD : va_D A [(a_t, .inr (2, [.null, .null, .int 0, .int 0])), (q7, .inl (cI, 16, .inl (fun _ => 0)))] := hD
  refine W.widen (k := 1) (n := 16) (Nat.le_of_ble_eq_true rfl) (Nat.le_of_ble_eq_true rfl) ?_
  refine va_putF (D := (dC, dI)) (ci := 2) (v := .ref q7) (ty := (.array .int)) (C := RX2) (T := TX2) (N := 4) hx hb hts in_X2_init_X2 tyX2 tyX2_ok nmX2 hown hK hP hD hS 0 rfl rfl 0 (by decide) (hts (.fieldLink RX2 9 "NoneWithin$Keeper" "weights" "[I") (by decide +kernel)) (fun _ h9 => h9) rfl hin0 rfl (by decide +kernel) rfl rfl (Nat.le_of_ble_eq_true rfl) dX2_init_9 (fun H locs hP hD hS => ?_)
  have hP : va_P (dC, dI) classes [(a_t, .inr (2, [.ref q7, .null, .int 0, .int 0])), (q7, .inl (cI, 16, .inl (fun _ => 0)))] H := hP
  have hD : va_D A [(a_t, .inr (2, [.ref q7, .null, .int 0, .int 0])), (q7, .inl (cI, 16, .inl (fun _ => 0)))] := hD
  refine lv_aload_n hx hb dX2_init_12 rfl (lv_at hl 0 rfl) ?_
  refine lv_iconst (v := (0 : Int32)) hx hb dX2_init_13 (by decide) ?_
  refine va_put (D := (dC, dI)) (ci := 2) (v := .int (0 : Int32)) (ty := .int) (C := RX2) (T := TX2) (N := 4) hx hb hts in_X2_init_X2 tyX2 tyX2_ok nmX2 hown hK hP hD hS 0 rfl rfl 2 (by decide) (hts (.fieldLink RX2 15 "NoneWithin$Keeper" "best" "I") (by decide +kernel)) (fun _ h9 => h9) rfl (by decide +kernel) rfl rfl (Nat.le_of_ble_eq_true rfl) dX2_init_14 (fun H locs hP hD hS => ?_)
  have hP : va_P (dC, dI) classes [(a_t, .inr (2, [.ref q7, .null, .int (0 : Int32), .int 0])), (q7, .inl (cI, 16, .inl (fun _ => 0)))] H := hP
  have hD : va_D A [(a_t, .inr (2, [.ref q7, .null, .int (0 : Int32), .int 0])), (q7, .inl (cI, 16, .inl (fun _ => 0)))] := hD
  refine lv_aload_n hx hb dX2_init_17 rfl (lv_at hl 0 rfl) ?_
  refine lv_iconst (v := (0 : Int32)) hx hb dX2_init_18 (by decide) ?_
  refine va_put (D := (dC, dI)) (ci := 2) (v := .int (0 : Int32)) (ty := .int) (C := RX2) (T := TX2) (N := 4) hx hb hts in_X2_init_X2 tyX2 tyX2_ok nmX2 hown hK hP hD hS 0 rfl rfl 3 (by decide) (hts (.fieldLink RX2 19 "NoneWithin$Keeper" "bits" "I") (by decide +kernel)) (fun _ h9 => h9) rfl (by decide +kernel) rfl rfl (Nat.le_of_ble_eq_true rfl) dX2_init_19 (fun H locs hP hD hS => ?_)
  have hP : va_P (dC, dI) classes [(a_t, .inr (2, [.ref q7, .null, .int (0 : Int32), .int (0 : Int32)])), (q7, .inl (cI, 16, .inl (fun _ => 0)))] H := hP
  have hD : va_D A [(a_t, .inr (2, [.ref q7, .null, .int (0 : Int32), .int (0 : Int32)])), (q7, .inl (cI, 16, .inl (fun _ => 0)))] := hD
  refine lv_aload_n hx hb dX2_init_22 rfl (lv_at hl 0 rfl) ?_
  refine lv_aload_n hx hb dX2_init_23 rfl (lv_at hl 1 rfl) ?_
  refine va_putF (D := (dC, dI)) (ci := 2) (v := .ref a_p0) (ty := (.object "NoneWithin$LawTable")) (C := RX2) (T := TX2) (N := 4) hx hb hts in_X2_init_X2 tyX2 tyX2_ok nmX2 hown hK hP hD hS 0 rfl rfl 1 (by decide) (hts (.fieldLink RX2 22 "NoneWithin$Keeper" "table" "LNoneWithin$LawTable;") (by decide +kernel)) (fun _ h9 => h9) rfl hin0 rfl (by decide +kernel) rfl rfl (Nat.le_of_ble_eq_true rfl) dX2_init_24 (fun H locs hP hD hS => ?_)
  have hP : va_P (dC, dI) classes [(a_t, .inr (2, [.ref q7, .ref a_p0, .int (0 : Int32), .int (0 : Int32)])), (q7, .inl (cI, 16, .inl (fun _ => 0)))] H := hP
  have hD : va_D A [(a_t, .inr (2, [.ref q7, .ref a_p0, .int (0 : Int32), .int (0 : Int32)])), (q7, .inl (cI, 16, .inl (fun _ => 0)))] := hD
  exact nw_nret (Wf := W_X2_init cI cJ cZ cQ a_t a_p0) q7 rfl hx hb hr hlocks hK hP hD hS dX2_init_27
def W_X3_init (cI cJ cZ cQ : ClassId) (a_t : Nat) (u : (Nat × Nat × Nat)) : va_W := [(a_t, .inr (3, [.int (0 : Int32), .int (0 : Int32), .int (0 : Int32), .int (0 : Int32), .int (0 : Int32), .ref u.1, .ref u.2.1, .ref u.2.2])), (u.1, .inl (cI, 16, .inl (fun _ => 0))), (u.2.1, .inl (cI, 16, .inl (fun _ => 0))), (u.2.2, .inl (cI, 16, .inl (fun _ => 0)))]
theorem in_X3_init_X3 : ∀ w ∈ wsX30, w ∈ wsX3_init := fun _ h => List.mem_cons_of_mem _ (List.mem_append_right _ h)
abbrev rm_X3_init : Room := { frames := 1, cells := 3, slots := 48, locals := 12 }
set_option maxHeartbeats 4000000 in
set_option maxRecDepth 100000 in
theorem c_X3_init (l : Launch) (dC : Nat → ClassId) (dI : Nat → Nat → Nat) (cI cJ cZ cQ : ClassId) (gx : GX) (a_t : Nat) (sz : Nat) : Met l yX3_init wsX3_init rm_X3_init (kP dC dI cI cJ cZ cQ gx [.ref a_t] sz [(a_t, .inr (3, [.int 0, .int 0, .int 0, .int 0, .int 0, .null, .null, .null]))]) (kQn dC dI cI cJ cZ cQ (W_X3_init cI cJ cZ cQ a_t ) (va_A [(a_t, .inr (3, [.int 0, .int 0, .int 0, .int 0, .int 0, .null, .null, .null]))] sz)) 3 48 (va_A [(a_t, .inr (3, [.int 0, .int 0, .int 0, .int 0, .int 0, .null, .null, .null]))] sz) := by
  refine nw_entry (y := yX3_init) (ws := wsX3_init) (rm := rm_X3_init) (sz := sz) (wpre := [(a_t, .inr (3, [.int 0, .int 0, .int 0, .int 0, .int 0, .null, .null, .null]))]) (av := [.ref a_t]) (Qc := kQn dC dI cI cJ cZ cQ (W_X3_init cI cJ cZ cQ a_t )) (cc := cX3_init) (own := RX3) [(0, .ref a_t)] (by decide) rfl rfl (Nat.le_of_ble_eq_true rfl) rfl ?_
  intro p e s m below meth c A ls H locs hfix hr hlocks hin0 hsz0 hP hK hD hA hS hN hG hl
  obtain ⟨hx, hb, hml, hown, hts⟩ := id hfix
  refine lv_aload_n hx hb dX3_init_0 rfl (lv_at hl 0 rfl) ?_
  refine W.objInit hx hb hown (hts (.methodLink RX3 3 objectInit) (by decide +kernel)) (hts (.instanceMethod objectInit) (by decide +kernel)) (hts (.code objectInit ⟨#[0xb1]⟩ 1 none) (by decide +kernel)) rfl (by rw [hml]; exact hl.1) rfl dX3_init_1 (Nat.le_of_ble_eq_true rfl) (Nat.le_of_ble_eq_true rfl) ?_
  refine W.eq (g2 := F0 m 4 ls []) rfl ?_
  refine lv_aload_n hx hb dX3_init_4 rfl (lv_at hl 0 rfl) ?_
  refine lv_iconst (v := (0 : Int32)) hx hb dX3_init_5 (by decide) ?_
  refine va_put (D := (dC, dI)) (ci := 3) (v := .int (0 : Int32)) (ty := .int) (C := RX3) (T := TX3) (N := 8) hx hb hts in_X3_init_X3 tyX3 tyX3_ok nmX3 hown hK hP hD hS 0 rfl rfl 0 (by decide) (hts (.fieldLink RX3 9 "NoneWithin$LawTable" "law" "I") (by decide +kernel)) (fun _ h9 => h9) rfl (by decide +kernel) rfl rfl (Nat.le_of_ble_eq_true rfl) dX3_init_6 (fun H locs hP hD hS => ?_)
  have hP : va_P (dC, dI) classes [(a_t, .inr (3, [.int (0 : Int32), .int 0, .int 0, .int 0, .int 0, .null, .null, .null]))] H := hP
  have hD : va_D A [(a_t, .inr (3, [.int (0 : Int32), .int 0, .int 0, .int 0, .int 0, .null, .null, .null]))] := hD
  refine lv_aload_n hx hb dX3_init_9 rfl (lv_at hl 0 rfl) ?_
  refine lv_iconst (v := (0 : Int32)) hx hb dX3_init_10 (by decide) ?_
  refine va_put (D := (dC, dI)) (ci := 3) (v := .int (0 : Int32)) (ty := .int) (C := RX3) (T := TX3) (N := 8) hx hb hts in_X3_init_X3 tyX3 tyX3_ok nmX3 hown hK hP hD hS 0 rfl rfl 1 (by decide) (hts (.fieldLink RX3 15 "NoneWithin$LawTable" "boxes" "I") (by decide +kernel)) (fun _ h9 => h9) rfl (by decide +kernel) rfl rfl (Nat.le_of_ble_eq_true rfl) dX3_init_11 (fun H locs hP hD hS => ?_)
  have hP : va_P (dC, dI) classes [(a_t, .inr (3, [.int (0 : Int32), .int (0 : Int32), .int 0, .int 0, .int 0, .null, .null, .null]))] H := hP
  have hD : va_D A [(a_t, .inr (3, [.int (0 : Int32), .int (0 : Int32), .int 0, .int 0, .int 0, .null, .null, .null]))] := hD
  refine lv_aload_n hx hb dX3_init_14 rfl (lv_at hl 0 rfl) ?_
  refine lv_iconst (v := (0 : Int32)) hx hb dX3_init_15 (by decide) ?_
  refine va_put (D := (dC, dI)) (ci := 3) (v := .int (0 : Int32)) (ty := .int) (C := RX3) (T := TX3) (N := 8) hx hb hts in_X3_init_X3 tyX3 tyX3_ok nmX3 hown hK hP hD hS 0 rfl rfl 2 (by decide) (hts (.fieldLink RX3 18 "NoneWithin$LawTable" "fit" "I") (by decide +kernel)) (fun _ h9 => h9) rfl (by decide +kernel) rfl rfl (Nat.le_of_ble_eq_true rfl) dX3_init_16 (fun H locs hP hD hS => ?_)
  have hP : va_P (dC, dI) classes [(a_t, .inr (3, [.int (0 : Int32), .int (0 : Int32), .int (0 : Int32), .int 0, .int 0, .null, .null, .null]))] H := hP
  have hD : va_D A [(a_t, .inr (3, [.int (0 : Int32), .int (0 : Int32), .int (0 : Int32), .int 0, .int 0, .null, .null, .null]))] := hD
  refine lv_aload_n hx hb dX3_init_19 rfl (lv_at hl 0 rfl) ?_
  refine lv_iconst (v := (0 : Int32)) hx hb dX3_init_20 (by decide) ?_
  refine va_put (D := (dC, dI)) (ci := 3) (v := .int (0 : Int32)) (ty := .int) (C := RX3) (T := TX3) (N := 8) hx hb hts in_X3_init_X3 tyX3 tyX3_ok nmX3 hown hK hP hD hS 0 rfl rfl 3 (by decide) (hts (.fieldLink RX3 21 "NoneWithin$LawTable" "low" "I") (by decide +kernel)) (fun _ h9 => h9) rfl (by decide +kernel) rfl rfl (Nat.le_of_ble_eq_true rfl) dX3_init_21 (fun H locs hP hD hS => ?_)
  have hP : va_P (dC, dI) classes [(a_t, .inr (3, [.int (0 : Int32), .int (0 : Int32), .int (0 : Int32), .int (0 : Int32), .int 0, .null, .null, .null]))] H := hP
  have hD : va_D A [(a_t, .inr (3, [.int (0 : Int32), .int (0 : Int32), .int (0 : Int32), .int (0 : Int32), .int 0, .null, .null, .null]))] := hD
  refine lv_aload_n hx hb dX3_init_24 rfl (lv_at hl 0 rfl) ?_
  refine lv_iconst (v := (0 : Int32)) hx hb dX3_init_25 (by decide) ?_
  refine va_put (D := (dC, dI)) (ci := 3) (v := .int (0 : Int32)) (ty := .int) (C := RX3) (T := TX3) (N := 8) hx hb hts in_X3_init_X3 tyX3 tyX3_ok nmX3 hown hK hP hD hS 0 rfl rfl 4 (by decide) (hts (.fieldLink RX3 24 "NoneWithin$LawTable" "high" "I") (by decide +kernel)) (fun _ h9 => h9) rfl (by decide +kernel) rfl rfl (Nat.le_of_ble_eq_true rfl) dX3_init_26 (fun H locs hP hD hS => ?_)
  have hP : va_P (dC, dI) classes [(a_t, .inr (3, [.int (0 : Int32), .int (0 : Int32), .int (0 : Int32), .int (0 : Int32), .int (0 : Int32), .null, .null, .null]))] H := hP
  have hD : va_D A [(a_t, .inr (3, [.int (0 : Int32), .int (0 : Int32), .int (0 : Int32), .int (0 : Int32), .int (0 : Int32), .null, .null, .null]))] := hD
  refine lv_aload_n hx hb dX3_init_29 rfl (lv_at hl 0 rfl) ?_
  refine lv_bipush (v := (16 : Int32)) hx hb dX3_init_30 (by decide) ?_
  refine nw_newI hx hb (hts (.arrayClass .int) (by decide +kernel)) hK hP hD hS hA 16 (by decide) (by decide) (by decide) (Nat.le_of_ble_eq_true rfl) (Nat.le_of_ble_eq_true rfl) dX3_init_32 (fun q32 H hP hD hS => ?_)
  have hP : va_P (dC, dI) classes [(a_t, .inr (3, [.int (0 : Int32), .int (0 : Int32), .int (0 : Int32), .int (0 : Int32), .int (0 : Int32), .null, .null, .null])), (q32, .inl (cI, 16, .inl (fun _ => 0)))] H := hP
  have hD : va_D A [(a_t, .inr (3, [.int (0 : Int32), .int (0 : Int32), .int (0 : Int32), .int (0 : Int32), .int (0 : Int32), .null, .null, .null])), (q32, .inl (cI, 16, .inl (fun _ => 0)))] := hD
  refine W.widen (k := 1) (n := 16) (Nat.le_of_ble_eq_true rfl) (Nat.le_of_ble_eq_true rfl) ?_
  refine va_putF (D := (dC, dI)) (ci := 3) (v := .ref q32) (ty := (.array .int)) (C := RX3) (T := TX3) (N := 8) hx hb hts in_X3_init_X3 tyX3 tyX3_ok nmX3 hown hK hP hD hS 0 rfl rfl 5 (by decide) (hts (.fieldLink RX3 27 "NoneWithin$LawTable" "sets" "[I") (by decide +kernel)) (fun _ h9 => h9) rfl hin0 rfl (by decide +kernel) rfl rfl (Nat.le_of_ble_eq_true rfl) dX3_init_34 (fun H locs hP hD hS => ?_)
  have hP : va_P (dC, dI) classes [(a_t, .inr (3, [.int (0 : Int32), .int (0 : Int32), .int (0 : Int32), .int (0 : Int32), .int (0 : Int32), .ref q32, .null, .null])), (q32, .inl (cI, 16, .inl (fun _ => 0)))] H := hP
  have hD : va_D A [(a_t, .inr (3, [.int (0 : Int32), .int (0 : Int32), .int (0 : Int32), .int (0 : Int32), .int (0 : Int32), .ref q32, .null, .null])), (q32, .inl (cI, 16, .inl (fun _ => 0)))] := hD
  refine lv_aload_n hx hb dX3_init_37 rfl (lv_at hl 0 rfl) ?_
  refine lv_bipush (v := (16 : Int32)) hx hb dX3_init_38 (by decide) ?_
  refine nw_newI hx hb (hts (.arrayClass .int) (by decide +kernel)) hK hP hD hS hA 16 (by decide) (by decide) (by decide) (Nat.le_of_ble_eq_true rfl) (Nat.le_of_ble_eq_true rfl) dX3_init_40 (fun q40 H hP hD hS => ?_)
  have hP : va_P (dC, dI) classes [(a_t, .inr (3, [.int (0 : Int32), .int (0 : Int32), .int (0 : Int32), .int (0 : Int32), .int (0 : Int32), .ref q32, .null, .null])), (q32, .inl (cI, 16, .inl (fun _ => 0))), (q40, .inl (cI, 16, .inl (fun _ => 0)))] H := hP
  have hD : va_D A [(a_t, .inr (3, [.int (0 : Int32), .int (0 : Int32), .int (0 : Int32), .int (0 : Int32), .int (0 : Int32), .ref q32, .null, .null])), (q32, .inl (cI, 16, .inl (fun _ => 0))), (q40, .inl (cI, 16, .inl (fun _ => 0)))] := hD
  refine W.widen (k := 2) (n := 32) (Nat.le_of_ble_eq_true rfl) (Nat.le_of_ble_eq_true rfl) ?_
  refine va_putF (D := (dC, dI)) (ci := 3) (v := .ref q40) (ty := (.array .int)) (C := RX3) (T := TX3) (N := 8) hx hb hts in_X3_init_X3 tyX3 tyX3_ok nmX3 hown hK hP hD hS 0 rfl rfl 6 (by decide) (hts (.fieldLink RX3 31 "NoneWithin$LawTable" "clash" "[I") (by decide +kernel)) (fun _ h9 => h9) rfl hin0 rfl (by decide +kernel) rfl rfl (Nat.le_of_ble_eq_true rfl) dX3_init_42 (fun H locs hP hD hS => ?_)
  have hP : va_P (dC, dI) classes [(a_t, .inr (3, [.int (0 : Int32), .int (0 : Int32), .int (0 : Int32), .int (0 : Int32), .int (0 : Int32), .ref q32, .ref q40, .null])), (q32, .inl (cI, 16, .inl (fun _ => 0))), (q40, .inl (cI, 16, .inl (fun _ => 0)))] H := hP
  have hD : va_D A [(a_t, .inr (3, [.int (0 : Int32), .int (0 : Int32), .int (0 : Int32), .int (0 : Int32), .int (0 : Int32), .ref q32, .ref q40, .null])), (q32, .inl (cI, 16, .inl (fun _ => 0))), (q40, .inl (cI, 16, .inl (fun _ => 0)))] := hD
  refine lv_aload_n hx hb dX3_init_45 rfl (lv_at hl 0 rfl) ?_
  refine lv_bipush (v := (16 : Int32)) hx hb dX3_init_46 (by decide) ?_
  refine nw_newI hx hb (hts (.arrayClass .int) (by decide +kernel)) hK hP hD hS hA 16 (by decide) (by decide) (by decide) (Nat.le_of_ble_eq_true rfl) (Nat.le_of_ble_eq_true rfl) dX3_init_48 (fun q48 H hP hD hS => ?_)
  have hP : va_P (dC, dI) classes [(a_t, .inr (3, [.int (0 : Int32), .int (0 : Int32), .int (0 : Int32), .int (0 : Int32), .int (0 : Int32), .ref q32, .ref q40, .null])), (q32, .inl (cI, 16, .inl (fun _ => 0))), (q40, .inl (cI, 16, .inl (fun _ => 0))), (q48, .inl (cI, 16, .inl (fun _ => 0)))] H := hP
  have hD : va_D A [(a_t, .inr (3, [.int (0 : Int32), .int (0 : Int32), .int (0 : Int32), .int (0 : Int32), .int (0 : Int32), .ref q32, .ref q40, .null])), (q32, .inl (cI, 16, .inl (fun _ => 0))), (q40, .inl (cI, 16, .inl (fun _ => 0))), (q48, .inl (cI, 16, .inl (fun _ => 0)))] := hD
  refine W.widen (k := 3) (n := 48) (Nat.le_of_ble_eq_true rfl) (Nat.le_of_ble_eq_true rfl) ?_
  refine va_putF (D := (dC, dI)) (ci := 3) (v := .ref q48) (ty := (.array .int)) (C := RX3) (T := TX3) (N := 8) hx hb hts in_X3_init_X3 tyX3 tyX3_ok nmX3 hown hK hP hD hS 0 rfl rfl 7 (by decide) (hts (.fieldLink RX3 34 "NoneWithin$LawTable" "near" "[I") (by decide +kernel)) (fun _ h9 => h9) rfl hin0 rfl (by decide +kernel) rfl rfl (Nat.le_of_ble_eq_true rfl) dX3_init_50 (fun H locs hP hD hS => ?_)
  have hP : va_P (dC, dI) classes [(a_t, .inr (3, [.int (0 : Int32), .int (0 : Int32), .int (0 : Int32), .int (0 : Int32), .int (0 : Int32), .ref q32, .ref q40, .ref q48])), (q32, .inl (cI, 16, .inl (fun _ => 0))), (q40, .inl (cI, 16, .inl (fun _ => 0))), (q48, .inl (cI, 16, .inl (fun _ => 0)))] H := hP
  have hD : va_D A [(a_t, .inr (3, [.int (0 : Int32), .int (0 : Int32), .int (0 : Int32), .int (0 : Int32), .int (0 : Int32), .ref q32, .ref q40, .ref q48])), (q32, .inl (cI, 16, .inl (fun _ => 0))), (q40, .inl (cI, 16, .inl (fun _ => 0))), (q48, .inl (cI, 16, .inl (fun _ => 0)))] := hD
  exact nw_nret (Wf := W_X3_init cI cJ cZ cQ a_t ) (q32, q40, q48) rfl hx hb hr hlocks hK hP hD hS dX3_init_53
def W_X4_init (cI cJ cZ cQ : ClassId) (a_t a_p0 : Nat) (u : Unit) : va_W := [(a_t, .inr (4, [.int (0 : Int32), .int (0 : Int32), .int (0 : Int32), .int (0 : Int32), .ref a_p0]))]
theorem in_X4_init_X4 : ∀ w ∈ wsX40, w ∈ wsX4_init := fun _ h => List.mem_cons_of_mem _ (List.mem_append_right _ h)
abbrev rm_X4_init : Room := { frames := 1, cells := 0, slots := 0, locals := 12 }
set_option maxHeartbeats 4000000 in
set_option maxRecDepth 100000 in
theorem c_X4_init (l : Launch) (dC : Nat → ClassId) (dI : Nat → Nat → Nat) (cI cJ cZ cQ : ClassId) (gx : GX) (a_t : Nat) (sz : Nat) (a_p0 : Nat) : Met l yX4_init wsX4_init rm_X4_init (kP dC dI cI cJ cZ cQ gx [.ref a_t, .ref a_p0] sz [(a_t, .inr (4, [.int 0, .int 0, .int 0, .int 0, .null]))]) (kQn dC dI cI cJ cZ cQ (W_X4_init cI cJ cZ cQ a_t a_p0) (va_A [(a_t, .inr (4, [.int 0, .int 0, .int 0, .int 0, .null]))] sz)) 0 0 (va_A [(a_t, .inr (4, [.int 0, .int 0, .int 0, .int 0, .null]))] sz) := by
  refine nw_entry (y := yX4_init) (ws := wsX4_init) (rm := rm_X4_init) (sz := sz) (wpre := [(a_t, .inr (4, [.int 0, .int 0, .int 0, .int 0, .null]))]) (av := [.ref a_t, .ref a_p0]) (Qc := kQn dC dI cI cJ cZ cQ (W_X4_init cI cJ cZ cQ a_t a_p0)) (cc := cX4_init) (own := RX4) [(0, .ref a_t), (1, .ref a_p0)] (by decide) rfl rfl (Nat.le_of_ble_eq_true rfl) rfl ?_
  intro p e s m below meth c A ls H locs hfix hr hlocks hin0 hsz0 hP hK hD hA hS hN hG hl
  obtain ⟨hx, hb, hml, hown, hts⟩ := id hfix
  refine lv_aload_n hx hb dX4_init_0 rfl (lv_at hl 0 rfl) ?_
  refine W.objInit hx hb hown (hts (.methodLink RX4 3 objectInit) (by decide +kernel)) (hts (.instanceMethod objectInit) (by decide +kernel)) (hts (.code objectInit ⟨#[0xb1]⟩ 1 none) (by decide +kernel)) rfl (by rw [hml]; exact hl.1) rfl dX4_init_1 (Nat.le_of_ble_eq_true rfl) (Nat.le_of_ble_eq_true rfl) ?_
  refine W.eq (g2 := F0 m 4 ls []) rfl ?_
  refine lv_aload_n hx hb dX4_init_4 rfl (lv_at hl 0 rfl) ?_
  refine lv_iconst (v := (0 : Int32)) hx hb dX4_init_5 (by decide) ?_
  refine va_put (D := (dC, dI)) (ci := 4) (v := .int (0 : Int32)) (ty := .int) (C := RX4) (T := TX4) (N := 5) hx hb hts in_X4_init_X4 tyX4 tyX4_ok nmX4 hown hK hP hD hS 0 rfl rfl 0 (by decide) (hts (.fieldLink RX4 9 "NoneWithin$Lister" "lawful" "I") (by decide +kernel)) (fun _ h9 => h9) rfl (by decide +kernel) rfl rfl (Nat.le_of_ble_eq_true rfl) dX4_init_6 (fun H locs hP hD hS => ?_)
  have hP : va_P (dC, dI) classes [(a_t, .inr (4, [.int (0 : Int32), .int 0, .int 0, .int 0, .null]))] H := hP
  have hD : va_D A [(a_t, .inr (4, [.int (0 : Int32), .int 0, .int 0, .int 0, .null]))] := hD
  refine lv_aload_n hx hb dX4_init_9 rfl (lv_at hl 0 rfl) ?_
  refine lv_iconst (v := (0 : Int32)) hx hb dX4_init_10 (by decide) ?_
  refine va_put (D := (dC, dI)) (ci := 4) (v := .int (0 : Int32)) (ty := .int) (C := RX4) (T := TX4) (N := 5) hx hb hts in_X4_init_X4 tyX4 tyX4_ok nmX4 hown hK hP hD hS 0 rfl rfl 1 (by decide) (hts (.fieldLink RX4 15 "NoneWithin$Lister" "whole" "I") (by decide +kernel)) (fun _ h9 => h9) rfl (by decide +kernel) rfl rfl (Nat.le_of_ble_eq_true rfl) dX4_init_11 (fun H locs hP hD hS => ?_)
  have hP : va_P (dC, dI) classes [(a_t, .inr (4, [.int (0 : Int32), .int (0 : Int32), .int 0, .int 0, .null]))] H := hP
  have hD : va_D A [(a_t, .inr (4, [.int (0 : Int32), .int (0 : Int32), .int 0, .int 0, .null]))] := hD
  refine lv_aload_n hx hb dX4_init_14 rfl (lv_at hl 0 rfl) ?_
  refine lv_iconst (v := (0 : Int32)) hx hb dX4_init_15 (by decide) ?_
  refine va_put (D := (dC, dI)) (ci := 4) (v := .int (0 : Int32)) (ty := .int) (C := RX4) (T := TX4) (N := 5) hx hb hts in_X4_init_X4 tyX4 tyX4_ok nmX4 hown hK hP hD hS 0 rfl rfl 2 (by decide) (hts (.fieldLink RX4 18 "NoneWithin$Lister" "fewest" "I") (by decide +kernel)) (fun _ h9 => h9) rfl (by decide +kernel) rfl rfl (Nat.le_of_ble_eq_true rfl) dX4_init_16 (fun H locs hP hD hS => ?_)
  have hP : va_P (dC, dI) classes [(a_t, .inr (4, [.int (0 : Int32), .int (0 : Int32), .int (0 : Int32), .int 0, .null]))] H := hP
  have hD : va_D A [(a_t, .inr (4, [.int (0 : Int32), .int (0 : Int32), .int (0 : Int32), .int 0, .null]))] := hD
  refine lv_aload_n hx hb dX4_init_19 rfl (lv_at hl 0 rfl) ?_
  refine lv_iconst (v := (0 : Int32)) hx hb dX4_init_20 (by decide) ?_
  refine va_put (D := (dC, dI)) (ci := 4) (v := .int (0 : Int32)) (ty := .int) (C := RX4) (T := TX4) (N := 5) hx hb hts in_X4_init_X4 tyX4 tyX4_ok nmX4 hown hK hP hD hS 0 rfl rfl 3 (by decide) (hts (.fieldLink RX4 21 "NoneWithin$Lister" "most" "I") (by decide +kernel)) (fun _ h9 => h9) rfl (by decide +kernel) rfl rfl (Nat.le_of_ble_eq_true rfl) dX4_init_21 (fun H locs hP hD hS => ?_)
  have hP : va_P (dC, dI) classes [(a_t, .inr (4, [.int (0 : Int32), .int (0 : Int32), .int (0 : Int32), .int (0 : Int32), .null]))] H := hP
  have hD : va_D A [(a_t, .inr (4, [.int (0 : Int32), .int (0 : Int32), .int (0 : Int32), .int (0 : Int32), .null]))] := hD
  refine lv_aload_n hx hb dX4_init_24 rfl (lv_at hl 0 rfl) ?_
  refine lv_aload_n hx hb dX4_init_25 rfl (lv_at hl 1 rfl) ?_
  refine va_putF (D := (dC, dI)) (ci := 4) (v := .ref a_p0) (ty := (.object "NoneWithin$LawTable")) (C := RX4) (T := TX4) (N := 5) hx hb hts in_X4_init_X4 tyX4 tyX4_ok nmX4 hown hK hP hD hS 0 rfl rfl 4 (by decide) (hts (.fieldLink RX4 24 "NoneWithin$Lister" "table" "LNoneWithin$LawTable;") (by decide +kernel)) (fun _ h9 => h9) rfl hin0 rfl (by decide +kernel) rfl rfl (Nat.le_of_ble_eq_true rfl) dX4_init_26 (fun H locs hP hD hS => ?_)
  have hP : va_P (dC, dI) classes [(a_t, .inr (4, [.int (0 : Int32), .int (0 : Int32), .int (0 : Int32), .int (0 : Int32), .ref a_p0]))] H := hP
  have hD : va_D A [(a_t, .inr (4, [.int (0 : Int32), .int (0 : Int32), .int (0 : Int32), .int (0 : Int32), .ref a_p0]))] := hD
  exact nw_nret (Wf := W_X4_init cI cJ cZ cQ a_t a_p0) () rfl hx hb hr hlocks hK hP hD hS dX4_init_29
def W_X5_init (cI cJ cZ cQ : ClassId) (a_t a_p0 : Nat) (u : (Nat × Nat × Nat)) : va_W := [(a_t, .inr (5, [.ref u.1, .ref u.2.1, .ref u.2.2, .ref a_p0, .int (0 : Int32), .int (0 : Int32)])), (u.1, .inl (cJ, 1024, .inr (.inl (fun _ => 0)))), (u.2.1, .inl (cJ, 1024, .inr (.inl (fun _ => 0)))), (u.2.2, .inl (cI, 256, .inl (fun _ => 0)))]
theorem in_X5_init_X5 : ∀ w ∈ wsX50, w ∈ wsX5_init := fun _ h => List.mem_cons_of_mem _ (List.mem_append_right _ h)
abbrev rm_X5_init : Room := { frames := 1, cells := 3, slots := 2304, locals := 12 }
set_option maxHeartbeats 4000000 in
set_option maxRecDepth 100000 in
theorem c_X5_init (l : Launch) (dC : Nat → ClassId) (dI : Nat → Nat → Nat) (cI cJ cZ cQ : ClassId) (gx : GX) (a_t : Nat) (sz : Nat) (a_p0 : Nat) : Met l yX5_init wsX5_init rm_X5_init (kP dC dI cI cJ cZ cQ gx [.ref a_t, .ref a_p0] sz [(a_t, .inr (5, [.null, .null, .null, .null, .int 0, .int 0]))]) (kQn dC dI cI cJ cZ cQ (W_X5_init cI cJ cZ cQ a_t a_p0) (va_A [(a_t, .inr (5, [.null, .null, .null, .null, .int 0, .int 0]))] sz)) 3 2304 (va_A [(a_t, .inr (5, [.null, .null, .null, .null, .int 0, .int 0]))] sz) := by
  refine nw_entry (y := yX5_init) (ws := wsX5_init) (rm := rm_X5_init) (sz := sz) (wpre := [(a_t, .inr (5, [.null, .null, .null, .null, .int 0, .int 0]))]) (av := [.ref a_t, .ref a_p0]) (Qc := kQn dC dI cI cJ cZ cQ (W_X5_init cI cJ cZ cQ a_t a_p0)) (cc := cX5_init) (own := RX5) [(0, .ref a_t), (1, .ref a_p0)] (by decide) rfl rfl (Nat.le_of_ble_eq_true rfl) rfl ?_
  intro p e s m below meth c A ls H locs hfix hr hlocks hin0 hsz0 hP hK hD hA hS hN hG hl
  obtain ⟨hx, hb, hml, hown, hts⟩ := id hfix
  refine lv_aload_n hx hb dX5_init_0 rfl (lv_at hl 0 rfl) ?_
  refine W.objInit hx hb hown (hts (.methodLink RX5 3 objectInit) (by decide +kernel)) (hts (.instanceMethod objectInit) (by decide +kernel)) (hts (.code objectInit ⟨#[0xb1]⟩ 1 none) (by decide +kernel)) rfl (by rw [hml]; exact hl.1) rfl dX5_init_1 (Nat.le_of_ble_eq_true rfl) (Nat.le_of_ble_eq_true rfl) ?_
  refine W.eq (g2 := F0 m 4 ls []) rfl ?_
  refine lv_aload_n hx hb dX5_init_4 rfl (lv_at hl 0 rfl) ?_
  refine lv_sipush (v := (1024 : Int32)) hx hb dX5_init_5 (by decide) ?_
  refine nw_newJ hx hb (hts (.arrayClass .long) (by decide +kernel)) hK hP hD hS hA 1024 (by decide) (by decide) (by decide) (Nat.le_of_ble_eq_true rfl) (Nat.le_of_ble_eq_true rfl) dX5_init_8 (fun q8 H hP hD hS => ?_)
  have hP : va_P (dC, dI) classes [(a_t, .inr (5, [.null, .null, .null, .null, .int 0, .int 0])), (q8, .inl (cJ, 1024, .inr (.inl (fun _ => 0))))] H := hP
  have hD : va_D A [(a_t, .inr (5, [.null, .null, .null, .null, .int 0, .int 0])), (q8, .inl (cJ, 1024, .inr (.inl (fun _ => 0))))] := hD
  refine W.widen (k := 1) (n := 1024) (Nat.le_of_ble_eq_true rfl) (Nat.le_of_ble_eq_true rfl) ?_
  refine va_putF (D := (dC, dI)) (ci := 5) (v := .ref q8) (ty := (.array .long)) (C := RX5) (T := TX5) (N := 6) hx hb hts in_X5_init_X5 tyX5 tyX5_ok nmX5 hown hK hP hD hS 0 rfl rfl 0 (by decide) (hts (.fieldLink RX5 11 "NoneWithin$Player" "known" "[J") (by decide +kernel)) (fun _ h9 => h9) rfl hin0 rfl (by decide +kernel) rfl rfl (Nat.le_of_ble_eq_true rfl) dX5_init_10 (fun H locs hP hD hS => ?_)
  have hP : va_P (dC, dI) classes [(a_t, .inr (5, [.ref q8, .null, .null, .null, .int 0, .int 0])), (q8, .inl (cJ, 1024, .inr (.inl (fun _ => 0))))] H := hP
  have hD : va_D A [(a_t, .inr (5, [.ref q8, .null, .null, .null, .int 0, .int 0])), (q8, .inl (cJ, 1024, .inr (.inl (fun _ => 0))))] := hD
  refine lv_aload_n hx hb dX5_init_13 rfl (lv_at hl 0 rfl) ?_
  refine lv_sipush (v := (1024 : Int32)) hx hb dX5_init_14 (by decide) ?_
  refine nw_newJ hx hb (hts (.arrayClass .long) (by decide +kernel)) hK hP hD hS hA 1024 (by decide) (by decide) (by decide) (Nat.le_of_ble_eq_true rfl) (Nat.le_of_ble_eq_true rfl) dX5_init_17 (fun q17 H hP hD hS => ?_)
  have hP : va_P (dC, dI) classes [(a_t, .inr (5, [.ref q8, .null, .null, .null, .int 0, .int 0])), (q8, .inl (cJ, 1024, .inr (.inl (fun _ => 0)))), (q17, .inl (cJ, 1024, .inr (.inl (fun _ => 0))))] H := hP
  have hD : va_D A [(a_t, .inr (5, [.ref q8, .null, .null, .null, .int 0, .int 0])), (q8, .inl (cJ, 1024, .inr (.inl (fun _ => 0)))), (q17, .inl (cJ, 1024, .inr (.inl (fun _ => 0))))] := hD
  refine W.widen (k := 2) (n := 2048) (Nat.le_of_ble_eq_true rfl) (Nat.le_of_ble_eq_true rfl) ?_
  refine va_putF (D := (dC, dI)) (ci := 5) (v := .ref q17) (ty := (.array .long)) (C := RX5) (T := TX5) (N := 6) hx hb hts in_X5_init_X5 tyX5 tyX5_ok nmX5 hown hK hP hD hS 0 rfl rfl 1 (by decide) (hts (.fieldLink RX5 15 "NoneWithin$Player" "won" "[J") (by decide +kernel)) (fun _ h9 => h9) rfl hin0 rfl (by decide +kernel) rfl rfl (Nat.le_of_ble_eq_true rfl) dX5_init_19 (fun H locs hP hD hS => ?_)
  have hP : va_P (dC, dI) classes [(a_t, .inr (5, [.ref q8, .ref q17, .null, .null, .int 0, .int 0])), (q8, .inl (cJ, 1024, .inr (.inl (fun _ => 0)))), (q17, .inl (cJ, 1024, .inr (.inl (fun _ => 0))))] H := hP
  have hD : va_D A [(a_t, .inr (5, [.ref q8, .ref q17, .null, .null, .int 0, .int 0])), (q8, .inl (cJ, 1024, .inr (.inl (fun _ => 0)))), (q17, .inl (cJ, 1024, .inr (.inl (fun _ => 0))))] := hD
  refine lv_aload_n hx hb dX5_init_22 rfl (lv_at hl 0 rfl) ?_
  refine lv_sipush (v := (256 : Int32)) hx hb dX5_init_23 (by decide) ?_
  refine nw_newI hx hb (hts (.arrayClass .int) (by decide +kernel)) hK hP hD hS hA 256 (by decide) (by decide) (by decide) (Nat.le_of_ble_eq_true rfl) (Nat.le_of_ble_eq_true rfl) dX5_init_26 (fun q26 H hP hD hS => ?_)
  have hP : va_P (dC, dI) classes [(a_t, .inr (5, [.ref q8, .ref q17, .null, .null, .int 0, .int 0])), (q8, .inl (cJ, 1024, .inr (.inl (fun _ => 0)))), (q17, .inl (cJ, 1024, .inr (.inl (fun _ => 0)))), (q26, .inl (cI, 256, .inl (fun _ => 0)))] H := hP
  have hD : va_D A [(a_t, .inr (5, [.ref q8, .ref q17, .null, .null, .int 0, .int 0])), (q8, .inl (cJ, 1024, .inr (.inl (fun _ => 0)))), (q17, .inl (cJ, 1024, .inr (.inl (fun _ => 0)))), (q26, .inl (cI, 256, .inl (fun _ => 0)))] := hD
  refine W.widen (k := 3) (n := 2304) (Nat.le_of_ble_eq_true rfl) (Nat.le_of_ble_eq_true rfl) ?_
  refine va_putF (D := (dC, dI)) (ci := 5) (v := .ref q26) (ty := (.array .int)) (C := RX5) (T := TX5) (N := 6) hx hb hts in_X5_init_X5 tyX5 tyX5_ok nmX5 hown hK hP hD hS 0 rfl rfl 2 (by decide) (hts (.fieldLink RX5 18 "NoneWithin$Player" "parts" "[I") (by decide +kernel)) (fun _ h9 => h9) rfl hin0 rfl (by decide +kernel) rfl rfl (Nat.le_of_ble_eq_true rfl) dX5_init_28 (fun H locs hP hD hS => ?_)
  have hP : va_P (dC, dI) classes [(a_t, .inr (5, [.ref q8, .ref q17, .ref q26, .null, .int 0, .int 0])), (q8, .inl (cJ, 1024, .inr (.inl (fun _ => 0)))), (q17, .inl (cJ, 1024, .inr (.inl (fun _ => 0)))), (q26, .inl (cI, 256, .inl (fun _ => 0)))] H := hP
  have hD : va_D A [(a_t, .inr (5, [.ref q8, .ref q17, .ref q26, .null, .int 0, .int 0])), (q8, .inl (cJ, 1024, .inr (.inl (fun _ => 0)))), (q17, .inl (cJ, 1024, .inr (.inl (fun _ => 0)))), (q26, .inl (cI, 256, .inl (fun _ => 0)))] := hD
  refine lv_aload_n hx hb dX5_init_31 rfl (lv_at hl 0 rfl) ?_
  refine lv_iconst (v := (0 : Int32)) hx hb dX5_init_32 (by decide) ?_
  refine va_put (D := (dC, dI)) (ci := 5) (v := .int (0 : Int32)) (ty := .int) (C := RX5) (T := TX5) (N := 6) hx hb hts in_X5_init_X5 tyX5 tyX5_ok nmX5 hown hK hP hD hS 0 rfl rfl 4 (by decide) (hts (.fieldLink RX5 22 "NoneWithin$Player" "list" "I") (by decide +kernel)) (fun _ h9 => h9) rfl (by decide +kernel) rfl rfl (Nat.le_of_ble_eq_true rfl) dX5_init_33 (fun H locs hP hD hS => ?_)
  have hP : va_P (dC, dI) classes [(a_t, .inr (5, [.ref q8, .ref q17, .ref q26, .null, .int (0 : Int32), .int 0])), (q8, .inl (cJ, 1024, .inr (.inl (fun _ => 0)))), (q17, .inl (cJ, 1024, .inr (.inl (fun _ => 0)))), (q26, .inl (cI, 256, .inl (fun _ => 0)))] H := hP
  have hD : va_D A [(a_t, .inr (5, [.ref q8, .ref q17, .ref q26, .null, .int (0 : Int32), .int 0])), (q8, .inl (cJ, 1024, .inr (.inl (fun _ => 0)))), (q17, .inl (cJ, 1024, .inr (.inl (fun _ => 0)))), (q26, .inl (cI, 256, .inl (fun _ => 0)))] := hD
  refine lv_aload_n hx hb dX5_init_36 rfl (lv_at hl 0 rfl) ?_
  refine lv_iconst (v := (0 : Int32)) hx hb dX5_init_37 (by decide) ?_
  refine va_put (D := (dC, dI)) (ci := 5) (v := .int (0 : Int32)) (ty := .int) (C := RX5) (T := TX5) (N := 6) hx hb hts in_X5_init_X5 tyX5 tyX5_ok nmX5 hown hK hP hD hS 0 rfl rfl 5 (by decide) (hts (.fieldLink RX5 26 "NoneWithin$Player" "barred" "I") (by decide +kernel)) (fun _ h9 => h9) rfl (by decide +kernel) rfl rfl (Nat.le_of_ble_eq_true rfl) dX5_init_38 (fun H locs hP hD hS => ?_)
  have hP : va_P (dC, dI) classes [(a_t, .inr (5, [.ref q8, .ref q17, .ref q26, .null, .int (0 : Int32), .int (0 : Int32)])), (q8, .inl (cJ, 1024, .inr (.inl (fun _ => 0)))), (q17, .inl (cJ, 1024, .inr (.inl (fun _ => 0)))), (q26, .inl (cI, 256, .inl (fun _ => 0)))] H := hP
  have hD : va_D A [(a_t, .inr (5, [.ref q8, .ref q17, .ref q26, .null, .int (0 : Int32), .int (0 : Int32)])), (q8, .inl (cJ, 1024, .inr (.inl (fun _ => 0)))), (q17, .inl (cJ, 1024, .inr (.inl (fun _ => 0)))), (q26, .inl (cI, 256, .inl (fun _ => 0)))] := hD
  refine lv_aload_n hx hb dX5_init_41 rfl (lv_at hl 0 rfl) ?_
  refine lv_aload_n hx hb dX5_init_42 rfl (lv_at hl 1 rfl) ?_
  refine va_putF (D := (dC, dI)) (ci := 5) (v := .ref a_p0) (ty := (.object "NoneWithin$LawTable")) (C := RX5) (T := TX5) (N := 6) hx hb hts in_X5_init_X5 tyX5 tyX5_ok nmX5 hown hK hP hD hS 0 rfl rfl 3 (by decide) (hts (.fieldLink RX5 29 "NoneWithin$Player" "table" "LNoneWithin$LawTable;") (by decide +kernel)) (fun _ h9 => h9) rfl hin0 rfl (by decide +kernel) rfl rfl (Nat.le_of_ble_eq_true rfl) dX5_init_43 (fun H locs hP hD hS => ?_)
  have hP : va_P (dC, dI) classes [(a_t, .inr (5, [.ref q8, .ref q17, .ref q26, .ref a_p0, .int (0 : Int32), .int (0 : Int32)])), (q8, .inl (cJ, 1024, .inr (.inl (fun _ => 0)))), (q17, .inl (cJ, 1024, .inr (.inl (fun _ => 0)))), (q26, .inl (cI, 256, .inl (fun _ => 0)))] H := hP
  have hD : va_D A [(a_t, .inr (5, [.ref q8, .ref q17, .ref q26, .ref a_p0, .int (0 : Int32), .int (0 : Int32)])), (q8, .inl (cJ, 1024, .inr (.inl (fun _ => 0)))), (q17, .inl (cJ, 1024, .inr (.inl (fun _ => 0)))), (q26, .inl (cI, 256, .inl (fun _ => 0)))] := hD
  exact nw_nret (Wf := W_X5_init cI cJ cZ cQ a_t a_p0) (q8, q17, q26) rfl hx hb hr hlocks hK hP hD hS dX5_init_46
def W_X7_init (cI cJ cZ cQ : ClassId) (a_t a_p0 : Nat) (u : (Nat × Nat × Nat)) : va_W := [(a_t, .inr (7, [.ref u.1, .ref a_p0, .int (0 : Int32), .int (0 : Int32), .int (0 : Int32), .int (0 : Int32)])), (u.1, .inr (6, [.int (4 : Int32), .int (0 : Int32), .int (8 : Int32), .int (0 : Int32), .ref u.2.1, .ref u.2.2])), (u.2.1, .inl (cI, 16, .inl (fun _ => 0))), (u.2.2, .inl (cI, 16, .inl (fun _ => 0)))]
theorem in_X7_init_X6 : ∀ w ∈ wsX60, w ∈ wsX7_init := fun _ h => List.mem_cons_of_mem _ (List.mem_append_left _ (List.mem_append_right _ h))
theorem in_X7_init_X7 : ∀ w ∈ wsX70, w ∈ wsX7_init := fun _ h => List.mem_cons_of_mem _ (List.mem_append_right _ h)
abbrev rm_X7_init : Room := { frames := 2, cells := 3, slots := 38, locals := 32 }
set_option maxHeartbeats 4000000 in
set_option maxRecDepth 100000 in
theorem c_X7_init (l : Launch) (dC : Nat → ClassId) (dI : Nat → Nat → Nat) (cI cJ cZ cQ : ClassId) (gx : GX) (a_t : Nat) (sz : Nat) (a_p0 : Nat) : Met l yX7_init wsX7_init rm_X7_init (kP dC dI cI cJ cZ cQ gx [.ref a_t, .ref a_p0] sz [(a_t, .inr (7, [.null, .null, .int 0, .int 0, .int 0, .int 0]))]) (kQn dC dI cI cJ cZ cQ (W_X7_init cI cJ cZ cQ a_t a_p0) (va_A [(a_t, .inr (7, [.null, .null, .int 0, .int 0, .int 0, .int 0]))] sz)) 3 38 (va_A [(a_t, .inr (7, [.null, .null, .int 0, .int 0, .int 0, .int 0]))] sz) := by
  refine nw_entry (y := yX7_init) (ws := wsX7_init) (rm := rm_X7_init) (sz := sz) (wpre := [(a_t, .inr (7, [.null, .null, .int 0, .int 0, .int 0, .int 0]))]) (av := [.ref a_t, .ref a_p0]) (Qc := kQn dC dI cI cJ cZ cQ (W_X7_init cI cJ cZ cQ a_t a_p0)) (cc := cX7_init) (own := RX7) [(0, .ref a_t), (1, .ref a_p0)] (by decide) rfl rfl (Nat.le_of_ble_eq_true rfl) rfl ?_
  intro p e s m below meth c A ls H locs hfix hr hlocks hin0 hsz0 hP hK hD hA hS hN hG hl
  obtain ⟨hx, hb, hml, hown, hts⟩ := id hfix
  refine lv_aload_n hx hb dX7_init_0 rfl (lv_at hl 0 rfl) ?_
  refine W.objInit hx hb hown (hts (.methodLink RX7 3 objectInit) (by decide +kernel)) (hts (.instanceMethod objectInit) (by decide +kernel)) (hts (.code objectInit ⟨#[0xb1]⟩ 1 none) (by decide +kernel)) rfl (by rw [hml]; exact hl.1) rfl dX7_init_1 (Nat.le_of_ble_eq_true rfl) (Nat.le_of_ble_eq_true rfl) ?_
  refine W.eq (g2 := F0 m 4 ls []) rfl ?_
  refine lv_aload_n hx hb dX7_init_4 rfl (lv_at hl 0 rfl) ?_
  refine va_new (ci := 6) (fs := [.int 0, .int 0, .int 0, .int 0, .null, .null]) (C := RX6) (T := TX6) (N := 6) hx hb hts in_X7_init_X6 tyX6 tyX6_ok hown (hts (.classLink RX7 9 RX6) (by decide +kernel)) (hts (.instantiable RX6 6) (by decide +kernel)) (hts (.initialized RX6) (by decide +kernel)) hK hP hD hS hA rfl (fun j hj => by rcases (show j = 0 ∨ j = 1 ∨ j = 2 ∨ j = 3 ∨ j = 4 ∨ j = 5 by omega) with rfl | rfl | rfl | rfl | rfl | rfl <;> rfl) (Nat.le_of_ble_eq_true rfl) (Nat.le_of_ble_eq_true rfl) dX7_init_5 (fun q5 H hP hD hS => ?_)
  have hP : va_P (dC, dI) classes [(a_t, .inr (7, [.null, .null, .int 0, .int 0, .int 0, .int 0])), (q5, .inr (6, [.int 0, .int 0, .int 0, .int 0, .null, .null]))] H := hP
  have hD : va_D A [(a_t, .inr (7, [.null, .null, .int 0, .int 0, .int 0, .int 0])), (q5, .inr (6, [.int 0, .int 0, .int 0, .int 0, .null, .null]))] := hD
  refine W.widen (k := 1) (n := 6) (Nat.le_of_ble_eq_true rfl) (Nat.le_of_ble_eq_true rfl) ?_
  refine lv_dup hx hb dX7_init_8 rfl ?_
  refine nw_n (wc := [(q5, .inr (6, [.int 0, .int 0, .int 0, .int 0, .null, .null]))]) (wr := [(a_t, .inr (7, [.null, .null, .int 0, .int 0, .int 0, .int 0]))]) (Wf := W_X6_init cI cJ cZ cQ q5 ) [1] [0] hP hD hS hA rfl rfl rfl (by decide) (nw_runI (As := []) (rest := [.ref q5, .ref a_t]) hfix (c_X6_init l dC dI cI cJ cZ cQ gx q5 H.size ) (cwI 0 hts gX7_init_X6_init rfl rfl rfl (hts (.initialized RX6) (by decide +kernel)) (hts (.methodLink RX7 11 yX6_init) (by decide +kernel)) (hts (.instanceMethod yX6_init) (by decide +kernel)) rfl (by decide +kernel) ⟨Nat.le_of_ble_eq_true rfl, Nat.le_of_ble_eq_true rfl⟩) hP hD hK hN hS hA hG [1] rfl rfl hl.1 rfl rfl (Nat.le_of_ble_eq_true rfl) dX7_init_9 ⟨Nat.le_of_ble_eq_true rfl, Nat.le_of_ble_eq_true rfl⟩) (fun u9_6 H locs hP hD hS => ?_)
  have hP : va_P (dC, dI) classes [(a_t, .inr (7, [.null, .null, .int 0, .int 0, .int 0, .int 0])), (q5, .inr (6, [.int (4 : Int32), .int (0 : Int32), .int (8 : Int32), .int (0 : Int32), .ref u9_6.1, .ref u9_6.2])), (u9_6.1, .inl (cI, 16, .inl (fun _ => 0))), (u9_6.2, .inl (cI, 16, .inl (fun _ => 0)))] H := hP
  have hD : va_D A [(a_t, .inr (7, [.null, .null, .int 0, .int 0, .int 0, .int 0])), (q5, .inr (6, [.int (4 : Int32), .int (0 : Int32), .int (8 : Int32), .int (0 : Int32), .ref u9_6.1, .ref u9_6.2])), (u9_6.1, .inl (cI, 16, .inl (fun _ => 0))), (u9_6.2, .inl (cI, 16, .inl (fun _ => 0)))] := hD
  refine W.widen (k := 3) (n := 38) (Nat.le_of_ble_eq_true rfl) (Nat.le_of_ble_eq_true rfl) ?_
  refine va_putF (D := (dC, dI)) (ci := 7) (v := .ref q5) (ty := (.object "NoneWithin$Shop")) (C := RX7) (T := TX7) (N := 6) hx hb hts in_X7_init_X7 tyX7 tyX7_ok nmX7 hown hK hP hD hS 0 rfl rfl 0 (by decide) (hts (.fieldLink RX7 12 "NoneWithin$ShopReader" "shop" "LNoneWithin$Shop;") (by decide +kernel)) (fun _ h9 => h9) rfl hin0 rfl (by decide +kernel) rfl rfl (Nat.le_of_ble_eq_true rfl) dX7_init_12 (fun H locs hP hD hS => ?_)
  have hP : va_P (dC, dI) classes [(a_t, .inr (7, [.ref q5, .null, .int 0, .int 0, .int 0, .int 0])), (q5, .inr (6, [.int (4 : Int32), .int (0 : Int32), .int (8 : Int32), .int (0 : Int32), .ref u9_6.1, .ref u9_6.2])), (u9_6.1, .inl (cI, 16, .inl (fun _ => 0))), (u9_6.2, .inl (cI, 16, .inl (fun _ => 0)))] H := hP
  have hD : va_D A [(a_t, .inr (7, [.ref q5, .null, .int 0, .int 0, .int 0, .int 0])), (q5, .inr (6, [.int (4 : Int32), .int (0 : Int32), .int (8 : Int32), .int (0 : Int32), .ref u9_6.1, .ref u9_6.2])), (u9_6.1, .inl (cI, 16, .inl (fun _ => 0))), (u9_6.2, .inl (cI, 16, .inl (fun _ => 0)))] := hD
  refine lv_aload_n hx hb dX7_init_15 rfl (lv_at hl 0 rfl) ?_
  refine lv_iconst (v := (0 : Int32)) hx hb dX7_init_16 (by decide) ?_
  refine va_put (D := (dC, dI)) (ci := 7) (v := .int (0 : Int32)) (ty := .int) (C := RX7) (T := TX7) (N := 6) hx hb hts in_X7_init_X7 tyX7 tyX7_ok nmX7 hown hK hP hD hS 0 rfl rfl 2 (by decide) (hts (.fieldLink RX7 18 "NoneWithin$ShopReader" "length" "I") (by decide +kernel)) (fun _ h9 => h9) rfl (by decide +kernel) rfl rfl (Nat.le_of_ble_eq_true rfl) dX7_init_17 (fun H locs hP hD hS => ?_)
  have hP : va_P (dC, dI) classes [(a_t, .inr (7, [.ref q5, .null, .int (0 : Int32), .int 0, .int 0, .int 0])), (q5, .inr (6, [.int (4 : Int32), .int (0 : Int32), .int (8 : Int32), .int (0 : Int32), .ref u9_6.1, .ref u9_6.2])), (u9_6.1, .inl (cI, 16, .inl (fun _ => 0))), (u9_6.2, .inl (cI, 16, .inl (fun _ => 0)))] H := hP
  have hD : va_D A [(a_t, .inr (7, [.ref q5, .null, .int (0 : Int32), .int 0, .int 0, .int 0])), (q5, .inr (6, [.int (4 : Int32), .int (0 : Int32), .int (8 : Int32), .int (0 : Int32), .ref u9_6.1, .ref u9_6.2])), (u9_6.1, .inl (cI, 16, .inl (fun _ => 0))), (u9_6.2, .inl (cI, 16, .inl (fun _ => 0)))] := hD
  refine lv_aload_n hx hb dX7_init_20 rfl (lv_at hl 0 rfl) ?_
  refine lv_iconst (v := (0 : Int32)) hx hb dX7_init_21 (by decide) ?_
  refine va_put (D := (dC, dI)) (ci := 7) (v := .int (0 : Int32)) (ty := .int) (C := RX7) (T := TX7) (N := 6) hx hb hts in_X7_init_X7 tyX7 tyX7_ok nmX7 hown hK hP hD hS 0 rfl rfl 3 (by decide) (hts (.fieldLink RX7 22 "NoneWithin$ShopReader" "kind" "I") (by decide +kernel)) (fun _ h9 => h9) rfl (by decide +kernel) rfl rfl (Nat.le_of_ble_eq_true rfl) dX7_init_22 (fun H locs hP hD hS => ?_)
  have hP : va_P (dC, dI) classes [(a_t, .inr (7, [.ref q5, .null, .int (0 : Int32), .int (0 : Int32), .int 0, .int 0])), (q5, .inr (6, [.int (4 : Int32), .int (0 : Int32), .int (8 : Int32), .int (0 : Int32), .ref u9_6.1, .ref u9_6.2])), (u9_6.1, .inl (cI, 16, .inl (fun _ => 0))), (u9_6.2, .inl (cI, 16, .inl (fun _ => 0)))] H := hP
  have hD : va_D A [(a_t, .inr (7, [.ref q5, .null, .int (0 : Int32), .int (0 : Int32), .int 0, .int 0])), (q5, .inr (6, [.int (4 : Int32), .int (0 : Int32), .int (8 : Int32), .int (0 : Int32), .ref u9_6.1, .ref u9_6.2])), (u9_6.1, .inl (cI, 16, .inl (fun _ => 0))), (u9_6.2, .inl (cI, 16, .inl (fun _ => 0)))] := hD
  refine lv_aload_n hx hb dX7_init_25 rfl (lv_at hl 0 rfl) ?_
  refine lv_iconst (v := (0 : Int32)) hx hb dX7_init_26 (by decide) ?_
  refine va_put (D := (dC, dI)) (ci := 7) (v := .int (0 : Int32)) (ty := .int) (C := RX7) (T := TX7) (N := 6) hx hb hts in_X7_init_X7 tyX7 tyX7_ok nmX7 hown hK hP hD hS 0 rfl rfl 4 (by decide) (hts (.fieldLink RX7 25 "NoneWithin$ShopReader" "start" "I") (by decide +kernel)) (fun _ h9 => h9) rfl (by decide +kernel) rfl rfl (Nat.le_of_ble_eq_true rfl) dX7_init_27 (fun H locs hP hD hS => ?_)
  have hP : va_P (dC, dI) classes [(a_t, .inr (7, [.ref q5, .null, .int (0 : Int32), .int (0 : Int32), .int (0 : Int32), .int 0])), (q5, .inr (6, [.int (4 : Int32), .int (0 : Int32), .int (8 : Int32), .int (0 : Int32), .ref u9_6.1, .ref u9_6.2])), (u9_6.1, .inl (cI, 16, .inl (fun _ => 0))), (u9_6.2, .inl (cI, 16, .inl (fun _ => 0)))] H := hP
  have hD : va_D A [(a_t, .inr (7, [.ref q5, .null, .int (0 : Int32), .int (0 : Int32), .int (0 : Int32), .int 0])), (q5, .inr (6, [.int (4 : Int32), .int (0 : Int32), .int (8 : Int32), .int (0 : Int32), .ref u9_6.1, .ref u9_6.2])), (u9_6.1, .inl (cI, 16, .inl (fun _ => 0))), (u9_6.2, .inl (cI, 16, .inl (fun _ => 0)))] := hD
  refine lv_aload_n hx hb dX7_init_30 rfl (lv_at hl 0 rfl) ?_
  refine lv_iconst (v := (0 : Int32)) hx hb dX7_init_31 (by decide) ?_
  refine va_put (D := (dC, dI)) (ci := 7) (v := .int (0 : Int32)) (ty := .int) (C := RX7) (T := TX7) (N := 6) hx hb hts in_X7_init_X7 tyX7 tyX7_ok nmX7 hown hK hP hD hS 0 rfl rfl 5 (by decide) (hts (.fieldLink RX7 28 "NoneWithin$ShopReader" "end" "I") (by decide +kernel)) (fun _ h9 => h9) rfl (by decide +kernel) rfl rfl (Nat.le_of_ble_eq_true rfl) dX7_init_32 (fun H locs hP hD hS => ?_)
  have hP : va_P (dC, dI) classes [(a_t, .inr (7, [.ref q5, .null, .int (0 : Int32), .int (0 : Int32), .int (0 : Int32), .int (0 : Int32)])), (q5, .inr (6, [.int (4 : Int32), .int (0 : Int32), .int (8 : Int32), .int (0 : Int32), .ref u9_6.1, .ref u9_6.2])), (u9_6.1, .inl (cI, 16, .inl (fun _ => 0))), (u9_6.2, .inl (cI, 16, .inl (fun _ => 0)))] H := hP
  have hD : va_D A [(a_t, .inr (7, [.ref q5, .null, .int (0 : Int32), .int (0 : Int32), .int (0 : Int32), .int (0 : Int32)])), (q5, .inr (6, [.int (4 : Int32), .int (0 : Int32), .int (8 : Int32), .int (0 : Int32), .ref u9_6.1, .ref u9_6.2])), (u9_6.1, .inl (cI, 16, .inl (fun _ => 0))), (u9_6.2, .inl (cI, 16, .inl (fun _ => 0)))] := hD
  refine lv_aload_n hx hb dX7_init_35 rfl (lv_at hl 0 rfl) ?_
  refine lv_aload_n hx hb dX7_init_36 rfl (lv_at hl 1 rfl) ?_
  refine va_putF (D := (dC, dI)) (ci := 7) (v := .ref a_p0) (ty := (.array .int)) (C := RX7) (T := TX7) (N := 6) hx hb hts in_X7_init_X7 tyX7 tyX7_ok nmX7 hown hK hP hD hS 0 rfl rfl 1 (by decide) (hts (.fieldLink RX7 31 "NoneWithin$ShopReader" "text" "[I") (by decide +kernel)) (fun _ h9 => h9) rfl hin0 rfl (by decide +kernel) rfl rfl (Nat.le_of_ble_eq_true rfl) dX7_init_37 (fun H locs hP hD hS => ?_)
  have hP : va_P (dC, dI) classes [(a_t, .inr (7, [.ref q5, .ref a_p0, .int (0 : Int32), .int (0 : Int32), .int (0 : Int32), .int (0 : Int32)])), (q5, .inr (6, [.int (4 : Int32), .int (0 : Int32), .int (8 : Int32), .int (0 : Int32), .ref u9_6.1, .ref u9_6.2])), (u9_6.1, .inl (cI, 16, .inl (fun _ => 0))), (u9_6.2, .inl (cI, 16, .inl (fun _ => 0)))] H := hP
  have hD : va_D A [(a_t, .inr (7, [.ref q5, .ref a_p0, .int (0 : Int32), .int (0 : Int32), .int (0 : Int32), .int (0 : Int32)])), (q5, .inr (6, [.int (4 : Int32), .int (0 : Int32), .int (8 : Int32), .int (0 : Int32), .ref u9_6.1, .ref u9_6.2])), (u9_6.1, .inl (cI, 16, .inl (fun _ => 0))), (u9_6.2, .inl (cI, 16, .inl (fun _ => 0)))] := hD
  exact nw_nret (Wf := W_X7_init cI cJ cZ cQ a_t a_p0) (q5, u9_6.1, u9_6.2) rfl hx hb hr hlocks hK hP hD hS dX7_init_40
