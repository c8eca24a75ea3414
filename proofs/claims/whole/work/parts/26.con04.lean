theorem in_X6_holds_X6 : ∀ w ∈ wsX60, w ∈ wsX6_holds := fun _ h => List.mem_cons_of_mem _ (List.mem_append_right _ h)
abbrev rm_X6_holds : Room := { frames := 0, cells := 0, slots := 0, locals := 0 }
set_option maxHeartbeats 4000000 in
set_option maxRecDepth 100000 in
theorem c_X6_holds (l : Launch) (dC : Nat → ClassId) (dI : Nat → Nat → Nat) (cI cJ cZ cQ : ClassId) (gx : GX) (a_t a_t_sets a_t_worths : Nat) (sz : Nat) (v_t_n : Int32) (v_t_low : Int32) (v_t_high : Int32) (v_t_boxes : Int32) (f_t_sets : (Nat → Int32)) (p0 : Int32) (res : Int32) (hM : M_X6_holds v_t_boxes f_t_sets p0 = some res) : Met l yX6_holds wsX6_holds rm_X6_holds (kP dC dI cI cJ cZ cQ gx [.ref a_t, .int p0] sz [(a_t, .inr (6, [.int v_t_n, .int v_t_low, .int v_t_high, .int v_t_boxes, .ref a_t_sets, .ref a_t_worths])), (a_t_sets, .inl (cI, 16, .inl f_t_sets))]) (kQi dC dI cI cJ cZ cQ res [(a_t, .inr (6, [.int v_t_n, .int v_t_low, .int v_t_high, .int v_t_boxes, .ref a_t_sets, .ref a_t_worths])), (a_t_sets, .inl (cI, 16, .inl f_t_sets))] (va_A [(a_t, .inr (6, [.int v_t_n, .int v_t_low, .int v_t_high, .int v_t_boxes, .ref a_t_sets, .ref a_t_worths])), (a_t_sets, .inl (cI, 16, .inl f_t_sets))] sz)) 0 0 (va_A [(a_t, .inr (6, [.int v_t_n, .int v_t_low, .int v_t_high, .int v_t_boxes, .ref a_t_sets, .ref a_t_worths])), (a_t_sets, .inl (cI, 16, .inl f_t_sets))] sz) := by
  refine nw_entry (y := yX6_holds) (ws := wsX6_holds) (rm := rm_X6_holds) (sz := sz) (wpre := [(a_t, .inr (6, [.int v_t_n, .int v_t_low, .int v_t_high, .int v_t_boxes, .ref a_t_sets, .ref a_t_worths])), (a_t_sets, .inl (cI, 16, .inl f_t_sets))]) (av := [.ref a_t, .int p0]) (Qc := (kQi dC dI cI cJ cZ cQ res [(a_t, .inr (6, [.int v_t_n, .int v_t_low, .int v_t_high, .int v_t_boxes, .ref a_t_sets, .ref a_t_worths])), (a_t_sets, .inl (cI, 16, .inl f_t_sets))])) (cc := cX6_holds) (own := RX6) [(0, .ref a_t), (1, .int p0)] (by decide) rfl rfl (Nat.le_of_ble_eq_true rfl) rfl ?_
  intro p e s m below meth c A ls H locs hfix hr hlocks hin0 hsz0 hP hK hD hA hS hN hG hl
  obtain ⟨hx, hb, hml, hown, hts⟩ := id hfix
  obtain ⟨Qq, hQq⟩ : ∃ Q9, Q9 = (kQi dC dI cI cJ cZ cQ res [(a_t, .inr (6, [.int v_t_n, .int v_t_low, .int v_t_high, .int v_t_boxes, .ref a_t_sets, .ref a_t_worths])), (a_t_sets, .inl (cI, 16, .inl f_t_sets))]) := ⟨_, rfl⟩
  rw [← hQq]
  have hX : res = res := rfl
  have hM : (lpN (fun z => L_X6_holds_2 p0 v_t_boxes f_t_sets z) fuelK (0 : Int32)) = some res := hM
  refine lv_iconst (v := (0 : Int32)) hx hb dX6_holds_0 (by decide) ?_
  refine lv_istore_n (lv' := [(2, .int (0 : Int32)), (0, .ref a_t), (1, .int p0)]) hx hb dX6_holds_1 rfl hl (by decide) rfl (fun ls hl => ?_)
  obtain ⟨W2, hW2⟩ : ∃ W9 : Int32 → Prop, W9 = fun (y2_2 : Int32) => ∀ (H : Heap) (locs : List Loc) (ls : Array Slot), va_P (dC, dI) classes [(a_t, .inr (6, [.int v_t_n, .int v_t_low, .int v_t_high, .int v_t_boxes, .ref a_t_sets, .ref a_t_worths])), (a_t_sets, .inl (cI, 16, .inl f_t_sets))] H → va_D A [(a_t, .inr (6, [.int v_t_n, .int v_t_low, .int v_t_high, .int v_t_boxes, .ref a_t_sets, .ref a_t_worths])), (a_t_sets, .inl (cI, 16, .inl f_t_sets))] → va_S A s.heap H locs → lv_has ls 3 [(0, .ref a_t), (1, .int p0), (2, .int y2_2)] → W p l e rm_X6_holds s m ([.ref a_t, .int p0] : List Value).toArray below meth c H locs 0 0 (MQ below (Qq A) ([.ref a_t, .int p0] : List Value).toArray s 0 0 A) (F0 m 2 ls []) := ⟨_, rfl⟩
  have hst : ∀ (z : Int32) (x : (Int32 ⊕ Int32)), (fun z => L_X6_holds_2 p0 v_t_boxes f_t_sets z) z = some x → ((∀ z', x = Sum.inl z' → W2 z') ∧ (∀ t_2, x = Sum.inr t_2 → t_2 = res)) → W2 z := by
    intro y2_2 x hM hX
    have hM : L_X6_holds_2 p0 v_t_boxes f_t_sets y2_2 = some x := hM
    show W2 y2_2
    rw [hW2]
    intro H locs ls hP hD hS hl
    have hM : (if v_t_boxes ≤ y2_2 then (((some (0 : Int32))).map Sum.inr) else (ix y2_2 16 (if (f_t_sets y2_2.toNatClampNeg) = p0 then (((some (1 : Int32))).map Sum.inr) else (some (Sum.inl (y2_2 + (1 : Int32))))))) = some x := hM
    refine lv_iload_n hx hb dX6_holds_2 rfl (lv_at hl 2 rfl) ?_
    refine lv_aload_n hx hb dX6_holds_3 rfl (lv_at hl 0 rfl) ?_
    refine va_get (D := (dC, dI)) (ci := 6) (v := .int v_t_boxes) (C := RX6) (T := TX6) (N := 6) hx hb hts in_X6_holds_X6 hown hK hP 0 rfl rfl 3 (by decide) (hts (.fieldLink RX6 21 "NoneWithin$Shop" "boxes" "I") (by decide +kernel)) (fun _ h9 => h9) rfl dX6_holds_4 ?_
    refine lv_icmp_ge (tgt := 28) hx hb dX6_holds_7 (by decide) (fun c7 => ?_) (fun c7 => ?_)
    · have hM := ifp c7 hM
      obtain ⟨x, hMn, hxe⟩ := mpr hM
      have hX := hX.2 _ hxe
      have hM := hMn
      refine lv_iconst (v := (0 : Int32)) hx hb dX6_holds_28 (by decide) ?_
      have hE : res = ((0 : Int32) : Int32) := ((Option.some.inj hM).trans hX).symm
      rw [hQq, hE]
      exact nw_zret rfl rfl hx hb hr hlocks hK hP hD hS dX6_holds_29
    · have hM := ifn c7 hM
      refine lv_aload_n hx hb dX6_holds_10 rfl (lv_at hl 0 rfl) ?_
      refine va_get (D := (dC, dI)) (ci := 6) (v := .ref a_t_sets) (C := RX6) (T := TX6) (N := 6) hx hb hts in_X6_holds_X6 hown hK hP 0 rfl rfl 4 (by decide) (hts (.fieldLink RX6 24 "NoneWithin$Shop" "sets" "[I") (by decide +kernel)) (fun _ h9 => h9) rfl dX6_holds_11 ?_
      refine lv_iload_n hx hb dX6_holds_14 rfl (lv_at hl 2 rfl) ?_
      obtain ⟨hin, hM⟩ := ixp hM
      refine va_iald hx hb hK hP 1 0 rfl rfl hin dX6_holds_15 ?_
      refine lv_iload_n hx hb dX6_holds_16 rfl (lv_at hl 1 rfl) ?_
      refine lv_icmp_ne (tgt := 22) hx hb dX6_holds_17 (by decide) (fun c17 => ?_) (fun c17 => ?_)
      · have hM := ifn c17 hM
        refine lv_iinc (v := (y2_2 + (1 : Int32))) (lv' := [(2, .int (y2_2 + (1 : Int32))), (0, .ref a_t), (1, .int p0)]) hx hb dX6_holds_22 hl (k := 2) rfl rfl (by decide) rfl (fun ls hl => ?_)
        refine lv_goto (tgt := 2) hx hb dX6_holds_25 (by decide) ?_
        have hw := hX.1 _ (Option.some.inj hM).symm
        rw [hW2] at hw
        exact hw H locs ls hP hD hS (lv_sub hl [1, 2, 0] rfl)
      · have hM := ifp c17 hM
        obtain ⟨x, hMn, hxe⟩ := mpr hM
        have hX := hX.2 _ hxe
        have hM := hMn
        refine lv_iconst (v := (1 : Int32)) hx hb dX6_holds_20 (by decide) ?_
        have hE : res = ((1 : Int32) : Int32) := ((Option.some.inj hM).trans hX).symm
        rw [hQq, hE]
        exact nw_zret rfl rfl hx hb hr hlocks hK hP hD hS dX6_holds_21
  have hw := lp_walk (Wp := fun z => W2 z) (X := fun t => t = res) hst _ _ _ hM hX
  rw [hW2] at hw
  exact hw H locs ls hP hD hS (lv_sub hl [1, 2, 0] rfl)
theorem in_X6_put_X6 : ∀ w ∈ wsX60, w ∈ wsX6_put := fun _ h => List.mem_cons_of_mem _ (List.mem_append_right _ h)
abbrev rm_X6_put : Room := { frames := 0, cells := 0, slots := 0, locals := 0 }
set_option maxHeartbeats 4000000 in
set_option maxRecDepth 100000 in
theorem c_X6_put (l : Launch) (dC : Nat → ClassId) (dI : Nat → Nat → Nat) (cI cJ cZ cQ : ClassId) (gx : GX) (a_t a_t_sets a_t_worths : Nat) (sz : Nat) (v_t_n : Int32) (v_t_low : Int32) (v_t_high : Int32) (v_t_boxes : Int32) (f_t_sets : (Nat → Int32)) (f_t_worths : (Nat → Int32)) (p0 : Int32) (p1 : Int32) (res : (Int32 × (Nat → Int32) × (Nat → Int32))) (hM : M_X6_put v_t_boxes f_t_sets f_t_worths p0 p1 = some res) : Met l yX6_put wsX6_put rm_X6_put (kP dC dI cI cJ cZ cQ gx [.ref a_t, .int p0, .int p1] sz [(a_t, .inr (6, [.int v_t_n, .int v_t_low, .int v_t_high, .int v_t_boxes, .ref a_t_sets, .ref a_t_worths])), (a_t_sets, .inl (cI, 16, .inl f_t_sets)), (a_t_worths, .inl (cI, 16, .inl f_t_worths))]) (kQv dC dI cI cJ cZ cQ [(a_t, .inr (6, [.int v_t_n, .int v_t_low, .int v_t_high, .int res.1, .ref a_t_sets, .ref a_t_worths])), (a_t_sets, .inl (cI, 16, .inl res.2.1)), (a_t_worths, .inl (cI, 16, .inl res.2.2))] (va_A [(a_t, .inr (6, [.int v_t_n, .int v_t_low, .int v_t_high, .int v_t_boxes, .ref a_t_sets, .ref a_t_worths])), (a_t_sets, .inl (cI, 16, .inl f_t_sets)), (a_t_worths, .inl (cI, 16, .inl f_t_worths))] sz)) 0 0 (va_A [(a_t, .inr (6, [.int v_t_n, .int v_t_low, .int v_t_high, .int v_t_boxes, .ref a_t_sets, .ref a_t_worths])), (a_t_sets, .inl (cI, 16, .inl f_t_sets)), (a_t_worths, .inl (cI, 16, .inl f_t_worths))] sz) := by
  refine nw_entry (y := yX6_put) (ws := wsX6_put) (rm := rm_X6_put) (sz := sz) (wpre := [(a_t, .inr (6, [.int v_t_n, .int v_t_low, .int v_t_high, .int v_t_boxes, .ref a_t_sets, .ref a_t_worths])), (a_t_sets, .inl (cI, 16, .inl f_t_sets)), (a_t_worths, .inl (cI, 16, .inl f_t_worths))]) (av := [.ref a_t, .int p0, .int p1]) (Qc := (kQv dC dI cI cJ cZ cQ [(a_t, .inr (6, [.int v_t_n, .int v_t_low, .int v_t_high, .int res.1, .ref a_t_sets, .ref a_t_worths])), (a_t_sets, .inl (cI, 16, .inl res.2.1)), (a_t_worths, .inl (cI, 16, .inl res.2.2))])) (cc := cX6_put) (own := RX6) [(0, .ref a_t), (1, .int p0), (2, .int p1)] (by decide) rfl rfl (Nat.le_of_ble_eq_true rfl) rfl ?_
  intro p e s m below meth c A ls H locs hfix hr hlocks hin0 hsz0 hP hK hD hA hS hN hG hl
  obtain ⟨hx, hb, hml, hown, hts⟩ := id hfix
  obtain ⟨Qq, hQq⟩ : ∃ Q9, Q9 = (kQv dC dI cI cJ cZ cQ [(a_t, .inr (6, [.int v_t_n, .int v_t_low, .int v_t_high, .int res.1, .ref a_t_sets, .ref a_t_worths])), (a_t_sets, .inl (cI, 16, .inl res.2.1)), (a_t_worths, .inl (cI, 16, .inl res.2.2))]) := ⟨_, rfl⟩
  rw [← hQq]
  have hX : res = res := rfl
  have hM : (if (16 : Int32) ≤ v_t_boxes then (some (v_t_boxes, f_t_sets, f_t_worths)) else (ix v_t_boxes 16 (ix v_t_boxes 16 (some ((v_t_boxes + (1 : Int32)), (upd f_t_sets v_t_boxes.toNatClampNeg p0), (upd f_t_worths v_t_boxes.toNatClampNeg p1)))))) = some res := hM
  refine lv_aload_n hx hb dX6_put_0 rfl (lv_at hl 0 rfl) ?_
  refine va_get (D := (dC, dI)) (ci := 6) (v := .int v_t_boxes) (C := RX6) (T := TX6) (N := 6) hx hb hts in_X6_put_X6 hown hK hP 0 rfl rfl 3 (by decide) (hts (.fieldLink RX6 21 "NoneWithin$Shop" "boxes" "I") (by decide +kernel)) (fun _ h9 => h9) rfl dX6_put_1 ?_
  refine lv_bipush (v := (16 : Int32)) hx hb dX6_put_4 (by decide) ?_
  refine lv_icmp_ge (tgt := 39) hx hb dX6_put_6 (by decide) (fun c6 => ?_) (fun c6 => ?_)
  · have hM := ifp c6 hM
    have hE : res = ((v_t_boxes, f_t_sets, f_t_worths) : (Int32 × (Nat → Int32) × (Nat → Int32))) := ((Option.some.inj hM).trans hX).symm
    rw [hQq, hE]
    exact nw_vret hx hb hr hlocks hK hP hD hS dX6_put_39
  · have hM := ifn c6 hM
    refine lv_aload_n hx hb dX6_put_9 rfl (lv_at hl 0 rfl) ?_
    refine va_get (D := (dC, dI)) (ci := 6) (v := .ref a_t_sets) (C := RX6) (T := TX6) (N := 6) hx hb hts in_X6_put_X6 hown hK hP 0 rfl rfl 4 (by decide) (hts (.fieldLink RX6 24 "NoneWithin$Shop" "sets" "[I") (by decide +kernel)) (fun _ h9 => h9) rfl dX6_put_10 ?_
    refine lv_aload_n hx hb dX6_put_13 rfl (lv_at hl 0 rfl) ?_
    refine va_get (D := (dC, dI)) (ci := 6) (v := .int v_t_boxes) (C := RX6) (T := TX6) (N := 6) hx hb hts in_X6_put_X6 hown hK hP 0 rfl rfl 3 (by decide) (hts (.fieldLink RX6 21 "NoneWithin$Shop" "boxes" "I") (by decide +kernel)) (fun _ h9 => h9) rfl dX6_put_14 ?_
    refine lv_iload_n hx hb dX6_put_17 rfl (lv_at hl 1 rfl) ?_
    obtain ⟨hin, hM⟩ := ixp hM
    refine va_iast hx hb hK hP hD hS 1 0 rfl rfl hin dX6_put_18 (fun H locs hP hD hS => ?_)
    have hP : va_P (dC, dI) classes [(a_t, .inr (6, [.int v_t_n, .int v_t_low, .int v_t_high, .int v_t_boxes, .ref a_t_sets, .ref a_t_worths])), (a_t_sets, .inl (cI, 16, .inl (upd f_t_sets v_t_boxes.toNatClampNeg p0))), (a_t_worths, .inl (cI, 16, .inl f_t_worths))] H := hP
    have hD : va_D A [(a_t, .inr (6, [.int v_t_n, .int v_t_low, .int v_t_high, .int v_t_boxes, .ref a_t_sets, .ref a_t_worths])), (a_t_sets, .inl (cI, 16, .inl (upd f_t_sets v_t_boxes.toNatClampNeg p0))), (a_t_worths, .inl (cI, 16, .inl f_t_worths))] := hD
    refine lv_aload_n hx hb dX6_put_19 rfl (lv_at hl 0 rfl) ?_
    refine va_get (D := (dC, dI)) (ci := 6) (v := .ref a_t_worths) (C := RX6) (T := TX6) (N := 6) hx hb hts in_X6_put_X6 hown hK hP 0 rfl rfl 5 (by decide) (hts (.fieldLink RX6 28 "NoneWithin$Shop" "worths" "[I") (by decide +kernel)) (fun _ h9 => h9) rfl dX6_put_20 ?_
    refine lv_aload_n hx hb dX6_put_23 rfl (lv_at hl 0 rfl) ?_
    refine va_get (D := (dC, dI)) (ci := 6) (v := .int v_t_boxes) (C := RX6) (T := TX6) (N := 6) hx hb hts in_X6_put_X6 hown hK hP 0 rfl rfl 3 (by decide) (hts (.fieldLink RX6 21 "NoneWithin$Shop" "boxes" "I") (by decide +kernel)) (fun _ h9 => h9) rfl dX6_put_24 ?_
    refine lv_iload_n hx hb dX6_put_27 rfl (lv_at hl 2 rfl) ?_
    obtain ⟨hin, hM⟩ := ixp hM
    refine va_iast hx hb hK hP hD hS 2 0 rfl rfl hin dX6_put_28 (fun H locs hP hD hS => ?_)
    have hP : va_P (dC, dI) classes [(a_t, .inr (6, [.int v_t_n, .int v_t_low, .int v_t_high, .int v_t_boxes, .ref a_t_sets, .ref a_t_worths])), (a_t_sets, .inl (cI, 16, .inl (upd f_t_sets v_t_boxes.toNatClampNeg p0))), (a_t_worths, .inl (cI, 16, .inl (upd f_t_worths v_t_boxes.toNatClampNeg p1)))] H := hP
    have hD : va_D A [(a_t, .inr (6, [.int v_t_n, .int v_t_low, .int v_t_high, .int v_t_boxes, .ref a_t_sets, .ref a_t_worths])), (a_t_sets, .inl (cI, 16, .inl (upd f_t_sets v_t_boxes.toNatClampNeg p0))), (a_t_worths, .inl (cI, 16, .inl (upd f_t_worths v_t_boxes.toNatClampNeg p1)))] := hD
    refine lv_aload_n hx hb dX6_put_29 rfl (lv_at hl 0 rfl) ?_
    refine lv_dup hx hb dX6_put_30 rfl ?_
    refine va_get (D := (dC, dI)) (ci := 6) (v := .int v_t_boxes) (C := RX6) (T := TX6) (N := 6) hx hb hts in_X6_put_X6 hown hK hP 0 rfl rfl 3 (by decide) (hts (.fieldLink RX6 21 "NoneWithin$Shop" "boxes" "I") (by decide +kernel)) (fun _ h9 => h9) rfl dX6_put_31 ?_
    refine lv_iconst (v := (1 : Int32)) hx hb dX6_put_34 (by decide) ?_
    refine lv_iadd hx hb dX6_put_35 ?_
    refine va_put (D := (dC, dI)) (ci := 6) (v := .int (v_t_boxes + (1 : Int32))) (ty := .int) (C := RX6) (T := TX6) (N := 6) hx hb hts in_X6_put_X6 tyX6 tyX6_ok nmX6 hown hK hP hD hS 0 rfl rfl 3 (by decide) (hts (.fieldLink RX6 21 "NoneWithin$Shop" "boxes" "I") (by decide +kernel)) (fun _ h9 => h9) rfl (by decide +kernel) rfl rfl (Nat.le_of_ble_eq_true rfl) dX6_put_36 (fun H locs hP hD hS => ?_)
    have hP : va_P (dC, dI) classes [(a_t, .inr (6, [.int v_t_n, .int v_t_low, .int v_t_high, .int (v_t_boxes + (1 : Int32)), .ref a_t_sets, .ref a_t_worths])), (a_t_sets, .inl (cI, 16, .inl (upd f_t_sets v_t_boxes.toNatClampNeg p0))), (a_t_worths, .inl (cI, 16, .inl (upd f_t_worths v_t_boxes.toNatClampNeg p1)))] H := hP
    have hD : va_D A [(a_t, .inr (6, [.int v_t_n, .int v_t_low, .int v_t_high, .int (v_t_boxes + (1 : Int32)), .ref a_t_sets, .ref a_t_worths])), (a_t_sets, .inl (cI, 16, .inl (upd f_t_sets v_t_boxes.toNatClampNeg p0))), (a_t_worths, .inl (cI, 16, .inl (upd f_t_worths v_t_boxes.toNatClampNeg p1)))] := hD
    have hE : res = (((v_t_boxes + (1 : Int32)), (upd f_t_sets v_t_boxes.toNatClampNeg p0), (upd f_t_worths v_t_boxes.toNatClampNeg p1)) : (Int32 × (Nat → Int32) × (Nat → Int32))) := ((Option.some.inj hM).trans hX).symm
    rw [hQq, hE]
    exact nw_vret hx hb hr hlocks hK hP hD hS dX6_put_39
theorem in_X6_take_X6 : ∀ w ∈ wsX60, w ∈ wsX6_take := fun _ h => List.mem_cons_of_mem _ (List.mem_append_right _ h)
abbrev rm_X6_take : Room := { frames := 1, cells := 0, slots := 0, locals := 60 }
set_option maxHeartbeats 4000000 in
set_option maxRecDepth 100000 in
theorem c_X6_take (l : Launch) (dC : Nat → ClassId) (dI : Nat → Nat → Nat) (cI cJ cZ cQ : ClassId) (gx : GX) (a_t a_t_sets a_t_worths a_p0 a_p0_sets a_p0_worths : Nat) (sz : Nat) (v_t_n : Int32) (v_t_low : Int32) (v_t_high : Int32) (v_t_boxes : Int32) (f_t_sets : (Nat → Int32)) (f_t_worths : (Nat → Int32)) (v_p0_n : Int32) (v_p0_low : Int32) (v_p0_high : Int32) (v_p0_boxes : Int32) (f_p0_sets : (Nat → Int32)) (f_p0_worths : (Nat → Int32)) (res : (Int32 × Int32 × Int32 × Int32 × (Nat → Int32) × (Nat → Int32))) (hM : M_X6_take v_p0_boxes v_p0_high v_p0_low v_p0_n f_p0_sets f_p0_worths v_t_boxes v_t_high v_t_low v_t_n f_t_sets f_t_worths = some res) : Met l yX6_take wsX6_take rm_X6_take (kP dC dI cI cJ cZ cQ gx [.ref a_t, .ref a_p0] sz [(a_t, .inr (6, [.int v_t_n, .int v_t_low, .int v_t_high, .int v_t_boxes, .ref a_t_sets, .ref a_t_worths])), (a_t_sets, .inl (cI, 16, .inl f_t_sets)), (a_t_worths, .inl (cI, 16, .inl f_t_worths)), (a_p0, .inr (6, [.int v_p0_n, .int v_p0_low, .int v_p0_high, .int v_p0_boxes, .ref a_p0_sets, .ref a_p0_worths])), (a_p0_sets, .inl (cI, 16, .inl f_p0_sets)), (a_p0_worths, .inl (cI, 16, .inl f_p0_worths))]) (kQv dC dI cI cJ cZ cQ [(a_t, .inr (6, [.int res.2.2.2.1, .int res.2.2.1, .int res.2.1, .int res.1, .ref a_t_sets, .ref a_t_worths])), (a_t_sets, .inl (cI, 16, .inl res.2.2.2.2.1)), (a_t_worths, .inl (cI, 16, .inl res.2.2.2.2.2)), (a_p0, .inr (6, [.int v_p0_n, .int v_p0_low, .int v_p0_high, .int v_p0_boxes, .ref a_p0_sets, .ref a_p0_worths])), (a_p0_sets, .inl (cI, 16, .inl f_p0_sets)), (a_p0_worths, .inl (cI, 16, .inl f_p0_worths))] (va_A [(a_t, .inr (6, [.int v_t_n, .int v_t_low, .int v_t_high, .int v_t_boxes, .ref a_t_sets, .ref a_t_worths])), (a_t_sets, .inl (cI, 16, .inl f_t_sets)), (a_t_worths, .inl (cI, 16, .inl f_t_worths)), (a_p0, .inr (6, [.int v_p0_n, .int v_p0_low, .int v_p0_high, .int v_p0_boxes, .ref a_p0_sets, .ref a_p0_worths])), (a_p0_sets, .inl (cI, 16, .inl f_p0_sets)), (a_p0_worths, .inl (cI, 16, .inl f_p0_worths))] sz)) 0 0 (va_A [(a_t, .inr (6, [.int v_t_n, .int v_t_low, .int v_t_high, .int v_t_boxes, .ref a_t_sets, .ref a_t_worths])), (a_t_sets, .inl (cI, 16, .inl f_t_sets)), (a_t_worths, .inl (cI, 16, .inl f_t_worths)), (a_p0, .inr (6, [.int v_p0_n, .int v_p0_low, .int v_p0_high, .int v_p0_boxes, .ref a_p0_sets, .ref a_p0_worths])), (a_p0_sets, .inl (cI, 16, .inl f_p0_sets)), (a_p0_worths, .inl (cI, 16, .inl f_p0_worths))] sz) := by
  refine nw_entry (y := yX6_take) (ws := wsX6_take) (rm := rm_X6_take) (sz := sz) (wpre := [(a_t, .inr (6, [.int v_t_n, .int v_t_low, .int v_t_high, .int v_t_boxes, .ref a_t_sets, .ref a_t_worths])), (a_t_sets, .inl (cI, 16, .inl f_t_sets)), (a_t_worths, .inl (cI, 16, .inl f_t_worths)), (a_p0, .inr (6, [.int v_p0_n, .int v_p0_low, .int v_p0_high, .int v_p0_boxes, .ref a_p0_sets, .ref a_p0_worths])), (a_p0_sets, .inl (cI, 16, .inl f_p0_sets)), (a_p0_worths, .inl (cI, 16, .inl f_p0_worths))]) (av := [.ref a_t, .ref a_p0]) (Qc := (kQv dC dI cI cJ cZ cQ [(a_t, .inr (6, [.int res.2.2.2.1, .int res.2.2.1, .int res.2.1, .int res.1, .ref a_t_sets, .ref a_t_worths])), (a_t_sets, .inl (cI, 16, .inl res.2.2.2.2.1)), (a_t_worths, .inl (cI, 16, .inl res.2.2.2.2.2)), (a_p0, .inr (6, [.int v_p0_n, .int v_p0_low, .int v_p0_high, .int v_p0_boxes, .ref a_p0_sets, .ref a_p0_worths])), (a_p0_sets, .inl (cI, 16, .inl f_p0_sets)), (a_p0_worths, .inl (cI, 16, .inl f_p0_worths))])) (cc := cX6_take) (own := RX6) [(0, .ref a_t), (1, .ref a_p0)] (by decide) rfl rfl (Nat.le_of_ble_eq_true rfl) rfl ?_
  intro p e s m below meth c A ls H locs hfix hr hlocks hin0 hsz0 hP hK hD hA hS hN hG hl
  obtain ⟨hx, hb, hml, hown, hts⟩ := id hfix
  obtain ⟨Qq, hQq⟩ : ∃ Q9, Q9 = (kQv dC dI cI cJ cZ cQ [(a_t, .inr (6, [.int res.2.2.2.1, .int res.2.2.1, .int res.2.1, .int res.1, .ref a_t_sets, .ref a_t_worths])), (a_t_sets, .inl (cI, 16, .inl res.2.2.2.2.1)), (a_t_worths, .inl (cI, 16, .inl res.2.2.2.2.2)), (a_p0, .inr (6, [.int v_p0_n, .int v_p0_low, .int v_p0_high, .int v_p0_boxes, .ref a_p0_sets, .ref a_p0_worths])), (a_p0_sets, .inl (cI, 16, .inl f_p0_sets)), (a_p0_worths, .inl (cI, 16, .inl f_p0_worths))]) := ⟨_, rfl⟩
  rw [← hQq]
  have hX : res = res := rfl
  have hM : (cpk (0 : Int32) (0 : Int32) (16 : Int32) 16 16 (cpk (0 : Int32) (0 : Int32) (16 : Int32) 16 16 (some (v_p0_boxes, v_p0_high, v_p0_low, v_p0_n, (va_cpy f_p0_sets f_t_sets (0 : Int32).toNatClampNeg (0 : Int32).toNatClampNeg (16 : Int32).toNatClampNeg), (va_cpy f_p0_worths f_t_worths (0 : Int32).toNatClampNeg (0 : Int32).toNatClampNeg (16 : Int32).toNatClampNeg))))) = some res := hM
  refine lv_aload_n hx hb dX6_take_0 rfl (lv_at hl 0 rfl) ?_
  refine lv_aload_n hx hb dX6_take_1 rfl (lv_at hl 1 rfl) ?_
  refine va_get (D := (dC, dI)) (ci := 6) (v := .int v_p0_n) (C := RX6) (T := TX6) (N := 6) hx hb hts in_X6_take_X6 hown hK hP 3 rfl rfl 0 (by decide) (hts (.fieldLink RX6 9 "NoneWithin$Shop" "n" "I") (by decide +kernel)) (fun _ h9 => h9) rfl dX6_take_2 ?_
  refine va_put (D := (dC, dI)) (ci := 6) (v := .int v_p0_n) (ty := .int) (C := RX6) (T := TX6) (N := 6) hx hb hts in_X6_take_X6 tyX6 tyX6_ok nmX6 hown hK hP hD hS 0 rfl rfl 0 (by decide) (hts (.fieldLink RX6 9 "NoneWithin$Shop" "n" "I") (by decide +kernel)) (fun _ h9 => h9) rfl (by decide +kernel) rfl rfl (Nat.le_of_ble_eq_true rfl) dX6_take_5 (fun H locs hP hD hS => ?_)
  have hP : va_P (dC, dI) classes [(a_t, .inr (6, [.int v_p0_n, .int v_t_low, .int v_t_high, .int v_t_boxes, .ref a_t_sets, .ref a_t_worths])), (a_t_sets, .inl (cI, 16, .inl f_t_sets)), (a_t_worths, .inl (cI, 16, .inl f_t_worths)), (a_p0, .inr (6, [.int v_p0_n, .int v_p0_low, .int v_p0_high, .int v_p0_boxes, .ref a_p0_sets, .ref a_p0_worths])), (a_p0_sets, .inl (cI, 16, .inl f_p0_sets)), (a_p0_worths, .inl (cI, 16, .inl f_p0_worths))] H := hP
  have hD : va_D A [(a_t, .inr (6, [.int v_p0_n, .int v_t_low, .int v_t_high, .int v_t_boxes, .ref a_t_sets, .ref a_t_worths])), (a_t_sets, .inl (cI, 16, .inl f_t_sets)), (a_t_worths, .inl (cI, 16, .inl f_t_worths)), (a_p0, .inr (6, [.int v_p0_n, .int v_p0_low, .int v_p0_high, .int v_p0_boxes, .ref a_p0_sets, .ref a_p0_worths])), (a_p0_sets, .inl (cI, 16, .inl f_p0_sets)), (a_p0_worths, .inl (cI, 16, .inl f_p0_worths))] := hD
  refine lv_aload_n hx hb dX6_take_8 rfl (lv_at hl 0 rfl) ?_
  refine lv_aload_n hx hb dX6_take_9 rfl (lv_at hl 1 rfl) ?_
  refine va_get (D := (dC, dI)) (ci := 6) (v := .int v_p0_low) (C := RX6) (T := TX6) (N := 6) hx hb hts in_X6_take_X6 hown hK hP 3 rfl rfl 1 (by decide) (hts (.fieldLink RX6 15 "NoneWithin$Shop" "low" "I") (by decide +kernel)) (fun _ h9 => h9) rfl dX6_take_10 ?_
  refine va_put (D := (dC, dI)) (ci := 6) (v := .int v_p0_low) (ty := .int) (C := RX6) (T := TX6) (N := 6) hx hb hts in_X6_take_X6 tyX6 tyX6_ok nmX6 hown hK hP hD hS 0 rfl rfl 1 (by decide) (hts (.fieldLink RX6 15 "NoneWithin$Shop" "low" "I") (by decide +kernel)) (fun _ h9 => h9) rfl (by decide +kernel) rfl rfl (Nat.le_of_ble_eq_true rfl) dX6_take_13 (fun H locs hP hD hS => ?_)
  have hP : va_P (dC, dI) classes [(a_t, .inr (6, [.int v_p0_n, .int v_p0_low, .int v_t_high, .int v_t_boxes, .ref a_t_sets, .ref a_t_worths])), (a_t_sets, .inl (cI, 16, .inl f_t_sets)), (a_t_worths, .inl (cI, 16, .inl f_t_worths)), (a_p0, .inr (6, [.int v_p0_n, .int v_p0_low, .int v_p0_high, .int v_p0_boxes, .ref a_p0_sets, .ref a_p0_worths])), (a_p0_sets, .inl (cI, 16, .inl f_p0_sets)), (a_p0_worths, .inl (cI, 16, .inl f_p0_worths))] H := hP
  have hD : va_D A [(a_t, .inr (6, [.int v_p0_n, .int v_p0_low, .int v_t_high, .int v_t_boxes, .ref a_t_sets, .ref a_t_worths])), (a_t_sets, .inl (cI, 16, .inl f_t_sets)), (a_t_worths, .inl (cI, 16, .inl f_t_worths)), (a_p0, .inr (6, [.int v_p0_n, .int v_p0_low, .int v_p0_high, .int v_p0_boxes, .ref a_p0_sets, .ref a_p0_worths])), (a_p0_sets, .inl (cI, 16, .inl f_p0_sets)), (a_p0_worths, .inl (cI, 16, .inl f_p0_worths))] := hD
  refine lv_aload_n hx hb dX6_take_16 rfl (lv_at hl 0 rfl) ?_
  refine lv_aload_n hx hb dX6_take_17 rfl (lv_at hl 1 rfl) ?_
  refine va_get (D := (dC, dI)) (ci := 6) (v := .int v_p0_high) (C := RX6) (T := TX6) (N := 6) hx hb hts in_X6_take_X6 hown hK hP 3 rfl rfl 2 (by decide) (hts (.fieldLink RX6 18 "NoneWithin$Shop" "high" "I") (by decide +kernel)) (fun _ h9 => h9) rfl dX6_take_18 ?_
  refine va_put (D := (dC, dI)) (ci := 6) (v := .int v_p0_high) (ty := .int) (C := RX6) (T := TX6) (N := 6) hx hb hts in_X6_take_X6 tyX6 tyX6_ok nmX6 hown hK hP hD hS 0 rfl rfl 2 (by decide) (hts (.fieldLink RX6 18 "NoneWithin$Shop" "high" "I") (by decide +kernel)) (fun _ h9 => h9) rfl (by decide +kernel) rfl rfl (Nat.le_of_ble_eq_true rfl) dX6_take_21 (fun H locs hP hD hS => ?_)
  have hP : va_P (dC, dI) classes [(a_t, .inr (6, [.int v_p0_n, .int v_p0_low, .int v_p0_high, .int v_t_boxes, .ref a_t_sets, .ref a_t_worths])), (a_t_sets, .inl (cI, 16, .inl f_t_sets)), (a_t_worths, .inl (cI, 16, .inl f_t_worths)), (a_p0, .inr (6, [.int v_p0_n, .int v_p0_low, .int v_p0_high, .int v_p0_boxes, .ref a_p0_sets, .ref a_p0_worths])), (a_p0_sets, .inl (cI, 16, .inl f_p0_sets)), (a_p0_worths, .inl (cI, 16, .inl f_p0_worths))] H := hP
  have hD : va_D A [(a_t, .inr (6, [.int v_p0_n, .int v_p0_low, .int v_p0_high, .int v_t_boxes, .ref a_t_sets, .ref a_t_worths])), (a_t_sets, .inl (cI, 16, .inl f_t_sets)), (a_t_worths, .inl (cI, 16, .inl f_t_worths)), (a_p0, .inr (6, [.int v_p0_n, .int v_p0_low, .int v_p0_high, .int v_p0_boxes, .ref a_p0_sets, .ref a_p0_worths])), (a_p0_sets, .inl (cI, 16, .inl f_p0_sets)), (a_p0_worths, .inl (cI, 16, .inl f_p0_worths))] := hD
  refine lv_aload_n hx hb dX6_take_24 rfl (lv_at hl 0 rfl) ?_
  refine lv_aload_n hx hb dX6_take_25 rfl (lv_at hl 1 rfl) ?_
  refine va_get (D := (dC, dI)) (ci := 6) (v := .int v_p0_boxes) (C := RX6) (T := TX6) (N := 6) hx hb hts in_X6_take_X6 hown hK hP 3 rfl rfl 3 (by decide) (hts (.fieldLink RX6 21 "NoneWithin$Shop" "boxes" "I") (by decide +kernel)) (fun _ h9 => h9) rfl dX6_take_26 ?_
  refine va_put (D := (dC, dI)) (ci := 6) (v := .int v_p0_boxes) (ty := .int) (C := RX6) (T := TX6) (N := 6) hx hb hts in_X6_take_X6 tyX6 tyX6_ok nmX6 hown hK hP hD hS 0 rfl rfl 3 (by decide) (hts (.fieldLink RX6 21 "NoneWithin$Shop" "boxes" "I") (by decide +kernel)) (fun _ h9 => h9) rfl (by decide +kernel) rfl rfl (Nat.le_of_ble_eq_true rfl) dX6_take_29 (fun H locs hP hD hS => ?_)
  have hP : va_P (dC, dI) classes [(a_t, .inr (6, [.int v_p0_n, .int v_p0_low, .int v_p0_high, .int v_p0_boxes, .ref a_t_sets, .ref a_t_worths])), (a_t_sets, .inl (cI, 16, .inl f_t_sets)), (a_t_worths, .inl (cI, 16, .inl f_t_worths)), (a_p0, .inr (6, [.int v_p0_n, .int v_p0_low, .int v_p0_high, .int v_p0_boxes, .ref a_p0_sets, .ref a_p0_worths])), (a_p0_sets, .inl (cI, 16, .inl f_p0_sets)), (a_p0_worths, .inl (cI, 16, .inl f_p0_worths))] H := hP
  have hD : va_D A [(a_t, .inr (6, [.int v_p0_n, .int v_p0_low, .int v_p0_high, .int v_p0_boxes, .ref a_t_sets, .ref a_t_worths])), (a_t_sets, .inl (cI, 16, .inl f_t_sets)), (a_t_worths, .inl (cI, 16, .inl f_t_worths)), (a_p0, .inr (6, [.int v_p0_n, .int v_p0_low, .int v_p0_high, .int v_p0_boxes, .ref a_p0_sets, .ref a_p0_worths])), (a_p0_sets, .inl (cI, 16, .inl f_p0_sets)), (a_p0_worths, .inl (cI, 16, .inl f_p0_worths))] := hD
  refine lv_aload_n hx hb dX6_take_32 rfl (lv_at hl 1 rfl) ?_
  refine va_get (D := (dC, dI)) (ci := 6) (v := .ref a_p0_sets) (C := RX6) (T := TX6) (N := 6) hx hb hts in_X6_take_X6 hown hK hP 3 rfl rfl 4 (by decide) (hts (.fieldLink RX6 24 "NoneWithin$Shop" "sets" "[I") (by decide +kernel)) (fun _ h9 => h9) rfl dX6_take_33 ?_
  refine lv_iconst (v := (0 : Int32)) hx hb dX6_take_36 (by decide) ?_
  refine lv_aload_n hx hb dX6_take_37 rfl (lv_at hl 0 rfl) ?_
  refine va_get (D := (dC, dI)) (ci := 6) (v := .ref a_t_sets) (C := RX6) (T := TX6) (N := 6) hx hb hts in_X6_take_X6 hown hK hP 0 rfl rfl 4 (by decide) (hts (.fieldLink RX6 24 "NoneWithin$Shop" "sets" "[I") (by decide +kernel)) (fun _ h9 => h9) rfl dX6_take_38 ?_
  refine lv_iconst (v := (0 : Int32)) hx hb dX6_take_41 (by decide) ?_
  refine lv_bipush (v := (16 : Int32)) hx hb dX6_take_42 (by decide) ?_
  obtain ⟨⟨hc1, hc2, hc3, hc4, hc5⟩, hM⟩ := cpkp hM
  refine va_copyi (ty := .int) hx hb (hml.trans hl.1.symm) hown (hts (.methodLink RX6 31 arraycopyName) (by decide +kernel)) (hts (.native arraycopyName) (by decide +kernel)) (hts (.static arraycopyName) (by decide +kernel)) (hts (.initialized "java/lang/System") (by decide +kernel)) hK hP hD hS 4 1 0 0 rfl rfl rfl rfl rfl hc1 hc2 hc3 hc4 hc5 (fun _ _ => rfl) (Nat.le_of_ble_eq_true rfl) (Nat.le_of_ble_eq_true rfl) dX6_take_44 (fun H locs hP hD hS => ?_)
  have hP : va_P (dC, dI) classes [(a_t, .inr (6, [.int v_p0_n, .int v_p0_low, .int v_p0_high, .int v_p0_boxes, .ref a_t_sets, .ref a_t_worths])), (a_t_sets, .inl (cI, 16, .inl (va_cpy f_p0_sets f_t_sets (0 : Int32).toNatClampNeg (0 : Int32).toNatClampNeg (16 : Int32).toNatClampNeg))), (a_t_worths, .inl (cI, 16, .inl f_t_worths)), (a_p0, .inr (6, [.int v_p0_n, .int v_p0_low, .int v_p0_high, .int v_p0_boxes, .ref a_p0_sets, .ref a_p0_worths])), (a_p0_sets, .inl (cI, 16, .inl f_p0_sets)), (a_p0_worths, .inl (cI, 16, .inl f_p0_worths))] H := hP
  have hD : va_D A [(a_t, .inr (6, [.int v_p0_n, .int v_p0_low, .int v_p0_high, .int v_p0_boxes, .ref a_t_sets, .ref a_t_worths])), (a_t_sets, .inl (cI, 16, .inl (va_cpy f_p0_sets f_t_sets (0 : Int32).toNatClampNeg (0 : Int32).toNatClampNeg (16 : Int32).toNatClampNeg))), (a_t_worths, .inl (cI, 16, .inl f_t_worths)), (a_p0, .inr (6, [.int v_p0_n, .int v_p0_low, .int v_p0_high, .int v_p0_boxes, .ref a_p0_sets, .ref a_p0_worths])), (a_p0_sets, .inl (cI, 16, .inl f_p0_sets)), (a_p0_worths, .inl (cI, 16, .inl f_p0_worths))] := hD
  refine lv_aload_n hx hb dX6_take_47 rfl (lv_at hl 1 rfl) ?_
  refine va_get (D := (dC, dI)) (ci := 6) (v := .ref a_p0_worths) (C := RX6) (T := TX6) (N := 6) hx hb hts in_X6_take_X6 hown hK hP 3 rfl rfl 5 (by decide) (hts (.fieldLink RX6 28 "NoneWithin$Shop" "worths" "[I") (by decide +kernel)) (fun _ h9 => h9) rfl dX6_take_48 ?_
  refine lv_iconst (v := (0 : Int32)) hx hb dX6_take_51 (by decide) ?_
  refine lv_aload_n hx hb dX6_take_52 rfl (lv_at hl 0 rfl) ?_
  refine va_get (D := (dC, dI)) (ci := 6) (v := .ref a_t_worths) (C := RX6) (T := TX6) (N := 6) hx hb hts in_X6_take_X6 hown hK hP 0 rfl rfl 5 (by decide) (hts (.fieldLink RX6 28 "NoneWithin$Shop" "worths" "[I") (by decide +kernel)) (fun _ h9 => h9) rfl dX6_take_53 ?_
  refine lv_iconst (v := (0 : Int32)) hx hb dX6_take_56 (by decide) ?_
  refine lv_bipush (v := (16 : Int32)) hx hb dX6_take_57 (by decide) ?_
  obtain ⟨⟨hc1, hc2, hc3, hc4, hc5⟩, hM⟩ := cpkp hM
  refine va_copyi (ty := .int) hx hb (hml.trans hl.1.symm) hown (hts (.methodLink RX6 31 arraycopyName) (by decide +kernel)) (hts (.native arraycopyName) (by decide +kernel)) (hts (.static arraycopyName) (by decide +kernel)) (hts (.initialized "java/lang/System") (by decide +kernel)) hK hP hD hS 5 2 0 0 rfl rfl rfl rfl rfl hc1 hc2 hc3 hc4 hc5 (fun _ _ => rfl) (Nat.le_of_ble_eq_true rfl) (Nat.le_of_ble_eq_true rfl) dX6_take_59 (fun H locs hP hD hS => ?_)
  have hP : va_P (dC, dI) classes [(a_t, .inr (6, [.int v_p0_n, .int v_p0_low, .int v_p0_high, .int v_p0_boxes, .ref a_t_sets, .ref a_t_worths])), (a_t_sets, .inl (cI, 16, .inl (va_cpy f_p0_sets f_t_sets (0 : Int32).toNatClampNeg (0 : Int32).toNatClampNeg (16 : Int32).toNatClampNeg))), (a_t_worths, .inl (cI, 16, .inl (va_cpy f_p0_worths f_t_worths (0 : Int32).toNatClampNeg (0 : Int32).toNatClampNeg (16 : Int32).toNatClampNeg))), (a_p0, .inr (6, [.int v_p0_n, .int v_p0_low, .int v_p0_high, .int v_p0_boxes, .ref a_p0_sets, .ref a_p0_worths])), (a_p0_sets, .inl (cI, 16, .inl f_p0_sets)), (a_p0_worths, .inl (cI, 16, .inl f_p0_worths))] H := hP
  have hD : va_D A [(a_t, .inr (6, [.int v_p0_n, .int v_p0_low, .int v_p0_high, .int v_p0_boxes, .ref a_t_sets, .ref a_t_worths])), (a_t_sets, .inl (cI, 16, .inl (va_cpy f_p0_sets f_t_sets (0 : Int32).toNatClampNeg (0 : Int32).toNatClampNeg (16 : Int32).toNatClampNeg))), (a_t_worths, .inl (cI, 16, .inl (va_cpy f_p0_worths f_t_worths (0 : Int32).toNatClampNeg (0 : Int32).toNatClampNeg (16 : Int32).toNatClampNeg))), (a_p0, .inr (6, [.int v_p0_n, .int v_p0_low, .int v_p0_high, .int v_p0_boxes, .ref a_p0_sets, .ref a_p0_worths])), (a_p0_sets, .inl (cI, 16, .inl f_p0_sets)), (a_p0_worths, .inl (cI, 16, .inl f_p0_worths))] := hD
  have hE : res = ((v_p0_boxes, v_p0_high, v_p0_low, v_p0_n, (va_cpy f_p0_sets f_t_sets (0 : Int32).toNatClampNeg (0 : Int32).toNatClampNeg (16 : Int32).toNatClampNeg), (va_cpy f_p0_worths f_t_worths (0 : Int32).toNatClampNeg (0 : Int32).toNatClampNeg (16 : Int32).toNatClampNeg)) : (Int32 × Int32 × Int32 × Int32 × (Nat → Int32) × (Nat → Int32))) := ((Option.some.inj hM).trans hX).symm
  rw [hQq, hE]
  exact nw_vret hx hb hr hlocks hK hP hD hS dX6_take_62
abbrev rm_X7_kindOf : Room := { frames := 1, cells := 0, slots := 0, locals := 22 }
set_option maxHeartbeats 4000000 in
set_option maxRecDepth 100000 in
theorem c_X7_kindOf (l : Launch) (dC : Nat → ClassId) (dI : Nat → Nat → Nat) (cI cJ cZ cQ : ClassId) (gx : GX) (sz : Nat) (p0 : Int32) (res : Int32) (hM : M_X7_kindOf p0 = some res) : Met l yX7_kindOf wsX7_kindOf rm_X7_kindOf (kP dC dI cI cJ cZ cQ gx [.int p0] sz []) (kQi dC dI cI cJ cZ cQ res [] (va_A [] sz)) 0 0 (va_A [] sz) := by
  refine nw_entry (y := yX7_kindOf) (ws := wsX7_kindOf) (rm := rm_X7_kindOf) (sz := sz) (wpre := []) (av := [.int p0]) (Qc := (kQi dC dI cI cJ cZ cQ res [])) (cc := cX7_kindOf) (own := RX7) [(0, .int p0)] (by decide) rfl rfl (Nat.le_of_ble_eq_true rfl) rfl ?_
  intro p e s m below meth c A ls H locs hfix hr hlocks hin0 hsz0 hP hK hD hA hS hN hG hl
  obtain ⟨hx, hb, hml, hown, hts⟩ := id hfix
  obtain ⟨Qq, hQq⟩ : ∃ Q9, Q9 = (kQi dC dI cI cJ cZ cQ res []) := ⟨_, rfl⟩
  rw [← hQq]
  have hX : res = res := rfl
  have hM : (Option.bind (M_X8_between p0 (97 : Int32) (122 : Int32)) (fun t5 => if t5 = 0 then (Option.bind (M_X8_between p0 (48 : Int32) (57 : Int32)) (fun t18 => if t18 = 0 then (if p0 = (45 : Int32) then (some (3 : Int32)) else (if p0 = (59 : Int32) then (some (4 : Int32)) else (some (5 : Int32)))) else (some (2 : Int32)))) else (some (1 : Int32)))) = some res := hM
  refine lv_iload_n hx hb dX7_kindOf_0 rfl (lv_at hl 0 rfl) ?_
  refine lv_bipush (v := (97 : Int32)) hx hb dX7_kindOf_1 (by decide) ?_
  refine lv_bipush (v := (122 : Int32)) hx hb dX7_kindOf_3 (by decide) ?_
  obtain ⟨t5, hg5, hM⟩ := bd hM
  refine nw_i (wc := []) (wr := []) (w1 := []) (wf := []) [] [] [] hP hD hS hA rfl rfl rfl (by decide) rfl rfl (nw_runSN (As := [.int p0, .int (97 : Int32), .int (122 : Int32)]) (rest := []) hfix (c_X8_between l dC dI cI cJ cZ cQ gx  H.size  p0 (97 : Int32) (122 : Int32) t5 hg5) ⟨va_cnB 3 hts gX7_kindOf_X8_between_n106 rfl rfl rfl (hN.1) (hts (.initialized RX8) (by decide +kernel)) (by decide +kernel) ⟨Nat.le_of_ble_eq_true rfl, Nat.le_of_ble_eq_true rfl⟩, (hts (.static yX8_between) (by decide +kernel)), trivial⟩ hP hD hK hN hS hA hG [] rfl rfl hl.1 rfl rfl (Nat.le_of_ble_eq_true rfl) dX7_kindOf_5 ⟨Nat.zero_le _, Nat.zero_le _⟩) (fun H locs hP hD hS => ?_)
  refine lv_if_eq (tgt := 13) hx hb dX7_kindOf_8 (by decide) (fun c8 => ?_) (fun c8 => ?_)
  · have hM := ifp c8 hM
    refine lv_iload_n hx hb dX7_kindOf_13 rfl (lv_at hl 0 rfl) ?_
    refine lv_bipush (v := (48 : Int32)) hx hb dX7_kindOf_14 (by decide) ?_
    refine lv_bipush (v := (57 : Int32)) hx hb dX7_kindOf_16 (by decide) ?_
    obtain ⟨t18, hg18, hM⟩ := bd hM
    refine nw_i (wc := []) (wr := []) (w1 := []) (wf := []) [] [] [] hP hD hS hA rfl rfl rfl (by decide) rfl rfl (nw_runSN (As := [.int p0, .int (48 : Int32), .int (57 : Int32)]) (rest := []) hfix (c_X8_between l dC dI cI cJ cZ cQ gx  H.size  p0 (48 : Int32) (57 : Int32) t18 hg18) ⟨va_cnB 3 hts gX7_kindOf_X8_between_n106 rfl rfl rfl (hN.1) (hts (.initialized RX8) (by decide +kernel)) (by decide +kernel) ⟨Nat.le_of_ble_eq_true rfl, Nat.le_of_ble_eq_true rfl⟩, (hts (.static yX8_between) (by decide +kernel)), trivial⟩ hP hD hK hN hS hA hG [] rfl rfl hl.1 rfl rfl (Nat.le_of_ble_eq_true rfl) dX7_kindOf_18 ⟨Nat.zero_le _, Nat.zero_le _⟩) (fun H locs hP hD hS => ?_)
    refine lv_if_eq (tgt := 26) hx hb dX7_kindOf_21 (by decide) (fun c21 => ?_) (fun c21 => ?_)
    · have hM := ifp c21 hM
      refine lv_iload_n hx hb dX7_kindOf_26 rfl (lv_at hl 0 rfl) ?_
      refine lv_bipush (v := (45 : Int32)) hx hb dX7_kindOf_27 (by decide) ?_
      refine lv_icmp_ne (tgt := 34) hx hb dX7_kindOf_29 (by decide) (fun c29 => ?_) (fun c29 => ?_)
      · have hM := ifn c29 hM
        refine lv_iload_n hx hb dX7_kindOf_34 rfl (lv_at hl 0 rfl) ?_
        refine lv_bipush (v := (59 : Int32)) hx hb dX7_kindOf_35 (by decide) ?_
        refine lv_icmp_ne (tgt := 44) hx hb dX7_kindOf_37 (by decide) (fun c37 => ?_) (fun c37 => ?_)
        · have hM := ifn c37 hM
          refine lv_iconst (v := (5 : Int32)) hx hb dX7_kindOf_44 (by decide) ?_
          have hE : res = ((5 : Int32) : Int32) := ((Option.some.inj hM).trans hX).symm
          rw [hQq, hE]
          exact nw_iret rfl hx hb hr hlocks hK hP hD hS dX7_kindOf_45
        · have hM := ifp c37 hM
          refine lv_iconst (v := (4 : Int32)) hx hb dX7_kindOf_40 (by decide) ?_
          refine lv_goto (tgt := 45) hx hb dX7_kindOf_41 (by decide) ?_
          have hE : res = ((4 : Int32) : Int32) := ((Option.some.inj hM).trans hX).symm
          rw [hQq, hE]
          exact nw_iret rfl hx hb hr hlocks hK hP hD hS dX7_kindOf_45
      · have hM := ifp c29 hM
        refine lv_iconst (v := (3 : Int32)) hx hb dX7_kindOf_32 (by decide) ?_
        have hE : res = ((3 : Int32) : Int32) := ((Option.some.inj hM).trans hX).symm
        rw [hQq, hE]
        exact nw_iret rfl hx hb hr hlocks hK hP hD hS dX7_kindOf_33
    · have hM := ifn c21 hM
      refine lv_iconst (v := (2 : Int32)) hx hb dX7_kindOf_24 (by decide) ?_
      have hE : res = ((2 : Int32) : Int32) := ((Option.some.inj hM).trans hX).symm
      rw [hQq, hE]
      exact nw_iret rfl hx hb hr hlocks hK hP hD hS dX7_kindOf_25
  · have hM := ifn c8 hM
    refine lv_iconst (v := (1 : Int32)) hx hb dX7_kindOf_11 (by decide) ?_
    have hE : res = ((1 : Int32) : Int32) := ((Option.some.inj hM).trans hX).symm
    rw [hQq, hE]
    exact nw_iret rfl hx hb hr hlocks hK hP hD hS dX7_kindOf_12
theorem in_X7_advance_X7 : ∀ w ∈ wsX70, w ∈ wsX7_advance := fun _ h => List.mem_cons_of_mem _ (List.mem_append_right _ h)
abbrev rm_X7_advance : Room := { frames := 2, cells := 0, slots := 0, locals := 42 }
set_option maxHeartbeats 4000000 in
set_option maxRecDepth 100000 in
theorem c_X7_advance (l : Launch) (dC : Nat → ClassId) (dI : Nat → Nat → Nat) (cI cJ cZ cQ : ClassId) (gx : GX) (a_t a_t_text a_t_shop : Nat) (sz : Nat) (v_t_length : Int32) (v_t_kind : Int32) (v_t_start : Int32) (v_t_end : Int32) (f_t_text : (Nat → Int32)) (res : (Int32 × Int32 × Int32)) (hM : M_X7_advance v_t_end v_t_kind v_t_length v_t_start f_t_text = some res) : Met l yX7_advance wsX7_advance rm_X7_advance (kP dC dI cI cJ cZ cQ gx [.ref a_t] sz [(a_t, .inr (7, [.ref a_t_shop, .ref a_t_text, .int v_t_length, .int v_t_kind, .int v_t_start, .int v_t_end])), (a_t_text, .inl (cI, 200, .inl f_t_text))]) (kQv dC dI cI cJ cZ cQ [(a_t, .inr (7, [.ref a_t_shop, .ref a_t_text, .int v_t_length, .int res.2.1, .int res.2.2, .int res.1])), (a_t_text, .inl (cI, 200, .inl f_t_text))] (va_A [(a_t, .inr (7, [.ref a_t_shop, .ref a_t_text, .int v_t_length, .int v_t_kind, .int v_t_start, .int v_t_end])), (a_t_text, .inl (cI, 200, .inl f_t_text))] sz)) 0 0 (va_A [(a_t, .inr (7, [.ref a_t_shop, .ref a_t_text, .int v_t_length, .int v_t_kind, .int v_t_start, .int v_t_end])), (a_t_text, .inl (cI, 200, .inl f_t_text))] sz) := by
  refine nw_entry (y := yX7_advance) (ws := wsX7_advance) (rm := rm_X7_advance) (sz := sz) (wpre := [(a_t, .inr (7, [.ref a_t_shop, .ref a_t_text, .int v_t_length, .int v_t_kind, .int v_t_start, .int v_t_end])), (a_t_text, .inl (cI, 200, .inl f_t_text))]) (av := [.ref a_t]) (Qc := (kQv dC dI cI cJ cZ cQ [(a_t, .inr (7, [.ref a_t_shop, .ref a_t_text, .int v_t_length, .int res.2.1, .int res.2.2, .int res.1])), (a_t_text, .inl (cI, 200, .inl f_t_text))])) (cc := cX7_advance) (own := RX7) [(0, .ref a_t)] (by decide) rfl rfl (Nat.le_of_ble_eq_true rfl) rfl ?_
  intro p e s m below meth c A ls H locs hfix hr hlocks hin0 hsz0 hP hK hD hA hS hN hG hl
  obtain ⟨hx, hb, hml, hown, hts⟩ := id hfix
  obtain ⟨Qq, hQq⟩ : ∃ Q9, Q9 = (kQv dC dI cI cJ cZ cQ [(a_t, .inr (7, [.ref a_t_shop, .ref a_t_text, .int v_t_length, .int res.2.1, .int res.2.2, .int res.1])), (a_t_text, .inl (cI, 200, .inl f_t_text))]) := ⟨_, rfl⟩
  rw [← hQq]
  have hX : res = res := rfl
  have J117 : ∀ (x : (Int32 × Int32 × Int32)) (x117_v_t_end : Int32) (x117_v_t_kind : Int32) (x117_v_t_start : Int32) (H : Heap) (locs : List Loc) (ls : Array Slot), B_X7_advance_117 x117_v_t_end x117_v_t_kind v_t_length x117_v_t_start f_t_text = some x → x = res → va_P (dC, dI) classes [(a_t, .inr (7, [.ref a_t_shop, .ref a_t_text, .int v_t_length, .int x117_v_t_kind, .int x117_v_t_start, .int x117_v_t_end])), (a_t_text, .inl (cI, 200, .inl f_t_text))] H → va_D A [(a_t, .inr (7, [.ref a_t_shop, .ref a_t_text, .int v_t_length, .int x117_v_t_kind, .int x117_v_t_start, .int x117_v_t_end])), (a_t_text, .inl (cI, 200, .inl f_t_text))] → va_S A s.heap H locs → lv_has ls 1 [(0, .ref a_t)] → W p l e rm_X7_advance s m ([.ref a_t] : List Value).toArray below meth c H locs 0 0 (MQ below (Qq A) ([.ref a_t] : List Value).toArray s 0 0 A) (F0 m 117 ls []) := by
    intro x x117_v_t_end x117_v_t_kind x117_v_t_start H locs ls hM hX hP hD hS hl
    have hM : (lpN (fun z => L_X7_advance_117 x117_v_t_kind v_t_length x117_v_t_start f_t_text z) fuelK x117_v_t_end) = some x := hM
    obtain ⟨W117, hW117⟩ : ∃ W9 : Int32 → Prop, W9 = fun (y117_v_t_end : Int32) => ∀ (H : Heap) (locs : List Loc) (ls : Array Slot), va_P (dC, dI) classes [(a_t, .inr (7, [.ref a_t_shop, .ref a_t_text, .int v_t_length, .int x117_v_t_kind, .int x117_v_t_start, .int y117_v_t_end])), (a_t_text, .inl (cI, 200, .inl f_t_text))] H → va_D A [(a_t, .inr (7, [.ref a_t_shop, .ref a_t_text, .int v_t_length, .int x117_v_t_kind, .int x117_v_t_start, .int y117_v_t_end])), (a_t_text, .inl (cI, 200, .inl f_t_text))] → va_S A s.heap H locs → lv_has ls 1 [(0, .ref a_t)] → W p l e rm_X7_advance s m ([.ref a_t] : List Value).toArray below meth c H locs 0 0 (MQ below (Qq A) ([.ref a_t] : List Value).toArray s 0 0 A) (F0 m 117 ls []) := ⟨_, rfl⟩
    have hst : ∀ (z : Int32) (x : (Int32 ⊕ (Int32 × Int32 × Int32))), (fun z => L_X7_advance_117 x117_v_t_kind v_t_length x117_v_t_start f_t_text z) z = some x → ((∀ z', x = Sum.inl z' → W117 z') ∧ (∀ t_117, x = Sum.inr t_117 → t_117 = res)) → W117 z := by
      intro y117_v_t_end x hM hX
      have hM : L_X7_advance_117 x117_v_t_kind v_t_length x117_v_t_start f_t_text y117_v_t_end = some x := hM
      show W117 y117_v_t_end
      rw [hW117]
      intro H locs ls hP hD hS hl
      have hM : (if v_t_length ≤ y117_v_t_end then (((some (y117_v_t_end, x117_v_t_kind, x117_v_t_start))).map Sum.inr) else (ix y117_v_t_end 200 (Option.bind (M_X7_kindOf (f_t_text y117_v_t_end.toNatClampNeg)) (fun t137 => if t137 = x117_v_t_kind then (some (Sum.inl (y117_v_t_end + (1 : Int32)))) else (((some (y117_v_t_end, x117_v_t_kind, x117_v_t_start))).map Sum.inr))))) = some x := hM
      refine lv_aload_n hx hb dX7_advance_117 rfl (lv_at hl 0 rfl) ?_
      refine va_get (D := (dC, dI)) (ci := 7) (v := .int y117_v_t_end) (C := RX7) (T := TX7) (N := 6) hx hb hts in_X7_advance_X7 hown hK hP 0 rfl rfl 5 (by decide) (hts (.fieldLink RX7 28 "NoneWithin$ShopReader" "end" "I") (by decide +kernel)) (fun _ h9 => h9) rfl dX7_advance_118 ?_
      refine lv_aload_n hx hb dX7_advance_121 rfl (lv_at hl 0 rfl) ?_
      refine va_get (D := (dC, dI)) (ci := 7) (v := .int v_t_length) (C := RX7) (T := TX7) (N := 6) hx hb hts in_X7_advance_X7 hown hK hP 0 rfl rfl 2 (by decide) (hts (.fieldLink RX7 18 "NoneWithin$ShopReader" "length" "I") (by decide +kernel)) (fun _ h9 => h9) rfl dX7_advance_122 ?_
      refine lv_icmp_ge (tgt := 160) hx hb dX7_advance_125 (by decide) (fun c125 => ?_) (fun c125 => ?_)
      · have hM := ifp c125 hM
        obtain ⟨x, hMn, hxe⟩ := mpr hM
        have hX := hX.2 _ hxe
        have hM := hMn
        have hE : res = ((y117_v_t_end, x117_v_t_kind, x117_v_t_start) : (Int32 × Int32 × Int32)) := ((Option.some.inj hM).trans hX).symm
        rw [hQq, hE]
        exact nw_vret hx hb hr hlocks hK hP hD hS dX7_advance_160
      · have hM := ifn c125 hM
        refine lv_aload_n hx hb dX7_advance_128 rfl (lv_at hl 0 rfl) ?_
        refine va_get (D := (dC, dI)) (ci := 7) (v := .ref a_t_text) (C := RX7) (T := TX7) (N := 6) hx hb hts in_X7_advance_X7 hown hK hP 0 rfl rfl 1 (by decide) (hts (.fieldLink RX7 31 "NoneWithin$ShopReader" "text" "[I") (by decide +kernel)) (fun _ h9 => h9) rfl dX7_advance_129 ?_
        refine lv_aload_n hx hb dX7_advance_132 rfl (lv_at hl 0 rfl) ?_
        refine va_get (D := (dC, dI)) (ci := 7) (v := .int y117_v_t_end) (C := RX7) (T := TX7) (N := 6) hx hb hts in_X7_advance_X7 hown hK hP 0 rfl rfl 5 (by decide) (hts (.fieldLink RX7 28 "NoneWithin$ShopReader" "end" "I") (by decide +kernel)) (fun _ h9 => h9) rfl dX7_advance_133 ?_
        obtain ⟨hin, hM⟩ := ixp hM
        refine va_iald hx hb hK hP 1 0 rfl rfl hin dX7_advance_136 ?_
        obtain ⟨t137, hg137, hM⟩ := bd hM
        refine nw_i (wc := []) (wr := [(a_t, .inr (7, [.ref a_t_shop, .ref a_t_text, .int v_t_length, .int x117_v_t_kind, .int x117_v_t_start, .int y117_v_t_end])), (a_t_text, .inl (cI, 200, .inl f_t_text))]) (w1 := []) (wf := [(a_t, .inr (7, [.ref a_t_shop, .ref a_t_text, .int v_t_length, .int x117_v_t_kind, .int x117_v_t_start, .int y117_v_t_end])), (a_t_text, .inl (cI, 200, .inl f_t_text))]) [] [0, 1] [0, 1] hP hD hS hA rfl rfl rfl (by decide) rfl rfl (nw_runS (As := [.int (f_t_text y117_v_t_end.toNatClampNeg)]) (rest := []) hfix (c_X7_kindOf l dC dI cI cJ cZ cQ gx  H.size  (f_t_text y117_v_t_end.toNatClampNeg) t137 hg137) (va_cwS 1 hts gX7_advance_X7_kindOf rfl rfl rfl (by decide +kernel) ⟨Nat.le_of_ble_eq_true rfl, Nat.le_of_ble_eq_true rfl⟩) hP hD hK hN hS hA hG [] rfl rfl hl.1 rfl rfl (Nat.le_of_ble_eq_true rfl) dX7_advance_137 ⟨Nat.zero_le _, Nat.zero_le _⟩) (fun H locs hP hD hS => ?_)
        refine lv_aload_n hx hb dX7_advance_140 rfl (lv_at hl 0 rfl) ?_
        refine va_get (D := (dC, dI)) (ci := 7) (v := .int x117_v_t_kind) (C := RX7) (T := TX7) (N := 6) hx hb hts in_X7_advance_X7 hown hK hP 0 rfl rfl 3 (by decide) (hts (.fieldLink RX7 22 "NoneWithin$ShopReader" "kind" "I") (by decide +kernel)) (fun _ h9 => h9) rfl dX7_advance_141 ?_
        refine lv_icmp_ne (tgt := 160) hx hb dX7_advance_144 (by decide) (fun c144 => ?_) (fun c144 => ?_)
        · have hM := ifn c144 hM
          obtain ⟨x, hMn, hxe⟩ := mpr hM
          have hX := hX.2 _ hxe
          have hM := hMn
          have hE : res = ((y117_v_t_end, x117_v_t_kind, x117_v_t_start) : (Int32 × Int32 × Int32)) := ((Option.some.inj hM).trans hX).symm
          rw [hQq, hE]
          exact nw_vret hx hb hr hlocks hK hP hD hS dX7_advance_160
        · have hM := ifp c144 hM
          refine lv_aload_n hx hb dX7_advance_147 rfl (lv_at hl 0 rfl) ?_
          refine lv_dup hx hb dX7_advance_148 rfl ?_
          refine va_get (D := (dC, dI)) (ci := 7) (v := .int y117_v_t_end) (C := RX7) (T := TX7) (N := 6) hx hb hts in_X7_advance_X7 hown hK hP 0 rfl rfl 5 (by decide) (hts (.fieldLink RX7 28 "NoneWithin$ShopReader" "end" "I") (by decide +kernel)) (fun _ h9 => h9) rfl dX7_advance_149 ?_
          refine lv_iconst (v := (1 : Int32)) hx hb dX7_advance_152 (by decide) ?_
          refine lv_iadd hx hb dX7_advance_153 ?_
          refine va_put (D := (dC, dI)) (ci := 7) (v := .int (y117_v_t_end + (1 : Int32))) (ty := .int) (C := RX7) (T := TX7) (N := 6) hx hb hts in_X7_advance_X7 tyX7 tyX7_ok nmX7 hown hK hP hD hS 0 rfl rfl 5 (by decide) (hts (.fieldLink RX7 28 "NoneWithin$ShopReader" "end" "I") (by decide +kernel)) (fun _ h9 => h9) rfl (by decide +kernel) rfl rfl (Nat.le_of_ble_eq_true rfl) dX7_advance_154 (fun H locs hP hD hS => ?_)
          have hP : va_P (dC, dI) classes [(a_t, .inr (7, [.ref a_t_shop, .ref a_t_text, .int v_t_length, .int x117_v_t_kind, .int x117_v_t_start, .int (y117_v_t_end + (1 : Int32))])), (a_t_text, .inl (cI, 200, .inl f_t_text))] H := hP
          have hD : va_D A [(a_t, .inr (7, [.ref a_t_shop, .ref a_t_text, .int v_t_length, .int x117_v_t_kind, .int x117_v_t_start, .int (y117_v_t_end + (1 : Int32))])), (a_t_text, .inl (cI, 200, .inl f_t_text))] := hD
          refine lv_goto (tgt := 117) hx hb dX7_advance_157 (by decide) ?_
          have hw := hX.1 _ (Option.some.inj hM).symm
          rw [hW117] at hw
          exact hw H locs ls hP hD hS (lv_sub hl [0] rfl)
    have hw := lp_walk (Wp := fun z => W117 z) (X := fun t => t = res) hst _ _ _ hM hX
    rw [hW117] at hw
    exact hw H locs ls hP hD hS (lv_sub hl [0] rfl)
  have J98 : ∀ (x : (Int32 × Int32 × Int32)) (s98_1 : Int32) (x98_v_t_end : Int32) (x98_v_t_kind : Int32) (x98_v_t_start : Int32) (H : Heap) (locs : List Loc) (ls : Array Slot), B_X7_advance_98 s98_1 x98_v_t_end x98_v_t_kind v_t_length x98_v_t_start f_t_text = some x → x = res → va_P (dC, dI) classes [(a_t, .inr (7, [.ref a_t_shop, .ref a_t_text, .int v_t_length, .int x98_v_t_kind, .int x98_v_t_start, .int x98_v_t_end])), (a_t_text, .inl (cI, 200, .inl f_t_text))] H → va_D A [(a_t, .inr (7, [.ref a_t_shop, .ref a_t_text, .int v_t_length, .int x98_v_t_kind, .int x98_v_t_start, .int x98_v_t_end])), (a_t_text, .inl (cI, 200, .inl f_t_text))] → va_S A s.heap H locs → lv_has ls 1 [(0, .ref a_t)] → W p l e rm_X7_advance s m ([.ref a_t] : List Value).toArray below meth c H locs 0 0 (MQ below (Qq A) ([.ref a_t] : List Value).toArray s 0 0 A) (F0 m 98 ls [.int s98_1, .ref a_t]) := by
    intro x s98_1 x98_v_t_end x98_v_t_kind x98_v_t_start H locs ls hM hX hP hD hS hl
    have hM : (if x98_v_t_kind = (1 : Int32) then (B_X7_advance_117 s98_1 x98_v_t_kind v_t_length x98_v_t_start f_t_text) else (if x98_v_t_kind = (2 : Int32) then (B_X7_advance_117 s98_1 x98_v_t_kind v_t_length x98_v_t_start f_t_text) else (some (s98_1, x98_v_t_kind, x98_v_t_start)))) = some x := hM
    refine va_put (D := (dC, dI)) (ci := 7) (v := .int s98_1) (ty := .int) (C := RX7) (T := TX7) (N := 6) hx hb hts in_X7_advance_X7 tyX7 tyX7_ok nmX7 hown hK hP hD hS 0 rfl rfl 5 (by decide) (hts (.fieldLink RX7 28 "NoneWithin$ShopReader" "end" "I") (by decide +kernel)) (fun _ h9 => h9) rfl (by decide +kernel) rfl rfl (Nat.le_of_ble_eq_true rfl) dX7_advance_98 (fun H locs hP hD hS => ?_)
    have hP : va_P (dC, dI) classes [(a_t, .inr (7, [.ref a_t_shop, .ref a_t_text, .int v_t_length, .int x98_v_t_kind, .int x98_v_t_start, .int s98_1])), (a_t_text, .inl (cI, 200, .inl f_t_text))] H := hP
    have hD : va_D A [(a_t, .inr (7, [.ref a_t_shop, .ref a_t_text, .int v_t_length, .int x98_v_t_kind, .int x98_v_t_start, .int s98_1])), (a_t_text, .inl (cI, 200, .inl f_t_text))] := hD
    refine lv_aload_n hx hb dX7_advance_101 rfl (lv_at hl 0 rfl) ?_
    refine va_get (D := (dC, dI)) (ci := 7) (v := .int x98_v_t_kind) (C := RX7) (T := TX7) (N := 6) hx hb hts in_X7_advance_X7 hown hK hP 0 rfl rfl 3 (by decide) (hts (.fieldLink RX7 22 "NoneWithin$ShopReader" "kind" "I") (by decide +kernel)) (fun _ h9 => h9) rfl dX7_advance_102 ?_
    refine lv_iconst (v := (1 : Int32)) hx hb dX7_advance_105 (by decide) ?_
    refine lv_icmp_eq (tgt := 117) hx hb dX7_advance_106 (by decide) (fun c106 => ?_) (fun c106 => ?_)
    · have hM := ifp c106 hM
      exact J117 _ s98_1 x98_v_t_kind x98_v_t_start H locs ls hM hX hP hD hS (lv_sub hl [0] rfl)
    · have hM := ifn c106 hM
      refine lv_aload_n hx hb dX7_advance_109 rfl (lv_at hl 0 rfl) ?_
      refine va_get (D := (dC, dI)) (ci := 7) (v := .int x98_v_t_kind) (C := RX7) (T := TX7) (N := 6) hx hb hts in_X7_advance_X7 hown hK hP 0 rfl rfl 3 (by decide) (hts (.fieldLink RX7 22 "NoneWithin$ShopReader" "kind" "I") (by decide +kernel)) (fun _ h9 => h9) rfl dX7_advance_110 ?_
      refine lv_iconst (v := (2 : Int32)) hx hb dX7_advance_113 (by decide) ?_
      refine lv_icmp_ne (tgt := 160) hx hb dX7_advance_114 (by decide) (fun c114 => ?_) (fun c114 => ?_)
      · have hM := ifn c114 hM
        have hE : res = ((s98_1, x98_v_t_kind, x98_v_t_start) : (Int32 × Int32 × Int32)) := ((Option.some.inj hM).trans hX).symm
        rw [hQq, hE]
        exact nw_vret hx hb hr hlocks hK hP hD hS dX7_advance_160
      · have hM := ifp c114 hM
        exact J117 _ s98_1 x98_v_t_kind x98_v_t_start H locs ls hM hX hP hD hS (lv_sub hl [0] rfl)
  have J74 : ∀ (x : (Int32 × Int32 × Int32)) (s74_1 : Int32) (x74_v_t_end : Int32) (x74_v_t_kind : Int32) (x74_v_t_start : Int32) (H : Heap) (locs : List Loc) (ls : Array Slot), B_X7_advance_74 s74_1 x74_v_t_end x74_v_t_kind v_t_length x74_v_t_start f_t_text = some x → x = res → va_P (dC, dI) classes [(a_t, .inr (7, [.ref a_t_shop, .ref a_t_text, .int v_t_length, .int x74_v_t_kind, .int x74_v_t_start, .int x74_v_t_end])), (a_t_text, .inl (cI, 200, .inl f_t_text))] H → va_D A [(a_t, .inr (7, [.ref a_t_shop, .ref a_t_text, .int v_t_length, .int x74_v_t_kind, .int x74_v_t_start, .int x74_v_t_end])), (a_t_text, .inl (cI, 200, .inl f_t_text))] → va_S A s.heap H locs → lv_has ls 1 [(0, .ref a_t)] → W p l e rm_X7_advance s m ([.ref a_t] : List Value).toArray below meth c H locs 0 0 (MQ below (Qq A) ([.ref a_t] : List Value).toArray s 0 0 A) (F0 m 74 ls [.int s74_1, .ref a_t]) := by
    intro x s74_1 x74_v_t_end x74_v_t_kind x74_v_t_start H locs ls hM hX hP hD hS hl
    have hM : (if s74_1 = 0 then (B_X7_advance_98 x74_v_t_start x74_v_t_end s74_1 v_t_length x74_v_t_start f_t_text) else (B_X7_advance_98 (x74_v_t_start + (1 : Int32)) x74_v_t_end s74_1 v_t_length x74_v_t_start f_t_text)) = some x := hM
    refine va_put (D := (dC, dI)) (ci := 7) (v := .int s74_1) (ty := .int) (C := RX7) (T := TX7) (N := 6) hx hb hts in_X7_advance_X7 tyX7 tyX7_ok nmX7 hown hK hP hD hS 0 rfl rfl 3 (by decide) (hts (.fieldLink RX7 22 "NoneWithin$ShopReader" "kind" "I") (by decide +kernel)) (fun _ h9 => h9) rfl (by decide +kernel) rfl rfl (Nat.le_of_ble_eq_true rfl) dX7_advance_74 (fun H locs hP hD hS => ?_)
    have hP : va_P (dC, dI) classes [(a_t, .inr (7, [.ref a_t_shop, .ref a_t_text, .int v_t_length, .int s74_1, .int x74_v_t_start, .int x74_v_t_end])), (a_t_text, .inl (cI, 200, .inl f_t_text))] H := hP
    have hD : va_D A [(a_t, .inr (7, [.ref a_t_shop, .ref a_t_text, .int v_t_length, .int s74_1, .int x74_v_t_start, .int x74_v_t_end])), (a_t_text, .inl (cI, 200, .inl f_t_text))] := hD
    refine lv_aload_n hx hb dX7_advance_77 rfl (lv_at hl 0 rfl) ?_
    refine lv_aload_n hx hb dX7_advance_78 rfl (lv_at hl 0 rfl) ?_
    refine va_get (D := (dC, dI)) (ci := 7) (v := .int s74_1) (C := RX7) (T := TX7) (N := 6) hx hb hts in_X7_advance_X7 hown hK hP 0 rfl rfl 3 (by decide) (hts (.fieldLink RX7 22 "NoneWithin$ShopReader" "kind" "I") (by decide +kernel)) (fun _ h9 => h9) rfl dX7_advance_79 ?_
    refine lv_if_ne (tgt := 92) hx hb dX7_advance_82 (by decide) (fun c82 => ?_) (fun c82 => ?_)
    · have hM := ifn c82 hM
      refine lv_aload_n hx hb dX7_advance_92 rfl (lv_at hl 0 rfl) ?_
      refine va_get (D := (dC, dI)) (ci := 7) (v := .int x74_v_t_start) (C := RX7) (T := TX7) (N := 6) hx hb hts in_X7_advance_X7 hown hK hP 0 rfl rfl 4 (by decide) (hts (.fieldLink RX7 25 "NoneWithin$ShopReader" "start" "I") (by decide +kernel)) (fun _ h9 => h9) rfl dX7_advance_93 ?_
      refine lv_iconst (v := (1 : Int32)) hx hb dX7_advance_96 (by decide) ?_
      refine lv_iadd hx hb dX7_advance_97 ?_
      exact J98 _ (x74_v_t_start + (1 : Int32)) x74_v_t_end s74_1 x74_v_t_start H locs ls hM hX hP hD hS (lv_sub hl [0] rfl)
    · have hM := ifp c82 hM
      refine lv_aload_n hx hb dX7_advance_85 rfl (lv_at hl 0 rfl) ?_
      refine va_get (D := (dC, dI)) (ci := 7) (v := .int x74_v_t_start) (C := RX7) (T := TX7) (N := 6) hx hb hts in_X7_advance_X7 hown hK hP 0 rfl rfl 4 (by decide) (hts (.fieldLink RX7 25 "NoneWithin$ShopReader" "start" "I") (by decide +kernel)) (fun _ h9 => h9) rfl dX7_advance_86 ?_
      refine lv_goto (tgt := 98) hx hb dX7_advance_89 (by decide) ?_
      exact J98 _ x74_v_t_start x74_v_t_end s74_1 x74_v_t_start H locs ls hM hX hP hD hS (lv_sub hl [0] rfl)
  have J46 : ∀ (x : (Int32 × Int32 × Int32)) (x46_v_t_end : Int32) (x46_v_t_kind : Int32) (x46_v_t_start : Int32) (H : Heap) (locs : List Loc) (ls : Array Slot), B_X7_advance_46 x46_v_t_end x46_v_t_kind v_t_length x46_v_t_start f_t_text = some x → x = res → va_P (dC, dI) classes [(a_t, .inr (7, [.ref a_t_shop, .ref a_t_text, .int v_t_length, .int x46_v_t_kind, .int x46_v_t_start, .int x46_v_t_end])), (a_t_text, .inl (cI, 200, .inl f_t_text))] H → va_D A [(a_t, .inr (7, [.ref a_t_shop, .ref a_t_text, .int v_t_length, .int x46_v_t_kind, .int x46_v_t_start, .int x46_v_t_end])), (a_t_text, .inl (cI, 200, .inl f_t_text))] → va_S A s.heap H locs → lv_has ls 1 [(0, .ref a_t)] → W p l e rm_X7_advance s m ([.ref a_t] : List Value).toArray below meth c H locs 0 0 (MQ below (Qq A) ([.ref a_t] : List Value).toArray s 0 0 A) (F0 m 46 ls []) := by
    intro x x46_v_t_end x46_v_t_kind x46_v_t_start H locs ls hM hX hP hD hS hl
    have hM : (if v_t_length ≤ x46_v_t_start then (B_X7_advance_74 (0 : Int32) x46_v_t_end x46_v_t_kind v_t_length x46_v_t_start f_t_text) else (ix x46_v_t_start 200 (Option.bind (M_X7_kindOf (f_t_text x46_v_t_start.toNatClampNeg)) (fun t67 => B_X7_advance_74 t67 x46_v_t_end x46_v_t_kind v_t_length x46_v_t_start f_t_text)))) = some x := hM
    refine lv_aload_n hx hb dX7_advance_46 rfl (lv_at hl 0 rfl) ?_
    refine lv_aload_n hx hb dX7_advance_47 rfl (lv_at hl 0 rfl) ?_
    refine va_get (D := (dC, dI)) (ci := 7) (v := .int x46_v_t_start) (C := RX7) (T := TX7) (N := 6) hx hb hts in_X7_advance_X7 hown hK hP 0 rfl rfl 4 (by decide) (hts (.fieldLink RX7 25 "NoneWithin$ShopReader" "start" "I") (by decide +kernel)) (fun _ h9 => h9) rfl dX7_advance_48 ?_
    refine lv_aload_n hx hb dX7_advance_51 rfl (lv_at hl 0 rfl) ?_
    refine va_get (D := (dC, dI)) (ci := 7) (v := .int v_t_length) (C := RX7) (T := TX7) (N := 6) hx hb hts in_X7_advance_X7 hown hK hP 0 rfl rfl 2 (by decide) (hts (.fieldLink RX7 18 "NoneWithin$ShopReader" "length" "I") (by decide +kernel)) (fun _ h9 => h9) rfl dX7_advance_52 ?_
    refine lv_icmp_ge (tgt := 73) hx hb dX7_advance_55 (by decide) (fun c55 => ?_) (fun c55 => ?_)
    · have hM := ifp c55 hM
      refine lv_iconst (v := (0 : Int32)) hx hb dX7_advance_73 (by decide) ?_
      exact J74 _ (0 : Int32) x46_v_t_end x46_v_t_kind x46_v_t_start H locs ls hM hX hP hD hS (lv_sub hl [0] rfl)
    · have hM := ifn c55 hM
      refine lv_aload_n hx hb dX7_advance_58 rfl (lv_at hl 0 rfl) ?_
      refine va_get (D := (dC, dI)) (ci := 7) (v := .ref a_t_text) (C := RX7) (T := TX7) (N := 6) hx hb hts in_X7_advance_X7 hown hK hP 0 rfl rfl 1 (by decide) (hts (.fieldLink RX7 31 "NoneWithin$ShopReader" "text" "[I") (by decide +kernel)) (fun _ h9 => h9) rfl dX7_advance_59 ?_
      refine lv_aload_n hx hb dX7_advance_62 rfl (lv_at hl 0 rfl) ?_
      refine va_get (D := (dC, dI)) (ci := 7) (v := .int x46_v_t_start) (C := RX7) (T := TX7) (N := 6) hx hb hts in_X7_advance_X7 hown hK hP 0 rfl rfl 4 (by decide) (hts (.fieldLink RX7 25 "NoneWithin$ShopReader" "start" "I") (by decide +kernel)) (fun _ h9 => h9) rfl dX7_advance_63 ?_
      obtain ⟨hin, hM⟩ := ixp hM
      refine va_iald hx hb hK hP 1 0 rfl rfl hin dX7_advance_66 ?_
      obtain ⟨t67, hg67, hM⟩ := bd hM
      refine nw_i (wc := []) (wr := [(a_t, .inr (7, [.ref a_t_shop, .ref a_t_text, .int v_t_length, .int x46_v_t_kind, .int x46_v_t_start, .int x46_v_t_end])), (a_t_text, .inl (cI, 200, .inl f_t_text))]) (w1 := []) (wf := [(a_t, .inr (7, [.ref a_t_shop, .ref a_t_text, .int v_t_length, .int x46_v_t_kind, .int x46_v_t_start, .int x46_v_t_end])), (a_t_text, .inl (cI, 200, .inl f_t_text))]) [] [0, 1] [0, 1] hP hD hS hA rfl rfl rfl (by decide) rfl rfl (nw_runS (As := [.int (f_t_text x46_v_t_start.toNatClampNeg)]) (rest := [.ref a_t]) hfix (c_X7_kindOf l dC dI cI cJ cZ cQ gx  H.size  (f_t_text x46_v_t_start.toNatClampNeg) t67 hg67) (va_cwS 1 hts gX7_advance_X7_kindOf rfl rfl rfl (by decide +kernel) ⟨Nat.le_of_ble_eq_true rfl, Nat.le_of_ble_eq_true rfl⟩) hP hD hK hN hS hA hG [] rfl rfl hl.1 rfl rfl (Nat.le_of_ble_eq_true rfl) dX7_advance_67 ⟨Nat.zero_le _, Nat.zero_le _⟩) (fun H locs hP hD hS => ?_)
      refine lv_goto (tgt := 74) hx hb dX7_advance_70 (by decide) ?_
      exact J74 _ t67 x46_v_t_end x46_v_t_kind x46_v_t_start H locs ls hM hX hP hD hS (lv_sub hl [0] rfl)
  have hM : (lpN (fun z => L_X7_advance_8 v_t_end v_t_kind v_t_length f_t_text z) fuelK v_t_end) = some res := hM
  refine lv_aload_n hx hb dX7_advance_0 rfl (lv_at hl 0 rfl) ?_
  refine lv_aload_n hx hb dX7_advance_1 rfl (lv_at hl 0 rfl) ?_
  refine va_get (D := (dC, dI)) (ci := 7) (v := .int v_t_end) (C := RX7) (T := TX7) (N := 6) hx hb hts in_X7_advance_X7 hown hK hP 0 rfl rfl 5 (by decide) (hts (.fieldLink RX7 28 "NoneWithin$ShopReader" "end" "I") (by decide +kernel)) (fun _ h9 => h9) rfl dX7_advance_2 ?_
  refine va_put (D := (dC, dI)) (ci := 7) (v := .int v_t_end) (ty := .int) (C := RX7) (T := TX7) (N := 6) hx hb hts in_X7_advance_X7 tyX7 tyX7_ok nmX7 hown hK hP hD hS 0 rfl rfl 4 (by decide) (hts (.fieldLink RX7 25 "NoneWithin$ShopReader" "start" "I") (by decide +kernel)) (fun _ h9 => h9) rfl (by decide +kernel) rfl rfl (Nat.le_of_ble_eq_true rfl) dX7_advance_5 (fun H locs hP hD hS => ?_)
  have hP : va_P (dC, dI) classes [(a_t, .inr (7, [.ref a_t_shop, .ref a_t_text, .int v_t_length, .int v_t_kind, .int v_t_end, .int v_t_end])), (a_t_text, .inl (cI, 200, .inl f_t_text))] H := hP
  have hD : va_D A [(a_t, .inr (7, [.ref a_t_shop, .ref a_t_text, .int v_t_length, .int v_t_kind, .int v_t_end, .int v_t_end])), (a_t_text, .inl (cI, 200, .inl f_t_text))] := hD
  obtain ⟨W8, hW8⟩ : ∃ W9 : Int32 → Prop, W9 = fun (y8_v_t_start : Int32) => ∀ (H : Heap) (locs : List Loc) (ls : Array Slot), va_P (dC, dI) classes [(a_t, .inr (7, [.ref a_t_shop, .ref a_t_text, .int v_t_length, .int v_t_kind, .int y8_v_t_start, .int v_t_end])), (a_t_text, .inl (cI, 200, .inl f_t_text))] H → va_D A [(a_t, .inr (7, [.ref a_t_shop, .ref a_t_text, .int v_t_length, .int v_t_kind, .int y8_v_t_start, .int v_t_end])), (a_t_text, .inl (cI, 200, .inl f_t_text))] → va_S A s.heap H locs → lv_has ls 1 [(0, .ref a_t)] → W p l e rm_X7_advance s m ([.ref a_t] : List Value).toArray below meth c H locs 0 0 (MQ below (Qq A) ([.ref a_t] : List Value).toArray s 0 0 A) (F0 m 8 ls []) := ⟨_, rfl⟩
  have hst : ∀ (z : Int32) (x : (Int32 ⊕ (Int32 × Int32 × Int32))), (fun z => L_X7_advance_8 v_t_end v_t_kind v_t_length f_t_text z) z = some x → ((∀ z', x = Sum.inl z' → W8 z') ∧ (∀ t_8, x = Sum.inr t_8 → t_8 = res)) → W8 z := by
    intro y8_v_t_start x hM hX
    have hM : L_X7_advance_8 v_t_end v_t_kind v_t_length f_t_text y8_v_t_start = some x := hM
    show W8 y8_v_t_start
    rw [hW8]
    intro H locs ls hP hD hS hl
    have hM : (if v_t_length ≤ y8_v_t_start then (((B_X7_advance_46 v_t_end v_t_kind v_t_length y8_v_t_start f_t_text)).map Sum.inr) else (ix y8_v_t_start 200 (if (f_t_text y8_v_t_start.toNatClampNeg) = (32 : Int32) then (some (Sum.inl (y8_v_t_start + (1 : Int32)))) else (((B_X7_advance_46 v_t_end v_t_kind v_t_length y8_v_t_start f_t_text)).map Sum.inr)))) = some x := hM
    refine lv_aload_n hx hb dX7_advance_8 rfl (lv_at hl 0 rfl) ?_
    refine va_get (D := (dC, dI)) (ci := 7) (v := .int y8_v_t_start) (C := RX7) (T := TX7) (N := 6) hx hb hts in_X7_advance_X7 hown hK hP 0 rfl rfl 4 (by decide) (hts (.fieldLink RX7 25 "NoneWithin$ShopReader" "start" "I") (by decide +kernel)) (fun _ h9 => h9) rfl dX7_advance_9 ?_
    refine lv_aload_n hx hb dX7_advance_12 rfl (lv_at hl 0 rfl) ?_
    refine va_get (D := (dC, dI)) (ci := 7) (v := .int v_t_length) (C := RX7) (T := TX7) (N := 6) hx hb hts in_X7_advance_X7 hown hK hP 0 rfl rfl 2 (by decide) (hts (.fieldLink RX7 18 "NoneWithin$ShopReader" "length" "I") (by decide +kernel)) (fun _ h9 => h9) rfl dX7_advance_13 ?_
    refine lv_icmp_ge (tgt := 46) hx hb dX7_advance_16 (by decide) (fun c16 => ?_) (fun c16 => ?_)
    · have hM := ifp c16 hM
      obtain ⟨x, hMn, hxe⟩ := mpr hM
      have hX := hX.2 _ hxe
      have hM := hMn
      exact J46 _ v_t_end v_t_kind y8_v_t_start H locs ls hM hX hP hD hS (lv_sub hl [0] rfl)
    · have hM := ifn c16 hM
      refine lv_aload_n hx hb dX7_advance_19 rfl (lv_at hl 0 rfl) ?_
      refine va_get (D := (dC, dI)) (ci := 7) (v := .ref a_t_text) (C := RX7) (T := TX7) (N := 6) hx hb hts in_X7_advance_X7 hown hK hP 0 rfl rfl 1 (by decide) (hts (.fieldLink RX7 31 "NoneWithin$ShopReader" "text" "[I") (by decide +kernel)) (fun _ h9 => h9) rfl dX7_advance_20 ?_
      refine lv_aload_n hx hb dX7_advance_23 rfl (lv_at hl 0 rfl) ?_
      refine va_get (D := (dC, dI)) (ci := 7) (v := .int y8_v_t_start) (C := RX7) (T := TX7) (N := 6) hx hb hts in_X7_advance_X7 hown hK hP 0 rfl rfl 4 (by decide) (hts (.fieldLink RX7 25 "NoneWithin$ShopReader" "start" "I") (by decide +kernel)) (fun _ h9 => h9) rfl dX7_advance_24 ?_
      obtain ⟨hin, hM⟩ := ixp hM
      refine va_iald hx hb hK hP 1 0 rfl rfl hin dX7_advance_27 ?_
      refine lv_bipush (v := (32 : Int32)) hx hb dX7_advance_28 (by decide) ?_
      refine lv_icmp_ne (tgt := 46) hx hb dX7_advance_30 (by decide) (fun c30 => ?_) (fun c30 => ?_)
      · have hM := ifn c30 hM
        obtain ⟨x, hMn, hxe⟩ := mpr hM
        have hX := hX.2 _ hxe
        have hM := hMn
        exact J46 _ v_t_end v_t_kind y8_v_t_start H locs ls hM hX hP hD hS (lv_sub hl [0] rfl)
      · have hM := ifp c30 hM
        refine lv_aload_n hx hb dX7_advance_33 rfl (lv_at hl 0 rfl) ?_
        refine lv_dup hx hb dX7_advance_34 rfl ?_
        refine va_get (D := (dC, dI)) (ci := 7) (v := .int y8_v_t_start) (C := RX7) (T := TX7) (N := 6) hx hb hts in_X7_advance_X7 hown hK hP 0 rfl rfl 4 (by decide) (hts (.fieldLink RX7 25 "NoneWithin$ShopReader" "start" "I") (by decide +kernel)) (fun _ h9 => h9) rfl dX7_advance_35 ?_
        refine lv_iconst (v := (1 : Int32)) hx hb dX7_advance_38 (by decide) ?_
        refine lv_iadd hx hb dX7_advance_39 ?_
        refine va_put (D := (dC, dI)) (ci := 7) (v := .int (y8_v_t_start + (1 : Int32))) (ty := .int) (C := RX7) (T := TX7) (N := 6) hx hb hts in_X7_advance_X7 tyX7 tyX7_ok nmX7 hown hK hP hD hS 0 rfl rfl 4 (by decide) (hts (.fieldLink RX7 25 "NoneWithin$ShopReader" "start" "I") (by decide +kernel)) (fun _ h9 => h9) rfl (by decide +kernel) rfl rfl (Nat.le_of_ble_eq_true rfl) dX7_advance_40 (fun H locs hP hD hS => ?_)
        have hP : va_P (dC, dI) classes [(a_t, .inr (7, [.ref a_t_shop, .ref a_t_text, .int v_t_length, .int v_t_kind, .int (y8_v_t_start + (1 : Int32)), .int v_t_end])), (a_t_text, .inl (cI, 200, .inl f_t_text))] H := hP
        have hD : va_D A [(a_t, .inr (7, [.ref a_t_shop, .ref a_t_text, .int v_t_length, .int v_t_kind, .int (y8_v_t_start + (1 : Int32)), .int v_t_end])), (a_t_text, .inl (cI, 200, .inl f_t_text))] := hD
        refine lv_goto (tgt := 8) hx hb dX7_advance_43 (by decide) ?_
        have hw := hX.1 _ (Option.some.inj hM).symm
        rw [hW8] at hw
        exact hw H locs ls hP hD hS (lv_sub hl [0] rfl)
  have hw := lp_walk (Wp := fun z => W8 z) (X := fun t => t = res) hst _ _ _ hM hX
  rw [hW8] at hw
  exact hw H locs ls hP hD hS (lv_sub hl [0] rfl)
theorem in_X7_number_X7 : ∀ w ∈ wsX70, w ∈ wsX7_number := fun _ h => List.mem_cons_of_mem _ (List.mem_append_right _ h)
abbrev rm_X7_number : Room := { frames := 0, cells := 0, slots := 0, locals := 0 }
set_option maxHeartbeats 4000000 in
set_option maxRecDepth 100000 in
theorem c_X7_number (l : Launch) (dC : Nat → ClassId) (dI : Nat → Nat → Nat) (cI cJ cZ cQ : ClassId) (gx : GX) (a_t a_t_text a_t_shop : Nat) (sz : Nat) (v_t_length : Int32) (v_t_kind : Int32) (v_t_start : Int32) (v_t_end : Int32) (f_t_text : (Nat → Int32)) (res : Int32) (hM : M_X7_number v_t_end v_t_start f_t_text = some res) : Met l yX7_number wsX7_number rm_X7_number (kP dC dI cI cJ cZ cQ gx [.ref a_t] sz [(a_t, .inr (7, [.ref a_t_shop, .ref a_t_text, .int v_t_length, .int v_t_kind, .int v_t_start, .int v_t_end])), (a_t_text, .inl (cI, 200, .inl f_t_text))]) (kQi dC dI cI cJ cZ cQ res [(a_t, .inr (7, [.ref a_t_shop, .ref a_t_text, .int v_t_length, .int v_t_kind, .int v_t_start, .int v_t_end])), (a_t_text, .inl (cI, 200, .inl f_t_text))] (va_A [(a_t, .inr (7, [.ref a_t_shop, .ref a_t_text, .int v_t_length, .int v_t_kind, .int v_t_start, .int v_t_end])), (a_t_text, .inl (cI, 200, .inl f_t_text))] sz)) 0 0 (va_A [(a_t, .inr (7, [.ref a_t_shop, .ref a_t_text, .int v_t_length, .int v_t_kind, .int v_t_start, .int v_t_end])), (a_t_text, .inl (cI, 200, .inl f_t_text))] sz) := by
  refine nw_entry (y := yX7_number) (ws := wsX7_number) (rm := rm_X7_number) (sz := sz) (wpre := [(a_t, .inr (7, [.ref a_t_shop, .ref a_t_text, .int v_t_length, .int v_t_kind, .int v_t_start, .int v_t_end])), (a_t_text, .inl (cI, 200, .inl f_t_text))]) (av := [.ref a_t]) (Qc := (kQi dC dI cI cJ cZ cQ res [(a_t, .inr (7, [.ref a_t_shop, .ref a_t_text, .int v_t_length, .int v_t_kind, .int v_t_start, .int v_t_end])), (a_t_text, .inl (cI, 200, .inl f_t_text))])) (cc := cX7_number) (own := RX7) [(0, .ref a_t)] (by decide) rfl rfl (Nat.le_of_ble_eq_true rfl) rfl ?_
  intro p e s m below meth c A ls H locs hfix hr hlocks hin0 hsz0 hP hK hD hA hS hN hG hl
  obtain ⟨hx, hb, hml, hown, hts⟩ := id hfix
  obtain ⟨Qq, hQq⟩ : ∃ Q9, Q9 = (kQi dC dI cI cJ cZ cQ res [(a_t, .inr (7, [.ref a_t_shop, .ref a_t_text, .int v_t_length, .int v_t_kind, .int v_t_start, .int v_t_end])), (a_t_text, .inl (cI, 200, .inl f_t_text))]) := ⟨_, rfl⟩
  rw [← hQq]
  have hX : res = res := rfl
  have hM : (lpN (fun z => L_X7_number_7 v_t_end v_t_start f_t_text z.1 z.2) fuelK ((0 : Int32), v_t_start)) = some res := hM
  refine lv_iconst (v := (0 : Int32)) hx hb dX7_number_0 (by decide) ?_
  refine lv_istore_n (lv' := [(1, .int (0 : Int32)), (0, .ref a_t)]) hx hb dX7_number_1 rfl hl (by decide) rfl (fun ls hl => ?_)
  refine lv_aload_n hx hb dX7_number_2 rfl (lv_at hl 1 rfl) ?_
  refine va_get (D := (dC, dI)) (ci := 7) (v := .int v_t_start) (C := RX7) (T := TX7) (N := 6) hx hb hts in_X7_number_X7 hown hK hP 0 rfl rfl 4 (by decide) (hts (.fieldLink RX7 25 "NoneWithin$ShopReader" "start" "I") (by decide +kernel)) (fun _ h9 => h9) rfl dX7_number_3 ?_
  refine lv_istore_n (lv' := [(2, .int v_t_start), (1, .int (0 : Int32)), (0, .ref a_t)]) hx hb dX7_number_6 rfl hl (by decide) rfl (fun ls hl => ?_)
  obtain ⟨W7, hW7⟩ : ∃ W9 : Int32 → Int32 → Prop, W9 = fun (y7_1 : Int32) (y7_2 : Int32) => ∀ (H : Heap) (locs : List Loc) (ls : Array Slot), va_P (dC, dI) classes [(a_t, .inr (7, [.ref a_t_shop, .ref a_t_text, .int v_t_length, .int v_t_kind, .int v_t_start, .int v_t_end])), (a_t_text, .inl (cI, 200, .inl f_t_text))] H → va_D A [(a_t, .inr (7, [.ref a_t_shop, .ref a_t_text, .int v_t_length, .int v_t_kind, .int v_t_start, .int v_t_end])), (a_t_text, .inl (cI, 200, .inl f_t_text))] → va_S A s.heap H locs → lv_has ls 3 [(0, .ref a_t), (1, .int y7_1), (2, .int y7_2)] → W p l e rm_X7_number s m ([.ref a_t] : List Value).toArray below meth c H locs 0 0 (MQ below (Qq A) ([.ref a_t] : List Value).toArray s 0 0 A) (F0 m 7 ls []) := ⟨_, rfl⟩
  have hst : ∀ (z : (Int32 × Int32)) (x : ((Int32 × Int32) ⊕ Int32)), (fun z => L_X7_number_7 v_t_end v_t_start f_t_text z.1 z.2) z = some x → ((∀ z', x = Sum.inl z' → W7 z'.1 z'.2) ∧ (∀ t_7, x = Sum.inr t_7 → t_7 = res)) → W7 z.1 z.2 := by
    rintro ⟨y7_1, y7_2⟩ x hM hX
    have hM : L_X7_number_7 v_t_end v_t_start f_t_text y7_1 y7_2 = some x := hM
    show W7 y7_1 y7_2
    rw [hW7]
    intro H locs ls hP hD hS hl
    have hM : (if v_t_end ≤ y7_2 then (((some y7_1)).map Sum.inr) else (ix y7_2 200 (some (Sum.inl ((((y7_1 * (10 : Int32)) + (f_t_text y7_2.toNatClampNeg)) - (48 : Int32)), (y7_2 + (1 : Int32))))))) = some x := hM
    refine lv_iload_n hx hb dX7_number_7 rfl (lv_at hl 2 rfl) ?_
    refine lv_aload_n hx hb dX7_number_8 rfl (lv_at hl 0 rfl) ?_
    refine va_get (D := (dC, dI)) (ci := 7) (v := .int v_t_end) (C := RX7) (T := TX7) (N := 6) hx hb hts in_X7_number_X7 hown hK hP 0 rfl rfl 5 (by decide) (hts (.fieldLink RX7 28 "NoneWithin$ShopReader" "end" "I") (by decide +kernel)) (fun _ h9 => h9) rfl dX7_number_9 ?_
    refine lv_icmp_ge (tgt := 36) hx hb dX7_number_12 (by decide) (fun c12 => ?_) (fun c12 => ?_)
    · have hM := ifp c12 hM
      obtain ⟨x, hMn, hxe⟩ := mpr hM
      have hX := hX.2 _ hxe
      have hM := hMn
      refine lv_iload_n hx hb dX7_number_36 rfl (lv_at hl 1 rfl) ?_
      have hE : res = (y7_1 : Int32) := ((Option.some.inj hM).trans hX).symm
      rw [hQq, hE]
      exact nw_iret rfl hx hb hr hlocks hK hP hD hS dX7_number_37
    · have hM := ifn c12 hM
      refine lv_iload_n hx hb dX7_number_15 rfl (lv_at hl 1 rfl) ?_
      refine lv_bipush (v := (10 : Int32)) hx hb dX7_number_16 (by decide) ?_
      refine lv_imul hx hb dX7_number_18 ?_
      refine lv_aload_n hx hb dX7_number_19 rfl (lv_at hl 0 rfl) ?_
      refine va_get (D := (dC, dI)) (ci := 7) (v := .ref a_t_text) (C := RX7) (T := TX7) (N := 6) hx hb hts in_X7_number_X7 hown hK hP 0 rfl rfl 1 (by decide) (hts (.fieldLink RX7 31 "NoneWithin$ShopReader" "text" "[I") (by decide +kernel)) (fun _ h9 => h9) rfl dX7_number_20 ?_
      refine lv_iload_n hx hb dX7_number_23 rfl (lv_at hl 2 rfl) ?_
      obtain ⟨hin, hM⟩ := ixp hM
      refine va_iald hx hb hK hP 1 0 rfl rfl hin dX7_number_24 ?_
      refine lv_iadd hx hb dX7_number_25 ?_
      refine lv_bipush (v := (48 : Int32)) hx hb dX7_number_26 (by decide) ?_
      refine lv_isub hx hb dX7_number_28 ?_
      refine lv_istore_n (lv' := [(1, .int (((y7_1 * (10 : Int32)) + (f_t_text y7_2.toNatClampNeg)) - (48 : Int32))), (0, .ref a_t), (2, .int y7_2)]) hx hb dX7_number_29 rfl hl (by decide) rfl (fun ls hl => ?_)
      refine lv_iinc (v := (y7_2 + (1 : Int32))) (lv' := [(2, .int (y7_2 + (1 : Int32))), (1, .int (((y7_1 * (10 : Int32)) + (f_t_text y7_2.toNatClampNeg)) - (48 : Int32))), (0, .ref a_t)]) hx hb dX7_number_30 hl (k := 2) rfl rfl (by decide) rfl (fun ls hl => ?_)
      refine lv_goto (tgt := 7) hx hb dX7_number_33 (by decide) ?_
      have hw := hX.1 _ (Option.some.inj hM).symm
      rw [hW7] at hw
      exact hw H locs ls hP hD hS (lv_sub hl [2, 1, 0] rfl)
  have hw := lp_walk (Wp := fun z => W7 z.1 z.2) (X := fun t => t = res) hst _ _ _ hM hX
  rw [hW7] at hw
  exact hw H locs ls hP hD hS (lv_sub hl [2, 1, 0] rfl)
theorem in_X7_isNumber_X7 : ∀ w ∈ wsX70, w ∈ wsX7_isNumber := fun _ h => List.mem_cons_of_mem _ (List.mem_append_right _ h)
abbrev rm_X7_isNumber : Room := { frames := 1, cells := 0, slots := 0, locals := 22 }
set_option maxHeartbeats 4000000 in
set_option maxRecDepth 100000 in
theorem c_X7_isNumber (l : Launch) (dC : Nat → ClassId) (dI : Nat → Nat → Nat) (cI cJ cZ cQ : ClassId) (gx : GX) (a_t a_t_text a_t_shop : Nat) (sz : Nat) (v_t_length : Int32) (v_t_kind : Int32) (v_t_start : Int32) (v_t_end : Int32) (f_t_text : (Nat → Int32)) (p0 : Int32) (p1 : Int32) (res : Int32) (hM : M_X7_isNumber v_t_end v_t_kind v_t_start f_t_text p0 p1 = some res) : Met l yX7_isNumber wsX7_isNumber rm_X7_isNumber (kP dC dI cI cJ cZ cQ gx [.ref a_t, .int p0, .int p1] sz [(a_t, .inr (7, [.ref a_t_shop, .ref a_t_text, .int v_t_length, .int v_t_kind, .int v_t_start, .int v_t_end])), (a_t_text, .inl (cI, 200, .inl f_t_text))]) (kQi dC dI cI cJ cZ cQ res [(a_t, .inr (7, [.ref a_t_shop, .ref a_t_text, .int v_t_length, .int v_t_kind, .int v_t_start, .int v_t_end])), (a_t_text, .inl (cI, 200, .inl f_t_text))] (va_A [(a_t, .inr (7, [.ref a_t_shop, .ref a_t_text, .int v_t_length, .int v_t_kind, .int v_t_start, .int v_t_end])), (a_t_text, .inl (cI, 200, .inl f_t_text))] sz)) 0 0 (va_A [(a_t, .inr (7, [.ref a_t_shop, .ref a_t_text, .int v_t_length, .int v_t_kind, .int v_t_start, .int v_t_end])), (a_t_text, .inl (cI, 200, .inl f_t_text))] sz) := by
  refine nw_entry (y := yX7_isNumber) (ws := wsX7_isNumber) (rm := rm_X7_isNumber) (sz := sz) (wpre := [(a_t, .inr (7, [.ref a_t_shop, .ref a_t_text, .int v_t_length, .int v_t_kind, .int v_t_start, .int v_t_end])), (a_t_text, .inl (cI, 200, .inl f_t_text))]) (av := [.ref a_t, .int p0, .int p1]) (Qc := (kQi dC dI cI cJ cZ cQ res [(a_t, .inr (7, [.ref a_t_shop, .ref a_t_text, .int v_t_length, .int v_t_kind, .int v_t_start, .int v_t_end])), (a_t_text, .inl (cI, 200, .inl f_t_text))])) (cc := cX7_isNumber) (own := RX7) [(0, .ref a_t), (1, .int p0), (2, .int p1)] (by decide) rfl rfl (Nat.le_of_ble_eq_true rfl) rfl ?_
  intro p e s m below meth c A ls H locs hfix hr hlocks hin0 hsz0 hP hK hD hA hS hN hG hl
  obtain ⟨hx, hb, hml, hown, hts⟩ := id hfix
  obtain ⟨Qq, hQq⟩ : ∃ Q9, Q9 = (kQi dC dI cI cJ cZ cQ res [(a_t, .inr (7, [.ref a_t_shop, .ref a_t_text, .int v_t_length, .int v_t_kind, .int v_t_start, .int v_t_end])), (a_t_text, .inl (cI, 200, .inl f_t_text))]) := ⟨_, rfl⟩
  rw [← hQq]
  have hX : res = res := rfl
  have hM : (if v_t_kind = (2 : Int32) then (if (2 : Int32) < (v_t_end - v_t_start) then (some (0 : Int32)) else (Option.bind (M_X7_number v_t_end v_t_start f_t_text) (fun t22 => Option.bind (M_X8_between t22 p0 p1) (fun t27 => if t27 = 0 then (some (0 : Int32)) else (some (1 : Int32)))))) else (some (0 : Int32))) = some res := hM
  refine lv_aload_n hx hb dX7_isNumber_0 rfl (lv_at hl 0 rfl) ?_
  refine va_get (D := (dC, dI)) (ci := 7) (v := .int v_t_kind) (C := RX7) (T := TX7) (N := 6) hx hb hts in_X7_isNumber_X7 hown hK hP 0 rfl rfl 3 (by decide) (hts (.fieldLink RX7 22 "NoneWithin$ShopReader" "kind" "I") (by decide +kernel)) (fun _ h9 => h9) rfl dX7_isNumber_1 ?_
  refine lv_iconst (v := (2 : Int32)) hx hb dX7_isNumber_4 (by decide) ?_
  refine lv_icmp_ne (tgt := 37) hx hb dX7_isNumber_5 (by decide) (fun c5 => ?_) (fun c5 => ?_)
  · have hM := ifn c5 hM
    refine lv_iconst (v := (0 : Int32)) hx hb dX7_isNumber_37 (by decide) ?_
    have hE : res = ((0 : Int32) : Int32) := ((Option.some.inj hM).trans hX).symm
    rw [hQq, hE]
    exact nw_zret rfl rfl hx hb hr hlocks hK hP hD hS dX7_isNumber_38
  · have hM := ifp c5 hM
    refine lv_aload_n hx hb dX7_isNumber_8 rfl (lv_at hl 0 rfl) ?_
    refine va_get (D := (dC, dI)) (ci := 7) (v := .int v_t_end) (C := RX7) (T := TX7) (N := 6) hx hb hts in_X7_isNumber_X7 hown hK hP 0 rfl rfl 5 (by decide) (hts (.fieldLink RX7 28 "NoneWithin$ShopReader" "end" "I") (by decide +kernel)) (fun _ h9 => h9) rfl dX7_isNumber_9 ?_
    refine lv_aload_n hx hb dX7_isNumber_12 rfl (lv_at hl 0 rfl) ?_
    refine va_get (D := (dC, dI)) (ci := 7) (v := .int v_t_start) (C := RX7) (T := TX7) (N := 6) hx hb hts in_X7_isNumber_X7 hown hK hP 0 rfl rfl 4 (by decide) (hts (.fieldLink RX7 25 "NoneWithin$ShopReader" "start" "I") (by decide +kernel)) (fun _ h9 => h9) rfl dX7_isNumber_13 ?_
    refine lv_isub hx hb dX7_isNumber_16 ?_
    refine lv_iconst (v := (2 : Int32)) hx hb dX7_isNumber_17 (by decide) ?_
    refine lv_icmp_gt (tgt := 37) hx hb dX7_isNumber_18 (by decide) (fun c18 => ?_) (fun c18 => ?_)
    · have hM := ifp c18 hM
      refine lv_iconst (v := (0 : Int32)) hx hb dX7_isNumber_37 (by decide) ?_
      have hE : res = ((0 : Int32) : Int32) := ((Option.some.inj hM).trans hX).symm
      rw [hQq, hE]
      exact nw_zret rfl rfl hx hb hr hlocks hK hP hD hS dX7_isNumber_38
    · have hM := ifn c18 hM
      refine lv_aload_n hx hb dX7_isNumber_21 rfl (lv_at hl 0 rfl) ?_
      obtain ⟨t22, hg22, hM⟩ := bd hM
      refine nw_i (wc := [(a_t, .inr (7, [.ref a_t_shop, .ref a_t_text, .int v_t_length, .int v_t_kind, .int v_t_start, .int v_t_end])), (a_t_text, .inl (cI, 200, .inl f_t_text))]) (wr := []) (w1 := [(a_t, .inr (7, [.ref a_t_shop, .ref a_t_text, .int v_t_length, .int v_t_kind, .int v_t_start, .int v_t_end])), (a_t_text, .inl (cI, 200, .inl f_t_text))]) (wf := [(a_t, .inr (7, [.ref a_t_shop, .ref a_t_text, .int v_t_length, .int v_t_kind, .int v_t_start, .int v_t_end])), (a_t_text, .inl (cI, 200, .inl f_t_text))]) [0, 1] [] [0, 1] hP hD hS hA rfl rfl rfl (by decide) rfl rfl (nw_runV (As := []) (rest := []) hfix (c_X7_number l dC dI cI cJ cZ cQ gx a_t a_t_text a_t_shop H.size v_t_length v_t_kind v_t_start v_t_end f_t_text  t22 hg22) (cwV 0 hts gX7_isNumber_X7_number rfl rfl rfl (by decide +kernel) ⟨Nat.le_of_ble_eq_true rfl, Nat.le_of_ble_eq_true rfl⟩) hP hD hK hN hS hA hG [0, 1] rfl rfl 0 7 rfl rfl rfl hl.1 rfl rfl (Nat.le_of_ble_eq_true rfl) dX7_isNumber_22 ⟨Nat.zero_le _, Nat.zero_le _⟩) (fun H locs hP hD hS => ?_)
      refine lv_iload_n hx hb dX7_isNumber_25 rfl (lv_at hl 1 rfl) ?_
      refine lv_iload_n hx hb dX7_isNumber_26 rfl (lv_at hl 2 rfl) ?_
      obtain ⟨t27, hg27, hM⟩ := bd hM
      refine nw_i (wc := []) (wr := [(a_t, .inr (7, [.ref a_t_shop, .ref a_t_text, .int v_t_length, .int v_t_kind, .int v_t_start, .int v_t_end])), (a_t_text, .inl (cI, 200, .inl f_t_text))]) (w1 := []) (wf := [(a_t, .inr (7, [.ref a_t_shop, .ref a_t_text, .int v_t_length, .int v_t_kind, .int v_t_start, .int v_t_end])), (a_t_text, .inl (cI, 200, .inl f_t_text))]) [] [0, 1] [0, 1] hP hD hS hA rfl rfl rfl (by decide) rfl rfl (nw_runSN (As := [.int t22, .int p0, .int p1]) (rest := []) hfix (c_X8_between l dC dI cI cJ cZ cQ gx  H.size  t22 p0 p1 t27 hg27) ⟨va_cnB 3 hts gX7_isNumber_X8_between_n106 rfl rfl rfl (hN.1) (hts (.initialized RX8) (by decide +kernel)) (by decide +kernel) ⟨Nat.le_of_ble_eq_true rfl, Nat.le_of_ble_eq_true rfl⟩, (hts (.static yX8_between) (by decide +kernel)), trivial⟩ hP hD hK hN hS hA hG [] rfl rfl hl.1 rfl rfl (Nat.le_of_ble_eq_true rfl) dX7_isNumber_27 ⟨Nat.zero_le _, Nat.zero_le _⟩) (fun H locs hP hD hS => ?_)
      refine lv_if_eq (tgt := 37) hx hb dX7_isNumber_30 (by decide) (fun c30 => ?_) (fun c30 => ?_)
      · have hM := ifp c30 hM
        refine lv_iconst (v := (0 : Int32)) hx hb dX7_isNumber_37 (by decide) ?_
        have hE : res = ((0 : Int32) : Int32) := ((Option.some.inj hM).trans hX).symm
        rw [hQq, hE]
        exact nw_zret rfl rfl hx hb hr hlocks hK hP hD hS dX7_isNumber_38
      · have hM := ifn c30 hM
        refine lv_iconst (v := (1 : Int32)) hx hb dX7_isNumber_33 (by decide) ?_
        refine lv_goto (tgt := 38) hx hb dX7_isNumber_34 (by decide) ?_
        have hE : res = ((1 : Int32) : Int32) := ((Option.some.inj hM).trans hX).symm
        rw [hQq, hE]
        exact nw_zret rfl rfl hx hb hr hlocks hK hP hD hS dX7_isNumber_38
theorem in_X7_parseSemicolon_X7 : ∀ w ∈ wsX70, w ∈ wsX7_parseSemicolon := fun _ h => List.mem_cons_of_mem _ (List.mem_append_right _ h)
abbrev rm_X7_parseSemicolon : Room := { frames := 3, cells := 0, slots := 0, locals := 62 }
set_option maxHeartbeats 4000000 in
set_option maxRecDepth 100000 in
theorem c_X7_parseSemicolon (l : Launch) (dC : Nat → ClassId) (dI : Nat → Nat → Nat) (cI cJ cZ cQ : ClassId) (gx : GX) (a_t a_t_text a_t_shop : Nat) (sz : Nat) (v_t_length : Int32) (v_t_kind : Int32) (v_t_start : Int32) (v_t_end : Int32) (f_t_text : (Nat → Int32)) (res : (Int32 × Int32 × Int32 × Int32)) (hM : M_X7_parseSemicolon v_t_end v_t_kind v_t_length v_t_start f_t_text = some res) : Met l yX7_parseSemicolon wsX7_parseSemicolon rm_X7_parseSemicolon (kP dC dI cI cJ cZ cQ gx [.ref a_t] sz [(a_t, .inr (7, [.ref a_t_shop, .ref a_t_text, .int v_t_length, .int v_t_kind, .int v_t_start, .int v_t_end])), (a_t_text, .inl (cI, 200, .inl f_t_text))]) (kQi dC dI cI cJ cZ cQ res.1 [(a_t, .inr (7, [.ref a_t_shop, .ref a_t_text, .int v_t_length, .int res.2.2.1, .int res.2.2.2, .int res.2.1])), (a_t_text, .inl (cI, 200, .inl f_t_text))] (va_A [(a_t, .inr (7, [.ref a_t_shop, .ref a_t_text, .int v_t_length, .int v_t_kind, .int v_t_start, .int v_t_end])), (a_t_text, .inl (cI, 200, .inl f_t_text))] sz)) 0 0 (va_A [(a_t, .inr (7, [.ref a_t_shop, .ref a_t_text, .int v_t_length, .int v_t_kind, .int v_t_start, .int v_t_end])), (a_t_text, .inl (cI, 200, .inl f_t_text))] sz) := by
  refine nw_entry (y := yX7_parseSemicolon) (ws := wsX7_parseSemicolon) (rm := rm_X7_parseSemicolon) (sz := sz) (wpre := [(a_t, .inr (7, [.ref a_t_shop, .ref a_t_text, .int v_t_length, .int v_t_kind, .int v_t_start, .int v_t_end])), (a_t_text, .inl (cI, 200, .inl f_t_text))]) (av := [.ref a_t]) (Qc := (kQi dC dI cI cJ cZ cQ res.1 [(a_t, .inr (7, [.ref a_t_shop, .ref a_t_text, .int v_t_length, .int res.2.2.1, .int res.2.2.2, .int res.2.1])), (a_t_text, .inl (cI, 200, .inl f_t_text))])) (cc := cX7_parseSemicolon) (own := RX7) [(0, .ref a_t)] (by decide) rfl rfl (Nat.le_of_ble_eq_true rfl) rfl ?_
  intro p e s m below meth c A ls H locs hfix hr hlocks hin0 hsz0 hP hK hD hA hS hN hG hl
  obtain ⟨hx, hb, hml, hown, hts⟩ := id hfix
  obtain ⟨Qq, hQq⟩ : ∃ Q9, Q9 = (kQi dC dI cI cJ cZ cQ res.1 [(a_t, .inr (7, [.ref a_t_shop, .ref a_t_text, .int v_t_length, .int res.2.2.1, .int res.2.2.2, .int res.2.1])), (a_t_text, .inl (cI, 200, .inl f_t_text))]) := ⟨_, rfl⟩
  rw [← hQq]
  have hX : res = res := rfl
  have hM : (Option.bind (M_X7_advance v_t_end v_t_kind v_t_length v_t_start f_t_text) (fun t1 => if t1.2.1 = (4 : Int32) then (some ((1 : Int32), t1.1, t1.2.1, t1.2.2)) else (some ((0 : Int32), t1.1, t1.2.1, t1.2.2)))) = some res := hM
  refine lv_aload_n hx hb dX7_parseSemicolon_0 rfl (lv_at hl 0 rfl) ?_
  obtain ⟨t1, hg1, hM⟩ := bd hM
  refine nw_v (wc := [(a_t, .inr (7, [.ref a_t_shop, .ref a_t_text, .int v_t_length, .int v_t_kind, .int v_t_start, .int v_t_end])), (a_t_text, .inl (cI, 200, .inl f_t_text))]) (wr := []) (w1 := [(a_t, .inr (7, [.ref a_t_shop, .ref a_t_text, .int v_t_length, .int t1.2.1, .int t1.2.2, .int t1.1])), (a_t_text, .inl (cI, 200, .inl f_t_text))]) (wf := [(a_t, .inr (7, [.ref a_t_shop, .ref a_t_text, .int v_t_length, .int t1.2.1, .int t1.2.2, .int t1.1])), (a_t_text, .inl (cI, 200, .inl f_t_text))]) [0, 1] [] [0, 1] hP hD hS hA rfl rfl rfl (by decide) rfl rfl (nw_runV (As := []) (rest := []) hfix (c_X7_advance l dC dI cI cJ cZ cQ gx a_t a_t_text a_t_shop H.size v_t_length v_t_kind v_t_start v_t_end f_t_text  t1 hg1) (cwV 0 hts gX7_parseSemicolon_X7_advance rfl rfl rfl (by decide +kernel) ⟨Nat.le_of_ble_eq_true rfl, Nat.le_of_ble_eq_true rfl⟩) hP hD hK hN hS hA hG [0, 1] rfl rfl 0 7 rfl rfl rfl hl.1 rfl rfl (Nat.le_of_ble_eq_true rfl) dX7_parseSemicolon_1 ⟨Nat.zero_le _, Nat.zero_le _⟩) (fun H locs hP hD hS => ?_)
  refine lv_aload_n hx hb dX7_parseSemicolon_4 rfl (lv_at hl 0 rfl) ?_
  refine va_get (D := (dC, dI)) (ci := 7) (v := .int t1.2.1) (C := RX7) (T := TX7) (N := 6) hx hb hts in_X7_parseSemicolon_X7 hown hK hP 0 rfl rfl 3 (by decide) (hts (.fieldLink RX7 22 "NoneWithin$ShopReader" "kind" "I") (by decide +kernel)) (fun _ h9 => h9) rfl dX7_parseSemicolon_5 ?_
  refine lv_iconst (v := (4 : Int32)) hx hb dX7_parseSemicolon_8 (by decide) ?_
  refine lv_icmp_ne (tgt := 16) hx hb dX7_parseSemicolon_9 (by decide) (fun c9 => ?_) (fun c9 => ?_)
  · have hM := ifn c9 hM
    refine lv_iconst (v := (0 : Int32)) hx hb dX7_parseSemicolon_16 (by decide) ?_
    have hE : res = (((0 : Int32), t1.1, t1.2.1, t1.2.2) : (Int32 × Int32 × Int32 × Int32)) := ((Option.some.inj hM).trans hX).symm
    rw [hQq, hE]
    exact nw_zret rfl rfl hx hb hr hlocks hK hP hD hS dX7_parseSemicolon_17
  · have hM := ifp c9 hM
    refine lv_iconst (v := (1 : Int32)) hx hb dX7_parseSemicolon_12 (by decide) ?_
    refine lv_goto (tgt := 17) hx hb dX7_parseSemicolon_13 (by decide) ?_
    have hE : res = (((1 : Int32), t1.1, t1.2.1, t1.2.2) : (Int32 × Int32 × Int32 × Int32)) := ((Option.some.inj hM).trans hX).symm
    rw [hQq, hE]
    exact nw_zret rfl rfl hx hb hr hlocks hK hP hD hS dX7_parseSemicolon_17
theorem in_X7_parseSizes_X6 : ∀ w ∈ wsX60, w ∈ wsX7_parseSizes := fun _ h => List.mem_cons_of_mem _ (List.mem_append_right _ h)
theorem in_X7_parseSizes_X7 : ∀ w ∈ wsX70, w ∈ wsX7_parseSizes := fun _ h => List.mem_cons_of_mem _ (List.mem_append_left _ (List.mem_append_right _ h))
abbrev rm_X7_parseSizes : Room := { frames := 4, cells := 0, slots := 0, locals := 82 }
set_option maxHeartbeats 4000000 in
set_option maxRecDepth 100000 in
theorem c_X7_parseSizes (l : Launch) (dC : Nat → ClassId) (dI : Nat → Nat → Nat) (cI cJ cZ cQ : ClassId) (gx : GX) (a_t a_t_shop a_t_text a_t_shop_sets a_t_shop_worths : Nat) (sz : Nat) (v_t_length : Int32) (v_t_kind : Int32) (v_t_start : Int32) (v_t_end : Int32) (v_t_shop_n : Int32) (v_t_shop_low : Int32) (v_t_shop_high : Int32) (v_t_shop_boxes : Int32) (f_t_text : (Nat → Int32)) (res : (Int32 × Int32 × Int32 × Int32 × Int32 × Int32)) (hM : M_X7_parseSizes v_t_end v_t_kind v_t_length v_t_start v_t_shop_high v_t_shop_low f_t_text = some res) : Met l yX7_parseSizes wsX7_parseSizes rm_X7_parseSizes (kP dC dI cI cJ cZ cQ gx [.ref a_t] sz [(a_t, .inr (7, [.ref a_t_shop, .ref a_t_text, .int v_t_length, .int v_t_kind, .int v_t_start, .int v_t_end])), (a_t_shop, .inr (6, [.int v_t_shop_n, .int v_t_shop_low, .int v_t_shop_high, .int v_t_shop_boxes, .ref a_t_shop_sets, .ref a_t_shop_worths])), (a_t_text, .inl (cI, 200, .inl f_t_text))]) (kQi dC dI cI cJ cZ cQ res.1 [(a_t, .inr (7, [.ref a_t_shop, .ref a_t_text, .int v_t_length, .int res.2.2.1, .int res.2.2.2.1, .int res.2.1])), (a_t_shop, .inr (6, [.int v_t_shop_n, .int res.2.2.2.2.2, .int res.2.2.2.2.1, .int v_t_shop_boxes, .ref a_t_shop_sets, .ref a_t_shop_worths])), (a_t_text, .inl (cI, 200, .inl f_t_text))] (va_A [(a_t, .inr (7, [.ref a_t_shop, .ref a_t_text, .int v_t_length, .int v_t_kind, .int v_t_start, .int v_t_end])), (a_t_shop, .inr (6, [.int v_t_shop_n, .int v_t_shop_low, .int v_t_shop_high, .int v_t_shop_boxes, .ref a_t_shop_sets, .ref a_t_shop_worths])), (a_t_text, .inl (cI, 200, .inl f_t_text))] sz)) 0 0 (va_A [(a_t, .inr (7, [.ref a_t_shop, .ref a_t_text, .int v_t_length, .int v_t_kind, .int v_t_start, .int v_t_end])), (a_t_shop, .inr (6, [.int v_t_shop_n, .int v_t_shop_low, .int v_t_shop_high, .int v_t_shop_boxes, .ref a_t_shop_sets, .ref a_t_shop_worths])), (a_t_text, .inl (cI, 200, .inl f_t_text))] sz) := by
  refine nw_entry (y := yX7_parseSizes) (ws := wsX7_parseSizes) (rm := rm_X7_parseSizes) (sz := sz) (wpre := [(a_t, .inr (7, [.ref a_t_shop, .ref a_t_text, .int v_t_length, .int v_t_kind, .int v_t_start, .int v_t_end])), (a_t_shop, .inr (6, [.int v_t_shop_n, .int v_t_shop_low, .int v_t_shop_high, .int v_t_shop_boxes, .ref a_t_shop_sets, .ref a_t_shop_worths])), (a_t_text, .inl (cI, 200, .inl f_t_text))]) (av := [.ref a_t]) (Qc := (kQi dC dI cI cJ cZ cQ res.1 [(a_t, .inr (7, [.ref a_t_shop, .ref a_t_text, .int v_t_length, .int res.2.2.1, .int res.2.2.2.1, .int res.2.1])), (a_t_shop, .inr (6, [.int v_t_shop_n, .int res.2.2.2.2.2, .int res.2.2.2.2.1, .int v_t_shop_boxes, .ref a_t_shop_sets, .ref a_t_shop_worths])), (a_t_text, .inl (cI, 200, .inl f_t_text))])) (cc := cX7_parseSizes) (own := RX7) [(0, .ref a_t)] (by decide) rfl rfl (Nat.le_of_ble_eq_true rfl) rfl ?_
  intro p e s m below meth c A ls H locs hfix hr hlocks hin0 hsz0 hP hK hD hA hS hN hG hl
  obtain ⟨hx, hb, hml, hown, hts⟩ := id hfix
  obtain ⟨Qq, hQq⟩ : ∃ Q9, Q9 = (kQi dC dI cI cJ cZ cQ res.1 [(a_t, .inr (7, [.ref a_t_shop, .ref a_t_text, .int v_t_length, .int res.2.2.1, .int res.2.2.2.1, .int res.2.1])), (a_t_shop, .inr (6, [.int v_t_shop_n, .int res.2.2.2.2.2, .int res.2.2.2.2.1, .int v_t_shop_boxes, .ref a_t_shop_sets, .ref a_t_shop_worths])), (a_t_text, .inl (cI, 200, .inl f_t_text))]) := ⟨_, rfl⟩
  rw [← hQq]
  have hX : res = res := rfl
  have hM : (Option.bind (M_X7_advance v_t_end v_t_kind v_t_length v_t_start f_t_text) (fun t1 => Option.bind (M_X7_isNumber t1.1 t1.2.1 t1.2.2 f_t_text (0 : Int32) (8 : Int32)) (fun t8 => if t8 = 0 then (some ((0 : Int32), t1.1, t1.2.1, t1.2.2, v_t_shop_high, v_t_shop_low)) else (Option.bind (M_X7_number t1.1 t1.2.2 f_t_text) (fun t21 => Option.bind (M_X7_advance t1.1 t1.2.1 v_t_length t1.2.2 f_t_text) (fun t28 => Option.bind (M_X7_isNumber t28.1 t28.2.1 t28.2.2 f_t_text t21 (8 : Int32)) (fun t41 => if t41 = 0 then (some ((0 : Int32), t28.1, t28.2.1, t28.2.2, v_t_shop_high, t21)) else (Option.bind (M_X7_number t28.1 t28.2.2 f_t_text) (fun t54 => Option.bind (M_X7_parseSemicolon t28.1 t28.2.1 v_t_length t28.2.2 f_t_text) (fun t61 => bz t61.1 (some (t61.1, t61.2.1, t61.2.2.1, t61.2.2.2, t54, t21)))))))))))) = some res := hM
  refine lv_aload_n hx hb dX7_parseSizes_0 rfl (lv_at hl 0 rfl) ?_
  obtain ⟨t1, hg1, hM⟩ := bd hM
  refine nw_v (wc := [(a_t, .inr (7, [.ref a_t_shop, .ref a_t_text, .int v_t_length, .int v_t_kind, .int v_t_start, .int v_t_end])), (a_t_text, .inl (cI, 200, .inl f_t_text))]) (wr := [(a_t_shop, .inr (6, [.int v_t_shop_n, .int v_t_shop_low, .int v_t_shop_high, .int v_t_shop_boxes, .ref a_t_shop_sets, .ref a_t_shop_worths]))]) (w1 := [(a_t, .inr (7, [.ref a_t_shop, .ref a_t_text, .int v_t_length, .int t1.2.1, .int t1.2.2, .int t1.1])), (a_t_text, .inl (cI, 200, .inl f_t_text))]) (wf := [(a_t, .inr (7, [.ref a_t_shop, .ref a_t_text, .int v_t_length, .int t1.2.1, .int t1.2.2, .int t1.1])), (a_t_shop, .inr (6, [.int v_t_shop_n, .int v_t_shop_low, .int v_t_shop_high, .int v_t_shop_boxes, .ref a_t_shop_sets, .ref a_t_shop_worths])), (a_t_text, .inl (cI, 200, .inl f_t_text))]) [0, 2] [1] [1, 0, 2] hP hD hS hA rfl rfl rfl (by decide) rfl rfl (nw_runV (As := []) (rest := []) hfix (c_X7_advance l dC dI cI cJ cZ cQ gx a_t a_t_text a_t_shop H.size v_t_length v_t_kind v_t_start v_t_end f_t_text  t1 hg1) (cwV 0 hts gX7_parseSizes_X7_advance rfl rfl rfl (by decide +kernel) ⟨Nat.le_of_ble_eq_true rfl, Nat.le_of_ble_eq_true rfl⟩) hP hD hK hN hS hA hG [0, 2] rfl rfl 0 7 rfl rfl rfl hl.1 rfl rfl (Nat.le_of_ble_eq_true rfl) dX7_parseSizes_1 ⟨Nat.zero_le _, Nat.zero_le _⟩) (fun H locs hP hD hS => ?_)
  refine lv_aload_n hx hb dX7_parseSizes_4 rfl (lv_at hl 0 rfl) ?_
  refine lv_iconst (v := (0 : Int32)) hx hb dX7_parseSizes_5 (by decide) ?_
  refine lv_bipush (v := (8 : Int32)) hx hb dX7_parseSizes_6 (by decide) ?_
  obtain ⟨t8, hg8, hM⟩ := bd hM
  refine nw_i (wc := [(a_t, .inr (7, [.ref a_t_shop, .ref a_t_text, .int v_t_length, .int t1.2.1, .int t1.2.2, .int t1.1])), (a_t_text, .inl (cI, 200, .inl f_t_text))]) (wr := [(a_t_shop, .inr (6, [.int v_t_shop_n, .int v_t_shop_low, .int v_t_shop_high, .int v_t_shop_boxes, .ref a_t_shop_sets, .ref a_t_shop_worths]))]) (w1 := [(a_t, .inr (7, [.ref a_t_shop, .ref a_t_text, .int v_t_length, .int t1.2.1, .int t1.2.2, .int t1.1])), (a_t_text, .inl (cI, 200, .inl f_t_text))]) (wf := [(a_t, .inr (7, [.ref a_t_shop, .ref a_t_text, .int v_t_length, .int t1.2.1, .int t1.2.2, .int t1.1])), (a_t_shop, .inr (6, [.int v_t_shop_n, .int v_t_shop_low, .int v_t_shop_high, .int v_t_shop_boxes, .ref a_t_shop_sets, .ref a_t_shop_worths])), (a_t_text, .inl (cI, 200, .inl f_t_text))]) [0, 2] [1] [1, 0, 2] hP hD hS hA rfl rfl rfl (by decide) rfl rfl (nw_runV (As := [.int (0 : Int32), .int (8 : Int32)]) (rest := []) hfix (c_X7_isNumber l dC dI cI cJ cZ cQ gx a_t a_t_text a_t_shop H.size v_t_length t1.2.1 t1.2.2 t1.1 f_t_text (0 : Int32) (8 : Int32) t8 hg8) (cwV 2 hts gX7_parseSizes_X7_isNumber rfl rfl rfl (by decide +kernel) ⟨Nat.le_of_ble_eq_true rfl, Nat.le_of_ble_eq_true rfl⟩) hP hD hK hN hS hA hG [0, 2] rfl rfl 0 7 rfl rfl rfl hl.1 rfl rfl (Nat.le_of_ble_eq_true rfl) dX7_parseSizes_8 ⟨Nat.zero_le _, Nat.zero_le _⟩) (fun H locs hP hD hS => ?_)
  refine lv_if_ne (tgt := 16) hx hb dX7_parseSizes_11 (by decide) (fun c11 => ?_) (fun c11 => ?_)
  · have hM := ifn c11 hM
    refine lv_aload_n hx hb dX7_parseSizes_16 rfl (lv_at hl 0 rfl) ?_
    refine va_get (D := (dC, dI)) (ci := 7) (v := .ref a_t_shop) (C := RX7) (T := TX7) (N := 6) hx hb hts in_X7_parseSizes_X7 hown hK hP 0 rfl rfl 0 (by decide) (hts (.fieldLink RX7 12 "NoneWithin$ShopReader" "shop" "LNoneWithin$Shop;") (by decide +kernel)) (fun _ h9 => h9) rfl dX7_parseSizes_17 ?_
    refine lv_aload_n hx hb dX7_parseSizes_20 rfl (lv_at hl 0 rfl) ?_
    obtain ⟨t21, hg21, hM⟩ := bd hM
    refine nw_i (wc := [(a_t, .inr (7, [.ref a_t_shop, .ref a_t_text, .int v_t_length, .int t1.2.1, .int t1.2.2, .int t1.1])), (a_t_text, .inl (cI, 200, .inl f_t_text))]) (wr := [(a_t_shop, .inr (6, [.int v_t_shop_n, .int v_t_shop_low, .int v_t_shop_high, .int v_t_shop_boxes, .ref a_t_shop_sets, .ref a_t_shop_worths]))]) (w1 := [(a_t, .inr (7, [.ref a_t_shop, .ref a_t_text, .int v_t_length, .int t1.2.1, .int t1.2.2, .int t1.1])), (a_t_text, .inl (cI, 200, .inl f_t_text))]) (wf := [(a_t, .inr (7, [.ref a_t_shop, .ref a_t_text, .int v_t_length, .int t1.2.1, .int t1.2.2, .int t1.1])), (a_t_shop, .inr (6, [.int v_t_shop_n, .int v_t_shop_low, .int v_t_shop_high, .int v_t_shop_boxes, .ref a_t_shop_sets, .ref a_t_shop_worths])), (a_t_text, .inl (cI, 200, .inl f_t_text))]) [0, 2] [1] [1, 0, 2] hP hD hS hA rfl rfl rfl (by decide) rfl rfl (nw_runV (As := []) (rest := [.ref a_t_shop]) hfix (c_X7_number l dC dI cI cJ cZ cQ gx a_t a_t_text a_t_shop H.size v_t_length t1.2.1 t1.2.2 t1.1 f_t_text  t21 hg21) (cwV 0 hts gX7_parseSizes_X7_number rfl rfl rfl (by decide +kernel) ⟨Nat.le_of_ble_eq_true rfl, Nat.le_of_ble_eq_true rfl⟩) hP hD hK hN hS hA hG [0, 2] rfl rfl 0 7 rfl rfl rfl hl.1 rfl rfl (Nat.le_of_ble_eq_true rfl) dX7_parseSizes_21 ⟨Nat.zero_le _, Nat.zero_le _⟩) (fun H locs hP hD hS => ?_)
    refine va_put (D := (dC, dI)) (ci := 6) (v := .int t21) (ty := .int) (C := RX6) (T := TX6) (N := 6) hx hb hts in_X7_parseSizes_X6 tyX6 tyX6_ok nmX6 hown hK hP hD hS 1 rfl rfl 1 (by decide) (hts (.fieldLink RX7 85 "NoneWithin$Shop" "low" "I") (by decide +kernel)) (fun _ h9 => h9) rfl (by decide +kernel) rfl rfl (Nat.le_of_ble_eq_true rfl) dX7_parseSizes_24 (fun H locs hP hD hS => ?_)
    have hP : va_P (dC, dI) classes [(a_t, .inr (7, [.ref a_t_shop, .ref a_t_text, .int v_t_length, .int t1.2.1, .int t1.2.2, .int t1.1])), (a_t_shop, .inr (6, [.int v_t_shop_n, .int t21, .int v_t_shop_high, .int v_t_shop_boxes, .ref a_t_shop_sets, .ref a_t_shop_worths])), (a_t_text, .inl (cI, 200, .inl f_t_text))] H := hP
    have hD : va_D A [(a_t, .inr (7, [.ref a_t_shop, .ref a_t_text, .int v_t_length, .int t1.2.1, .int t1.2.2, .int t1.1])), (a_t_shop, .inr (6, [.int v_t_shop_n, .int t21, .int v_t_shop_high, .int v_t_shop_boxes, .ref a_t_shop_sets, .ref a_t_shop_worths])), (a_t_text, .inl (cI, 200, .inl f_t_text))] := hD
    refine lv_aload_n hx hb dX7_parseSizes_27 rfl (lv_at hl 0 rfl) ?_
    obtain ⟨t28, hg28, hM⟩ := bd hM
    refine nw_v (wc := [(a_t, .inr (7, [.ref a_t_shop, .ref a_t_text, .int v_t_length, .int t1.2.1, .int t1.2.2, .int t1.1])), (a_t_text, .inl (cI, 200, .inl f_t_text))]) (wr := [(a_t_shop, .inr (6, [.int v_t_shop_n, .int t21, .int v_t_shop_high, .int v_t_shop_boxes, .ref a_t_shop_sets, .ref a_t_shop_worths]))]) (w1 := [(a_t, .inr (7, [.ref a_t_shop, .ref a_t_text, .int v_t_length, .int t28.2.1, .int t28.2.2, .int t28.1])), (a_t_text, .inl (cI, 200, .inl f_t_text))]) (wf := [(a_t, .inr (7, [.ref a_t_shop, .ref a_t_text, .int v_t_length, .int t28.2.1, .int t28.2.2, .int t28.1])), (a_t_shop, .inr (6, [.int v_t_shop_n, .int t21, .int v_t_shop_high, .int v_t_shop_boxes, .ref a_t_shop_sets, .ref a_t_shop_worths])), (a_t_text, .inl (cI, 200, .inl f_t_text))]) [0, 2] [1] [1, 0, 2] hP hD hS hA rfl rfl rfl (by decide) rfl rfl (nw_runV (As := []) (rest := []) hfix (c_X7_advance l dC dI cI cJ cZ cQ gx a_t a_t_text a_t_shop H.size v_t_length t1.2.1 t1.2.2 t1.1 f_t_text  t28 hg28) (cwV 0 hts gX7_parseSizes_X7_advance rfl rfl rfl (by decide +kernel) ⟨Nat.le_of_ble_eq_true rfl, Nat.le_of_ble_eq_true rfl⟩) hP hD hK hN hS hA hG [0, 2] rfl rfl 0 7 rfl rfl rfl hl.1 rfl rfl (Nat.le_of_ble_eq_true rfl) dX7_parseSizes_28 ⟨Nat.zero_le _, Nat.zero_le _⟩) (fun H locs hP hD hS => ?_)
    refine lv_aload_n hx hb dX7_parseSizes_31 rfl (lv_at hl 0 rfl) ?_
    refine lv_aload_n hx hb dX7_parseSizes_32 rfl (lv_at hl 0 rfl) ?_
    refine va_get (D := (dC, dI)) (ci := 7) (v := .ref a_t_shop) (C := RX7) (T := TX7) (N := 6) hx hb hts in_X7_parseSizes_X7 hown hK hP 0 rfl rfl 0 (by decide) (hts (.fieldLink RX7 12 "NoneWithin$ShopReader" "shop" "LNoneWithin$Shop;") (by decide +kernel)) (fun _ h9 => h9) rfl dX7_parseSizes_33 ?_
    refine va_get (D := (dC, dI)) (ci := 6) (v := .int t21) (C := RX6) (T := TX6) (N := 6) hx hb hts in_X7_parseSizes_X6 hown hK hP 1 rfl rfl 1 (by decide) (hts (.fieldLink RX7 85 "NoneWithin$Shop" "low" "I") (by decide +kernel)) (fun _ h9 => h9) rfl dX7_parseSizes_36 ?_
    refine lv_bipush (v := (8 : Int32)) hx hb dX7_parseSizes_39 (by decide) ?_
    obtain ⟨t41, hg41, hM⟩ := bd hM
    refine nw_i (wc := [(a_t, .inr (7, [.ref a_t_shop, .ref a_t_text, .int v_t_length, .int t28.2.1, .int t28.2.2, .int t28.1])), (a_t_text, .inl (cI, 200, .inl f_t_text))]) (wr := [(a_t_shop, .inr (6, [.int v_t_shop_n, .int t21, .int v_t_shop_high, .int v_t_shop_boxes, .ref a_t_shop_sets, .ref a_t_shop_worths]))]) (w1 := [(a_t, .inr (7, [.ref a_t_shop, .ref a_t_text, .int v_t_length, .int t28.2.1, .int t28.2.2, .int t28.1])), (a_t_text, .inl (cI, 200, .inl f_t_text))]) (wf := [(a_t, .inr (7, [.ref a_t_shop, .ref a_t_text, .int v_t_length, .int t28.2.1, .int t28.2.2, .int t28.1])), (a_t_shop, .inr (6, [.int v_t_shop_n, .int t21, .int v_t_shop_high, .int v_t_shop_boxes, .ref a_t_shop_sets, .ref a_t_shop_worths])), (a_t_text, .inl (cI, 200, .inl f_t_text))]) [0, 2] [1] [1, 0, 2] hP hD hS hA rfl rfl rfl (by decide) rfl rfl (nw_runV (As := [.int t21, .int (8 : Int32)]) (rest := []) hfix (c_X7_isNumber l dC dI cI cJ cZ cQ gx a_t a_t_text a_t_shop H.size v_t_length t28.2.1 t28.2.2 t28.1 f_t_text t21 (8 : Int32) t41 hg41) (cwV 2 hts gX7_parseSizes_X7_isNumber rfl rfl rfl (by decide +kernel) ⟨Nat.le_of_ble_eq_true rfl, Nat.le_of_ble_eq_true rfl⟩) hP hD hK hN hS hA hG [0, 2] rfl rfl 0 7 rfl rfl rfl hl.1 rfl rfl (Nat.le_of_ble_eq_true rfl) dX7_parseSizes_41 ⟨Nat.zero_le _, Nat.zero_le _⟩) (fun H locs hP hD hS => ?_)
    refine lv_if_ne (tgt := 49) hx hb dX7_parseSizes_44 (by decide) (fun c44 => ?_) (fun c44 => ?_)
    · have hM := ifn c44 hM
      refine lv_aload_n hx hb dX7_parseSizes_49 rfl (lv_at hl 0 rfl) ?_
      refine va_get (D := (dC, dI)) (ci := 7) (v := .ref a_t_shop) (C := RX7) (T := TX7) (N := 6) hx hb hts in_X7_parseSizes_X7 hown hK hP 0 rfl rfl 0 (by decide) (hts (.fieldLink RX7 12 "NoneWithin$ShopReader" "shop" "LNoneWithin$Shop;") (by decide +kernel)) (fun _ h9 => h9) rfl dX7_parseSizes_50 ?_
      refine lv_aload_n hx hb dX7_parseSizes_53 rfl (lv_at hl 0 rfl) ?_
      obtain ⟨t54, hg54, hM⟩ := bd hM
      refine nw_i (wc := [(a_t, .inr (7, [.ref a_t_shop, .ref a_t_text, .int v_t_length, .int t28.2.1, .int t28.2.2, .int t28.1])), (a_t_text, .inl (cI, 200, .inl f_t_text))]) (wr := [(a_t_shop, .inr (6, [.int v_t_shop_n, .int t21, .int v_t_shop_high, .int v_t_shop_boxes, .ref a_t_shop_sets, .ref a_t_shop_worths]))]) (w1 := [(a_t, .inr (7, [.ref a_t_shop, .ref a_t_text, .int v_t_length, .int t28.2.1, .int t28.2.2, .int t28.1])), (a_t_text, .inl (cI, 200, .inl f_t_text))]) (wf := [(a_t, .inr (7, [.ref a_t_shop, .ref a_t_text, .int v_t_length, .int t28.2.1, .int t28.2.2, .int t28.1])), (a_t_shop, .inr (6, [.int v_t_shop_n, .int t21, .int v_t_shop_high, .int v_t_shop_boxes, .ref a_t_shop_sets, .ref a_t_shop_worths])), (a_t_text, .inl (cI, 200, .inl f_t_text))]) [0, 2] [1] [1, 0, 2] hP hD hS hA rfl rfl rfl (by decide) rfl rfl (nw_runV (As := []) (rest := [.ref a_t_shop]) hfix (c_X7_number l dC dI cI cJ cZ cQ gx a_t a_t_text a_t_shop H.size v_t_length t28.2.1 t28.2.2 t28.1 f_t_text  t54 hg54) (cwV 0 hts gX7_parseSizes_X7_number rfl rfl rfl (by decide +kernel) ⟨Nat.le_of_ble_eq_true rfl, Nat.le_of_ble_eq_true rfl⟩) hP hD hK hN hS hA hG [0, 2] rfl rfl 0 7 rfl rfl rfl hl.1 rfl rfl (Nat.le_of_ble_eq_true rfl) dX7_parseSizes_54 ⟨Nat.zero_le _, Nat.zero_le _⟩) (fun H locs hP hD hS => ?_)
      refine va_put (D := (dC, dI)) (ci := 6) (v := .int t54) (ty := .int) (C := RX6) (T := TX6) (N := 6) hx hb hts in_X7_parseSizes_X6 tyX6 tyX6_ok nmX6 hown hK hP hD hS 1 rfl rfl 2 (by decide) (hts (.fieldLink RX7 88 "NoneWithin$Shop" "high" "I") (by decide +kernel)) (fun _ h9 => h9) rfl (by decide +kernel) rfl rfl (Nat.le_of_ble_eq_true rfl) dX7_parseSizes_57 (fun H locs hP hD hS => ?_)
      have hP : va_P (dC, dI) classes [(a_t, .inr (7, [.ref a_t_shop, .ref a_t_text, .int v_t_length, .int t28.2.1, .int t28.2.2, .int t28.1])), (a_t_shop, .inr (6, [.int v_t_shop_n, .int t21, .int t54, .int v_t_shop_boxes, .ref a_t_shop_sets, .ref a_t_shop_worths])), (a_t_text, .inl (cI, 200, .inl f_t_text))] H := hP
      have hD : va_D A [(a_t, .inr (7, [.ref a_t_shop, .ref a_t_text, .int v_t_length, .int t28.2.1, .int t28.2.2, .int t28.1])), (a_t_shop, .inr (6, [.int v_t_shop_n, .int t21, .int t54, .int v_t_shop_boxes, .ref a_t_shop_sets, .ref a_t_shop_worths])), (a_t_text, .inl (cI, 200, .inl f_t_text))] := hD
      refine lv_aload_n hx hb dX7_parseSizes_60 rfl (lv_at hl 0 rfl) ?_
      obtain ⟨t61, hg61, hM⟩ := bd hM
      refine nw_i (wc := [(a_t, .inr (7, [.ref a_t_shop, .ref a_t_text, .int v_t_length, .int t28.2.1, .int t28.2.2, .int t28.1])), (a_t_text, .inl (cI, 200, .inl f_t_text))]) (wr := [(a_t_shop, .inr (6, [.int v_t_shop_n, .int t21, .int t54, .int v_t_shop_boxes, .ref a_t_shop_sets, .ref a_t_shop_worths]))]) (w1 := [(a_t, .inr (7, [.ref a_t_shop, .ref a_t_text, .int v_t_length, .int t61.2.2.1, .int t61.2.2.2, .int t61.2.1])), (a_t_text, .inl (cI, 200, .inl f_t_text))]) (wf := [(a_t, .inr (7, [.ref a_t_shop, .ref a_t_text, .int v_t_length, .int t61.2.2.1, .int t61.2.2.2, .int t61.2.1])), (a_t_shop, .inr (6, [.int v_t_shop_n, .int t21, .int t54, .int v_t_shop_boxes, .ref a_t_shop_sets, .ref a_t_shop_worths])), (a_t_text, .inl (cI, 200, .inl f_t_text))]) [0, 2] [1] [1, 0, 2] hP hD hS hA rfl rfl rfl (by decide) rfl rfl (nw_runV (As := []) (rest := []) hfix (c_X7_parseSemicolon l dC dI cI cJ cZ cQ gx a_t a_t_text a_t_shop H.size v_t_length t28.2.1 t28.2.2 t28.1 f_t_text  t61 hg61) (cwV 0 hts gX7_parseSizes_X7_parseSemicolon rfl rfl rfl (by decide +kernel) ⟨Nat.le_of_ble_eq_true rfl, Nat.le_of_ble_eq_true rfl⟩) hP hD hK hN hS hA hG [0, 2] rfl rfl 0 7 rfl rfl rfl hl.1 rfl rfl (Nat.le_of_ble_eq_true rfl) dX7_parseSizes_61 ⟨Nat.zero_le _, Nat.zero_le _⟩) (fun H locs hP hD hS => ?_)
      obtain ⟨hbz, hM⟩ := bzp hM
      have hE : res = ((t61.1, t61.2.1, t61.2.2.1, t61.2.2.2, t54, t21) : (Int32 × Int32 × Int32 × Int32 × Int32 × Int32)) := ((Option.some.inj hM).trans hX).symm
      rw [hQq, hE]
      exact nw_zret hbz rfl hx hb hr hlocks hK hP hD hS dX7_parseSizes_64
    · have hM := ifp c44 hM
      refine lv_iconst (v := (0 : Int32)) hx hb dX7_parseSizes_47 (by decide) ?_
      have hE : res = (((0 : Int32), t28.1, t28.2.1, t28.2.2, v_t_shop_high, t21) : (Int32 × Int32 × Int32 × Int32 × Int32 × Int32)) := ((Option.some.inj hM).trans hX).symm
      rw [hQq, hE]
      exact nw_zret rfl rfl hx hb hr hlocks hK hP hD hS dX7_parseSizes_48
  · have hM := ifp c11 hM
    refine lv_iconst (v := (0 : Int32)) hx hb dX7_parseSizes_14 (by decide) ?_
    have hE : res = (((0 : Int32), t1.1, t1.2.1, t1.2.2, v_t_shop_high, v_t_shop_low) : (Int32 × Int32 × Int32 × Int32 × Int32 × Int32)) := ((Option.some.inj hM).trans hX).symm
    rw [hQq, hE]
    exact nw_zret rfl rfl hx hb hr hlocks hK hP hD hS dX7_parseSizes_15
theorem in_X7_letters_X6 : ∀ w ∈ wsX60, w ∈ wsX7_letters := fun _ h => List.mem_cons_of_mem _ (List.mem_append_right _ h)
theorem in_X7_letters_X7 : ∀ w ∈ wsX70, w ∈ wsX7_letters := fun _ h => List.mem_cons_of_mem _ (List.mem_append_left _ (List.mem_append_right _ h))
abbrev rm_X7_letters : Room := { frames := 0, cells := 0, slots := 0, locals := 0 }
set_option maxHeartbeats 4000000 in
set_option maxRecDepth 100000 in
theorem c_X7_letters (l : Launch) (dC : Nat → ClassId) (dI : Nat → Nat → Nat) (cI cJ cZ cQ : ClassId) (gx : GX) (a_t a_t_shop a_t_text a_t_shop_sets a_t_shop_worths : Nat) (sz : Nat) (v_t_length : Int32) (v_t_kind : Int32) (v_t_start : Int32) (v_t_end : Int32) (v_t_shop_n : Int32) (v_t_shop_low : Int32) (v_t_shop_high : Int32) (v_t_shop_boxes : Int32) (f_t_text : (Nat → Int32)) (res : Int32) (hM : M_X7_letters v_t_end v_t_kind v_t_start v_t_shop_n f_t_text = some res) : Met l yX7_letters wsX7_letters rm_X7_letters (kP dC dI cI cJ cZ cQ gx [.ref a_t] sz [(a_t, .inr (7, [.ref a_t_shop, .ref a_t_text, .int v_t_length, .int v_t_kind, .int v_t_start, .int v_t_end])), (a_t_shop, .inr (6, [.int v_t_shop_n, .int v_t_shop_low, .int v_t_shop_high, .int v_t_shop_boxes, .ref a_t_shop_sets, .ref a_t_shop_worths])), (a_t_text, .inl (cI, 200, .inl f_t_text))]) (kQi dC dI cI cJ cZ cQ res [(a_t, .inr (7, [.ref a_t_shop, .ref a_t_text, .int v_t_length, .int v_t_kind, .int v_t_start, .int v_t_end])), (a_t_shop, .inr (6, [.int v_t_shop_n, .int v_t_shop_low, .int v_t_shop_high, .int v_t_shop_boxes, .ref a_t_shop_sets, .ref a_t_shop_worths])), (a_t_text, .inl (cI, 200, .inl f_t_text))] (va_A [(a_t, .inr (7, [.ref a_t_shop, .ref a_t_text, .int v_t_length, .int v_t_kind, .int v_t_start, .int v_t_end])), (a_t_shop, .inr (6, [.int v_t_shop_n, .int v_t_shop_low, .int v_t_shop_high, .int v_t_shop_boxes, .ref a_t_shop_sets, .ref a_t_shop_worths])), (a_t_text, .inl (cI, 200, .inl f_t_text))] sz)) 0 0 (va_A [(a_t, .inr (7, [.ref a_t_shop, .ref a_t_text, .int v_t_length, .int v_t_kind, .int v_t_start, .int v_t_end])), (a_t_shop, .inr (6, [.int v_t_shop_n, .int v_t_shop_low, .int v_t_shop_high, .int v_t_shop_boxes, .ref a_t_shop_sets, .ref a_t_shop_worths])), (a_t_text, .inl (cI, 200, .inl f_t_text))] sz) := by
  refine nw_entry (y := yX7_letters) (ws := wsX7_letters) (rm := rm_X7_letters) (sz := sz) (wpre := [(a_t, .inr (7, [.ref a_t_shop, .ref a_t_text, .int v_t_length, .int v_t_kind, .int v_t_start, .int v_t_end])), (a_t_shop, .inr (6, [.int v_t_shop_n, .int v_t_shop_low, .int v_t_shop_high, .int v_t_shop_boxes, .ref a_t_shop_sets, .ref a_t_shop_worths])), (a_t_text, .inl (cI, 200, .inl f_t_text))]) (av := [.ref a_t]) (Qc := (kQi dC dI cI cJ cZ cQ res [(a_t, .inr (7, [.ref a_t_shop, .ref a_t_text, .int v_t_length, .int v_t_kind, .int v_t_start, .int v_t_end])), (a_t_shop, .inr (6, [.int v_t_shop_n, .int v_t_shop_low, .int v_t_shop_high, .int v_t_shop_boxes, .ref a_t_shop_sets, .ref a_t_shop_worths])), (a_t_text, .inl (cI, 200, .inl f_t_text))])) (cc := cX7_letters) (own := RX7) [(0, .ref a_t)] (by decide) rfl rfl (Nat.le_of_ble_eq_true rfl) rfl ?_
  intro p e s m below meth c A ls H locs hfix hr hlocks hin0 hsz0 hP hK hD hA hS hN hG hl
  obtain ⟨hx, hb, hml, hown, hts⟩ := id hfix
  obtain ⟨Qq, hQq⟩ : ∃ Q9, Q9 = (kQi dC dI cI cJ cZ cQ res [(a_t, .inr (7, [.ref a_t_shop, .ref a_t_text, .int v_t_length, .int v_t_kind, .int v_t_start, .int v_t_end])), (a_t_shop, .inr (6, [.int v_t_shop_n, .int v_t_shop_low, .int v_t_shop_high, .int v_t_shop_boxes, .ref a_t_shop_sets, .ref a_t_shop_worths])), (a_t_text, .inl (cI, 200, .inl f_t_text))]) := ⟨_, rfl⟩
  rw [← hQq]
  have hX : res = res := rfl
  have hM : (if v_t_kind = (3 : Int32) then (some (0 : Int32)) else (if v_t_kind = (1 : Int32) then (lpN (fun z => L_X7_letters_29 v_t_end v_t_kind v_t_start v_t_shop_n f_t_text z.1 z.2.1 z.2.2) fuelK ((0 : Int32), (-1 : Int32), v_t_start)) else (some (-1 : Int32)))) = some res := hM
  refine lv_aload_n hx hb dX7_letters_0 rfl (lv_at hl 0 rfl) ?_
  refine va_get (D := (dC, dI)) (ci := 7) (v := .int v_t_kind) (C := RX7) (T := TX7) (N := 6) hx hb hts in_X7_letters_X7 hown hK hP 0 rfl rfl 3 (by decide) (hts (.fieldLink RX7 22 "NoneWithin$ShopReader" "kind" "I") (by decide +kernel)) (fun _ h9 => h9) rfl dX7_letters_1 ?_
  refine lv_iconst (v := (3 : Int32)) hx hb dX7_letters_4 (by decide) ?_
  refine lv_icmp_ne (tgt := 10) hx hb dX7_letters_5 (by decide) (fun c5 => ?_) (fun c5 => ?_)
  · have hM := ifn c5 hM
    refine lv_aload_n hx hb dX7_letters_10 rfl (lv_at hl 0 rfl) ?_
    refine va_get (D := (dC, dI)) (ci := 7) (v := .int v_t_kind) (C := RX7) (T := TX7) (N := 6) hx hb hts in_X7_letters_X7 hown hK hP 0 rfl rfl 3 (by decide) (hts (.fieldLink RX7 22 "NoneWithin$ShopReader" "kind" "I") (by decide +kernel)) (fun _ h9 => h9) rfl dX7_letters_11 ?_
    refine lv_iconst (v := (1 : Int32)) hx hb dX7_letters_14 (by decide) ?_
    refine lv_icmp_eq (tgt := 20) hx hb dX7_letters_15 (by decide) (fun c15 => ?_) (fun c15 => ?_)
    · have hM := ifp c15 hM
      refine lv_iconst (v := (0 : Int32)) hx hb dX7_letters_20 (by decide) ?_
      refine lv_istore_n (lv' := [(1, .int (0 : Int32)), (0, .ref a_t)]) hx hb dX7_letters_21 rfl hl (by decide) rfl (fun ls hl => ?_)
      refine lv_iconst (v := (-1 : Int32)) hx hb dX7_letters_22 (by decide) ?_
      refine lv_istore_n (lv' := [(2, .int (-1 : Int32)), (1, .int (0 : Int32)), (0, .ref a_t)]) hx hb dX7_letters_23 rfl hl (by decide) rfl (fun ls hl => ?_)
      refine lv_aload_n hx hb dX7_letters_24 rfl (lv_at hl 2 rfl) ?_
      refine va_get (D := (dC, dI)) (ci := 7) (v := .int v_t_start) (C := RX7) (T := TX7) (N := 6) hx hb hts in_X7_letters_X7 hown hK hP 0 rfl rfl 4 (by decide) (hts (.fieldLink RX7 25 "NoneWithin$ShopReader" "start" "I") (by decide +kernel)) (fun _ h9 => h9) rfl dX7_letters_25 ?_
      refine lv_istore_n (lv' := [(3, .int v_t_start), (2, .int (-1 : Int32)), (1, .int (0 : Int32)), (0, .ref a_t)]) hx hb dX7_letters_28 rfl hl (by decide) rfl (fun ls hl => ?_)
      obtain ⟨W29, hW29⟩ : ∃ W9 : Int32 → Int32 → Int32 → Prop, W9 = fun (y29_1 : Int32) (y29_2 : Int32) (y29_3 : Int32) => ∀ (H : Heap) (locs : List Loc) (ls : Array Slot), va_P (dC, dI) classes [(a_t, .inr (7, [.ref a_t_shop, .ref a_t_text, .int v_t_length, .int v_t_kind, .int v_t_start, .int v_t_end])), (a_t_shop, .inr (6, [.int v_t_shop_n, .int v_t_shop_low, .int v_t_shop_high, .int v_t_shop_boxes, .ref a_t_shop_sets, .ref a_t_shop_worths])), (a_t_text, .inl (cI, 200, .inl f_t_text))] H → va_D A [(a_t, .inr (7, [.ref a_t_shop, .ref a_t_text, .int v_t_length, .int v_t_kind, .int v_t_start, .int v_t_end])), (a_t_shop, .inr (6, [.int v_t_shop_n, .int v_t_shop_low, .int v_t_shop_high, .int v_t_shop_boxes, .ref a_t_shop_sets, .ref a_t_shop_worths])), (a_t_text, .inl (cI, 200, .inl f_t_text))] → va_S A s.heap H locs → lv_has ls 5 [(0, .ref a_t), (1, .int y29_1), (2, .int y29_2), (3, .int y29_3)] → W p l e rm_X7_letters s m ([.ref a_t] : List Value).toArray below meth c H locs 0 0 (MQ below (Qq A) ([.ref a_t] : List Value).toArray s 0 0 A) (F0 m 29 ls []) := ⟨_, rfl⟩
      have hst : ∀ (z : (Int32 × Int32 × Int32)) (x : ((Int32 × Int32 × Int32) ⊕ Int32)), (fun z => L_X7_letters_29 v_t_end v_t_kind v_t_start v_t_shop_n f_t_text z.1 z.2.1 z.2.2) z = some x → ((∀ z', x = Sum.inl z' → W29 z'.1 z'.2.1 z'.2.2) ∧ (∀ t_29, x = Sum.inr t_29 → t_29 = res)) → W29 z.1 z.2.1 z.2.2 := by
        rintro ⟨y29_1, y29_2, y29_3⟩ x hM hX
        have hM : L_X7_letters_29 v_t_end v_t_kind v_t_start v_t_shop_n f_t_text y29_1 y29_2 y29_3 = some x := hM
        show W29 y29_1 y29_2 y29_3
        rw [hW29]
        intro H locs ls hP hD hS hl
        have hM : (if v_t_end ≤ y29_3 then (((some y29_1)).map Sum.inr) else (ix y29_3 200 (if ((f_t_text y29_3.toNatClampNeg) - (97 : Int32)) ≤ y29_2 then (((some (-1 : Int32))).map Sum.inr) else (if ((f_t_text y29_3.toNatClampNeg) - (97 : Int32)) < v_t_shop_n then (some (Sum.inl ((y29_1 ||| ((1 : Int32) <<< (((f_t_text y29_3.toNatClampNeg) - (97 : Int32)) &&& 31))), ((f_t_text y29_3.toNatClampNeg) - (97 : Int32)), (y29_3 + (1 : Int32))))) else (((some (-1 : Int32))).map Sum.inr))))) = some x := hM
        refine lv_iload_n hx hb dX7_letters_29 rfl (lv_at hl 3 rfl) ?_
        refine lv_aload_n hx hb dX7_letters_30 rfl (lv_at hl 0 rfl) ?_
        refine va_get (D := (dC, dI)) (ci := 7) (v := .int v_t_end) (C := RX7) (T := TX7) (N := 6) hx hb hts in_X7_letters_X7 hown hK hP 0 rfl rfl 5 (by decide) (hts (.fieldLink RX7 28 "NoneWithin$ShopReader" "end" "I") (by decide +kernel)) (fun _ h9 => h9) rfl dX7_letters_31 ?_
        refine lv_icmp_ge (tgt := 84) hx hb dX7_letters_34 (by decide) (fun c34 => ?_) (fun c34 => ?_)
        · have hM := ifp c34 hM
          obtain ⟨x, hMn, hxe⟩ := mpr hM
          have hX := hX.2 _ hxe
          have hM := hMn
          refine lv_iload_n hx hb dX7_letters_84 rfl (lv_at hl 1 rfl) ?_
          have hE : res = (y29_1 : Int32) := ((Option.some.inj hM).trans hX).symm
          rw [hQq, hE]
          exact nw_iret rfl hx hb hr hlocks hK hP hD hS dX7_letters_85
        · have hM := ifn c34 hM
          refine lv_aload_n hx hb dX7_letters_37 rfl (lv_at hl 0 rfl) ?_
          refine va_get (D := (dC, dI)) (ci := 7) (v := .ref a_t_text) (C := RX7) (T := TX7) (N := 6) hx hb hts in_X7_letters_X7 hown hK hP 0 rfl rfl 1 (by decide) (hts (.fieldLink RX7 31 "NoneWithin$ShopReader" "text" "[I") (by decide +kernel)) (fun _ h9 => h9) rfl dX7_letters_38 ?_
          refine lv_iload_n hx hb dX7_letters_41 rfl (lv_at hl 3 rfl) ?_
          obtain ⟨hin, hM⟩ := ixp hM
          refine va_iald hx hb hK hP 2 0 rfl rfl hin dX7_letters_42 ?_
          refine lv_bipush (v := (97 : Int32)) hx hb dX7_letters_43 (by decide) ?_
          refine lv_isub hx hb dX7_letters_45 ?_
          refine lv_istore (lv' := [(4, .int ((f_t_text y29_3.toNatClampNeg) - (97 : Int32))), (0, .ref a_t), (1, .int y29_1), (2, .int y29_2), (3, .int y29_3)]) hx hb dX7_letters_46 hl (by decide) rfl (fun ls hl => ?_)
          refine lv_iload hx hb dX7_letters_48 (lv_at hl 0 rfl) ?_
          refine lv_iload_n hx hb dX7_letters_50 rfl (lv_at hl 3 rfl) ?_
          refine lv_icmp_le (tgt := 66) hx hb dX7_letters_51 (by decide) (fun c51 => ?_) (fun c51 => ?_)
          · have hM := ifp c51 hM
            obtain ⟨x, hMn, hxe⟩ := mpr hM
            have hX := hX.2 _ hxe
            have hM := hMn
            refine lv_iconst (v := (-1 : Int32)) hx hb dX7_letters_66 (by decide) ?_
            have hE : res = ((-1 : Int32) : Int32) := ((Option.some.inj hM).trans hX).symm
            rw [hQq, hE]
            exact nw_iret rfl hx hb hr hlocks hK hP hD hS dX7_letters_67
          · have hM := ifn c51 hM
            refine lv_iload hx hb dX7_letters_54 (lv_at hl 0 rfl) ?_
            refine lv_aload_n hx hb dX7_letters_56 rfl (lv_at hl 1 rfl) ?_
            refine va_get (D := (dC, dI)) (ci := 7) (v := .ref a_t_shop) (C := RX7) (T := TX7) (N := 6) hx hb hts in_X7_letters_X7 hown hK hP 0 rfl rfl 0 (by decide) (hts (.fieldLink RX7 12 "NoneWithin$ShopReader" "shop" "LNoneWithin$Shop;") (by decide +kernel)) (fun _ h9 => h9) rfl dX7_letters_57 ?_
            refine va_get (D := (dC, dI)) (ci := 6) (v := .int v_t_shop_n) (C := RX6) (T := TX6) (N := 6) hx hb hts in_X7_letters_X6 hown hK hP 1 rfl rfl 0 (by decide) (hts (.fieldLink RX7 118 "NoneWithin$Shop" "n" "I") (by decide +kernel)) (fun _ h9 => h9) rfl dX7_letters_60 ?_
            refine lv_icmp_lt (tgt := 68) hx hb dX7_letters_63 (by decide) (fun c63 => ?_) (fun c63 => ?_)
            · have hM := ifp c63 hM
              refine lv_iload_n hx hb dX7_letters_68 rfl (lv_at hl 2 rfl) ?_
              refine lv_iconst (v := (1 : Int32)) hx hb dX7_letters_69 (by decide) ?_
              refine lv_iload hx hb dX7_letters_70 (lv_at hl 0 rfl) ?_
              refine lv_ishl hx hb dX7_letters_72 ?_
              refine lv_ior hx hb dX7_letters_73 ?_
              refine lv_istore_n (lv' := [(1, .int (y29_1 ||| ((1 : Int32) <<< (((f_t_text y29_3.toNatClampNeg) - (97 : Int32)) &&& 31)))), (4, .int ((f_t_text y29_3.toNatClampNeg) - (97 : Int32))), (0, .ref a_t), (2, .int y29_2), (3, .int y29_3)]) hx hb dX7_letters_74 rfl hl (by decide) rfl (fun ls hl => ?_)
              refine lv_iload hx hb dX7_letters_75 (lv_at hl 1 rfl) ?_
              refine lv_istore_n (lv' := [(2, .int ((f_t_text y29_3.toNatClampNeg) - (97 : Int32))), (1, .int (y29_1 ||| ((1 : Int32) <<< (((f_t_text y29_3.toNatClampNeg) - (97 : Int32)) &&& 31)))), (4, .int ((f_t_text y29_3.toNatClampNeg) - (97 : Int32))), (0, .ref a_t), (3, .int y29_3)]) hx hb dX7_letters_77 rfl hl (by decide) rfl (fun ls hl => ?_)
              refine lv_iinc (v := (y29_3 + (1 : Int32))) (lv' := [(3, .int (y29_3 + (1 : Int32))), (2, .int ((f_t_text y29_3.toNatClampNeg) - (97 : Int32))), (1, .int (y29_1 ||| ((1 : Int32) <<< (((f_t_text y29_3.toNatClampNeg) - (97 : Int32)) &&& 31)))), (4, .int ((f_t_text y29_3.toNatClampNeg) - (97 : Int32))), (0, .ref a_t)]) hx hb dX7_letters_78 hl (k := 4) rfl rfl (by decide) rfl (fun ls hl => ?_)
              refine lv_goto (tgt := 29) hx hb dX7_letters_81 (by decide) ?_
              have hw := hX.1 _ (Option.some.inj hM).symm
              rw [hW29] at hw
              exact hw H locs ls hP hD hS (lv_sub hl [4, 2, 1, 0] rfl)
            · have hM := ifn c63 hM
              obtain ⟨x, hMn, hxe⟩ := mpr hM
              have hX := hX.2 _ hxe
              have hM := hMn
              refine lv_iconst (v := (-1 : Int32)) hx hb dX7_letters_66 (by decide) ?_
              have hE : res = ((-1 : Int32) : Int32) := ((Option.some.inj hM).trans hX).symm
              rw [hQq, hE]
              exact nw_iret rfl hx hb hr hlocks hK hP hD hS dX7_letters_67
      have hw := lp_walk (Wp := fun z => W29 z.1 z.2.1 z.2.2) (X := fun t => t = res) hst _ _ _ hM hX
      rw [hW29] at hw
      exact hw H locs ls hP hD hS (lv_sub hl [3, 2, 1, 0] rfl)
    · have hM := ifn c15 hM
      refine lv_iconst (v := (-1 : Int32)) hx hb dX7_letters_18 (by decide) ?_
      have hE : res = ((-1 : Int32) : Int32) := ((Option.some.inj hM).trans hX).symm
      rw [hQq, hE]
      exact nw_iret rfl hx hb hr hlocks hK hP hD hS dX7_letters_19
  · have hM := ifp c5 hM
    refine lv_iconst (v := (0 : Int32)) hx hb dX7_letters_8 (by decide) ?_
    have hE : res = ((0 : Int32) : Int32) := ((Option.some.inj hM).trans hX).symm
    rw [hQq, hE]
    exact nw_iret rfl hx hb hr hlocks hK hP hD hS dX7_letters_9
theorem in_X7_parseBox_X7 : ∀ w ∈ wsX70, w ∈ wsX7_parseBox := fun _ h => List.mem_cons_of_mem _ (List.mem_append_left _ (List.mem_append_right _ h))
abbrev rm_X7_parseBox : Room := { frames := 4, cells := 0, slots := 0, locals := 82 }
set_option maxHeartbeats 4000000 in
set_option maxRecDepth 100000 in
theorem c_X7_parseBox (l : Launch) (dC : Nat → ClassId) (dI : Nat → Nat → Nat) (cI cJ cZ cQ : ClassId) (gx : GX) (a_t a_t_shop a_t_shop_sets a_t_shop_worths a_t_text : Nat) (sz : Nat) (v_t_length : Int32) (v_t_kind : Int32) (v_t_start : Int32) (v_t_end : Int32) (v_t_shop_n : Int32) (v_t_shop_low : Int32) (v_t_shop_high : Int32) (v_t_shop_boxes : Int32) (f_t_shop_sets : (Nat → Int32)) (f_t_shop_worths : (Nat → Int32)) (f_t_text : (Nat → Int32)) (res : (Int32 × Int32 × Int32 × Int32 × Int32 × (Nat → Int32) × (Nat → Int32))) (hM : M_X7_parseBox v_t_end v_t_kind v_t_length v_t_start v_t_shop_boxes v_t_shop_n f_t_shop_sets f_t_shop_worths f_t_text = some res) : Met l yX7_parseBox wsX7_parseBox rm_X7_parseBox (kP dC dI cI cJ cZ cQ gx [.ref a_t] sz [(a_t, .inr (7, [.ref a_t_shop, .ref a_t_text, .int v_t_length, .int v_t_kind, .int v_t_start, .int v_t_end])), (a_t_shop, .inr (6, [.int v_t_shop_n, .int v_t_shop_low, .int v_t_shop_high, .int v_t_shop_boxes, .ref a_t_shop_sets, .ref a_t_shop_worths])), (a_t_shop_sets, .inl (cI, 16, .inl f_t_shop_sets)), (a_t_shop_worths, .inl (cI, 16, .inl f_t_shop_worths)), (a_t_text, .inl (cI, 200, .inl f_t_text))]) (kQi dC dI cI cJ cZ cQ res.1 [(a_t, .inr (7, [.ref a_t_shop, .ref a_t_text, .int v_t_length, .int res.2.2.1, .int res.2.2.2.1, .int res.2.1])), (a_t_shop, .inr (6, [.int v_t_shop_n, .int v_t_shop_low, .int v_t_shop_high, .int res.2.2.2.2.1, .ref a_t_shop_sets, .ref a_t_shop_worths])), (a_t_shop_sets, .inl (cI, 16, .inl res.2.2.2.2.2.1)), (a_t_shop_worths, .inl (cI, 16, .inl res.2.2.2.2.2.2)), (a_t_text, .inl (cI, 200, .inl f_t_text))] (va_A [(a_t, .inr (7, [.ref a_t_shop, .ref a_t_text, .int v_t_length, .int v_t_kind, .int v_t_start, .int v_t_end])), (a_t_shop, .inr (6, [.int v_t_shop_n, .int v_t_shop_low, .int v_t_shop_high, .int v_t_shop_boxes, .ref a_t_shop_sets, .ref a_t_shop_worths])), (a_t_shop_sets, .inl (cI, 16, .inl f_t_shop_sets)), (a_t_shop_worths, .inl (cI, 16, .inl f_t_shop_worths)), (a_t_text, .inl (cI, 200, .inl f_t_text))] sz)) 0 0 (va_A [(a_t, .inr (7, [.ref a_t_shop, .ref a_t_text, .int v_t_length, .int v_t_kind, .int v_t_start, .int v_t_end])), (a_t_shop, .inr (6, [.int v_t_shop_n, .int v_t_shop_low, .int v_t_shop_high, .int v_t_shop_boxes, .ref a_t_shop_sets, .ref a_t_shop_worths])), (a_t_shop_sets, .inl (cI, 16, .inl f_t_shop_sets)), (a_t_shop_worths, .inl (cI, 16, .inl f_t_shop_worths)), (a_t_text, .inl (cI, 200, .inl f_t_text))] sz) := by
  refine nw_entry (y := yX7_parseBox) (ws := wsX7_parseBox) (rm := rm_X7_parseBox) (sz := sz) (wpre := [(a_t, .inr (7, [.ref a_t_shop, .ref a_t_text, .int v_t_length, .int v_t_kind, .int v_t_start, .int v_t_end])), (a_t_shop, .inr (6, [.int v_t_shop_n, .int v_t_shop_low, .int v_t_shop_high, .int v_t_shop_boxes, .ref a_t_shop_sets, .ref a_t_shop_worths])), (a_t_shop_sets, .inl (cI, 16, .inl f_t_shop_sets)), (a_t_shop_worths, .inl (cI, 16, .inl f_t_shop_worths)), (a_t_text, .inl (cI, 200, .inl f_t_text))]) (av := [.ref a_t]) (Qc := (kQi dC dI cI cJ cZ cQ res.1 [(a_t, .inr (7, [.ref a_t_shop, .ref a_t_text, .int v_t_length, .int res.2.2.1, .int res.2.2.2.1, .int res.2.1])), (a_t_shop, .inr (6, [.int v_t_shop_n, .int v_t_shop_low, .int v_t_shop_high, .int res.2.2.2.2.1, .ref a_t_shop_sets, .ref a_t_shop_worths])), (a_t_shop_sets, .inl (cI, 16, .inl res.2.2.2.2.2.1)), (a_t_shop_worths, .inl (cI, 16, .inl res.2.2.2.2.2.2)), (a_t_text, .inl (cI, 200, .inl f_t_text))])) (cc := cX7_parseBox) (own := RX7) [(0, .ref a_t)] (by decide) rfl rfl (Nat.le_of_ble_eq_true rfl) rfl ?_
  intro p e s m below meth c A ls H locs hfix hr hlocks hin0 hsz0 hP hK hD hA hS hN hG hl
  obtain ⟨hx, hb, hml, hown, hts⟩ := id hfix
  obtain ⟨Qq, hQq⟩ : ∃ Q9, Q9 = (kQi dC dI cI cJ cZ cQ res.1 [(a_t, .inr (7, [.ref a_t_shop, .ref a_t_text, .int v_t_length, .int res.2.2.1, .int res.2.2.2.1, .int res.2.1])), (a_t_shop, .inr (6, [.int v_t_shop_n, .int v_t_shop_low, .int v_t_shop_high, .int res.2.2.2.2.1, .ref a_t_shop_sets, .ref a_t_shop_worths])), (a_t_shop_sets, .inl (cI, 16, .inl res.2.2.2.2.2.1)), (a_t_shop_worths, .inl (cI, 16, .inl res.2.2.2.2.2.2)), (a_t_text, .inl (cI, 200, .inl f_t_text))]) := ⟨_, rfl⟩
  rw [← hQq]
  have hX : res = res := rfl
  have hM : (Option.bind (M_X7_advance v_t_end v_t_kind v_t_length v_t_start f_t_text) (fun t1 => Option.bind (M_X7_letters t1.1 t1.2.1 t1.2.2 v_t_shop_n f_t_text) (fun t5 => if t5 = (-1 : Int32) then (some ((0 : Int32), t1.1, t1.2.1, t1.2.2, v_t_shop_boxes, f_t_shop_sets, f_t_shop_worths)) else (Option.bind (M_X6_holds v_t_shop_boxes f_t_shop_sets t5) (fun t19 => if t19 = 0 then (Option.bind (M_X7_advance t1.1 t1.2.1 v_t_length t1.2.2 f_t_text) (fun t28 => Option.bind (M_X7_isNumber t28.1 t28.2.1 t28.2.2 f_t_text (0 : Int32) (99 : Int32)) (fun t35 => if t35 = 0 then (some ((0 : Int32), t28.1, t28.2.1, t28.2.2, v_t_shop_boxes, f_t_shop_sets, f_t_shop_worths)) else (Option.bind (M_X7_number t28.1 t28.2.2 f_t_text) (fun t49 => Option.bind (M_X6_put v_t_shop_boxes f_t_shop_sets f_t_shop_worths t5 t49) (fun t52 => Option.bind (M_X7_parseSemicolon t28.1 t28.2.1 v_t_length t28.2.2 f_t_text) (fun t56 => bz t56.1 (some (t56.1, t56.2.1, t56.2.2.1, t56.2.2.2, t52.1, t52.2.1, t52.2.2))))))))) else (some ((0 : Int32), t1.1, t1.2.1, t1.2.2, v_t_shop_boxes, f_t_shop_sets, f_t_shop_worths))))))) = some res := hM
  refine lv_aload_n hx hb dX7_parseBox_0 rfl (lv_at hl 0 rfl) ?_
  obtain ⟨t1, hg1, hM⟩ := bd hM
  refine nw_v (wc := [(a_t, .inr (7, [.ref a_t_shop, .ref a_t_text, .int v_t_length, .int v_t_kind, .int v_t_start, .int v_t_end])), (a_t_text, .inl (cI, 200, .inl f_t_text))]) (wr := [(a_t_shop, .inr (6, [.int v_t_shop_n, .int v_t_shop_low, .int v_t_shop_high, .int v_t_shop_boxes, .ref a_t_shop_sets, .ref a_t_shop_worths])), (a_t_shop_sets, .inl (cI, 16, .inl f_t_shop_sets)), (a_t_shop_worths, .inl (cI, 16, .inl f_t_shop_worths))]) (w1 := [(a_t, .inr (7, [.ref a_t_shop, .ref a_t_text, .int v_t_length, .int t1.2.1, .int t1.2.2, .int t1.1])), (a_t_text, .inl (cI, 200, .inl f_t_text))]) (wf := [(a_t, .inr (7, [.ref a_t_shop, .ref a_t_text, .int v_t_length, .int t1.2.1, .int t1.2.2, .int t1.1])), (a_t_shop, .inr (6, [.int v_t_shop_n, .int v_t_shop_low, .int v_t_shop_high, .int v_t_shop_boxes, .ref a_t_shop_sets, .ref a_t_shop_worths])), (a_t_shop_sets, .inl (cI, 16, .inl f_t_shop_sets)), (a_t_shop_worths, .inl (cI, 16, .inl f_t_shop_worths)), (a_t_text, .inl (cI, 200, .inl f_t_text))]) [0, 4] [1, 2, 3] [3, 0, 1, 2, 4] hP hD hS hA rfl rfl rfl (by decide) rfl rfl (nw_runV (As := []) (rest := []) hfix (c_X7_advance l dC dI cI cJ cZ cQ gx a_t a_t_text a_t_shop H.size v_t_length v_t_kind v_t_start v_t_end f_t_text  t1 hg1) (cwV 0 hts gX7_parseBox_X7_advance rfl rfl rfl (by decide +kernel) ⟨Nat.le_of_ble_eq_true rfl, Nat.le_of_ble_eq_true rfl⟩) hP hD hK hN hS hA hG [0, 4] rfl rfl 0 7 rfl rfl rfl hl.1 rfl rfl (Nat.le_of_ble_eq_true rfl) dX7_parseBox_1 ⟨Nat.zero_le _, Nat.zero_le _⟩) (fun H locs hP hD hS => ?_)
  refine lv_aload_n hx hb dX7_parseBox_4 rfl (lv_at hl 0 rfl) ?_
  obtain ⟨t5, hg5, hM⟩ := bd hM
  refine nw_i (wc := [(a_t, .inr (7, [.ref a_t_shop, .ref a_t_text, .int v_t_length, .int t1.2.1, .int t1.2.2, .int t1.1])), (a_t_shop, .inr (6, [.int v_t_shop_n, .int v_t_shop_low, .int v_t_shop_high, .int v_t_shop_boxes, .ref a_t_shop_sets, .ref a_t_shop_worths])), (a_t_text, .inl (cI, 200, .inl f_t_text))]) (wr := [(a_t_shop_sets, .inl (cI, 16, .inl f_t_shop_sets)), (a_t_shop_worths, .inl (cI, 16, .inl f_t_shop_worths))]) (w1 := [(a_t, .inr (7, [.ref a_t_shop, .ref a_t_text, .int v_t_length, .int t1.2.1, .int t1.2.2, .int t1.1])), (a_t_shop, .inr (6, [.int v_t_shop_n, .int v_t_shop_low, .int v_t_shop_high, .int v_t_shop_boxes, .ref a_t_shop_sets, .ref a_t_shop_worths])), (a_t_text, .inl (cI, 200, .inl f_t_text))]) (wf := [(a_t, .inr (7, [.ref a_t_shop, .ref a_t_text, .int v_t_length, .int t1.2.1, .int t1.2.2, .int t1.1])), (a_t_shop, .inr (6, [.int v_t_shop_n, .int v_t_shop_low, .int v_t_shop_high, .int v_t_shop_boxes, .ref a_t_shop_sets, .ref a_t_shop_worths])), (a_t_shop_sets, .inl (cI, 16, .inl f_t_shop_sets)), (a_t_shop_worths, .inl (cI, 16, .inl f_t_shop_worths)), (a_t_text, .inl (cI, 200, .inl f_t_text))]) [0, 1, 4] [2, 3] [2, 3, 0, 1, 4] hP hD hS hA rfl rfl rfl (by decide) rfl rfl (nw_runV (As := []) (rest := []) hfix (c_X7_letters l dC dI cI cJ cZ cQ gx a_t a_t_shop a_t_text a_t_shop_sets a_t_shop_worths H.size v_t_length t1.2.1 t1.2.2 t1.1 v_t_shop_n v_t_shop_low v_t_shop_high v_t_shop_boxes f_t_text  t5 hg5) (cwV 0 hts gX7_parseBox_X7_letters rfl rfl rfl (by decide +kernel) ⟨Nat.le_of_ble_eq_true rfl, Nat.le_of_ble_eq_true rfl⟩) hP hD hK hN hS hA hG [0, 1, 4] rfl rfl 0 7 rfl rfl rfl hl.1 rfl rfl (Nat.le_of_ble_eq_true rfl) dX7_parseBox_5 ⟨Nat.zero_le _, Nat.zero_le _⟩) (fun H locs hP hD hS => ?_)
  refine lv_istore_n (lv' := [(1, .int t5), (0, .ref a_t)]) hx hb dX7_parseBox_8 rfl hl (by decide) rfl (fun ls hl => ?_)
  refine lv_iload_n hx hb dX7_parseBox_9 rfl (lv_at hl 0 rfl) ?_
  refine lv_iconst (v := (-1 : Int32)) hx hb dX7_parseBox_10 (by decide) ?_
  refine lv_icmp_eq (tgt := 25) hx hb dX7_parseBox_11 (by decide) (fun c11 => ?_) (fun c11 => ?_)
  · have hM := ifp c11 hM
    refine lv_iconst (v := (0 : Int32)) hx hb dX7_parseBox_25 (by decide) ?_
    have hE : res = (((0 : Int32), t1.1, t1.2.1, t1.2.2, v_t_shop_boxes, f_t_shop_sets, f_t_shop_worths) : (Int32 × Int32 × Int32 × Int32 × Int32 × (Nat → Int32) × (Nat → Int32))) := ((Option.some.inj hM).trans hX).symm
    rw [hQq, hE]
    exact nw_zret rfl rfl hx hb hr hlocks hK hP hD hS dX7_parseBox_26
  · have hM := ifn c11 hM
    refine lv_aload_n hx hb dX7_parseBox_14 rfl (lv_at hl 1 rfl) ?_
    refine va_get (D := (dC, dI)) (ci := 7) (v := .ref a_t_shop) (C := RX7) (T := TX7) (N := 6) hx hb hts in_X7_parseBox_X7 hown hK hP 0 rfl rfl 0 (by decide) (hts (.fieldLink RX7 12 "NoneWithin$ShopReader" "shop" "LNoneWithin$Shop;") (by decide +kernel)) (fun _ h9 => h9) rfl dX7_parseBox_15 ?_
    refine lv_iload_n hx hb dX7_parseBox_18 rfl (lv_at hl 0 rfl) ?_
    obtain ⟨t19, hg19, hM⟩ := bd hM
    refine nw_i (wc := [(a_t_shop, .inr (6, [.int v_t_shop_n, .int v_t_shop_low, .int v_t_shop_high, .int v_t_shop_boxes, .ref a_t_shop_sets, .ref a_t_shop_worths])), (a_t_shop_sets, .inl (cI, 16, .inl f_t_shop_sets))]) (wr := [(a_t, .inr (7, [.ref a_t_shop, .ref a_t_text, .int v_t_length, .int t1.2.1, .int t1.2.2, .int t1.1])), (a_t_shop_worths, .inl (cI, 16, .inl f_t_shop_worths)), (a_t_text, .inl (cI, 200, .inl f_t_text))]) (w1 := [(a_t_shop, .inr (6, [.int v_t_shop_n, .int v_t_shop_low, .int v_t_shop_high, .int v_t_shop_boxes, .ref a_t_shop_sets, .ref a_t_shop_worths])), (a_t_shop_sets, .inl (cI, 16, .inl f_t_shop_sets))]) (wf := [(a_t, .inr (7, [.ref a_t_shop, .ref a_t_text, .int v_t_length, .int t1.2.1, .int t1.2.2, .int t1.1])), (a_t_shop, .inr (6, [.int v_t_shop_n, .int v_t_shop_low, .int v_t_shop_high, .int v_t_shop_boxes, .ref a_t_shop_sets, .ref a_t_shop_worths])), (a_t_shop_sets, .inl (cI, 16, .inl f_t_shop_sets)), (a_t_shop_worths, .inl (cI, 16, .inl f_t_shop_worths)), (a_t_text, .inl (cI, 200, .inl f_t_text))]) [1, 2] [0, 3, 4] [0, 3, 4, 1, 2] hP hD hS hA rfl rfl rfl (by decide) rfl rfl (nw_runV (As := [.int t5]) (rest := []) hfix (c_X6_holds l dC dI cI cJ cZ cQ gx a_t_shop a_t_shop_sets a_t_shop_worths H.size v_t_shop_n v_t_shop_low v_t_shop_high v_t_shop_boxes f_t_shop_sets t5 t19 hg19) (cwV 1 hts gX7_parseBox_X6_holds rfl rfl rfl (by decide +kernel) ⟨Nat.le_of_ble_eq_true rfl, Nat.le_of_ble_eq_true rfl⟩) hP hD hK hN hS hA hG [1, 2] rfl rfl 1 6 rfl rfl rfl hl.1 rfl rfl (Nat.le_of_ble_eq_true rfl) dX7_parseBox_19 ⟨Nat.zero_le _, Nat.zero_le _⟩) (fun H locs hP hD hS => ?_)
    refine lv_if_eq (tgt := 27) hx hb dX7_parseBox_22 (by decide) (fun c22 => ?_) (fun c22 => ?_)
    · have hM := ifp c22 hM
      refine lv_aload_n hx hb dX7_parseBox_27 rfl (lv_at hl 1 rfl) ?_
      obtain ⟨t28, hg28, hM⟩ := bd hM
      refine nw_v (wc := [(a_t, .inr (7, [.ref a_t_shop, .ref a_t_text, .int v_t_length, .int t1.2.1, .int t1.2.2, .int t1.1])), (a_t_text, .inl (cI, 200, .inl f_t_text))]) (wr := [(a_t_shop, .inr (6, [.int v_t_shop_n, .int v_t_shop_low, .int v_t_shop_high, .int v_t_shop_boxes, .ref a_t_shop_sets, .ref a_t_shop_worths])), (a_t_shop_sets, .inl (cI, 16, .inl f_t_shop_sets)), (a_t_shop_worths, .inl (cI, 16, .inl f_t_shop_worths))]) (w1 := [(a_t, .inr (7, [.ref a_t_shop, .ref a_t_text, .int v_t_length, .int t28.2.1, .int t28.2.2, .int t28.1])), (a_t_text, .inl (cI, 200, .inl f_t_text))]) (wf := [(a_t, .inr (7, [.ref a_t_shop, .ref a_t_text, .int v_t_length, .int t28.2.1, .int t28.2.2, .int t28.1])), (a_t_shop, .inr (6, [.int v_t_shop_n, .int v_t_shop_low, .int v_t_shop_high, .int v_t_shop_boxes, .ref a_t_shop_sets, .ref a_t_shop_worths])), (a_t_shop_sets, .inl (cI, 16, .inl f_t_shop_sets)), (a_t_shop_worths, .inl (cI, 16, .inl f_t_shop_worths)), (a_t_text, .inl (cI, 200, .inl f_t_text))]) [0, 4] [1, 2, 3] [3, 0, 1, 2, 4] hP hD hS hA rfl rfl rfl (by decide) rfl rfl (nw_runV (As := []) (rest := []) hfix (c_X7_advance l dC dI cI cJ cZ cQ gx a_t a_t_text a_t_shop H.size v_t_length t1.2.1 t1.2.2 t1.1 f_t_text  t28 hg28) (cwV 0 hts gX7_parseBox_X7_advance rfl rfl rfl (by decide +kernel) ⟨Nat.le_of_ble_eq_true rfl, Nat.le_of_ble_eq_true rfl⟩) hP hD hK hN hS hA hG [0, 4] rfl rfl 0 7 rfl rfl rfl hl.1 rfl rfl (Nat.le_of_ble_eq_true rfl) dX7_parseBox_28 ⟨Nat.zero_le _, Nat.zero_le _⟩) (fun H locs hP hD hS => ?_)
      refine lv_aload_n hx hb dX7_parseBox_31 rfl (lv_at hl 1 rfl) ?_
      refine lv_iconst (v := (0 : Int32)) hx hb dX7_parseBox_32 (by decide) ?_
      refine lv_bipush (v := (99 : Int32)) hx hb dX7_parseBox_33 (by decide) ?_
      obtain ⟨t35, hg35, hM⟩ := bd hM
      refine nw_i (wc := [(a_t, .inr (7, [.ref a_t_shop, .ref a_t_text, .int v_t_length, .int t28.2.1, .int t28.2.2, .int t28.1])), (a_t_text, .inl (cI, 200, .inl f_t_text))]) (wr := [(a_t_shop, .inr (6, [.int v_t_shop_n, .int v_t_shop_low, .int v_t_shop_high, .int v_t_shop_boxes, .ref a_t_shop_sets, .ref a_t_shop_worths])), (a_t_shop_sets, .inl (cI, 16, .inl f_t_shop_sets)), (a_t_shop_worths, .inl (cI, 16, .inl f_t_shop_worths))]) (w1 := [(a_t, .inr (7, [.ref a_t_shop, .ref a_t_text, .int v_t_length, .int t28.2.1, .int t28.2.2, .int t28.1])), (a_t_text, .inl (cI, 200, .inl f_t_text))]) (wf := [(a_t, .inr (7, [.ref a_t_shop, .ref a_t_text, .int v_t_length, .int t28.2.1, .int t28.2.2, .int t28.1])), (a_t_shop, .inr (6, [.int v_t_shop_n, .int v_t_shop_low, .int v_t_shop_high, .int v_t_shop_boxes, .ref a_t_shop_sets, .ref a_t_shop_worths])), (a_t_shop_sets, .inl (cI, 16, .inl f_t_shop_sets)), (a_t_shop_worths, .inl (cI, 16, .inl f_t_shop_worths)), (a_t_text, .inl (cI, 200, .inl f_t_text))]) [0, 4] [1, 2, 3] [3, 0, 1, 2, 4] hP hD hS hA rfl rfl rfl (by decide) rfl rfl (nw_runV (As := [.int (0 : Int32), .int (99 : Int32)]) (rest := []) hfix (c_X7_isNumber l dC dI cI cJ cZ cQ gx a_t a_t_text a_t_shop H.size v_t_length t28.2.1 t28.2.2 t28.1 f_t_text (0 : Int32) (99 : Int32) t35 hg35) (cwV 2 hts gX7_parseBox_X7_isNumber rfl rfl rfl (by decide +kernel) ⟨Nat.le_of_ble_eq_true rfl, Nat.le_of_ble_eq_true rfl⟩) hP hD hK hN hS hA hG [0, 4] rfl rfl 0 7 rfl rfl rfl hl.1 rfl rfl (Nat.le_of_ble_eq_true rfl) dX7_parseBox_35 ⟨Nat.zero_le _, Nat.zero_le _⟩) (fun H locs hP hD hS => ?_)
      refine lv_if_ne (tgt := 43) hx hb dX7_parseBox_38 (by decide) (fun c38 => ?_) (fun c38 => ?_)
      · have hM := ifn c38 hM
        refine lv_aload_n hx hb dX7_parseBox_43 rfl (lv_at hl 1 rfl) ?_
        refine va_get (D := (dC, dI)) (ci := 7) (v := .ref a_t_shop) (C := RX7) (T := TX7) (N := 6) hx hb hts in_X7_parseBox_X7 hown hK hP 0 rfl rfl 0 (by decide) (hts (.fieldLink RX7 12 "NoneWithin$ShopReader" "shop" "LNoneWithin$Shop;") (by decide +kernel)) (fun _ h9 => h9) rfl dX7_parseBox_44 ?_
        refine lv_iload_n hx hb dX7_parseBox_47 rfl (lv_at hl 0 rfl) ?_
        refine lv_aload_n hx hb dX7_parseBox_48 rfl (lv_at hl 1 rfl) ?_
        obtain ⟨t49, hg49, hM⟩ := bd hM
        refine nw_i (wc := [(a_t, .inr (7, [.ref a_t_shop, .ref a_t_text, .int v_t_length, .int t28.2.1, .int t28.2.2, .int t28.1])), (a_t_text, .inl (cI, 200, .inl f_t_text))]) (wr := [(a_t_shop, .inr (6, [.int v_t_shop_n, .int v_t_shop_low, .int v_t_shop_high, .int v_t_shop_boxes, .ref a_t_shop_sets, .ref a_t_shop_worths])), (a_t_shop_sets, .inl (cI, 16, .inl f_t_shop_sets)), (a_t_shop_worths, .inl (cI, 16, .inl f_t_shop_worths))]) (w1 := [(a_t, .inr (7, [.ref a_t_shop, .ref a_t_text, .int v_t_length, .int t28.2.1, .int t28.2.2, .int t28.1])), (a_t_text, .inl (cI, 200, .inl f_t_text))]) (wf := [(a_t, .inr (7, [.ref a_t_shop, .ref a_t_text, .int v_t_length, .int t28.2.1, .int t28.2.2, .int t28.1])), (a_t_shop, .inr (6, [.int v_t_shop_n, .int v_t_shop_low, .int v_t_shop_high, .int v_t_shop_boxes, .ref a_t_shop_sets, .ref a_t_shop_worths])), (a_t_shop_sets, .inl (cI, 16, .inl f_t_shop_sets)), (a_t_shop_worths, .inl (cI, 16, .inl f_t_shop_worths)), (a_t_text, .inl (cI, 200, .inl f_t_text))]) [0, 4] [1, 2, 3] [3, 0, 1, 2, 4] hP hD hS hA rfl rfl rfl (by decide) rfl rfl (nw_runV (As := []) (rest := [.int t5, .ref a_t_shop]) hfix (c_X7_number l dC dI cI cJ cZ cQ gx a_t a_t_text a_t_shop H.size v_t_length t28.2.1 t28.2.2 t28.1 f_t_text  t49 hg49) (cwV 0 hts gX7_parseBox_X7_number rfl rfl rfl (by decide +kernel) ⟨Nat.le_of_ble_eq_true rfl, Nat.le_of_ble_eq_true rfl⟩) hP hD hK hN hS hA hG [0, 4] rfl rfl 0 7 rfl rfl rfl hl.1 rfl rfl (Nat.le_of_ble_eq_true rfl) dX7_parseBox_49 ⟨Nat.zero_le _, Nat.zero_le _⟩) (fun H locs hP hD hS => ?_)
        obtain ⟨t52, hg52, hM⟩ := bd hM
        refine nw_v (wc := [(a_t_shop, .inr (6, [.int v_t_shop_n, .int v_t_shop_low, .int v_t_shop_high, .int v_t_shop_boxes, .ref a_t_shop_sets, .ref a_t_shop_worths])), (a_t_shop_sets, .inl (cI, 16, .inl f_t_shop_sets)), (a_t_shop_worths, .inl (cI, 16, .inl f_t_shop_worths))]) (wr := [(a_t, .inr (7, [.ref a_t_shop, .ref a_t_text, .int v_t_length, .int t28.2.1, .int t28.2.2, .int t28.1])), (a_t_text, .inl (cI, 200, .inl f_t_text))]) (w1 := [(a_t_shop, .inr (6, [.int v_t_shop_n, .int v_t_shop_low, .int v_t_shop_high, .int t52.1, .ref a_t_shop_sets, .ref a_t_shop_worths])), (a_t_shop_sets, .inl (cI, 16, .inl t52.2.1)), (a_t_shop_worths, .inl (cI, 16, .inl t52.2.2))]) (wf := [(a_t, .inr (7, [.ref a_t_shop, .ref a_t_text, .int v_t_length, .int t28.2.1, .int t28.2.2, .int t28.1])), (a_t_shop, .inr (6, [.int v_t_shop_n, .int v_t_shop_low, .int v_t_shop_high, .int t52.1, .ref a_t_shop_sets, .ref a_t_shop_worths])), (a_t_shop_sets, .inl (cI, 16, .inl t52.2.1)), (a_t_shop_worths, .inl (cI, 16, .inl t52.2.2)), (a_t_text, .inl (cI, 200, .inl f_t_text))]) [1, 2, 3] [0, 4] [0, 2, 3, 4, 1] hP hD hS hA rfl rfl rfl (by decide) rfl rfl (nw_runV (As := [.int t5, .int t49]) (rest := []) hfix (c_X6_put l dC dI cI cJ cZ cQ gx a_t_shop a_t_shop_sets a_t_shop_worths H.size v_t_shop_n v_t_shop_low v_t_shop_high v_t_shop_boxes f_t_shop_sets f_t_shop_worths t5 t49 t52 hg52) (cwV 2 hts gX7_parseBox_X6_put rfl rfl rfl (by decide +kernel) ⟨Nat.le_of_ble_eq_true rfl, Nat.le_of_ble_eq_true rfl⟩) hP hD hK hN hS hA hG [1, 2, 3] rfl rfl 1 6 rfl rfl rfl hl.1 rfl rfl (Nat.le_of_ble_eq_true rfl) dX7_parseBox_52 ⟨Nat.zero_le _, Nat.zero_le _⟩) (fun H locs hP hD hS => ?_)
        refine lv_aload_n hx hb dX7_parseBox_55 rfl (lv_at hl 1 rfl) ?_
        obtain ⟨t56, hg56, hM⟩ := bd hM
        refine nw_i (wc := [(a_t, .inr (7, [.ref a_t_shop, .ref a_t_text, .int v_t_length, .int t28.2.1, .int t28.2.2, .int t28.1])), (a_t_text, .inl (cI, 200, .inl f_t_text))]) (wr := [(a_t_shop, .inr (6, [.int v_t_shop_n, .int v_t_shop_low, .int v_t_shop_high, .int t52.1, .ref a_t_shop_sets, .ref a_t_shop_worths])), (a_t_shop_sets, .inl (cI, 16, .inl t52.2.1)), (a_t_shop_worths, .inl (cI, 16, .inl t52.2.2))]) (w1 := [(a_t, .inr (7, [.ref a_t_shop, .ref a_t_text, .int v_t_length, .int t56.2.2.1, .int t56.2.2.2, .int t56.2.1])), (a_t_text, .inl (cI, 200, .inl f_t_text))]) (wf := [(a_t, .inr (7, [.ref a_t_shop, .ref a_t_text, .int v_t_length, .int t56.2.2.1, .int t56.2.2.2, .int t56.2.1])), (a_t_shop, .inr (6, [.int v_t_shop_n, .int v_t_shop_low, .int v_t_shop_high, .int t52.1, .ref a_t_shop_sets, .ref a_t_shop_worths])), (a_t_shop_sets, .inl (cI, 16, .inl t52.2.1)), (a_t_shop_worths, .inl (cI, 16, .inl t52.2.2)), (a_t_text, .inl (cI, 200, .inl f_t_text))]) [0, 4] [1, 2, 3] [3, 0, 1, 2, 4] hP hD hS hA rfl rfl rfl (by decide) rfl rfl (nw_runV (As := []) (rest := []) hfix (c_X7_parseSemicolon l dC dI cI cJ cZ cQ gx a_t a_t_text a_t_shop H.size v_t_length t28.2.1 t28.2.2 t28.1 f_t_text  t56 hg56) (cwV 0 hts gX7_parseBox_X7_parseSemicolon rfl rfl rfl (by decide +kernel) ⟨Nat.le_of_ble_eq_true rfl, Nat.le_of_ble_eq_true rfl⟩) hP hD hK hN hS hA hG [0, 4] rfl rfl 0 7 rfl rfl rfl hl.1 rfl rfl (Nat.le_of_ble_eq_true rfl) dX7_parseBox_56 ⟨Nat.zero_le _, Nat.zero_le _⟩) (fun H locs hP hD hS => ?_)
        obtain ⟨hbz, hM⟩ := bzp hM
        have hE : res = ((t56.1, t56.2.1, t56.2.2.1, t56.2.2.2, t52.1, t52.2.1, t52.2.2) : (Int32 × Int32 × Int32 × Int32 × Int32 × (Nat → Int32) × (Nat → Int32))) := ((Option.some.inj hM).trans hX).symm
        rw [hQq, hE]
        exact nw_zret hbz rfl hx hb hr hlocks hK hP hD hS dX7_parseBox_59
      · have hM := ifp c38 hM
        refine lv_iconst (v := (0 : Int32)) hx hb dX7_parseBox_41 (by decide) ?_
        have hE : res = (((0 : Int32), t28.1, t28.2.1, t28.2.2, v_t_shop_boxes, f_t_shop_sets, f_t_shop_worths) : (Int32 × Int32 × Int32 × Int32 × Int32 × (Nat → Int32) × (Nat → Int32))) := ((Option.some.inj hM).trans hX).symm
        rw [hQq, hE]
        exact nw_zret rfl rfl hx hb hr hlocks hK hP hD hS dX7_parseBox_42
    · have hM := ifn c22 hM
      refine lv_iconst (v := (0 : Int32)) hx hb dX7_parseBox_25 (by decide) ?_
      have hE : res = (((0 : Int32), t1.1, t1.2.1, t1.2.2, v_t_shop_boxes, f_t_shop_sets, f_t_shop_worths) : (Int32 × Int32 × Int32 × Int32 × Int32 × (Nat → Int32) × (Nat → Int32))) := ((Option.some.inj hM).trans hX).symm
      rw [hQq, hE]
      exact nw_zret rfl rfl hx hb hr hlocks hK hP hD hS dX7_parseBox_26
