theorem in_X8_longestRow_X6 : ∀ w ∈ wsX60, w ∈ wsX8_longestRow := fun _ h => List.mem_cons_of_mem _ (List.mem_append_right _ h)
theorem in_X8_longestRow_X8 : ∀ w ∈ wsX80, w ∈ wsX8_longestRow := fun _ h => List.mem_cons_of_mem _ (List.mem_append_left _ (List.mem_append_right _ h))
abbrev rm_X8_longestRow : Room := { frames := 2, cells := 0, slots := 0, locals := 44 }
set_option maxHeartbeats 4000000 in
set_option maxRecDepth 100000 in
theorem c_X8_longestRow (l : Launch) (dC : Nat → ClassId) (dI : Nat → Nat → Nat) (cI cJ cZ cQ : ClassId) (gx : GX) (a_t a_t_lengths a_t_shop a_t_shop_sets a_t_alike a_t_images a_t_text a_t_fraction a_t_reader a_t_table a_t_keeper a_t_lister a_t_player a_t_openers a_t_ways a_t_shop_worths : Nat) (sz : Nat) (v_t_bytes : Int32) (v_t_badCalls : Int32) (v_t_noCalls : Int32) (v_t_fullCalls : Int32) (f_t_lengths : (Nat → Int32)) (v_t_shop_n : Int32) (v_t_shop_low : Int32) (v_t_shop_high : Int32) (v_t_shop_boxes : Int32) (f_t_shop_sets : (Nat → Int32)) (res : (Int32 × (Nat → Int32))) (hM : M_X8_longestRow f_t_lengths v_t_shop_boxes f_t_shop_sets = some res) : Met l yX8_longestRow wsX8_longestRow rm_X8_longestRow (kP dC dI cI cJ cZ cQ gx [.ref a_t] sz [(a_t, .inr (8, [.ref a_t_shop, .ref a_t_alike, .ref a_t_images, .ref a_t_text, .ref a_t_fraction, .ref a_t_reader, .ref a_t_table, .ref a_t_keeper, .ref a_t_lister, .ref a_t_player, .ref a_t_openers, .ref a_t_lengths, .ref a_t_ways, .int v_t_bytes, .int v_t_badCalls, .int v_t_noCalls, .int v_t_fullCalls])), (a_t_lengths, .inl (cI, 16, .inl f_t_lengths)), (a_t_shop, .inr (6, [.int v_t_shop_n, .int v_t_shop_low, .int v_t_shop_high, .int v_t_shop_boxes, .ref a_t_shop_sets, .ref a_t_shop_worths])), (a_t_shop_sets, .inl (cI, 16, .inl f_t_shop_sets))]) (kQi dC dI cI cJ cZ cQ res.1 [(a_t, .inr (8, [.ref a_t_shop, .ref a_t_alike, .ref a_t_images, .ref a_t_text, .ref a_t_fraction, .ref a_t_reader, .ref a_t_table, .ref a_t_keeper, .ref a_t_lister, .ref a_t_player, .ref a_t_openers, .ref a_t_lengths, .ref a_t_ways, .int v_t_bytes, .int v_t_badCalls, .int v_t_noCalls, .int v_t_fullCalls])), (a_t_lengths, .inl (cI, 16, .inl res.2)), (a_t_shop, .inr (6, [.int v_t_shop_n, .int v_t_shop_low, .int v_t_shop_high, .int v_t_shop_boxes, .ref a_t_shop_sets, .ref a_t_shop_worths])), (a_t_shop_sets, .inl (cI, 16, .inl f_t_shop_sets))] (va_A [(a_t, .inr (8, [.ref a_t_shop, .ref a_t_alike, .ref a_t_images, .ref a_t_text, .ref a_t_fraction, .ref a_t_reader, .ref a_t_table, .ref a_t_keeper, .ref a_t_lister, .ref a_t_player, .ref a_t_openers, .ref a_t_lengths, .ref a_t_ways, .int v_t_bytes, .int v_t_badCalls, .int v_t_noCalls, .int v_t_fullCalls])), (a_t_lengths, .inl (cI, 16, .inl f_t_lengths)), (a_t_shop, .inr (6, [.int v_t_shop_n, .int v_t_shop_low, .int v_t_shop_high, .int v_t_shop_boxes, .ref a_t_shop_sets, .ref a_t_shop_worths])), (a_t_shop_sets, .inl (cI, 16, .inl f_t_shop_sets))] sz)) 0 0 (va_A [(a_t, .inr (8, [.ref a_t_shop, .ref a_t_alike, .ref a_t_images, .ref a_t_text, .ref a_t_fraction, .ref a_t_reader, .ref a_t_table, .ref a_t_keeper, .ref a_t_lister, .ref a_t_player, .ref a_t_openers, .ref a_t_lengths, .ref a_t_ways, .int v_t_bytes, .int v_t_badCalls, .int v_t_noCalls, .int v_t_fullCalls])), (a_t_lengths, .inl (cI, 16, .inl f_t_lengths)), (a_t_shop, .inr (6, [.int v_t_shop_n, .int v_t_shop_low, .int v_t_shop_high, .int v_t_shop_boxes, .ref a_t_shop_sets, .ref a_t_shop_worths])), (a_t_shop_sets, .inl (cI, 16, .inl f_t_shop_sets))] sz) := by
  refine nw_entry (y := yX8_longestRow) (ws := wsX8_longestRow) (rm := rm_X8_longestRow) (sz := sz) (wpre := [(a_t, .inr (8, [.ref a_t_shop, .ref a_t_alike, .ref a_t_images, .ref a_t_text, .ref a_t_fraction, .ref a_t_reader, .ref a_t_table, .ref a_t_keeper, .ref a_t_lister, .ref a_t_player, .ref a_t_openers, .ref a_t_lengths, .ref a_t_ways, .int v_t_bytes, .int v_t_badCalls, .int v_t_noCalls, .int v_t_fullCalls])), (a_t_lengths, .inl (cI, 16, .inl f_t_lengths)), (a_t_shop, .inr (6, [.int v_t_shop_n, .int v_t_shop_low, .int v_t_shop_high, .int v_t_shop_boxes, .ref a_t_shop_sets, .ref a_t_shop_worths])), (a_t_shop_sets, .inl (cI, 16, .inl f_t_shop_sets))]) (av := [.ref a_t]) (Qc := (kQi dC dI cI cJ cZ cQ res.1 [(a_t, .inr (8, [.ref a_t_shop, .ref a_t_alike, .ref a_t_images, .ref a_t_text, .ref a_t_fraction, .ref a_t_reader, .ref a_t_table, .ref a_t_keeper, .ref a_t_lister, .ref a_t_player, .ref a_t_openers, .ref a_t_lengths, .ref a_t_ways, .int v_t_bytes, .int v_t_badCalls, .int v_t_noCalls, .int v_t_fullCalls])), (a_t_lengths, .inl (cI, 16, .inl res.2)), (a_t_shop, .inr (6, [.int v_t_shop_n, .int v_t_shop_low, .int v_t_shop_high, .int v_t_shop_boxes, .ref a_t_shop_sets, .ref a_t_shop_worths])), (a_t_shop_sets, .inl (cI, 16, .inl f_t_shop_sets))])) (cc := cX8_longestRow) (own := RX8) [(0, .ref a_t)] (by decide) rfl rfl (Nat.le_of_ble_eq_true rfl) rfl ?_
  intro p e s m below meth c A ls H locs hfix hr hlocks hin0 hsz0 hP hK hD hA hS hN hG hl
  obtain ⟨hx, hb, hml, hown, hts⟩ := id hfix
  obtain ⟨Qq, hQq⟩ : ∃ Q9, Q9 = (kQi dC dI cI cJ cZ cQ res.1 [(a_t, .inr (8, [.ref a_t_shop, .ref a_t_alike, .ref a_t_images, .ref a_t_text, .ref a_t_fraction, .ref a_t_reader, .ref a_t_table, .ref a_t_keeper, .ref a_t_lister, .ref a_t_player, .ref a_t_openers, .ref a_t_lengths, .ref a_t_ways, .int v_t_bytes, .int v_t_badCalls, .int v_t_noCalls, .int v_t_fullCalls])), (a_t_lengths, .inl (cI, 16, .inl res.2)), (a_t_shop, .inr (6, [.int v_t_shop_n, .int v_t_shop_low, .int v_t_shop_high, .int v_t_shop_boxes, .ref a_t_shop_sets, .ref a_t_shop_worths])), (a_t_shop_sets, .inl (cI, 16, .inl f_t_shop_sets))]) := ⟨_, rfl⟩
  rw [← hQq]
  have hX : res = res := rfl
  have hM : (lpN (fun z => L_X8_longestRow_4 v_t_shop_boxes f_t_shop_sets z.1 z.2.1 z.2.2) fuelK ((0 : Int32), (0 : Int32), f_t_lengths)) = some res := hM
  refine lv_iconst (v := (0 : Int32)) hx hb dX8_longestRow_0 (by decide) ?_
  refine lv_istore_n (lv' := [(1, .int (0 : Int32)), (0, .ref a_t)]) hx hb dX8_longestRow_1 rfl hl (by decide) rfl (fun ls hl => ?_)
  refine lv_iconst (v := (0 : Int32)) hx hb dX8_longestRow_2 (by decide) ?_
  refine lv_istore_n (lv' := [(2, .int (0 : Int32)), (1, .int (0 : Int32)), (0, .ref a_t)]) hx hb dX8_longestRow_3 rfl hl (by decide) rfl (fun ls hl => ?_)
  obtain ⟨W4, hW4⟩ : ∃ W9 : Int32 → Int32 → (Nat → Int32) → Prop, W9 = fun (y4_1 : Int32) (y4_2 : Int32) (y4_f_t_lengths : (Nat → Int32)) => ∀ (H : Heap) (locs : List Loc) (ls : Array Slot), va_P (dC, dI) classes [(a_t, .inr (8, [.ref a_t_shop, .ref a_t_alike, .ref a_t_images, .ref a_t_text, .ref a_t_fraction, .ref a_t_reader, .ref a_t_table, .ref a_t_keeper, .ref a_t_lister, .ref a_t_player, .ref a_t_openers, .ref a_t_lengths, .ref a_t_ways, .int v_t_bytes, .int v_t_badCalls, .int v_t_noCalls, .int v_t_fullCalls])), (a_t_lengths, .inl (cI, 16, .inl y4_f_t_lengths)), (a_t_shop, .inr (6, [.int v_t_shop_n, .int v_t_shop_low, .int v_t_shop_high, .int v_t_shop_boxes, .ref a_t_shop_sets, .ref a_t_shop_worths])), (a_t_shop_sets, .inl (cI, 16, .inl f_t_shop_sets))] H → va_D A [(a_t, .inr (8, [.ref a_t_shop, .ref a_t_alike, .ref a_t_images, .ref a_t_text, .ref a_t_fraction, .ref a_t_reader, .ref a_t_table, .ref a_t_keeper, .ref a_t_lister, .ref a_t_player, .ref a_t_openers, .ref a_t_lengths, .ref a_t_ways, .int v_t_bytes, .int v_t_badCalls, .int v_t_noCalls, .int v_t_fullCalls])), (a_t_lengths, .inl (cI, 16, .inl y4_f_t_lengths)), (a_t_shop, .inr (6, [.int v_t_shop_n, .int v_t_shop_low, .int v_t_shop_high, .int v_t_shop_boxes, .ref a_t_shop_sets, .ref a_t_shop_worths])), (a_t_shop_sets, .inl (cI, 16, .inl f_t_shop_sets))] → va_S A s.heap H locs → lv_has ls 4 [(0, .ref a_t), (1, .int y4_1), (2, .int y4_2)] → W p l e rm_X8_longestRow s m ([.ref a_t] : List Value).toArray below meth c H locs 0 0 (MQ below (Qq A) ([.ref a_t] : List Value).toArray s 0 0 A) (F0 m 4 ls []) := ⟨_, rfl⟩
  have hst : ∀ (z : (Int32 × Int32 × (Nat → Int32))) (x : ((Int32 × Int32 × (Nat → Int32)) ⊕ (Int32 × (Nat → Int32)))), (fun z => L_X8_longestRow_4 v_t_shop_boxes f_t_shop_sets z.1 z.2.1 z.2.2) z = some x → ((∀ z', x = Sum.inl z' → W4 z'.1 z'.2.1 z'.2.2) ∧ (∀ t_4, x = Sum.inr t_4 → t_4 = res)) → W4 z.1 z.2.1 z.2.2 := by
    rintro ⟨y4_1, y4_2, y4_f_t_lengths⟩ x hM hX
    have hM : L_X8_longestRow_4 v_t_shop_boxes f_t_shop_sets y4_1 y4_2 y4_f_t_lengths = some x := hM
    show W4 y4_1 y4_2 y4_f_t_lengths
    rw [hW4]
    intro H locs ls hP hD hS hl
    have hM : (if (8 : Int32) < y4_2 then (((some (y4_1, y4_f_t_lengths))).map Sum.inr) else (lpN (fun z => L_X8_longestRow_12 y4_2 v_t_shop_boxes f_t_shop_sets z.1 z.2.1 z.2.2) fuelK (y4_1, (0 : Int32), y4_f_t_lengths))) = some x := hM
    refine lv_iload_n hx hb dX8_longestRow_4 rfl (lv_at hl 2 rfl) ?_
    refine lv_bipush (v := (8 : Int32)) hx hb dX8_longestRow_5 (by decide) ?_
    refine lv_icmp_gt (tgt := 75) hx hb dX8_longestRow_7 (by decide) (fun c7 => ?_) (fun c7 => ?_)
    · have hM := ifp c7 hM
      obtain ⟨x, hMn, hxe⟩ := mpr hM
      have hX := hX.2 _ hxe
      have hM := hMn
      refine lv_iload_n hx hb dX8_longestRow_75 rfl (lv_at hl 1 rfl) ?_
      have hE : res = ((y4_1, y4_f_t_lengths) : (Int32 × (Nat → Int32))) := ((Option.some.inj hM).trans hX).symm
      rw [hQq, hE]
      exact nw_iret rfl hx hb hr hlocks hK hP hD hS dX8_longestRow_76
    · have hM := ifn c7 hM
      refine lv_iconst (v := (0 : Int32)) hx hb dX8_longestRow_10 (by decide) ?_
      refine lv_istore_n (lv' := [(3, .int (0 : Int32)), (0, .ref a_t), (1, .int y4_1), (2, .int y4_2)]) hx hb dX8_longestRow_11 rfl hl (by decide) rfl (fun ls hl => ?_)
      obtain ⟨W12, hW12⟩ : ∃ W9 : Int32 → Int32 → (Nat → Int32) → Prop, W9 = fun (y12_1 : Int32) (y12_3 : Int32) (y12_f_t_lengths : (Nat → Int32)) => ∀ (H : Heap) (locs : List Loc) (ls : Array Slot), va_P (dC, dI) classes [(a_t, .inr (8, [.ref a_t_shop, .ref a_t_alike, .ref a_t_images, .ref a_t_text, .ref a_t_fraction, .ref a_t_reader, .ref a_t_table, .ref a_t_keeper, .ref a_t_lister, .ref a_t_player, .ref a_t_openers, .ref a_t_lengths, .ref a_t_ways, .int v_t_bytes, .int v_t_badCalls, .int v_t_noCalls, .int v_t_fullCalls])), (a_t_lengths, .inl (cI, 16, .inl y12_f_t_lengths)), (a_t_shop, .inr (6, [.int v_t_shop_n, .int v_t_shop_low, .int v_t_shop_high, .int v_t_shop_boxes, .ref a_t_shop_sets, .ref a_t_shop_worths])), (a_t_shop_sets, .inl (cI, 16, .inl f_t_shop_sets))] H → va_D A [(a_t, .inr (8, [.ref a_t_shop, .ref a_t_alike, .ref a_t_images, .ref a_t_text, .ref a_t_fraction, .ref a_t_reader, .ref a_t_table, .ref a_t_keeper, .ref a_t_lister, .ref a_t_player, .ref a_t_openers, .ref a_t_lengths, .ref a_t_ways, .int v_t_bytes, .int v_t_badCalls, .int v_t_noCalls, .int v_t_fullCalls])), (a_t_lengths, .inl (cI, 16, .inl y12_f_t_lengths)), (a_t_shop, .inr (6, [.int v_t_shop_n, .int v_t_shop_low, .int v_t_shop_high, .int v_t_shop_boxes, .ref a_t_shop_sets, .ref a_t_shop_worths])), (a_t_shop_sets, .inl (cI, 16, .inl f_t_shop_sets))] → va_S A s.heap H locs → lv_has ls 4 [(0, .ref a_t), (1, .int y12_1), (2, .int y4_2), (3, .int y12_3)] → W p l e rm_X8_longestRow s m ([.ref a_t] : List Value).toArray below meth c H locs 0 0 (MQ below (Qq A) ([.ref a_t] : List Value).toArray s 0 0 A) (F0 m 12 ls []) := ⟨_, rfl⟩
      have hst : ∀ (z : (Int32 × Int32 × (Nat → Int32))) (x : ((Int32 × Int32 × (Nat → Int32)) ⊕ ((Int32 × Int32 × (Nat → Int32)) ⊕ (Int32 × (Nat → Int32))))), (fun z => L_X8_longestRow_12 y4_2 v_t_shop_boxes f_t_shop_sets z.1 z.2.1 z.2.2) z = some x → ((∀ z', x = Sum.inl z' → W12 z'.1 z'.2.1 z'.2.2) ∧ (∀ t_12, x = Sum.inr t_12 → ((∀ z', t_12 = Sum.inl z' → W4 z'.1 z'.2.1 z'.2.2) ∧ (∀ t_4, t_12 = Sum.inr t_4 → t_4 = res)))) → W12 z.1 z.2.1 z.2.2 := by
        rintro ⟨y12_1, y12_3, y12_f_t_lengths⟩ x hM hX
        have hM : L_X8_longestRow_12 y4_2 v_t_shop_boxes f_t_shop_sets y12_1 y12_3 y12_f_t_lengths = some x := hM
        show W12 y12_1 y12_3 y12_f_t_lengths
        rw [hW12]
        intro H locs ls hP hD hS hl
        have hM : (if v_t_shop_boxes ≤ y12_3 then (((some (Sum.inl (y12_1, (y4_2 + (1 : Int32)), y12_f_t_lengths)))).map Sum.inr) else (ix y12_3 16 (Option.bind (M_J6_bitCount_0f7a4 (f_t_shop_sets y12_3.toNatClampNeg)) (fun t32 => if t32 = y4_2 then (Option.bind (M_X8_longestBelow y12_f_t_lengths v_t_shop_boxes f_t_shop_sets y12_3) (fun t47 => ix y12_3 16 (ix y12_3 16 (some (Sum.inl ((if y12_1 < ((upd y12_f_t_lengths y12_3.toNatClampNeg ((1 : Int32) + t47)) y12_3.toNatClampNeg) then ((upd y12_f_t_lengths y12_3.toNatClampNeg ((1 : Int32) + t47)) y12_3.toNatClampNeg) else y12_1), (y12_3 + (1 : Int32)), (upd y12_f_t_lengths y12_3.toNatClampNeg ((1 : Int32) + t47)))))))) else (some (Sum.inl (y12_1, (y12_3 + (1 : Int32)), y12_f_t_lengths))))))) = some x := hM
        refine lv_iload_n hx hb dX8_longestRow_12 rfl (lv_at hl 3 rfl) ?_
        refine lv_aload_n hx hb dX8_longestRow_13 rfl (lv_at hl 0 rfl) ?_
        refine va_get (D := (dC, dI)) (ci := 8) (v := .ref a_t_shop) (C := RX8) (T := TX8) (N := 17) hx hb hts in_X8_longestRow_X8 hown hK hP 0 rfl rfl 0 (by decide) (hts (.fieldLink RX8 12 "NoneWithin" "shop" "LNoneWithin$Shop;") (by decide +kernel)) (fun _ h9 => h9) rfl dX8_longestRow_14 ?_
        refine va_get (D := (dC, dI)) (ci := 6) (v := .int v_t_shop_boxes) (C := RX6) (T := TX6) (N := 6) hx hb hts in_X8_longestRow_X6 hown hK hP 2 rfl rfl 3 (by decide) (hts (.fieldLink RX8 98 "NoneWithin$Shop" "boxes" "I") (by decide +kernel)) (fun _ h9 => h9) rfl dX8_longestRow_17 ?_
        refine lv_icmp_ge (tgt := 69) hx hb dX8_longestRow_20 (by decide) (fun c20 => ?_) (fun c20 => ?_)
        · have hM := ifp c20 hM
          obtain ⟨x, hMn, hxe⟩ := mpr hM
          have hX := hX.2 _ hxe
          have hM := hMn
          refine lv_iinc (v := (y4_2 + (1 : Int32))) (lv' := [(2, .int (y4_2 + (1 : Int32))), (0, .ref a_t), (1, .int y12_1), (3, .int y12_3)]) hx hb dX8_longestRow_69 hl (k := 2) rfl rfl (by decide) rfl (fun ls hl => ?_)
          refine lv_goto (tgt := 4) hx hb dX8_longestRow_72 (by decide) ?_
          have hw := hX.1 _ (Option.some.inj hM).symm
          rw [hW4] at hw
          exact hw H locs ls hP hD hS (lv_sub hl [1, 2, 0] rfl)
        · have hM := ifn c20 hM
          refine lv_aload_n hx hb dX8_longestRow_23 rfl (lv_at hl 0 rfl) ?_
          refine va_get (D := (dC, dI)) (ci := 8) (v := .ref a_t_shop) (C := RX8) (T := TX8) (N := 17) hx hb hts in_X8_longestRow_X8 hown hK hP 0 rfl rfl 0 (by decide) (hts (.fieldLink RX8 12 "NoneWithin" "shop" "LNoneWithin$Shop;") (by decide +kernel)) (fun _ h9 => h9) rfl dX8_longestRow_24 ?_
          refine va_get (D := (dC, dI)) (ci := 6) (v := .ref a_t_shop_sets) (C := RX6) (T := TX6) (N := 6) hx hb hts in_X8_longestRow_X6 hown hK hP 2 rfl rfl 4 (by decide) (hts (.fieldLink RX8 118 "NoneWithin$Shop" "sets" "[I") (by decide +kernel)) (fun _ h9 => h9) rfl dX8_longestRow_27 ?_
          refine lv_iload_n hx hb dX8_longestRow_30 rfl (lv_at hl 3 rfl) ?_
          obtain ⟨hin, hM⟩ := ixp hM
          refine va_iald hx hb hK hP 3 0 rfl rfl hin dX8_longestRow_31 ?_
          obtain ⟨t32, hg32, hM⟩ := bd hM
          refine nw_i (wc := []) (wr := [(a_t, .inr (8, [.ref a_t_shop, .ref a_t_alike, .ref a_t_images, .ref a_t_text, .ref a_t_fraction, .ref a_t_reader, .ref a_t_table, .ref a_t_keeper, .ref a_t_lister, .ref a_t_player, .ref a_t_openers, .ref a_t_lengths, .ref a_t_ways, .int v_t_bytes, .int v_t_badCalls, .int v_t_noCalls, .int v_t_fullCalls])), (a_t_lengths, .inl (cI, 16, .inl y12_f_t_lengths)), (a_t_shop, .inr (6, [.int v_t_shop_n, .int v_t_shop_low, .int v_t_shop_high, .int v_t_shop_boxes, .ref a_t_shop_sets, .ref a_t_shop_worths])), (a_t_shop_sets, .inl (cI, 16, .inl f_t_shop_sets))]) (w1 := []) (wf := [(a_t, .inr (8, [.ref a_t_shop, .ref a_t_alike, .ref a_t_images, .ref a_t_text, .ref a_t_fraction, .ref a_t_reader, .ref a_t_table, .ref a_t_keeper, .ref a_t_lister, .ref a_t_player, .ref a_t_openers, .ref a_t_lengths, .ref a_t_ways, .int v_t_bytes, .int v_t_badCalls, .int v_t_noCalls, .int v_t_fullCalls])), (a_t_lengths, .inl (cI, 16, .inl y12_f_t_lengths)), (a_t_shop, .inr (6, [.int v_t_shop_n, .int v_t_shop_low, .int v_t_shop_high, .int v_t_shop_boxes, .ref a_t_shop_sets, .ref a_t_shop_worths])), (a_t_shop_sets, .inl (cI, 16, .inl f_t_shop_sets))]) [] [0, 1, 2, 3] [0, 1, 2, 3] hP hD hS hA rfl rfl rfl (by decide) rfl rfl (nw_runS (As := [.int (f_t_shop_sets y12_3.toNatClampNeg)]) (rest := []) hfix (c_J6_bitCount_0f7a4 l dC dI cI cJ cZ cQ gx  H.size  (f_t_shop_sets y12_3.toNatClampNeg) t32 hg32) (va_cwS 1 hts gX8_longestRow_J6_bitCount_0f7a4 rfl rfl rfl (by decide +kernel) ⟨Nat.le_of_ble_eq_true rfl, Nat.le_of_ble_eq_true rfl⟩) hP hD hK hN hS hA hG [] rfl rfl hl.1 rfl rfl (Nat.le_of_ble_eq_true rfl) dX8_longestRow_32 ⟨Nat.zero_le _, Nat.zero_le _⟩) (fun H locs hP hD hS => ?_)
          refine lv_iload_n hx hb dX8_longestRow_35 rfl (lv_at hl 2 rfl) ?_
          refine lv_icmp_ne (tgt := 63) hx hb dX8_longestRow_36 (by decide) (fun c36 => ?_) (fun c36 => ?_)
          · have hM := ifn c36 hM
            refine lv_iinc (v := (y12_3 + (1 : Int32))) (lv' := [(3, .int (y12_3 + (1 : Int32))), (0, .ref a_t), (1, .int y12_1), (2, .int y4_2)]) hx hb dX8_longestRow_63 hl (k := 3) rfl rfl (by decide) rfl (fun ls hl => ?_)
            refine lv_goto (tgt := 12) hx hb dX8_longestRow_66 (by decide) ?_
            have hw := hX.1 _ (Option.some.inj hM).symm
            rw [hW12] at hw
            exact hw H locs ls hP hD hS (lv_sub hl [1, 2, 3, 0] rfl)
          · have hM := ifp c36 hM
            refine lv_aload_n hx hb dX8_longestRow_39 rfl (lv_at hl 0 rfl) ?_
            refine va_get (D := (dC, dI)) (ci := 8) (v := .ref a_t_lengths) (C := RX8) (T := TX8) (N := 17) hx hb hts in_X8_longestRow_X8 hown hK hP 0 rfl rfl 11 (by decide) (hts (.fieldLink RX8 78 "NoneWithin" "lengths" "[I") (by decide +kernel)) (fun _ h9 => h9) rfl dX8_longestRow_40 ?_
            refine lv_iload_n hx hb dX8_longestRow_43 rfl (lv_at hl 3 rfl) ?_
            refine lv_iconst (v := (1 : Int32)) hx hb dX8_longestRow_44 (by decide) ?_
            refine lv_aload_n hx hb dX8_longestRow_45 rfl (lv_at hl 0 rfl) ?_
            refine lv_iload_n hx hb dX8_longestRow_46 rfl (lv_at hl 3 rfl) ?_
            obtain ⟨t47, hg47, hM⟩ := bd hM
            refine nw_i (wc := [(a_t, .inr (8, [.ref a_t_shop, .ref a_t_alike, .ref a_t_images, .ref a_t_text, .ref a_t_fraction, .ref a_t_reader, .ref a_t_table, .ref a_t_keeper, .ref a_t_lister, .ref a_t_player, .ref a_t_openers, .ref a_t_lengths, .ref a_t_ways, .int v_t_bytes, .int v_t_badCalls, .int v_t_noCalls, .int v_t_fullCalls])), (a_t_lengths, .inl (cI, 16, .inl y12_f_t_lengths)), (a_t_shop, .inr (6, [.int v_t_shop_n, .int v_t_shop_low, .int v_t_shop_high, .int v_t_shop_boxes, .ref a_t_shop_sets, .ref a_t_shop_worths])), (a_t_shop_sets, .inl (cI, 16, .inl f_t_shop_sets))]) (wr := []) (w1 := [(a_t, .inr (8, [.ref a_t_shop, .ref a_t_alike, .ref a_t_images, .ref a_t_text, .ref a_t_fraction, .ref a_t_reader, .ref a_t_table, .ref a_t_keeper, .ref a_t_lister, .ref a_t_player, .ref a_t_openers, .ref a_t_lengths, .ref a_t_ways, .int v_t_bytes, .int v_t_badCalls, .int v_t_noCalls, .int v_t_fullCalls])), (a_t_lengths, .inl (cI, 16, .inl y12_f_t_lengths)), (a_t_shop, .inr (6, [.int v_t_shop_n, .int v_t_shop_low, .int v_t_shop_high, .int v_t_shop_boxes, .ref a_t_shop_sets, .ref a_t_shop_worths])), (a_t_shop_sets, .inl (cI, 16, .inl f_t_shop_sets))]) (wf := [(a_t, .inr (8, [.ref a_t_shop, .ref a_t_alike, .ref a_t_images, .ref a_t_text, .ref a_t_fraction, .ref a_t_reader, .ref a_t_table, .ref a_t_keeper, .ref a_t_lister, .ref a_t_player, .ref a_t_openers, .ref a_t_lengths, .ref a_t_ways, .int v_t_bytes, .int v_t_badCalls, .int v_t_noCalls, .int v_t_fullCalls])), (a_t_lengths, .inl (cI, 16, .inl y12_f_t_lengths)), (a_t_shop, .inr (6, [.int v_t_shop_n, .int v_t_shop_low, .int v_t_shop_high, .int v_t_shop_boxes, .ref a_t_shop_sets, .ref a_t_shop_worths])), (a_t_shop_sets, .inl (cI, 16, .inl f_t_shop_sets))]) [0, 1, 2, 3] [] [0, 1, 2, 3] hP hD hS hA rfl rfl rfl (by decide) rfl rfl (nw_runV (As := [.int y12_3]) (rest := [.int (1 : Int32), .int y12_3, .ref a_t_lengths]) hfix (c_X8_longestBelow l dC dI cI cJ cZ cQ gx a_t a_t_lengths a_t_shop a_t_shop_sets a_t_alike a_t_images a_t_text a_t_fraction a_t_reader a_t_table a_t_keeper a_t_lister a_t_player a_t_openers a_t_ways a_t_shop_worths H.size v_t_bytes v_t_badCalls v_t_noCalls v_t_fullCalls y12_f_t_lengths v_t_shop_n v_t_shop_low v_t_shop_high v_t_shop_boxes f_t_shop_sets y12_3 t47 hg47) (cwV 1 hts gX8_longestRow_X8_longestBelow rfl rfl rfl (by decide +kernel) ⟨Nat.le_of_ble_eq_true rfl, Nat.le_of_ble_eq_true rfl⟩) hP hD hK hN hS hA hG [0, 1, 2, 3] rfl rfl 0 8 rfl rfl rfl hl.1 rfl rfl (Nat.le_of_ble_eq_true rfl) dX8_longestRow_47 ⟨Nat.zero_le _, Nat.zero_le _⟩) (fun H locs hP hD hS => ?_)
            refine lv_iadd hx hb dX8_longestRow_50 ?_
            obtain ⟨hin, hM⟩ := ixp hM
            refine va_iast hx hb hK hP hD hS 1 0 rfl rfl hin dX8_longestRow_51 (fun H locs hP hD hS => ?_)
            have hP : va_P (dC, dI) classes [(a_t, .inr (8, [.ref a_t_shop, .ref a_t_alike, .ref a_t_images, .ref a_t_text, .ref a_t_fraction, .ref a_t_reader, .ref a_t_table, .ref a_t_keeper, .ref a_t_lister, .ref a_t_player, .ref a_t_openers, .ref a_t_lengths, .ref a_t_ways, .int v_t_bytes, .int v_t_badCalls, .int v_t_noCalls, .int v_t_fullCalls])), (a_t_lengths, .inl (cI, 16, .inl (upd y12_f_t_lengths y12_3.toNatClampNeg ((1 : Int32) + t47)))), (a_t_shop, .inr (6, [.int v_t_shop_n, .int v_t_shop_low, .int v_t_shop_high, .int v_t_shop_boxes, .ref a_t_shop_sets, .ref a_t_shop_worths])), (a_t_shop_sets, .inl (cI, 16, .inl f_t_shop_sets))] H := hP
            have hD : va_D A [(a_t, .inr (8, [.ref a_t_shop, .ref a_t_alike, .ref a_t_images, .ref a_t_text, .ref a_t_fraction, .ref a_t_reader, .ref a_t_table, .ref a_t_keeper, .ref a_t_lister, .ref a_t_player, .ref a_t_openers, .ref a_t_lengths, .ref a_t_ways, .int v_t_bytes, .int v_t_badCalls, .int v_t_noCalls, .int v_t_fullCalls])), (a_t_lengths, .inl (cI, 16, .inl (upd y12_f_t_lengths y12_3.toNatClampNeg ((1 : Int32) + t47)))), (a_t_shop, .inr (6, [.int v_t_shop_n, .int v_t_shop_low, .int v_t_shop_high, .int v_t_shop_boxes, .ref a_t_shop_sets, .ref a_t_shop_worths])), (a_t_shop_sets, .inl (cI, 16, .inl f_t_shop_sets))] := hD
            refine lv_iload_n hx hb dX8_longestRow_52 rfl (lv_at hl 1 rfl) ?_
            refine lv_aload_n hx hb dX8_longestRow_53 rfl (lv_at hl 0 rfl) ?_
            refine va_get (D := (dC, dI)) (ci := 8) (v := .ref a_t_lengths) (C := RX8) (T := TX8) (N := 17) hx hb hts in_X8_longestRow_X8 hown hK hP 0 rfl rfl 11 (by decide) (hts (.fieldLink RX8 78 "NoneWithin" "lengths" "[I") (by decide +kernel)) (fun _ h9 => h9) rfl dX8_longestRow_54 ?_
            refine lv_iload_n hx hb dX8_longestRow_57 rfl (lv_at hl 3 rfl) ?_
            obtain ⟨hin, hM⟩ := ixp hM
            refine va_iald hx hb hK hP 1 0 rfl rfl hin dX8_longestRow_58 ?_
            refine va_mmax hx hb (hml.trans hl.1.symm) hown (hts (.methodLink RX8 281 Lib.Math.max.name) (by decide +kernel)) (hts (.static Lib.Math.max.name) (by decide +kernel)) (hts (.initialized "java/lang/Math") (by decide +kernel)) (hts (.code Lib.Math.max.name Lib.Math.max.code 2 (some .int)) (by decide +kernel)) (Nat.le_of_ble_eq_true rfl) (Nat.le_of_ble_eq_true rfl) (Nat.zero_le _) (Nat.zero_le _) dX8_longestRow_59 ?_
            refine lv_istore_n (lv' := [(1, .int (if y12_1 < ((upd y12_f_t_lengths y12_3.toNatClampNeg ((1 : Int32) + t47)) y12_3.toNatClampNeg) then ((upd y12_f_t_lengths y12_3.toNatClampNeg ((1 : Int32) + t47)) y12_3.toNatClampNeg) else y12_1)), (0, .ref a_t), (2, .int y4_2), (3, .int y12_3)]) hx hb dX8_longestRow_62 rfl hl (by decide) rfl (fun ls hl => ?_)
            refine lv_iinc (v := (y12_3 + (1 : Int32))) (lv' := [(3, .int (y12_3 + (1 : Int32))), (1, .int (if y12_1 < ((upd y12_f_t_lengths y12_3.toNatClampNeg ((1 : Int32) + t47)) y12_3.toNatClampNeg) then ((upd y12_f_t_lengths y12_3.toNatClampNeg ((1 : Int32) + t47)) y12_3.toNatClampNeg) else y12_1)), (0, .ref a_t), (2, .int y4_2)]) hx hb dX8_longestRow_63 hl (k := 3) rfl rfl (by decide) rfl (fun ls hl => ?_)
            refine lv_goto (tgt := 12) hx hb dX8_longestRow_66 (by decide) ?_
            have hw := hX.1 _ (Option.some.inj hM).symm
            rw [hW12] at hw
            exact hw H locs ls hP hD hS (lv_sub hl [2, 1, 3, 0] rfl)
      have hw := lp_walk (Wp := fun z => W12 z.1 z.2.1 z.2.2) (X := fun t => ((∀ z', t = Sum.inl z' → W4 z'.1 z'.2.1 z'.2.2) ∧ (∀ t_4, t = Sum.inr t_4 → t_4 = res))) hst _ _ _ hM hX
      rw [hW12] at hw
      exact hw H locs ls hP hD hS (lv_sub hl [1, 2, 3, 0] rfl)
  have hw := lp_walk (Wp := fun z => W4 z.1 z.2.1 z.2.2) (X := fun t => t = res) hst _ _ _ hM hX
  rw [hW4] at hw
  exact hw H locs ls hP hD hS (lv_sub hl [2, 1, 0] rfl)
abbrev rm_X8_rows : Room := { frames := 26, cells := 0, slots := 0, locals := 697 }
set_option maxHeartbeats 4000000 in
set_option maxRecDepth 100000 in
theorem c_X8_rows (l : Launch) (dC : Nat → ClassId) (dI : Nat → Nat → Nat) (cI cJ cZ cQ : ClassId) (gx : GX) (a_t a_t_keeper a_t_keeper_weights a_t_lengths a_t_shop a_t_shop_sets a_t_table a_t_table_clash a_t_table_near a_t_table_sets a_t_alike a_t_images a_t_text a_t_fraction a_t_reader a_t_lister a_t_player a_t_openers a_t_ways a_t_shop_worths : Nat) (sz : Nat) (v_t_bytes : Int32) (v_t_badCalls : Int32) (v_t_noCalls : Int32) (v_t_fullCalls : Int32) (v_t_keeper_best : Int32) (v_t_keeper_bits : Int32) (f_t_keeper_weights : (Nat → Int32)) (f_t_lengths : (Nat → Int32)) (v_t_shop_n : Int32) (v_t_shop_low : Int32) (v_t_shop_high : Int32) (v_t_shop_boxes : Int32) (f_t_shop_sets : (Nat → Int32)) (v_t_table_law : Int32) (v_t_table_boxes : Int32) (v_t_table_fit : Int32) (v_t_table_low : Int32) (v_t_table_high : Int32) (f_t_table_clash : (Nat → Int32)) (f_t_table_near : (Nat → Int32)) (f_t_table_sets : (Nat → Int32)) (p0 : Int32) (res : (Int32 × Int32 × Int32 × Int32 × Int32 × Int32 × (Nat → Int32) × (Nat → Int32) × Int32 × Int32 × Int32 × Int32 × Int32 × (Nat → Int32) × (Nat → Int32) × (Nat → Int32))) (hM : M_X8_rows v_t_badCalls v_t_fullCalls v_t_noCalls v_t_keeper_best v_t_keeper_bits f_t_keeper_weights f_t_lengths v_t_shop_boxes f_t_shop_sets v_t_table_boxes v_t_table_fit v_t_table_high v_t_table_law v_t_table_low f_t_table_clash f_t_table_near f_t_table_sets p0 = some res) : Met l yX8_rows wsX8_rows rm_X8_rows (kP dC dI cI cJ cZ cQ gx [.ref a_t, .int p0] sz [(a_t, .inr (8, [.ref a_t_shop, .ref a_t_alike, .ref a_t_images, .ref a_t_text, .ref a_t_fraction, .ref a_t_reader, .ref a_t_table, .ref a_t_keeper, .ref a_t_lister, .ref a_t_player, .ref a_t_openers, .ref a_t_lengths, .ref a_t_ways, .int v_t_bytes, .int v_t_badCalls, .int v_t_noCalls, .int v_t_fullCalls])), (a_t_keeper, .inr (2, [.ref a_t_keeper_weights, .ref a_t_table, .int v_t_keeper_best, .int v_t_keeper_bits])), (a_t_keeper_weights, .inl (cI, 16, .inl f_t_keeper_weights)), (a_t_lengths, .inl (cI, 16, .inl f_t_lengths)), (a_t_shop, .inr (6, [.int v_t_shop_n, .int v_t_shop_low, .int v_t_shop_high, .int v_t_shop_boxes, .ref a_t_shop_sets, .ref a_t_shop_worths])), (a_t_shop_sets, .inl (cI, 16, .inl f_t_shop_sets)), (a_t_table, .inr (3, [.int v_t_table_law, .int v_t_table_boxes, .int v_t_table_fit, .int v_t_table_low, .int v_t_table_high, .ref a_t_table_sets, .ref a_t_table_clash, .ref a_t_table_near])), (a_t_table_clash, .inl (cI, 16, .inl f_t_table_clash)), (a_t_table_near, .inl (cI, 16, .inl f_t_table_near)), (a_t_table_sets, .inl (cI, 16, .inl f_t_table_sets))]) (kQi dC dI cI cJ cZ cQ res.1 [(a_t, .inr (8, [.ref a_t_shop, .ref a_t_alike, .ref a_t_images, .ref a_t_text, .ref a_t_fraction, .ref a_t_reader, .ref a_t_table, .ref a_t_keeper, .ref a_t_lister, .ref a_t_player, .ref a_t_openers, .ref a_t_lengths, .ref a_t_ways, .int v_t_bytes, .int res.2.1, .int res.2.2.2.1, .int res.2.2.1])), (a_t_keeper, .inr (2, [.ref a_t_keeper_weights, .ref a_t_table, .int res.2.2.2.2.1, .int res.2.2.2.2.2.1])), (a_t_keeper_weights, .inl (cI, 16, .inl res.2.2.2.2.2.2.1)), (a_t_lengths, .inl (cI, 16, .inl res.2.2.2.2.2.2.2.1)), (a_t_shop, .inr (6, [.int v_t_shop_n, .int v_t_shop_low, .int v_t_shop_high, .int v_t_shop_boxes, .ref a_t_shop_sets, .ref a_t_shop_worths])), (a_t_shop_sets, .inl (cI, 16, .inl f_t_shop_sets)), (a_t_table, .inr (3, [.int res.2.2.2.2.2.2.2.2.2.2.2.1, .int res.2.2.2.2.2.2.2.2.1, .int res.2.2.2.2.2.2.2.2.2.1, .int res.2.2.2.2.2.2.2.2.2.2.2.2.1, .int res.2.2.2.2.2.2.2.2.2.2.1, .ref a_t_table_sets, .ref a_t_table_clash, .ref a_t_table_near])), (a_t_table_clash, .inl (cI, 16, .inl res.2.2.2.2.2.2.2.2.2.2.2.2.2.1)), (a_t_table_near, .inl (cI, 16, .inl res.2.2.2.2.2.2.2.2.2.2.2.2.2.2.1)), (a_t_table_sets, .inl (cI, 16, .inl res.2.2.2.2.2.2.2.2.2.2.2.2.2.2.2))] (va_A [(a_t, .inr (8, [.ref a_t_shop, .ref a_t_alike, .ref a_t_images, .ref a_t_text, .ref a_t_fraction, .ref a_t_reader, .ref a_t_table, .ref a_t_keeper, .ref a_t_lister, .ref a_t_player, .ref a_t_openers, .ref a_t_lengths, .ref a_t_ways, .int v_t_bytes, .int v_t_badCalls, .int v_t_noCalls, .int v_t_fullCalls])), (a_t_keeper, .inr (2, [.ref a_t_keeper_weights, .ref a_t_table, .int v_t_keeper_best, .int v_t_keeper_bits])), (a_t_keeper_weights, .inl (cI, 16, .inl f_t_keeper_weights)), (a_t_lengths, .inl (cI, 16, .inl f_t_lengths)), (a_t_shop, .inr (6, [.int v_t_shop_n, .int v_t_shop_low, .int v_t_shop_high, .int v_t_shop_boxes, .ref a_t_shop_sets, .ref a_t_shop_worths])), (a_t_shop_sets, .inl (cI, 16, .inl f_t_shop_sets)), (a_t_table, .inr (3, [.int v_t_table_law, .int v_t_table_boxes, .int v_t_table_fit, .int v_t_table_low, .int v_t_table_high, .ref a_t_table_sets, .ref a_t_table_clash, .ref a_t_table_near])), (a_t_table_clash, .inl (cI, 16, .inl f_t_table_clash)), (a_t_table_near, .inl (cI, 16, .inl f_t_table_near)), (a_t_table_sets, .inl (cI, 16, .inl f_t_table_sets))] sz)) 0 0 (va_A [(a_t, .inr (8, [.ref a_t_shop, .ref a_t_alike, .ref a_t_images, .ref a_t_text, .ref a_t_fraction, .ref a_t_reader, .ref a_t_table, .ref a_t_keeper, .ref a_t_lister, .ref a_t_player, .ref a_t_openers, .ref a_t_lengths, .ref a_t_ways, .int v_t_bytes, .int v_t_badCalls, .int v_t_noCalls, .int v_t_fullCalls])), (a_t_keeper, .inr (2, [.ref a_t_keeper_weights, .ref a_t_table, .int v_t_keeper_best, .int v_t_keeper_bits])), (a_t_keeper_weights, .inl (cI, 16, .inl f_t_keeper_weights)), (a_t_lengths, .inl (cI, 16, .inl f_t_lengths)), (a_t_shop, .inr (6, [.int v_t_shop_n, .int v_t_shop_low, .int v_t_shop_high, .int v_t_shop_boxes, .ref a_t_shop_sets, .ref a_t_shop_worths])), (a_t_shop_sets, .inl (cI, 16, .inl f_t_shop_sets)), (a_t_table, .inr (3, [.int v_t_table_law, .int v_t_table_boxes, .int v_t_table_fit, .int v_t_table_low, .int v_t_table_high, .ref a_t_table_sets, .ref a_t_table_clash, .ref a_t_table_near])), (a_t_table_clash, .inl (cI, 16, .inl f_t_table_clash)), (a_t_table_near, .inl (cI, 16, .inl f_t_table_near)), (a_t_table_sets, .inl (cI, 16, .inl f_t_table_sets))] sz) := by
  refine nw_entry (y := yX8_rows) (ws := wsX8_rows) (rm := rm_X8_rows) (sz := sz) (wpre := [(a_t, .inr (8, [.ref a_t_shop, .ref a_t_alike, .ref a_t_images, .ref a_t_text, .ref a_t_fraction, .ref a_t_reader, .ref a_t_table, .ref a_t_keeper, .ref a_t_lister, .ref a_t_player, .ref a_t_openers, .ref a_t_lengths, .ref a_t_ways, .int v_t_bytes, .int v_t_badCalls, .int v_t_noCalls, .int v_t_fullCalls])), (a_t_keeper, .inr (2, [.ref a_t_keeper_weights, .ref a_t_table, .int v_t_keeper_best, .int v_t_keeper_bits])), (a_t_keeper_weights, .inl (cI, 16, .inl f_t_keeper_weights)), (a_t_lengths, .inl (cI, 16, .inl f_t_lengths)), (a_t_shop, .inr (6, [.int v_t_shop_n, .int v_t_shop_low, .int v_t_shop_high, .int v_t_shop_boxes, .ref a_t_shop_sets, .ref a_t_shop_worths])), (a_t_shop_sets, .inl (cI, 16, .inl f_t_shop_sets)), (a_t_table, .inr (3, [.int v_t_table_law, .int v_t_table_boxes, .int v_t_table_fit, .int v_t_table_low, .int v_t_table_high, .ref a_t_table_sets, .ref a_t_table_clash, .ref a_t_table_near])), (a_t_table_clash, .inl (cI, 16, .inl f_t_table_clash)), (a_t_table_near, .inl (cI, 16, .inl f_t_table_near)), (a_t_table_sets, .inl (cI, 16, .inl f_t_table_sets))]) (av := [.ref a_t, .int p0]) (Qc := (kQi dC dI cI cJ cZ cQ res.1 [(a_t, .inr (8, [.ref a_t_shop, .ref a_t_alike, .ref a_t_images, .ref a_t_text, .ref a_t_fraction, .ref a_t_reader, .ref a_t_table, .ref a_t_keeper, .ref a_t_lister, .ref a_t_player, .ref a_t_openers, .ref a_t_lengths, .ref a_t_ways, .int v_t_bytes, .int res.2.1, .int res.2.2.2.1, .int res.2.2.1])), (a_t_keeper, .inr (2, [.ref a_t_keeper_weights, .ref a_t_table, .int res.2.2.2.2.1, .int res.2.2.2.2.2.1])), (a_t_keeper_weights, .inl (cI, 16, .inl res.2.2.2.2.2.2.1)), (a_t_lengths, .inl (cI, 16, .inl res.2.2.2.2.2.2.2.1)), (a_t_shop, .inr (6, [.int v_t_shop_n, .int v_t_shop_low, .int v_t_shop_high, .int v_t_shop_boxes, .ref a_t_shop_sets, .ref a_t_shop_worths])), (a_t_shop_sets, .inl (cI, 16, .inl f_t_shop_sets)), (a_t_table, .inr (3, [.int res.2.2.2.2.2.2.2.2.2.2.2.1, .int res.2.2.2.2.2.2.2.2.1, .int res.2.2.2.2.2.2.2.2.2.1, .int res.2.2.2.2.2.2.2.2.2.2.2.2.1, .int res.2.2.2.2.2.2.2.2.2.2.1, .ref a_t_table_sets, .ref a_t_table_clash, .ref a_t_table_near])), (a_t_table_clash, .inl (cI, 16, .inl res.2.2.2.2.2.2.2.2.2.2.2.2.2.1)), (a_t_table_near, .inl (cI, 16, .inl res.2.2.2.2.2.2.2.2.2.2.2.2.2.2.1)), (a_t_table_sets, .inl (cI, 16, .inl res.2.2.2.2.2.2.2.2.2.2.2.2.2.2.2))])) (cc := cX8_rows) (own := RX8) [(0, .ref a_t), (1, .int p0)] (by decide) rfl rfl (Nat.le_of_ble_eq_true rfl) rfl ?_
  intro p e s m below meth c A ls H locs hfix hr hlocks hin0 hsz0 hP hK hD hA hS hN hG hl
  obtain ⟨hx, hb, hml, hown, hts⟩ := id hfix
  obtain ⟨Qq, hQq⟩ : ∃ Q9, Q9 = (kQi dC dI cI cJ cZ cQ res.1 [(a_t, .inr (8, [.ref a_t_shop, .ref a_t_alike, .ref a_t_images, .ref a_t_text, .ref a_t_fraction, .ref a_t_reader, .ref a_t_table, .ref a_t_keeper, .ref a_t_lister, .ref a_t_player, .ref a_t_openers, .ref a_t_lengths, .ref a_t_ways, .int v_t_bytes, .int res.2.1, .int res.2.2.2.1, .int res.2.2.1])), (a_t_keeper, .inr (2, [.ref a_t_keeper_weights, .ref a_t_table, .int res.2.2.2.2.1, .int res.2.2.2.2.2.1])), (a_t_keeper_weights, .inl (cI, 16, .inl res.2.2.2.2.2.2.1)), (a_t_lengths, .inl (cI, 16, .inl res.2.2.2.2.2.2.2.1)), (a_t_shop, .inr (6, [.int v_t_shop_n, .int v_t_shop_low, .int v_t_shop_high, .int v_t_shop_boxes, .ref a_t_shop_sets, .ref a_t_shop_worths])), (a_t_shop_sets, .inl (cI, 16, .inl f_t_shop_sets)), (a_t_table, .inr (3, [.int res.2.2.2.2.2.2.2.2.2.2.2.1, .int res.2.2.2.2.2.2.2.2.1, .int res.2.2.2.2.2.2.2.2.2.1, .int res.2.2.2.2.2.2.2.2.2.2.2.2.1, .int res.2.2.2.2.2.2.2.2.2.2.1, .ref a_t_table_sets, .ref a_t_table_clash, .ref a_t_table_near])), (a_t_table_clash, .inl (cI, 16, .inl res.2.2.2.2.2.2.2.2.2.2.2.2.2.1)), (a_t_table_near, .inl (cI, 16, .inl res.2.2.2.2.2.2.2.2.2.2.2.2.2.2.1)), (a_t_table_sets, .inl (cI, 16, .inl res.2.2.2.2.2.2.2.2.2.2.2.2.2.2.2))]) := ⟨_, rfl⟩
  rw [← hQq]
  have hX : res = res := rfl
  have hM : (Option.bind (M_X8_between p0 (0 : Int32) (1 : Int32)) (fun t3 => if t3 = 0 then (Option.bind (M_X8_refuse v_t_badCalls v_t_fullCalls v_t_noCalls (-2 : Int32) (-2 : Int32)) (fun t14 => some (t14.1, t14.2.1, t14.2.2.1, t14.2.2.2, v_t_keeper_best, v_t_keeper_bits, f_t_keeper_weights, f_t_lengths, v_t_table_boxes, v_t_table_fit, v_t_table_high, v_t_table_law, v_t_table_low, f_t_table_clash, f_t_table_near, f_t_table_sets))) else (if p0 = 0 then (Option.bind (M_X8_fewestRows v_t_keeper_best v_t_keeper_bits f_t_keeper_weights v_t_shop_boxes f_t_shop_sets v_t_table_boxes v_t_table_fit v_t_table_high v_t_table_law v_t_table_low f_t_table_clash f_t_table_near f_t_table_sets) (fun t23 => some (t23.1, v_t_badCalls, v_t_fullCalls, v_t_noCalls, t23.2.1, t23.2.2.1, t23.2.2.2.1, f_t_lengths, t23.2.2.2.2.1, t23.2.2.2.2.2.1, t23.2.2.2.2.2.2.1, t23.2.2.2.2.2.2.2.1, t23.2.2.2.2.2.2.2.2.1, t23.2.2.2.2.2.2.2.2.2.1, t23.2.2.2.2.2.2.2.2.2.2.1, t23.2.2.2.2.2.2.2.2.2.2.2))) else (Option.bind (M_X8_longestRow f_t_lengths v_t_shop_boxes f_t_shop_sets) (fun t30 => some (t30.1, v_t_badCalls, v_t_fullCalls, v_t_noCalls, v_t_keeper_best, v_t_keeper_bits, f_t_keeper_weights, t30.2, v_t_table_boxes, v_t_table_fit, v_t_table_high, v_t_table_law, v_t_table_low, f_t_table_clash, f_t_table_near, f_t_table_sets)))))) = some res := hM
  refine lv_iload_n hx hb dX8_rows_0 rfl (lv_at hl 1 rfl) ?_
  refine lv_iconst (v := (0 : Int32)) hx hb dX8_rows_1 (by decide) ?_
  refine lv_iconst (v := (1 : Int32)) hx hb dX8_rows_2 (by decide) ?_
  obtain ⟨t3, hg3, hM⟩ := bd hM
  refine nw_i (wc := []) (wr := [(a_t, .inr (8, [.ref a_t_shop, .ref a_t_alike, .ref a_t_images, .ref a_t_text, .ref a_t_fraction, .ref a_t_reader, .ref a_t_table, .ref a_t_keeper, .ref a_t_lister, .ref a_t_player, .ref a_t_openers, .ref a_t_lengths, .ref a_t_ways, .int v_t_bytes, .int v_t_badCalls, .int v_t_noCalls, .int v_t_fullCalls])), (a_t_keeper, .inr (2, [.ref a_t_keeper_weights, .ref a_t_table, .int v_t_keeper_best, .int v_t_keeper_bits])), (a_t_keeper_weights, .inl (cI, 16, .inl f_t_keeper_weights)), (a_t_lengths, .inl (cI, 16, .inl f_t_lengths)), (a_t_shop, .inr (6, [.int v_t_shop_n, .int v_t_shop_low, .int v_t_shop_high, .int v_t_shop_boxes, .ref a_t_shop_sets, .ref a_t_shop_worths])), (a_t_shop_sets, .inl (cI, 16, .inl f_t_shop_sets)), (a_t_table, .inr (3, [.int v_t_table_law, .int v_t_table_boxes, .int v_t_table_fit, .int v_t_table_low, .int v_t_table_high, .ref a_t_table_sets, .ref a_t_table_clash, .ref a_t_table_near])), (a_t_table_clash, .inl (cI, 16, .inl f_t_table_clash)), (a_t_table_near, .inl (cI, 16, .inl f_t_table_near)), (a_t_table_sets, .inl (cI, 16, .inl f_t_table_sets))]) (w1 := []) (wf := [(a_t, .inr (8, [.ref a_t_shop, .ref a_t_alike, .ref a_t_images, .ref a_t_text, .ref a_t_fraction, .ref a_t_reader, .ref a_t_table, .ref a_t_keeper, .ref a_t_lister, .ref a_t_player, .ref a_t_openers, .ref a_t_lengths, .ref a_t_ways, .int v_t_bytes, .int v_t_badCalls, .int v_t_noCalls, .int v_t_fullCalls])), (a_t_keeper, .inr (2, [.ref a_t_keeper_weights, .ref a_t_table, .int v_t_keeper_best, .int v_t_keeper_bits])), (a_t_keeper_weights, .inl (cI, 16, .inl f_t_keeper_weights)), (a_t_lengths, .inl (cI, 16, .inl f_t_lengths)), (a_t_shop, .inr (6, [.int v_t_shop_n, .int v_t_shop_low, .int v_t_shop_high, .int v_t_shop_boxes, .ref a_t_shop_sets, .ref a_t_shop_worths])), (a_t_shop_sets, .inl (cI, 16, .inl f_t_shop_sets)), (a_t_table, .inr (3, [.int v_t_table_law, .int v_t_table_boxes, .int v_t_table_fit, .int v_t_table_low, .int v_t_table_high, .ref a_t_table_sets, .ref a_t_table_clash, .ref a_t_table_near])), (a_t_table_clash, .inl (cI, 16, .inl f_t_table_clash)), (a_t_table_near, .inl (cI, 16, .inl f_t_table_near)), (a_t_table_sets, .inl (cI, 16, .inl f_t_table_sets))]) [] [0, 1, 2, 3, 4, 5, 6, 7, 8, 9] [0, 1, 2, 3, 4, 5, 6, 7, 8, 9] hP hD hS hA rfl rfl rfl (by decide) rfl rfl (nw_runS (As := [.int p0, .int (0 : Int32), .int (1 : Int32)]) (rest := []) hfix (c_X8_between l dC dI cI cJ cZ cQ gx  H.size  p0 (0 : Int32) (1 : Int32) t3 hg3) (va_cwS 3 hts gX8_rows_X8_between rfl rfl rfl (by decide +kernel) ⟨Nat.le_of_ble_eq_true rfl, Nat.le_of_ble_eq_true rfl⟩) hP hD hK hN hS hA hG [] rfl rfl hl.1 rfl rfl (Nat.le_of_ble_eq_true rfl) dX8_rows_3 ⟨Nat.zero_le _, Nat.zero_le _⟩) (fun H locs hP hD hS => ?_)
  refine lv_if_ne (tgt := 18) hx hb dX8_rows_6 (by decide) (fun c6 => ?_) (fun c6 => ?_)
  · have hM := ifn c6 hM
    refine lv_iload_n hx hb dX8_rows_18 rfl (lv_at hl 1 rfl) ?_
    refine lv_if_ne (tgt := 29) hx hb dX8_rows_19 (by decide) (fun c19 => ?_) (fun c19 => ?_)
    · have hM := ifn c19 hM
      refine lv_aload_n hx hb dX8_rows_29 rfl (lv_at hl 0 rfl) ?_
      obtain ⟨t30, hg30, hM⟩ := bd hM
      refine nw_i (wc := [(a_t, .inr (8, [.ref a_t_shop, .ref a_t_alike, .ref a_t_images, .ref a_t_text, .ref a_t_fraction, .ref a_t_reader, .ref a_t_table, .ref a_t_keeper, .ref a_t_lister, .ref a_t_player, .ref a_t_openers, .ref a_t_lengths, .ref a_t_ways, .int v_t_bytes, .int v_t_badCalls, .int v_t_noCalls, .int v_t_fullCalls])), (a_t_lengths, .inl (cI, 16, .inl f_t_lengths)), (a_t_shop, .inr (6, [.int v_t_shop_n, .int v_t_shop_low, .int v_t_shop_high, .int v_t_shop_boxes, .ref a_t_shop_sets, .ref a_t_shop_worths])), (a_t_shop_sets, .inl (cI, 16, .inl f_t_shop_sets))]) (wr := [(a_t_keeper, .inr (2, [.ref a_t_keeper_weights, .ref a_t_table, .int v_t_keeper_best, .int v_t_keeper_bits])), (a_t_keeper_weights, .inl (cI, 16, .inl f_t_keeper_weights)), (a_t_table, .inr (3, [.int v_t_table_law, .int v_t_table_boxes, .int v_t_table_fit, .int v_t_table_low, .int v_t_table_high, .ref a_t_table_sets, .ref a_t_table_clash, .ref a_t_table_near])), (a_t_table_clash, .inl (cI, 16, .inl f_t_table_clash)), (a_t_table_near, .inl (cI, 16, .inl f_t_table_near)), (a_t_table_sets, .inl (cI, 16, .inl f_t_table_sets))]) (w1 := [(a_t, .inr (8, [.ref a_t_shop, .ref a_t_alike, .ref a_t_images, .ref a_t_text, .ref a_t_fraction, .ref a_t_reader, .ref a_t_table, .ref a_t_keeper, .ref a_t_lister, .ref a_t_player, .ref a_t_openers, .ref a_t_lengths, .ref a_t_ways, .int v_t_bytes, .int v_t_badCalls, .int v_t_noCalls, .int v_t_fullCalls])), (a_t_lengths, .inl (cI, 16, .inl t30.2)), (a_t_shop, .inr (6, [.int v_t_shop_n, .int v_t_shop_low, .int v_t_shop_high, .int v_t_shop_boxes, .ref a_t_shop_sets, .ref a_t_shop_worths])), (a_t_shop_sets, .inl (cI, 16, .inl f_t_shop_sets))]) (wf := [(a_t, .inr (8, [.ref a_t_shop, .ref a_t_alike, .ref a_t_images, .ref a_t_text, .ref a_t_fraction, .ref a_t_reader, .ref a_t_table, .ref a_t_keeper, .ref a_t_lister, .ref a_t_player, .ref a_t_openers, .ref a_t_lengths, .ref a_t_ways, .int v_t_bytes, .int v_t_badCalls, .int v_t_noCalls, .int v_t_fullCalls])), (a_t_keeper, .inr (2, [.ref a_t_keeper_weights, .ref a_t_table, .int v_t_keeper_best, .int v_t_keeper_bits])), (a_t_keeper_weights, .inl (cI, 16, .inl f_t_keeper_weights)), (a_t_lengths, .inl (cI, 16, .inl t30.2)), (a_t_shop, .inr (6, [.int v_t_shop_n, .int v_t_shop_low, .int v_t_shop_high, .int v_t_shop_boxes, .ref a_t_shop_sets, .ref a_t_shop_worths])), (a_t_shop_sets, .inl (cI, 16, .inl f_t_shop_sets)), (a_t_table, .inr (3, [.int v_t_table_law, .int v_t_table_boxes, .int v_t_table_fit, .int v_t_table_low, .int v_t_table_high, .ref a_t_table_sets, .ref a_t_table_clash, .ref a_t_table_near])), (a_t_table_clash, .inl (cI, 16, .inl f_t_table_clash)), (a_t_table_near, .inl (cI, 16, .inl f_t_table_near)), (a_t_table_sets, .inl (cI, 16, .inl f_t_table_sets))]) [0, 3, 4, 5] [1, 2, 6, 7, 8, 9] [6, 0, 1, 7, 8, 9, 2, 3, 4, 5] hP hD hS hA rfl rfl rfl (by decide) rfl rfl (nw_runV (As := []) (rest := []) hfix (c_X8_longestRow l dC dI cI cJ cZ cQ gx a_t a_t_lengths a_t_shop a_t_shop_sets a_t_alike a_t_images a_t_text a_t_fraction a_t_reader a_t_table a_t_keeper a_t_lister a_t_player a_t_openers a_t_ways a_t_shop_worths H.size v_t_bytes v_t_badCalls v_t_noCalls v_t_fullCalls f_t_lengths v_t_shop_n v_t_shop_low v_t_shop_high v_t_shop_boxes f_t_shop_sets  t30 hg30) (cwV 0 hts gX8_rows_X8_longestRow rfl rfl rfl (by decide +kernel) ⟨Nat.le_of_ble_eq_true rfl, Nat.le_of_ble_eq_true rfl⟩) hP hD hK hN hS hA hG [0, 3, 4, 5] rfl rfl 0 8 rfl rfl rfl hl.1 rfl rfl (Nat.le_of_ble_eq_true rfl) dX8_rows_30 ⟨Nat.zero_le _, Nat.zero_le _⟩) (fun H locs hP hD hS => ?_)
      have hE : res = ((t30.1, v_t_badCalls, v_t_fullCalls, v_t_noCalls, v_t_keeper_best, v_t_keeper_bits, f_t_keeper_weights, t30.2, v_t_table_boxes, v_t_table_fit, v_t_table_high, v_t_table_law, v_t_table_low, f_t_table_clash, f_t_table_near, f_t_table_sets) : (Int32 × Int32 × Int32 × Int32 × Int32 × Int32 × (Nat → Int32) × (Nat → Int32) × Int32 × Int32 × Int32 × Int32 × Int32 × (Nat → Int32) × (Nat → Int32) × (Nat → Int32))) := ((Option.some.inj hM).trans hX).symm
      rw [hQq, hE]
      exact nw_iret rfl hx hb hr hlocks hK hP hD hS dX8_rows_33
    · have hM := ifp c19 hM
      refine lv_aload_n hx hb dX8_rows_22 rfl (lv_at hl 0 rfl) ?_
      obtain ⟨t23, hg23, hM⟩ := bd hM
      refine nw_i (wc := [(a_t, .inr (8, [.ref a_t_shop, .ref a_t_alike, .ref a_t_images, .ref a_t_text, .ref a_t_fraction, .ref a_t_reader, .ref a_t_table, .ref a_t_keeper, .ref a_t_lister, .ref a_t_player, .ref a_t_openers, .ref a_t_lengths, .ref a_t_ways, .int v_t_bytes, .int v_t_badCalls, .int v_t_noCalls, .int v_t_fullCalls])), (a_t_keeper, .inr (2, [.ref a_t_keeper_weights, .ref a_t_table, .int v_t_keeper_best, .int v_t_keeper_bits])), (a_t_keeper_weights, .inl (cI, 16, .inl f_t_keeper_weights)), (a_t_shop, .inr (6, [.int v_t_shop_n, .int v_t_shop_low, .int v_t_shop_high, .int v_t_shop_boxes, .ref a_t_shop_sets, .ref a_t_shop_worths])), (a_t_shop_sets, .inl (cI, 16, .inl f_t_shop_sets)), (a_t_table, .inr (3, [.int v_t_table_law, .int v_t_table_boxes, .int v_t_table_fit, .int v_t_table_low, .int v_t_table_high, .ref a_t_table_sets, .ref a_t_table_clash, .ref a_t_table_near])), (a_t_table_clash, .inl (cI, 16, .inl f_t_table_clash)), (a_t_table_near, .inl (cI, 16, .inl f_t_table_near)), (a_t_table_sets, .inl (cI, 16, .inl f_t_table_sets))]) (wr := [(a_t_lengths, .inl (cI, 16, .inl f_t_lengths))]) (w1 := [(a_t, .inr (8, [.ref a_t_shop, .ref a_t_alike, .ref a_t_images, .ref a_t_text, .ref a_t_fraction, .ref a_t_reader, .ref a_t_table, .ref a_t_keeper, .ref a_t_lister, .ref a_t_player, .ref a_t_openers, .ref a_t_lengths, .ref a_t_ways, .int v_t_bytes, .int v_t_badCalls, .int v_t_noCalls, .int v_t_fullCalls])), (a_t_keeper, .inr (2, [.ref a_t_keeper_weights, .ref a_t_table, .int t23.2.1, .int t23.2.2.1])), (a_t_keeper_weights, .inl (cI, 16, .inl t23.2.2.2.1)), (a_t_shop, .inr (6, [.int v_t_shop_n, .int v_t_shop_low, .int v_t_shop_high, .int v_t_shop_boxes, .ref a_t_shop_sets, .ref a_t_shop_worths])), (a_t_shop_sets, .inl (cI, 16, .inl f_t_shop_sets)), (a_t_table, .inr (3, [.int t23.2.2.2.2.2.2.2.1, .int t23.2.2.2.2.1, .int t23.2.2.2.2.2.1, .int t23.2.2.2.2.2.2.2.2.1, .int t23.2.2.2.2.2.2.1, .ref a_t_table_sets, .ref a_t_table_clash, .ref a_t_table_near])), (a_t_table_clash, .inl (cI, 16, .inl t23.2.2.2.2.2.2.2.2.2.1)), (a_t_table_near, .inl (cI, 16, .inl t23.2.2.2.2.2.2.2.2.2.2.1)), (a_t_table_sets, .inl (cI, 16, .inl t23.2.2.2.2.2.2.2.2.2.2.2))]) (wf := [(a_t, .inr (8, [.ref a_t_shop, .ref a_t_alike, .ref a_t_images, .ref a_t_text, .ref a_t_fraction, .ref a_t_reader, .ref a_t_table, .ref a_t_keeper, .ref a_t_lister, .ref a_t_player, .ref a_t_openers, .ref a_t_lengths, .ref a_t_ways, .int v_t_bytes, .int v_t_badCalls, .int v_t_noCalls, .int v_t_fullCalls])), (a_t_keeper, .inr (2, [.ref a_t_keeper_weights, .ref a_t_table, .int t23.2.1, .int t23.2.2.1])), (a_t_keeper_weights, .inl (cI, 16, .inl t23.2.2.2.1)), (a_t_lengths, .inl (cI, 16, .inl f_t_lengths)), (a_t_shop, .inr (6, [.int v_t_shop_n, .int v_t_shop_low, .int v_t_shop_high, .int v_t_shop_boxes, .ref a_t_shop_sets, .ref a_t_shop_worths])), (a_t_shop_sets, .inl (cI, 16, .inl f_t_shop_sets)), (a_t_table, .inr (3, [.int t23.2.2.2.2.2.2.2.1, .int t23.2.2.2.2.1, .int t23.2.2.2.2.2.1, .int t23.2.2.2.2.2.2.2.2.1, .int t23.2.2.2.2.2.2.1, .ref a_t_table_sets, .ref a_t_table_clash, .ref a_t_table_near])), (a_t_table_clash, .inl (cI, 16, .inl t23.2.2.2.2.2.2.2.2.2.1)), (a_t_table_near, .inl (cI, 16, .inl t23.2.2.2.2.2.2.2.2.2.2.1)), (a_t_table_sets, .inl (cI, 16, .inl t23.2.2.2.2.2.2.2.2.2.2.2))]) [0, 1, 2, 4, 5, 6, 7, 8, 9] [3] [1, 2, 3, 0, 4, 5, 6, 7, 8, 9] hP hD hS hA rfl rfl rfl (by decide) rfl rfl (nw_runV (As := []) (rest := []) hfix (c_X8_fewestRows l dC dI cI cJ cZ cQ gx a_t a_t_keeper a_t_keeper_weights a_t_shop a_t_shop_sets a_t_table a_t_table_clash a_t_table_near a_t_table_sets a_t_alike a_t_images a_t_text a_t_fraction a_t_reader a_t_lister a_t_player a_t_openers a_t_lengths a_t_ways a_t_shop_worths H.size v_t_bytes v_t_badCalls v_t_noCalls v_t_fullCalls v_t_keeper_best v_t_keeper_bits f_t_keeper_weights v_t_shop_n v_t_shop_low v_t_shop_high v_t_shop_boxes f_t_shop_sets v_t_table_law v_t_table_boxes v_t_table_fit v_t_table_low v_t_table_high f_t_table_clash f_t_table_near f_t_table_sets  t23 hg23) (cwV 0 hts gX8_rows_X8_fewestRows rfl rfl rfl (by decide +kernel) ⟨Nat.le_of_ble_eq_true rfl, Nat.le_of_ble_eq_true rfl⟩) hP hD hK hN hS hA hG [0, 1, 2, 4, 5, 6, 7, 8, 9] rfl rfl 0 8 rfl rfl rfl hl.1 rfl rfl (Nat.le_of_ble_eq_true rfl) dX8_rows_23 ⟨Nat.zero_le _, Nat.zero_le _⟩) (fun H locs hP hD hS => ?_)
      refine lv_goto (tgt := 33) hx hb dX8_rows_26 (by decide) ?_
      have hE : res = ((t23.1, v_t_badCalls, v_t_fullCalls, v_t_noCalls, t23.2.1, t23.2.2.1, t23.2.2.2.1, f_t_lengths, t23.2.2.2.2.1, t23.2.2.2.2.2.1, t23.2.2.2.2.2.2.1, t23.2.2.2.2.2.2.2.1, t23.2.2.2.2.2.2.2.2.1, t23.2.2.2.2.2.2.2.2.2.1, t23.2.2.2.2.2.2.2.2.2.2.1, t23.2.2.2.2.2.2.2.2.2.2.2) : (Int32 × Int32 × Int32 × Int32 × Int32 × Int32 × (Nat → Int32) × (Nat → Int32) × Int32 × Int32 × Int32 × Int32 × Int32 × (Nat → Int32) × (Nat → Int32) × (Nat → Int32))) := ((Option.some.inj hM).trans hX).symm
      rw [hQq, hE]
      exact nw_iret rfl hx hb hr hlocks hK hP hD hS dX8_rows_33
  · have hM := ifp c6 hM
    refine lv_aload_n hx hb dX8_rows_9 rfl (lv_at hl 0 rfl) ?_
    refine lv_bipush (v := (-2 : Int32)) hx hb dX8_rows_10 (by decide) ?_
    refine lv_bipush (v := (-2 : Int32)) hx hb dX8_rows_12 (by decide) ?_
    obtain ⟨t14, hg14, hM⟩ := bd hM
    refine nw_i (wc := [(a_t, .inr (8, [.ref a_t_shop, .ref a_t_alike, .ref a_t_images, .ref a_t_text, .ref a_t_fraction, .ref a_t_reader, .ref a_t_table, .ref a_t_keeper, .ref a_t_lister, .ref a_t_player, .ref a_t_openers, .ref a_t_lengths, .ref a_t_ways, .int v_t_bytes, .int v_t_badCalls, .int v_t_noCalls, .int v_t_fullCalls]))]) (wr := [(a_t_keeper, .inr (2, [.ref a_t_keeper_weights, .ref a_t_table, .int v_t_keeper_best, .int v_t_keeper_bits])), (a_t_keeper_weights, .inl (cI, 16, .inl f_t_keeper_weights)), (a_t_lengths, .inl (cI, 16, .inl f_t_lengths)), (a_t_shop, .inr (6, [.int v_t_shop_n, .int v_t_shop_low, .int v_t_shop_high, .int v_t_shop_boxes, .ref a_t_shop_sets, .ref a_t_shop_worths])), (a_t_shop_sets, .inl (cI, 16, .inl f_t_shop_sets)), (a_t_table, .inr (3, [.int v_t_table_law, .int v_t_table_boxes, .int v_t_table_fit, .int v_t_table_low, .int v_t_table_high, .ref a_t_table_sets, .ref a_t_table_clash, .ref a_t_table_near])), (a_t_table_clash, .inl (cI, 16, .inl f_t_table_clash)), (a_t_table_near, .inl (cI, 16, .inl f_t_table_near)), (a_t_table_sets, .inl (cI, 16, .inl f_t_table_sets))]) (w1 := [(a_t, .inr (8, [.ref a_t_shop, .ref a_t_alike, .ref a_t_images, .ref a_t_text, .ref a_t_fraction, .ref a_t_reader, .ref a_t_table, .ref a_t_keeper, .ref a_t_lister, .ref a_t_player, .ref a_t_openers, .ref a_t_lengths, .ref a_t_ways, .int v_t_bytes, .int t14.2.1, .int t14.2.2.2, .int t14.2.2.1]))]) (wf := [(a_t, .inr (8, [.ref a_t_shop, .ref a_t_alike, .ref a_t_images, .ref a_t_text, .ref a_t_fraction, .ref a_t_reader, .ref a_t_table, .ref a_t_keeper, .ref a_t_lister, .ref a_t_player, .ref a_t_openers, .ref a_t_lengths, .ref a_t_ways, .int v_t_bytes, .int t14.2.1, .int t14.2.2.2, .int t14.2.2.1])), (a_t_keeper, .inr (2, [.ref a_t_keeper_weights, .ref a_t_table, .int v_t_keeper_best, .int v_t_keeper_bits])), (a_t_keeper_weights, .inl (cI, 16, .inl f_t_keeper_weights)), (a_t_lengths, .inl (cI, 16, .inl f_t_lengths)), (a_t_shop, .inr (6, [.int v_t_shop_n, .int v_t_shop_low, .int v_t_shop_high, .int v_t_shop_boxes, .ref a_t_shop_sets, .ref a_t_shop_worths])), (a_t_shop_sets, .inl (cI, 16, .inl f_t_shop_sets)), (a_t_table, .inr (3, [.int v_t_table_law, .int v_t_table_boxes, .int v_t_table_fit, .int v_t_table_low, .int v_t_table_high, .ref a_t_table_sets, .ref a_t_table_clash, .ref a_t_table_near])), (a_t_table_clash, .inl (cI, 16, .inl f_t_table_clash)), (a_t_table_near, .inl (cI, 16, .inl f_t_table_near)), (a_t_table_sets, .inl (cI, 16, .inl f_t_table_sets))]) [0] [1, 2, 3, 4, 5, 6, 7, 8, 9] [9, 0, 1, 2, 3, 4, 5, 6, 7, 8] hP hD hS hA rfl rfl rfl (by decide) rfl rfl (nw_runV (As := [.int (-2 : Int32), .int (-2 : Int32)]) (rest := []) hfix (c_X8_refuse l dC dI cI cJ cZ cQ gx a_t a_t_shop a_t_alike a_t_images a_t_text a_t_fraction a_t_reader a_t_table a_t_keeper a_t_lister a_t_player a_t_openers a_t_lengths a_t_ways H.size v_t_bytes v_t_badCalls v_t_noCalls v_t_fullCalls (-2 : Int32) (-2 : Int32) t14 hg14) (cwV 2 hts gX8_rows_X8_refuse rfl rfl rfl (by decide +kernel) ⟨Nat.le_of_ble_eq_true rfl, Nat.le_of_ble_eq_true rfl⟩) hP hD hK hN hS hA hG [0] rfl rfl 0 8 rfl rfl rfl hl.1 rfl rfl (Nat.le_of_ble_eq_true rfl) dX8_rows_14 ⟨Nat.zero_le _, Nat.zero_le _⟩) (fun H locs hP hD hS => ?_)
    have hE : res = ((t14.1, t14.2.1, t14.2.2.1, t14.2.2.2, v_t_keeper_best, v_t_keeper_bits, f_t_keeper_weights, f_t_lengths, v_t_table_boxes, v_t_table_fit, v_t_table_high, v_t_table_law, v_t_table_low, f_t_table_clash, f_t_table_near, f_t_table_sets) : (Int32 × Int32 × Int32 × Int32 × Int32 × Int32 × (Nat → Int32) × (Nat → Int32) × Int32 × Int32 × Int32 × Int32 × Int32 × (Nat → Int32) × (Nat → Int32) × (Nat → Int32))) := ((Option.some.inj hM).trans hX).symm
    rw [hQq, hE]
    exact nw_iret rfl hx hb hr hlocks hK hP hD hS dX8_rows_17
theorem in_X8_fewestOpening_X6 : ∀ w ∈ wsX60, w ∈ wsX8_fewestOpening := fun _ h => List.mem_cons_of_mem _ (List.mem_append_right _ h)
theorem in_X8_fewestOpening_X8 : ∀ w ∈ wsX80, w ∈ wsX8_fewestOpening := fun _ h => List.mem_cons_of_mem _ (List.mem_append_left _ (List.mem_append_right _ h))
abbrev rm_X8_fewestOpening : Room := { frames := 1, cells := 0, slots := 0, locals := 23 }
set_option maxHeartbeats 4000000 in
set_option maxRecDepth 100000 in
theorem c_X8_fewestOpening (l : Launch) (dC : Nat → ClassId) (dI : Nat → Nat → Nat) (cI cJ cZ cQ : ClassId) (gx : GX) (a_t a_t_openers a_t_shop a_t_shop_sets a_t_alike a_t_images a_t_text a_t_fraction a_t_reader a_t_table a_t_keeper a_t_lister a_t_player a_t_lengths a_t_ways a_t_shop_worths : Nat) (sz : Nat) (v_t_bytes : Int32) (v_t_badCalls : Int32) (v_t_noCalls : Int32) (v_t_fullCalls : Int32) (f_t_openers : (Nat → Int32)) (v_t_shop_n : Int32) (v_t_shop_low : Int32) (v_t_shop_high : Int32) (v_t_shop_boxes : Int32) (f_t_shop_sets : (Nat → Int32)) (p0 : Int32) (res : (Int32 × (Nat → Int32))) (hM : M_X8_fewestOpening f_t_openers v_t_shop_boxes f_t_shop_sets p0 = some res) : Met l yX8_fewestOpening wsX8_fewestOpening rm_X8_fewestOpening (kP dC dI cI cJ cZ cQ gx [.ref a_t, .int p0] sz [(a_t, .inr (8, [.ref a_t_shop, .ref a_t_alike, .ref a_t_images, .ref a_t_text, .ref a_t_fraction, .ref a_t_reader, .ref a_t_table, .ref a_t_keeper, .ref a_t_lister, .ref a_t_player, .ref a_t_openers, .ref a_t_lengths, .ref a_t_ways, .int v_t_bytes, .int v_t_badCalls, .int v_t_noCalls, .int v_t_fullCalls])), (a_t_openers, .inl (cI, 256, .inl f_t_openers)), (a_t_shop, .inr (6, [.int v_t_shop_n, .int v_t_shop_low, .int v_t_shop_high, .int v_t_shop_boxes, .ref a_t_shop_sets, .ref a_t_shop_worths])), (a_t_shop_sets, .inl (cI, 16, .inl f_t_shop_sets))]) (kQi dC dI cI cJ cZ cQ res.1 [(a_t, .inr (8, [.ref a_t_shop, .ref a_t_alike, .ref a_t_images, .ref a_t_text, .ref a_t_fraction, .ref a_t_reader, .ref a_t_table, .ref a_t_keeper, .ref a_t_lister, .ref a_t_player, .ref a_t_openers, .ref a_t_lengths, .ref a_t_ways, .int v_t_bytes, .int v_t_badCalls, .int v_t_noCalls, .int v_t_fullCalls])), (a_t_openers, .inl (cI, 256, .inl res.2)), (a_t_shop, .inr (6, [.int v_t_shop_n, .int v_t_shop_low, .int v_t_shop_high, .int v_t_shop_boxes, .ref a_t_shop_sets, .ref a_t_shop_worths])), (a_t_shop_sets, .inl (cI, 16, .inl f_t_shop_sets))] (va_A [(a_t, .inr (8, [.ref a_t_shop, .ref a_t_alike, .ref a_t_images, .ref a_t_text, .ref a_t_fraction, .ref a_t_reader, .ref a_t_table, .ref a_t_keeper, .ref a_t_lister, .ref a_t_player, .ref a_t_openers, .ref a_t_lengths, .ref a_t_ways, .int v_t_bytes, .int v_t_badCalls, .int v_t_noCalls, .int v_t_fullCalls])), (a_t_openers, .inl (cI, 256, .inl f_t_openers)), (a_t_shop, .inr (6, [.int v_t_shop_n, .int v_t_shop_low, .int v_t_shop_high, .int v_t_shop_boxes, .ref a_t_shop_sets, .ref a_t_shop_worths])), (a_t_shop_sets, .inl (cI, 16, .inl f_t_shop_sets))] sz)) 0 0 (va_A [(a_t, .inr (8, [.ref a_t_shop, .ref a_t_alike, .ref a_t_images, .ref a_t_text, .ref a_t_fraction, .ref a_t_reader, .ref a_t_table, .ref a_t_keeper, .ref a_t_lister, .ref a_t_player, .ref a_t_openers, .ref a_t_lengths, .ref a_t_ways, .int v_t_bytes, .int v_t_badCalls, .int v_t_noCalls, .int v_t_fullCalls])), (a_t_openers, .inl (cI, 256, .inl f_t_openers)), (a_t_shop, .inr (6, [.int v_t_shop_n, .int v_t_shop_low, .int v_t_shop_high, .int v_t_shop_boxes, .ref a_t_shop_sets, .ref a_t_shop_worths])), (a_t_shop_sets, .inl (cI, 16, .inl f_t_shop_sets))] sz) := by
  refine nw_entry (y := yX8_fewestOpening) (ws := wsX8_fewestOpening) (rm := rm_X8_fewestOpening) (sz := sz) (wpre := [(a_t, .inr (8, [.ref a_t_shop, .ref a_t_alike, .ref a_t_images, .ref a_t_text, .ref a_t_fraction, .ref a_t_reader, .ref a_t_table, .ref a_t_keeper, .ref a_t_lister, .ref a_t_player, .ref a_t_openers, .ref a_t_lengths, .ref a_t_ways, .int v_t_bytes, .int v_t_badCalls, .int v_t_noCalls, .int v_t_fullCalls])), (a_t_openers, .inl (cI, 256, .inl f_t_openers)), (a_t_shop, .inr (6, [.int v_t_shop_n, .int v_t_shop_low, .int v_t_shop_high, .int v_t_shop_boxes, .ref a_t_shop_sets, .ref a_t_shop_worths])), (a_t_shop_sets, .inl (cI, 16, .inl f_t_shop_sets))]) (av := [.ref a_t, .int p0]) (Qc := (kQi dC dI cI cJ cZ cQ res.1 [(a_t, .inr (8, [.ref a_t_shop, .ref a_t_alike, .ref a_t_images, .ref a_t_text, .ref a_t_fraction, .ref a_t_reader, .ref a_t_table, .ref a_t_keeper, .ref a_t_lister, .ref a_t_player, .ref a_t_openers, .ref a_t_lengths, .ref a_t_ways, .int v_t_bytes, .int v_t_badCalls, .int v_t_noCalls, .int v_t_fullCalls])), (a_t_openers, .inl (cI, 256, .inl res.2)), (a_t_shop, .inr (6, [.int v_t_shop_n, .int v_t_shop_low, .int v_t_shop_high, .int v_t_shop_boxes, .ref a_t_shop_sets, .ref a_t_shop_worths])), (a_t_shop_sets, .inl (cI, 16, .inl f_t_shop_sets))])) (cc := cX8_fewestOpening) (own := RX8) [(0, .ref a_t), (1, .int p0)] (by decide) rfl rfl (Nat.le_of_ble_eq_true rfl) rfl ?_
  intro p e s m below meth c A ls H locs hfix hr hlocks hin0 hsz0 hP hK hD hA hS hN hG hl
  obtain ⟨hx, hb, hml, hown, hts⟩ := id hfix
  obtain ⟨Qq, hQq⟩ : ∃ Q9, Q9 = (kQi dC dI cI cJ cZ cQ res.1 [(a_t, .inr (8, [.ref a_t_shop, .ref a_t_alike, .ref a_t_images, .ref a_t_text, .ref a_t_fraction, .ref a_t_reader, .ref a_t_table, .ref a_t_keeper, .ref a_t_lister, .ref a_t_player, .ref a_t_openers, .ref a_t_lengths, .ref a_t_ways, .int v_t_bytes, .int v_t_badCalls, .int v_t_noCalls, .int v_t_fullCalls])), (a_t_openers, .inl (cI, 256, .inl res.2)), (a_t_shop, .inr (6, [.int v_t_shop_n, .int v_t_shop_low, .int v_t_shop_high, .int v_t_shop_boxes, .ref a_t_shop_sets, .ref a_t_shop_worths])), (a_t_shop_sets, .inl (cI, 16, .inl f_t_shop_sets))]) := ⟨_, rfl⟩
  rw [← hQq]
  have hX : res = res := rfl
  have hM : (Option.bind (M_J7_fill_53178 256 f_t_openers (1073741824 : Int32)) (fun t7 => ix (0 : Int32) 256 (lpN (fun z => L_X8_fewestOpening_19 p0 v_t_shop_boxes f_t_shop_sets z.1 z.2) fuelK ((0 : Int32), (upd t7 (0 : Int32).toNatClampNeg (0 : Int32)))))) = some res := hM
  refine lv_aload_n hx hb dX8_fewestOpening_0 rfl (lv_at hl 0 rfl) ?_
  refine va_get (D := (dC, dI)) (ci := 8) (v := .ref a_t_openers) (C := RX8) (T := TX8) (N := 17) hx hb hts in_X8_fewestOpening_X8 hown hK hP 0 rfl rfl 10 (by decide) (hts (.fieldLink RX8 75 "NoneWithin" "openers" "[I") (by decide +kernel)) (fun _ h9 => h9) rfl dX8_fewestOpening_1 ?_
  refine lv_ldcw (v := (1073741824 : Int32)) hx hb hown (hts (.constant RX8 290 (1073741824)) (by decide +kernel)) dX8_fewestOpening_4 ?_
  obtain ⟨t7, hg7, hM⟩ := bd hM
  refine nw_v (wc := [(a_t_openers, .inl (cI, 256, .inl f_t_openers))]) (wr := [(a_t, .inr (8, [.ref a_t_shop, .ref a_t_alike, .ref a_t_images, .ref a_t_text, .ref a_t_fraction, .ref a_t_reader, .ref a_t_table, .ref a_t_keeper, .ref a_t_lister, .ref a_t_player, .ref a_t_openers, .ref a_t_lengths, .ref a_t_ways, .int v_t_bytes, .int v_t_badCalls, .int v_t_noCalls, .int v_t_fullCalls])), (a_t_shop, .inr (6, [.int v_t_shop_n, .int v_t_shop_low, .int v_t_shop_high, .int v_t_shop_boxes, .ref a_t_shop_sets, .ref a_t_shop_worths])), (a_t_shop_sets, .inl (cI, 16, .inl f_t_shop_sets))]) (w1 := [(a_t_openers, .inl (cI, 256, .inl t7))]) (wf := [(a_t, .inr (8, [.ref a_t_shop, .ref a_t_alike, .ref a_t_images, .ref a_t_text, .ref a_t_fraction, .ref a_t_reader, .ref a_t_table, .ref a_t_keeper, .ref a_t_lister, .ref a_t_player, .ref a_t_openers, .ref a_t_lengths, .ref a_t_ways, .int v_t_bytes, .int v_t_badCalls, .int v_t_noCalls, .int v_t_fullCalls])), (a_t_openers, .inl (cI, 256, .inl t7)), (a_t_shop, .inr (6, [.int v_t_shop_n, .int v_t_shop_low, .int v_t_shop_high, .int v_t_shop_boxes, .ref a_t_shop_sets, .ref a_t_shop_worths])), (a_t_shop_sets, .inl (cI, 16, .inl f_t_shop_sets))]) [1] [0, 2, 3] [0, 3, 1, 2] hP hD hS hA rfl rfl rfl (by decide) rfl rfl (nw_runS (As := [.ref a_t_openers, .int (1073741824 : Int32)]) (rest := []) hfix (c_J7_fill_53178 l dC dI cI cJ cZ cQ gx 256 a_t_openers H.size f_t_openers (1073741824 : Int32) t7 hg7) (va_cwS 2 hts gX8_fewestOpening_J7_fill_53178 rfl rfl rfl (by decide +kernel) ⟨Nat.le_of_ble_eq_true rfl, Nat.le_of_ble_eq_true rfl⟩) hP hD hK hN hS hA hG [1] rfl rfl hl.1 rfl rfl (Nat.le_of_ble_eq_true rfl) dX8_fewestOpening_7 ⟨Nat.zero_le _, Nat.zero_le _⟩) (fun H locs hP hD hS => ?_)
  refine lv_aload_n hx hb dX8_fewestOpening_10 rfl (lv_at hl 0 rfl) ?_
  refine va_get (D := (dC, dI)) (ci := 8) (v := .ref a_t_openers) (C := RX8) (T := TX8) (N := 17) hx hb hts in_X8_fewestOpening_X8 hown hK hP 0 rfl rfl 10 (by decide) (hts (.fieldLink RX8 75 "NoneWithin" "openers" "[I") (by decide +kernel)) (fun _ h9 => h9) rfl dX8_fewestOpening_11 ?_
  refine lv_iconst (v := (0 : Int32)) hx hb dX8_fewestOpening_14 (by decide) ?_
  refine lv_iconst (v := (0 : Int32)) hx hb dX8_fewestOpening_15 (by decide) ?_
  obtain ⟨hin, hM⟩ := ixp hM
  refine va_iast hx hb hK hP hD hS 1 0 rfl rfl hin dX8_fewestOpening_16 (fun H locs hP hD hS => ?_)
  have hP : va_P (dC, dI) classes [(a_t, .inr (8, [.ref a_t_shop, .ref a_t_alike, .ref a_t_images, .ref a_t_text, .ref a_t_fraction, .ref a_t_reader, .ref a_t_table, .ref a_t_keeper, .ref a_t_lister, .ref a_t_player, .ref a_t_openers, .ref a_t_lengths, .ref a_t_ways, .int v_t_bytes, .int v_t_badCalls, .int v_t_noCalls, .int v_t_fullCalls])), (a_t_openers, .inl (cI, 256, .inl (upd t7 (0 : Int32).toNatClampNeg (0 : Int32)))), (a_t_shop, .inr (6, [.int v_t_shop_n, .int v_t_shop_low, .int v_t_shop_high, .int v_t_shop_boxes, .ref a_t_shop_sets, .ref a_t_shop_worths])), (a_t_shop_sets, .inl (cI, 16, .inl f_t_shop_sets))] H := hP
  have hD : va_D A [(a_t, .inr (8, [.ref a_t_shop, .ref a_t_alike, .ref a_t_images, .ref a_t_text, .ref a_t_fraction, .ref a_t_reader, .ref a_t_table, .ref a_t_keeper, .ref a_t_lister, .ref a_t_player, .ref a_t_openers, .ref a_t_lengths, .ref a_t_ways, .int v_t_bytes, .int v_t_badCalls, .int v_t_noCalls, .int v_t_fullCalls])), (a_t_openers, .inl (cI, 256, .inl (upd t7 (0 : Int32).toNatClampNeg (0 : Int32)))), (a_t_shop, .inr (6, [.int v_t_shop_n, .int v_t_shop_low, .int v_t_shop_high, .int v_t_shop_boxes, .ref a_t_shop_sets, .ref a_t_shop_worths])), (a_t_shop_sets, .inl (cI, 16, .inl f_t_shop_sets))] := hD
  refine lv_iconst (v := (0 : Int32)) hx hb dX8_fewestOpening_17 (by decide) ?_
  refine lv_istore_n (lv' := [(2, .int (0 : Int32)), (0, .ref a_t), (1, .int p0)]) hx hb dX8_fewestOpening_18 rfl hl (by decide) rfl (fun ls hl => ?_)
  obtain ⟨W19, hW19⟩ : ∃ W9 : Int32 → (Nat → Int32) → Prop, W9 = fun (y19_2 : Int32) (y19_f_t_openers : (Nat → Int32)) => ∀ (H : Heap) (locs : List Loc) (ls : Array Slot), va_P (dC, dI) classes [(a_t, .inr (8, [.ref a_t_shop, .ref a_t_alike, .ref a_t_images, .ref a_t_text, .ref a_t_fraction, .ref a_t_reader, .ref a_t_table, .ref a_t_keeper, .ref a_t_lister, .ref a_t_player, .ref a_t_openers, .ref a_t_lengths, .ref a_t_ways, .int v_t_bytes, .int v_t_badCalls, .int v_t_noCalls, .int v_t_fullCalls])), (a_t_openers, .inl (cI, 256, .inl y19_f_t_openers)), (a_t_shop, .inr (6, [.int v_t_shop_n, .int v_t_shop_low, .int v_t_shop_high, .int v_t_shop_boxes, .ref a_t_shop_sets, .ref a_t_shop_worths])), (a_t_shop_sets, .inl (cI, 16, .inl f_t_shop_sets))] H → va_D A [(a_t, .inr (8, [.ref a_t_shop, .ref a_t_alike, .ref a_t_images, .ref a_t_text, .ref a_t_fraction, .ref a_t_reader, .ref a_t_table, .ref a_t_keeper, .ref a_t_lister, .ref a_t_player, .ref a_t_openers, .ref a_t_lengths, .ref a_t_ways, .int v_t_bytes, .int v_t_badCalls, .int v_t_noCalls, .int v_t_fullCalls])), (a_t_openers, .inl (cI, 256, .inl y19_f_t_openers)), (a_t_shop, .inr (6, [.int v_t_shop_n, .int v_t_shop_low, .int v_t_shop_high, .int v_t_shop_boxes, .ref a_t_shop_sets, .ref a_t_shop_worths])), (a_t_shop_sets, .inl (cI, 16, .inl f_t_shop_sets))] → va_S A s.heap H locs → lv_has ls 6 [(0, .ref a_t), (1, .int p0), (2, .int y19_2)] → W p l e rm_X8_fewestOpening s m ([.ref a_t, .int p0] : List Value).toArray below meth c H locs 0 0 (MQ below (Qq A) ([.ref a_t, .int p0] : List Value).toArray s 0 0 A) (F0 m 19 ls []) := ⟨_, rfl⟩
  have hst : ∀ (z : (Int32 × (Nat → Int32))) (x : ((Int32 × (Nat → Int32)) ⊕ (Int32 × (Nat → Int32)))), (fun z => L_X8_fewestOpening_19 p0 v_t_shop_boxes f_t_shop_sets z.1 z.2) z = some x → ((∀ z', x = Sum.inl z' → W19 z'.1 z'.2) ∧ (∀ t_19, x = Sum.inr t_19 → t_19 = res)) → W19 z.1 z.2 := by
    rintro ⟨y19_2, y19_f_t_openers⟩ x hM hX
    have hM : L_X8_fewestOpening_19 p0 v_t_shop_boxes f_t_shop_sets y19_2 y19_f_t_openers = some x := hM
    show W19 y19_2 y19_f_t_openers
    rw [hW19]
    intro H locs ls hP hD hS hl
    have hM : (if v_t_shop_boxes ≤ y19_2 then (((ix p0 256 (if (y19_f_t_openers p0.toNatClampNeg) = (1073741824 : Int32) then (some ((-1 : Int32), y19_f_t_openers)) else (ix p0 256 (some ((y19_f_t_openers p0.toNatClampNeg), y19_f_t_openers)))))).map Sum.inr) else (lpN (fun z => L_X8_fewestOpening_41 p0 y19_2 ((65536 : Int32) + ((1 : Int32) <<< (y19_2 &&& 31))) v_t_shop_boxes f_t_shop_sets z.1 z.2) fuelK ((1 : Int32), y19_f_t_openers))) = some x := hM
    refine lv_iload_n hx hb dX8_fewestOpening_19 rfl (lv_at hl 2 rfl) ?_
    refine lv_aload_n hx hb dX8_fewestOpening_20 rfl (lv_at hl 0 rfl) ?_
    refine va_get (D := (dC, dI)) (ci := 8) (v := .ref a_t_shop) (C := RX8) (T := TX8) (N := 17) hx hb hts in_X8_fewestOpening_X8 hown hK hP 0 rfl rfl 0 (by decide) (hts (.fieldLink RX8 12 "NoneWithin" "shop" "LNoneWithin$Shop;") (by decide +kernel)) (fun _ h9 => h9) rfl dX8_fewestOpening_21 ?_
    refine va_get (D := (dC, dI)) (ci := 6) (v := .int v_t_shop_boxes) (C := RX6) (T := TX6) (N := 6) hx hb hts in_X8_fewestOpening_X6 hown hK hP 2 rfl rfl 3 (by decide) (hts (.fieldLink RX8 98 "NoneWithin$Shop" "boxes" "I") (by decide +kernel)) (fun _ h9 => h9) rfl dX8_fewestOpening_24 ?_
    refine lv_icmp_ge (tgt := 122) hx hb dX8_fewestOpening_27 (by decide) (fun c27 => ?_) (fun c27 => ?_)
    · have hM := ifp c27 hM
      obtain ⟨x, hMn, hxe⟩ := mpr hM
      have hX := hX.2 _ hxe
      have hM := hMn
      refine lv_aload_n hx hb dX8_fewestOpening_122 rfl (lv_at hl 0 rfl) ?_
      refine va_get (D := (dC, dI)) (ci := 8) (v := .ref a_t_openers) (C := RX8) (T := TX8) (N := 17) hx hb hts in_X8_fewestOpening_X8 hown hK hP 0 rfl rfl 10 (by decide) (hts (.fieldLink RX8 75 "NoneWithin" "openers" "[I") (by decide +kernel)) (fun _ h9 => h9) rfl dX8_fewestOpening_123 ?_
      refine lv_iload_n hx hb dX8_fewestOpening_126 rfl (lv_at hl 1 rfl) ?_
      obtain ⟨hin, hM⟩ := ixp hM
      refine va_iald hx hb hK hP 1 0 rfl rfl hin dX8_fewestOpening_127 ?_
      refine lv_ldcw (v := (1073741824 : Int32)) hx hb hown (hts (.constant RX8 290 (1073741824)) (by decide +kernel)) dX8_fewestOpening_128 ?_
      refine lv_icmp_ne (tgt := 138) hx hb dX8_fewestOpening_131 (by decide) (fun c131 => ?_) (fun c131 => ?_)
      · have hM := ifn c131 hM
        refine lv_aload_n hx hb dX8_fewestOpening_138 rfl (lv_at hl 0 rfl) ?_
        refine va_get (D := (dC, dI)) (ci := 8) (v := .ref a_t_openers) (C := RX8) (T := TX8) (N := 17) hx hb hts in_X8_fewestOpening_X8 hown hK hP 0 rfl rfl 10 (by decide) (hts (.fieldLink RX8 75 "NoneWithin" "openers" "[I") (by decide +kernel)) (fun _ h9 => h9) rfl dX8_fewestOpening_139 ?_
        refine lv_iload_n hx hb dX8_fewestOpening_142 rfl (lv_at hl 1 rfl) ?_
        obtain ⟨hin, hM⟩ := ixp hM
        refine va_iald hx hb hK hP 1 0 rfl rfl hin dX8_fewestOpening_143 ?_
        have hE : res = (((y19_f_t_openers p0.toNatClampNeg), y19_f_t_openers) : (Int32 × (Nat → Int32))) := ((Option.some.inj hM).trans hX).symm
        rw [hQq, hE]
        exact nw_iret rfl hx hb hr hlocks hK hP hD hS dX8_fewestOpening_144
      · have hM := ifp c131 hM
        refine lv_iconst (v := (-1 : Int32)) hx hb dX8_fewestOpening_134 (by decide) ?_
        refine lv_goto (tgt := 144) hx hb dX8_fewestOpening_135 (by decide) ?_
        have hE : res = (((-1 : Int32), y19_f_t_openers) : (Int32 × (Nat → Int32))) := ((Option.some.inj hM).trans hX).symm
        rw [hQq, hE]
        exact nw_iret rfl hx hb hr hlocks hK hP hD hS dX8_fewestOpening_144
    · have hM := ifn c27 hM
      refine lv_ldcw (v := (65536 : Int32)) hx hb hown (hts (.constant RX8 297 (65536)) (by decide +kernel)) dX8_fewestOpening_30 ?_
      refine lv_iconst (v := (1 : Int32)) hx hb dX8_fewestOpening_33 (by decide) ?_
      refine lv_iload_n hx hb dX8_fewestOpening_34 rfl (lv_at hl 2 rfl) ?_
      refine lv_ishl hx hb dX8_fewestOpening_35 ?_
      refine lv_iadd hx hb dX8_fewestOpening_36 ?_
      refine lv_istore_n (lv' := [(3, .int ((65536 : Int32) + ((1 : Int32) <<< (y19_2 &&& 31)))), (0, .ref a_t), (1, .int p0), (2, .int y19_2)]) hx hb dX8_fewestOpening_37 rfl hl (by decide) rfl (fun ls hl => ?_)
      refine lv_iconst (v := (1 : Int32)) hx hb dX8_fewestOpening_38 (by decide) ?_
      refine lv_istore (lv' := [(4, .int (1 : Int32)), (3, .int ((65536 : Int32) + ((1 : Int32) <<< (y19_2 &&& 31)))), (0, .ref a_t), (1, .int p0), (2, .int y19_2)]) hx hb dX8_fewestOpening_39 hl (by decide) rfl (fun ls hl => ?_)
      obtain ⟨W41, hW41⟩ : ∃ W9 : Int32 → (Nat → Int32) → Prop, W9 = fun (y41_4 : Int32) (y41_f_t_openers : (Nat → Int32)) => ∀ (H : Heap) (locs : List Loc) (ls : Array Slot), va_P (dC, dI) classes [(a_t, .inr (8, [.ref a_t_shop, .ref a_t_alike, .ref a_t_images, .ref a_t_text, .ref a_t_fraction, .ref a_t_reader, .ref a_t_table, .ref a_t_keeper, .ref a_t_lister, .ref a_t_player, .ref a_t_openers, .ref a_t_lengths, .ref a_t_ways, .int v_t_bytes, .int v_t_badCalls, .int v_t_noCalls, .int v_t_fullCalls])), (a_t_openers, .inl (cI, 256, .inl y41_f_t_openers)), (a_t_shop, .inr (6, [.int v_t_shop_n, .int v_t_shop_low, .int v_t_shop_high, .int v_t_shop_boxes, .ref a_t_shop_sets, .ref a_t_shop_worths])), (a_t_shop_sets, .inl (cI, 16, .inl f_t_shop_sets))] H → va_D A [(a_t, .inr (8, [.ref a_t_shop, .ref a_t_alike, .ref a_t_images, .ref a_t_text, .ref a_t_fraction, .ref a_t_reader, .ref a_t_table, .ref a_t_keeper, .ref a_t_lister, .ref a_t_player, .ref a_t_openers, .ref a_t_lengths, .ref a_t_ways, .int v_t_bytes, .int v_t_badCalls, .int v_t_noCalls, .int v_t_fullCalls])), (a_t_openers, .inl (cI, 256, .inl y41_f_t_openers)), (a_t_shop, .inr (6, [.int v_t_shop_n, .int v_t_shop_low, .int v_t_shop_high, .int v_t_shop_boxes, .ref a_t_shop_sets, .ref a_t_shop_worths])), (a_t_shop_sets, .inl (cI, 16, .inl f_t_shop_sets))] → va_S A s.heap H locs → lv_has ls 6 [(0, .ref a_t), (1, .int p0), (2, .int y19_2), (3, .int ((65536 : Int32) + ((1 : Int32) <<< (y19_2 &&& 31)))), (4, .int y41_4)] → W p l e rm_X8_fewestOpening s m ([.ref a_t, .int p0] : List Value).toArray below meth c H locs 0 0 (MQ below (Qq A) ([.ref a_t, .int p0] : List Value).toArray s 0 0 A) (F0 m 41 ls []) := ⟨_, rfl⟩
      have hst : ∀ (z : (Int32 × (Nat → Int32))) (x : ((Int32 × (Nat → Int32)) ⊕ ((Int32 × (Nat → Int32)) ⊕ (Int32 × (Nat → Int32))))), (fun z => L_X8_fewestOpening_41 p0 y19_2 ((65536 : Int32) + ((1 : Int32) <<< (y19_2 &&& 31))) v_t_shop_boxes f_t_shop_sets z.1 z.2) z = some x → ((∀ z', x = Sum.inl z' → W41 z'.1 z'.2) ∧ (∀ t_41, x = Sum.inr t_41 → ((∀ z', t_41 = Sum.inl z' → W19 z'.1 z'.2) ∧ (∀ t_19, t_41 = Sum.inr t_19 → t_19 = res)))) → W41 z.1 z.2 := by
        rintro ⟨y41_4, y41_f_t_openers⟩ x hM hX
        have hM : L_X8_fewestOpening_41 p0 y19_2 ((65536 : Int32) + ((1 : Int32) <<< (y19_2 &&& 31))) v_t_shop_boxes f_t_shop_sets y41_4 y41_f_t_openers = some x := hM
        show W41 y41_4 y41_f_t_openers
        rw [hW41]
        intro H locs ls hP hD hS hl
        have hM : (if p0 < y41_4 then (((some (Sum.inl ((y19_2 + (1 : Int32)), y41_f_t_openers)))).map Sum.inr) else (ix y19_2 16 (ix (y41_4 &&& ((f_t_shop_sets y19_2.toNatClampNeg) ^^^ (-1 : Int32))) 256 (if (y41_4 &&& (p0 ^^^ (-1 : Int32))) = 0 then (if (y41_f_t_openers (y41_4 &&& ((f_t_shop_sets y19_2.toNatClampNeg) ^^^ (-1 : Int32))).toNatClampNeg) = (1073741824 : Int32) then (some (Sum.inl ((y41_4 + (1 : Int32)), y41_f_t_openers))) else (ix y41_4 256 (if (y41_f_t_openers y41_4.toNatClampNeg) ≤ ((y41_f_t_openers (y41_4 &&& ((f_t_shop_sets y19_2.toNatClampNeg) ^^^ (-1 : Int32))).toNatClampNeg) + ((65536 : Int32) + ((1 : Int32) <<< (y19_2 &&& 31)))) then (some (Sum.inl ((y41_4 + (1 : Int32)), y41_f_t_openers))) else (ix y41_4 256 (some (Sum.inl ((y41_4 + (1 : Int32)), (upd y41_f_t_openers y41_4.toNatClampNeg ((y41_f_t_openers (y41_4 &&& ((f_t_shop_sets y19_2.toNatClampNeg) ^^^ (-1 : Int32))).toNatClampNeg) + ((65536 : Int32) + ((1 : Int32) <<< (y19_2 &&& 31)))))))))))) else (some (Sum.inl ((y41_4 + (1 : Int32)), y41_f_t_openers))))))) = some x := hM
        refine lv_iload hx hb dX8_fewestOpening_41 (lv_at hl 4 rfl) ?_
        refine lv_iload_n hx hb dX8_fewestOpening_43 rfl (lv_at hl 1 rfl) ?_
        refine lv_icmp_gt (tgt := 116) hx hb dX8_fewestOpening_44 (by decide) (fun c44 => ?_) (fun c44 => ?_)
        · have hM := ifp c44 hM
          obtain ⟨x, hMn, hxe⟩ := mpr hM
          have hX := hX.2 _ hxe
          have hM := hMn
          refine lv_iinc (v := (y19_2 + (1 : Int32))) (lv' := [(2, .int (y19_2 + (1 : Int32))), (0, .ref a_t), (1, .int p0), (3, .int ((65536 : Int32) + ((1 : Int32) <<< (y19_2 &&& 31)))), (4, .int y41_4)]) hx hb dX8_fewestOpening_116 hl (k := 2) rfl rfl (by decide) rfl (fun ls hl => ?_)
          refine lv_goto (tgt := 19) hx hb dX8_fewestOpening_119 (by decide) ?_
          have hw := hX.1 _ (Option.some.inj hM).symm
          rw [hW19] at hw
          exact hw H locs ls hP hD hS (lv_sub hl [1, 2, 0] rfl)
        · have hM := ifn c44 hM
          refine lv_aload_n hx hb dX8_fewestOpening_47 rfl (lv_at hl 0 rfl) ?_
          refine va_get (D := (dC, dI)) (ci := 8) (v := .ref a_t_openers) (C := RX8) (T := TX8) (N := 17) hx hb hts in_X8_fewestOpening_X8 hown hK hP 0 rfl rfl 10 (by decide) (hts (.fieldLink RX8 75 "NoneWithin" "openers" "[I") (by decide +kernel)) (fun _ h9 => h9) rfl dX8_fewestOpening_48 ?_
          refine lv_iload hx hb dX8_fewestOpening_51 (lv_at hl 4 rfl) ?_
          refine lv_aload_n hx hb dX8_fewestOpening_53 rfl (lv_at hl 0 rfl) ?_
          refine va_get (D := (dC, dI)) (ci := 8) (v := .ref a_t_shop) (C := RX8) (T := TX8) (N := 17) hx hb hts in_X8_fewestOpening_X8 hown hK hP 0 rfl rfl 0 (by decide) (hts (.fieldLink RX8 12 "NoneWithin" "shop" "LNoneWithin$Shop;") (by decide +kernel)) (fun _ h9 => h9) rfl dX8_fewestOpening_54 ?_
          refine va_get (D := (dC, dI)) (ci := 6) (v := .ref a_t_shop_sets) (C := RX6) (T := TX6) (N := 6) hx hb hts in_X8_fewestOpening_X6 hown hK hP 2 rfl rfl 4 (by decide) (hts (.fieldLink RX8 118 "NoneWithin$Shop" "sets" "[I") (by decide +kernel)) (fun _ h9 => h9) rfl dX8_fewestOpening_57 ?_
          refine lv_iload_n hx hb dX8_fewestOpening_60 rfl (lv_at hl 2 rfl) ?_
          obtain ⟨hin, hM⟩ := ixp hM
          refine va_iald hx hb hK hP 3 0 rfl rfl hin dX8_fewestOpening_61 ?_
          refine lv_iconst (v := (-1 : Int32)) hx hb dX8_fewestOpening_62 (by decide) ?_
          refine lv_ixor hx hb dX8_fewestOpening_63 ?_
          refine lv_iand hx hb dX8_fewestOpening_64 ?_
          obtain ⟨hin, hM⟩ := ixp hM
          refine va_iald hx hb hK hP 1 0 rfl rfl hin dX8_fewestOpening_65 ?_
          refine lv_istore (lv' := [(5, .int (y41_f_t_openers (y41_4 &&& ((f_t_shop_sets y19_2.toNatClampNeg) ^^^ (-1 : Int32))).toNatClampNeg)), (0, .ref a_t), (1, .int p0), (2, .int y19_2), (3, .int ((65536 : Int32) + ((1 : Int32) <<< (y19_2 &&& 31)))), (4, .int y41_4)]) hx hb dX8_fewestOpening_66 hl (by decide) rfl (fun ls hl => ?_)
          refine lv_iload hx hb dX8_fewestOpening_68 (lv_at hl 5 rfl) ?_
          refine lv_iload_n hx hb dX8_fewestOpening_70 rfl (lv_at hl 2 rfl) ?_
          refine lv_iconst (v := (-1 : Int32)) hx hb dX8_fewestOpening_71 (by decide) ?_
          refine lv_ixor hx hb dX8_fewestOpening_72 ?_
          refine lv_iand hx hb dX8_fewestOpening_73 ?_
          refine lv_if_ne (tgt := 110) hx hb dX8_fewestOpening_74 (by decide) (fun c74 => ?_) (fun c74 => ?_)
          · have hM := ifn c74 hM
            refine lv_iinc (v := (y41_4 + (1 : Int32))) (lv' := [(4, .int (y41_4 + (1 : Int32))), (5, .int (y41_f_t_openers (y41_4 &&& ((f_t_shop_sets y19_2.toNatClampNeg) ^^^ (-1 : Int32))).toNatClampNeg)), (0, .ref a_t), (1, .int p0), (2, .int y19_2), (3, .int ((65536 : Int32) + ((1 : Int32) <<< (y19_2 &&& 31))))]) hx hb dX8_fewestOpening_110 hl (k := 5) rfl rfl (by decide) rfl (fun ls hl => ?_)
            refine lv_goto (tgt := 41) hx hb dX8_fewestOpening_113 (by decide) ?_
            have hw := hX.1 _ (Option.some.inj hM).symm
            rw [hW41] at hw
            exact hw H locs ls hP hD hS (lv_sub hl [2, 3, 4, 5, 0] rfl)
          · have hM := ifp c74 hM
            refine lv_iload hx hb dX8_fewestOpening_77 (lv_at hl 0 rfl) ?_
            refine lv_ldcw (v := (1073741824 : Int32)) hx hb hown (hts (.constant RX8 290 (1073741824)) (by decide +kernel)) dX8_fewestOpening_79 ?_
            refine lv_icmp_eq (tgt := 110) hx hb dX8_fewestOpening_82 (by decide) (fun c82 => ?_) (fun c82 => ?_)
            · have hM := ifp c82 hM
              refine lv_iinc (v := (y41_4 + (1 : Int32))) (lv' := [(4, .int (y41_4 + (1 : Int32))), (5, .int (y41_f_t_openers (y41_4 &&& ((f_t_shop_sets y19_2.toNatClampNeg) ^^^ (-1 : Int32))).toNatClampNeg)), (0, .ref a_t), (1, .int p0), (2, .int y19_2), (3, .int ((65536 : Int32) + ((1 : Int32) <<< (y19_2 &&& 31))))]) hx hb dX8_fewestOpening_110 hl (k := 5) rfl rfl (by decide) rfl (fun ls hl => ?_)
              refine lv_goto (tgt := 41) hx hb dX8_fewestOpening_113 (by decide) ?_
              have hw := hX.1 _ (Option.some.inj hM).symm
              rw [hW41] at hw
              exact hw H locs ls hP hD hS (lv_sub hl [2, 3, 4, 5, 0] rfl)
            · have hM := ifn c82 hM
              refine lv_iload hx hb dX8_fewestOpening_85 (lv_at hl 0 rfl) ?_
              refine lv_iload_n hx hb dX8_fewestOpening_87 rfl (lv_at hl 4 rfl) ?_
              refine lv_iadd hx hb dX8_fewestOpening_88 ?_
              refine lv_aload_n hx hb dX8_fewestOpening_89 rfl (lv_at hl 1 rfl) ?_
              refine va_get (D := (dC, dI)) (ci := 8) (v := .ref a_t_openers) (C := RX8) (T := TX8) (N := 17) hx hb hts in_X8_fewestOpening_X8 hown hK hP 0 rfl rfl 10 (by decide) (hts (.fieldLink RX8 75 "NoneWithin" "openers" "[I") (by decide +kernel)) (fun _ h9 => h9) rfl dX8_fewestOpening_90 ?_
              refine lv_iload hx hb dX8_fewestOpening_93 (lv_at hl 5 rfl) ?_
              obtain ⟨hin, hM⟩ := ixp hM
              refine va_iald hx hb hK hP 1 0 rfl rfl hin dX8_fewestOpening_95 ?_
              refine lv_icmp_ge (tgt := 110) hx hb dX8_fewestOpening_96 (by decide) (fun c96 => ?_) (fun c96 => ?_)
              · have hM := ifp c96 hM
                refine lv_iinc (v := (y41_4 + (1 : Int32))) (lv' := [(4, .int (y41_4 + (1 : Int32))), (5, .int (y41_f_t_openers (y41_4 &&& ((f_t_shop_sets y19_2.toNatClampNeg) ^^^ (-1 : Int32))).toNatClampNeg)), (0, .ref a_t), (1, .int p0), (2, .int y19_2), (3, .int ((65536 : Int32) + ((1 : Int32) <<< (y19_2 &&& 31))))]) hx hb dX8_fewestOpening_110 hl (k := 5) rfl rfl (by decide) rfl (fun ls hl => ?_)
                refine lv_goto (tgt := 41) hx hb dX8_fewestOpening_113 (by decide) ?_
                have hw := hX.1 _ (Option.some.inj hM).symm
                rw [hW41] at hw
                exact hw H locs ls hP hD hS (lv_sub hl [2, 3, 4, 5, 0] rfl)
              · have hM := ifn c96 hM
                refine lv_aload_n hx hb dX8_fewestOpening_99 rfl (lv_at hl 1 rfl) ?_
                refine va_get (D := (dC, dI)) (ci := 8) (v := .ref a_t_openers) (C := RX8) (T := TX8) (N := 17) hx hb hts in_X8_fewestOpening_X8 hown hK hP 0 rfl rfl 10 (by decide) (hts (.fieldLink RX8 75 "NoneWithin" "openers" "[I") (by decide +kernel)) (fun _ h9 => h9) rfl dX8_fewestOpening_100 ?_
                refine lv_iload hx hb dX8_fewestOpening_103 (lv_at hl 5 rfl) ?_
                refine lv_iload hx hb dX8_fewestOpening_105 (lv_at hl 0 rfl) ?_
                refine lv_iload_n hx hb dX8_fewestOpening_107 rfl (lv_at hl 4 rfl) ?_
                refine lv_iadd hx hb dX8_fewestOpening_108 ?_
                obtain ⟨hin, hM⟩ := ixp hM
                refine va_iast hx hb hK hP hD hS 1 0 rfl rfl hin dX8_fewestOpening_109 (fun H locs hP hD hS => ?_)
                have hP : va_P (dC, dI) classes [(a_t, .inr (8, [.ref a_t_shop, .ref a_t_alike, .ref a_t_images, .ref a_t_text, .ref a_t_fraction, .ref a_t_reader, .ref a_t_table, .ref a_t_keeper, .ref a_t_lister, .ref a_t_player, .ref a_t_openers, .ref a_t_lengths, .ref a_t_ways, .int v_t_bytes, .int v_t_badCalls, .int v_t_noCalls, .int v_t_fullCalls])), (a_t_openers, .inl (cI, 256, .inl (upd y41_f_t_openers y41_4.toNatClampNeg ((y41_f_t_openers (y41_4 &&& ((f_t_shop_sets y19_2.toNatClampNeg) ^^^ (-1 : Int32))).toNatClampNeg) + ((65536 : Int32) + ((1 : Int32) <<< (y19_2 &&& 31))))))), (a_t_shop, .inr (6, [.int v_t_shop_n, .int v_t_shop_low, .int v_t_shop_high, .int v_t_shop_boxes, .ref a_t_shop_sets, .ref a_t_shop_worths])), (a_t_shop_sets, .inl (cI, 16, .inl f_t_shop_sets))] H := hP
                have hD : va_D A [(a_t, .inr (8, [.ref a_t_shop, .ref a_t_alike, .ref a_t_images, .ref a_t_text, .ref a_t_fraction, .ref a_t_reader, .ref a_t_table, .ref a_t_keeper, .ref a_t_lister, .ref a_t_player, .ref a_t_openers, .ref a_t_lengths, .ref a_t_ways, .int v_t_bytes, .int v_t_badCalls, .int v_t_noCalls, .int v_t_fullCalls])), (a_t_openers, .inl (cI, 256, .inl (upd y41_f_t_openers y41_4.toNatClampNeg ((y41_f_t_openers (y41_4 &&& ((f_t_shop_sets y19_2.toNatClampNeg) ^^^ (-1 : Int32))).toNatClampNeg) + ((65536 : Int32) + ((1 : Int32) <<< (y19_2 &&& 31))))))), (a_t_shop, .inr (6, [.int v_t_shop_n, .int v_t_shop_low, .int v_t_shop_high, .int v_t_shop_boxes, .ref a_t_shop_sets, .ref a_t_shop_worths])), (a_t_shop_sets, .inl (cI, 16, .inl f_t_shop_sets))] := hD
                refine lv_iinc (v := (y41_4 + (1 : Int32))) (lv' := [(4, .int (y41_4 + (1 : Int32))), (5, .int (y41_f_t_openers (y41_4 &&& ((f_t_shop_sets y19_2.toNatClampNeg) ^^^ (-1 : Int32))).toNatClampNeg)), (0, .ref a_t), (1, .int p0), (2, .int y19_2), (3, .int ((65536 : Int32) + ((1 : Int32) <<< (y19_2 &&& 31))))]) hx hb dX8_fewestOpening_110 hl (k := 5) rfl rfl (by decide) rfl (fun ls hl => ?_)
                refine lv_goto (tgt := 41) hx hb dX8_fewestOpening_113 (by decide) ?_
                have hw := hX.1 _ (Option.some.inj hM).symm
                rw [hW41] at hw
                exact hw H locs ls hP hD hS (lv_sub hl [2, 3, 4, 5, 0] rfl)
      have hw := lp_walk (Wp := fun z => W41 z.1 z.2) (X := fun t => ((∀ z', t = Sum.inl z' → W19 z'.1 z'.2) ∧ (∀ t_19, t = Sum.inr t_19 → t_19 = res))) hst _ _ _ hM hX
      rw [hW41] at hw
      exact hw H locs ls hP hD hS (lv_sub hl [2, 3, 4, 1, 0] rfl)
  have hw := lp_walk (Wp := fun z => W19 z.1 z.2) (X := fun t => t = res) hst _ _ _ hM hX
  rw [hW19] at hw
  exact hw H locs ls hP hD hS (lv_sub hl [1, 2, 0] rfl)
abbrev rm_X8_opens : Room := { frames := 2, cells := 0, slots := 0, locals := 48 }
set_option maxHeartbeats 4000000 in
set_option maxRecDepth 100000 in
theorem c_X8_opens (l : Launch) (dC : Nat → ClassId) (dI : Nat → Nat → Nat) (cI cJ cZ cQ : ClassId) (gx : GX) (a_t a_t_openers a_t_shop a_t_shop_sets a_t_alike a_t_images a_t_text a_t_fraction a_t_reader a_t_table a_t_keeper a_t_lister a_t_player a_t_lengths a_t_ways a_t_shop_worths : Nat) (sz : Nat) (v_t_bytes : Int32) (v_t_badCalls : Int32) (v_t_noCalls : Int32) (v_t_fullCalls : Int32) (f_t_openers : (Nat → Int32)) (v_t_shop_n : Int32) (v_t_shop_low : Int32) (v_t_shop_high : Int32) (v_t_shop_boxes : Int32) (f_t_shop_sets : (Nat → Int32)) (p0 : Int32) (p1 : Int32) (res : (Int32 × Int32 × Int32 × Int32 × (Nat → Int32))) (hM : M_X8_opens v_t_badCalls v_t_fullCalls v_t_noCalls f_t_openers v_t_shop_boxes v_t_shop_n f_t_shop_sets p0 p1 = some res) : Met l yX8_opens wsX8_opens rm_X8_opens (kP dC dI cI cJ cZ cQ gx [.ref a_t, .int p0, .int p1] sz [(a_t, .inr (8, [.ref a_t_shop, .ref a_t_alike, .ref a_t_images, .ref a_t_text, .ref a_t_fraction, .ref a_t_reader, .ref a_t_table, .ref a_t_keeper, .ref a_t_lister, .ref a_t_player, .ref a_t_openers, .ref a_t_lengths, .ref a_t_ways, .int v_t_bytes, .int v_t_badCalls, .int v_t_noCalls, .int v_t_fullCalls])), (a_t_openers, .inl (cI, 256, .inl f_t_openers)), (a_t_shop, .inr (6, [.int v_t_shop_n, .int v_t_shop_low, .int v_t_shop_high, .int v_t_shop_boxes, .ref a_t_shop_sets, .ref a_t_shop_worths])), (a_t_shop_sets, .inl (cI, 16, .inl f_t_shop_sets))]) (kQi dC dI cI cJ cZ cQ res.1 [(a_t, .inr (8, [.ref a_t_shop, .ref a_t_alike, .ref a_t_images, .ref a_t_text, .ref a_t_fraction, .ref a_t_reader, .ref a_t_table, .ref a_t_keeper, .ref a_t_lister, .ref a_t_player, .ref a_t_openers, .ref a_t_lengths, .ref a_t_ways, .int v_t_bytes, .int res.2.1, .int res.2.2.2.1, .int res.2.2.1])), (a_t_openers, .inl (cI, 256, .inl res.2.2.2.2)), (a_t_shop, .inr (6, [.int v_t_shop_n, .int v_t_shop_low, .int v_t_shop_high, .int v_t_shop_boxes, .ref a_t_shop_sets, .ref a_t_shop_worths])), (a_t_shop_sets, .inl (cI, 16, .inl f_t_shop_sets))] (va_A [(a_t, .inr (8, [.ref a_t_shop, .ref a_t_alike, .ref a_t_images, .ref a_t_text, .ref a_t_fraction, .ref a_t_reader, .ref a_t_table, .ref a_t_keeper, .ref a_t_lister, .ref a_t_player, .ref a_t_openers, .ref a_t_lengths, .ref a_t_ways, .int v_t_bytes, .int v_t_badCalls, .int v_t_noCalls, .int v_t_fullCalls])), (a_t_openers, .inl (cI, 256, .inl f_t_openers)), (a_t_shop, .inr (6, [.int v_t_shop_n, .int v_t_shop_low, .int v_t_shop_high, .int v_t_shop_boxes, .ref a_t_shop_sets, .ref a_t_shop_worths])), (a_t_shop_sets, .inl (cI, 16, .inl f_t_shop_sets))] sz)) 0 0 (va_A [(a_t, .inr (8, [.ref a_t_shop, .ref a_t_alike, .ref a_t_images, .ref a_t_text, .ref a_t_fraction, .ref a_t_reader, .ref a_t_table, .ref a_t_keeper, .ref a_t_lister, .ref a_t_player, .ref a_t_openers, .ref a_t_lengths, .ref a_t_ways, .int v_t_bytes, .int v_t_badCalls, .int v_t_noCalls, .int v_t_fullCalls])), (a_t_openers, .inl (cI, 256, .inl f_t_openers)), (a_t_shop, .inr (6, [.int v_t_shop_n, .int v_t_shop_low, .int v_t_shop_high, .int v_t_shop_boxes, .ref a_t_shop_sets, .ref a_t_shop_worths])), (a_t_shop_sets, .inl (cI, 16, .inl f_t_shop_sets))] sz) := by
  refine nw_entry (y := yX8_opens) (ws := wsX8_opens) (rm := rm_X8_opens) (sz := sz) (wpre := [(a_t, .inr (8, [.ref a_t_shop, .ref a_t_alike, .ref a_t_images, .ref a_t_text, .ref a_t_fraction, .ref a_t_reader, .ref a_t_table, .ref a_t_keeper, .ref a_t_lister, .ref a_t_player, .ref a_t_openers, .ref a_t_lengths, .ref a_t_ways, .int v_t_bytes, .int v_t_badCalls, .int v_t_noCalls, .int v_t_fullCalls])), (a_t_openers, .inl (cI, 256, .inl f_t_openers)), (a_t_shop, .inr (6, [.int v_t_shop_n, .int v_t_shop_low, .int v_t_shop_high, .int v_t_shop_boxes, .ref a_t_shop_sets, .ref a_t_shop_worths])), (a_t_shop_sets, .inl (cI, 16, .inl f_t_shop_sets))]) (av := [.ref a_t, .int p0, .int p1]) (Qc := (kQi dC dI cI cJ cZ cQ res.1 [(a_t, .inr (8, [.ref a_t_shop, .ref a_t_alike, .ref a_t_images, .ref a_t_text, .ref a_t_fraction, .ref a_t_reader, .ref a_t_table, .ref a_t_keeper, .ref a_t_lister, .ref a_t_player, .ref a_t_openers, .ref a_t_lengths, .ref a_t_ways, .int v_t_bytes, .int res.2.1, .int res.2.2.2.1, .int res.2.2.1])), (a_t_openers, .inl (cI, 256, .inl res.2.2.2.2)), (a_t_shop, .inr (6, [.int v_t_shop_n, .int v_t_shop_low, .int v_t_shop_high, .int v_t_shop_boxes, .ref a_t_shop_sets, .ref a_t_shop_worths])), (a_t_shop_sets, .inl (cI, 16, .inl f_t_shop_sets))])) (cc := cX8_opens) (own := RX8) [(0, .ref a_t), (1, .int p0), (2, .int p1)] (by decide) rfl rfl (Nat.le_of_ble_eq_true rfl) rfl ?_
  intro p e s m below meth c A ls H locs hfix hr hlocks hin0 hsz0 hP hK hD hA hS hN hG hl
  obtain ⟨hx, hb, hml, hown, hts⟩ := id hfix
  obtain ⟨Qq, hQq⟩ : ∃ Q9, Q9 = (kQi dC dI cI cJ cZ cQ res.1 [(a_t, .inr (8, [.ref a_t_shop, .ref a_t_alike, .ref a_t_images, .ref a_t_text, .ref a_t_fraction, .ref a_t_reader, .ref a_t_table, .ref a_t_keeper, .ref a_t_lister, .ref a_t_player, .ref a_t_openers, .ref a_t_lengths, .ref a_t_ways, .int v_t_bytes, .int res.2.1, .int res.2.2.2.1, .int res.2.2.1])), (a_t_openers, .inl (cI, 256, .inl res.2.2.2.2)), (a_t_shop, .inr (6, [.int v_t_shop_n, .int v_t_shop_low, .int v_t_shop_high, .int v_t_shop_boxes, .ref a_t_shop_sets, .ref a_t_shop_worths])), (a_t_shop_sets, .inl (cI, 16, .inl f_t_shop_sets))]) := ⟨_, rfl⟩
  rw [← hQq]
  have hX : res = res := rfl
  have J17 : ∀ (x : (Int32 × Int32 × Int32 × Int32 × (Nat → Int32))) (x17_v_t_badCalls : Int32) (x17_v_t_fullCalls : Int32) (x17_v_t_noCalls : Int32) (x17_f_t_openers : (Nat → Int32)) (H : Heap) (locs : List Loc) (ls : Array Slot), B_X8_opens_17 x17_v_t_badCalls x17_v_t_fullCalls x17_v_t_noCalls x17_f_t_openers v_t_shop_boxes v_t_shop_n f_t_shop_sets = some x → x = res → va_P (dC, dI) classes [(a_t, .inr (8, [.ref a_t_shop, .ref a_t_alike, .ref a_t_images, .ref a_t_text, .ref a_t_fraction, .ref a_t_reader, .ref a_t_table, .ref a_t_keeper, .ref a_t_lister, .ref a_t_player, .ref a_t_openers, .ref a_t_lengths, .ref a_t_ways, .int v_t_bytes, .int x17_v_t_badCalls, .int x17_v_t_noCalls, .int x17_v_t_fullCalls])), (a_t_openers, .inl (cI, 256, .inl x17_f_t_openers)), (a_t_shop, .inr (6, [.int v_t_shop_n, .int v_t_shop_low, .int v_t_shop_high, .int v_t_shop_boxes, .ref a_t_shop_sets, .ref a_t_shop_worths])), (a_t_shop_sets, .inl (cI, 16, .inl f_t_shop_sets))] H → va_D A [(a_t, .inr (8, [.ref a_t_shop, .ref a_t_alike, .ref a_t_images, .ref a_t_text, .ref a_t_fraction, .ref a_t_reader, .ref a_t_table, .ref a_t_keeper, .ref a_t_lister, .ref a_t_player, .ref a_t_openers, .ref a_t_lengths, .ref a_t_ways, .int v_t_bytes, .int x17_v_t_badCalls, .int x17_v_t_noCalls, .int x17_v_t_fullCalls])), (a_t_openers, .inl (cI, 256, .inl x17_f_t_openers)), (a_t_shop, .inr (6, [.int v_t_shop_n, .int v_t_shop_low, .int v_t_shop_high, .int v_t_shop_boxes, .ref a_t_shop_sets, .ref a_t_shop_worths])), (a_t_shop_sets, .inl (cI, 16, .inl f_t_shop_sets))] → va_S A s.heap H locs → lv_has ls 4 [(0, .ref a_t)] → W p l e rm_X8_opens s m ([.ref a_t, .int p0, .int p1] : List Value).toArray below meth c H locs 0 0 (MQ below (Qq A) ([.ref a_t, .int p0, .int p1] : List Value).toArray s 0 0 A) (F0 m 17 ls []) := by
    intro x x17_v_t_badCalls x17_v_t_fullCalls x17_v_t_noCalls x17_f_t_openers H locs ls hM hX hP hD hS hl
    have hM : (Option.bind (M_X8_refuse x17_v_t_badCalls x17_v_t_fullCalls x17_v_t_noCalls (-2 : Int32) (-2 : Int32)) (fun t22 => some (t22.1, t22.2.1, t22.2.2.1, t22.2.2.2, x17_f_t_openers))) = some x := hM
    refine lv_aload_n hx hb dX8_opens_17 rfl (lv_at hl 0 rfl) ?_
    refine lv_bipush (v := (-2 : Int32)) hx hb dX8_opens_18 (by decide) ?_
    refine lv_bipush (v := (-2 : Int32)) hx hb dX8_opens_20 (by decide) ?_
    obtain ⟨t22, hg22, hM⟩ := bd hM
    refine nw_i (wc := [(a_t, .inr (8, [.ref a_t_shop, .ref a_t_alike, .ref a_t_images, .ref a_t_text, .ref a_t_fraction, .ref a_t_reader, .ref a_t_table, .ref a_t_keeper, .ref a_t_lister, .ref a_t_player, .ref a_t_openers, .ref a_t_lengths, .ref a_t_ways, .int v_t_bytes, .int x17_v_t_badCalls, .int x17_v_t_noCalls, .int x17_v_t_fullCalls]))]) (wr := [(a_t_openers, .inl (cI, 256, .inl x17_f_t_openers)), (a_t_shop, .inr (6, [.int v_t_shop_n, .int v_t_shop_low, .int v_t_shop_high, .int v_t_shop_boxes, .ref a_t_shop_sets, .ref a_t_shop_worths])), (a_t_shop_sets, .inl (cI, 16, .inl f_t_shop_sets))]) (w1 := [(a_t, .inr (8, [.ref a_t_shop, .ref a_t_alike, .ref a_t_images, .ref a_t_text, .ref a_t_fraction, .ref a_t_reader, .ref a_t_table, .ref a_t_keeper, .ref a_t_lister, .ref a_t_player, .ref a_t_openers, .ref a_t_lengths, .ref a_t_ways, .int v_t_bytes, .int t22.2.1, .int t22.2.2.2, .int t22.2.2.1]))]) (wf := [(a_t, .inr (8, [.ref a_t_shop, .ref a_t_alike, .ref a_t_images, .ref a_t_text, .ref a_t_fraction, .ref a_t_reader, .ref a_t_table, .ref a_t_keeper, .ref a_t_lister, .ref a_t_player, .ref a_t_openers, .ref a_t_lengths, .ref a_t_ways, .int v_t_bytes, .int t22.2.1, .int t22.2.2.2, .int t22.2.2.1])), (a_t_openers, .inl (cI, 256, .inl x17_f_t_openers)), (a_t_shop, .inr (6, [.int v_t_shop_n, .int v_t_shop_low, .int v_t_shop_high, .int v_t_shop_boxes, .ref a_t_shop_sets, .ref a_t_shop_worths])), (a_t_shop_sets, .inl (cI, 16, .inl f_t_shop_sets))]) [0] [1, 2, 3] [3, 0, 1, 2] hP hD hS hA rfl rfl rfl (by decide) rfl rfl (nw_runV (As := [.int (-2 : Int32), .int (-2 : Int32)]) (rest := []) hfix (c_X8_refuse l dC dI cI cJ cZ cQ gx a_t a_t_shop a_t_alike a_t_images a_t_text a_t_fraction a_t_reader a_t_table a_t_keeper a_t_lister a_t_player a_t_openers a_t_lengths a_t_ways H.size v_t_bytes x17_v_t_badCalls x17_v_t_noCalls x17_v_t_fullCalls (-2 : Int32) (-2 : Int32) t22 hg22) (cwV 2 hts gX8_opens_X8_refuse rfl rfl rfl (by decide +kernel) ⟨Nat.le_of_ble_eq_true rfl, Nat.le_of_ble_eq_true rfl⟩) hP hD hK hN hS hA hG [0] rfl rfl 0 8 rfl rfl rfl hl.1 rfl rfl (Nat.le_of_ble_eq_true rfl) dX8_opens_22 ⟨Nat.zero_le _, Nat.zero_le _⟩) (fun H locs hP hD hS => ?_)
    have hE : res = ((t22.1, t22.2.1, t22.2.2.1, t22.2.2.2, x17_f_t_openers) : (Int32 × Int32 × Int32 × Int32 × (Nat → Int32))) := ((Option.some.inj hM).trans hX).symm
    rw [hQq, hE]
    exact nw_iret rfl hx hb hr hlocks hK hP hD hS dX8_opens_25
  have hM : (Option.bind (M_X8_isBox v_t_shop_n p0) (fun t2 => if t2 = 0 then (B_X8_opens_17 v_t_badCalls v_t_fullCalls v_t_noCalls f_t_openers v_t_shop_boxes v_t_shop_n f_t_shop_sets) else (Option.bind (M_X8_between p1 (0 : Int32) (1 : Int32)) (fun t11 => if t11 = 0 then (B_X8_opens_17 v_t_badCalls v_t_fullCalls v_t_noCalls f_t_openers v_t_shop_boxes v_t_shop_n f_t_shop_sets) else (Option.bind (M_X8_fewestOpening f_t_openers v_t_shop_boxes f_t_shop_sets p0) (fun t28 => if t28.1 = (-1 : Int32) then (some ((-1 : Int32), v_t_badCalls, v_t_fullCalls, v_t_noCalls, t28.2)) else (if p1 = 0 then (some (((t28.1.toUInt32 >>> ((16 : Int32).toUInt32 &&& Int32.toUInt32 31)).toInt32), v_t_badCalls, v_t_fullCalls, v_t_noCalls, t28.2)) else (some ((t28.1 &&& (65535 : Int32)), v_t_badCalls, v_t_fullCalls, v_t_noCalls, t28.2))))))))) = some res := hM
  refine lv_aload_n hx hb dX8_opens_0 rfl (lv_at hl 0 rfl) ?_
  refine lv_iload_n hx hb dX8_opens_1 rfl (lv_at hl 1 rfl) ?_
  obtain ⟨t2, hg2, hM⟩ := bd hM
  refine nw_i (wc := [(a_t, .inr (8, [.ref a_t_shop, .ref a_t_alike, .ref a_t_images, .ref a_t_text, .ref a_t_fraction, .ref a_t_reader, .ref a_t_table, .ref a_t_keeper, .ref a_t_lister, .ref a_t_player, .ref a_t_openers, .ref a_t_lengths, .ref a_t_ways, .int v_t_bytes, .int v_t_badCalls, .int v_t_noCalls, .int v_t_fullCalls])), (a_t_shop, .inr (6, [.int v_t_shop_n, .int v_t_shop_low, .int v_t_shop_high, .int v_t_shop_boxes, .ref a_t_shop_sets, .ref a_t_shop_worths]))]) (wr := [(a_t_openers, .inl (cI, 256, .inl f_t_openers)), (a_t_shop_sets, .inl (cI, 16, .inl f_t_shop_sets))]) (w1 := [(a_t, .inr (8, [.ref a_t_shop, .ref a_t_alike, .ref a_t_images, .ref a_t_text, .ref a_t_fraction, .ref a_t_reader, .ref a_t_table, .ref a_t_keeper, .ref a_t_lister, .ref a_t_player, .ref a_t_openers, .ref a_t_lengths, .ref a_t_ways, .int v_t_bytes, .int v_t_badCalls, .int v_t_noCalls, .int v_t_fullCalls])), (a_t_shop, .inr (6, [.int v_t_shop_n, .int v_t_shop_low, .int v_t_shop_high, .int v_t_shop_boxes, .ref a_t_shop_sets, .ref a_t_shop_worths]))]) (wf := [(a_t, .inr (8, [.ref a_t_shop, .ref a_t_alike, .ref a_t_images, .ref a_t_text, .ref a_t_fraction, .ref a_t_reader, .ref a_t_table, .ref a_t_keeper, .ref a_t_lister, .ref a_t_player, .ref a_t_openers, .ref a_t_lengths, .ref a_t_ways, .int v_t_bytes, .int v_t_badCalls, .int v_t_noCalls, .int v_t_fullCalls])), (a_t_openers, .inl (cI, 256, .inl f_t_openers)), (a_t_shop, .inr (6, [.int v_t_shop_n, .int v_t_shop_low, .int v_t_shop_high, .int v_t_shop_boxes, .ref a_t_shop_sets, .ref a_t_shop_worths])), (a_t_shop_sets, .inl (cI, 16, .inl f_t_shop_sets))]) [0, 2] [1, 3] [2, 0, 3, 1] hP hD hS hA rfl rfl rfl (by decide) rfl rfl (nw_runV (As := [.int p0]) (rest := []) hfix (c_X8_isBox l dC dI cI cJ cZ cQ gx a_t a_t_shop a_t_alike a_t_images a_t_text a_t_fraction a_t_reader a_t_table a_t_keeper a_t_lister a_t_player a_t_openers a_t_lengths a_t_ways a_t_shop_sets a_t_shop_worths H.size v_t_bytes v_t_badCalls v_t_noCalls v_t_fullCalls v_t_shop_n v_t_shop_low v_t_shop_high v_t_shop_boxes p0 t2 hg2) (cwV 1 hts gX8_opens_X8_isBox rfl rfl rfl (by decide +kernel) ⟨Nat.le_of_ble_eq_true rfl, Nat.le_of_ble_eq_true rfl⟩) hP hD hK hN hS hA hG [0, 2] rfl rfl 0 8 rfl rfl rfl hl.1 rfl rfl (Nat.le_of_ble_eq_true rfl) dX8_opens_2 ⟨Nat.zero_le _, Nat.zero_le _⟩) (fun H locs hP hD hS => ?_)
  refine lv_if_eq (tgt := 17) hx hb dX8_opens_5 (by decide) (fun c5 => ?_) (fun c5 => ?_)
  · have hM := ifp c5 hM
    exact J17 _ v_t_badCalls v_t_fullCalls v_t_noCalls f_t_openers H locs ls hM hX hP hD hS (lv_sub hl [0] rfl)
  · have hM := ifn c5 hM
    refine lv_iload_n hx hb dX8_opens_8 rfl (lv_at hl 2 rfl) ?_
    refine lv_iconst (v := (0 : Int32)) hx hb dX8_opens_9 (by decide) ?_
    refine lv_iconst (v := (1 : Int32)) hx hb dX8_opens_10 (by decide) ?_
    obtain ⟨t11, hg11, hM⟩ := bd hM
    refine nw_i (wc := []) (wr := [(a_t, .inr (8, [.ref a_t_shop, .ref a_t_alike, .ref a_t_images, .ref a_t_text, .ref a_t_fraction, .ref a_t_reader, .ref a_t_table, .ref a_t_keeper, .ref a_t_lister, .ref a_t_player, .ref a_t_openers, .ref a_t_lengths, .ref a_t_ways, .int v_t_bytes, .int v_t_badCalls, .int v_t_noCalls, .int v_t_fullCalls])), (a_t_openers, .inl (cI, 256, .inl f_t_openers)), (a_t_shop, .inr (6, [.int v_t_shop_n, .int v_t_shop_low, .int v_t_shop_high, .int v_t_shop_boxes, .ref a_t_shop_sets, .ref a_t_shop_worths])), (a_t_shop_sets, .inl (cI, 16, .inl f_t_shop_sets))]) (w1 := []) (wf := [(a_t, .inr (8, [.ref a_t_shop, .ref a_t_alike, .ref a_t_images, .ref a_t_text, .ref a_t_fraction, .ref a_t_reader, .ref a_t_table, .ref a_t_keeper, .ref a_t_lister, .ref a_t_player, .ref a_t_openers, .ref a_t_lengths, .ref a_t_ways, .int v_t_bytes, .int v_t_badCalls, .int v_t_noCalls, .int v_t_fullCalls])), (a_t_openers, .inl (cI, 256, .inl f_t_openers)), (a_t_shop, .inr (6, [.int v_t_shop_n, .int v_t_shop_low, .int v_t_shop_high, .int v_t_shop_boxes, .ref a_t_shop_sets, .ref a_t_shop_worths])), (a_t_shop_sets, .inl (cI, 16, .inl f_t_shop_sets))]) [] [0, 1, 2, 3] [0, 1, 2, 3] hP hD hS hA rfl rfl rfl (by decide) rfl rfl (nw_runS (As := [.int p1, .int (0 : Int32), .int (1 : Int32)]) (rest := []) hfix (c_X8_between l dC dI cI cJ cZ cQ gx  H.size  p1 (0 : Int32) (1 : Int32) t11 hg11) (va_cwS 3 hts gX8_opens_X8_between rfl rfl rfl (by decide +kernel) ⟨Nat.le_of_ble_eq_true rfl, Nat.le_of_ble_eq_true rfl⟩) hP hD hK hN hS hA hG [] rfl rfl hl.1 rfl rfl (Nat.le_of_ble_eq_true rfl) dX8_opens_11 ⟨Nat.zero_le _, Nat.zero_le _⟩) (fun H locs hP hD hS => ?_)
    refine lv_if_ne (tgt := 26) hx hb dX8_opens_14 (by decide) (fun c14 => ?_) (fun c14 => ?_)
    · have hM := ifn c14 hM
      refine lv_aload_n hx hb dX8_opens_26 rfl (lv_at hl 0 rfl) ?_
      refine lv_iload_n hx hb dX8_opens_27 rfl (lv_at hl 1 rfl) ?_
      obtain ⟨t28, hg28, hM⟩ := bd hM
      refine nw_i (wc := [(a_t, .inr (8, [.ref a_t_shop, .ref a_t_alike, .ref a_t_images, .ref a_t_text, .ref a_t_fraction, .ref a_t_reader, .ref a_t_table, .ref a_t_keeper, .ref a_t_lister, .ref a_t_player, .ref a_t_openers, .ref a_t_lengths, .ref a_t_ways, .int v_t_bytes, .int v_t_badCalls, .int v_t_noCalls, .int v_t_fullCalls])), (a_t_openers, .inl (cI, 256, .inl f_t_openers)), (a_t_shop, .inr (6, [.int v_t_shop_n, .int v_t_shop_low, .int v_t_shop_high, .int v_t_shop_boxes, .ref a_t_shop_sets, .ref a_t_shop_worths])), (a_t_shop_sets, .inl (cI, 16, .inl f_t_shop_sets))]) (wr := []) (w1 := [(a_t, .inr (8, [.ref a_t_shop, .ref a_t_alike, .ref a_t_images, .ref a_t_text, .ref a_t_fraction, .ref a_t_reader, .ref a_t_table, .ref a_t_keeper, .ref a_t_lister, .ref a_t_player, .ref a_t_openers, .ref a_t_lengths, .ref a_t_ways, .int v_t_bytes, .int v_t_badCalls, .int v_t_noCalls, .int v_t_fullCalls])), (a_t_openers, .inl (cI, 256, .inl t28.2)), (a_t_shop, .inr (6, [.int v_t_shop_n, .int v_t_shop_low, .int v_t_shop_high, .int v_t_shop_boxes, .ref a_t_shop_sets, .ref a_t_shop_worths])), (a_t_shop_sets, .inl (cI, 16, .inl f_t_shop_sets))]) (wf := [(a_t, .inr (8, [.ref a_t_shop, .ref a_t_alike, .ref a_t_images, .ref a_t_text, .ref a_t_fraction, .ref a_t_reader, .ref a_t_table, .ref a_t_keeper, .ref a_t_lister, .ref a_t_player, .ref a_t_openers, .ref a_t_lengths, .ref a_t_ways, .int v_t_bytes, .int v_t_badCalls, .int v_t_noCalls, .int v_t_fullCalls])), (a_t_openers, .inl (cI, 256, .inl t28.2)), (a_t_shop, .inr (6, [.int v_t_shop_n, .int v_t_shop_low, .int v_t_shop_high, .int v_t_shop_boxes, .ref a_t_shop_sets, .ref a_t_shop_worths])), (a_t_shop_sets, .inl (cI, 16, .inl f_t_shop_sets))]) [0, 1, 2, 3] [] [0, 1, 2, 3] hP hD hS hA rfl rfl rfl (by decide) rfl rfl (nw_runV (As := [.int p0]) (rest := []) hfix (c_X8_fewestOpening l dC dI cI cJ cZ cQ gx a_t a_t_openers a_t_shop a_t_shop_sets a_t_alike a_t_images a_t_text a_t_fraction a_t_reader a_t_table a_t_keeper a_t_lister a_t_player a_t_lengths a_t_ways a_t_shop_worths H.size v_t_bytes v_t_badCalls v_t_noCalls v_t_fullCalls f_t_openers v_t_shop_n v_t_shop_low v_t_shop_high v_t_shop_boxes f_t_shop_sets p0 t28 hg28) (cwV 1 hts gX8_opens_X8_fewestOpening rfl rfl rfl (by decide +kernel) ⟨Nat.le_of_ble_eq_true rfl, Nat.le_of_ble_eq_true rfl⟩) hP hD hK hN hS hA hG [0, 1, 2, 3] rfl rfl 0 8 rfl rfl rfl hl.1 rfl rfl (Nat.le_of_ble_eq_true rfl) dX8_opens_28 ⟨Nat.zero_le _, Nat.zero_le _⟩) (fun H locs hP hD hS => ?_)
      refine lv_istore_n (lv' := [(3, .int t28.1), (0, .ref a_t), (1, .int p0), (2, .int p1)]) hx hb dX8_opens_31 rfl hl (by decide) rfl (fun ls hl => ?_)
      refine lv_iload_n hx hb dX8_opens_32 rfl (lv_at hl 0 rfl) ?_
      refine lv_iconst (v := (-1 : Int32)) hx hb dX8_opens_33 (by decide) ?_
      refine lv_icmp_ne (tgt := 39) hx hb dX8_opens_34 (by decide) (fun c34 => ?_) (fun c34 => ?_)
      · have hM := ifn c34 hM
        refine lv_iload_n hx hb dX8_opens_39 rfl (lv_at hl 3 rfl) ?_
        refine lv_if_ne (tgt := 50) hx hb dX8_opens_40 (by decide) (fun c40 => ?_) (fun c40 => ?_)
        · have hM := ifn c40 hM
          refine lv_iload_n hx hb dX8_opens_50 rfl (lv_at hl 0 rfl) ?_
          refine lv_ldc (v := (65535 : Int32)) hx hb hown (hts (.constant RX8 185 (65535)) (by decide +kernel)) dX8_opens_51 ?_
          refine lv_iand hx hb dX8_opens_53 ?_
          have hE : res = (((t28.1 &&& (65535 : Int32)), v_t_badCalls, v_t_fullCalls, v_t_noCalls, t28.2) : (Int32 × Int32 × Int32 × Int32 × (Nat → Int32))) := ((Option.some.inj hM).trans hX).symm
          rw [hQq, hE]
          exact nw_iret rfl hx hb hr hlocks hK hP hD hS dX8_opens_54
        · have hM := ifp c40 hM
          refine lv_iload_n hx hb dX8_opens_43 rfl (lv_at hl 0 rfl) ?_
          refine lv_bipush (v := (16 : Int32)) hx hb dX8_opens_44 (by decide) ?_
          refine lv_iushr hx hb dX8_opens_46 rfl ?_
          refine lv_goto (tgt := 54) hx hb dX8_opens_47 (by decide) ?_
          have hE : res = ((((t28.1.toUInt32 >>> ((16 : Int32).toUInt32 &&& Int32.toUInt32 31)).toInt32), v_t_badCalls, v_t_fullCalls, v_t_noCalls, t28.2) : (Int32 × Int32 × Int32 × Int32 × (Nat → Int32))) := ((Option.some.inj hM).trans hX).symm
          rw [hQq, hE]
          exact nw_iret rfl hx hb hr hlocks hK hP hD hS dX8_opens_54
      · have hM := ifp c34 hM
        refine lv_iconst (v := (-1 : Int32)) hx hb dX8_opens_37 (by decide) ?_
        have hE : res = (((-1 : Int32), v_t_badCalls, v_t_fullCalls, v_t_noCalls, t28.2) : (Int32 × Int32 × Int32 × Int32 × (Nat → Int32))) := ((Option.some.inj hM).trans hX).symm
        rw [hQq, hE]
        exact nw_iret rfl hx hb hr hlocks hK hP hD hS dX8_opens_38
    · have hM := ifp c14 hM
      exact J17 _ v_t_badCalls v_t_fullCalls v_t_noCalls f_t_openers H locs ls hM hX hP hD hS (lv_sub hl [0] rfl)
theorem in_X8_alone_X6 : ∀ w ∈ wsX60, w ∈ wsX8_alone := fun _ h => List.mem_cons_of_mem _ (List.mem_append_right _ h)
theorem in_X8_alone_X8 : ∀ w ∈ wsX80, w ∈ wsX8_alone := fun _ h => List.mem_cons_of_mem _ (List.mem_append_left _ (List.mem_append_right _ h))
abbrev rm_X8_alone : Room := { frames := 0, cells := 0, slots := 0, locals := 0 }
set_option maxHeartbeats 4000000 in
set_option maxRecDepth 100000 in
theorem c_X8_alone (l : Launch) (dC : Nat → ClassId) (dI : Nat → Nat → Nat) (cI cJ cZ cQ : ClassId) (gx : GX) (a_t a_t_shop a_t_shop_sets a_t_alike a_t_images a_t_text a_t_fraction a_t_reader a_t_table a_t_keeper a_t_lister a_t_player a_t_openers a_t_lengths a_t_ways a_t_shop_worths : Nat) (sz : Nat) (v_t_bytes : Int32) (v_t_badCalls : Int32) (v_t_noCalls : Int32) (v_t_fullCalls : Int32) (v_t_shop_n : Int32) (v_t_shop_low : Int32) (v_t_shop_high : Int32) (v_t_shop_boxes : Int32) (f_t_shop_sets : (Nat → Int32)) (res : Int32) (hM : M_X8_alone v_t_shop_boxes f_t_shop_sets = some res) : Met l yX8_alone wsX8_alone rm_X8_alone (kP dC dI cI cJ cZ cQ gx [.ref a_t] sz [(a_t, .inr (8, [.ref a_t_shop, .ref a_t_alike, .ref a_t_images, .ref a_t_text, .ref a_t_fraction, .ref a_t_reader, .ref a_t_table, .ref a_t_keeper, .ref a_t_lister, .ref a_t_player, .ref a_t_openers, .ref a_t_lengths, .ref a_t_ways, .int v_t_bytes, .int v_t_badCalls, .int v_t_noCalls, .int v_t_fullCalls])), (a_t_shop, .inr (6, [.int v_t_shop_n, .int v_t_shop_low, .int v_t_shop_high, .int v_t_shop_boxes, .ref a_t_shop_sets, .ref a_t_shop_worths])), (a_t_shop_sets, .inl (cI, 16, .inl f_t_shop_sets))]) (kQi dC dI cI cJ cZ cQ res [(a_t, .inr (8, [.ref a_t_shop, .ref a_t_alike, .ref a_t_images, .ref a_t_text, .ref a_t_fraction, .ref a_t_reader, .ref a_t_table, .ref a_t_keeper, .ref a_t_lister, .ref a_t_player, .ref a_t_openers, .ref a_t_lengths, .ref a_t_ways, .int v_t_bytes, .int v_t_badCalls, .int v_t_noCalls, .int v_t_fullCalls])), (a_t_shop, .inr (6, [.int v_t_shop_n, .int v_t_shop_low, .int v_t_shop_high, .int v_t_shop_boxes, .ref a_t_shop_sets, .ref a_t_shop_worths])), (a_t_shop_sets, .inl (cI, 16, .inl f_t_shop_sets))] (va_A [(a_t, .inr (8, [.ref a_t_shop, .ref a_t_alike, .ref a_t_images, .ref a_t_text, .ref a_t_fraction, .ref a_t_reader, .ref a_t_table, .ref a_t_keeper, .ref a_t_lister, .ref a_t_player, .ref a_t_openers, .ref a_t_lengths, .ref a_t_ways, .int v_t_bytes, .int v_t_badCalls, .int v_t_noCalls, .int v_t_fullCalls])), (a_t_shop, .inr (6, [.int v_t_shop_n, .int v_t_shop_low, .int v_t_shop_high, .int v_t_shop_boxes, .ref a_t_shop_sets, .ref a_t_shop_worths])), (a_t_shop_sets, .inl (cI, 16, .inl f_t_shop_sets))] sz)) 0 0 (va_A [(a_t, .inr (8, [.ref a_t_shop, .ref a_t_alike, .ref a_t_images, .ref a_t_text, .ref a_t_fraction, .ref a_t_reader, .ref a_t_table, .ref a_t_keeper, .ref a_t_lister, .ref a_t_player, .ref a_t_openers, .ref a_t_lengths, .ref a_t_ways, .int v_t_bytes, .int v_t_badCalls, .int v_t_noCalls, .int v_t_fullCalls])), (a_t_shop, .inr (6, [.int v_t_shop_n, .int v_t_shop_low, .int v_t_shop_high, .int v_t_shop_boxes, .ref a_t_shop_sets, .ref a_t_shop_worths])), (a_t_shop_sets, .inl (cI, 16, .inl f_t_shop_sets))] sz) := by
  refine nw_entry (y := yX8_alone) (ws := wsX8_alone) (rm := rm_X8_alone) (sz := sz) (wpre := [(a_t, .inr (8, [.ref a_t_shop, .ref a_t_alike, .ref a_t_images, .ref a_t_text, .ref a_t_fraction, .ref a_t_reader, .ref a_t_table, .ref a_t_keeper, .ref a_t_lister, .ref a_t_player, .ref a_t_openers, .ref a_t_lengths, .ref a_t_ways, .int v_t_bytes, .int v_t_badCalls, .int v_t_noCalls, .int v_t_fullCalls])), (a_t_shop, .inr (6, [.int v_t_shop_n, .int v_t_shop_low, .int v_t_shop_high, .int v_t_shop_boxes, .ref a_t_shop_sets, .ref a_t_shop_worths])), (a_t_shop_sets, .inl (cI, 16, .inl f_t_shop_sets))]) (av := [.ref a_t]) (Qc := (kQi dC dI cI cJ cZ cQ res [(a_t, .inr (8, [.ref a_t_shop, .ref a_t_alike, .ref a_t_images, .ref a_t_text, .ref a_t_fraction, .ref a_t_reader, .ref a_t_table, .ref a_t_keeper, .ref a_t_lister, .ref a_t_player, .ref a_t_openers, .ref a_t_lengths, .ref a_t_ways, .int v_t_bytes, .int v_t_badCalls, .int v_t_noCalls, .int v_t_fullCalls])), (a_t_shop, .inr (6, [.int v_t_shop_n, .int v_t_shop_low, .int v_t_shop_high, .int v_t_shop_boxes, .ref a_t_shop_sets, .ref a_t_shop_worths])), (a_t_shop_sets, .inl (cI, 16, .inl f_t_shop_sets))])) (cc := cX8_alone) (own := RX8) [(0, .ref a_t)] (by decide) rfl rfl (Nat.le_of_ble_eq_true rfl) rfl ?_
  intro p e s m below meth c A ls H locs hfix hr hlocks hin0 hsz0 hP hK hD hA hS hN hG hl
  obtain ⟨hx, hb, hml, hown, hts⟩ := id hfix
  obtain ⟨Qq, hQq⟩ : ∃ Q9, Q9 = (kQi dC dI cI cJ cZ cQ res [(a_t, .inr (8, [.ref a_t_shop, .ref a_t_alike, .ref a_t_images, .ref a_t_text, .ref a_t_fraction, .ref a_t_reader, .ref a_t_table, .ref a_t_keeper, .ref a_t_lister, .ref a_t_player, .ref a_t_openers, .ref a_t_lengths, .ref a_t_ways, .int v_t_bytes, .int v_t_badCalls, .int v_t_noCalls, .int v_t_fullCalls])), (a_t_shop, .inr (6, [.int v_t_shop_n, .int v_t_shop_low, .int v_t_shop_high, .int v_t_shop_boxes, .ref a_t_shop_sets, .ref a_t_shop_worths])), (a_t_shop_sets, .inl (cI, 16, .inl f_t_shop_sets))]) := ⟨_, rfl⟩
  rw [← hQq]
  have hX : res = res := rfl
  have hM : (lpN (fun z => L_X8_alone_6 v_t_shop_boxes f_t_shop_sets z.1 z.2.1 z.2.2) fuelK ((0 : Int32), (0 : Int32), (0 : Int32))) = some res := hM
  refine lv_iconst (v := (0 : Int32)) hx hb dX8_alone_0 (by decide) ?_
  refine lv_istore_n (lv' := [(1, .int (0 : Int32)), (0, .ref a_t)]) hx hb dX8_alone_1 rfl hl (by decide) rfl (fun ls hl => ?_)
  refine lv_iconst (v := (0 : Int32)) hx hb dX8_alone_2 (by decide) ?_
  refine lv_istore_n (lv' := [(2, .int (0 : Int32)), (1, .int (0 : Int32)), (0, .ref a_t)]) hx hb dX8_alone_3 rfl hl (by decide) rfl (fun ls hl => ?_)
  refine lv_iconst (v := (0 : Int32)) hx hb dX8_alone_4 (by decide) ?_
  refine lv_istore_n (lv' := [(3, .int (0 : Int32)), (2, .int (0 : Int32)), (1, .int (0 : Int32)), (0, .ref a_t)]) hx hb dX8_alone_5 rfl hl (by decide) rfl (fun ls hl => ?_)
  obtain ⟨W6, hW6⟩ : ∃ W9 : Int32 → Int32 → Int32 → Prop, W9 = fun (y6_1 : Int32) (y6_2 : Int32) (y6_3 : Int32) => ∀ (H : Heap) (locs : List Loc) (ls : Array Slot), va_P (dC, dI) classes [(a_t, .inr (8, [.ref a_t_shop, .ref a_t_alike, .ref a_t_images, .ref a_t_text, .ref a_t_fraction, .ref a_t_reader, .ref a_t_table, .ref a_t_keeper, .ref a_t_lister, .ref a_t_player, .ref a_t_openers, .ref a_t_lengths, .ref a_t_ways, .int v_t_bytes, .int v_t_badCalls, .int v_t_noCalls, .int v_t_fullCalls])), (a_t_shop, .inr (6, [.int v_t_shop_n, .int v_t_shop_low, .int v_t_shop_high, .int v_t_shop_boxes, .ref a_t_shop_sets, .ref a_t_shop_worths])), (a_t_shop_sets, .inl (cI, 16, .inl f_t_shop_sets))] H → va_D A [(a_t, .inr (8, [.ref a_t_shop, .ref a_t_alike, .ref a_t_images, .ref a_t_text, .ref a_t_fraction, .ref a_t_reader, .ref a_t_table, .ref a_t_keeper, .ref a_t_lister, .ref a_t_player, .ref a_t_openers, .ref a_t_lengths, .ref a_t_ways, .int v_t_bytes, .int v_t_badCalls, .int v_t_noCalls, .int v_t_fullCalls])), (a_t_shop, .inr (6, [.int v_t_shop_n, .int v_t_shop_low, .int v_t_shop_high, .int v_t_shop_boxes, .ref a_t_shop_sets, .ref a_t_shop_worths])), (a_t_shop_sets, .inl (cI, 16, .inl f_t_shop_sets))] → va_S A s.heap H locs → lv_has ls 6 [(0, .ref a_t), (1, .int y6_1), (2, .int y6_2), (3, .int y6_3)] → W p l e rm_X8_alone s m ([.ref a_t] : List Value).toArray below meth c H locs 0 0 (MQ below (Qq A) ([.ref a_t] : List Value).toArray s 0 0 A) (F0 m 6 ls []) := ⟨_, rfl⟩
  have hst : ∀ (z : (Int32 × Int32 × Int32)) (x : ((Int32 × Int32 × Int32) ⊕ Int32)), (fun z => L_X8_alone_6 v_t_shop_boxes f_t_shop_sets z.1 z.2.1 z.2.2) z = some x → ((∀ z', x = Sum.inl z' → W6 z'.1 z'.2.1 z'.2.2) ∧ (∀ t_6, x = Sum.inr t_6 → t_6 = res)) → W6 z.1 z.2.1 z.2.2 := by
    rintro ⟨y6_1, y6_2, y6_3⟩ x hM hX
    have hM : L_X8_alone_6 v_t_shop_boxes f_t_shop_sets y6_1 y6_2 y6_3 = some x := hM
    show W6 y6_1 y6_2 y6_3
    rw [hW6]
    intro H locs ls hP hD hS hl
    have hM : (if v_t_shop_boxes ≤ y6_3 then (((lpN (fun z => L_X8_alone_61 (y6_1 &&& (y6_2 ^^^ (-1 : Int32))) v_t_shop_boxes f_t_shop_sets z.1 z.2) fuelK ((0 : Int32), (0 : Int32)))).map Sum.inr) else (ix y6_3 16 (ix y6_3 16 (some (Sum.inl ((y6_1 ||| (f_t_shop_sets y6_3.toNatClampNeg)), (y6_2 ||| (y6_1 &&& (f_t_shop_sets y6_3.toNatClampNeg))), (y6_3 + (1 : Int32)))))))) = some x := hM
    refine lv_iload_n hx hb dX8_alone_6 rfl (lv_at hl 3 rfl) ?_
    refine lv_aload_n hx hb dX8_alone_7 rfl (lv_at hl 0 rfl) ?_
    refine va_get (D := (dC, dI)) (ci := 8) (v := .ref a_t_shop) (C := RX8) (T := TX8) (N := 17) hx hb hts in_X8_alone_X8 hown hK hP 0 rfl rfl 0 (by decide) (hts (.fieldLink RX8 12 "NoneWithin" "shop" "LNoneWithin$Shop;") (by decide +kernel)) (fun _ h9 => h9) rfl dX8_alone_8 ?_
    refine va_get (D := (dC, dI)) (ci := 6) (v := .int v_t_shop_boxes) (C := RX6) (T := TX6) (N := 6) hx hb hts in_X8_alone_X6 hown hK hP 1 rfl rfl 3 (by decide) (hts (.fieldLink RX8 98 "NoneWithin$Shop" "boxes" "I") (by decide +kernel)) (fun _ h9 => h9) rfl dX8_alone_11 ?_
    refine lv_icmp_ge (tgt := 49) hx hb dX8_alone_14 (by decide) (fun c14 => ?_) (fun c14 => ?_)
    · have hM := ifp c14 hM
      obtain ⟨x, hMn, hxe⟩ := mpr hM
      have hX := hX.2 _ hxe
      have hM := hMn
      refine lv_iload_n hx hb dX8_alone_49 rfl (lv_at hl 1 rfl) ?_
      refine lv_iload_n hx hb dX8_alone_50 rfl (lv_at hl 2 rfl) ?_
      refine lv_iconst (v := (-1 : Int32)) hx hb dX8_alone_51 (by decide) ?_
      refine lv_ixor hx hb dX8_alone_52 ?_
      refine lv_iand hx hb dX8_alone_53 ?_
      refine lv_istore_n (lv' := [(3, .int (y6_1 &&& (y6_2 ^^^ (-1 : Int32)))), (0, .ref a_t), (1, .int y6_1), (2, .int y6_2)]) hx hb dX8_alone_54 rfl hl (by decide) rfl (fun ls hl => ?_)
      refine lv_iconst (v := (0 : Int32)) hx hb dX8_alone_55 (by decide) ?_
      refine lv_istore (lv' := [(4, .int (0 : Int32)), (3, .int (y6_1 &&& (y6_2 ^^^ (-1 : Int32)))), (0, .ref a_t), (1, .int y6_1), (2, .int y6_2)]) hx hb dX8_alone_56 hl (by decide) rfl (fun ls hl => ?_)
      refine lv_iconst (v := (0 : Int32)) hx hb dX8_alone_58 (by decide) ?_
      refine lv_istore (lv' := [(5, .int (0 : Int32)), (4, .int (0 : Int32)), (3, .int (y6_1 &&& (y6_2 ^^^ (-1 : Int32)))), (0, .ref a_t), (1, .int y6_1), (2, .int y6_2)]) hx hb dX8_alone_59 hl (by decide) rfl (fun ls hl => ?_)
      obtain ⟨W61, hW61⟩ : ∃ W9 : Int32 → Int32 → Prop, W9 = fun (y61_4 : Int32) (y61_5 : Int32) => ∀ (H : Heap) (locs : List Loc) (ls : Array Slot), va_P (dC, dI) classes [(a_t, .inr (8, [.ref a_t_shop, .ref a_t_alike, .ref a_t_images, .ref a_t_text, .ref a_t_fraction, .ref a_t_reader, .ref a_t_table, .ref a_t_keeper, .ref a_t_lister, .ref a_t_player, .ref a_t_openers, .ref a_t_lengths, .ref a_t_ways, .int v_t_bytes, .int v_t_badCalls, .int v_t_noCalls, .int v_t_fullCalls])), (a_t_shop, .inr (6, [.int v_t_shop_n, .int v_t_shop_low, .int v_t_shop_high, .int v_t_shop_boxes, .ref a_t_shop_sets, .ref a_t_shop_worths])), (a_t_shop_sets, .inl (cI, 16, .inl f_t_shop_sets))] H → va_D A [(a_t, .inr (8, [.ref a_t_shop, .ref a_t_alike, .ref a_t_images, .ref a_t_text, .ref a_t_fraction, .ref a_t_reader, .ref a_t_table, .ref a_t_keeper, .ref a_t_lister, .ref a_t_player, .ref a_t_openers, .ref a_t_lengths, .ref a_t_ways, .int v_t_bytes, .int v_t_badCalls, .int v_t_noCalls, .int v_t_fullCalls])), (a_t_shop, .inr (6, [.int v_t_shop_n, .int v_t_shop_low, .int v_t_shop_high, .int v_t_shop_boxes, .ref a_t_shop_sets, .ref a_t_shop_worths])), (a_t_shop_sets, .inl (cI, 16, .inl f_t_shop_sets))] → va_S A s.heap H locs → lv_has ls 6 [(0, .ref a_t), (3, .int (y6_1 &&& (y6_2 ^^^ (-1 : Int32)))), (4, .int y61_4), (5, .int y61_5)] → W p l e rm_X8_alone s m ([.ref a_t] : List Value).toArray below meth c H locs 0 0 (MQ below (Qq A) ([.ref a_t] : List Value).toArray s 0 0 A) (F0 m 61 ls []) := ⟨_, rfl⟩
      have hst : ∀ (z : (Int32 × Int32)) (x : ((Int32 × Int32) ⊕ Int32)), (fun z => L_X8_alone_61 (y6_1 &&& (y6_2 ^^^ (-1 : Int32))) v_t_shop_boxes f_t_shop_sets z.1 z.2) z = some x → ((∀ z', x = Sum.inl z' → W61 z'.1 z'.2) ∧ (∀ t_61, x = Sum.inr t_61 → t_61 = res)) → W61 z.1 z.2 := by
        rintro ⟨y61_4, y61_5⟩ x hM hX
        have hM : L_X8_alone_61 (y6_1 &&& (y6_2 ^^^ (-1 : Int32))) v_t_shop_boxes f_t_shop_sets y61_4 y61_5 = some x := hM
        show W61 y61_4 y61_5
        rw [hW61]
        intro H locs ls hP hD hS hl
        have hM : (if v_t_shop_boxes ≤ y61_5 then (((some y61_4)).map Sum.inr) else (ix y61_5 16 (if ((f_t_shop_sets y61_5.toNatClampNeg) &&& (y6_1 &&& (y6_2 ^^^ (-1 : Int32)))) = 0 then (some (Sum.inl (y61_4, (y61_5 + (1 : Int32))))) else (some (Sum.inl ((y61_4 ||| ((1 : Int32) <<< (y61_5 &&& 31))), (y61_5 + (1 : Int32)))))))) = some x := hM
        refine lv_iload hx hb dX8_alone_61 (lv_at hl 3 rfl) ?_
        refine lv_aload_n hx hb dX8_alone_63 rfl (lv_at hl 0 rfl) ?_
        refine va_get (D := (dC, dI)) (ci := 8) (v := .ref a_t_shop) (C := RX8) (T := TX8) (N := 17) hx hb hts in_X8_alone_X8 hown hK hP 0 rfl rfl 0 (by decide) (hts (.fieldLink RX8 12 "NoneWithin" "shop" "LNoneWithin$Shop;") (by decide +kernel)) (fun _ h9 => h9) rfl dX8_alone_64 ?_
        refine va_get (D := (dC, dI)) (ci := 6) (v := .int v_t_shop_boxes) (C := RX6) (T := TX6) (N := 6) hx hb hts in_X8_alone_X6 hown hK hP 1 rfl rfl 3 (by decide) (hts (.fieldLink RX8 98 "NoneWithin$Shop" "boxes" "I") (by decide +kernel)) (fun _ h9 => h9) rfl dX8_alone_67 ?_
        refine lv_icmp_ge (tgt := 103) hx hb dX8_alone_70 (by decide) (fun c70 => ?_) (fun c70 => ?_)
        · have hM := ifp c70 hM
          obtain ⟨x, hMn, hxe⟩ := mpr hM
          have hX := hX.2 _ hxe
          have hM := hMn
          refine lv_iload hx hb dX8_alone_103 (lv_at hl 2 rfl) ?_
          have hE : res = (y61_4 : Int32) := ((Option.some.inj hM).trans hX).symm
          rw [hQq, hE]
          exact nw_iret rfl hx hb hr hlocks hK hP hD hS dX8_alone_105
        · have hM := ifn c70 hM
          refine lv_aload_n hx hb dX8_alone_73 rfl (lv_at hl 0 rfl) ?_
          refine va_get (D := (dC, dI)) (ci := 8) (v := .ref a_t_shop) (C := RX8) (T := TX8) (N := 17) hx hb hts in_X8_alone_X8 hown hK hP 0 rfl rfl 0 (by decide) (hts (.fieldLink RX8 12 "NoneWithin" "shop" "LNoneWithin$Shop;") (by decide +kernel)) (fun _ h9 => h9) rfl dX8_alone_74 ?_
          refine va_get (D := (dC, dI)) (ci := 6) (v := .ref a_t_shop_sets) (C := RX6) (T := TX6) (N := 6) hx hb hts in_X8_alone_X6 hown hK hP 1 rfl rfl 4 (by decide) (hts (.fieldLink RX8 118 "NoneWithin$Shop" "sets" "[I") (by decide +kernel)) (fun _ h9 => h9) rfl dX8_alone_77 ?_
          refine lv_iload hx hb dX8_alone_80 (lv_at hl 3 rfl) ?_
          obtain ⟨hin, hM⟩ := ixp hM
          refine va_iald hx hb hK hP 2 0 rfl rfl hin dX8_alone_82 ?_
          refine lv_iload_n hx hb dX8_alone_83 rfl (lv_at hl 1 rfl) ?_
          refine lv_iand hx hb dX8_alone_84 ?_
          refine lv_if_eq (tgt := 97) hx hb dX8_alone_85 (by decide) (fun c85 => ?_) (fun c85 => ?_)
          · have hM := ifp c85 hM
            refine lv_iinc (v := (y61_5 + (1 : Int32))) (lv' := [(5, .int (y61_5 + (1 : Int32))), (0, .ref a_t), (3, .int (y6_1 &&& (y6_2 ^^^ (-1 : Int32)))), (4, .int y61_4)]) hx hb dX8_alone_97 hl (k := 3) rfl rfl (by decide) rfl (fun ls hl => ?_)
            refine lv_goto (tgt := 61) hx hb dX8_alone_100 (by decide) ?_
            have hw := hX.1 _ (Option.some.inj hM).symm
            rw [hW61] at hw
            exact hw H locs ls hP hD hS (lv_sub hl [1, 2, 3, 0] rfl)
          · have hM := ifn c85 hM
            refine lv_iload hx hb dX8_alone_88 (lv_at hl 2 rfl) ?_
            refine lv_iconst (v := (1 : Int32)) hx hb dX8_alone_90 (by decide) ?_
            refine lv_iload hx hb dX8_alone_91 (lv_at hl 3 rfl) ?_
            refine lv_ishl hx hb dX8_alone_93 ?_
            refine lv_ior hx hb dX8_alone_94 ?_
            refine lv_istore (lv' := [(4, .int (y61_4 ||| ((1 : Int32) <<< (y61_5 &&& 31)))), (0, .ref a_t), (3, .int (y6_1 &&& (y6_2 ^^^ (-1 : Int32)))), (5, .int y61_5)]) hx hb dX8_alone_95 hl (by decide) rfl (fun ls hl => ?_)
            refine lv_iinc (v := (y61_5 + (1 : Int32))) (lv' := [(5, .int (y61_5 + (1 : Int32))), (4, .int (y61_4 ||| ((1 : Int32) <<< (y61_5 &&& 31)))), (0, .ref a_t), (3, .int (y6_1 &&& (y6_2 ^^^ (-1 : Int32))))]) hx hb dX8_alone_97 hl (k := 3) rfl rfl (by decide) rfl (fun ls hl => ?_)
            refine lv_goto (tgt := 61) hx hb dX8_alone_100 (by decide) ?_
            have hw := hX.1 _ (Option.some.inj hM).symm
            rw [hW61] at hw
            exact hw H locs ls hP hD hS (lv_sub hl [2, 3, 1, 0] rfl)
      have hw := lp_walk (Wp := fun z => W61 z.1 z.2) (X := fun t => t = res) hst _ _ _ hM hX
      rw [hW61] at hw
      exact hw H locs ls hP hD hS (lv_sub hl [3, 2, 1, 0] rfl)
    · have hM := ifn c14 hM
      refine lv_iload_n hx hb dX8_alone_17 rfl (lv_at hl 2 rfl) ?_
      refine lv_iload_n hx hb dX8_alone_18 rfl (lv_at hl 1 rfl) ?_
      refine lv_aload_n hx hb dX8_alone_19 rfl (lv_at hl 0 rfl) ?_
      refine va_get (D := (dC, dI)) (ci := 8) (v := .ref a_t_shop) (C := RX8) (T := TX8) (N := 17) hx hb hts in_X8_alone_X8 hown hK hP 0 rfl rfl 0 (by decide) (hts (.fieldLink RX8 12 "NoneWithin" "shop" "LNoneWithin$Shop;") (by decide +kernel)) (fun _ h9 => h9) rfl dX8_alone_20 ?_
      refine va_get (D := (dC, dI)) (ci := 6) (v := .ref a_t_shop_sets) (C := RX6) (T := TX6) (N := 6) hx hb hts in_X8_alone_X6 hown hK hP 1 rfl rfl 4 (by decide) (hts (.fieldLink RX8 118 "NoneWithin$Shop" "sets" "[I") (by decide +kernel)) (fun _ h9 => h9) rfl dX8_alone_23 ?_
      refine lv_iload_n hx hb dX8_alone_26 rfl (lv_at hl 3 rfl) ?_
      obtain ⟨hin, hM⟩ := ixp hM
      refine va_iald hx hb hK hP 2 0 rfl rfl hin dX8_alone_27 ?_
      refine lv_iand hx hb dX8_alone_28 ?_
      refine lv_ior hx hb dX8_alone_29 ?_
      refine lv_istore_n (lv' := [(2, .int (y6_2 ||| (y6_1 &&& (f_t_shop_sets y6_3.toNatClampNeg)))), (0, .ref a_t), (1, .int y6_1), (3, .int y6_3)]) hx hb dX8_alone_30 rfl hl (by decide) rfl (fun ls hl => ?_)
      refine lv_iload_n hx hb dX8_alone_31 rfl (lv_at hl 2 rfl) ?_
      refine lv_aload_n hx hb dX8_alone_32 rfl (lv_at hl 1 rfl) ?_
      refine va_get (D := (dC, dI)) (ci := 8) (v := .ref a_t_shop) (C := RX8) (T := TX8) (N := 17) hx hb hts in_X8_alone_X8 hown hK hP 0 rfl rfl 0 (by decide) (hts (.fieldLink RX8 12 "NoneWithin" "shop" "LNoneWithin$Shop;") (by decide +kernel)) (fun _ h9 => h9) rfl dX8_alone_33 ?_
      refine va_get (D := (dC, dI)) (ci := 6) (v := .ref a_t_shop_sets) (C := RX6) (T := TX6) (N := 6) hx hb hts in_X8_alone_X6 hown hK hP 1 rfl rfl 4 (by decide) (hts (.fieldLink RX8 118 "NoneWithin$Shop" "sets" "[I") (by decide +kernel)) (fun _ h9 => h9) rfl dX8_alone_36 ?_
      refine lv_iload_n hx hb dX8_alone_39 rfl (lv_at hl 3 rfl) ?_
      obtain ⟨hin, hM⟩ := ixp hM
      refine va_iald hx hb hK hP 2 0 rfl rfl hin dX8_alone_40 ?_
      refine lv_ior hx hb dX8_alone_41 ?_
      refine lv_istore_n (lv' := [(1, .int (y6_1 ||| (f_t_shop_sets y6_3.toNatClampNeg))), (2, .int (y6_2 ||| (y6_1 &&& (f_t_shop_sets y6_3.toNatClampNeg)))), (0, .ref a_t), (3, .int y6_3)]) hx hb dX8_alone_42 rfl hl (by decide) rfl (fun ls hl => ?_)
      refine lv_iinc (v := (y6_3 + (1 : Int32))) (lv' := [(3, .int (y6_3 + (1 : Int32))), (1, .int (y6_1 ||| (f_t_shop_sets y6_3.toNatClampNeg))), (2, .int (y6_2 ||| (y6_1 &&& (f_t_shop_sets y6_3.toNatClampNeg)))), (0, .ref a_t)]) hx hb dX8_alone_43 hl (k := 3) rfl rfl (by decide) rfl (fun ls hl => ?_)
      refine lv_goto (tgt := 6) hx hb dX8_alone_46 (by decide) ?_
      have hw := hX.1 _ (Option.some.inj hM).symm
      rw [hW6] at hw
      exact hw H locs ls hP hD hS (lv_sub hl [3, 1, 2, 0] rfl)
  have hw := lp_walk (Wp := fun z => W6 z.1 z.2.1 z.2.2) (X := fun t => t = res) hst _ _ _ hM hX
  rw [hW6] at hw
  exact hw H locs ls hP hD hS (lv_sub hl [3, 2, 1, 0] rfl)
abbrev rm_J6_numberOfLeadingZeros_0f7a4 : Room := { frames := 0, cells := 0, slots := 0, locals := 0 }
set_option maxHeartbeats 4000000 in
set_option maxRecDepth 100000 in
theorem c_J6_numberOfLeadingZeros_0f7a4 (l : Launch) (dC : Nat → ClassId) (dI : Nat → Nat → Nat) (cI cJ cZ cQ : ClassId) (gx : GX) (sz : Nat) (p0 : Int32) (res : Int32) (hM : M_J6_numberOfLeadingZeros_0f7a4 p0 = some res) : Met l yJ6_numberOfLeadingZeros_0f7a4 wsJ6_numberOfLeadingZeros_0f7a4 rm_J6_numberOfLeadingZeros_0f7a4 (kP dC dI cI cJ cZ cQ gx [.int p0] sz []) (kQi dC dI cI cJ cZ cQ res [] (va_A [] sz)) 0 0 (va_A [] sz) := by
  refine nw_entry (y := yJ6_numberOfLeadingZeros_0f7a4) (ws := wsJ6_numberOfLeadingZeros_0f7a4) (rm := rm_J6_numberOfLeadingZeros_0f7a4) (sz := sz) (wpre := []) (av := [.int p0]) (Qc := (kQi dC dI cI cJ cZ cQ res [])) (cc := cJ6_numberOfLeadingZeros_0f7a4) (own := RJ6) [(0, .int p0)] (by decide) rfl rfl (Nat.le_of_ble_eq_true rfl) rfl ?_
  intro p e s m below meth c A ls H locs hfix hr hlocks hin0 hsz0 hP hK hD hA hS hN hG hl
  obtain ⟨hx, hb, hml, hown, hts⟩ := id hfix
  obtain ⟨Qq, hQq⟩ : ∃ Q9, Q9 = (kQi dC dI cI cJ cZ cQ res []) := ⟨_, rfl⟩
  rw [← hQq]
  have hX : res = res := rfl
  have J73 : ∀ (x : Int32) (x73_0 : Int32) (x73_1 : Int32) (H : Heap) (locs : List Loc) (ls : Array Slot), B_J6_numberOfLeadingZeros_0f7a4_73 x73_0 x73_1 = some x → x = res → va_P (dC, dI) classes [] H → va_D A [] → va_S A s.heap H locs → lv_has ls 2 [(0, .int x73_0), (1, .int x73_1)] → W p l e rm_J6_numberOfLeadingZeros_0f7a4 s m ([.int p0] : List Value).toArray below meth c H locs 0 0 (MQ below (Qq A) ([.int p0] : List Value).toArray s 0 0 A) (F0 m 73 ls []) := by
    intro x x73_0 x73_1 H locs ls hM hX hP hD hS hl
    have hM : (some (x73_1 - ((x73_0.toUInt32 >>> ((1 : Int32).toUInt32 &&& Int32.toUInt32 31)).toInt32))) = some x := hM
    refine lv_iload_n hx hb dJ6_numberOfLeadingZeros_0f7a4_73 rfl (lv_at hl 1 rfl) ?_
    refine lv_iload_n hx hb dJ6_numberOfLeadingZeros_0f7a4_74 rfl (lv_at hl 0 rfl) ?_
    refine lv_iconst (v := (1 : Int32)) hx hb dJ6_numberOfLeadingZeros_0f7a4_75 (by decide) ?_
    refine lv_iushr hx hb dJ6_numberOfLeadingZeros_0f7a4_76 rfl ?_
    refine lv_isub hx hb dJ6_numberOfLeadingZeros_0f7a4_77 ?_
    have hE : res = ((x73_1 - ((x73_0.toUInt32 >>> ((1 : Int32).toUInt32 &&& Int32.toUInt32 31)).toInt32)) : Int32) := ((Option.some.inj hM).trans hX).symm
    rw [hQq, hE]
    exact nw_iret rfl hx hb hr hlocks hK hP hD hS dJ6_numberOfLeadingZeros_0f7a4_78
  have J61 : ∀ (x : Int32) (x61_0 : Int32) (x61_1 : Int32) (H : Heap) (locs : List Loc) (ls : Array Slot), B_J6_numberOfLeadingZeros_0f7a4_61 x61_0 x61_1 = some x → x = res → va_P (dC, dI) classes [] H → va_D A [] → va_S A s.heap H locs → lv_has ls 2 [(0, .int x61_0), (1, .int x61_1)] → W p l e rm_J6_numberOfLeadingZeros_0f7a4 s m ([.int p0] : List Value).toArray below meth c H locs 0 0 (MQ below (Qq A) ([.int p0] : List Value).toArray s 0 0 A) (F0 m 61 ls []) := by
    intro x x61_0 x61_1 H locs ls hM hX hP hD hS hl
    have hM : (if x61_0 < (4 : Int32) then (B_J6_numberOfLeadingZeros_0f7a4_73 x61_0 x61_1) else (B_J6_numberOfLeadingZeros_0f7a4_73 ((x61_0.toUInt32 >>> ((2 : Int32).toUInt32 &&& Int32.toUInt32 31)).toInt32) (x61_1 + (-2 : Int32)))) = some x := hM
    refine lv_iload_n hx hb dJ6_numberOfLeadingZeros_0f7a4_61 rfl (lv_at hl 0 rfl) ?_
    refine lv_iconst (v := (4 : Int32)) hx hb dJ6_numberOfLeadingZeros_0f7a4_62 (by decide) ?_
    refine lv_icmp_lt (tgt := 73) hx hb dJ6_numberOfLeadingZeros_0f7a4_63 (by decide) (fun c63 => ?_) (fun c63 => ?_)
    · have hM := ifp c63 hM
      exact J73 _ x61_0 x61_1 H locs ls hM hX hP hD hS (lv_sub hl [0, 1] rfl)
    · have hM := ifn c63 hM
      refine lv_iinc (v := (x61_1 + (-2 : Int32))) (lv' := [(1, .int (x61_1 + (-2 : Int32))), (0, .int x61_0)]) hx hb dJ6_numberOfLeadingZeros_0f7a4_66 hl (k := 1) rfl rfl (by decide) rfl (fun ls hl => ?_)
      refine lv_iload_n hx hb dJ6_numberOfLeadingZeros_0f7a4_69 rfl (lv_at hl 1 rfl) ?_
      refine lv_iconst (v := (2 : Int32)) hx hb dJ6_numberOfLeadingZeros_0f7a4_70 (by decide) ?_
      refine lv_iushr hx hb dJ6_numberOfLeadingZeros_0f7a4_71 rfl ?_
      refine lv_istore_n (lv' := [(0, .int ((x61_0.toUInt32 >>> ((2 : Int32).toUInt32 &&& Int32.toUInt32 31)).toInt32)), (1, .int (x61_1 + (-2 : Int32)))]) hx hb dJ6_numberOfLeadingZeros_0f7a4_72 rfl hl (by decide) rfl (fun ls hl => ?_)
      exact J73 _ ((x61_0.toUInt32 >>> ((2 : Int32).toUInt32 &&& Int32.toUInt32 31)).toInt32) (x61_1 + (-2 : Int32)) H locs ls hM hX hP hD hS (lv_sub hl [0, 1] rfl)
  have J48 : ∀ (x : Int32) (x48_0 : Int32) (x48_1 : Int32) (H : Heap) (locs : List Loc) (ls : Array Slot), B_J6_numberOfLeadingZeros_0f7a4_48 x48_0 x48_1 = some x → x = res → va_P (dC, dI) classes [] H → va_D A [] → va_S A s.heap H locs → lv_has ls 2 [(0, .int x48_0), (1, .int x48_1)] → W p l e rm_J6_numberOfLeadingZeros_0f7a4 s m ([.int p0] : List Value).toArray below meth c H locs 0 0 (MQ below (Qq A) ([.int p0] : List Value).toArray s 0 0 A) (F0 m 48 ls []) := by
    intro x x48_0 x48_1 H locs ls hM hX hP hD hS hl
    have hM : (if x48_0 < (16 : Int32) then (B_J6_numberOfLeadingZeros_0f7a4_61 x48_0 x48_1) else (B_J6_numberOfLeadingZeros_0f7a4_61 ((x48_0.toUInt32 >>> ((4 : Int32).toUInt32 &&& Int32.toUInt32 31)).toInt32) (x48_1 + (-4 : Int32)))) = some x := hM
    refine lv_iload_n hx hb dJ6_numberOfLeadingZeros_0f7a4_48 rfl (lv_at hl 0 rfl) ?_
    refine lv_bipush (v := (16 : Int32)) hx hb dJ6_numberOfLeadingZeros_0f7a4_49 (by decide) ?_
    refine lv_icmp_lt (tgt := 61) hx hb dJ6_numberOfLeadingZeros_0f7a4_51 (by decide) (fun c51 => ?_) (fun c51 => ?_)
    · have hM := ifp c51 hM
      exact J61 _ x48_0 x48_1 H locs ls hM hX hP hD hS (lv_sub hl [0, 1] rfl)
    · have hM := ifn c51 hM
      refine lv_iinc (v := (x48_1 + (-4 : Int32))) (lv' := [(1, .int (x48_1 + (-4 : Int32))), (0, .int x48_0)]) hx hb dJ6_numberOfLeadingZeros_0f7a4_54 hl (k := 1) rfl rfl (by decide) rfl (fun ls hl => ?_)
      refine lv_iload_n hx hb dJ6_numberOfLeadingZeros_0f7a4_57 rfl (lv_at hl 1 rfl) ?_
      refine lv_iconst (v := (4 : Int32)) hx hb dJ6_numberOfLeadingZeros_0f7a4_58 (by decide) ?_
      refine lv_iushr hx hb dJ6_numberOfLeadingZeros_0f7a4_59 rfl ?_
      refine lv_istore_n (lv' := [(0, .int ((x48_0.toUInt32 >>> ((4 : Int32).toUInt32 &&& Int32.toUInt32 31)).toInt32)), (1, .int (x48_1 + (-4 : Int32)))]) hx hb dJ6_numberOfLeadingZeros_0f7a4_60 rfl hl (by decide) rfl (fun ls hl => ?_)
      exact J61 _ ((x48_0.toUInt32 >>> ((4 : Int32).toUInt32 &&& Int32.toUInt32 31)).toInt32) (x48_1 + (-4 : Int32)) H locs ls hM hX hP hD hS (lv_sub hl [0, 1] rfl)
  have J33 : ∀ (x : Int32) (x33_0 : Int32) (x33_1 : Int32) (H : Heap) (locs : List Loc) (ls : Array Slot), B_J6_numberOfLeadingZeros_0f7a4_33 x33_0 x33_1 = some x → x = res → va_P (dC, dI) classes [] H → va_D A [] → va_S A s.heap H locs → lv_has ls 2 [(0, .int x33_0), (1, .int x33_1)] → W p l e rm_J6_numberOfLeadingZeros_0f7a4 s m ([.int p0] : List Value).toArray below meth c H locs 0 0 (MQ below (Qq A) ([.int p0] : List Value).toArray s 0 0 A) (F0 m 33 ls []) := by
    intro x x33_0 x33_1 H locs ls hM hX hP hD hS hl
    have hM : (if x33_0 < (256 : Int32) then (B_J6_numberOfLeadingZeros_0f7a4_48 x33_0 x33_1) else (B_J6_numberOfLeadingZeros_0f7a4_48 ((x33_0.toUInt32 >>> ((8 : Int32).toUInt32 &&& Int32.toUInt32 31)).toInt32) (x33_1 + (-8 : Int32)))) = some x := hM
    refine lv_iload_n hx hb dJ6_numberOfLeadingZeros_0f7a4_33 rfl (lv_at hl 0 rfl) ?_
    refine lv_sipush (v := (256 : Int32)) hx hb dJ6_numberOfLeadingZeros_0f7a4_34 (by decide) ?_
    refine lv_icmp_lt (tgt := 48) hx hb dJ6_numberOfLeadingZeros_0f7a4_37 (by decide) (fun c37 => ?_) (fun c37 => ?_)
    · have hM := ifp c37 hM
      exact J48 _ x33_0 x33_1 H locs ls hM hX hP hD hS (lv_sub hl [0, 1] rfl)
    · have hM := ifn c37 hM
      refine lv_iinc (v := (x33_1 + (-8 : Int32))) (lv' := [(1, .int (x33_1 + (-8 : Int32))), (0, .int x33_0)]) hx hb dJ6_numberOfLeadingZeros_0f7a4_40 hl (k := 1) rfl rfl (by decide) rfl (fun ls hl => ?_)
      refine lv_iload_n hx hb dJ6_numberOfLeadingZeros_0f7a4_43 rfl (lv_at hl 1 rfl) ?_
      refine lv_bipush (v := (8 : Int32)) hx hb dJ6_numberOfLeadingZeros_0f7a4_44 (by decide) ?_
      refine lv_iushr hx hb dJ6_numberOfLeadingZeros_0f7a4_46 rfl ?_
      refine lv_istore_n (lv' := [(0, .int ((x33_0.toUInt32 >>> ((8 : Int32).toUInt32 &&& Int32.toUInt32 31)).toInt32)), (1, .int (x33_1 + (-8 : Int32)))]) hx hb dJ6_numberOfLeadingZeros_0f7a4_47 rfl hl (by decide) rfl (fun ls hl => ?_)
      exact J48 _ ((x33_0.toUInt32 >>> ((8 : Int32).toUInt32 &&& Int32.toUInt32 31)).toInt32) (x33_1 + (-8 : Int32)) H locs ls hM hX hP hD hS (lv_sub hl [0, 1] rfl)
  have hM : (if 0 < p0 then (if p0 < (65536 : Int32) then (B_J6_numberOfLeadingZeros_0f7a4_33 p0 (31 : Int32)) else (B_J6_numberOfLeadingZeros_0f7a4_33 ((p0.toUInt32 >>> ((16 : Int32).toUInt32 &&& Int32.toUInt32 31)).toInt32) ((31 : Int32) + (-16 : Int32)))) else (if p0 = 0 then (some (32 : Int32)) else (some (0 : Int32)))) = some res := hM
  refine lv_iload_n hx hb dJ6_numberOfLeadingZeros_0f7a4_0 rfl (lv_at hl 0 rfl) ?_
  refine lv_if_gt (tgt := 15) hx hb dJ6_numberOfLeadingZeros_0f7a4_1 (by decide) (fun c1 => ?_) (fun c1 => ?_)
  · have hM := ifp c1 hM
    refine lv_bipush (v := (31 : Int32)) hx hb dJ6_numberOfLeadingZeros_0f7a4_15 (by decide) ?_
    refine lv_istore_n (lv' := [(1, .int (31 : Int32)), (0, .int p0)]) hx hb dJ6_numberOfLeadingZeros_0f7a4_17 rfl hl (by decide) rfl (fun ls hl => ?_)
    refine lv_iload_n hx hb dJ6_numberOfLeadingZeros_0f7a4_18 rfl (lv_at hl 1 rfl) ?_
    refine lv_ldcw (v := (65536 : Int32)) hx hb hown (hts (.constant RJ6 264 (65536)) (by decide +kernel)) dJ6_numberOfLeadingZeros_0f7a4_19 ?_
    refine lv_icmp_lt (tgt := 33) hx hb dJ6_numberOfLeadingZeros_0f7a4_22 (by decide) (fun c22 => ?_) (fun c22 => ?_)
    · have hM := ifp c22 hM
      exact J33 _ p0 (31 : Int32) H locs ls hM hX hP hD hS (lv_sub hl [1, 0] rfl)
    · have hM := ifn c22 hM
      refine lv_iinc (v := ((31 : Int32) + (-16 : Int32))) (lv' := [(1, .int ((31 : Int32) + (-16 : Int32))), (0, .int p0)]) hx hb dJ6_numberOfLeadingZeros_0f7a4_25 hl (k := 0) rfl rfl (by decide) rfl (fun ls hl => ?_)
      refine lv_iload_n hx hb dJ6_numberOfLeadingZeros_0f7a4_28 rfl (lv_at hl 1 rfl) ?_
      refine lv_bipush (v := (16 : Int32)) hx hb dJ6_numberOfLeadingZeros_0f7a4_29 (by decide) ?_
      refine lv_iushr hx hb dJ6_numberOfLeadingZeros_0f7a4_31 rfl ?_
      refine lv_istore_n (lv' := [(0, .int ((p0.toUInt32 >>> ((16 : Int32).toUInt32 &&& Int32.toUInt32 31)).toInt32)), (1, .int ((31 : Int32) + (-16 : Int32)))]) hx hb dJ6_numberOfLeadingZeros_0f7a4_32 rfl hl (by decide) rfl (fun ls hl => ?_)
      exact J33 _ ((p0.toUInt32 >>> ((16 : Int32).toUInt32 &&& Int32.toUInt32 31)).toInt32) ((31 : Int32) + (-16 : Int32)) H locs ls hM hX hP hD hS (lv_sub hl [0, 1] rfl)
  · have hM := ifn c1 hM
    refine lv_iload_n hx hb dJ6_numberOfLeadingZeros_0f7a4_4 rfl (lv_at hl 0 rfl) ?_
    refine lv_if_ne (tgt := 13) hx hb dJ6_numberOfLeadingZeros_0f7a4_5 (by decide) (fun c5 => ?_) (fun c5 => ?_)
    · have hM := ifn c5 hM
      refine lv_iconst (v := (0 : Int32)) hx hb dJ6_numberOfLeadingZeros_0f7a4_13 (by decide) ?_
      have hE : res = ((0 : Int32) : Int32) := ((Option.some.inj hM).trans hX).symm
      rw [hQq, hE]
      exact nw_iret rfl hx hb hr hlocks hK hP hD hS dJ6_numberOfLeadingZeros_0f7a4_14
    · have hM := ifp c5 hM
      refine lv_bipush (v := (32 : Int32)) hx hb dJ6_numberOfLeadingZeros_0f7a4_8 (by decide) ?_
      refine lv_goto (tgt := 14) hx hb dJ6_numberOfLeadingZeros_0f7a4_10 (by decide) ?_
      have hE : res = ((32 : Int32) : Int32) := ((Option.some.inj hM).trans hX).symm
      rw [hQq, hE]
      exact nw_iret rfl hx hb hr hlocks hK hP hD hS dJ6_numberOfLeadingZeros_0f7a4_14
abbrev rm_J6_highestOneBit_0f7a4 : Room := { frames := 1, cells := 0, slots := 0, locals := 21 }
set_option maxHeartbeats 4000000 in
set_option maxRecDepth 100000 in
theorem c_J6_highestOneBit_0f7a4 (l : Launch) (dC : Nat → ClassId) (dI : Nat → Nat → Nat) (cI cJ cZ cQ : ClassId) (gx : GX) (sz : Nat) (p0 : Int32) (res : Int32) (hM : M_J6_highestOneBit_0f7a4 p0 = some res) : Met l yJ6_highestOneBit_0f7a4 wsJ6_highestOneBit_0f7a4 rm_J6_highestOneBit_0f7a4 (kP dC dI cI cJ cZ cQ gx [.int p0] sz []) (kQi dC dI cI cJ cZ cQ res [] (va_A [] sz)) 0 0 (va_A [] sz) := by
  refine nw_entry (y := yJ6_highestOneBit_0f7a4) (ws := wsJ6_highestOneBit_0f7a4) (rm := rm_J6_highestOneBit_0f7a4) (sz := sz) (wpre := []) (av := [.int p0]) (Qc := (kQi dC dI cI cJ cZ cQ res [])) (cc := cJ6_highestOneBit_0f7a4) (own := RJ6) [(0, .int p0)] (by decide) rfl rfl (Nat.le_of_ble_eq_true rfl) rfl ?_
  intro p e s m below meth c A ls H locs hfix hr hlocks hin0 hsz0 hP hK hD hA hS hN hG hl
  obtain ⟨hx, hb, hml, hown, hts⟩ := id hfix
  obtain ⟨Qq, hQq⟩ : ∃ Q9, Q9 = (kQi dC dI cI cJ cZ cQ res []) := ⟨_, rfl⟩
  rw [← hQq]
  have hX : res = res := rfl
  have hM : (Option.bind (M_J6_numberOfLeadingZeros_0f7a4 p0) (fun t4 => some (p0 &&& (((-2147483648 : Int32).toUInt32 >>> (t4.toUInt32 &&& Int32.toUInt32 31)).toInt32)))) = some res := hM
  refine lv_iload_n hx hb dJ6_highestOneBit_0f7a4_0 rfl (lv_at hl 0 rfl) ?_
  refine lv_ldc (v := (-2147483648 : Int32)) hx hb hown (hts (.constant RJ6 127 (-2147483648)) (by decide +kernel)) dJ6_highestOneBit_0f7a4_1 ?_
  refine lv_iload_n hx hb dJ6_highestOneBit_0f7a4_3 rfl (lv_at hl 0 rfl) ?_
  obtain ⟨t4, hg4, hM⟩ := bd hM
  refine nw_i (wc := []) (wr := []) (w1 := []) (wf := []) [] [] [] hP hD hS hA rfl rfl rfl (by decide) rfl rfl (nw_runS (As := [.int p0]) (rest := [.int (-2147483648 : Int32), .int p0]) hfix (c_J6_numberOfLeadingZeros_0f7a4 l dC dI cI cJ cZ cQ gx  H.size  p0 t4 hg4) (va_cwS 1 hts gJ6_highestOneBit_0f7a4_J6_numberOfLeadingZeros_0f7a4 rfl rfl rfl (by decide +kernel) ⟨Nat.le_of_ble_eq_true rfl, Nat.le_of_ble_eq_true rfl⟩) hP hD hK hN hS hA hG [] rfl rfl hl.1 rfl rfl (Nat.le_of_ble_eq_true rfl) dJ6_highestOneBit_0f7a4_4 ⟨Nat.zero_le _, Nat.zero_le _⟩) (fun H locs hP hD hS => ?_)
  refine lv_iushr hx hb dJ6_highestOneBit_0f7a4_7 rfl ?_
  refine lv_iand hx hb dJ6_highestOneBit_0f7a4_8 ?_
  have hE : res = ((p0 &&& (((-2147483648 : Int32).toUInt32 >>> (t4.toUInt32 &&& Int32.toUInt32 31)).toInt32)) : Int32) := ((Option.some.inj hM).trans hX).symm
  rw [hQq, hE]
  exact nw_iret rfl hx hb hr hlocks hK hP hD hS dJ6_highestOneBit_0f7a4_9
abbrev rm_X8_matchedSorts : Room := { frames := 2, cells := 0, slots := 0, locals := 41 }
set_option maxHeartbeats 4000000 in
set_option maxRecDepth 100000 in
theorem c_X8_matchedSorts (l : Launch) (dC : Nat → ClassId) (dI : Nat → Nat → Nat) (cI cJ cZ cQ : ClassId) (gx : GX) (sz : Nat) (p0 : Int32) (p1 : Int32) (res : Int32) (hM : M_X8_matchedSorts p0 p1 = some res) : Met l yX8_matchedSorts wsX8_matchedSorts rm_X8_matchedSorts (kP dC dI cI cJ cZ cQ gx [.int p0, .int p1] sz []) (kQi dC dI cI cJ cZ cQ res [] (va_A [] sz)) 0 0 (va_A [] sz) := by
  refine nw_entry (y := yX8_matchedSorts) (ws := wsX8_matchedSorts) (rm := rm_X8_matchedSorts) (sz := sz) (wpre := []) (av := [.int p0, .int p1]) (Qc := (kQi dC dI cI cJ cZ cQ res [])) (cc := cX8_matchedSorts) (own := RX8) [(0, .int p0), (1, .int p1)] (by decide) rfl rfl (Nat.le_of_ble_eq_true rfl) rfl ?_
  intro p e s m below meth c A ls H locs hfix hr hlocks hin0 hsz0 hP hK hD hA hS hN hG hl
  obtain ⟨hx, hb, hml, hown, hts⟩ := id hfix
  obtain ⟨Qq, hQq⟩ : ∃ Q9, Q9 = (kQi dC dI cI cJ cZ cQ res []) := ⟨_, rfl⟩
  rw [← hQq]
  have hX : res = res := rfl
  have hM : (lpN (fun z => L_X8_matchedSorts_7 p0 p1 z.1 z.2.1 z.2.2) fuelK ((0 : Int32), (0 : Int32), (0 : Int32))) = some res := hM
  refine lv_iconst (v := (0 : Int32)) hx hb dX8_matchedSorts_0 (by decide) ?_
  refine lv_istore_n (lv' := [(2, .int (0 : Int32)), (0, .int p0), (1, .int p1)]) hx hb dX8_matchedSorts_1 rfl hl (by decide) rfl (fun ls hl => ?_)
  refine lv_iconst (v := (0 : Int32)) hx hb dX8_matchedSorts_2 (by decide) ?_
  refine lv_istore_n (lv' := [(3, .int (0 : Int32)), (2, .int (0 : Int32)), (0, .int p0), (1, .int p1)]) hx hb dX8_matchedSorts_3 rfl hl (by decide) rfl (fun ls hl => ?_)
  refine lv_iconst (v := (0 : Int32)) hx hb dX8_matchedSorts_4 (by decide) ?_
  refine lv_istore (lv' := [(4, .int (0 : Int32)), (3, .int (0 : Int32)), (2, .int (0 : Int32)), (0, .int p0), (1, .int p1)]) hx hb dX8_matchedSorts_5 hl (by decide) rfl (fun ls hl => ?_)
  obtain ⟨W7, hW7⟩ : ∃ W9 : Int32 → Int32 → Int32 → Prop, W9 = fun (y7_2 : Int32) (y7_3 : Int32) (y7_4 : Int32) => ∀ (H : Heap) (locs : List Loc) (ls : Array Slot), va_P (dC, dI) classes [] H → va_D A [] → va_S A s.heap H locs → lv_has ls 6 [(0, .int p0), (1, .int p1), (2, .int y7_2), (3, .int y7_3), (4, .int y7_4)] → W p l e rm_X8_matchedSorts s m ([.int p0, .int p1] : List Value).toArray below meth c H locs 0 0 (MQ below (Qq A) ([.int p0, .int p1] : List Value).toArray s 0 0 A) (F0 m 7 ls []) := ⟨_, rfl⟩
  have hst : ∀ (z : (Int32 × Int32 × Int32)) (x : ((Int32 × Int32 × Int32) ⊕ Int32)), (fun z => L_X8_matchedSorts_7 p0 p1 z.1 z.2.1 z.2.2) z = some x → ((∀ z', x = Sum.inl z' → W7 z'.1 z'.2.1 z'.2.2) ∧ (∀ t_7, x = Sum.inr t_7 → t_7 = res)) → W7 z.1 z.2.1 z.2.2 := by
    rintro ⟨y7_2, y7_3, y7_4⟩ x hM hX
    have hM : L_X8_matchedSorts_7 p0 p1 y7_2 y7_3 y7_4 = some x := hM
    show W7 y7_2 y7_3 y7_4
    rw [hW7]
    intro H locs ls hP hD hS hl
    have hM : (if p1 ≤ y7_4 then (((some y7_3)).map Sum.inr) else (Option.bind (M_X8_has p0 y7_4) (fun t16 => if t16 = 0 then (some (Sum.inl ((y7_2 ||| ((1 : Int32) <<< (y7_4 &&& 31))), y7_3, (y7_4 + (1 : Int32))))) else (if y7_2 = 0 then (some (Sum.inl (y7_2, y7_3, (y7_4 + (1 : Int32))))) else (Option.bind (M_J6_highestOneBit_0f7a4 y7_2) (fun t37 => some (Sum.inl ((y7_2 &&& (t37 ^^^ (-1 : Int32))), (y7_3 ||| (t37 ||| ((1 : Int32) <<< (y7_4 &&& 31)))), (y7_4 + (1 : Int32)))))))))) = some x := hM
    refine lv_iload hx hb dX8_matchedSorts_7 (lv_at hl 4 rfl) ?_
    refine lv_iload_n hx hb dX8_matchedSorts_9 rfl (lv_at hl 1 rfl) ?_
    refine lv_icmp_ge (tgt := 65) hx hb dX8_matchedSorts_10 (by decide) (fun c10 => ?_) (fun c10 => ?_)
    · have hM := ifp c10 hM
      obtain ⟨x, hMn, hxe⟩ := mpr hM
      have hX := hX.2 _ hxe
      have hM := hMn
      refine lv_iload_n hx hb dX8_matchedSorts_65 rfl (lv_at hl 3 rfl) ?_
      have hE : res = (y7_3 : Int32) := ((Option.some.inj hM).trans hX).symm
      rw [hQq, hE]
      exact nw_iret rfl hx hb hr hlocks hK hP hD hS dX8_matchedSorts_66
    · have hM := ifn c10 hM
      refine lv_iload_n hx hb dX8_matchedSorts_13 rfl (lv_at hl 0 rfl) ?_
      refine lv_iload hx hb dX8_matchedSorts_14 (lv_at hl 4 rfl) ?_
      obtain ⟨t16, hg16, hM⟩ := bd hM
      refine nw_i (wc := []) (wr := []) (w1 := []) (wf := []) [] [] [] hP hD hS hA rfl rfl rfl (by decide) rfl rfl (nw_runS (As := [.int p0, .int y7_4]) (rest := []) hfix (c_X8_has l dC dI cI cJ cZ cQ gx  H.size  p0 y7_4 t16 hg16) (va_cwS 2 hts gX8_matchedSorts_X8_has rfl rfl rfl (by decide +kernel) ⟨Nat.le_of_ble_eq_true rfl, Nat.le_of_ble_eq_true rfl⟩) hP hD hK hN hS hA hG [] rfl rfl hl.1 rfl rfl (Nat.le_of_ble_eq_true rfl) dX8_matchedSorts_16 ⟨Nat.zero_le _, Nat.zero_le _⟩) (fun H locs hP hD hS => ?_)
      refine lv_if_ne (tgt := 32) hx hb dX8_matchedSorts_19 (by decide) (fun c19 => ?_) (fun c19 => ?_)
      · have hM := ifn c19 hM
        refine lv_iload_n hx hb dX8_matchedSorts_32 rfl (lv_at hl 2 rfl) ?_
        refine lv_if_eq (tgt := 59) hx hb dX8_matchedSorts_33 (by decide) (fun c33 => ?_) (fun c33 => ?_)
        · have hM := ifp c33 hM
          refine lv_iinc (v := (y7_4 + (1 : Int32))) (lv' := [(4, .int (y7_4 + (1 : Int32))), (0, .int p0), (1, .int p1), (2, .int y7_2), (3, .int y7_3)]) hx hb dX8_matchedSorts_59 hl (k := 4) rfl rfl (by decide) rfl (fun ls hl => ?_)
          refine lv_goto (tgt := 7) hx hb dX8_matchedSorts_62 (by decide) ?_
          have hw := hX.1 _ (Option.some.inj hM).symm
          rw [hW7] at hw
          exact hw H locs ls hP hD hS (lv_sub hl [1, 2, 3, 4, 0] rfl)
        · have hM := ifn c33 hM
          refine lv_iload_n hx hb dX8_matchedSorts_36 rfl (lv_at hl 2 rfl) ?_
          obtain ⟨t37, hg37, hM⟩ := bd hM
          refine nw_i (wc := []) (wr := []) (w1 := []) (wf := []) [] [] [] hP hD hS hA rfl rfl rfl (by decide) rfl rfl (nw_runS (As := [.int y7_2]) (rest := []) hfix (c_J6_highestOneBit_0f7a4 l dC dI cI cJ cZ cQ gx  H.size  y7_2 t37 hg37) (va_cwS 1 hts gX8_matchedSorts_J6_highestOneBit_0f7a4 rfl rfl rfl (by decide +kernel) ⟨Nat.le_of_ble_eq_true rfl, Nat.le_of_ble_eq_true rfl⟩) hP hD hK hN hS hA hG [] rfl rfl hl.1 rfl rfl (Nat.le_of_ble_eq_true rfl) dX8_matchedSorts_37 ⟨Nat.zero_le _, Nat.zero_le _⟩) (fun H locs hP hD hS => ?_)
          refine lv_istore (lv' := [(5, .int t37), (0, .int p0), (1, .int p1), (2, .int y7_2), (3, .int y7_3), (4, .int y7_4)]) hx hb dX8_matchedSorts_40 hl (by decide) rfl (fun ls hl => ?_)
          refine lv_iload_n hx hb dX8_matchedSorts_42 rfl (lv_at hl 3 rfl) ?_
          refine lv_iload hx hb dX8_matchedSorts_43 (lv_at hl 0 rfl) ?_
          refine lv_iconst (v := (-1 : Int32)) hx hb dX8_matchedSorts_45 (by decide) ?_
          refine lv_ixor hx hb dX8_matchedSorts_46 ?_
          refine lv_iand hx hb dX8_matchedSorts_47 ?_
          refine lv_istore_n (lv' := [(2, .int (y7_2 &&& (t37 ^^^ (-1 : Int32)))), (5, .int t37), (0, .int p0), (1, .int p1), (3, .int y7_3), (4, .int y7_4)]) hx hb dX8_matchedSorts_48 rfl hl (by decide) rfl (fun ls hl => ?_)
          refine lv_iload_n hx hb dX8_matchedSorts_49 rfl (lv_at hl 4 rfl) ?_
          refine lv_iload hx hb dX8_matchedSorts_50 (lv_at hl 1 rfl) ?_
          refine lv_iconst (v := (1 : Int32)) hx hb dX8_matchedSorts_52 (by decide) ?_
          refine lv_iload hx hb dX8_matchedSorts_53 (lv_at hl 5 rfl) ?_
          refine lv_ishl hx hb dX8_matchedSorts_55 ?_
          refine lv_ior hx hb dX8_matchedSorts_56 ?_
          refine lv_ior hx hb dX8_matchedSorts_57 ?_
          refine lv_istore_n (lv' := [(3, .int (y7_3 ||| (t37 ||| ((1 : Int32) <<< (y7_4 &&& 31))))), (2, .int (y7_2 &&& (t37 ^^^ (-1 : Int32)))), (5, .int t37), (0, .int p0), (1, .int p1), (4, .int y7_4)]) hx hb dX8_matchedSorts_58 rfl hl (by decide) rfl (fun ls hl => ?_)
          refine lv_iinc (v := (y7_4 + (1 : Int32))) (lv' := [(4, .int (y7_4 + (1 : Int32))), (3, .int (y7_3 ||| (t37 ||| ((1 : Int32) <<< (y7_4 &&& 31))))), (2, .int (y7_2 &&& (t37 ^^^ (-1 : Int32)))), (5, .int t37), (0, .int p0), (1, .int p1)]) hx hb dX8_matchedSorts_59 hl (k := 5) rfl rfl (by decide) rfl (fun ls hl => ?_)
          refine lv_goto (tgt := 7) hx hb dX8_matchedSorts_62 (by decide) ?_
          have hw := hX.1 _ (Option.some.inj hM).symm
          rw [hW7] at hw
          exact hw H locs ls hP hD hS (lv_sub hl [4, 5, 2, 1, 0] rfl)
      · have hM := ifp c19 hM
        refine lv_iload_n hx hb dX8_matchedSorts_22 rfl (lv_at hl 2 rfl) ?_
        refine lv_iconst (v := (1 : Int32)) hx hb dX8_matchedSorts_23 (by decide) ?_
        refine lv_iload hx hb dX8_matchedSorts_24 (lv_at hl 4 rfl) ?_
        refine lv_ishl hx hb dX8_matchedSorts_26 ?_
        refine lv_ior hx hb dX8_matchedSorts_27 ?_
        refine lv_istore_n (lv' := [(2, .int (y7_2 ||| ((1 : Int32) <<< (y7_4 &&& 31)))), (0, .int p0), (1, .int p1), (3, .int y7_3), (4, .int y7_4)]) hx hb dX8_matchedSorts_28 rfl hl (by decide) rfl (fun ls hl => ?_)
        refine lv_goto (tgt := 59) hx hb dX8_matchedSorts_29 (by decide) ?_
        refine lv_iinc (v := (y7_4 + (1 : Int32))) (lv' := [(4, .int (y7_4 + (1 : Int32))), (2, .int (y7_2 ||| ((1 : Int32) <<< (y7_4 &&& 31)))), (0, .int p0), (1, .int p1), (3, .int y7_3)]) hx hb dX8_matchedSorts_59 hl (k := 4) rfl rfl (by decide) rfl (fun ls hl => ?_)
        refine lv_goto (tgt := 7) hx hb dX8_matchedSorts_62 (by decide) ?_
        have hw := hX.1 _ (Option.some.inj hM).symm
        rw [hW7] at hw
        exact hw H locs ls hP hD hS (lv_sub hl [2, 3, 1, 4, 0] rfl)
  have hw := lp_walk (Wp := fun z => W7 z.1 z.2.1 z.2.2) (X := fun t => t = res) hst _ _ _ hM hX
  rw [hW7] at hw
  exact hw H locs ls hP hD hS (lv_sub hl [3, 4, 2, 1, 0] rfl)
abbrev rm_J6_lowestOneBit_0f7a4 : Room := { frames := 0, cells := 0, slots := 0, locals := 0 }
set_option maxHeartbeats 4000000 in
set_option maxRecDepth 100000 in
theorem c_J6_lowestOneBit_0f7a4 (l : Launch) (dC : Nat → ClassId) (dI : Nat → Nat → Nat) (cI cJ cZ cQ : ClassId) (gx : GX) (sz : Nat) (p0 : Int32) (res : Int32) (hM : M_J6_lowestOneBit_0f7a4 p0 = some res) : Met l yJ6_lowestOneBit_0f7a4 wsJ6_lowestOneBit_0f7a4 rm_J6_lowestOneBit_0f7a4 (kP dC dI cI cJ cZ cQ gx [.int p0] sz []) (kQi dC dI cI cJ cZ cQ res [] (va_A [] sz)) 0 0 (va_A [] sz) := by
  refine nw_entry (y := yJ6_lowestOneBit_0f7a4) (ws := wsJ6_lowestOneBit_0f7a4) (rm := rm_J6_lowestOneBit_0f7a4) (sz := sz) (wpre := []) (av := [.int p0]) (Qc := (kQi dC dI cI cJ cZ cQ res [])) (cc := cJ6_lowestOneBit_0f7a4) (own := RJ6) [(0, .int p0)] (by decide) rfl rfl (Nat.le_of_ble_eq_true rfl) rfl ?_
  intro p e s m below meth c A ls H locs hfix hr hlocks hin0 hsz0 hP hK hD hA hS hN hG hl
  obtain ⟨hx, hb, hml, hown, hts⟩ := id hfix
  obtain ⟨Qq, hQq⟩ : ∃ Q9, Q9 = (kQi dC dI cI cJ cZ cQ res []) := ⟨_, rfl⟩
  rw [← hQq]
  have hX : res = res := rfl
  have hM : (some (p0 &&& (-p0))) = some res := hM
  refine lv_iload_n hx hb dJ6_lowestOneBit_0f7a4_0 rfl (lv_at hl 0 rfl) ?_
  refine lv_iload_n hx hb dJ6_lowestOneBit_0f7a4_1 rfl (lv_at hl 0 rfl) ?_
  refine lv_ineg hx hb dJ6_lowestOneBit_0f7a4_2 ?_
  refine lv_iand hx hb dJ6_lowestOneBit_0f7a4_3 ?_
  have hE : res = ((p0 &&& (-p0)) : Int32) := ((Option.some.inj hM).trans hX).symm
  rw [hQq, hE]
  exact nw_iret rfl hx hb hr hlocks hK hP hD hS dJ6_lowestOneBit_0f7a4_4
