abbrev rm_X0_commonDivisor : Room := { frames := 0, cells := 0, slots := 0, locals := 0 }
set_option maxHeartbeats 4000000 in
set_option maxRecDepth 100000 in
theorem c_X0_commonDivisor (l : Launch) (dC : Nat → ClassId) (dI : Nat → Nat → Nat) (cI cJ cZ cQ : ClassId) (gx : GX) (sz : Nat) (p0 : Int64) (p1 : Int64) (res : Int64) (hM : M_X0_commonDivisor p0 p1 = some res) : Met l yX0_commonDivisor wsX0_commonDivisor rm_X0_commonDivisor (kP dC dI cI cJ cZ cQ gx [.long p0, .long p1] sz []) (kQl dC dI cI cJ cZ cQ res [] (va_A [] sz)) 0 0 (va_A [] sz) := by
  refine nw_entry (y := yX0_commonDivisor) (ws := wsX0_commonDivisor) (rm := rm_X0_commonDivisor) (sz := sz) (wpre := []) (av := [.long p0, .long p1]) (Qc := (kQl dC dI cI cJ cZ cQ res [])) (cc := cX0_commonDivisor) (own := RX0) [(0, .long p0), (2, .long p1)] (by decide) rfl rfl (Nat.le_of_ble_eq_true rfl) rfl ?_
  intro p e s m below meth c A ls H locs hfix hr hlocks hin0 hsz0 hP hK hD hA hS hN hG hl
  obtain ⟨hx, hb, hml, hown, hts⟩ := id hfix
  obtain ⟨Qq, hQq⟩ : ∃ Q9, Q9 = (kQl dC dI cI cJ cZ cQ res []) := ⟨_, rfl⟩
  rw [← hQq]
  have hX : res = res := rfl
  have hM : (lpN (fun z => L_X0_commonDivisor_9 z.1 z.2.1 z.2.2) fuelK (p0, p1, (0 : Int32))) = some res := hM
  refine lv_lload_n hx hb dX0_commonDivisor_0 rfl (lv_at hl 0 rfl) ?_
  refine lv_lstore (lv' := [(4, .long p0), (0, .long p0), (2, .long p1)]) hx hb dX0_commonDivisor_1 hl (by decide) rfl (fun ls hl => ?_)
  refine lv_lload_n hx hb dX0_commonDivisor_3 rfl (lv_at hl 2 rfl) ?_
  refine lv_lstore (lv' := [(6, .long p1), (4, .long p0), (0, .long p0), (2, .long p1)]) hx hb dX0_commonDivisor_4 hl (by decide) rfl (fun ls hl => ?_)
  refine lv_iconst (v := (0 : Int32)) hx hb dX0_commonDivisor_6 (by decide) ?_
  refine lv_istore (lv' := [(8, .int (0 : Int32)), (6, .long p1), (4, .long p0), (0, .long p0), (2, .long p1)]) hx hb dX0_commonDivisor_7 hl (by decide) rfl (fun ls hl => ?_)
  obtain ⟨W9, hW9⟩ : ∃ W9 : Int64 → Int64 → Int32 → Prop, W9 = fun (y9_4 : Int64) (y9_6 : Int64) (y9_8 : Int32) => ∀ (H : Heap) (locs : List Loc) (ls : Array Slot), va_P (dC, dI) classes [] H → va_D A [] → va_S A s.heap H locs → lv_has ls 11 [(4, .long y9_4), (6, .long y9_6), (8, .int y9_8)] → W p l e rm_X0_commonDivisor s m ([.long p0, .long p1] : List Value).toArray below meth c H locs 0 0 (MQ below (Qq A) ([.long p0, .long p1] : List Value).toArray s 0 0 A) (F0 m 9 ls []) := ⟨_, rfl⟩
  have hst : ∀ (z : (Int64 × Int64 × Int32)) (x : ((Int64 × Int64 × Int32) ⊕ Int64)), (fun z => L_X0_commonDivisor_9 z.1 z.2.1 z.2.2) z = some x → ((∀ z', x = Sum.inl z' → W9 z'.1 z'.2.1 z'.2.2) ∧ (∀ t_9, x = Sum.inr t_9 → t_9 = res)) → W9 z.1 z.2.1 z.2.2 := by
    rintro ⟨y9_4, y9_6, y9_8⟩ x hM hX
    have hM : L_X0_commonDivisor_9 y9_4 y9_6 y9_8 = some x := hM
    show W9 y9_4 y9_6 y9_8
    rw [hW9]
    intro H locs ls hP hD hS hl
    have hM : (if (100 : Int32) ≤ y9_8 then (((some y9_4)).map Sum.inr) else (if (lg_cmp y9_6 (0 : Int64)) = 0 then (((some y9_4)).map Sum.inr) else (dzL y9_6 (some (Sum.inl (y9_6, (y9_4 - y9_4 / y9_6 * y9_6), (y9_8 + (1 : Int32)))))))) = some x := hM
    refine lv_iload hx hb dX0_commonDivisor_9 (lv_at hl 2 rfl) ?_
    refine lv_bipush (v := (100 : Int32)) hx hb dX0_commonDivisor_11 (by decide) ?_
    refine lv_icmp_ge (tgt := 44) hx hb dX0_commonDivisor_13 (by decide) (fun c13 => ?_) (fun c13 => ?_)
    · have hM := ifp c13 hM
      obtain ⟨x, hMn, hxe⟩ := mpr hM
      have hX := hX.2 _ hxe
      have hM := hMn
      refine lv_lload hx hb dX0_commonDivisor_44 (lv_at hl 0 rfl) ?_
      have hE : res = (y9_4 : Int64) := ((Option.some.inj hM).trans hX).symm
      rw [hQq, hE]
      exact nw_lret rfl hx hb hr hlocks hK hP hD hS dX0_commonDivisor_46
    · have hM := ifn c13 hM
      refine lv_lload hx hb dX0_commonDivisor_16 (lv_at hl 1 rfl) ?_
      refine lv_lconst (v := 0) hx hb dX0_commonDivisor_18 (by decide) ?_
      refine W.lcmp hx hb dX0_commonDivisor_19 ?_
      refine lv_if_eq (tgt := 44) hx hb dX0_commonDivisor_20 (by decide) (fun c20 => ?_) (fun c20 => ?_)
      · have hM := ifp c20 hM
        obtain ⟨x, hMn, hxe⟩ := mpr hM
        have hX := hX.2 _ hxe
        have hM := hMn
        refine lv_lload hx hb dX0_commonDivisor_44 (lv_at hl 0 rfl) ?_
        have hE : res = (y9_4 : Int64) := ((Option.some.inj hM).trans hX).symm
        rw [hQq, hE]
        exact nw_lret rfl hx hb hr hlocks hK hP hD hS dX0_commonDivisor_46
      · have hM := ifn c20 hM
        refine lv_lload hx hb dX0_commonDivisor_23 (lv_at hl 0 rfl) ?_
        refine lv_lload hx hb dX0_commonDivisor_25 (lv_at hl 1 rfl) ?_
        obtain ⟨hdz, hM⟩ := dzLp hM
        refine lv_lrem hx hb dX0_commonDivisor_27 hdz ?_
        refine lv_lstore (lv' := [(9, .long (y9_4 - y9_4 / y9_6 * y9_6)), (4, .long y9_4), (6, .long y9_6), (8, .int y9_8)]) hx hb dX0_commonDivisor_28 hl (by decide) rfl (fun ls hl => ?_)
        refine lv_lload hx hb dX0_commonDivisor_30 (lv_at hl 2 rfl) ?_
        refine lv_lstore (lv' := [(4, .long y9_6), (9, .long (y9_4 - y9_4 / y9_6 * y9_6)), (6, .long y9_6), (8, .int y9_8)]) hx hb dX0_commonDivisor_32 hl (by decide) rfl (fun ls hl => ?_)
        refine lv_lload hx hb dX0_commonDivisor_34 (lv_at hl 1 rfl) ?_
        refine lv_lstore (lv' := [(6, .long (y9_4 - y9_4 / y9_6 * y9_6)), (4, .long y9_6), (9, .long (y9_4 - y9_4 / y9_6 * y9_6)), (8, .int y9_8)]) hx hb dX0_commonDivisor_36 hl (by decide) rfl (fun ls hl => ?_)
        refine lv_iinc (v := (y9_8 + (1 : Int32))) (lv' := [(8, .int (y9_8 + (1 : Int32))), (6, .long (y9_4 - y9_4 / y9_6 * y9_6)), (4, .long y9_6), (9, .long (y9_4 - y9_4 / y9_6 * y9_6))]) hx hb dX0_commonDivisor_38 hl (k := 3) rfl rfl (by decide) rfl (fun ls hl => ?_)
        refine lv_goto (tgt := 9) hx hb dX0_commonDivisor_41 (by decide) ?_
        have hw := hX.1 _ (Option.some.inj hM).symm
        rw [hW9] at hw
        exact hw H locs ls hP hD hS (lv_sub hl [2, 1, 0] rfl)
  have hw := lp_walk (Wp := fun z => W9 z.1 z.2.1 z.2.2) (X := fun t => t = res) hst _ _ _ hM hX
  rw [hW9] at hw
  exact hw H locs ls hP hD hS (lv_sub hl [2, 1, 0] rfl)
theorem in_X0_put_X0 : ∀ w ∈ wsX00, w ∈ wsX0_put := fun _ h => List.mem_cons_of_mem _ (List.mem_append_right _ h)
abbrev rm_X0_put : Room := { frames := 1, cells := 0, slots := 0, locals := 30 }
set_option maxHeartbeats 4000000 in
set_option maxRecDepth 100000 in
theorem c_X0_put (l : Launch) (dC : Nat → ClassId) (dI : Nat → Nat → Nat) (cI cJ cZ cQ : ClassId) (gx : GX) (a_t : Nat) (sz : Nat) (v_t_above : Int64) (v_t_below : Int64) (p0 : Int64) (p1 : Int64) (res : (Int64 × Int64)) (hM : M_X0_put v_t_above v_t_below p0 p1 = some res) : Met l yX0_put wsX0_put rm_X0_put (kP dC dI cI cJ cZ cQ gx [.ref a_t, .long p0, .long p1] sz [(a_t, .inr (0, [.long v_t_above, .long v_t_below]))]) (kQv dC dI cI cJ cZ cQ [(a_t, .inr (0, [.long res.1, .long res.2]))] (va_A [(a_t, .inr (0, [.long v_t_above, .long v_t_below]))] sz)) 0 0 (va_A [(a_t, .inr (0, [.long v_t_above, .long v_t_below]))] sz) := by
  refine nw_entry (y := yX0_put) (ws := wsX0_put) (rm := rm_X0_put) (sz := sz) (wpre := [(a_t, .inr (0, [.long v_t_above, .long v_t_below]))]) (av := [.ref a_t, .long p0, .long p1]) (Qc := (kQv dC dI cI cJ cZ cQ [(a_t, .inr (0, [.long res.1, .long res.2]))])) (cc := cX0_put) (own := RX0) [(0, .ref a_t), (1, .long p0), (3, .long p1)] (by decide) rfl rfl (Nat.le_of_ble_eq_true rfl) rfl ?_
  intro p e s m below meth c A ls H locs hfix hr hlocks hin0 hsz0 hP hK hD hA hS hN hG hl
  obtain ⟨hx, hb, hml, hown, hts⟩ := id hfix
  obtain ⟨Qq, hQq⟩ : ∃ Q9, Q9 = (kQv dC dI cI cJ cZ cQ [(a_t, .inr (0, [.long res.1, .long res.2]))]) := ⟨_, rfl⟩
  rw [← hQq]
  have hX : res = res := rfl
  have hM : (Option.bind (M_X0_commonDivisor p0 p1) (fun t2 => if (lg_cmp t2 (0 : Int64)) ≤ 0 then (some (v_t_above, v_t_below)) else (dzL t2 (dzL t2 (some ((p0 / t2), (p1 / t2))))))) = some res := hM
  refine lv_lload_n hx hb dX0_put_0 rfl (lv_at hl 1 rfl) ?_
  refine lv_lload_n hx hb dX0_put_1 rfl (lv_at hl 2 rfl) ?_
  obtain ⟨t2, hg2, hM⟩ := bd hM
  refine nw_l (wc := []) (wr := [(a_t, .inr (0, [.long v_t_above, .long v_t_below]))]) (w1 := []) (wf := [(a_t, .inr (0, [.long v_t_above, .long v_t_below]))]) [] [0] [0] hP hD hS hA rfl rfl rfl (by decide) rfl rfl (nw_runS (As := [.long p0, .long p1]) (rest := []) hfix (c_X0_commonDivisor l dC dI cI cJ cZ cQ gx  H.size  p0 p1 t2 hg2) (va_cwS 2 hts gX0_put_X0_commonDivisor rfl rfl rfl (by decide +kernel) ⟨Nat.le_of_ble_eq_true rfl, Nat.le_of_ble_eq_true rfl⟩) hP hD hK hN hS hA hG [] rfl rfl hl.1 rfl rfl (Nat.le_of_ble_eq_true rfl) dX0_put_2 ⟨Nat.zero_le _, Nat.zero_le _⟩) (fun H locs hP hD hS => ?_)
  refine lv_lstore (lv' := [(5, .long t2), (0, .ref a_t), (1, .long p0), (3, .long p1)]) hx hb dX0_put_5 hl (by decide) rfl (fun ls hl => ?_)
  refine lv_lload hx hb dX0_put_7 (lv_at hl 0 rfl) ?_
  refine lv_lconst (v := 0) hx hb dX0_put_9 (by decide) ?_
  refine W.lcmp hx hb dX0_put_10 ?_
  refine lv_if_le (tgt := 30) hx hb dX0_put_11 (by decide) (fun c11 => ?_) (fun c11 => ?_)
  · have hM := ifp c11 hM
    have hE : res = ((v_t_above, v_t_below) : (Int64 × Int64)) := ((Option.some.inj hM).trans hX).symm
    rw [hQq, hE]
    exact nw_vret hx hb hr hlocks hK hP hD hS dX0_put_30
  · have hM := ifn c11 hM
    refine lv_aload_n hx hb dX0_put_14 rfl (lv_at hl 1 rfl) ?_
    refine lv_lload_n hx hb dX0_put_15 rfl (lv_at hl 2 rfl) ?_
    refine lv_lload hx hb dX0_put_16 (lv_at hl 0 rfl) ?_
    obtain ⟨hdz, hM⟩ := dzLp hM
    refine lv_ldiv hx hb dX0_put_18 hdz ?_
    refine va_put (D := (dC, dI)) (ci := 0) (v := .long (p0 / t2)) (ty := .long) (C := RX0) (T := TX0) (N := 2) hx hb hts in_X0_put_X0 tyX0 tyX0_ok nmX0 hown hK hP hD hS 0 rfl rfl 0 (by decide) (hts (.fieldLink RX0 7 "NoneWithin$Fraction" "above" "J") (by decide +kernel)) (fun _ h9 => h9) rfl (by decide +kernel) rfl rfl (Nat.le_of_ble_eq_true rfl) dX0_put_19 (fun H locs hP hD hS => ?_)
    have hP : va_P (dC, dI) classes [(a_t, .inr (0, [.long (p0 / t2), .long v_t_below]))] H := hP
    have hD : va_D A [(a_t, .inr (0, [.long (p0 / t2), .long v_t_below]))] := hD
    refine lv_aload_n hx hb dX0_put_22 rfl (lv_at hl 1 rfl) ?_
    refine lv_lload_n hx hb dX0_put_23 rfl (lv_at hl 3 rfl) ?_
    refine lv_lload hx hb dX0_put_24 (lv_at hl 0 rfl) ?_
    obtain ⟨hdz, hM⟩ := dzLp hM
    refine lv_ldiv hx hb dX0_put_26 hdz ?_
    refine va_put (D := (dC, dI)) (ci := 0) (v := .long (p1 / t2)) (ty := .long) (C := RX0) (T := TX0) (N := 2) hx hb hts in_X0_put_X0 tyX0 tyX0_ok nmX0 hown hK hP hD hS 0 rfl rfl 1 (by decide) (hts (.fieldLink RX0 13 "NoneWithin$Fraction" "below" "J") (by decide +kernel)) (fun _ h9 => h9) rfl (by decide +kernel) rfl rfl (Nat.le_of_ble_eq_true rfl) dX0_put_27 (fun H locs hP hD hS => ?_)
    have hP : va_P (dC, dI) classes [(a_t, .inr (0, [.long (p0 / t2), .long (p1 / t2)]))] H := hP
    have hD : va_D A [(a_t, .inr (0, [.long (p0 / t2), .long (p1 / t2)]))] := hD
    have hE : res = (((p0 / t2), (p1 / t2)) : (Int64 × Int64)) := ((Option.some.inj hM).trans hX).symm
    rw [hQq, hE]
    exact nw_vret hx hb hr hlocks hK hP hD hS dX0_put_30
theorem in_X0_addOneBy_X0 : ∀ w ∈ wsX00, w ∈ wsX0_addOneBy := fun _ h => List.mem_cons_of_mem _ (List.mem_append_right _ h)
abbrev rm_X0_addOneBy : Room := { frames := 2, cells := 0, slots := 0, locals := 56 }
set_option maxHeartbeats 4000000 in
set_option maxRecDepth 100000 in
theorem c_X0_addOneBy (l : Launch) (dC : Nat → ClassId) (dI : Nat → Nat → Nat) (cI cJ cZ cQ : ClassId) (gx : GX) (a_t : Nat) (sz : Nat) (v_t_above : Int64) (v_t_below : Int64) (p0 : Int64) (res : (Int64 × Int64)) (hM : M_X0_addOneBy v_t_above v_t_below p0 = some res) : Met l yX0_addOneBy wsX0_addOneBy rm_X0_addOneBy (kP dC dI cI cJ cZ cQ gx [.ref a_t, .long p0] sz [(a_t, .inr (0, [.long v_t_above, .long v_t_below]))]) (kQv dC dI cI cJ cZ cQ [(a_t, .inr (0, [.long res.1, .long res.2]))] (va_A [(a_t, .inr (0, [.long v_t_above, .long v_t_below]))] sz)) 0 0 (va_A [(a_t, .inr (0, [.long v_t_above, .long v_t_below]))] sz) := by
  refine nw_entry (y := yX0_addOneBy) (ws := wsX0_addOneBy) (rm := rm_X0_addOneBy) (sz := sz) (wpre := [(a_t, .inr (0, [.long v_t_above, .long v_t_below]))]) (av := [.ref a_t, .long p0]) (Qc := (kQv dC dI cI cJ cZ cQ [(a_t, .inr (0, [.long res.1, .long res.2]))])) (cc := cX0_addOneBy) (own := RX0) [(0, .ref a_t), (1, .long p0)] (by decide) rfl rfl (Nat.le_of_ble_eq_true rfl) rfl ?_
  intro p e s m below meth c A ls H locs hfix hr hlocks hin0 hsz0 hP hK hD hA hS hN hG hl
  obtain ⟨hx, hb, hml, hown, hts⟩ := id hfix
  obtain ⟨Qq, hQq⟩ : ∃ Q9, Q9 = (kQv dC dI cI cJ cZ cQ [(a_t, .inr (0, [.long res.1, .long res.2]))]) := ⟨_, rfl⟩
  rw [← hQq]
  have hX : res = res := rfl
  have hM : (Option.bind (M_X0_put v_t_above v_t_below ((v_t_above * p0) + v_t_below) (v_t_below * p0)) (fun t18 => some (t18.1, t18.2))) = some res := hM
  refine lv_aload_n hx hb dX0_addOneBy_0 rfl (lv_at hl 0 rfl) ?_
  refine lv_aload_n hx hb dX0_addOneBy_1 rfl (lv_at hl 0 rfl) ?_
  refine va_get (D := (dC, dI)) (ci := 0) (v := .long v_t_above) (C := RX0) (T := TX0) (N := 2) hx hb hts in_X0_addOneBy_X0 hown hK hP 0 rfl rfl 0 (by decide) (hts (.fieldLink RX0 7 "NoneWithin$Fraction" "above" "J") (by decide +kernel)) (fun _ h9 => h9) rfl dX0_addOneBy_2 ?_
  refine lv_lload_n hx hb dX0_addOneBy_5 rfl (lv_at hl 1 rfl) ?_
  refine lv_lmul hx hb dX0_addOneBy_6 ?_
  refine lv_aload_n hx hb dX0_addOneBy_7 rfl (lv_at hl 0 rfl) ?_
  refine va_get (D := (dC, dI)) (ci := 0) (v := .long v_t_below) (C := RX0) (T := TX0) (N := 2) hx hb hts in_X0_addOneBy_X0 hown hK hP 0 rfl rfl 1 (by decide) (hts (.fieldLink RX0 13 "NoneWithin$Fraction" "below" "J") (by decide +kernel)) (fun _ h9 => h9) rfl dX0_addOneBy_8 ?_
  refine lv_ladd hx hb dX0_addOneBy_11 ?_
  refine lv_aload_n hx hb dX0_addOneBy_12 rfl (lv_at hl 0 rfl) ?_
  refine va_get (D := (dC, dI)) (ci := 0) (v := .long v_t_below) (C := RX0) (T := TX0) (N := 2) hx hb hts in_X0_addOneBy_X0 hown hK hP 0 rfl rfl 1 (by decide) (hts (.fieldLink RX0 13 "NoneWithin$Fraction" "below" "J") (by decide +kernel)) (fun _ h9 => h9) rfl dX0_addOneBy_13 ?_
  refine lv_lload_n hx hb dX0_addOneBy_16 rfl (lv_at hl 1 rfl) ?_
  refine lv_lmul hx hb dX0_addOneBy_17 ?_
  obtain ⟨t18, hg18, hM⟩ := bd hM
  refine nw_v (wc := [(a_t, .inr (0, [.long v_t_above, .long v_t_below]))]) (wr := []) (w1 := [(a_t, .inr (0, [.long t18.1, .long t18.2]))]) (wf := [(a_t, .inr (0, [.long t18.1, .long t18.2]))]) [0] [] [0] hP hD hS hA rfl rfl rfl (by decide) rfl rfl (nw_runV (As := [.long ((v_t_above * p0) + v_t_below), .long (v_t_below * p0)]) (rest := []) hfix (c_X0_put l dC dI cI cJ cZ cQ gx a_t H.size v_t_above v_t_below ((v_t_above * p0) + v_t_below) (v_t_below * p0) t18 hg18) (cwV 2 hts gX0_addOneBy_X0_put rfl rfl rfl (by decide +kernel) ⟨Nat.le_of_ble_eq_true rfl, Nat.le_of_ble_eq_true rfl⟩) hP hD hK hN hS hA hG [0] rfl rfl 0 0 rfl rfl rfl hl.1 rfl rfl (Nat.le_of_ble_eq_true rfl) dX0_addOneBy_18 ⟨Nat.zero_le _, Nat.zero_le _⟩) (fun H locs hP hD hS => ?_)
  have hE : res = ((t18.1, t18.2) : (Int64 × Int64)) := ((Option.some.inj hM).trans hX).symm
  rw [hQq, hE]
  exact nw_vret hx hb hr hlocks hK hP hD hS dX0_addOneBy_21
abbrev rm_X8_between : Room := { frames := 0, cells := 0, slots := 0, locals := 0 }
set_option maxHeartbeats 4000000 in
set_option maxRecDepth 100000 in
theorem c_X8_between (l : Launch) (dC : Nat → ClassId) (dI : Nat → Nat → Nat) (cI cJ cZ cQ : ClassId) (gx : GX) (sz : Nat) (p0 : Int32) (p1 : Int32) (p2 : Int32) (res : Int32) (hM : M_X8_between p0 p1 p2 = some res) : Met l yX8_between wsX8_between rm_X8_between (kP dC dI cI cJ cZ cQ gx [.int p0, .int p1, .int p2] sz []) (kQi dC dI cI cJ cZ cQ res [] (va_A [] sz)) 0 0 (va_A [] sz) := by
  refine nw_entry (y := yX8_between) (ws := wsX8_between) (rm := rm_X8_between) (sz := sz) (wpre := []) (av := [.int p0, .int p1, .int p2]) (Qc := (kQi dC dI cI cJ cZ cQ res [])) (cc := cX8_between) (own := RX8) [(0, .int p0), (1, .int p1), (2, .int p2)] (by decide) rfl rfl (Nat.le_of_ble_eq_true rfl) rfl ?_
  intro p e s m below meth c A ls H locs hfix hr hlocks hin0 hsz0 hP hK hD hA hS hN hG hl
  obtain ⟨hx, hb, hml, hown, hts⟩ := id hfix
  obtain ⟨Qq, hQq⟩ : ∃ Q9, Q9 = (kQi dC dI cI cJ cZ cQ res []) := ⟨_, rfl⟩
  rw [← hQq]
  have hX : res = res := rfl
  have hM : (if p0 < p1 then (some (0 : Int32)) else (if p2 < p0 then (some (0 : Int32)) else (some (1 : Int32)))) = some res := hM
  refine lv_iload_n hx hb dX8_between_0 rfl (lv_at hl 0 rfl) ?_
  refine lv_iload_n hx hb dX8_between_1 rfl (lv_at hl 1 rfl) ?_
  refine lv_icmp_lt (tgt := 14) hx hb dX8_between_2 (by decide) (fun c2 => ?_) (fun c2 => ?_)
  · have hM := ifp c2 hM
    refine lv_iconst (v := (0 : Int32)) hx hb dX8_between_14 (by decide) ?_
    have hE : res = ((0 : Int32) : Int32) := ((Option.some.inj hM).trans hX).symm
    rw [hQq, hE]
    exact nw_zret rfl rfl hx hb hr hlocks hK hP hD hS dX8_between_15
  · have hM := ifn c2 hM
    refine lv_iload_n hx hb dX8_between_5 rfl (lv_at hl 0 rfl) ?_
    refine lv_iload_n hx hb dX8_between_6 rfl (lv_at hl 2 rfl) ?_
    refine lv_icmp_gt (tgt := 14) hx hb dX8_between_7 (by decide) (fun c7 => ?_) (fun c7 => ?_)
    · have hM := ifp c7 hM
      refine lv_iconst (v := (0 : Int32)) hx hb dX8_between_14 (by decide) ?_
      have hE : res = ((0 : Int32) : Int32) := ((Option.some.inj hM).trans hX).symm
      rw [hQq, hE]
      exact nw_zret rfl rfl hx hb hr hlocks hK hP hD hS dX8_between_15
    · have hM := ifn c7 hM
      refine lv_iconst (v := (1 : Int32)) hx hb dX8_between_10 (by decide) ?_
      refine lv_goto (tgt := 15) hx hb dX8_between_11 (by decide) ?_
      have hE : res = ((1 : Int32) : Int32) := ((Option.some.inj hM).trans hX).symm
      rw [hQq, hE]
      exact nw_zret rfl rfl hx hb hr hlocks hK hP hD hS dX8_between_15
theorem in_X2_value_X2 : ∀ w ∈ wsX20, w ∈ wsX2_value := fun _ h => List.mem_cons_of_mem _ (List.mem_append_right _ h)
abbrev rm_X2_value : Room := { frames := 1, cells := 0, slots := 0, locals := 22 }
set_option maxHeartbeats 4000000 in
set_option maxRecDepth 100000 in
theorem c_X2_value (l : Launch) (dC : Nat → ClassId) (dI : Nat → Nat → Nat) (cI cJ cZ cQ : ClassId) (gx : GX) (a_t a_t_weights a_t_table : Nat) (sz : Nat) (v_t_best : Int32) (v_t_bits : Int32) (f_t_weights : (Nat → Int32)) (p0 : Int32) (p1 : Int32) (res : (Nat → Int32)) (hM : M_X2_value f_t_weights p0 p1 = some res) : Met l yX2_value wsX2_value rm_X2_value (kP dC dI cI cJ cZ cQ gx [.ref a_t, .int p0, .int p1] sz [(a_t, .inr (2, [.ref a_t_weights, .ref a_t_table, .int v_t_best, .int v_t_bits])), (a_t_weights, .inl (cI, 16, .inl f_t_weights))]) (kQv dC dI cI cJ cZ cQ [(a_t, .inr (2, [.ref a_t_weights, .ref a_t_table, .int v_t_best, .int v_t_bits])), (a_t_weights, .inl (cI, 16, .inl res))] (va_A [(a_t, .inr (2, [.ref a_t_weights, .ref a_t_table, .int v_t_best, .int v_t_bits])), (a_t_weights, .inl (cI, 16, .inl f_t_weights))] sz)) 0 0 (va_A [(a_t, .inr (2, [.ref a_t_weights, .ref a_t_table, .int v_t_best, .int v_t_bits])), (a_t_weights, .inl (cI, 16, .inl f_t_weights))] sz) := by
  refine nw_entry (y := yX2_value) (ws := wsX2_value) (rm := rm_X2_value) (sz := sz) (wpre := [(a_t, .inr (2, [.ref a_t_weights, .ref a_t_table, .int v_t_best, .int v_t_bits])), (a_t_weights, .inl (cI, 16, .inl f_t_weights))]) (av := [.ref a_t, .int p0, .int p1]) (Qc := (kQv dC dI cI cJ cZ cQ [(a_t, .inr (2, [.ref a_t_weights, .ref a_t_table, .int v_t_best, .int v_t_bits])), (a_t_weights, .inl (cI, 16, .inl res))])) (cc := cX2_value) (own := RX2) [(0, .ref a_t), (1, .int p0), (2, .int p1)] (by decide) rfl rfl (Nat.le_of_ble_eq_true rfl) rfl ?_
  intro p e s m below meth c A ls H locs hfix hr hlocks hin0 hsz0 hP hK hD hA hS hN hG hl
  obtain ⟨hx, hb, hml, hown, hts⟩ := id hfix
  obtain ⟨Qq, hQq⟩ : ∃ Q9, Q9 = (kQv dC dI cI cJ cZ cQ [(a_t, .inr (2, [.ref a_t_weights, .ref a_t_table, .int v_t_best, .int v_t_bits])), (a_t_weights, .inl (cI, 16, .inl res))]) := ⟨_, rfl⟩
  rw [← hQq]
  have hX : res = res := rfl
  have hM : (Option.bind (M_X8_between p0 (0 : Int32) (15 : Int32)) (fun t4 => if t4 = 0 then (some f_t_weights) else (ix p0 16 (some (upd f_t_weights p0.toNatClampNeg ((p1 <<< ((16 : Int32) &&& 31)) - ((1 : Int32) <<< (p0 &&& 31)))))))) = some res := hM
  refine lv_iload_n hx hb dX2_value_0 rfl (lv_at hl 1 rfl) ?_
  refine lv_iconst (v := (0 : Int32)) hx hb dX2_value_1 (by decide) ?_
  refine lv_bipush (v := (15 : Int32)) hx hb dX2_value_2 (by decide) ?_
  obtain ⟨t4, hg4, hM⟩ := bd hM
  refine nw_i (wc := []) (wr := [(a_t, .inr (2, [.ref a_t_weights, .ref a_t_table, .int v_t_best, .int v_t_bits])), (a_t_weights, .inl (cI, 16, .inl f_t_weights))]) (w1 := []) (wf := [(a_t, .inr (2, [.ref a_t_weights, .ref a_t_table, .int v_t_best, .int v_t_bits])), (a_t_weights, .inl (cI, 16, .inl f_t_weights))]) [] [0, 1] [0, 1] hP hD hS hA rfl rfl rfl (by decide) rfl rfl (nw_runSN (As := [.int p0, .int (0 : Int32), .int (15 : Int32)]) (rest := []) hfix (c_X8_between l dC dI cI cJ cZ cQ gx  H.size  p0 (0 : Int32) (15 : Int32) t4 hg4) ⟨va_cnB 3 hts gX2_value_X8_between_n26 rfl rfl rfl (hN.2.2.2.2.1) (hts (.initialized RX8) (by decide +kernel)) (by decide +kernel) ⟨Nat.le_of_ble_eq_true rfl, Nat.le_of_ble_eq_true rfl⟩, (hts (.static yX8_between) (by decide +kernel)), trivial⟩ hP hD hK hN hS hA hG [] rfl rfl hl.1 rfl rfl (Nat.le_of_ble_eq_true rfl) dX2_value_4 ⟨Nat.zero_le _, Nat.zero_le _⟩) (fun H locs hP hD hS => ?_)
  refine lv_if_eq (tgt := 24) hx hb dX2_value_7 (by decide) (fun c7 => ?_) (fun c7 => ?_)
  · have hM := ifp c7 hM
    have hE : res = (f_t_weights : (Nat → Int32)) := ((Option.some.inj hM).trans hX).symm
    rw [hQq, hE]
    exact nw_vret hx hb hr hlocks hK hP hD hS dX2_value_24
  · have hM := ifn c7 hM
    refine lv_aload_n hx hb dX2_value_10 rfl (lv_at hl 0 rfl) ?_
    refine va_get (D := (dC, dI)) (ci := 2) (v := .ref a_t_weights) (C := RX2) (T := TX2) (N := 4) hx hb hts in_X2_value_X2 hown hK hP 0 rfl rfl 0 (by decide) (hts (.fieldLink RX2 9 "NoneWithin$Keeper" "weights" "[I") (by decide +kernel)) (fun _ h9 => h9) rfl dX2_value_11 ?_
    refine lv_iload_n hx hb dX2_value_14 rfl (lv_at hl 1 rfl) ?_
    refine lv_iload_n hx hb dX2_value_15 rfl (lv_at hl 2 rfl) ?_
    refine lv_bipush (v := (16 : Int32)) hx hb dX2_value_16 (by decide) ?_
    refine lv_ishl hx hb dX2_value_18 ?_
    refine lv_iconst (v := (1 : Int32)) hx hb dX2_value_19 (by decide) ?_
    refine lv_iload_n hx hb dX2_value_20 rfl (lv_at hl 1 rfl) ?_
    refine lv_ishl hx hb dX2_value_21 ?_
    refine lv_isub hx hb dX2_value_22 ?_
    obtain ⟨hin, hM⟩ := ixp hM
    refine va_iast hx hb hK hP hD hS 1 0 rfl rfl hin dX2_value_23 (fun H locs hP hD hS => ?_)
    have hP : va_P (dC, dI) classes [(a_t, .inr (2, [.ref a_t_weights, .ref a_t_table, .int v_t_best, .int v_t_bits])), (a_t_weights, .inl (cI, 16, .inl (upd f_t_weights p0.toNatClampNeg ((p1 <<< ((16 : Int32) &&& 31)) - ((1 : Int32) <<< (p0 &&& 31))))))] H := hP
    have hD : va_D A [(a_t, .inr (2, [.ref a_t_weights, .ref a_t_table, .int v_t_best, .int v_t_bits])), (a_t_weights, .inl (cI, 16, .inl (upd f_t_weights p0.toNatClampNeg ((p1 <<< ((16 : Int32) &&& 31)) - ((1 : Int32) <<< (p0 &&& 31))))))] := hD
    have hE : res = ((upd f_t_weights p0.toNatClampNeg ((p1 <<< ((16 : Int32) &&& 31)) - ((1 : Int32) <<< (p0 &&& 31)))) : (Nat → Int32)) := ((Option.some.inj hM).trans hX).symm
    rw [hQq, hE]
    exact nw_vret hx hb hr hlocks hK hP hD hS dX2_value_24
theorem in_X3_all_X3 : ∀ w ∈ wsX30, w ∈ wsX3_all := fun _ h => List.mem_cons_of_mem _ (List.mem_append_right _ h)
abbrev rm_X3_all : Room := { frames := 0, cells := 0, slots := 0, locals := 0 }
set_option maxHeartbeats 4000000 in
set_option maxRecDepth 100000 in
theorem c_X3_all (l : Launch) (dC : Nat → ClassId) (dI : Nat → Nat → Nat) (cI cJ cZ cQ : ClassId) (gx : GX) (a_t a_t_sets a_t_clash a_t_near : Nat) (sz : Nat) (v_t_law : Int32) (v_t_boxes : Int32) (v_t_fit : Int32) (v_t_low : Int32) (v_t_high : Int32) (res : Int32) (hM : M_X3_all v_t_boxes = some res) : Met l yX3_all wsX3_all rm_X3_all (kP dC dI cI cJ cZ cQ gx [.ref a_t] sz [(a_t, .inr (3, [.int v_t_law, .int v_t_boxes, .int v_t_fit, .int v_t_low, .int v_t_high, .ref a_t_sets, .ref a_t_clash, .ref a_t_near]))]) (kQi dC dI cI cJ cZ cQ res [(a_t, .inr (3, [.int v_t_law, .int v_t_boxes, .int v_t_fit, .int v_t_low, .int v_t_high, .ref a_t_sets, .ref a_t_clash, .ref a_t_near]))] (va_A [(a_t, .inr (3, [.int v_t_law, .int v_t_boxes, .int v_t_fit, .int v_t_low, .int v_t_high, .ref a_t_sets, .ref a_t_clash, .ref a_t_near]))] sz)) 0 0 (va_A [(a_t, .inr (3, [.int v_t_law, .int v_t_boxes, .int v_t_fit, .int v_t_low, .int v_t_high, .ref a_t_sets, .ref a_t_clash, .ref a_t_near]))] sz) := by
  refine nw_entry (y := yX3_all) (ws := wsX3_all) (rm := rm_X3_all) (sz := sz) (wpre := [(a_t, .inr (3, [.int v_t_law, .int v_t_boxes, .int v_t_fit, .int v_t_low, .int v_t_high, .ref a_t_sets, .ref a_t_clash, .ref a_t_near]))]) (av := [.ref a_t]) (Qc := (kQi dC dI cI cJ cZ cQ res [(a_t, .inr (3, [.int v_t_law, .int v_t_boxes, .int v_t_fit, .int v_t_low, .int v_t_high, .ref a_t_sets, .ref a_t_clash, .ref a_t_near]))])) (cc := cX3_all) (own := RX3) [(0, .ref a_t)] (by decide) rfl rfl (Nat.le_of_ble_eq_true rfl) rfl ?_
  intro p e s m below meth c A ls H locs hfix hr hlocks hin0 hsz0 hP hK hD hA hS hN hG hl
  obtain ⟨hx, hb, hml, hown, hts⟩ := id hfix
  obtain ⟨Qq, hQq⟩ : ∃ Q9, Q9 = (kQi dC dI cI cJ cZ cQ res [(a_t, .inr (3, [.int v_t_law, .int v_t_boxes, .int v_t_fit, .int v_t_low, .int v_t_high, .ref a_t_sets, .ref a_t_clash, .ref a_t_near]))]) := ⟨_, rfl⟩
  rw [← hQq]
  have hX : res = res := rfl
  have hM : (some (((1 : Int32) <<< (v_t_boxes &&& 31)) - (1 : Int32))) = some res := hM
  refine lv_iconst (v := (1 : Int32)) hx hb dX3_all_0 (by decide) ?_
  refine lv_aload_n hx hb dX3_all_1 rfl (lv_at hl 0 rfl) ?_
  refine va_get (D := (dC, dI)) (ci := 3) (v := .int v_t_boxes) (C := RX3) (T := TX3) (N := 8) hx hb hts in_X3_all_X3 hown hK hP 0 rfl rfl 1 (by decide) (hts (.fieldLink RX3 15 "NoneWithin$LawTable" "boxes" "I") (by decide +kernel)) (fun _ h9 => h9) rfl dX3_all_2 ?_
  refine lv_ishl hx hb dX3_all_5 ?_
  refine lv_iconst (v := (1 : Int32)) hx hb dX3_all_6 (by decide) ?_
  refine lv_isub hx hb dX3_all_7 ?_
  have hE : res = ((((1 : Int32) <<< (v_t_boxes &&& 31)) - (1 : Int32)) : Int32) := ((Option.some.inj hM).trans hX).symm
  rw [hQq, hE]
  exact nw_iret rfl hx hb hr hlocks hK hP hD hS dX3_all_8
abbrev rm_X8_has : Room := { frames := 0, cells := 0, slots := 0, locals := 0 }
set_option maxHeartbeats 4000000 in
set_option maxRecDepth 100000 in
theorem c_X8_has (l : Launch) (dC : Nat → ClassId) (dI : Nat → Nat → Nat) (cI cJ cZ cQ : ClassId) (gx : GX) (sz : Nat) (p0 : Int32) (p1 : Int32) (res : Int32) (hM : M_X8_has p0 p1 = some res) : Met l yX8_has wsX8_has rm_X8_has (kP dC dI cI cJ cZ cQ gx [.int p0, .int p1] sz []) (kQi dC dI cI cJ cZ cQ res [] (va_A [] sz)) 0 0 (va_A [] sz) := by
  refine nw_entry (y := yX8_has) (ws := wsX8_has) (rm := rm_X8_has) (sz := sz) (wpre := []) (av := [.int p0, .int p1]) (Qc := (kQi dC dI cI cJ cZ cQ res [])) (cc := cX8_has) (own := RX8) [(0, .int p0), (1, .int p1)] (by decide) rfl rfl (Nat.le_of_ble_eq_true rfl) rfl ?_
  intro p e s m below meth c A ls H locs hfix hr hlocks hin0 hsz0 hP hK hD hA hS hN hG hl
  obtain ⟨hx, hb, hml, hown, hts⟩ := id hfix
  obtain ⟨Qq, hQq⟩ : ∃ Q9, Q9 = (kQi dC dI cI cJ cZ cQ res []) := ⟨_, rfl⟩
  rw [← hQq]
  have hX : res = res := rfl
  have hM : (if (((p0.toUInt32 >>> (p1.toUInt32 &&& Int32.toUInt32 31)).toInt32) &&& (1 : Int32)) = 0 then (some (0 : Int32)) else (some (1 : Int32))) = some res := hM
  refine lv_iload_n hx hb dX8_has_0 rfl (lv_at hl 0 rfl) ?_
  refine lv_iload_n hx hb dX8_has_1 rfl (lv_at hl 1 rfl) ?_
  refine lv_iushr hx hb dX8_has_2 rfl ?_
  refine lv_iconst (v := (1 : Int32)) hx hb dX8_has_3 (by decide) ?_
  refine lv_iand hx hb dX8_has_4 ?_
  refine lv_if_eq (tgt := 12) hx hb dX8_has_5 (by decide) (fun c5 => ?_) (fun c5 => ?_)
  · have hM := ifp c5 hM
    refine lv_iconst (v := (0 : Int32)) hx hb dX8_has_12 (by decide) ?_
    have hE : res = ((0 : Int32) : Int32) := ((Option.some.inj hM).trans hX).symm
    rw [hQq, hE]
    exact nw_zret rfl rfl hx hb hr hlocks hK hP hD hS dX8_has_13
  · have hM := ifn c5 hM
    refine lv_iconst (v := (1 : Int32)) hx hb dX8_has_8 (by decide) ?_
    refine lv_goto (tgt := 13) hx hb dX8_has_9 (by decide) ?_
    have hE : res = ((1 : Int32) : Int32) := ((Option.some.inj hM).trans hX).symm
    rw [hQq, hE]
    exact nw_zret rfl rfl hx hb hr hlocks hK hP hD hS dX8_has_13
theorem in_X3_barredBy_X3 : ∀ w ∈ wsX30, w ∈ wsX3_barredBy := fun _ h => List.mem_cons_of_mem _ (List.mem_append_right _ h)
abbrev rm_X3_barredBy : Room := { frames := 1, cells := 0, slots := 0, locals := 21 }
set_option maxHeartbeats 4000000 in
set_option maxRecDepth 100000 in
theorem c_X3_barredBy (l : Launch) (dC : Nat → ClassId) (dI : Nat → Nat → Nat) (cI cJ cZ cQ : ClassId) (gx : GX) (a_t a_t_clash a_t_near a_t_sets : Nat) (sz : Nat) (v_t_law : Int32) (v_t_boxes : Int32) (v_t_fit : Int32) (v_t_low : Int32) (v_t_high : Int32) (f_t_clash : (Nat → Int32)) (f_t_near : (Nat → Int32)) (p0 : Int32) (p1 : Int32) (res : Int32) (hM : M_X3_barredBy v_t_boxes f_t_clash f_t_near p0 p1 = some res) : Met l yX3_barredBy wsX3_barredBy rm_X3_barredBy (kP dC dI cI cJ cZ cQ gx [.ref a_t, .int p0, .int p1] sz [(a_t, .inr (3, [.int v_t_law, .int v_t_boxes, .int v_t_fit, .int v_t_low, .int v_t_high, .ref a_t_sets, .ref a_t_clash, .ref a_t_near])), (a_t_clash, .inl (cI, 16, .inl f_t_clash)), (a_t_near, .inl (cI, 16, .inl f_t_near))]) (kQi dC dI cI cJ cZ cQ res [(a_t, .inr (3, [.int v_t_law, .int v_t_boxes, .int v_t_fit, .int v_t_low, .int v_t_high, .ref a_t_sets, .ref a_t_clash, .ref a_t_near])), (a_t_clash, .inl (cI, 16, .inl f_t_clash)), (a_t_near, .inl (cI, 16, .inl f_t_near))] (va_A [(a_t, .inr (3, [.int v_t_law, .int v_t_boxes, .int v_t_fit, .int v_t_low, .int v_t_high, .ref a_t_sets, .ref a_t_clash, .ref a_t_near])), (a_t_clash, .inl (cI, 16, .inl f_t_clash)), (a_t_near, .inl (cI, 16, .inl f_t_near))] sz)) 0 0 (va_A [(a_t, .inr (3, [.int v_t_law, .int v_t_boxes, .int v_t_fit, .int v_t_low, .int v_t_high, .ref a_t_sets, .ref a_t_clash, .ref a_t_near])), (a_t_clash, .inl (cI, 16, .inl f_t_clash)), (a_t_near, .inl (cI, 16, .inl f_t_near))] sz) := by
  refine nw_entry (y := yX3_barredBy) (ws := wsX3_barredBy) (rm := rm_X3_barredBy) (sz := sz) (wpre := [(a_t, .inr (3, [.int v_t_law, .int v_t_boxes, .int v_t_fit, .int v_t_low, .int v_t_high, .ref a_t_sets, .ref a_t_clash, .ref a_t_near])), (a_t_clash, .inl (cI, 16, .inl f_t_clash)), (a_t_near, .inl (cI, 16, .inl f_t_near))]) (av := [.ref a_t, .int p0, .int p1]) (Qc := (kQi dC dI cI cJ cZ cQ res [(a_t, .inr (3, [.int v_t_law, .int v_t_boxes, .int v_t_fit, .int v_t_low, .int v_t_high, .ref a_t_sets, .ref a_t_clash, .ref a_t_near])), (a_t_clash, .inl (cI, 16, .inl f_t_clash)), (a_t_near, .inl (cI, 16, .inl f_t_near))])) (cc := cX3_barredBy) (own := RX3) [(0, .ref a_t), (1, .int p0), (2, .int p1)] (by decide) rfl rfl (Nat.le_of_ble_eq_true rfl) rfl ?_
  intro p e s m below meth c A ls H locs hfix hr hlocks hin0 hsz0 hP hK hD hA hS hN hG hl
  obtain ⟨hx, hb, hml, hown, hts⟩ := id hfix
  obtain ⟨Qq, hQq⟩ : ∃ Q9, Q9 = (kQi dC dI cI cJ cZ cQ res [(a_t, .inr (3, [.int v_t_law, .int v_t_boxes, .int v_t_fit, .int v_t_low, .int v_t_high, .ref a_t_sets, .ref a_t_clash, .ref a_t_near])), (a_t_clash, .inl (cI, 16, .inl f_t_clash)), (a_t_near, .inl (cI, 16, .inl f_t_near))]) := ⟨_, rfl⟩
  rw [← hQq]
  have hX : res = res := rfl
  have hM : (ix p0 16 (ix p0 16 (lpN (fun z => L_X3_barredBy_20 p0 ((f_t_near p0.toNatClampNeg) &&& p1) v_t_boxes f_t_clash f_t_near z.1 z.2) fuelK ((f_t_clash p0.toNatClampNeg), (0 : Int32))))) = some res := hM
  refine lv_aload_n hx hb dX3_barredBy_0 rfl (lv_at hl 0 rfl) ?_
  refine va_get (D := (dC, dI)) (ci := 3) (v := .ref a_t_clash) (C := RX3) (T := TX3) (N := 8) hx hb hts in_X3_barredBy_X3 hown hK hP 0 rfl rfl 6 (by decide) (hts (.fieldLink RX3 31 "NoneWithin$LawTable" "clash" "[I") (by decide +kernel)) (fun _ h9 => h9) rfl dX3_barredBy_1 ?_
  refine lv_iload_n hx hb dX3_barredBy_4 rfl (lv_at hl 1 rfl) ?_
  obtain ⟨hin, hM⟩ := ixp hM
  refine va_iald hx hb hK hP 1 0 rfl rfl hin dX3_barredBy_5 ?_
  refine lv_istore_n (lv' := [(3, .int (f_t_clash p0.toNatClampNeg)), (0, .ref a_t), (1, .int p0), (2, .int p1)]) hx hb dX3_barredBy_6 rfl hl (by decide) rfl (fun ls hl => ?_)
  refine lv_aload_n hx hb dX3_barredBy_7 rfl (lv_at hl 1 rfl) ?_
  refine va_get (D := (dC, dI)) (ci := 3) (v := .ref a_t_near) (C := RX3) (T := TX3) (N := 8) hx hb hts in_X3_barredBy_X3 hown hK hP 0 rfl rfl 7 (by decide) (hts (.fieldLink RX3 34 "NoneWithin$LawTable" "near" "[I") (by decide +kernel)) (fun _ h9 => h9) rfl dX3_barredBy_8 ?_
  refine lv_iload_n hx hb dX3_barredBy_11 rfl (lv_at hl 2 rfl) ?_
  obtain ⟨hin, hM⟩ := ixp hM
  refine va_iald hx hb hK hP 2 0 rfl rfl hin dX3_barredBy_12 ?_
  refine lv_iload_n hx hb dX3_barredBy_13 rfl (lv_at hl 3 rfl) ?_
  refine lv_iand hx hb dX3_barredBy_14 ?_
  refine lv_istore (lv' := [(4, .int ((f_t_near p0.toNatClampNeg) &&& p1)), (3, .int (f_t_clash p0.toNatClampNeg)), (0, .ref a_t), (1, .int p0), (2, .int p1)]) hx hb dX3_barredBy_15 hl (by decide) rfl (fun ls hl => ?_)
  refine lv_iconst (v := (0 : Int32)) hx hb dX3_barredBy_17 (by decide) ?_
  refine lv_istore (lv' := [(5, .int (0 : Int32)), (4, .int ((f_t_near p0.toNatClampNeg) &&& p1)), (3, .int (f_t_clash p0.toNatClampNeg)), (0, .ref a_t), (1, .int p0), (2, .int p1)]) hx hb dX3_barredBy_18 hl (by decide) rfl (fun ls hl => ?_)
  obtain ⟨W20, hW20⟩ : ∃ W9 : Int32 → Int32 → Prop, W9 = fun (y20_3 : Int32) (y20_5 : Int32) => ∀ (H : Heap) (locs : List Loc) (ls : Array Slot), va_P (dC, dI) classes [(a_t, .inr (3, [.int v_t_law, .int v_t_boxes, .int v_t_fit, .int v_t_low, .int v_t_high, .ref a_t_sets, .ref a_t_clash, .ref a_t_near])), (a_t_clash, .inl (cI, 16, .inl f_t_clash)), (a_t_near, .inl (cI, 16, .inl f_t_near))] H → va_D A [(a_t, .inr (3, [.int v_t_law, .int v_t_boxes, .int v_t_fit, .int v_t_low, .int v_t_high, .ref a_t_sets, .ref a_t_clash, .ref a_t_near])), (a_t_clash, .inl (cI, 16, .inl f_t_clash)), (a_t_near, .inl (cI, 16, .inl f_t_near))] → va_S A s.heap H locs → lv_has ls 6 [(0, .ref a_t), (1, .int p0), (3, .int y20_3), (4, .int ((f_t_near p0.toNatClampNeg) &&& p1)), (5, .int y20_5)] → W p l e rm_X3_barredBy s m ([.ref a_t, .int p0, .int p1] : List Value).toArray below meth c H locs 0 0 (MQ below (Qq A) ([.ref a_t, .int p0, .int p1] : List Value).toArray s 0 0 A) (F0 m 20 ls []) := ⟨_, rfl⟩
  have hst : ∀ (z : (Int32 × Int32)) (x : ((Int32 × Int32) ⊕ Int32)), (fun z => L_X3_barredBy_20 p0 ((f_t_near p0.toNatClampNeg) &&& p1) v_t_boxes f_t_clash f_t_near z.1 z.2) z = some x → ((∀ z', x = Sum.inl z' → W20 z'.1 z'.2) ∧ (∀ t_20, x = Sum.inr t_20 → t_20 = res)) → W20 z.1 z.2 := by
    rintro ⟨y20_3, y20_5⟩ x hM hX
    have hM : L_X3_barredBy_20 p0 ((f_t_near p0.toNatClampNeg) &&& p1) v_t_boxes f_t_clash f_t_near y20_3 y20_5 = some x := hM
    show W20 y20_3 y20_5
    rw [hW20]
    intro H locs ls hP hD hS hl
    have hM : (if v_t_boxes ≤ y20_5 then (((some y20_3)).map Sum.inr) else (Option.bind (M_X8_has ((f_t_near p0.toNatClampNeg) &&& p1) y20_5) (fun t33 => if t33 = 0 then (some (Sum.inl (y20_3, (y20_5 + (1 : Int32))))) else (ix p0 16 (ix y20_5 16 (some (Sum.inl ((y20_3 ||| ((f_t_near p0.toNatClampNeg) &&& (f_t_near y20_5.toNatClampNeg))), (y20_5 + (1 : Int32)))))))))) = some x := hM
    refine lv_iload hx hb dX3_barredBy_20 (lv_at hl 4 rfl) ?_
    refine lv_aload_n hx hb dX3_barredBy_22 rfl (lv_at hl 0 rfl) ?_
    refine va_get (D := (dC, dI)) (ci := 3) (v := .int v_t_boxes) (C := RX3) (T := TX3) (N := 8) hx hb hts in_X3_barredBy_X3 hown hK hP 0 rfl rfl 1 (by decide) (hts (.fieldLink RX3 15 "NoneWithin$LawTable" "boxes" "I") (by decide +kernel)) (fun _ h9 => h9) rfl dX3_barredBy_23 ?_
    refine lv_icmp_ge (tgt := 62) hx hb dX3_barredBy_26 (by decide) (fun c26 => ?_) (fun c26 => ?_)
    · have hM := ifp c26 hM
      obtain ⟨x, hMn, hxe⟩ := mpr hM
      have hX := hX.2 _ hxe
      have hM := hMn
      refine lv_iload_n hx hb dX3_barredBy_62 rfl (lv_at hl 2 rfl) ?_
      have hE : res = (y20_3 : Int32) := ((Option.some.inj hM).trans hX).symm
      rw [hQq, hE]
      exact nw_iret rfl hx hb hr hlocks hK hP hD hS dX3_barredBy_63
    · have hM := ifn c26 hM
      refine lv_iload hx hb dX3_barredBy_29 (lv_at hl 3 rfl) ?_
      refine lv_iload hx hb dX3_barredBy_31 (lv_at hl 4 rfl) ?_
      obtain ⟨t33, hg33, hM⟩ := bd hM
      refine nw_i (wc := []) (wr := [(a_t, .inr (3, [.int v_t_law, .int v_t_boxes, .int v_t_fit, .int v_t_low, .int v_t_high, .ref a_t_sets, .ref a_t_clash, .ref a_t_near])), (a_t_clash, .inl (cI, 16, .inl f_t_clash)), (a_t_near, .inl (cI, 16, .inl f_t_near))]) (w1 := []) (wf := [(a_t, .inr (3, [.int v_t_law, .int v_t_boxes, .int v_t_fit, .int v_t_low, .int v_t_high, .ref a_t_sets, .ref a_t_clash, .ref a_t_near])), (a_t_clash, .inl (cI, 16, .inl f_t_clash)), (a_t_near, .inl (cI, 16, .inl f_t_near))]) [] [0, 1, 2] [0, 1, 2] hP hD hS hA rfl rfl rfl (by decide) rfl rfl (nw_runSN (As := [.int ((f_t_near p0.toNatClampNeg) &&& p1), .int y20_5]) (rest := []) hfix (c_X8_has l dC dI cI cJ cZ cQ gx  H.size  ((f_t_near p0.toNatClampNeg) &&& p1) y20_5 t33 hg33) ⟨va_cnB 2 hts gX3_barredBy_X8_has_n60 rfl rfl rfl (hN.2.2.2.1) (hts (.initialized RX8) (by decide +kernel)) (by decide +kernel) ⟨Nat.le_of_ble_eq_true rfl, Nat.le_of_ble_eq_true rfl⟩, (hts (.static yX8_has) (by decide +kernel)), trivial⟩ hP hD hK hN hS hA hG [] rfl rfl hl.1 rfl rfl (Nat.le_of_ble_eq_true rfl) dX3_barredBy_33 ⟨Nat.zero_le _, Nat.zero_le _⟩) (fun H locs hP hD hS => ?_)
      refine lv_if_eq (tgt := 56) hx hb dX3_barredBy_36 (by decide) (fun c36 => ?_) (fun c36 => ?_)
      · have hM := ifp c36 hM
        refine lv_iinc (v := (y20_5 + (1 : Int32))) (lv' := [(5, .int (y20_5 + (1 : Int32))), (0, .ref a_t), (1, .int p0), (3, .int y20_3), (4, .int ((f_t_near p0.toNatClampNeg) &&& p1))]) hx hb dX3_barredBy_56 hl (k := 4) rfl rfl (by decide) rfl (fun ls hl => ?_)
        refine lv_goto (tgt := 20) hx hb dX3_barredBy_59 (by decide) ?_
        have hw := hX.1 _ (Option.some.inj hM).symm
        rw [hW20] at hw
        exact hw H locs ls hP hD hS (lv_sub hl [1, 2, 3, 4, 0] rfl)
      · have hM := ifn c36 hM
        refine lv_iload_n hx hb dX3_barredBy_39 rfl (lv_at hl 2 rfl) ?_
        refine lv_aload_n hx hb dX3_barredBy_40 rfl (lv_at hl 0 rfl) ?_
        refine va_get (D := (dC, dI)) (ci := 3) (v := .ref a_t_near) (C := RX3) (T := TX3) (N := 8) hx hb hts in_X3_barredBy_X3 hown hK hP 0 rfl rfl 7 (by decide) (hts (.fieldLink RX3 34 "NoneWithin$LawTable" "near" "[I") (by decide +kernel)) (fun _ h9 => h9) rfl dX3_barredBy_41 ?_
        refine lv_iload_n hx hb dX3_barredBy_44 rfl (lv_at hl 1 rfl) ?_
        obtain ⟨hin, hM⟩ := ixp hM
        refine va_iald hx hb hK hP 2 0 rfl rfl hin dX3_barredBy_45 ?_
        refine lv_aload_n hx hb dX3_barredBy_46 rfl (lv_at hl 0 rfl) ?_
        refine va_get (D := (dC, dI)) (ci := 3) (v := .ref a_t_near) (C := RX3) (T := TX3) (N := 8) hx hb hts in_X3_barredBy_X3 hown hK hP 0 rfl rfl 7 (by decide) (hts (.fieldLink RX3 34 "NoneWithin$LawTable" "near" "[I") (by decide +kernel)) (fun _ h9 => h9) rfl dX3_barredBy_47 ?_
        refine lv_iload hx hb dX3_barredBy_50 (lv_at hl 4 rfl) ?_
        obtain ⟨hin, hM⟩ := ixp hM
        refine va_iald hx hb hK hP 2 0 rfl rfl hin dX3_barredBy_52 ?_
        refine lv_iand hx hb dX3_barredBy_53 ?_
        refine lv_ior hx hb dX3_barredBy_54 ?_
        refine lv_istore_n (lv' := [(3, .int (y20_3 ||| ((f_t_near p0.toNatClampNeg) &&& (f_t_near y20_5.toNatClampNeg)))), (0, .ref a_t), (1, .int p0), (4, .int ((f_t_near p0.toNatClampNeg) &&& p1)), (5, .int y20_5)]) hx hb dX3_barredBy_55 rfl hl (by decide) rfl (fun ls hl => ?_)
        refine lv_iinc (v := (y20_5 + (1 : Int32))) (lv' := [(5, .int (y20_5 + (1 : Int32))), (3, .int (y20_3 ||| ((f_t_near p0.toNatClampNeg) &&& (f_t_near y20_5.toNatClampNeg)))), (0, .ref a_t), (1, .int p0), (4, .int ((f_t_near p0.toNatClampNeg) &&& p1))]) hx hb dX3_barredBy_56 hl (k := 4) rfl rfl (by decide) rfl (fun ls hl => ?_)
        refine lv_goto (tgt := 20) hx hb dX3_barredBy_59 (by decide) ?_
        have hw := hX.1 _ (Option.some.inj hM).symm
        rw [hW20] at hw
        exact hw H locs ls hP hD hS (lv_sub hl [2, 3, 1, 4, 0] rfl)
  have hw := lp_walk (Wp := fun z => W20 z.1 z.2) (X := fun t => t = res) hst _ _ _ hM hX
  rw [hW20] at hw
  exact hw H locs ls hP hD hS (lv_sub hl [3, 4, 2, 1, 0] rfl)
theorem in_X3_barredByAll_X3 : ∀ w ∈ wsX30, w ∈ wsX3_barredByAll := fun _ h => List.mem_cons_of_mem _ (List.mem_append_right _ h)
abbrev rm_X3_barredByAll : Room := { frames := 2, cells := 0, slots := 0, locals := 46 }
set_option maxHeartbeats 4000000 in
set_option maxRecDepth 100000 in
theorem c_X3_barredByAll (l : Launch) (dC : Nat → ClassId) (dI : Nat → Nat → Nat) (cI cJ cZ cQ : ClassId) (gx : GX) (a_t a_t_clash a_t_near a_t_sets : Nat) (sz : Nat) (v_t_law : Int32) (v_t_boxes : Int32) (v_t_fit : Int32) (v_t_low : Int32) (v_t_high : Int32) (f_t_clash : (Nat → Int32)) (f_t_near : (Nat → Int32)) (p0 : Int32) (res : Int32) (hM : M_X3_barredByAll v_t_boxes v_t_fit f_t_clash f_t_near p0 = some res) : Met l yX3_barredByAll wsX3_barredByAll rm_X3_barredByAll (kP dC dI cI cJ cZ cQ gx [.ref a_t, .int p0] sz [(a_t, .inr (3, [.int v_t_law, .int v_t_boxes, .int v_t_fit, .int v_t_low, .int v_t_high, .ref a_t_sets, .ref a_t_clash, .ref a_t_near])), (a_t_clash, .inl (cI, 16, .inl f_t_clash)), (a_t_near, .inl (cI, 16, .inl f_t_near))]) (kQi dC dI cI cJ cZ cQ res [(a_t, .inr (3, [.int v_t_law, .int v_t_boxes, .int v_t_fit, .int v_t_low, .int v_t_high, .ref a_t_sets, .ref a_t_clash, .ref a_t_near])), (a_t_clash, .inl (cI, 16, .inl f_t_clash)), (a_t_near, .inl (cI, 16, .inl f_t_near))] (va_A [(a_t, .inr (3, [.int v_t_law, .int v_t_boxes, .int v_t_fit, .int v_t_low, .int v_t_high, .ref a_t_sets, .ref a_t_clash, .ref a_t_near])), (a_t_clash, .inl (cI, 16, .inl f_t_clash)), (a_t_near, .inl (cI, 16, .inl f_t_near))] sz)) 0 0 (va_A [(a_t, .inr (3, [.int v_t_law, .int v_t_boxes, .int v_t_fit, .int v_t_low, .int v_t_high, .ref a_t_sets, .ref a_t_clash, .ref a_t_near])), (a_t_clash, .inl (cI, 16, .inl f_t_clash)), (a_t_near, .inl (cI, 16, .inl f_t_near))] sz) := by
  refine nw_entry (y := yX3_barredByAll) (ws := wsX3_barredByAll) (rm := rm_X3_barredByAll) (sz := sz) (wpre := [(a_t, .inr (3, [.int v_t_law, .int v_t_boxes, .int v_t_fit, .int v_t_low, .int v_t_high, .ref a_t_sets, .ref a_t_clash, .ref a_t_near])), (a_t_clash, .inl (cI, 16, .inl f_t_clash)), (a_t_near, .inl (cI, 16, .inl f_t_near))]) (av := [.ref a_t, .int p0]) (Qc := (kQi dC dI cI cJ cZ cQ res [(a_t, .inr (3, [.int v_t_law, .int v_t_boxes, .int v_t_fit, .int v_t_low, .int v_t_high, .ref a_t_sets, .ref a_t_clash, .ref a_t_near])), (a_t_clash, .inl (cI, 16, .inl f_t_clash)), (a_t_near, .inl (cI, 16, .inl f_t_near))])) (cc := cX3_barredByAll) (own := RX3) [(0, .ref a_t), (1, .int p0)] (by decide) rfl rfl (Nat.le_of_ble_eq_true rfl) rfl ?_
  intro p e s m below meth c A ls H locs hfix hr hlocks hin0 hsz0 hP hK hD hA hS hN hG hl
  obtain ⟨hx, hb, hml, hown, hts⟩ := id hfix
  obtain ⟨Qq, hQq⟩ : ∃ Q9, Q9 = (kQi dC dI cI cJ cZ cQ res [(a_t, .inr (3, [.int v_t_law, .int v_t_boxes, .int v_t_fit, .int v_t_low, .int v_t_high, .ref a_t_sets, .ref a_t_clash, .ref a_t_near])), (a_t_clash, .inl (cI, 16, .inl f_t_clash)), (a_t_near, .inl (cI, 16, .inl f_t_near))]) := ⟨_, rfl⟩
  rw [← hQq]
  have hX : res = res := rfl
  have hM : (Option.bind (M_X3_all v_t_boxes) (fun t1 => lpN (fun z => L_X3_barredByAll_17 p0 v_t_boxes v_t_fit f_t_clash f_t_near z.1 z.2.1 z.2.2) fuelK ((t1 &&& (v_t_fit ^^^ (-1 : Int32))), (0 : Int32), (0 : Int32)))) = some res := hM
  refine lv_aload_n hx hb dX3_barredByAll_0 rfl (lv_at hl 0 rfl) ?_
  obtain ⟨t1, hg1, hM⟩ := bd hM
  refine nw_i (wc := [(a_t, .inr (3, [.int v_t_law, .int v_t_boxes, .int v_t_fit, .int v_t_low, .int v_t_high, .ref a_t_sets, .ref a_t_clash, .ref a_t_near]))]) (wr := [(a_t_clash, .inl (cI, 16, .inl f_t_clash)), (a_t_near, .inl (cI, 16, .inl f_t_near))]) (w1 := [(a_t, .inr (3, [.int v_t_law, .int v_t_boxes, .int v_t_fit, .int v_t_low, .int v_t_high, .ref a_t_sets, .ref a_t_clash, .ref a_t_near]))]) (wf := [(a_t, .inr (3, [.int v_t_law, .int v_t_boxes, .int v_t_fit, .int v_t_low, .int v_t_high, .ref a_t_sets, .ref a_t_clash, .ref a_t_near])), (a_t_clash, .inl (cI, 16, .inl f_t_clash)), (a_t_near, .inl (cI, 16, .inl f_t_near))]) [0] [1, 2] [2, 0, 1] hP hD hS hA rfl rfl rfl (by decide) rfl rfl (nw_runV (As := []) (rest := []) hfix (c_X3_all l dC dI cI cJ cZ cQ gx a_t a_t_sets a_t_clash a_t_near H.size v_t_law v_t_boxes v_t_fit v_t_low v_t_high  t1 hg1) (cwV 0 hts gX3_barredByAll_X3_all rfl rfl rfl (by decide +kernel) ⟨Nat.le_of_ble_eq_true rfl, Nat.le_of_ble_eq_true rfl⟩) hP hD hK hN hS hA hG [0] rfl rfl 0 3 rfl rfl rfl hl.1 rfl rfl (Nat.le_of_ble_eq_true rfl) dX3_barredByAll_1 ⟨Nat.zero_le _, Nat.zero_le _⟩) (fun H locs hP hD hS => ?_)
  refine lv_aload_n hx hb dX3_barredByAll_4 rfl (lv_at hl 0 rfl) ?_
  refine va_get (D := (dC, dI)) (ci := 3) (v := .int v_t_fit) (C := RX3) (T := TX3) (N := 8) hx hb hts in_X3_barredByAll_X3 hown hK hP 0 rfl rfl 2 (by decide) (hts (.fieldLink RX3 18 "NoneWithin$LawTable" "fit" "I") (by decide +kernel)) (fun _ h9 => h9) rfl dX3_barredByAll_5 ?_
  refine lv_iconst (v := (-1 : Int32)) hx hb dX3_barredByAll_8 (by decide) ?_
  refine lv_ixor hx hb dX3_barredByAll_9 ?_
  refine lv_iand hx hb dX3_barredByAll_10 ?_
  refine lv_istore_n (lv' := [(2, .int (t1 &&& (v_t_fit ^^^ (-1 : Int32)))), (0, .ref a_t), (1, .int p0)]) hx hb dX3_barredByAll_11 rfl hl (by decide) rfl (fun ls hl => ?_)
  refine lv_iconst (v := (0 : Int32)) hx hb dX3_barredByAll_12 (by decide) ?_
  refine lv_istore_n (lv' := [(3, .int (0 : Int32)), (2, .int (t1 &&& (v_t_fit ^^^ (-1 : Int32)))), (0, .ref a_t), (1, .int p0)]) hx hb dX3_barredByAll_13 rfl hl (by decide) rfl (fun ls hl => ?_)
  refine lv_iconst (v := (0 : Int32)) hx hb dX3_barredByAll_14 (by decide) ?_
  refine lv_istore (lv' := [(4, .int (0 : Int32)), (3, .int (0 : Int32)), (2, .int (t1 &&& (v_t_fit ^^^ (-1 : Int32)))), (0, .ref a_t), (1, .int p0)]) hx hb dX3_barredByAll_15 hl (by decide) rfl (fun ls hl => ?_)
  obtain ⟨W17, hW17⟩ : ∃ W9 : Int32 → Int32 → Int32 → Prop, W9 = fun (y17_2 : Int32) (y17_3 : Int32) (y17_4 : Int32) => ∀ (H : Heap) (locs : List Loc) (ls : Array Slot), va_P (dC, dI) classes [(a_t, .inr (3, [.int v_t_law, .int v_t_boxes, .int v_t_fit, .int v_t_low, .int v_t_high, .ref a_t_sets, .ref a_t_clash, .ref a_t_near])), (a_t_clash, .inl (cI, 16, .inl f_t_clash)), (a_t_near, .inl (cI, 16, .inl f_t_near))] H → va_D A [(a_t, .inr (3, [.int v_t_law, .int v_t_boxes, .int v_t_fit, .int v_t_low, .int v_t_high, .ref a_t_sets, .ref a_t_clash, .ref a_t_near])), (a_t_clash, .inl (cI, 16, .inl f_t_clash)), (a_t_near, .inl (cI, 16, .inl f_t_near))] → va_S A s.heap H locs → lv_has ls 5 [(0, .ref a_t), (1, .int p0), (2, .int y17_2), (3, .int y17_3), (4, .int y17_4)] → W p l e rm_X3_barredByAll s m ([.ref a_t, .int p0] : List Value).toArray below meth c H locs 0 0 (MQ below (Qq A) ([.ref a_t, .int p0] : List Value).toArray s 0 0 A) (F0 m 17 ls []) := ⟨_, rfl⟩
  have hst : ∀ (z : (Int32 × Int32 × Int32)) (x : ((Int32 × Int32 × Int32) ⊕ Int32)), (fun z => L_X3_barredByAll_17 p0 v_t_boxes v_t_fit f_t_clash f_t_near z.1 z.2.1 z.2.2) z = some x → ((∀ z', x = Sum.inl z' → W17 z'.1 z'.2.1 z'.2.2) ∧ (∀ t_17, x = Sum.inr t_17 → t_17 = res)) → W17 z.1 z.2.1 z.2.2 := by
    rintro ⟨y17_2, y17_3, y17_4⟩ x hM hX
    have hM : L_X3_barredByAll_17 p0 v_t_boxes v_t_fit f_t_clash f_t_near y17_2 y17_3 y17_4 = some x := hM
    show W17 y17_2 y17_3 y17_4
    rw [hW17]
    intro H locs ls hP hD hS hl
    have hM : (if v_t_boxes ≤ y17_4 then (((some y17_2)).map Sum.inr) else (Option.bind (M_X8_has p0 y17_4) (fun t29 => if t29 = 0 then (some (Sum.inl (y17_2, y17_3, (y17_4 + (1 : Int32))))) else (Option.bind (M_X8_has y17_2 y17_4) (fun t38 => if t38 = 0 then (Option.bind (M_X3_barredBy v_t_boxes f_t_clash f_t_near y17_4 y17_3) (fun t51 => some (Sum.inl ((y17_2 ||| t51), (y17_3 ||| ((1 : Int32) <<< (y17_4 &&& 31))), (y17_4 + (1 : Int32)))))) else (((some (-1 : Int32))).map Sum.inr)))))) = some x := hM
    refine lv_iload hx hb dX3_barredByAll_17 (lv_at hl 4 rfl) ?_
    refine lv_aload_n hx hb dX3_barredByAll_19 rfl (lv_at hl 0 rfl) ?_
    refine va_get (D := (dC, dI)) (ci := 3) (v := .int v_t_boxes) (C := RX3) (T := TX3) (N := 8) hx hb hts in_X3_barredByAll_X3 hown hK hP 0 rfl rfl 1 (by decide) (hts (.fieldLink RX3 15 "NoneWithin$LawTable" "boxes" "I") (by decide +kernel)) (fun _ h9 => h9) rfl dX3_barredByAll_20 ?_
    refine lv_icmp_ge (tgt := 69) hx hb dX3_barredByAll_23 (by decide) (fun c23 => ?_) (fun c23 => ?_)
    · have hM := ifp c23 hM
      obtain ⟨x, hMn, hxe⟩ := mpr hM
      have hX := hX.2 _ hxe
      have hM := hMn
      refine lv_iload_n hx hb dX3_barredByAll_69 rfl (lv_at hl 2 rfl) ?_
      have hE : res = (y17_2 : Int32) := ((Option.some.inj hM).trans hX).symm
      rw [hQq, hE]
      exact nw_iret rfl hx hb hr hlocks hK hP hD hS dX3_barredByAll_70
    · have hM := ifn c23 hM
      refine lv_iload_n hx hb dX3_barredByAll_26 rfl (lv_at hl 1 rfl) ?_
      refine lv_iload hx hb dX3_barredByAll_27 (lv_at hl 4 rfl) ?_
      obtain ⟨t29, hg29, hM⟩ := bd hM
      refine nw_i (wc := []) (wr := [(a_t, .inr (3, [.int v_t_law, .int v_t_boxes, .int v_t_fit, .int v_t_low, .int v_t_high, .ref a_t_sets, .ref a_t_clash, .ref a_t_near])), (a_t_clash, .inl (cI, 16, .inl f_t_clash)), (a_t_near, .inl (cI, 16, .inl f_t_near))]) (w1 := []) (wf := [(a_t, .inr (3, [.int v_t_law, .int v_t_boxes, .int v_t_fit, .int v_t_low, .int v_t_high, .ref a_t_sets, .ref a_t_clash, .ref a_t_near])), (a_t_clash, .inl (cI, 16, .inl f_t_clash)), (a_t_near, .inl (cI, 16, .inl f_t_near))]) [] [0, 1, 2] [0, 1, 2] hP hD hS hA rfl rfl rfl (by decide) rfl rfl (nw_runSN (As := [.int p0, .int y17_4]) (rest := []) hfix (c_X8_has l dC dI cI cJ cZ cQ gx  H.size  p0 y17_4 t29 hg29) ⟨va_cnB 2 hts gX3_barredByAll_X8_has_n60 rfl rfl rfl (hN.2.2.2.1) (hts (.initialized RX8) (by decide +kernel)) (by decide +kernel) ⟨Nat.le_of_ble_eq_true rfl, Nat.le_of_ble_eq_true rfl⟩, (hts (.static yX8_has) (by decide +kernel)), trivial⟩ hP hD hK hN hS hA hG [] rfl rfl hl.1 rfl rfl (Nat.le_of_ble_eq_true rfl) dX3_barredByAll_29 ⟨Nat.zero_le _, Nat.zero_le _⟩) (fun H locs hP hD hS => ?_)
      refine lv_if_eq (tgt := 63) hx hb dX3_barredByAll_32 (by decide) (fun c32 => ?_) (fun c32 => ?_)
      · have hM := ifp c32 hM
        refine lv_iinc (v := (y17_4 + (1 : Int32))) (lv' := [(4, .int (y17_4 + (1 : Int32))), (0, .ref a_t), (1, .int p0), (2, .int y17_2), (3, .int y17_3)]) hx hb dX3_barredByAll_63 hl (k := 4) rfl rfl (by decide) rfl (fun ls hl => ?_)
        refine lv_goto (tgt := 17) hx hb dX3_barredByAll_66 (by decide) ?_
        have hw := hX.1 _ (Option.some.inj hM).symm
        rw [hW17] at hw
        exact hw H locs ls hP hD hS (lv_sub hl [1, 2, 3, 4, 0] rfl)
      · have hM := ifn c32 hM
        refine lv_iload_n hx hb dX3_barredByAll_35 rfl (lv_at hl 2 rfl) ?_
        refine lv_iload hx hb dX3_barredByAll_36 (lv_at hl 4 rfl) ?_
        obtain ⟨t38, hg38, hM⟩ := bd hM
        refine nw_i (wc := []) (wr := [(a_t, .inr (3, [.int v_t_law, .int v_t_boxes, .int v_t_fit, .int v_t_low, .int v_t_high, .ref a_t_sets, .ref a_t_clash, .ref a_t_near])), (a_t_clash, .inl (cI, 16, .inl f_t_clash)), (a_t_near, .inl (cI, 16, .inl f_t_near))]) (w1 := []) (wf := [(a_t, .inr (3, [.int v_t_law, .int v_t_boxes, .int v_t_fit, .int v_t_low, .int v_t_high, .ref a_t_sets, .ref a_t_clash, .ref a_t_near])), (a_t_clash, .inl (cI, 16, .inl f_t_clash)), (a_t_near, .inl (cI, 16, .inl f_t_near))]) [] [0, 1, 2] [0, 1, 2] hP hD hS hA rfl rfl rfl (by decide) rfl rfl (nw_runSN (As := [.int y17_2, .int y17_4]) (rest := []) hfix (c_X8_has l dC dI cI cJ cZ cQ gx  H.size  y17_2 y17_4 t38 hg38) ⟨va_cnB 2 hts gX3_barredByAll_X8_has_n60 rfl rfl rfl (hN.2.2.2.1) (hts (.initialized RX8) (by decide +kernel)) (by decide +kernel) ⟨Nat.le_of_ble_eq_true rfl, Nat.le_of_ble_eq_true rfl⟩, (hts (.static yX8_has) (by decide +kernel)), trivial⟩ hP hD hK hN hS hA hG [] rfl rfl hl.1 rfl rfl (Nat.le_of_ble_eq_true rfl) dX3_barredByAll_38 ⟨Nat.zero_le _, Nat.zero_le _⟩) (fun H locs hP hD hS => ?_)
        refine lv_if_eq (tgt := 46) hx hb dX3_barredByAll_41 (by decide) (fun c41 => ?_) (fun c41 => ?_)
        · have hM := ifp c41 hM
          refine lv_iload_n hx hb dX3_barredByAll_46 rfl (lv_at hl 2 rfl) ?_
          refine lv_aload_n hx hb dX3_barredByAll_47 rfl (lv_at hl 0 rfl) ?_
          refine lv_iload hx hb dX3_barredByAll_48 (lv_at hl 4 rfl) ?_
          refine lv_iload_n hx hb dX3_barredByAll_50 rfl (lv_at hl 3 rfl) ?_
          obtain ⟨t51, hg51, hM⟩ := bd hM
          refine nw_i (wc := [(a_t, .inr (3, [.int v_t_law, .int v_t_boxes, .int v_t_fit, .int v_t_low, .int v_t_high, .ref a_t_sets, .ref a_t_clash, .ref a_t_near])), (a_t_clash, .inl (cI, 16, .inl f_t_clash)), (a_t_near, .inl (cI, 16, .inl f_t_near))]) (wr := []) (w1 := [(a_t, .inr (3, [.int v_t_law, .int v_t_boxes, .int v_t_fit, .int v_t_low, .int v_t_high, .ref a_t_sets, .ref a_t_clash, .ref a_t_near])), (a_t_clash, .inl (cI, 16, .inl f_t_clash)), (a_t_near, .inl (cI, 16, .inl f_t_near))]) (wf := [(a_t, .inr (3, [.int v_t_law, .int v_t_boxes, .int v_t_fit, .int v_t_low, .int v_t_high, .ref a_t_sets, .ref a_t_clash, .ref a_t_near])), (a_t_clash, .inl (cI, 16, .inl f_t_clash)), (a_t_near, .inl (cI, 16, .inl f_t_near))]) [0, 1, 2] [] [0, 1, 2] hP hD hS hA rfl rfl rfl (by decide) rfl rfl (nw_runV (As := [.int y17_4, .int y17_3]) (rest := [.int y17_2]) hfix (c_X3_barredBy l dC dI cI cJ cZ cQ gx a_t a_t_clash a_t_near a_t_sets H.size v_t_law v_t_boxes v_t_fit v_t_low v_t_high f_t_clash f_t_near y17_4 y17_3 t51 hg51) (cwV 2 hts gX3_barredByAll_X3_barredBy rfl rfl rfl (by decide +kernel) ⟨Nat.le_of_ble_eq_true rfl, Nat.le_of_ble_eq_true rfl⟩) hP hD hK hN hS hA hG [0, 1, 2] rfl rfl 0 3 rfl rfl rfl hl.1 rfl rfl (Nat.le_of_ble_eq_true rfl) dX3_barredByAll_51 ⟨Nat.zero_le _, Nat.zero_le _⟩) (fun H locs hP hD hS => ?_)
          refine lv_ior hx hb dX3_barredByAll_54 ?_
          refine lv_istore_n (lv' := [(2, .int (y17_2 ||| t51)), (0, .ref a_t), (1, .int p0), (3, .int y17_3), (4, .int y17_4)]) hx hb dX3_barredByAll_55 rfl hl (by decide) rfl (fun ls hl => ?_)
          refine lv_iload_n hx hb dX3_barredByAll_56 rfl (lv_at hl 3 rfl) ?_
          refine lv_iconst (v := (1 : Int32)) hx hb dX3_barredByAll_57 (by decide) ?_
          refine lv_iload hx hb dX3_barredByAll_58 (lv_at hl 4 rfl) ?_
          refine lv_ishl hx hb dX3_barredByAll_60 ?_
          refine lv_ior hx hb dX3_barredByAll_61 ?_
          refine lv_istore_n (lv' := [(3, .int (y17_3 ||| ((1 : Int32) <<< (y17_4 &&& 31)))), (2, .int (y17_2 ||| t51)), (0, .ref a_t), (1, .int p0), (4, .int y17_4)]) hx hb dX3_barredByAll_62 rfl hl (by decide) rfl (fun ls hl => ?_)
          refine lv_iinc (v := (y17_4 + (1 : Int32))) (lv' := [(4, .int (y17_4 + (1 : Int32))), (3, .int (y17_3 ||| ((1 : Int32) <<< (y17_4 &&& 31)))), (2, .int (y17_2 ||| t51)), (0, .ref a_t), (1, .int p0)]) hx hb dX3_barredByAll_63 hl (k := 4) rfl rfl (by decide) rfl (fun ls hl => ?_)
          refine lv_goto (tgt := 17) hx hb dX3_barredByAll_66 (by decide) ?_
          have hw := hX.1 _ (Option.some.inj hM).symm
          rw [hW17] at hw
          exact hw H locs ls hP hD hS (lv_sub hl [3, 4, 2, 1, 0] rfl)
        · have hM := ifn c41 hM
          obtain ⟨x, hMn, hxe⟩ := mpr hM
          have hX := hX.2 _ hxe
          have hM := hMn
          refine lv_iconst (v := (-1 : Int32)) hx hb dX3_barredByAll_44 (by decide) ?_
          have hE : res = ((-1 : Int32) : Int32) := ((Option.some.inj hM).trans hX).symm
          rw [hQq, hE]
          exact nw_iret rfl hx hb hr hlocks hK hP hD hS dX3_barredByAll_45
  have hw := lp_walk (Wp := fun z => W17 z.1 z.2.1 z.2.2) (X := fun t => t = res) hst _ _ _ hM hX
  rw [hW17] at hw
  exact hw H locs ls hP hD hS (lv_sub hl [3, 4, 2, 1, 0] rfl)
theorem in_X2_worthwhile_X2 : ∀ w ∈ wsX20, w ∈ wsX2_worthwhile := fun _ h => List.mem_cons_of_mem _ (List.mem_append_left _ (List.mem_append_right _ h))
theorem in_X2_worthwhile_X3 : ∀ w ∈ wsX30, w ∈ wsX2_worthwhile := fun _ h => List.mem_cons_of_mem _ (List.mem_append_right _ h)
abbrev rm_X2_worthwhile : Room := { frames := 1, cells := 0, slots := 0, locals := 21 }
set_option maxHeartbeats 4000000 in
set_option maxRecDepth 100000 in
theorem c_X2_worthwhile (l : Launch) (dC : Nat → ClassId) (dI : Nat → Nat → Nat) (cI cJ cZ cQ : ClassId) (gx : GX) (a_t a_t_table a_t_weights a_t_table_sets a_t_table_clash a_t_table_near : Nat) (sz : Nat) (v_t_best : Int32) (v_t_bits : Int32) (v_t_table_law : Int32) (v_t_table_boxes : Int32) (v_t_table_fit : Int32) (v_t_table_low : Int32) (v_t_table_high : Int32) (f_t_weights : (Nat → Int32)) (p0 : Int32) (res : Int32) (hM : M_X2_worthwhile v_t_table_boxes f_t_weights p0 = some res) : Met l yX2_worthwhile wsX2_worthwhile rm_X2_worthwhile (kP dC dI cI cJ cZ cQ gx [.ref a_t, .int p0] sz [(a_t, .inr (2, [.ref a_t_weights, .ref a_t_table, .int v_t_best, .int v_t_bits])), (a_t_table, .inr (3, [.int v_t_table_law, .int v_t_table_boxes, .int v_t_table_fit, .int v_t_table_low, .int v_t_table_high, .ref a_t_table_sets, .ref a_t_table_clash, .ref a_t_table_near])), (a_t_weights, .inl (cI, 16, .inl f_t_weights))]) (kQi dC dI cI cJ cZ cQ res [(a_t, .inr (2, [.ref a_t_weights, .ref a_t_table, .int v_t_best, .int v_t_bits])), (a_t_table, .inr (3, [.int v_t_table_law, .int v_t_table_boxes, .int v_t_table_fit, .int v_t_table_low, .int v_t_table_high, .ref a_t_table_sets, .ref a_t_table_clash, .ref a_t_table_near])), (a_t_weights, .inl (cI, 16, .inl f_t_weights))] (va_A [(a_t, .inr (2, [.ref a_t_weights, .ref a_t_table, .int v_t_best, .int v_t_bits])), (a_t_table, .inr (3, [.int v_t_table_law, .int v_t_table_boxes, .int v_t_table_fit, .int v_t_table_low, .int v_t_table_high, .ref a_t_table_sets, .ref a_t_table_clash, .ref a_t_table_near])), (a_t_weights, .inl (cI, 16, .inl f_t_weights))] sz)) 0 0 (va_A [(a_t, .inr (2, [.ref a_t_weights, .ref a_t_table, .int v_t_best, .int v_t_bits])), (a_t_table, .inr (3, [.int v_t_table_law, .int v_t_table_boxes, .int v_t_table_fit, .int v_t_table_low, .int v_t_table_high, .ref a_t_table_sets, .ref a_t_table_clash, .ref a_t_table_near])), (a_t_weights, .inl (cI, 16, .inl f_t_weights))] sz) := by
  refine nw_entry (y := yX2_worthwhile) (ws := wsX2_worthwhile) (rm := rm_X2_worthwhile) (sz := sz) (wpre := [(a_t, .inr (2, [.ref a_t_weights, .ref a_t_table, .int v_t_best, .int v_t_bits])), (a_t_table, .inr (3, [.int v_t_table_law, .int v_t_table_boxes, .int v_t_table_fit, .int v_t_table_low, .int v_t_table_high, .ref a_t_table_sets, .ref a_t_table_clash, .ref a_t_table_near])), (a_t_weights, .inl (cI, 16, .inl f_t_weights))]) (av := [.ref a_t, .int p0]) (Qc := (kQi dC dI cI cJ cZ cQ res [(a_t, .inr (2, [.ref a_t_weights, .ref a_t_table, .int v_t_best, .int v_t_bits])), (a_t_table, .inr (3, [.int v_t_table_law, .int v_t_table_boxes, .int v_t_table_fit, .int v_t_table_low, .int v_t_table_high, .ref a_t_table_sets, .ref a_t_table_clash, .ref a_t_table_near])), (a_t_weights, .inl (cI, 16, .inl f_t_weights))])) (cc := cX2_worthwhile) (own := RX2) [(0, .ref a_t), (1, .int p0)] (by decide) rfl rfl (Nat.le_of_ble_eq_true rfl) rfl ?_
  intro p e s m below meth c A ls H locs hfix hr hlocks hin0 hsz0 hP hK hD hA hS hN hG hl
  obtain ⟨hx, hb, hml, hown, hts⟩ := id hfix
  obtain ⟨Qq, hQq⟩ : ∃ Q9, Q9 = (kQi dC dI cI cJ cZ cQ res [(a_t, .inr (2, [.ref a_t_weights, .ref a_t_table, .int v_t_best, .int v_t_bits])), (a_t_table, .inr (3, [.int v_t_table_law, .int v_t_table_boxes, .int v_t_table_fit, .int v_t_table_low, .int v_t_table_high, .ref a_t_table_sets, .ref a_t_table_clash, .ref a_t_table_near])), (a_t_weights, .inl (cI, 16, .inl f_t_weights))]) := ⟨_, rfl⟩
  rw [← hQq]
  have hX : res = res := rfl
  have hM : (lpN (fun z => L_X2_worthwhile_4 p0 v_t_table_boxes f_t_weights z.1 z.2) fuelK ((0 : Int32), (0 : Int32))) = some res := hM
  refine lv_iconst (v := (0 : Int32)) hx hb dX2_worthwhile_0 (by decide) ?_
  refine lv_istore_n (lv' := [(2, .int (0 : Int32)), (0, .ref a_t), (1, .int p0)]) hx hb dX2_worthwhile_1 rfl hl (by decide) rfl (fun ls hl => ?_)
  refine lv_iconst (v := (0 : Int32)) hx hb dX2_worthwhile_2 (by decide) ?_
  refine lv_istore_n (lv' := [(3, .int (0 : Int32)), (2, .int (0 : Int32)), (0, .ref a_t), (1, .int p0)]) hx hb dX2_worthwhile_3 rfl hl (by decide) rfl (fun ls hl => ?_)
  obtain ⟨W4, hW4⟩ : ∃ W9 : Int32 → Int32 → Prop, W9 = fun (y4_2 : Int32) (y4_3 : Int32) => ∀ (H : Heap) (locs : List Loc) (ls : Array Slot), va_P (dC, dI) classes [(a_t, .inr (2, [.ref a_t_weights, .ref a_t_table, .int v_t_best, .int v_t_bits])), (a_t_table, .inr (3, [.int v_t_table_law, .int v_t_table_boxes, .int v_t_table_fit, .int v_t_table_low, .int v_t_table_high, .ref a_t_table_sets, .ref a_t_table_clash, .ref a_t_table_near])), (a_t_weights, .inl (cI, 16, .inl f_t_weights))] H → va_D A [(a_t, .inr (2, [.ref a_t_weights, .ref a_t_table, .int v_t_best, .int v_t_bits])), (a_t_table, .inr (3, [.int v_t_table_law, .int v_t_table_boxes, .int v_t_table_fit, .int v_t_table_low, .int v_t_table_high, .ref a_t_table_sets, .ref a_t_table_clash, .ref a_t_table_near])), (a_t_weights, .inl (cI, 16, .inl f_t_weights))] → va_S A s.heap H locs → lv_has ls 4 [(0, .ref a_t), (1, .int p0), (2, .int y4_2), (3, .int y4_3)] → W p l e rm_X2_worthwhile s m ([.ref a_t, .int p0] : List Value).toArray below meth c H locs 0 0 (MQ below (Qq A) ([.ref a_t, .int p0] : List Value).toArray s 0 0 A) (F0 m 4 ls []) := ⟨_, rfl⟩
  have hst : ∀ (z : (Int32 × Int32)) (x : ((Int32 × Int32) ⊕ Int32)), (fun z => L_X2_worthwhile_4 p0 v_t_table_boxes f_t_weights z.1 z.2) z = some x → ((∀ z', x = Sum.inl z' → W4 z'.1 z'.2) ∧ (∀ t_4, x = Sum.inr t_4 → t_4 = res)) → W4 z.1 z.2 := by
    rintro ⟨y4_2, y4_3⟩ x hM hX
    have hM : L_X2_worthwhile_4 p0 v_t_table_boxes f_t_weights y4_2 y4_3 = some x := hM
    show W4 y4_2 y4_3
    rw [hW4]
    intro H locs ls hP hD hS hl
    have hM : (if v_t_table_boxes ≤ y4_3 then (((some y4_2)).map Sum.inr) else (Option.bind (M_X8_has p0 y4_3) (fun t17 => if t17 = 0 then (some (Sum.inl (y4_2, (y4_3 + (1 : Int32))))) else (ix y4_3 16 (if (f_t_weights y4_3.toNatClampNeg) ≤ 0 then (some (Sum.inl (y4_2, (y4_3 + (1 : Int32))))) else (some (Sum.inl ((y4_2 ||| ((1 : Int32) <<< (y4_3 &&& 31))), (y4_3 + (1 : Int32)))))))))) = some x := hM
    refine lv_iload_n hx hb dX2_worthwhile_4 rfl (lv_at hl 3 rfl) ?_
    refine lv_aload_n hx hb dX2_worthwhile_5 rfl (lv_at hl 0 rfl) ?_
    refine va_get (D := (dC, dI)) (ci := 2) (v := .ref a_t_table) (C := RX2) (T := TX2) (N := 4) hx hb hts in_X2_worthwhile_X2 hown hK hP 0 rfl rfl 1 (by decide) (hts (.fieldLink RX2 22 "NoneWithin$Keeper" "table" "LNoneWithin$LawTable;") (by decide +kernel)) (fun _ h9 => h9) rfl dX2_worthwhile_6 ?_
    refine va_get (D := (dC, dI)) (ci := 3) (v := .int v_t_table_boxes) (C := RX3) (T := TX3) (N := 8) hx hb hts in_X2_worthwhile_X3 hown hK hP 1 rfl rfl 1 (by decide) (hts (.fieldLink RX2 51 "NoneWithin$LawTable" "boxes" "I") (by decide +kernel)) (fun _ h9 => h9) rfl dX2_worthwhile_9 ?_
    refine lv_icmp_ge (tgt := 44) hx hb dX2_worthwhile_12 (by decide) (fun c12 => ?_) (fun c12 => ?_)
    · have hM := ifp c12 hM
      obtain ⟨x, hMn, hxe⟩ := mpr hM
      have hX := hX.2 _ hxe
      have hM := hMn
      refine lv_iload_n hx hb dX2_worthwhile_44 rfl (lv_at hl 2 rfl) ?_
      have hE : res = (y4_2 : Int32) := ((Option.some.inj hM).trans hX).symm
      rw [hQq, hE]
      exact nw_iret rfl hx hb hr hlocks hK hP hD hS dX2_worthwhile_45
    · have hM := ifn c12 hM
      refine lv_iload_n hx hb dX2_worthwhile_15 rfl (lv_at hl 1 rfl) ?_
      refine lv_iload_n hx hb dX2_worthwhile_16 rfl (lv_at hl 3 rfl) ?_
      obtain ⟨t17, hg17, hM⟩ := bd hM
      refine nw_i (wc := []) (wr := [(a_t, .inr (2, [.ref a_t_weights, .ref a_t_table, .int v_t_best, .int v_t_bits])), (a_t_table, .inr (3, [.int v_t_table_law, .int v_t_table_boxes, .int v_t_table_fit, .int v_t_table_low, .int v_t_table_high, .ref a_t_table_sets, .ref a_t_table_clash, .ref a_t_table_near])), (a_t_weights, .inl (cI, 16, .inl f_t_weights))]) (w1 := []) (wf := [(a_t, .inr (2, [.ref a_t_weights, .ref a_t_table, .int v_t_best, .int v_t_bits])), (a_t_table, .inr (3, [.int v_t_table_law, .int v_t_table_boxes, .int v_t_table_fit, .int v_t_table_low, .int v_t_table_high, .ref a_t_table_sets, .ref a_t_table_clash, .ref a_t_table_near])), (a_t_weights, .inl (cI, 16, .inl f_t_weights))]) [] [0, 1, 2] [0, 1, 2] hP hD hS hA rfl rfl rfl (by decide) rfl rfl (nw_runSN (As := [.int p0, .int y4_3]) (rest := []) hfix (c_X8_has l dC dI cI cJ cZ cQ gx  H.size  p0 y4_3 t17 hg17) ⟨va_cnB 2 hts gX2_worthwhile_X8_has_n54 rfl rfl rfl (hN.2.2.2.2.2.1) (hts (.initialized RX8) (by decide +kernel)) (by decide +kernel) ⟨Nat.le_of_ble_eq_true rfl, Nat.le_of_ble_eq_true rfl⟩, (hts (.static yX8_has) (by decide +kernel)), trivial⟩ hP hD hK hN hS hA hG [] rfl rfl hl.1 rfl rfl (Nat.le_of_ble_eq_true rfl) dX2_worthwhile_17 ⟨Nat.zero_le _, Nat.zero_le _⟩) (fun H locs hP hD hS => ?_)
      refine lv_if_eq (tgt := 38) hx hb dX2_worthwhile_20 (by decide) (fun c20 => ?_) (fun c20 => ?_)
      · have hM := ifp c20 hM
        refine lv_iinc (v := (y4_3 + (1 : Int32))) (lv' := [(3, .int (y4_3 + (1 : Int32))), (0, .ref a_t), (1, .int p0), (2, .int y4_2)]) hx hb dX2_worthwhile_38 hl (k := 3) rfl rfl (by decide) rfl (fun ls hl => ?_)
        refine lv_goto (tgt := 4) hx hb dX2_worthwhile_41 (by decide) ?_
        have hw := hX.1 _ (Option.some.inj hM).symm
        rw [hW4] at hw
        exact hw H locs ls hP hD hS (lv_sub hl [1, 2, 3, 0] rfl)
      · have hM := ifn c20 hM
        refine lv_aload_n hx hb dX2_worthwhile_23 rfl (lv_at hl 0 rfl) ?_
        refine va_get (D := (dC, dI)) (ci := 2) (v := .ref a_t_weights) (C := RX2) (T := TX2) (N := 4) hx hb hts in_X2_worthwhile_X2 hown hK hP 0 rfl rfl 0 (by decide) (hts (.fieldLink RX2 9 "NoneWithin$Keeper" "weights" "[I") (by decide +kernel)) (fun _ h9 => h9) rfl dX2_worthwhile_24 ?_
        refine lv_iload_n hx hb dX2_worthwhile_27 rfl (lv_at hl 3 rfl) ?_
        obtain ⟨hin, hM⟩ := ixp hM
        refine va_iald hx hb hK hP 2 0 rfl rfl hin dX2_worthwhile_28 ?_
        refine lv_if_le (tgt := 38) hx hb dX2_worthwhile_29 (by decide) (fun c29 => ?_) (fun c29 => ?_)
        · have hM := ifp c29 hM
          refine lv_iinc (v := (y4_3 + (1 : Int32))) (lv' := [(3, .int (y4_3 + (1 : Int32))), (0, .ref a_t), (1, .int p0), (2, .int y4_2)]) hx hb dX2_worthwhile_38 hl (k := 3) rfl rfl (by decide) rfl (fun ls hl => ?_)
          refine lv_goto (tgt := 4) hx hb dX2_worthwhile_41 (by decide) ?_
          have hw := hX.1 _ (Option.some.inj hM).symm
          rw [hW4] at hw
          exact hw H locs ls hP hD hS (lv_sub hl [1, 2, 3, 0] rfl)
        · have hM := ifn c29 hM
          refine lv_iload_n hx hb dX2_worthwhile_32 rfl (lv_at hl 2 rfl) ?_
          refine lv_iconst (v := (1 : Int32)) hx hb dX2_worthwhile_33 (by decide) ?_
          refine lv_iload_n hx hb dX2_worthwhile_34 rfl (lv_at hl 3 rfl) ?_
          refine lv_ishl hx hb dX2_worthwhile_35 ?_
          refine lv_ior hx hb dX2_worthwhile_36 ?_
          refine lv_istore_n (lv' := [(2, .int (y4_2 ||| ((1 : Int32) <<< (y4_3 &&& 31)))), (0, .ref a_t), (1, .int p0), (3, .int y4_3)]) hx hb dX2_worthwhile_37 rfl hl (by decide) rfl (fun ls hl => ?_)
          refine lv_iinc (v := (y4_3 + (1 : Int32))) (lv' := [(3, .int (y4_3 + (1 : Int32))), (2, .int (y4_2 ||| ((1 : Int32) <<< (y4_3 &&& 31)))), (0, .ref a_t), (1, .int p0)]) hx hb dX2_worthwhile_38 hl (k := 3) rfl rfl (by decide) rfl (fun ls hl => ?_)
          refine lv_goto (tgt := 4) hx hb dX2_worthwhile_41 (by decide) ?_
          have hw := hX.1 _ (Option.some.inj hM).symm
          rw [hW4] at hw
          exact hw H locs ls hP hD hS (lv_sub hl [2, 3, 1, 0] rfl)
  have hw := lp_walk (Wp := fun z => W4 z.1 z.2) (X := fun t => t = res) hst _ _ _ hM hX
  rw [hW4] at hw
  exact hw H locs ls hP hD hS (lv_sub hl [2, 3, 1, 0] rfl)
theorem in_X2_weigh_X2 : ∀ w ∈ wsX20, w ∈ wsX2_weigh := fun _ h => List.mem_cons_of_mem _ (List.mem_append_left _ (List.mem_append_right _ h))
theorem in_X2_weigh_X3 : ∀ w ∈ wsX30, w ∈ wsX2_weigh := fun _ h => List.mem_cons_of_mem _ (List.mem_append_right _ h)
abbrev rm_X2_weigh : Room := { frames := 1, cells := 0, slots := 0, locals := 21 }
set_option maxHeartbeats 4000000 in
set_option maxRecDepth 100000 in
theorem c_X2_weigh (l : Launch) (dC : Nat → ClassId) (dI : Nat → Nat → Nat) (cI cJ cZ cQ : ClassId) (gx : GX) (a_t a_t_table a_t_weights a_t_table_sets a_t_table_clash a_t_table_near : Nat) (sz : Nat) (v_t_best : Int32) (v_t_bits : Int32) (v_t_table_law : Int32) (v_t_table_boxes : Int32) (v_t_table_fit : Int32) (v_t_table_low : Int32) (v_t_table_high : Int32) (f_t_weights : (Nat → Int32)) (p0 : Int32) (res : Int32) (hM : M_X2_weigh v_t_table_boxes f_t_weights p0 = some res) : Met l yX2_weigh wsX2_weigh rm_X2_weigh (kP dC dI cI cJ cZ cQ gx [.ref a_t, .int p0] sz [(a_t, .inr (2, [.ref a_t_weights, .ref a_t_table, .int v_t_best, .int v_t_bits])), (a_t_table, .inr (3, [.int v_t_table_law, .int v_t_table_boxes, .int v_t_table_fit, .int v_t_table_low, .int v_t_table_high, .ref a_t_table_sets, .ref a_t_table_clash, .ref a_t_table_near])), (a_t_weights, .inl (cI, 16, .inl f_t_weights))]) (kQi dC dI cI cJ cZ cQ res [(a_t, .inr (2, [.ref a_t_weights, .ref a_t_table, .int v_t_best, .int v_t_bits])), (a_t_table, .inr (3, [.int v_t_table_law, .int v_t_table_boxes, .int v_t_table_fit, .int v_t_table_low, .int v_t_table_high, .ref a_t_table_sets, .ref a_t_table_clash, .ref a_t_table_near])), (a_t_weights, .inl (cI, 16, .inl f_t_weights))] (va_A [(a_t, .inr (2, [.ref a_t_weights, .ref a_t_table, .int v_t_best, .int v_t_bits])), (a_t_table, .inr (3, [.int v_t_table_law, .int v_t_table_boxes, .int v_t_table_fit, .int v_t_table_low, .int v_t_table_high, .ref a_t_table_sets, .ref a_t_table_clash, .ref a_t_table_near])), (a_t_weights, .inl (cI, 16, .inl f_t_weights))] sz)) 0 0 (va_A [(a_t, .inr (2, [.ref a_t_weights, .ref a_t_table, .int v_t_best, .int v_t_bits])), (a_t_table, .inr (3, [.int v_t_table_law, .int v_t_table_boxes, .int v_t_table_fit, .int v_t_table_low, .int v_t_table_high, .ref a_t_table_sets, .ref a_t_table_clash, .ref a_t_table_near])), (a_t_weights, .inl (cI, 16, .inl f_t_weights))] sz) := by
  refine nw_entry (y := yX2_weigh) (ws := wsX2_weigh) (rm := rm_X2_weigh) (sz := sz) (wpre := [(a_t, .inr (2, [.ref a_t_weights, .ref a_t_table, .int v_t_best, .int v_t_bits])), (a_t_table, .inr (3, [.int v_t_table_law, .int v_t_table_boxes, .int v_t_table_fit, .int v_t_table_low, .int v_t_table_high, .ref a_t_table_sets, .ref a_t_table_clash, .ref a_t_table_near])), (a_t_weights, .inl (cI, 16, .inl f_t_weights))]) (av := [.ref a_t, .int p0]) (Qc := (kQi dC dI cI cJ cZ cQ res [(a_t, .inr (2, [.ref a_t_weights, .ref a_t_table, .int v_t_best, .int v_t_bits])), (a_t_table, .inr (3, [.int v_t_table_law, .int v_t_table_boxes, .int v_t_table_fit, .int v_t_table_low, .int v_t_table_high, .ref a_t_table_sets, .ref a_t_table_clash, .ref a_t_table_near])), (a_t_weights, .inl (cI, 16, .inl f_t_weights))])) (cc := cX2_weigh) (own := RX2) [(0, .ref a_t), (1, .int p0)] (by decide) rfl rfl (Nat.le_of_ble_eq_true rfl) rfl ?_
  intro p e s m below meth c A ls H locs hfix hr hlocks hin0 hsz0 hP hK hD hA hS hN hG hl
  obtain ⟨hx, hb, hml, hown, hts⟩ := id hfix
  obtain ⟨Qq, hQq⟩ : ∃ Q9, Q9 = (kQi dC dI cI cJ cZ cQ res [(a_t, .inr (2, [.ref a_t_weights, .ref a_t_table, .int v_t_best, .int v_t_bits])), (a_t_table, .inr (3, [.int v_t_table_law, .int v_t_table_boxes, .int v_t_table_fit, .int v_t_table_low, .int v_t_table_high, .ref a_t_table_sets, .ref a_t_table_clash, .ref a_t_table_near])), (a_t_weights, .inl (cI, 16, .inl f_t_weights))]) := ⟨_, rfl⟩
  rw [← hQq]
  have hX : res = res := rfl
  have hM : (lpN (fun z => L_X2_weigh_4 p0 v_t_table_boxes f_t_weights z.1 z.2) fuelK ((0 : Int32), (0 : Int32))) = some res := hM
  refine lv_iconst (v := (0 : Int32)) hx hb dX2_weigh_0 (by decide) ?_
  refine lv_istore_n (lv' := [(2, .int (0 : Int32)), (0, .ref a_t), (1, .int p0)]) hx hb dX2_weigh_1 rfl hl (by decide) rfl (fun ls hl => ?_)
  refine lv_iconst (v := (0 : Int32)) hx hb dX2_weigh_2 (by decide) ?_
  refine lv_istore_n (lv' := [(3, .int (0 : Int32)), (2, .int (0 : Int32)), (0, .ref a_t), (1, .int p0)]) hx hb dX2_weigh_3 rfl hl (by decide) rfl (fun ls hl => ?_)
  obtain ⟨W4, hW4⟩ : ∃ W9 : Int32 → Int32 → Prop, W9 = fun (y4_2 : Int32) (y4_3 : Int32) => ∀ (H : Heap) (locs : List Loc) (ls : Array Slot), va_P (dC, dI) classes [(a_t, .inr (2, [.ref a_t_weights, .ref a_t_table, .int v_t_best, .int v_t_bits])), (a_t_table, .inr (3, [.int v_t_table_law, .int v_t_table_boxes, .int v_t_table_fit, .int v_t_table_low, .int v_t_table_high, .ref a_t_table_sets, .ref a_t_table_clash, .ref a_t_table_near])), (a_t_weights, .inl (cI, 16, .inl f_t_weights))] H → va_D A [(a_t, .inr (2, [.ref a_t_weights, .ref a_t_table, .int v_t_best, .int v_t_bits])), (a_t_table, .inr (3, [.int v_t_table_law, .int v_t_table_boxes, .int v_t_table_fit, .int v_t_table_low, .int v_t_table_high, .ref a_t_table_sets, .ref a_t_table_clash, .ref a_t_table_near])), (a_t_weights, .inl (cI, 16, .inl f_t_weights))] → va_S A s.heap H locs → lv_has ls 4 [(0, .ref a_t), (1, .int p0), (2, .int y4_2), (3, .int y4_3)] → W p l e rm_X2_weigh s m ([.ref a_t, .int p0] : List Value).toArray below meth c H locs 0 0 (MQ below (Qq A) ([.ref a_t, .int p0] : List Value).toArray s 0 0 A) (F0 m 4 ls []) := ⟨_, rfl⟩
  have hst : ∀ (z : (Int32 × Int32)) (x : ((Int32 × Int32) ⊕ Int32)), (fun z => L_X2_weigh_4 p0 v_t_table_boxes f_t_weights z.1 z.2) z = some x → ((∀ z', x = Sum.inl z' → W4 z'.1 z'.2) ∧ (∀ t_4, x = Sum.inr t_4 → t_4 = res)) → W4 z.1 z.2 := by
    rintro ⟨y4_2, y4_3⟩ x hM hX
    have hM : L_X2_weigh_4 p0 v_t_table_boxes f_t_weights y4_2 y4_3 = some x := hM
    show W4 y4_2 y4_3
    rw [hW4]
    intro H locs ls hP hD hS hl
    have hM : (if v_t_table_boxes ≤ y4_3 then (((some y4_2)).map Sum.inr) else (Option.bind (M_X8_has p0 y4_3) (fun t17 => if t17 = 0 then (some (Sum.inl (y4_2, (y4_3 + (1 : Int32))))) else (ix y4_3 16 (some (Sum.inl ((y4_2 + (f_t_weights y4_3.toNatClampNeg)), (y4_3 + (1 : Int32))))))))) = some x := hM
    refine lv_iload_n hx hb dX2_weigh_4 rfl (lv_at hl 3 rfl) ?_
    refine lv_aload_n hx hb dX2_weigh_5 rfl (lv_at hl 0 rfl) ?_
    refine va_get (D := (dC, dI)) (ci := 2) (v := .ref a_t_table) (C := RX2) (T := TX2) (N := 4) hx hb hts in_X2_weigh_X2 hown hK hP 0 rfl rfl 1 (by decide) (hts (.fieldLink RX2 22 "NoneWithin$Keeper" "table" "LNoneWithin$LawTable;") (by decide +kernel)) (fun _ h9 => h9) rfl dX2_weigh_6 ?_
    refine va_get (D := (dC, dI)) (ci := 3) (v := .int v_t_table_boxes) (C := RX3) (T := TX3) (N := 8) hx hb hts in_X2_weigh_X3 hown hK hP 1 rfl rfl 1 (by decide) (hts (.fieldLink RX2 51 "NoneWithin$LawTable" "boxes" "I") (by decide +kernel)) (fun _ h9 => h9) rfl dX2_weigh_9 ?_
    refine lv_icmp_ge (tgt := 38) hx hb dX2_weigh_12 (by decide) (fun c12 => ?_) (fun c12 => ?_)
    · have hM := ifp c12 hM
      obtain ⟨x, hMn, hxe⟩ := mpr hM
      have hX := hX.2 _ hxe
      have hM := hMn
      refine lv_iload_n hx hb dX2_weigh_38 rfl (lv_at hl 2 rfl) ?_
      have hE : res = (y4_2 : Int32) := ((Option.some.inj hM).trans hX).symm
      rw [hQq, hE]
      exact nw_iret rfl hx hb hr hlocks hK hP hD hS dX2_weigh_39
    · have hM := ifn c12 hM
      refine lv_iload_n hx hb dX2_weigh_15 rfl (lv_at hl 1 rfl) ?_
      refine lv_iload_n hx hb dX2_weigh_16 rfl (lv_at hl 3 rfl) ?_
      obtain ⟨t17, hg17, hM⟩ := bd hM
      refine nw_i (wc := []) (wr := [(a_t, .inr (2, [.ref a_t_weights, .ref a_t_table, .int v_t_best, .int v_t_bits])), (a_t_table, .inr (3, [.int v_t_table_law, .int v_t_table_boxes, .int v_t_table_fit, .int v_t_table_low, .int v_t_table_high, .ref a_t_table_sets, .ref a_t_table_clash, .ref a_t_table_near])), (a_t_weights, .inl (cI, 16, .inl f_t_weights))]) (w1 := []) (wf := [(a_t, .inr (2, [.ref a_t_weights, .ref a_t_table, .int v_t_best, .int v_t_bits])), (a_t_table, .inr (3, [.int v_t_table_law, .int v_t_table_boxes, .int v_t_table_fit, .int v_t_table_low, .int v_t_table_high, .ref a_t_table_sets, .ref a_t_table_clash, .ref a_t_table_near])), (a_t_weights, .inl (cI, 16, .inl f_t_weights))]) [] [0, 1, 2] [0, 1, 2] hP hD hS hA rfl rfl rfl (by decide) rfl rfl (nw_runSN (As := [.int p0, .int y4_3]) (rest := []) hfix (c_X8_has l dC dI cI cJ cZ cQ gx  H.size  p0 y4_3 t17 hg17) ⟨va_cnB 2 hts gX2_weigh_X8_has_n54 rfl rfl rfl (hN.2.2.2.2.2.1) (hts (.initialized RX8) (by decide +kernel)) (by decide +kernel) ⟨Nat.le_of_ble_eq_true rfl, Nat.le_of_ble_eq_true rfl⟩, (hts (.static yX8_has) (by decide +kernel)), trivial⟩ hP hD hK hN hS hA hG [] rfl rfl hl.1 rfl rfl (Nat.le_of_ble_eq_true rfl) dX2_weigh_17 ⟨Nat.zero_le _, Nat.zero_le _⟩) (fun H locs hP hD hS => ?_)
      refine lv_if_eq (tgt := 32) hx hb dX2_weigh_20 (by decide) (fun c20 => ?_) (fun c20 => ?_)
      · have hM := ifp c20 hM
        refine lv_iinc (v := (y4_3 + (1 : Int32))) (lv' := [(3, .int (y4_3 + (1 : Int32))), (0, .ref a_t), (1, .int p0), (2, .int y4_2)]) hx hb dX2_weigh_32 hl (k := 3) rfl rfl (by decide) rfl (fun ls hl => ?_)
        refine lv_goto (tgt := 4) hx hb dX2_weigh_35 (by decide) ?_
        have hw := hX.1 _ (Option.some.inj hM).symm
        rw [hW4] at hw
        exact hw H locs ls hP hD hS (lv_sub hl [1, 2, 3, 0] rfl)
      · have hM := ifn c20 hM
        refine lv_iload_n hx hb dX2_weigh_23 rfl (lv_at hl 2 rfl) ?_
        refine lv_aload_n hx hb dX2_weigh_24 rfl (lv_at hl 0 rfl) ?_
        refine va_get (D := (dC, dI)) (ci := 2) (v := .ref a_t_weights) (C := RX2) (T := TX2) (N := 4) hx hb hts in_X2_weigh_X2 hown hK hP 0 rfl rfl 0 (by decide) (hts (.fieldLink RX2 9 "NoneWithin$Keeper" "weights" "[I") (by decide +kernel)) (fun _ h9 => h9) rfl dX2_weigh_25 ?_
        refine lv_iload_n hx hb dX2_weigh_28 rfl (lv_at hl 3 rfl) ?_
        obtain ⟨hin, hM⟩ := ixp hM
        refine va_iald hx hb hK hP 2 0 rfl rfl hin dX2_weigh_29 ?_
        refine lv_iadd hx hb dX2_weigh_30 ?_
        refine lv_istore_n (lv' := [(2, .int (y4_2 + (f_t_weights y4_3.toNatClampNeg))), (0, .ref a_t), (1, .int p0), (3, .int y4_3)]) hx hb dX2_weigh_31 rfl hl (by decide) rfl (fun ls hl => ?_)
        refine lv_iinc (v := (y4_3 + (1 : Int32))) (lv' := [(3, .int (y4_3 + (1 : Int32))), (2, .int (y4_2 + (f_t_weights y4_3.toNatClampNeg))), (0, .ref a_t), (1, .int p0)]) hx hb dX2_weigh_32 hl (k := 3) rfl rfl (by decide) rfl (fun ls hl => ?_)
        refine lv_goto (tgt := 4) hx hb dX2_weigh_35 (by decide) ?_
        have hw := hX.1 _ (Option.some.inj hM).symm
        rw [hW4] at hw
        exact hw H locs ls hP hD hS (lv_sub hl [2, 3, 1, 0] rfl)
  have hw := lp_walk (Wp := fun z => W4 z.1 z.2) (X := fun t => t = res) hst _ _ _ hM hX
  rw [hW4] at hw
  exact hw H locs ls hP hD hS (lv_sub hl [2, 3, 1, 0] rfl)
theorem in_X3_anyTwoNear_X3 : ∀ w ∈ wsX30, w ∈ wsX3_anyTwoNear := fun _ h => List.mem_cons_of_mem _ (List.mem_append_right _ h)
abbrev rm_X3_anyTwoNear : Room := { frames := 1, cells := 0, slots := 0, locals := 21 }
set_option maxHeartbeats 4000000 in
set_option maxRecDepth 100000 in
theorem c_X3_anyTwoNear (l : Launch) (dC : Nat → ClassId) (dI : Nat → Nat → Nat) (cI cJ cZ cQ : ClassId) (gx : GX) (a_t a_t_near a_t_sets a_t_clash : Nat) (sz : Nat) (v_t_law : Int32) (v_t_boxes : Int32) (v_t_fit : Int32) (v_t_low : Int32) (v_t_high : Int32) (f_t_near : (Nat → Int32)) (p0 : Int32) (res : Int32) (hM : M_X3_anyTwoNear v_t_boxes f_t_near p0 = some res) : Met l yX3_anyTwoNear wsX3_anyTwoNear rm_X3_anyTwoNear (kP dC dI cI cJ cZ cQ gx [.ref a_t, .int p0] sz [(a_t, .inr (3, [.int v_t_law, .int v_t_boxes, .int v_t_fit, .int v_t_low, .int v_t_high, .ref a_t_sets, .ref a_t_clash, .ref a_t_near])), (a_t_near, .inl (cI, 16, .inl f_t_near))]) (kQi dC dI cI cJ cZ cQ res [(a_t, .inr (3, [.int v_t_law, .int v_t_boxes, .int v_t_fit, .int v_t_low, .int v_t_high, .ref a_t_sets, .ref a_t_clash, .ref a_t_near])), (a_t_near, .inl (cI, 16, .inl f_t_near))] (va_A [(a_t, .inr (3, [.int v_t_law, .int v_t_boxes, .int v_t_fit, .int v_t_low, .int v_t_high, .ref a_t_sets, .ref a_t_clash, .ref a_t_near])), (a_t_near, .inl (cI, 16, .inl f_t_near))] sz)) 0 0 (va_A [(a_t, .inr (3, [.int v_t_law, .int v_t_boxes, .int v_t_fit, .int v_t_low, .int v_t_high, .ref a_t_sets, .ref a_t_clash, .ref a_t_near])), (a_t_near, .inl (cI, 16, .inl f_t_near))] sz) := by
  refine nw_entry (y := yX3_anyTwoNear) (ws := wsX3_anyTwoNear) (rm := rm_X3_anyTwoNear) (sz := sz) (wpre := [(a_t, .inr (3, [.int v_t_law, .int v_t_boxes, .int v_t_fit, .int v_t_low, .int v_t_high, .ref a_t_sets, .ref a_t_clash, .ref a_t_near])), (a_t_near, .inl (cI, 16, .inl f_t_near))]) (av := [.ref a_t, .int p0]) (Qc := (kQi dC dI cI cJ cZ cQ res [(a_t, .inr (3, [.int v_t_law, .int v_t_boxes, .int v_t_fit, .int v_t_low, .int v_t_high, .ref a_t_sets, .ref a_t_clash, .ref a_t_near])), (a_t_near, .inl (cI, 16, .inl f_t_near))])) (cc := cX3_anyTwoNear) (own := RX3) [(0, .ref a_t), (1, .int p0)] (by decide) rfl rfl (Nat.le_of_ble_eq_true rfl) rfl ?_
  intro p e s m below meth c A ls H locs hfix hr hlocks hin0 hsz0 hP hK hD hA hS hN hG hl
  obtain ⟨hx, hb, hml, hown, hts⟩ := id hfix
  obtain ⟨Qq, hQq⟩ : ∃ Q9, Q9 = (kQi dC dI cI cJ cZ cQ res [(a_t, .inr (3, [.int v_t_law, .int v_t_boxes, .int v_t_fit, .int v_t_low, .int v_t_high, .ref a_t_sets, .ref a_t_clash, .ref a_t_near])), (a_t_near, .inl (cI, 16, .inl f_t_near))]) := ⟨_, rfl⟩
  rw [← hQq]
  have hX : res = res := rfl
  have hM : (lpN (fun z => L_X3_anyTwoNear_2 p0 v_t_boxes f_t_near z) fuelK (0 : Int32)) = some res := hM
  refine lv_iconst (v := (0 : Int32)) hx hb dX3_anyTwoNear_0 (by decide) ?_
  refine lv_istore_n (lv' := [(2, .int (0 : Int32)), (0, .ref a_t), (1, .int p0)]) hx hb dX3_anyTwoNear_1 rfl hl (by decide) rfl (fun ls hl => ?_)
  obtain ⟨W2, hW2⟩ : ∃ W9 : Int32 → Prop, W9 = fun (y2_2 : Int32) => ∀ (H : Heap) (locs : List Loc) (ls : Array Slot), va_P (dC, dI) classes [(a_t, .inr (3, [.int v_t_law, .int v_t_boxes, .int v_t_fit, .int v_t_low, .int v_t_high, .ref a_t_sets, .ref a_t_clash, .ref a_t_near])), (a_t_near, .inl (cI, 16, .inl f_t_near))] H → va_D A [(a_t, .inr (3, [.int v_t_law, .int v_t_boxes, .int v_t_fit, .int v_t_low, .int v_t_high, .ref a_t_sets, .ref a_t_clash, .ref a_t_near])), (a_t_near, .inl (cI, 16, .inl f_t_near))] → va_S A s.heap H locs → lv_has ls 3 [(0, .ref a_t), (1, .int p0), (2, .int y2_2)] → W p l e rm_X3_anyTwoNear s m ([.ref a_t, .int p0] : List Value).toArray below meth c H locs 0 0 (MQ below (Qq A) ([.ref a_t, .int p0] : List Value).toArray s 0 0 A) (F0 m 2 ls []) := ⟨_, rfl⟩
  have hst : ∀ (z : Int32) (x : (Int32 ⊕ Int32)), (fun z => L_X3_anyTwoNear_2 p0 v_t_boxes f_t_near z) z = some x → ((∀ z', x = Sum.inl z' → W2 z') ∧ (∀ t_2, x = Sum.inr t_2 → t_2 = res)) → W2 z := by
    intro y2_2 x hM hX
    have hM : L_X3_anyTwoNear_2 p0 v_t_boxes f_t_near y2_2 = some x := hM
    show W2 y2_2
    rw [hW2]
    intro H locs ls hP hD hS hl
    have hM : (if v_t_boxes ≤ y2_2 then (((some (0 : Int32))).map Sum.inr) else (Option.bind (M_X8_has p0 y2_2) (fun t12 => if t12 = 0 then (some (Sum.inl (y2_2 + (1 : Int32)))) else (ix y2_2 16 (if ((f_t_near y2_2.toNatClampNeg) &&& p0) = 0 then (some (Sum.inl (y2_2 + (1 : Int32)))) else (((some (1 : Int32))).map Sum.inr)))))) = some x := hM
    refine lv_iload_n hx hb dX3_anyTwoNear_2 rfl (lv_at hl 2 rfl) ?_
    refine lv_aload_n hx hb dX3_anyTwoNear_3 rfl (lv_at hl 0 rfl) ?_
    refine va_get (D := (dC, dI)) (ci := 3) (v := .int v_t_boxes) (C := RX3) (T := TX3) (N := 8) hx hb hts in_X3_anyTwoNear_X3 hown hK hP 0 rfl rfl 1 (by decide) (hts (.fieldLink RX3 15 "NoneWithin$LawTable" "boxes" "I") (by decide +kernel)) (fun _ h9 => h9) rfl dX3_anyTwoNear_4 ?_
    refine lv_icmp_ge (tgt := 37) hx hb dX3_anyTwoNear_7 (by decide) (fun c7 => ?_) (fun c7 => ?_)
    · have hM := ifp c7 hM
      obtain ⟨x, hMn, hxe⟩ := mpr hM
      have hX := hX.2 _ hxe
      have hM := hMn
      refine lv_iconst (v := (0 : Int32)) hx hb dX3_anyTwoNear_37 (by decide) ?_
      have hE : res = ((0 : Int32) : Int32) := ((Option.some.inj hM).trans hX).symm
      rw [hQq, hE]
      exact nw_zret rfl rfl hx hb hr hlocks hK hP hD hS dX3_anyTwoNear_38
    · have hM := ifn c7 hM
      refine lv_iload_n hx hb dX3_anyTwoNear_10 rfl (lv_at hl 1 rfl) ?_
      refine lv_iload_n hx hb dX3_anyTwoNear_11 rfl (lv_at hl 2 rfl) ?_
      obtain ⟨t12, hg12, hM⟩ := bd hM
      refine nw_i (wc := []) (wr := [(a_t, .inr (3, [.int v_t_law, .int v_t_boxes, .int v_t_fit, .int v_t_low, .int v_t_high, .ref a_t_sets, .ref a_t_clash, .ref a_t_near])), (a_t_near, .inl (cI, 16, .inl f_t_near))]) (w1 := []) (wf := [(a_t, .inr (3, [.int v_t_law, .int v_t_boxes, .int v_t_fit, .int v_t_low, .int v_t_high, .ref a_t_sets, .ref a_t_clash, .ref a_t_near])), (a_t_near, .inl (cI, 16, .inl f_t_near))]) [] [0, 1] [0, 1] hP hD hS hA rfl rfl rfl (by decide) rfl rfl (nw_runSN (As := [.int p0, .int y2_2]) (rest := []) hfix (c_X8_has l dC dI cI cJ cZ cQ gx  H.size  p0 y2_2 t12 hg12) ⟨va_cnB 2 hts gX3_anyTwoNear_X8_has_n60 rfl rfl rfl (hN.2.2.2.1) (hts (.initialized RX8) (by decide +kernel)) (by decide +kernel) ⟨Nat.le_of_ble_eq_true rfl, Nat.le_of_ble_eq_true rfl⟩, (hts (.static yX8_has) (by decide +kernel)), trivial⟩ hP hD hK hN hS hA hG [] rfl rfl hl.1 rfl rfl (Nat.le_of_ble_eq_true rfl) dX3_anyTwoNear_12 ⟨Nat.zero_le _, Nat.zero_le _⟩) (fun H locs hP hD hS => ?_)
      refine lv_if_eq (tgt := 31) hx hb dX3_anyTwoNear_15 (by decide) (fun c15 => ?_) (fun c15 => ?_)
      · have hM := ifp c15 hM
        refine lv_iinc (v := (y2_2 + (1 : Int32))) (lv' := [(2, .int (y2_2 + (1 : Int32))), (0, .ref a_t), (1, .int p0)]) hx hb dX3_anyTwoNear_31 hl (k := 2) rfl rfl (by decide) rfl (fun ls hl => ?_)
        refine lv_goto (tgt := 2) hx hb dX3_anyTwoNear_34 (by decide) ?_
        have hw := hX.1 _ (Option.some.inj hM).symm
        rw [hW2] at hw
        exact hw H locs ls hP hD hS (lv_sub hl [1, 2, 0] rfl)
      · have hM := ifn c15 hM
        refine lv_aload_n hx hb dX3_anyTwoNear_18 rfl (lv_at hl 0 rfl) ?_
        refine va_get (D := (dC, dI)) (ci := 3) (v := .ref a_t_near) (C := RX3) (T := TX3) (N := 8) hx hb hts in_X3_anyTwoNear_X3 hown hK hP 0 rfl rfl 7 (by decide) (hts (.fieldLink RX3 34 "NoneWithin$LawTable" "near" "[I") (by decide +kernel)) (fun _ h9 => h9) rfl dX3_anyTwoNear_19 ?_
        refine lv_iload_n hx hb dX3_anyTwoNear_22 rfl (lv_at hl 2 rfl) ?_
        obtain ⟨hin, hM⟩ := ixp hM
        refine va_iald hx hb hK hP 1 0 rfl rfl hin dX3_anyTwoNear_23 ?_
        refine lv_iload_n hx hb dX3_anyTwoNear_24 rfl (lv_at hl 1 rfl) ?_
        refine lv_iand hx hb dX3_anyTwoNear_25 ?_
        refine lv_if_eq (tgt := 31) hx hb dX3_anyTwoNear_26 (by decide) (fun c26 => ?_) (fun c26 => ?_)
        · have hM := ifp c26 hM
          refine lv_iinc (v := (y2_2 + (1 : Int32))) (lv' := [(2, .int (y2_2 + (1 : Int32))), (0, .ref a_t), (1, .int p0)]) hx hb dX3_anyTwoNear_31 hl (k := 2) rfl rfl (by decide) rfl (fun ls hl => ?_)
          refine lv_goto (tgt := 2) hx hb dX3_anyTwoNear_34 (by decide) ?_
          have hw := hX.1 _ (Option.some.inj hM).symm
          rw [hW2] at hw
          exact hw H locs ls hP hD hS (lv_sub hl [1, 2, 0] rfl)
        · have hM := ifn c26 hM
          obtain ⟨x, hMn, hxe⟩ := mpr hM
          have hX := hX.2 _ hxe
          have hM := hMn
          refine lv_iconst (v := (1 : Int32)) hx hb dX3_anyTwoNear_29 (by decide) ?_
          have hE : res = ((1 : Int32) : Int32) := ((Option.some.inj hM).trans hX).symm
          rw [hQq, hE]
          exact nw_zret rfl rfl hx hb hr hlocks hK hP hD hS dX3_anyTwoNear_30
  have hw := lp_walk (Wp := fun z => W2 z) (X := fun t => t = res) hst _ _ _ hM hX
  rw [hW2] at hw
  exact hw H locs ls hP hD hS (lv_sub hl [1, 2, 0] rfl)
theorem in_X3_tangled_X3 : ∀ w ∈ wsX30, w ∈ wsX3_tangled := fun _ h => List.mem_cons_of_mem _ (List.mem_append_right _ h)
abbrev rm_X3_tangled : Room := { frames := 2, cells := 0, slots := 0, locals := 43 }
set_option maxHeartbeats 4000000 in
set_option maxRecDepth 100000 in
theorem c_X3_tangled (l : Launch) (dC : Nat → ClassId) (dI : Nat → Nat → Nat) (cI cJ cZ cQ : ClassId) (gx : GX) (a_t a_t_clash a_t_near a_t_sets : Nat) (sz : Nat) (v_t_law : Int32) (v_t_boxes : Int32) (v_t_fit : Int32) (v_t_low : Int32) (v_t_high : Int32) (f_t_clash : (Nat → Int32)) (f_t_near : (Nat → Int32)) (p0 : Int32) (p1 : Int32) (res : Int32) (hM : M_X3_tangled v_t_boxes f_t_clash f_t_near p0 p1 = some res) : Met l yX3_tangled wsX3_tangled rm_X3_tangled (kP dC dI cI cJ cZ cQ gx [.ref a_t, .int p0, .int p1] sz [(a_t, .inr (3, [.int v_t_law, .int v_t_boxes, .int v_t_fit, .int v_t_low, .int v_t_high, .ref a_t_sets, .ref a_t_clash, .ref a_t_near])), (a_t_clash, .inl (cI, 16, .inl f_t_clash)), (a_t_near, .inl (cI, 16, .inl f_t_near))]) (kQi dC dI cI cJ cZ cQ res [(a_t, .inr (3, [.int v_t_law, .int v_t_boxes, .int v_t_fit, .int v_t_low, .int v_t_high, .ref a_t_sets, .ref a_t_clash, .ref a_t_near])), (a_t_clash, .inl (cI, 16, .inl f_t_clash)), (a_t_near, .inl (cI, 16, .inl f_t_near))] (va_A [(a_t, .inr (3, [.int v_t_law, .int v_t_boxes, .int v_t_fit, .int v_t_low, .int v_t_high, .ref a_t_sets, .ref a_t_clash, .ref a_t_near])), (a_t_clash, .inl (cI, 16, .inl f_t_clash)), (a_t_near, .inl (cI, 16, .inl f_t_near))] sz)) 0 0 (va_A [(a_t, .inr (3, [.int v_t_law, .int v_t_boxes, .int v_t_fit, .int v_t_low, .int v_t_high, .ref a_t_sets, .ref a_t_clash, .ref a_t_near])), (a_t_clash, .inl (cI, 16, .inl f_t_clash)), (a_t_near, .inl (cI, 16, .inl f_t_near))] sz) := by
  refine nw_entry (y := yX3_tangled) (ws := wsX3_tangled) (rm := rm_X3_tangled) (sz := sz) (wpre := [(a_t, .inr (3, [.int v_t_law, .int v_t_boxes, .int v_t_fit, .int v_t_low, .int v_t_high, .ref a_t_sets, .ref a_t_clash, .ref a_t_near])), (a_t_clash, .inl (cI, 16, .inl f_t_clash)), (a_t_near, .inl (cI, 16, .inl f_t_near))]) (av := [.ref a_t, .int p0, .int p1]) (Qc := (kQi dC dI cI cJ cZ cQ res [(a_t, .inr (3, [.int v_t_law, .int v_t_boxes, .int v_t_fit, .int v_t_low, .int v_t_high, .ref a_t_sets, .ref a_t_clash, .ref a_t_near])), (a_t_clash, .inl (cI, 16, .inl f_t_clash)), (a_t_near, .inl (cI, 16, .inl f_t_near))])) (cc := cX3_tangled) (own := RX3) [(0, .ref a_t), (1, .int p0), (2, .int p1)] (by decide) rfl rfl (Nat.le_of_ble_eq_true rfl) rfl ?_
  intro p e s m below meth c A ls H locs hfix hr hlocks hin0 hsz0 hP hK hD hA hS hN hG hl
  obtain ⟨hx, hb, hml, hown, hts⟩ := id hfix
  obtain ⟨Qq, hQq⟩ : ∃ Q9, Q9 = (kQi dC dI cI cJ cZ cQ res [(a_t, .inr (3, [.int v_t_law, .int v_t_boxes, .int v_t_fit, .int v_t_low, .int v_t_high, .ref a_t_sets, .ref a_t_clash, .ref a_t_near])), (a_t_clash, .inl (cI, 16, .inl f_t_clash)), (a_t_near, .inl (cI, 16, .inl f_t_near))]) := ⟨_, rfl⟩
  rw [← hQq]
  have hX : res = res := rfl
  have hM : (ix p0 16 (if ((f_t_clash p0.toNatClampNeg) &&& p1) = 0 then (ix p0 16 (Option.bind (M_X3_anyTwoNear v_t_boxes f_t_near ((f_t_near p0.toNatClampNeg) &&& p1)) (fun t20 => if t20 = 0 then (some (0 : Int32)) else (some (1 : Int32))))) else (some (1 : Int32)))) = some res := hM
  refine lv_aload_n hx hb dX3_tangled_0 rfl (lv_at hl 0 rfl) ?_
  refine va_get (D := (dC, dI)) (ci := 3) (v := .ref a_t_clash) (C := RX3) (T := TX3) (N := 8) hx hb hts in_X3_tangled_X3 hown hK hP 0 rfl rfl 6 (by decide) (hts (.fieldLink RX3 31 "NoneWithin$LawTable" "clash" "[I") (by decide +kernel)) (fun _ h9 => h9) rfl dX3_tangled_1 ?_
  refine lv_iload_n hx hb dX3_tangled_4 rfl (lv_at hl 1 rfl) ?_
  obtain ⟨hin, hM⟩ := ixp hM
  refine va_iald hx hb hK hP 1 0 rfl rfl hin dX3_tangled_5 ?_
  refine lv_iload_n hx hb dX3_tangled_6 rfl (lv_at hl 2 rfl) ?_
  refine lv_iand hx hb dX3_tangled_7 ?_
  refine lv_if_ne (tgt := 26) hx hb dX3_tangled_8 (by decide) (fun c8 => ?_) (fun c8 => ?_)
  · have hM := ifn c8 hM
    refine lv_iconst (v := (1 : Int32)) hx hb dX3_tangled_26 (by decide) ?_
    refine lv_goto (tgt := 31) hx hb dX3_tangled_27 (by decide) ?_
    have hE : res = ((1 : Int32) : Int32) := ((Option.some.inj hM).trans hX).symm
    rw [hQq, hE]
    exact nw_zret rfl rfl hx hb hr hlocks hK hP hD hS dX3_tangled_31
  · have hM := ifp c8 hM
    refine lv_aload_n hx hb dX3_tangled_11 rfl (lv_at hl 0 rfl) ?_
    refine lv_aload_n hx hb dX3_tangled_12 rfl (lv_at hl 0 rfl) ?_
    refine va_get (D := (dC, dI)) (ci := 3) (v := .ref a_t_near) (C := RX3) (T := TX3) (N := 8) hx hb hts in_X3_tangled_X3 hown hK hP 0 rfl rfl 7 (by decide) (hts (.fieldLink RX3 34 "NoneWithin$LawTable" "near" "[I") (by decide +kernel)) (fun _ h9 => h9) rfl dX3_tangled_13 ?_
    refine lv_iload_n hx hb dX3_tangled_16 rfl (lv_at hl 1 rfl) ?_
    obtain ⟨hin, hM⟩ := ixp hM
    refine va_iald hx hb hK hP 2 0 rfl rfl hin dX3_tangled_17 ?_
    refine lv_iload_n hx hb dX3_tangled_18 rfl (lv_at hl 2 rfl) ?_
    refine lv_iand hx hb dX3_tangled_19 ?_
    obtain ⟨t20, hg20, hM⟩ := bd hM
    refine nw_i (wc := [(a_t, .inr (3, [.int v_t_law, .int v_t_boxes, .int v_t_fit, .int v_t_low, .int v_t_high, .ref a_t_sets, .ref a_t_clash, .ref a_t_near])), (a_t_near, .inl (cI, 16, .inl f_t_near))]) (wr := [(a_t_clash, .inl (cI, 16, .inl f_t_clash))]) (w1 := [(a_t, .inr (3, [.int v_t_law, .int v_t_boxes, .int v_t_fit, .int v_t_low, .int v_t_high, .ref a_t_sets, .ref a_t_clash, .ref a_t_near])), (a_t_near, .inl (cI, 16, .inl f_t_near))]) (wf := [(a_t, .inr (3, [.int v_t_law, .int v_t_boxes, .int v_t_fit, .int v_t_low, .int v_t_high, .ref a_t_sets, .ref a_t_clash, .ref a_t_near])), (a_t_clash, .inl (cI, 16, .inl f_t_clash)), (a_t_near, .inl (cI, 16, .inl f_t_near))]) [0, 2] [1] [1, 0, 2] hP hD hS hA rfl rfl rfl (by decide) rfl rfl (nw_runV (As := [.int ((f_t_near p0.toNatClampNeg) &&& p1)]) (rest := []) hfix (c_X3_anyTwoNear l dC dI cI cJ cZ cQ gx a_t a_t_near a_t_sets a_t_clash H.size v_t_law v_t_boxes v_t_fit v_t_low v_t_high f_t_near ((f_t_near p0.toNatClampNeg) &&& p1) t20 hg20) (cwV 1 hts gX3_tangled_X3_anyTwoNear rfl rfl rfl (by decide +kernel) ⟨Nat.le_of_ble_eq_true rfl, Nat.le_of_ble_eq_true rfl⟩) hP hD hK hN hS hA hG [0, 2] rfl rfl 0 3 rfl rfl rfl hl.1 rfl rfl (Nat.le_of_ble_eq_true rfl) dX3_tangled_20 ⟨Nat.zero_le _, Nat.zero_le _⟩) (fun H locs hP hD hS => ?_)
    refine lv_if_eq (tgt := 30) hx hb dX3_tangled_23 (by decide) (fun c23 => ?_) (fun c23 => ?_)
    · have hM := ifp c23 hM
      refine lv_iconst (v := (0 : Int32)) hx hb dX3_tangled_30 (by decide) ?_
      have hE : res = ((0 : Int32) : Int32) := ((Option.some.inj hM).trans hX).symm
      rw [hQq, hE]
      exact nw_zret rfl rfl hx hb hr hlocks hK hP hD hS dX3_tangled_31
    · have hM := ifn c23 hM
      refine lv_iconst (v := (1 : Int32)) hx hb dX3_tangled_26 (by decide) ?_
      refine lv_goto (tgt := 31) hx hb dX3_tangled_27 (by decide) ?_
      have hE : res = ((1 : Int32) : Int32) := ((Option.some.inj hM).trans hX).symm
      rw [hQq, hE]
      exact nw_zret rfl rfl hx hb hr hlocks hK hP hD hS dX3_tangled_31
theorem in_X2_search_X2 : ∀ w ∈ wsX20, w ∈ wsX2_search := fun _ h => List.mem_cons_of_mem _ (List.mem_append_left _ (List.mem_append_right _ h))
theorem in_X2_search_X3 : ∀ w ∈ wsX30, w ∈ wsX2_search := fun _ h => List.mem_cons_of_mem _ (List.mem_append_right _ h)
abbrev rm_X2_search (d : Nat) : Room := { frames := 1 * d + 3, cells := 0, slots := 0, locals := 28 * d + 65 }
set_option maxHeartbeats 4000000 in
set_option maxRecDepth 100000 in
theorem c_X2_search : ∀ (d : Nat) (l : Launch) (dC : Nat → ClassId) (dI : Nat → Nat → Nat) (cI cJ cZ cQ : ClassId) (gx : GX) (a_t a_t_table a_t_table_clash a_t_table_near a_t_weights a_t_table_sets : Nat) (sz : Nat) (v_t_best : Int32) (v_t_bits : Int32) (v_t_table_law : Int32) (v_t_table_boxes : Int32) (v_t_table_fit : Int32) (v_t_table_low : Int32) (v_t_table_high : Int32) (f_t_table_clash : (Nat → Int32)) (f_t_table_near : (Nat → Int32)) (f_t_weights : (Nat → Int32)) (p0 : Int32) (p1 : Int32) (p2 : Int32) (p3 : Int32) (res : (Int32 × Int32)) (hM : M_X2_search d v_t_best v_t_bits v_t_table_boxes f_t_table_clash f_t_table_near f_t_weights p0 p1 p2 p3 = some res), Met l yX2_search wsX2_search (rm_X2_search d) (kP dC dI cI cJ cZ cQ gx [.ref a_t, .int p0, .int p1, .int p2, .int p3] sz [(a_t, .inr (2, [.ref a_t_weights, .ref a_t_table, .int v_t_best, .int v_t_bits])), (a_t_table, .inr (3, [.int v_t_table_law, .int v_t_table_boxes, .int v_t_table_fit, .int v_t_table_low, .int v_t_table_high, .ref a_t_table_sets, .ref a_t_table_clash, .ref a_t_table_near])), (a_t_table_clash, .inl (cI, 16, .inl f_t_table_clash)), (a_t_table_near, .inl (cI, 16, .inl f_t_table_near)), (a_t_weights, .inl (cI, 16, .inl f_t_weights))]) (kQv dC dI cI cJ cZ cQ [(a_t, .inr (2, [.ref a_t_weights, .ref a_t_table, .int res.1, .int res.2])), (a_t_table, .inr (3, [.int v_t_table_law, .int v_t_table_boxes, .int v_t_table_fit, .int v_t_table_low, .int v_t_table_high, .ref a_t_table_sets, .ref a_t_table_clash, .ref a_t_table_near])), (a_t_table_clash, .inl (cI, 16, .inl f_t_table_clash)), (a_t_table_near, .inl (cI, 16, .inl f_t_table_near)), (a_t_weights, .inl (cI, 16, .inl f_t_weights))] (va_A [(a_t, .inr (2, [.ref a_t_weights, .ref a_t_table, .int v_t_best, .int v_t_bits])), (a_t_table, .inr (3, [.int v_t_table_law, .int v_t_table_boxes, .int v_t_table_fit, .int v_t_table_low, .int v_t_table_high, .ref a_t_table_sets, .ref a_t_table_clash, .ref a_t_table_near])), (a_t_table_clash, .inl (cI, 16, .inl f_t_table_clash)), (a_t_table_near, .inl (cI, 16, .inl f_t_table_near)), (a_t_weights, .inl (cI, 16, .inl f_t_weights))] sz)) 0 0 (va_A [(a_t, .inr (2, [.ref a_t_weights, .ref a_t_table, .int v_t_best, .int v_t_bits])), (a_t_table, .inr (3, [.int v_t_table_law, .int v_t_table_boxes, .int v_t_table_fit, .int v_t_table_low, .int v_t_table_high, .ref a_t_table_sets, .ref a_t_table_clash, .ref a_t_table_near])), (a_t_table_clash, .inl (cI, 16, .inl f_t_table_clash)), (a_t_table_near, .inl (cI, 16, .inl f_t_table_near)), (a_t_weights, .inl (cI, 16, .inl f_t_weights))] sz) := by
  intro d
  induction d with
  | zero => intro l dC dI cI cJ cZ cQ gx a_t a_t_table a_t_table_clash a_t_table_near a_t_weights a_t_table_sets sz v_t_best v_t_bits v_t_table_law v_t_table_boxes v_t_table_fit v_t_table_low v_t_table_high f_t_table_clash f_t_table_near f_t_weights p0 p1 p2 p3 res hM; cases hM
  | succ d ih_ =>
  intro l dC dI cI cJ cZ cQ gx a_t a_t_table a_t_table_clash a_t_table_near a_t_weights a_t_table_sets sz v_t_best v_t_bits v_t_table_law v_t_table_boxes v_t_table_fit v_t_table_low v_t_table_high f_t_table_clash f_t_table_near f_t_weights p0 p1 p2 p3 res hM
  have hfr : (rm_X2_search d).frames + 1 ≤ (rm_X2_search (d + 1)).frames := by show 1 * d + 3 + 1 ≤ 1 * (d + 1) + 3; omega
  have hlo : 8 + (9 + 11) + (rm_X2_search d).locals ≤ (rm_X2_search (d + 1)).locals := by show 8 + (9 + 11) + (28 * d + 65) ≤ 28 * (d + 1) + 65; omega
  refine nw_entry (y := yX2_search) (ws := wsX2_search) (rm := (rm_X2_search (d + 1))) (sz := sz) (wpre := [(a_t, .inr (2, [.ref a_t_weights, .ref a_t_table, .int v_t_best, .int v_t_bits])), (a_t_table, .inr (3, [.int v_t_table_law, .int v_t_table_boxes, .int v_t_table_fit, .int v_t_table_low, .int v_t_table_high, .ref a_t_table_sets, .ref a_t_table_clash, .ref a_t_table_near])), (a_t_table_clash, .inl (cI, 16, .inl f_t_table_clash)), (a_t_table_near, .inl (cI, 16, .inl f_t_table_near)), (a_t_weights, .inl (cI, 16, .inl f_t_weights))]) (av := [.ref a_t, .int p0, .int p1, .int p2, .int p3]) (Qc := (kQv dC dI cI cJ cZ cQ [(a_t, .inr (2, [.ref a_t_weights, .ref a_t_table, .int res.1, .int res.2])), (a_t_table, .inr (3, [.int v_t_table_law, .int v_t_table_boxes, .int v_t_table_fit, .int v_t_table_low, .int v_t_table_high, .ref a_t_table_sets, .ref a_t_table_clash, .ref a_t_table_near])), (a_t_table_clash, .inl (cI, 16, .inl f_t_table_clash)), (a_t_table_near, .inl (cI, 16, .inl f_t_table_near)), (a_t_weights, .inl (cI, 16, .inl f_t_weights))])) (cc := cX2_search) (own := RX2) [(0, .ref a_t), (1, .int p0), (2, .int p1), (3, .int p2), (4, .int p3)] (by decide) rfl rfl (Nat.le_of_ble_eq_true rfl) rfl ?_
  intro p e s m below meth c A ls H locs hfix hr hlocks hin0 hsz0 hP hK hD hA hS hN hG hl
  obtain ⟨hx, hb, hml, hown, hts⟩ := id hfix
  obtain ⟨Qq, hQq⟩ : ∃ Q9, Q9 = (kQv dC dI cI cJ cZ cQ [(a_t, .inr (2, [.ref a_t_weights, .ref a_t_table, .int res.1, .int res.2])), (a_t_table, .inr (3, [.int v_t_table_law, .int v_t_table_boxes, .int v_t_table_fit, .int v_t_table_low, .int v_t_table_high, .ref a_t_table_sets, .ref a_t_table_clash, .ref a_t_table_near])), (a_t_table_clash, .inl (cI, 16, .inl f_t_table_clash)), (a_t_table_near, .inl (cI, 16, .inl f_t_table_near)), (a_t_weights, .inl (cI, 16, .inl f_t_weights))]) := ⟨_, rfl⟩
  rw [← hQq]
  have hX : res = res := rfl
  have J69 : ∀ (x : (Int32 × Int32)) (x69_5 : Int32) (x69_6 : Int32) (x69_v_t_best : Int32) (x69_v_t_bits : Int32) (H : Heap) (locs : List Loc) (ls : Array Slot), B_X2_search_69 (M_X2_search d) p2 p3 x69_5 x69_6 x69_v_t_best x69_v_t_bits v_t_table_boxes f_t_table_clash f_t_table_near f_t_weights = some x → x = res → va_P (dC, dI) classes [(a_t, .inr (2, [.ref a_t_weights, .ref a_t_table, .int x69_v_t_best, .int x69_v_t_bits])), (a_t_table, .inr (3, [.int v_t_table_law, .int v_t_table_boxes, .int v_t_table_fit, .int v_t_table_low, .int v_t_table_high, .ref a_t_table_sets, .ref a_t_table_clash, .ref a_t_table_near])), (a_t_table_clash, .inl (cI, 16, .inl f_t_table_clash)), (a_t_table_near, .inl (cI, 16, .inl f_t_table_near)), (a_t_weights, .inl (cI, 16, .inl f_t_weights))] H → va_D A [(a_t, .inr (2, [.ref a_t_weights, .ref a_t_table, .int x69_v_t_best, .int x69_v_t_bits])), (a_t_table, .inr (3, [.int v_t_table_law, .int v_t_table_boxes, .int v_t_table_fit, .int v_t_table_low, .int v_t_table_high, .ref a_t_table_sets, .ref a_t_table_clash, .ref a_t_table_near])), (a_t_table_clash, .inl (cI, 16, .inl f_t_table_clash)), (a_t_table_near, .inl (cI, 16, .inl f_t_table_near)), (a_t_weights, .inl (cI, 16, .inl f_t_weights))] → va_S A s.heap H locs → lv_has ls 9 [(0, .ref a_t), (3, .int p2), (4, .int p3), (5, .int x69_5), (6, .int x69_6)] → W p l e (rm_X2_search (d + 1)) s m ([.ref a_t, .int p0, .int p1, .int p2, .int p3] : List Value).toArray below meth c H locs 0 0 (MQ below (Qq A) ([.ref a_t, .int p0, .int p1, .int p2, .int p3] : List Value).toArray s 0 0 A) (F0 m 69 ls []) := by
    intro x x69_5 x69_6 x69_v_t_best x69_v_t_bits H locs ls hM hX hP hD hS hl
    have hM : (if x69_5 < v_t_table_boxes then (Option.bind (M_X3_barredBy v_t_table_boxes f_t_table_clash f_t_table_near x69_5 x69_6) (fun t119 => Option.bind (M_X2_weigh v_t_table_boxes f_t_weights (((p2 &&& (x69_6 ^^^ (-1 : Int32))) &&& (((1 : Int32) <<< (x69_5 &&& 31)) ^^^ (-1 : Int32))) &&& t119)) (fun t149 => Option.bind ((M_X2_search d) x69_v_t_best x69_v_t_bits v_t_table_boxes f_t_table_clash f_t_table_near f_t_weights (x69_5 + (1 : Int32)) (x69_6 ||| ((1 : Int32) <<< (x69_5 &&& 31))) (((p2 &&& (x69_6 ^^^ (-1 : Int32))) &&& (((1 : Int32) <<< (x69_5 &&& 31)) ^^^ (-1 : Int32))) &&& ((((p2 &&& (x69_6 ^^^ (-1 : Int32))) &&& (((1 : Int32) <<< (x69_5 &&& 31)) ^^^ (-1 : Int32))) &&& t119) ^^^ (-1 : Int32))) (p3 - t149)) (fun t153 => ix x69_5 16 (Option.bind ((M_X2_search d) t153.1 t153.2 v_t_table_boxes f_t_table_clash f_t_table_near f_t_weights (x69_5 + (1 : Int32)) x69_6 ((p2 &&& (x69_6 ^^^ (-1 : Int32))) &&& (((1 : Int32) <<< (x69_5 &&& 31)) ^^^ (-1 : Int32))) (p3 - (f_t_weights x69_5.toNatClampNeg))) (fun t175 => some (t175.1, t175.2))))))) else (some (p3, x69_6))) = some x := hM
    refine lv_iload hx hb dX2_search_69 (lv_at hl 3 rfl) ?_
    refine lv_aload_n hx hb dX2_search_71 rfl (lv_at hl 0 rfl) ?_
    refine va_get (D := (dC, dI)) (ci := 2) (v := .ref a_t_table) (C := RX2) (T := TX2) (N := 4) hx hb hts in_X2_search_X2 hown hK hP 0 rfl rfl 1 (by decide) (hts (.fieldLink RX2 22 "NoneWithin$Keeper" "table" "LNoneWithin$LawTable;") (by decide +kernel)) (fun _ h9 => h9) rfl dX2_search_72 ?_
    refine va_get (D := (dC, dI)) (ci := 3) (v := .int v_t_table_boxes) (C := RX3) (T := TX3) (N := 8) hx hb hts in_X2_search_X3 hown hK hP 1 rfl rfl 1 (by decide) (hts (.fieldLink RX2 51 "NoneWithin$LawTable" "boxes" "I") (by decide +kernel)) (fun _ h9 => h9) rfl dX2_search_75 ?_
    refine lv_icmp_lt (tgt := 94) hx hb dX2_search_78 (by decide) (fun c78 => ?_) (fun c78 => ?_)
    · have hM := ifp c78 hM
      refine lv_iload_n hx hb dX2_search_94 rfl (lv_at hl 1 rfl) ?_
      refine lv_iload hx hb dX2_search_95 (lv_at hl 4 rfl) ?_
      refine lv_iconst (v := (-1 : Int32)) hx hb dX2_search_97 (by decide) ?_
      refine lv_ixor hx hb dX2_search_98 ?_
      refine lv_iand hx hb dX2_search_99 ?_
      refine lv_iconst (v := (1 : Int32)) hx hb dX2_search_100 (by decide) ?_
      refine lv_iload hx hb dX2_search_101 (lv_at hl 3 rfl) ?_
      refine lv_ishl hx hb dX2_search_103 ?_
      refine lv_iconst (v := (-1 : Int32)) hx hb dX2_search_104 (by decide) ?_
      refine lv_ixor hx hb dX2_search_105 ?_
      refine lv_iand hx hb dX2_search_106 ?_
      refine lv_istore (lv' := [(7, .int ((p2 &&& (x69_6 ^^^ (-1 : Int32))) &&& (((1 : Int32) <<< (x69_5 &&& 31)) ^^^ (-1 : Int32)))), (0, .ref a_t), (3, .int p2), (4, .int p3), (5, .int x69_5), (6, .int x69_6)]) hx hb dX2_search_107 hl (by decide) rfl (fun ls hl => ?_)
      refine lv_iload hx hb dX2_search_109 (lv_at hl 0 rfl) ?_
      refine lv_aload_n hx hb dX2_search_111 rfl (lv_at hl 1 rfl) ?_
      refine va_get (D := (dC, dI)) (ci := 2) (v := .ref a_t_table) (C := RX2) (T := TX2) (N := 4) hx hb hts in_X2_search_X2 hown hK hP 0 rfl rfl 1 (by decide) (hts (.fieldLink RX2 22 "NoneWithin$Keeper" "table" "LNoneWithin$LawTable;") (by decide +kernel)) (fun _ h9 => h9) rfl dX2_search_112 ?_
      refine lv_iload hx hb dX2_search_115 (lv_at hl 4 rfl) ?_
      refine lv_iload hx hb dX2_search_117 (lv_at hl 5 rfl) ?_
      obtain ⟨t119, hg119, hM⟩ := bd hM
      refine nw_i (wc := [(a_t_table, .inr (3, [.int v_t_table_law, .int v_t_table_boxes, .int v_t_table_fit, .int v_t_table_low, .int v_t_table_high, .ref a_t_table_sets, .ref a_t_table_clash, .ref a_t_table_near])), (a_t_table_clash, .inl (cI, 16, .inl f_t_table_clash)), (a_t_table_near, .inl (cI, 16, .inl f_t_table_near))]) (wr := [(a_t, .inr (2, [.ref a_t_weights, .ref a_t_table, .int x69_v_t_best, .int x69_v_t_bits])), (a_t_weights, .inl (cI, 16, .inl f_t_weights))]) (w1 := [(a_t_table, .inr (3, [.int v_t_table_law, .int v_t_table_boxes, .int v_t_table_fit, .int v_t_table_low, .int v_t_table_high, .ref a_t_table_sets, .ref a_t_table_clash, .ref a_t_table_near])), (a_t_table_clash, .inl (cI, 16, .inl f_t_table_clash)), (a_t_table_near, .inl (cI, 16, .inl f_t_table_near))]) (wf := [(a_t, .inr (2, [.ref a_t_weights, .ref a_t_table, .int x69_v_t_best, .int x69_v_t_bits])), (a_t_table, .inr (3, [.int v_t_table_law, .int v_t_table_boxes, .int v_t_table_fit, .int v_t_table_low, .int v_t_table_high, .ref a_t_table_sets, .ref a_t_table_clash, .ref a_t_table_near])), (a_t_table_clash, .inl (cI, 16, .inl f_t_table_clash)), (a_t_table_near, .inl (cI, 16, .inl f_t_table_near)), (a_t_weights, .inl (cI, 16, .inl f_t_weights))]) [1, 2, 3] [0, 4] [0, 2, 3, 4, 1] hP hD hS hA rfl rfl rfl (by decide) rfl rfl (nw_runV (As := [.int x69_5, .int x69_6]) (rest := [.int ((p2 &&& (x69_6 ^^^ (-1 : Int32))) &&& (((1 : Int32) <<< (x69_5 &&& 31)) ^^^ (-1 : Int32)))]) hfix (c_X3_barredBy l dC dI cI cJ cZ cQ gx a_t_table a_t_table_clash a_t_table_near a_t_table_sets H.size v_t_table_law v_t_table_boxes v_t_table_fit v_t_table_low v_t_table_high f_t_table_clash f_t_table_near x69_5 x69_6 t119 hg119) (cwV 2 hts gX2_search_X3_barredBy rfl rfl rfl (by decide +kernel) ⟨Nat.le_of_ble_eq_true rfl, Nat.le_of_ble_eq_true rfl⟩) hP hD hK hN hS hA hG [1, 2, 3] rfl rfl 1 3 rfl rfl rfl hl.1 rfl rfl (Nat.le_of_ble_eq_true rfl) dX2_search_119 ⟨Nat.zero_le _, Nat.zero_le _⟩) (fun H locs hP hD hS => ?_)
      refine lv_iand hx hb dX2_search_122 ?_
      refine lv_istore (lv' := [(8, .int (((p2 &&& (x69_6 ^^^ (-1 : Int32))) &&& (((1 : Int32) <<< (x69_5 &&& 31)) ^^^ (-1 : Int32))) &&& t119)), (7, .int ((p2 &&& (x69_6 ^^^ (-1 : Int32))) &&& (((1 : Int32) <<< (x69_5 &&& 31)) ^^^ (-1 : Int32)))), (0, .ref a_t), (3, .int p2), (4, .int p3), (5, .int x69_5), (6, .int x69_6)]) hx hb dX2_search_123 hl (by decide) rfl (fun ls hl => ?_)
      refine lv_aload_n hx hb dX2_search_125 rfl (lv_at hl 2 rfl) ?_
      refine lv_iload hx hb dX2_search_126 (lv_at hl 5 rfl) ?_
      refine lv_iconst (v := (1 : Int32)) hx hb dX2_search_128 (by decide) ?_
      refine lv_iadd hx hb dX2_search_129 ?_
      refine lv_iload hx hb dX2_search_130 (lv_at hl 6 rfl) ?_
      refine lv_iconst (v := (1 : Int32)) hx hb dX2_search_132 (by decide) ?_
      refine lv_iload hx hb dX2_search_133 (lv_at hl 5 rfl) ?_
      refine lv_ishl hx hb dX2_search_135 ?_
      refine lv_ior hx hb dX2_search_136 ?_
      refine lv_iload hx hb dX2_search_137 (lv_at hl 1 rfl) ?_
      refine lv_iload hx hb dX2_search_139 (lv_at hl 0 rfl) ?_
      refine lv_iconst (v := (-1 : Int32)) hx hb dX2_search_141 (by decide) ?_
      refine lv_ixor hx hb dX2_search_142 ?_
      refine lv_iand hx hb dX2_search_143 ?_
      refine lv_iload hx hb dX2_search_144 (lv_at hl 4 rfl) ?_
      refine lv_aload_n hx hb dX2_search_146 rfl (lv_at hl 2 rfl) ?_
      refine lv_iload hx hb dX2_search_147 (lv_at hl 0 rfl) ?_
      obtain ⟨t149, hg149, hM⟩ := bd hM
      refine nw_i (wc := [(a_t, .inr (2, [.ref a_t_weights, .ref a_t_table, .int x69_v_t_best, .int x69_v_t_bits])), (a_t_table, .inr (3, [.int v_t_table_law, .int v_t_table_boxes, .int v_t_table_fit, .int v_t_table_low, .int v_t_table_high, .ref a_t_table_sets, .ref a_t_table_clash, .ref a_t_table_near])), (a_t_weights, .inl (cI, 16, .inl f_t_weights))]) (wr := [(a_t_table_clash, .inl (cI, 16, .inl f_t_table_clash)), (a_t_table_near, .inl (cI, 16, .inl f_t_table_near))]) (w1 := [(a_t, .inr (2, [.ref a_t_weights, .ref a_t_table, .int x69_v_t_best, .int x69_v_t_bits])), (a_t_table, .inr (3, [.int v_t_table_law, .int v_t_table_boxes, .int v_t_table_fit, .int v_t_table_low, .int v_t_table_high, .ref a_t_table_sets, .ref a_t_table_clash, .ref a_t_table_near])), (a_t_weights, .inl (cI, 16, .inl f_t_weights))]) (wf := [(a_t, .inr (2, [.ref a_t_weights, .ref a_t_table, .int x69_v_t_best, .int x69_v_t_bits])), (a_t_table, .inr (3, [.int v_t_table_law, .int v_t_table_boxes, .int v_t_table_fit, .int v_t_table_low, .int v_t_table_high, .ref a_t_table_sets, .ref a_t_table_clash, .ref a_t_table_near])), (a_t_table_clash, .inl (cI, 16, .inl f_t_table_clash)), (a_t_table_near, .inl (cI, 16, .inl f_t_table_near)), (a_t_weights, .inl (cI, 16, .inl f_t_weights))]) [0, 1, 4] [2, 3] [2, 3, 0, 1, 4] hP hD hS hA rfl rfl rfl (by decide) rfl rfl (nw_runV (As := [.int (((p2 &&& (x69_6 ^^^ (-1 : Int32))) &&& (((1 : Int32) <<< (x69_5 &&& 31)) ^^^ (-1 : Int32))) &&& t119)]) (rest := [.int p3, .int (((p2 &&& (x69_6 ^^^ (-1 : Int32))) &&& (((1 : Int32) <<< (x69_5 &&& 31)) ^^^ (-1 : Int32))) &&& ((((p2 &&& (x69_6 ^^^ (-1 : Int32))) &&& (((1 : Int32) <<< (x69_5 &&& 31)) ^^^ (-1 : Int32))) &&& t119) ^^^ (-1 : Int32))), .int (x69_6 ||| ((1 : Int32) <<< (x69_5 &&& 31))), .int (x69_5 + (1 : Int32)), .ref a_t]) hfix (c_X2_weigh l dC dI cI cJ cZ cQ gx a_t a_t_table a_t_weights a_t_table_sets a_t_table_clash a_t_table_near H.size x69_v_t_best x69_v_t_bits v_t_table_law v_t_table_boxes v_t_table_fit v_t_table_low v_t_table_high f_t_weights (((p2 &&& (x69_6 ^^^ (-1 : Int32))) &&& (((1 : Int32) <<< (x69_5 &&& 31)) ^^^ (-1 : Int32))) &&& t119) t149 hg149) (cwV 1 hts gX2_search_X2_weigh rfl rfl rfl (by decide +kernel) ⟨Nat.le_of_ble_eq_true rfl, Nat.le_of_ble_eq_true rfl⟩) hP hD hK hN hS hA hG [0, 1, 4] rfl rfl 0 2 rfl rfl rfl hl.1 rfl rfl (Nat.le_of_ble_eq_true rfl) dX2_search_149 ⟨Nat.zero_le _, Nat.zero_le _⟩) (fun H locs hP hD hS => ?_)
      refine lv_isub hx hb dX2_search_152 ?_
      obtain ⟨t153, hg153, hM⟩ := bd hM
      refine nw_v (wc := [(a_t, .inr (2, [.ref a_t_weights, .ref a_t_table, .int x69_v_t_best, .int x69_v_t_bits])), (a_t_table, .inr (3, [.int v_t_table_law, .int v_t_table_boxes, .int v_t_table_fit, .int v_t_table_low, .int v_t_table_high, .ref a_t_table_sets, .ref a_t_table_clash, .ref a_t_table_near])), (a_t_table_clash, .inl (cI, 16, .inl f_t_table_clash)), (a_t_table_near, .inl (cI, 16, .inl f_t_table_near)), (a_t_weights, .inl (cI, 16, .inl f_t_weights))]) (wr := []) (w1 := [(a_t, .inr (2, [.ref a_t_weights, .ref a_t_table, .int t153.1, .int t153.2])), (a_t_table, .inr (3, [.int v_t_table_law, .int v_t_table_boxes, .int v_t_table_fit, .int v_t_table_low, .int v_t_table_high, .ref a_t_table_sets, .ref a_t_table_clash, .ref a_t_table_near])), (a_t_table_clash, .inl (cI, 16, .inl f_t_table_clash)), (a_t_table_near, .inl (cI, 16, .inl f_t_table_near)), (a_t_weights, .inl (cI, 16, .inl f_t_weights))]) (wf := [(a_t, .inr (2, [.ref a_t_weights, .ref a_t_table, .int t153.1, .int t153.2])), (a_t_table, .inr (3, [.int v_t_table_law, .int v_t_table_boxes, .int v_t_table_fit, .int v_t_table_low, .int v_t_table_high, .ref a_t_table_sets, .ref a_t_table_clash, .ref a_t_table_near])), (a_t_table_clash, .inl (cI, 16, .inl f_t_table_clash)), (a_t_table_near, .inl (cI, 16, .inl f_t_table_near)), (a_t_weights, .inl (cI, 16, .inl f_t_weights))]) [0, 1, 2, 3, 4] [] [0, 1, 2, 3, 4] hP hD hS hA rfl rfl rfl (by decide) rfl rfl (nw_runV (As := [.int (x69_5 + (1 : Int32)), .int (x69_6 ||| ((1 : Int32) <<< (x69_5 &&& 31))), .int (((p2 &&& (x69_6 ^^^ (-1 : Int32))) &&& (((1 : Int32) <<< (x69_5 &&& 31)) ^^^ (-1 : Int32))) &&& ((((p2 &&& (x69_6 ^^^ (-1 : Int32))) &&& (((1 : Int32) <<< (x69_5 &&& 31)) ^^^ (-1 : Int32))) &&& t119) ^^^ (-1 : Int32))), .int (p3 - t149)]) (rest := []) hfix (ih_ l dC dI cI cJ cZ cQ gx a_t a_t_table a_t_table_clash a_t_table_near a_t_weights a_t_table_sets H.size x69_v_t_best x69_v_t_bits v_t_table_law v_t_table_boxes v_t_table_fit v_t_table_low v_t_table_high f_t_table_clash f_t_table_near f_t_weights (x69_5 + (1 : Int32)) (x69_6 ||| ((1 : Int32) <<< (x69_5 &&& 31))) (((p2 &&& (x69_6 ^^^ (-1 : Int32))) &&& (((1 : Int32) <<< (x69_5 &&& 31)) ^^^ (-1 : Int32))) &&& ((((p2 &&& (x69_6 ^^^ (-1 : Int32))) &&& (((1 : Int32) <<< (x69_5 &&& 31)) ^^^ (-1 : Int32))) &&& t119) ^^^ (-1 : Int32))) (p3 - t149) t153 hg153) (cwV 4 hts gX2_search_X2_search rfl rfl rfl (by decide +kernel) ⟨hfr, hlo⟩) hP hD hK hN hS hA hG [0, 1, 2, 3, 4] rfl rfl 0 2 rfl rfl rfl hl.1 rfl rfl (Nat.le_of_ble_eq_true rfl) dX2_search_153 ⟨Nat.zero_le _, Nat.zero_le _⟩) (fun H locs hP hD hS => ?_)
      refine lv_aload_n hx hb dX2_search_156 rfl (lv_at hl 2 rfl) ?_
      refine lv_iload hx hb dX2_search_157 (lv_at hl 5 rfl) ?_
      refine lv_iconst (v := (1 : Int32)) hx hb dX2_search_159 (by decide) ?_
      refine lv_iadd hx hb dX2_search_160 ?_
      refine lv_iload hx hb dX2_search_161 (lv_at hl 6 rfl) ?_
      refine lv_iload hx hb dX2_search_163 (lv_at hl 1 rfl) ?_
      refine lv_iload hx hb dX2_search_165 (lv_at hl 4 rfl) ?_
      refine lv_aload_n hx hb dX2_search_167 rfl (lv_at hl 2 rfl) ?_
      refine va_get (D := (dC, dI)) (ci := 2) (v := .ref a_t_weights) (C := RX2) (T := TX2) (N := 4) hx hb hts in_X2_search_X2 hown hK hP 0 rfl rfl 0 (by decide) (hts (.fieldLink RX2 9 "NoneWithin$Keeper" "weights" "[I") (by decide +kernel)) (fun _ h9 => h9) rfl dX2_search_168 ?_
      refine lv_iload hx hb dX2_search_171 (lv_at hl 5 rfl) ?_
      obtain ⟨hin, hM⟩ := ixp hM
      refine va_iald hx hb hK hP 4 0 rfl rfl hin dX2_search_173 ?_
      refine lv_isub hx hb dX2_search_174 ?_
      obtain ⟨t175, hg175, hM⟩ := bd hM
      refine nw_v (wc := [(a_t, .inr (2, [.ref a_t_weights, .ref a_t_table, .int t153.1, .int t153.2])), (a_t_table, .inr (3, [.int v_t_table_law, .int v_t_table_boxes, .int v_t_table_fit, .int v_t_table_low, .int v_t_table_high, .ref a_t_table_sets, .ref a_t_table_clash, .ref a_t_table_near])), (a_t_table_clash, .inl (cI, 16, .inl f_t_table_clash)), (a_t_table_near, .inl (cI, 16, .inl f_t_table_near)), (a_t_weights, .inl (cI, 16, .inl f_t_weights))]) (wr := []) (w1 := [(a_t, .inr (2, [.ref a_t_weights, .ref a_t_table, .int t175.1, .int t175.2])), (a_t_table, .inr (3, [.int v_t_table_law, .int v_t_table_boxes, .int v_t_table_fit, .int v_t_table_low, .int v_t_table_high, .ref a_t_table_sets, .ref a_t_table_clash, .ref a_t_table_near])), (a_t_table_clash, .inl (cI, 16, .inl f_t_table_clash)), (a_t_table_near, .inl (cI, 16, .inl f_t_table_near)), (a_t_weights, .inl (cI, 16, .inl f_t_weights))]) (wf := [(a_t, .inr (2, [.ref a_t_weights, .ref a_t_table, .int t175.1, .int t175.2])), (a_t_table, .inr (3, [.int v_t_table_law, .int v_t_table_boxes, .int v_t_table_fit, .int v_t_table_low, .int v_t_table_high, .ref a_t_table_sets, .ref a_t_table_clash, .ref a_t_table_near])), (a_t_table_clash, .inl (cI, 16, .inl f_t_table_clash)), (a_t_table_near, .inl (cI, 16, .inl f_t_table_near)), (a_t_weights, .inl (cI, 16, .inl f_t_weights))]) [0, 1, 2, 3, 4] [] [0, 1, 2, 3, 4] hP hD hS hA rfl rfl rfl (by decide) rfl rfl (nw_runV (As := [.int (x69_5 + (1 : Int32)), .int x69_6, .int ((p2 &&& (x69_6 ^^^ (-1 : Int32))) &&& (((1 : Int32) <<< (x69_5 &&& 31)) ^^^ (-1 : Int32))), .int (p3 - (f_t_weights x69_5.toNatClampNeg))]) (rest := []) hfix (ih_ l dC dI cI cJ cZ cQ gx a_t a_t_table a_t_table_clash a_t_table_near a_t_weights a_t_table_sets H.size t153.1 t153.2 v_t_table_law v_t_table_boxes v_t_table_fit v_t_table_low v_t_table_high f_t_table_clash f_t_table_near f_t_weights (x69_5 + (1 : Int32)) x69_6 ((p2 &&& (x69_6 ^^^ (-1 : Int32))) &&& (((1 : Int32) <<< (x69_5 &&& 31)) ^^^ (-1 : Int32))) (p3 - (f_t_weights x69_5.toNatClampNeg)) t175 hg175) (cwV 4 hts gX2_search_X2_search rfl rfl rfl (by decide +kernel) ⟨hfr, hlo⟩) hP hD hK hN hS hA hG [0, 1, 2, 3, 4] rfl rfl 0 2 rfl rfl rfl hl.1 rfl rfl (Nat.le_of_ble_eq_true rfl) dX2_search_175 ⟨Nat.zero_le _, Nat.zero_le _⟩) (fun H locs hP hD hS => ?_)
      have hE : res = ((t175.1, t175.2) : (Int32 × Int32)) := ((Option.some.inj hM).trans hX).symm
      rw [hQq, hE]
      exact nw_vret hx hb hr hlocks hK hP hD hS dX2_search_178
    · have hM := ifn c78 hM
      refine lv_aload_n hx hb dX2_search_81 rfl (lv_at hl 0 rfl) ?_
      refine lv_iload hx hb dX2_search_82 (lv_at hl 2 rfl) ?_
      refine va_put (D := (dC, dI)) (ci := 2) (v := .int p3) (ty := .int) (C := RX2) (T := TX2) (N := 4) hx hb hts in_X2_search_X2 tyX2 tyX2_ok nmX2 hown hK hP hD hS 0 rfl rfl 2 (by decide) (hts (.fieldLink RX2 15 "NoneWithin$Keeper" "best" "I") (by decide +kernel)) (fun _ h9 => h9) rfl (by decide +kernel) rfl rfl (Nat.le_of_ble_eq_true rfl) dX2_search_84 (fun H locs hP hD hS => ?_)
      have hP : va_P (dC, dI) classes [(a_t, .inr (2, [.ref a_t_weights, .ref a_t_table, .int p3, .int x69_v_t_bits])), (a_t_table, .inr (3, [.int v_t_table_law, .int v_t_table_boxes, .int v_t_table_fit, .int v_t_table_low, .int v_t_table_high, .ref a_t_table_sets, .ref a_t_table_clash, .ref a_t_table_near])), (a_t_table_clash, .inl (cI, 16, .inl f_t_table_clash)), (a_t_table_near, .inl (cI, 16, .inl f_t_table_near)), (a_t_weights, .inl (cI, 16, .inl f_t_weights))] H := hP
      have hD : va_D A [(a_t, .inr (2, [.ref a_t_weights, .ref a_t_table, .int p3, .int x69_v_t_bits])), (a_t_table, .inr (3, [.int v_t_table_law, .int v_t_table_boxes, .int v_t_table_fit, .int v_t_table_low, .int v_t_table_high, .ref a_t_table_sets, .ref a_t_table_clash, .ref a_t_table_near])), (a_t_table_clash, .inl (cI, 16, .inl f_t_table_clash)), (a_t_table_near, .inl (cI, 16, .inl f_t_table_near)), (a_t_weights, .inl (cI, 16, .inl f_t_weights))] := hD
      refine lv_aload_n hx hb dX2_search_87 rfl (lv_at hl 0 rfl) ?_
      refine lv_iload hx hb dX2_search_88 (lv_at hl 4 rfl) ?_
      refine va_put (D := (dC, dI)) (ci := 2) (v := .int x69_6) (ty := .int) (C := RX2) (T := TX2) (N := 4) hx hb hts in_X2_search_X2 tyX2 tyX2_ok nmX2 hown hK hP hD hS 0 rfl rfl 3 (by decide) (hts (.fieldLink RX2 19 "NoneWithin$Keeper" "bits" "I") (by decide +kernel)) (fun _ h9 => h9) rfl (by decide +kernel) rfl rfl (Nat.le_of_ble_eq_true rfl) dX2_search_90 (fun H locs hP hD hS => ?_)
      have hP : va_P (dC, dI) classes [(a_t, .inr (2, [.ref a_t_weights, .ref a_t_table, .int p3, .int x69_6])), (a_t_table, .inr (3, [.int v_t_table_law, .int v_t_table_boxes, .int v_t_table_fit, .int v_t_table_low, .int v_t_table_high, .ref a_t_table_sets, .ref a_t_table_clash, .ref a_t_table_near])), (a_t_table_clash, .inl (cI, 16, .inl f_t_table_clash)), (a_t_table_near, .inl (cI, 16, .inl f_t_table_near)), (a_t_weights, .inl (cI, 16, .inl f_t_weights))] H := hP
      have hD : va_D A [(a_t, .inr (2, [.ref a_t_weights, .ref a_t_table, .int p3, .int x69_6])), (a_t_table, .inr (3, [.int v_t_table_law, .int v_t_table_boxes, .int v_t_table_fit, .int v_t_table_low, .int v_t_table_high, .ref a_t_table_sets, .ref a_t_table_clash, .ref a_t_table_near])), (a_t_table_clash, .inl (cI, 16, .inl f_t_table_clash)), (a_t_table_near, .inl (cI, 16, .inl f_t_table_near)), (a_t_weights, .inl (cI, 16, .inl f_t_weights))] := hD
      have hE : res = ((p3, x69_6) : (Int32 × Int32)) := ((Option.some.inj hM).trans hX).symm
      rw [hQq, hE]
      exact nw_vret hx hb hr hlocks hK hP hD hS dX2_search_93
  have hM : (if v_t_best < p3 then (lpN (fun z => L_X2_search_16 (M_X2_search d) p1 p2 p3 v_t_best v_t_bits v_t_table_boxes f_t_table_clash f_t_table_near f_t_weights z.1 z.2) fuelK (p0, p1)) else (some (v_t_best, v_t_bits))) = some res := hM
  refine lv_iload hx hb dX2_search_0 (lv_at hl 4 rfl) ?_
  refine lv_aload_n hx hb dX2_search_2 rfl (lv_at hl 0 rfl) ?_
  refine va_get (D := (dC, dI)) (ci := 2) (v := .int v_t_best) (C := RX2) (T := TX2) (N := 4) hx hb hts in_X2_search_X2 hown hK hP 0 rfl rfl 2 (by decide) (hts (.fieldLink RX2 15 "NoneWithin$Keeper" "best" "I") (by decide +kernel)) (fun _ h9 => h9) rfl dX2_search_3 ?_
  refine lv_icmp_gt (tgt := 10) hx hb dX2_search_6 (by decide) (fun c6 => ?_) (fun c6 => ?_)
  · have hM := ifp c6 hM
    refine lv_iload_n hx hb dX2_search_10 rfl (lv_at hl 1 rfl) ?_
    refine lv_istore (lv' := [(5, .int p0), (0, .ref a_t), (1, .int p0), (2, .int p1), (3, .int p2), (4, .int p3)]) hx hb dX2_search_11 hl (by decide) rfl (fun ls hl => ?_)
    refine lv_iload_n hx hb dX2_search_13 rfl (lv_at hl 3 rfl) ?_
    refine lv_istore (lv' := [(6, .int p1), (5, .int p0), (0, .ref a_t), (1, .int p0), (2, .int p1), (3, .int p2), (4, .int p3)]) hx hb dX2_search_14 hl (by decide) rfl (fun ls hl => ?_)
    obtain ⟨W16, hW16⟩ : ∃ W9 : Int32 → Int32 → Prop, W9 = fun (y16_5 : Int32) (y16_6 : Int32) => ∀ (H : Heap) (locs : List Loc) (ls : Array Slot), va_P (dC, dI) classes [(a_t, .inr (2, [.ref a_t_weights, .ref a_t_table, .int v_t_best, .int v_t_bits])), (a_t_table, .inr (3, [.int v_t_table_law, .int v_t_table_boxes, .int v_t_table_fit, .int v_t_table_low, .int v_t_table_high, .ref a_t_table_sets, .ref a_t_table_clash, .ref a_t_table_near])), (a_t_table_clash, .inl (cI, 16, .inl f_t_table_clash)), (a_t_table_near, .inl (cI, 16, .inl f_t_table_near)), (a_t_weights, .inl (cI, 16, .inl f_t_weights))] H → va_D A [(a_t, .inr (2, [.ref a_t_weights, .ref a_t_table, .int v_t_best, .int v_t_bits])), (a_t_table, .inr (3, [.int v_t_table_law, .int v_t_table_boxes, .int v_t_table_fit, .int v_t_table_low, .int v_t_table_high, .ref a_t_table_sets, .ref a_t_table_clash, .ref a_t_table_near])), (a_t_table_clash, .inl (cI, 16, .inl f_t_table_clash)), (a_t_table_near, .inl (cI, 16, .inl f_t_table_near)), (a_t_weights, .inl (cI, 16, .inl f_t_weights))] → va_S A s.heap H locs → lv_has ls 9 [(0, .ref a_t), (2, .int p1), (3, .int p2), (4, .int p3), (5, .int y16_5), (6, .int y16_6)] → W p l e (rm_X2_search (d + 1)) s m ([.ref a_t, .int p0, .int p1, .int p2, .int p3] : List Value).toArray below meth c H locs 0 0 (MQ below (Qq A) ([.ref a_t, .int p0, .int p1, .int p2, .int p3] : List Value).toArray s 0 0 A) (F0 m 16 ls []) := ⟨_, rfl⟩
    have hst : ∀ (z : (Int32 × Int32)) (x : ((Int32 × Int32) ⊕ (Int32 × Int32))), (fun z => L_X2_search_16 (M_X2_search d) p1 p2 p3 v_t_best v_t_bits v_t_table_boxes f_t_table_clash f_t_table_near f_t_weights z.1 z.2) z = some x → ((∀ z', x = Sum.inl z' → W16 z'.1 z'.2) ∧ (∀ t_16, x = Sum.inr t_16 → t_16 = res)) → W16 z.1 z.2 := by
      rintro ⟨y16_5, y16_6⟩ x hM hX
      have hM : L_X2_search_16 (M_X2_search d) p1 p2 p3 v_t_best v_t_bits v_t_table_boxes f_t_table_clash f_t_table_near f_t_weights y16_5 y16_6 = some x := hM
      show W16 y16_5 y16_6
      rw [hW16]
      intro H locs ls hP hD hS hl
      have J52 : ∀ (x : ((Int32 × Int32) ⊕ (Int32 × Int32))) (x52_5 : Int32) (x52_6 : Int32) (H : Heap) (locs : List Loc) (ls : Array Slot), B_X2_search_52 (M_X2_search d) p1 p2 p3 x52_5 x52_6 v_t_best v_t_bits v_t_table_boxes f_t_table_clash f_t_table_near f_t_weights = some x → ((∀ z', x = Sum.inl z' → W16 z'.1 z'.2) ∧ (∀ t_16, x = Sum.inr t_16 → t_16 = res)) → va_P (dC, dI) classes [(a_t, .inr (2, [.ref a_t_weights, .ref a_t_table, .int v_t_best, .int v_t_bits])), (a_t_table, .inr (3, [.int v_t_table_law, .int v_t_table_boxes, .int v_t_table_fit, .int v_t_table_low, .int v_t_table_high, .ref a_t_table_sets, .ref a_t_table_clash, .ref a_t_table_near])), (a_t_table_clash, .inl (cI, 16, .inl f_t_table_clash)), (a_t_table_near, .inl (cI, 16, .inl f_t_table_near)), (a_t_weights, .inl (cI, 16, .inl f_t_weights))] H → va_D A [(a_t, .inr (2, [.ref a_t_weights, .ref a_t_table, .int v_t_best, .int v_t_bits])), (a_t_table, .inr (3, [.int v_t_table_law, .int v_t_table_boxes, .int v_t_table_fit, .int v_t_table_low, .int v_t_table_high, .ref a_t_table_sets, .ref a_t_table_clash, .ref a_t_table_near])), (a_t_table_clash, .inl (cI, 16, .inl f_t_table_clash)), (a_t_table_near, .inl (cI, 16, .inl f_t_table_near)), (a_t_weights, .inl (cI, 16, .inl f_t_weights))] → va_S A s.heap H locs → lv_has ls 9 [(0, .ref a_t), (2, .int p1), (3, .int p2), (4, .int p3), (5, .int x52_5), (6, .int x52_6)] → W p l e (rm_X2_search (d + 1)) s m ([.ref a_t, .int p0, .int p1, .int p2, .int p3] : List Value).toArray below meth c H locs 0 0 (MQ below (Qq A) ([.ref a_t, .int p0, .int p1, .int p2, .int p3] : List Value).toArray s 0 0 A) (F0 m 52 ls []) := by
        intro x x52_5 x52_6 H locs ls hM hX hP hD hS hl
        have hM : (some (Sum.inl ((x52_5 + (1 : Int32)), (x52_6 ||| (p2 &&& ((1 : Int32) <<< (x52_5 &&& 31))))))) = some x := hM
        refine lv_iload hx hb dX2_search_52 (lv_at hl 5 rfl) ?_
        refine lv_iload_n hx hb dX2_search_54 rfl (lv_at hl 2 rfl) ?_
        refine lv_iconst (v := (1 : Int32)) hx hb dX2_search_55 (by decide) ?_
        refine lv_iload hx hb dX2_search_56 (lv_at hl 4 rfl) ?_
        refine lv_ishl hx hb dX2_search_58 ?_
        refine lv_iand hx hb dX2_search_59 ?_
        refine lv_ior hx hb dX2_search_60 ?_
        refine lv_istore (lv' := [(6, .int (x52_6 ||| (p2 &&& ((1 : Int32) <<< (x52_5 &&& 31))))), (0, .ref a_t), (2, .int p1), (3, .int p2), (4, .int p3), (5, .int x52_5)]) hx hb dX2_search_61 hl (by decide) rfl (fun ls hl => ?_)
        refine lv_iinc (v := (x52_5 + (1 : Int32))) (lv' := [(5, .int (x52_5 + (1 : Int32))), (6, .int (x52_6 ||| (p2 &&& ((1 : Int32) <<< (x52_5 &&& 31))))), (0, .ref a_t), (2, .int p1), (3, .int p2), (4, .int p3)]) hx hb dX2_search_63 hl (k := 5) rfl rfl (by decide) rfl (fun ls hl => ?_)
        refine lv_goto (tgt := 16) hx hb dX2_search_66 (by decide) ?_
        have hw := hX.1 _ (Option.some.inj hM).symm
        rw [hW16] at hw
        exact hw H locs ls hP hD hS (lv_sub hl [2, 3, 4, 5, 0, 1] rfl)
      have hM : (if v_t_table_boxes ≤ y16_5 then (((B_X2_search_69 (M_X2_search d) p2 p3 y16_5 y16_6 v_t_best v_t_bits v_t_table_boxes f_t_table_clash f_t_table_near f_t_weights)).map Sum.inr) else (Option.bind (M_X8_has p2 y16_5) (fun t31 => if t31 = 0 then (B_X2_search_52 (M_X2_search d) p1 p2 p3 y16_5 y16_6 v_t_best v_t_bits v_t_table_boxes f_t_table_clash f_t_table_near f_t_weights) else (Option.bind (M_X3_tangled v_t_table_boxes f_t_table_clash f_t_table_near y16_5 (p1 ||| p2)) (fun t46 => if t46 = 0 then (B_X2_search_52 (M_X2_search d) p1 p2 p3 y16_5 y16_6 v_t_best v_t_bits v_t_table_boxes f_t_table_clash f_t_table_near f_t_weights) else (((B_X2_search_69 (M_X2_search d) p2 p3 y16_5 y16_6 v_t_best v_t_bits v_t_table_boxes f_t_table_clash f_t_table_near f_t_weights)).map Sum.inr)))))) = some x := hM
      refine lv_iload hx hb dX2_search_16 (lv_at hl 4 rfl) ?_
      refine lv_aload_n hx hb dX2_search_18 rfl (lv_at hl 0 rfl) ?_
      refine va_get (D := (dC, dI)) (ci := 2) (v := .ref a_t_table) (C := RX2) (T := TX2) (N := 4) hx hb hts in_X2_search_X2 hown hK hP 0 rfl rfl 1 (by decide) (hts (.fieldLink RX2 22 "NoneWithin$Keeper" "table" "LNoneWithin$LawTable;") (by decide +kernel)) (fun _ h9 => h9) rfl dX2_search_19 ?_
      refine va_get (D := (dC, dI)) (ci := 3) (v := .int v_t_table_boxes) (C := RX3) (T := TX3) (N := 8) hx hb hts in_X2_search_X3 hown hK hP 1 rfl rfl 1 (by decide) (hts (.fieldLink RX2 51 "NoneWithin$LawTable" "boxes" "I") (by decide +kernel)) (fun _ h9 => h9) rfl dX2_search_22 ?_
      refine lv_icmp_ge (tgt := 69) hx hb dX2_search_25 (by decide) (fun c25 => ?_) (fun c25 => ?_)
      · have hM := ifp c25 hM
        obtain ⟨x, hMn, hxe⟩ := mpr hM
        have hX := hX.2 _ hxe
        have hM := hMn
        exact J69 _ y16_5 y16_6 v_t_best v_t_bits H locs ls hM hX hP hD hS (lv_sub hl [0, 2, 3, 4, 5] rfl)
      · have hM := ifn c25 hM
        refine lv_iload_n hx hb dX2_search_28 rfl (lv_at hl 2 rfl) ?_
        refine lv_iload hx hb dX2_search_29 (lv_at hl 4 rfl) ?_
        obtain ⟨t31, hg31, hM⟩ := bd hM
        refine nw_i (wc := []) (wr := [(a_t, .inr (2, [.ref a_t_weights, .ref a_t_table, .int v_t_best, .int v_t_bits])), (a_t_table, .inr (3, [.int v_t_table_law, .int v_t_table_boxes, .int v_t_table_fit, .int v_t_table_low, .int v_t_table_high, .ref a_t_table_sets, .ref a_t_table_clash, .ref a_t_table_near])), (a_t_table_clash, .inl (cI, 16, .inl f_t_table_clash)), (a_t_table_near, .inl (cI, 16, .inl f_t_table_near)), (a_t_weights, .inl (cI, 16, .inl f_t_weights))]) (w1 := []) (wf := [(a_t, .inr (2, [.ref a_t_weights, .ref a_t_table, .int v_t_best, .int v_t_bits])), (a_t_table, .inr (3, [.int v_t_table_law, .int v_t_table_boxes, .int v_t_table_fit, .int v_t_table_low, .int v_t_table_high, .ref a_t_table_sets, .ref a_t_table_clash, .ref a_t_table_near])), (a_t_table_clash, .inl (cI, 16, .inl f_t_table_clash)), (a_t_table_near, .inl (cI, 16, .inl f_t_table_near)), (a_t_weights, .inl (cI, 16, .inl f_t_weights))]) [] [0, 1, 2, 3, 4] [0, 1, 2, 3, 4] hP hD hS hA rfl rfl rfl (by decide) rfl rfl (nw_runSN (As := [.int p2, .int y16_5]) (rest := []) hfix (c_X8_has l dC dI cI cJ cZ cQ gx  H.size  p2 y16_5 t31 hg31) ⟨va_cnB 2 hts gX2_search_X8_has_n54 rfl rfl rfl (hN.2.2.2.2.2.1) (hts (.initialized RX8) (by decide +kernel)) (by decide +kernel) ⟨Nat.le_of_ble_eq_true rfl, Nat.le_of_ble_eq_true rfl⟩, (hts (.static yX8_has) (by decide +kernel)), trivial⟩ hP hD hK hN hS hA hG [] rfl rfl hl.1 rfl rfl (Nat.le_of_ble_eq_true rfl) dX2_search_31 ⟨Nat.zero_le _, Nat.zero_le _⟩) (fun H locs hP hD hS => ?_)
        refine lv_if_eq (tgt := 52) hx hb dX2_search_34 (by decide) (fun c34 => ?_) (fun c34 => ?_)
        · have hM := ifp c34 hM
          exact J52 _ y16_5 y16_6 H locs ls hM hX hP hD hS (lv_sub hl [0, 1, 2, 3, 4, 5] rfl)
        · have hM := ifn c34 hM
          refine lv_aload_n hx hb dX2_search_37 rfl (lv_at hl 0 rfl) ?_
          refine va_get (D := (dC, dI)) (ci := 2) (v := .ref a_t_table) (C := RX2) (T := TX2) (N := 4) hx hb hts in_X2_search_X2 hown hK hP 0 rfl rfl 1 (by decide) (hts (.fieldLink RX2 22 "NoneWithin$Keeper" "table" "LNoneWithin$LawTable;") (by decide +kernel)) (fun _ h9 => h9) rfl dX2_search_38 ?_
          refine lv_iload hx hb dX2_search_41 (lv_at hl 4 rfl) ?_
          refine lv_iload_n hx hb dX2_search_43 rfl (lv_at hl 1 rfl) ?_
          refine lv_iload_n hx hb dX2_search_44 rfl (lv_at hl 2 rfl) ?_
          refine lv_ior hx hb dX2_search_45 ?_
          obtain ⟨t46, hg46, hM⟩ := bd hM
          refine nw_i (wc := [(a_t_table, .inr (3, [.int v_t_table_law, .int v_t_table_boxes, .int v_t_table_fit, .int v_t_table_low, .int v_t_table_high, .ref a_t_table_sets, .ref a_t_table_clash, .ref a_t_table_near])), (a_t_table_clash, .inl (cI, 16, .inl f_t_table_clash)), (a_t_table_near, .inl (cI, 16, .inl f_t_table_near))]) (wr := [(a_t, .inr (2, [.ref a_t_weights, .ref a_t_table, .int v_t_best, .int v_t_bits])), (a_t_weights, .inl (cI, 16, .inl f_t_weights))]) (w1 := [(a_t_table, .inr (3, [.int v_t_table_law, .int v_t_table_boxes, .int v_t_table_fit, .int v_t_table_low, .int v_t_table_high, .ref a_t_table_sets, .ref a_t_table_clash, .ref a_t_table_near])), (a_t_table_clash, .inl (cI, 16, .inl f_t_table_clash)), (a_t_table_near, .inl (cI, 16, .inl f_t_table_near))]) (wf := [(a_t, .inr (2, [.ref a_t_weights, .ref a_t_table, .int v_t_best, .int v_t_bits])), (a_t_table, .inr (3, [.int v_t_table_law, .int v_t_table_boxes, .int v_t_table_fit, .int v_t_table_low, .int v_t_table_high, .ref a_t_table_sets, .ref a_t_table_clash, .ref a_t_table_near])), (a_t_table_clash, .inl (cI, 16, .inl f_t_table_clash)), (a_t_table_near, .inl (cI, 16, .inl f_t_table_near)), (a_t_weights, .inl (cI, 16, .inl f_t_weights))]) [1, 2, 3] [0, 4] [0, 2, 3, 4, 1] hP hD hS hA rfl rfl rfl (by decide) rfl rfl (nw_runV (As := [.int y16_5, .int (p1 ||| p2)]) (rest := []) hfix (c_X3_tangled l dC dI cI cJ cZ cQ gx a_t_table a_t_table_clash a_t_table_near a_t_table_sets H.size v_t_table_law v_t_table_boxes v_t_table_fit v_t_table_low v_t_table_high f_t_table_clash f_t_table_near y16_5 (p1 ||| p2) t46 hg46) (cwV 2 hts gX2_search_X3_tangled rfl rfl rfl (by decide +kernel) ⟨Nat.le_of_ble_eq_true rfl, Nat.le_of_ble_eq_true rfl⟩) hP hD hK hN hS hA hG [1, 2, 3] rfl rfl 1 3 rfl rfl rfl hl.1 rfl rfl (Nat.le_of_ble_eq_true rfl) dX2_search_46 ⟨Nat.zero_le _, Nat.zero_le _⟩) (fun H locs hP hD hS => ?_)
          refine lv_if_ne (tgt := 69) hx hb dX2_search_49 (by decide) (fun c49 => ?_) (fun c49 => ?_)
          · have hM := ifn c49 hM
            obtain ⟨x, hMn, hxe⟩ := mpr hM
            have hX := hX.2 _ hxe
            have hM := hMn
            exact J69 _ y16_5 y16_6 v_t_best v_t_bits H locs ls hM hX hP hD hS (lv_sub hl [0, 2, 3, 4, 5] rfl)
          · have hM := ifp c49 hM
            exact J52 _ y16_5 y16_6 H locs ls hM hX hP hD hS (lv_sub hl [0, 1, 2, 3, 4, 5] rfl)
    have hw := lp_walk (Wp := fun z => W16 z.1 z.2) (X := fun t => t = res) hst _ _ _ hM hX
    rw [hW16] at hw
    exact hw H locs ls hP hD hS (lv_sub hl [2, 4, 5, 6, 1, 0] rfl)
  · have hM := ifn c6 hM
    have hE : res = ((v_t_best, v_t_bits) : (Int32 × Int32)) := ((Option.some.inj hM).trans hX).symm
    rw [hQq, hE]
    exact nw_vret hx hb hr hlocks hK hP hD hS dX2_search_9
