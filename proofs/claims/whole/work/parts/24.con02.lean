abbrev rm_J6_numberOfTrailingZeros_0f7a4 : Room := { frames := 0, cells := 0, slots := 0, locals := 0 }
set_option maxHeartbeats 4000000 in
set_option maxRecDepth 100000 in
theorem c_J6_numberOfTrailingZeros_0f7a4 (l : Launch) (dC : Nat → ClassId) (dI : Nat → Nat → Nat) (cI cJ cZ cQ : ClassId) (gx : GX) (sz : Nat) (p0 : Int32) (res : Int32) (hM : M_J6_numberOfTrailingZeros_0f7a4 p0 = some res) : Met l yJ6_numberOfTrailingZeros_0f7a4 wsJ6_numberOfTrailingZeros_0f7a4 rm_J6_numberOfTrailingZeros_0f7a4 (kP dC dI cI cJ cZ cQ gx [.int p0] sz []) (kQi dC dI cI cJ cZ cQ res [] (va_A [] sz)) 0 0 (va_A [] sz) := by
  refine nw_entry (y := yJ6_numberOfTrailingZeros_0f7a4) (ws := wsJ6_numberOfTrailingZeros_0f7a4) (rm := rm_J6_numberOfTrailingZeros_0f7a4) (sz := sz) (wpre := []) (av := [.int p0]) (Qc := (kQi dC dI cI cJ cZ cQ res [])) (cc := cJ6_numberOfTrailingZeros_0f7a4) (own := RJ6) [(0, .int p0)] (by decide) rfl rfl (Nat.le_of_ble_eq_true rfl) rfl ?_
  intro p e s m below meth c A ls H locs hfix hr hlocks hin0 hsz0 hP hK hD hA hS hN hG hl
  obtain ⟨hx, hb, hml, hown, hts⟩ := id hfix
  obtain ⟨Qq, hQq⟩ : ∃ Q9, Q9 = (kQi dC dI cI cJ cZ cQ res []) := ⟨_, rfl⟩
  rw [← hQq]
  have hX : res = res := rfl
  have J74 : ∀ (x : Int32) (x74_0 : Int32) (x74_1 : Int32) (H : Heap) (locs : List Loc) (ls : Array Slot), B_J6_numberOfTrailingZeros_0f7a4_74 x74_0 x74_1 = some x → x = res → va_P (dC, dI) classes [] H → va_D A [] → va_S A s.heap H locs → lv_has ls 2 [(0, .int x74_0), (1, .int x74_1)] → W p l e rm_J6_numberOfTrailingZeros_0f7a4 s m ([.int p0] : List Value).toArray below meth c H locs 0 0 (MQ below (Qq A) ([.int p0] : List Value).toArray s 0 0 A) (F0 m 74 ls []) := by
    intro x x74_0 x74_1 H locs ls hM hX hP hD hS hl
    have hM : (some (x74_1 + ((x74_0.toUInt32 >>> ((1 : Int32).toUInt32 &&& Int32.toUInt32 31)).toInt32))) = some x := hM
    refine lv_iload_n hx hb dJ6_numberOfTrailingZeros_0f7a4_74 rfl (lv_at hl 1 rfl) ?_
    refine lv_iload_n hx hb dJ6_numberOfTrailingZeros_0f7a4_75 rfl (lv_at hl 0 rfl) ?_
    refine lv_iconst (v := (1 : Int32)) hx hb dJ6_numberOfTrailingZeros_0f7a4_76 (by decide) ?_
    refine lv_iushr hx hb dJ6_numberOfTrailingZeros_0f7a4_77 rfl ?_
    refine lv_iadd hx hb dJ6_numberOfTrailingZeros_0f7a4_78 ?_
    have hE : res = ((x74_1 + ((x74_0.toUInt32 >>> ((1 : Int32).toUInt32 &&& Int32.toUInt32 31)).toInt32)) : Int32) := ((Option.some.inj hM).trans hX).symm
    rw [hQq, hE]
    exact nw_iret rfl hx hb hr hlocks hK hP hD hS dJ6_numberOfTrailingZeros_0f7a4_79
  have J62 : ∀ (x : Int32) (x62_0 : Int32) (x62_1 : Int32) (H : Heap) (locs : List Loc) (ls : Array Slot), B_J6_numberOfTrailingZeros_0f7a4_62 x62_0 x62_1 = some x → x = res → va_P (dC, dI) classes [] H → va_D A [] → va_S A s.heap H locs → lv_has ls 2 [(0, .int x62_0), (1, .int x62_1)] → W p l e rm_J6_numberOfTrailingZeros_0f7a4 s m ([.int p0] : List Value).toArray below meth c H locs 0 0 (MQ below (Qq A) ([.int p0] : List Value).toArray s 0 0 A) (F0 m 62 ls []) := by
    intro x x62_0 x62_1 H locs ls hM hX hP hD hS hl
    have hM : (if x62_0 ≤ (4 : Int32) then (B_J6_numberOfTrailingZeros_0f7a4_74 x62_0 x62_1) else (B_J6_numberOfTrailingZeros_0f7a4_74 ((x62_0.toUInt32 >>> ((2 : Int32).toUInt32 &&& Int32.toUInt32 31)).toInt32) (x62_1 + (2 : Int32)))) = some x := hM
    refine lv_iload_n hx hb dJ6_numberOfTrailingZeros_0f7a4_62 rfl (lv_at hl 0 rfl) ?_
    refine lv_iconst (v := (4 : Int32)) hx hb dJ6_numberOfTrailingZeros_0f7a4_63 (by decide) ?_
    refine lv_icmp_le (tgt := 74) hx hb dJ6_numberOfTrailingZeros_0f7a4_64 (by decide) (fun c64 => ?_) (fun c64 => ?_)
    · have hM := ifp c64 hM
      exact J74 _ x62_0 x62_1 H locs ls hM hX hP hD hS (lv_sub hl [0, 1] rfl)
    · have hM := ifn c64 hM
      refine lv_iinc (v := (x62_1 + (2 : Int32))) (lv' := [(1, .int (x62_1 + (2 : Int32))), (0, .int x62_0)]) hx hb dJ6_numberOfTrailingZeros_0f7a4_67 hl (k := 1) rfl rfl (by decide) rfl (fun ls hl => ?_)
      refine lv_iload_n hx hb dJ6_numberOfTrailingZeros_0f7a4_70 rfl (lv_at hl 1 rfl) ?_
      refine lv_iconst (v := (2 : Int32)) hx hb dJ6_numberOfTrailingZeros_0f7a4_71 (by decide) ?_
      refine lv_iushr hx hb dJ6_numberOfTrailingZeros_0f7a4_72 rfl ?_
      refine lv_istore_n (lv' := [(0, .int ((x62_0.toUInt32 >>> ((2 : Int32).toUInt32 &&& Int32.toUInt32 31)).toInt32)), (1, .int (x62_1 + (2 : Int32)))]) hx hb dJ6_numberOfTrailingZeros_0f7a4_73 rfl hl (by decide) rfl (fun ls hl => ?_)
      exact J74 _ ((x62_0.toUInt32 >>> ((2 : Int32).toUInt32 &&& Int32.toUInt32 31)).toInt32) (x62_1 + (2 : Int32)) H locs ls hM hX hP hD hS (lv_sub hl [0, 1] rfl)
  have J49 : ∀ (x : Int32) (x49_0 : Int32) (x49_1 : Int32) (H : Heap) (locs : List Loc) (ls : Array Slot), B_J6_numberOfTrailingZeros_0f7a4_49 x49_0 x49_1 = some x → x = res → va_P (dC, dI) classes [] H → va_D A [] → va_S A s.heap H locs → lv_has ls 2 [(0, .int x49_0), (1, .int x49_1)] → W p l e rm_J6_numberOfTrailingZeros_0f7a4 s m ([.int p0] : List Value).toArray below meth c H locs 0 0 (MQ below (Qq A) ([.int p0] : List Value).toArray s 0 0 A) (F0 m 49 ls []) := by
    intro x x49_0 x49_1 H locs ls hM hX hP hD hS hl
    have hM : (if x49_0 ≤ (16 : Int32) then (B_J6_numberOfTrailingZeros_0f7a4_62 x49_0 x49_1) else (B_J6_numberOfTrailingZeros_0f7a4_62 ((x49_0.toUInt32 >>> ((4 : Int32).toUInt32 &&& Int32.toUInt32 31)).toInt32) (x49_1 + (4 : Int32)))) = some x := hM
    refine lv_iload_n hx hb dJ6_numberOfTrailingZeros_0f7a4_49 rfl (lv_at hl 0 rfl) ?_
    refine lv_bipush (v := (16 : Int32)) hx hb dJ6_numberOfTrailingZeros_0f7a4_50 (by decide) ?_
    refine lv_icmp_le (tgt := 62) hx hb dJ6_numberOfTrailingZeros_0f7a4_52 (by decide) (fun c52 => ?_) (fun c52 => ?_)
    · have hM := ifp c52 hM
      exact J62 _ x49_0 x49_1 H locs ls hM hX hP hD hS (lv_sub hl [0, 1] rfl)
    · have hM := ifn c52 hM
      refine lv_iinc (v := (x49_1 + (4 : Int32))) (lv' := [(1, .int (x49_1 + (4 : Int32))), (0, .int x49_0)]) hx hb dJ6_numberOfTrailingZeros_0f7a4_55 hl (k := 1) rfl rfl (by decide) rfl (fun ls hl => ?_)
      refine lv_iload_n hx hb dJ6_numberOfTrailingZeros_0f7a4_58 rfl (lv_at hl 1 rfl) ?_
      refine lv_iconst (v := (4 : Int32)) hx hb dJ6_numberOfTrailingZeros_0f7a4_59 (by decide) ?_
      refine lv_iushr hx hb dJ6_numberOfTrailingZeros_0f7a4_60 rfl ?_
      refine lv_istore_n (lv' := [(0, .int ((x49_0.toUInt32 >>> ((4 : Int32).toUInt32 &&& Int32.toUInt32 31)).toInt32)), (1, .int (x49_1 + (4 : Int32)))]) hx hb dJ6_numberOfTrailingZeros_0f7a4_61 rfl hl (by decide) rfl (fun ls hl => ?_)
      exact J62 _ ((x49_0.toUInt32 >>> ((4 : Int32).toUInt32 &&& Int32.toUInt32 31)).toInt32) (x49_1 + (4 : Int32)) H locs ls hM hX hP hD hS (lv_sub hl [0, 1] rfl)
  have J34 : ∀ (x : Int32) (x34_0 : Int32) (x34_1 : Int32) (H : Heap) (locs : List Loc) (ls : Array Slot), B_J6_numberOfTrailingZeros_0f7a4_34 x34_0 x34_1 = some x → x = res → va_P (dC, dI) classes [] H → va_D A [] → va_S A s.heap H locs → lv_has ls 2 [(0, .int x34_0), (1, .int x34_1)] → W p l e rm_J6_numberOfTrailingZeros_0f7a4 s m ([.int p0] : List Value).toArray below meth c H locs 0 0 (MQ below (Qq A) ([.int p0] : List Value).toArray s 0 0 A) (F0 m 34 ls []) := by
    intro x x34_0 x34_1 H locs ls hM hX hP hD hS hl
    have hM : (if x34_0 ≤ (256 : Int32) then (B_J6_numberOfTrailingZeros_0f7a4_49 x34_0 x34_1) else (B_J6_numberOfTrailingZeros_0f7a4_49 ((x34_0.toUInt32 >>> ((8 : Int32).toUInt32 &&& Int32.toUInt32 31)).toInt32) (x34_1 + (8 : Int32)))) = some x := hM
    refine lv_iload_n hx hb dJ6_numberOfTrailingZeros_0f7a4_34 rfl (lv_at hl 0 rfl) ?_
    refine lv_sipush (v := (256 : Int32)) hx hb dJ6_numberOfTrailingZeros_0f7a4_35 (by decide) ?_
    refine lv_icmp_le (tgt := 49) hx hb dJ6_numberOfTrailingZeros_0f7a4_38 (by decide) (fun c38 => ?_) (fun c38 => ?_)
    · have hM := ifp c38 hM
      exact J49 _ x34_0 x34_1 H locs ls hM hX hP hD hS (lv_sub hl [0, 1] rfl)
    · have hM := ifn c38 hM
      refine lv_iinc (v := (x34_1 + (8 : Int32))) (lv' := [(1, .int (x34_1 + (8 : Int32))), (0, .int x34_0)]) hx hb dJ6_numberOfTrailingZeros_0f7a4_41 hl (k := 1) rfl rfl (by decide) rfl (fun ls hl => ?_)
      refine lv_iload_n hx hb dJ6_numberOfTrailingZeros_0f7a4_44 rfl (lv_at hl 1 rfl) ?_
      refine lv_bipush (v := (8 : Int32)) hx hb dJ6_numberOfTrailingZeros_0f7a4_45 (by decide) ?_
      refine lv_iushr hx hb dJ6_numberOfTrailingZeros_0f7a4_47 rfl ?_
      refine lv_istore_n (lv' := [(0, .int ((x34_0.toUInt32 >>> ((8 : Int32).toUInt32 &&& Int32.toUInt32 31)).toInt32)), (1, .int (x34_1 + (8 : Int32)))]) hx hb dJ6_numberOfTrailingZeros_0f7a4_48 rfl hl (by decide) rfl (fun ls hl => ?_)
      exact J49 _ ((x34_0.toUInt32 >>> ((8 : Int32).toUInt32 &&& Int32.toUInt32 31)).toInt32) (x34_1 + (8 : Int32)) H locs ls hM hX hP hD hS (lv_sub hl [0, 1] rfl)
  have hM : (if 0 < ((p0 ^^^ (-1 : Int32)) &&& (p0 - (1 : Int32))) then (if ((p0 ^^^ (-1 : Int32)) &&& (p0 - (1 : Int32))) ≤ (65536 : Int32) then (B_J6_numberOfTrailingZeros_0f7a4_34 ((p0 ^^^ (-1 : Int32)) &&& (p0 - (1 : Int32))) (1 : Int32)) else (B_J6_numberOfTrailingZeros_0f7a4_34 ((((p0 ^^^ (-1 : Int32)) &&& (p0 - (1 : Int32))).toUInt32 >>> ((16 : Int32).toUInt32 &&& Int32.toUInt32 31)).toInt32) ((1 : Int32) + (16 : Int32)))) else (some (((p0 ^^^ (-1 : Int32)) &&& (p0 - (1 : Int32))) &&& (32 : Int32)))) = some res := hM
  refine lv_iload_n hx hb dJ6_numberOfTrailingZeros_0f7a4_0 rfl (lv_at hl 0 rfl) ?_
  refine lv_iconst (v := (-1 : Int32)) hx hb dJ6_numberOfTrailingZeros_0f7a4_1 (by decide) ?_
  refine lv_ixor hx hb dJ6_numberOfTrailingZeros_0f7a4_2 ?_
  refine lv_iload_n hx hb dJ6_numberOfTrailingZeros_0f7a4_3 rfl (lv_at hl 0 rfl) ?_
  refine lv_iconst (v := (1 : Int32)) hx hb dJ6_numberOfTrailingZeros_0f7a4_4 (by decide) ?_
  refine lv_isub hx hb dJ6_numberOfTrailingZeros_0f7a4_5 ?_
  refine lv_iand hx hb dJ6_numberOfTrailingZeros_0f7a4_6 ?_
  refine lv_istore_n (lv' := [(0, .int ((p0 ^^^ (-1 : Int32)) &&& (p0 - (1 : Int32))))]) hx hb dJ6_numberOfTrailingZeros_0f7a4_7 rfl hl (by decide) rfl (fun ls hl => ?_)
  refine lv_iload_n hx hb dJ6_numberOfTrailingZeros_0f7a4_8 rfl (lv_at hl 0 rfl) ?_
  refine lv_if_gt (tgt := 17) hx hb dJ6_numberOfTrailingZeros_0f7a4_9 (by decide) (fun c9 => ?_) (fun c9 => ?_)
  · have hM := ifp c9 hM
    refine lv_iconst (v := (1 : Int32)) hx hb dJ6_numberOfTrailingZeros_0f7a4_17 (by decide) ?_
    refine lv_istore_n (lv' := [(1, .int (1 : Int32)), (0, .int ((p0 ^^^ (-1 : Int32)) &&& (p0 - (1 : Int32))))]) hx hb dJ6_numberOfTrailingZeros_0f7a4_18 rfl hl (by decide) rfl (fun ls hl => ?_)
    refine lv_iload_n hx hb dJ6_numberOfTrailingZeros_0f7a4_19 rfl (lv_at hl 1 rfl) ?_
    refine lv_ldcw (v := (65536 : Int32)) hx hb hown (hts (.constant RJ6 264 (65536)) (by decide +kernel)) dJ6_numberOfTrailingZeros_0f7a4_20 ?_
    refine lv_icmp_le (tgt := 34) hx hb dJ6_numberOfTrailingZeros_0f7a4_23 (by decide) (fun c23 => ?_) (fun c23 => ?_)
    · have hM := ifp c23 hM
      exact J34 _ ((p0 ^^^ (-1 : Int32)) &&& (p0 - (1 : Int32))) (1 : Int32) H locs ls hM hX hP hD hS (lv_sub hl [1, 0] rfl)
    · have hM := ifn c23 hM
      refine lv_iinc (v := ((1 : Int32) + (16 : Int32))) (lv' := [(1, .int ((1 : Int32) + (16 : Int32))), (0, .int ((p0 ^^^ (-1 : Int32)) &&& (p0 - (1 : Int32))))]) hx hb dJ6_numberOfTrailingZeros_0f7a4_26 hl (k := 0) rfl rfl (by decide) rfl (fun ls hl => ?_)
      refine lv_iload_n hx hb dJ6_numberOfTrailingZeros_0f7a4_29 rfl (lv_at hl 1 rfl) ?_
      refine lv_bipush (v := (16 : Int32)) hx hb dJ6_numberOfTrailingZeros_0f7a4_30 (by decide) ?_
      refine lv_iushr hx hb dJ6_numberOfTrailingZeros_0f7a4_32 rfl ?_
      refine lv_istore_n (lv' := [(0, .int ((((p0 ^^^ (-1 : Int32)) &&& (p0 - (1 : Int32))).toUInt32 >>> ((16 : Int32).toUInt32 &&& Int32.toUInt32 31)).toInt32)), (1, .int ((1 : Int32) + (16 : Int32)))]) hx hb dJ6_numberOfTrailingZeros_0f7a4_33 rfl hl (by decide) rfl (fun ls hl => ?_)
      exact J34 _ ((((p0 ^^^ (-1 : Int32)) &&& (p0 - (1 : Int32))).toUInt32 >>> ((16 : Int32).toUInt32 &&& Int32.toUInt32 31)).toInt32) ((1 : Int32) + (16 : Int32)) H locs ls hM hX hP hD hS (lv_sub hl [0, 1] rfl)
  · have hM := ifn c9 hM
    refine lv_iload_n hx hb dJ6_numberOfTrailingZeros_0f7a4_12 rfl (lv_at hl 0 rfl) ?_
    refine lv_bipush (v := (32 : Int32)) hx hb dJ6_numberOfTrailingZeros_0f7a4_13 (by decide) ?_
    refine lv_iand hx hb dJ6_numberOfTrailingZeros_0f7a4_15 ?_
    have hE : res = ((((p0 ^^^ (-1 : Int32)) &&& (p0 - (1 : Int32))) &&& (32 : Int32)) : Int32) := ((Option.some.inj hM).trans hX).symm
    rw [hQq, hE]
    exact nw_iret rfl hx hb hr hlocks hK hP hD hS dJ6_numberOfTrailingZeros_0f7a4_16
theorem in_X3_firstBreak_X3 : ∀ w ∈ wsX30, w ∈ wsX3_firstBreak := fun _ h => List.mem_cons_of_mem _ (List.mem_append_right _ h)
abbrev rm_X3_firstBreak : Room := { frames := 1, cells := 0, slots := 0, locals := 21 }
set_option maxHeartbeats 4000000 in
set_option maxRecDepth 100000 in
theorem c_X3_firstBreak (l : Launch) (dC : Nat → ClassId) (dI : Nat → Nat → Nat) (cI cJ cZ cQ : ClassId) (gx : GX) (a_t a_t_clash a_t_near a_t_sets : Nat) (sz : Nat) (v_t_law : Int32) (v_t_boxes : Int32) (v_t_fit : Int32) (v_t_low : Int32) (v_t_high : Int32) (f_t_clash : (Nat → Int32)) (f_t_near : (Nat → Int32)) (res : Int32) (hM : M_X3_firstBreak v_t_boxes v_t_fit f_t_clash f_t_near = some res) : Met l yX3_firstBreak wsX3_firstBreak rm_X3_firstBreak (kP dC dI cI cJ cZ cQ gx [.ref a_t] sz [(a_t, .inr (3, [.int v_t_law, .int v_t_boxes, .int v_t_fit, .int v_t_low, .int v_t_high, .ref a_t_sets, .ref a_t_clash, .ref a_t_near])), (a_t_clash, .inl (cI, 16, .inl f_t_clash)), (a_t_near, .inl (cI, 16, .inl f_t_near))]) (kQi dC dI cI cJ cZ cQ res [(a_t, .inr (3, [.int v_t_law, .int v_t_boxes, .int v_t_fit, .int v_t_low, .int v_t_high, .ref a_t_sets, .ref a_t_clash, .ref a_t_near])), (a_t_clash, .inl (cI, 16, .inl f_t_clash)), (a_t_near, .inl (cI, 16, .inl f_t_near))] (va_A [(a_t, .inr (3, [.int v_t_law, .int v_t_boxes, .int v_t_fit, .int v_t_low, .int v_t_high, .ref a_t_sets, .ref a_t_clash, .ref a_t_near])), (a_t_clash, .inl (cI, 16, .inl f_t_clash)), (a_t_near, .inl (cI, 16, .inl f_t_near))] sz)) 0 0 (va_A [(a_t, .inr (3, [.int v_t_law, .int v_t_boxes, .int v_t_fit, .int v_t_low, .int v_t_high, .ref a_t_sets, .ref a_t_clash, .ref a_t_near])), (a_t_clash, .inl (cI, 16, .inl f_t_clash)), (a_t_near, .inl (cI, 16, .inl f_t_near))] sz) := by
  refine nw_entry (y := yX3_firstBreak) (ws := wsX3_firstBreak) (rm := rm_X3_firstBreak) (sz := sz) (wpre := [(a_t, .inr (3, [.int v_t_law, .int v_t_boxes, .int v_t_fit, .int v_t_low, .int v_t_high, .ref a_t_sets, .ref a_t_clash, .ref a_t_near])), (a_t_clash, .inl (cI, 16, .inl f_t_clash)), (a_t_near, .inl (cI, 16, .inl f_t_near))]) (av := [.ref a_t]) (Qc := (kQi dC dI cI cJ cZ cQ res [(a_t, .inr (3, [.int v_t_law, .int v_t_boxes, .int v_t_fit, .int v_t_low, .int v_t_high, .ref a_t_sets, .ref a_t_clash, .ref a_t_near])), (a_t_clash, .inl (cI, 16, .inl f_t_clash)), (a_t_near, .inl (cI, 16, .inl f_t_near))])) (cc := cX3_firstBreak) (own := RX3) [(0, .ref a_t)] (by decide) rfl rfl (Nat.le_of_ble_eq_true rfl) rfl ?_
  intro p e s m below meth c A ls H locs hfix hr hlocks hin0 hsz0 hP hK hD hA hS hN hG hl
  obtain ⟨hx, hb, hml, hown, hts⟩ := id hfix
  obtain ⟨Qq, hQq⟩ : ∃ Q9, Q9 = (kQi dC dI cI cJ cZ cQ res [(a_t, .inr (3, [.int v_t_law, .int v_t_boxes, .int v_t_fit, .int v_t_low, .int v_t_high, .ref a_t_sets, .ref a_t_clash, .ref a_t_near])), (a_t_clash, .inl (cI, 16, .inl f_t_clash)), (a_t_near, .inl (cI, 16, .inl f_t_near))]) := ⟨_, rfl⟩
  rw [← hQq]
  have hX : res = res := rfl
  have hM : (lpN (fun z => L_X3_firstBreak_2 v_t_boxes v_t_fit f_t_clash f_t_near z) fuelK (0 : Int32)) = some res := hM
  refine lv_iconst (v := (0 : Int32)) hx hb dX3_firstBreak_0 (by decide) ?_
  refine lv_istore_n (lv' := [(1, .int (0 : Int32)), (0, .ref a_t)]) hx hb dX3_firstBreak_1 rfl hl (by decide) rfl (fun ls hl => ?_)
  obtain ⟨W2, hW2⟩ : ∃ W9 : Int32 → Prop, W9 = fun (y2_1 : Int32) => ∀ (H : Heap) (locs : List Loc) (ls : Array Slot), va_P (dC, dI) classes [(a_t, .inr (3, [.int v_t_law, .int v_t_boxes, .int v_t_fit, .int v_t_low, .int v_t_high, .ref a_t_sets, .ref a_t_clash, .ref a_t_near])), (a_t_clash, .inl (cI, 16, .inl f_t_clash)), (a_t_near, .inl (cI, 16, .inl f_t_near))] H → va_D A [(a_t, .inr (3, [.int v_t_law, .int v_t_boxes, .int v_t_fit, .int v_t_low, .int v_t_high, .ref a_t_sets, .ref a_t_clash, .ref a_t_near])), (a_t_clash, .inl (cI, 16, .inl f_t_clash)), (a_t_near, .inl (cI, 16, .inl f_t_near))] → va_S A s.heap H locs → lv_has ls 4 [(0, .ref a_t), (1, .int y2_1)] → W p l e rm_X3_firstBreak s m ([.ref a_t] : List Value).toArray below meth c H locs 0 0 (MQ below (Qq A) ([.ref a_t] : List Value).toArray s 0 0 A) (F0 m 2 ls []) := ⟨_, rfl⟩
  have hst : ∀ (z : Int32) (x : (Int32 ⊕ Int32)), (fun z => L_X3_firstBreak_2 v_t_boxes v_t_fit f_t_clash f_t_near z) z = some x → ((∀ z', x = Sum.inl z' → W2 z') ∧ (∀ t_2, x = Sum.inr t_2 → t_2 = res)) → W2 z := by
    intro y2_1 x hM hX
    have hM : L_X3_firstBreak_2 v_t_boxes v_t_fit f_t_clash f_t_near y2_1 = some x := hM
    show W2 y2_1
    rw [hW2]
    intro H locs ls hP hD hS hl
    have hM : (if v_t_boxes ≤ y2_1 then (((lpN (fun z => L_X3_firstBreak_34 v_t_boxes v_t_fit f_t_clash f_t_near z) fuelK (0 : Int32))).map Sum.inr) else (Option.bind (M_X8_has v_t_fit y2_1) (fun t15 => if t15 = 0 then (((some ((1000000 : Int32) + y2_1))).map Sum.inr) else (some (Sum.inl (y2_1 + (1 : Int32))))))) = some x := hM
    refine lv_iload_n hx hb dX3_firstBreak_2 rfl (lv_at hl 1 rfl) ?_
    refine lv_aload_n hx hb dX3_firstBreak_3 rfl (lv_at hl 0 rfl) ?_
    refine va_get (D := (dC, dI)) (ci := 3) (v := .int v_t_boxes) (C := RX3) (T := TX3) (N := 8) hx hb hts in_X3_firstBreak_X3 hown hK hP 0 rfl rfl 1 (by decide) (hts (.fieldLink RX3 15 "NoneWithin$LawTable" "boxes" "I") (by decide +kernel)) (fun _ h9 => h9) rfl dX3_firstBreak_4 ?_
    refine lv_icmp_ge (tgt := 32) hx hb dX3_firstBreak_7 (by decide) (fun c7 => ?_) (fun c7 => ?_)
    · have hM := ifp c7 hM
      obtain ⟨x, hMn, hxe⟩ := mpr hM
      have hX := hX.2 _ hxe
      have hM := hMn
      refine lv_iconst (v := (0 : Int32)) hx hb dX3_firstBreak_32 (by decide) ?_
      refine lv_istore_n (lv' := [(1, .int (0 : Int32)), (0, .ref a_t)]) hx hb dX3_firstBreak_33 rfl hl (by decide) rfl (fun ls hl => ?_)
      obtain ⟨W34, hW34⟩ : ∃ W9 : Int32 → Prop, W9 = fun (y34_1 : Int32) => ∀ (H : Heap) (locs : List Loc) (ls : Array Slot), va_P (dC, dI) classes [(a_t, .inr (3, [.int v_t_law, .int v_t_boxes, .int v_t_fit, .int v_t_low, .int v_t_high, .ref a_t_sets, .ref a_t_clash, .ref a_t_near])), (a_t_clash, .inl (cI, 16, .inl f_t_clash)), (a_t_near, .inl (cI, 16, .inl f_t_near))] H → va_D A [(a_t, .inr (3, [.int v_t_law, .int v_t_boxes, .int v_t_fit, .int v_t_low, .int v_t_high, .ref a_t_sets, .ref a_t_clash, .ref a_t_near])), (a_t_clash, .inl (cI, 16, .inl f_t_clash)), (a_t_near, .inl (cI, 16, .inl f_t_near))] → va_S A s.heap H locs → lv_has ls 4 [(0, .ref a_t), (1, .int y34_1)] → W p l e rm_X3_firstBreak s m ([.ref a_t] : List Value).toArray below meth c H locs 0 0 (MQ below (Qq A) ([.ref a_t] : List Value).toArray s 0 0 A) (F0 m 34 ls []) := ⟨_, rfl⟩
      have hst : ∀ (z : Int32) (x : (Int32 ⊕ Int32)), (fun z => L_X3_firstBreak_34 v_t_boxes v_t_fit f_t_clash f_t_near z) z = some x → ((∀ z', x = Sum.inl z' → W34 z') ∧ (∀ t_34, x = Sum.inr t_34 → t_34 = res)) → W34 z := by
        intro y34_1 x hM hX
        have hM : L_X3_firstBreak_34 v_t_boxes v_t_fit f_t_clash f_t_near y34_1 = some x := hM
        show W34 y34_1
        rw [hW34]
        intro H locs ls hP hD hS hl
        have hM : (if v_t_boxes ≤ y34_1 then (((lpN (fun z => L_X3_firstBreak_82 v_t_boxes v_t_fit f_t_clash f_t_near z) fuelK (0 : Int32))).map Sum.inr) else (ix y34_1 16 (if (((f_t_clash y34_1.toNatClampNeg).toUInt32 >>> ((y34_1 + (1 : Int32)).toUInt32 &&& Int32.toUInt32 31)).toInt32) = 0 then (some (Sum.inl (y34_1 + (1 : Int32)))) else (((Option.bind (M_J6_numberOfTrailingZeros_0f7a4 (((f_t_clash y34_1.toNatClampNeg).toUInt32 >>> ((y34_1 + (1 : Int32)).toUInt32 &&& Int32.toUInt32 31)).toInt32)) (fun t69 => some (((((2000000 : Int32) + ((100 : Int32) * y34_1)) + y34_1) + (1 : Int32)) + t69)))).map Sum.inr)))) = some x := hM
        refine lv_iload_n hx hb dX3_firstBreak_34 rfl (lv_at hl 1 rfl) ?_
        refine lv_aload_n hx hb dX3_firstBreak_35 rfl (lv_at hl 0 rfl) ?_
        refine va_get (D := (dC, dI)) (ci := 3) (v := .int v_t_boxes) (C := RX3) (T := TX3) (N := 8) hx hb hts in_X3_firstBreak_X3 hown hK hP 0 rfl rfl 1 (by decide) (hts (.fieldLink RX3 15 "NoneWithin$LawTable" "boxes" "I") (by decide +kernel)) (fun _ h9 => h9) rfl dX3_firstBreak_36 ?_
        refine lv_icmp_ge (tgt := 80) hx hb dX3_firstBreak_39 (by decide) (fun c39 => ?_) (fun c39 => ?_)
        · have hM := ifp c39 hM
          obtain ⟨x, hMn, hxe⟩ := mpr hM
          have hX := hX.2 _ hxe
          have hM := hMn
          refine lv_iconst (v := (0 : Int32)) hx hb dX3_firstBreak_80 (by decide) ?_
          refine lv_istore_n (lv' := [(1, .int (0 : Int32)), (0, .ref a_t)]) hx hb dX3_firstBreak_81 rfl hl (by decide) rfl (fun ls hl => ?_)
          obtain ⟨W82, hW82⟩ : ∃ W9 : Int32 → Prop, W9 = fun (y82_1 : Int32) => ∀ (H : Heap) (locs : List Loc) (ls : Array Slot), va_P (dC, dI) classes [(a_t, .inr (3, [.int v_t_law, .int v_t_boxes, .int v_t_fit, .int v_t_low, .int v_t_high, .ref a_t_sets, .ref a_t_clash, .ref a_t_near])), (a_t_clash, .inl (cI, 16, .inl f_t_clash)), (a_t_near, .inl (cI, 16, .inl f_t_near))] H → va_D A [(a_t, .inr (3, [.int v_t_law, .int v_t_boxes, .int v_t_fit, .int v_t_low, .int v_t_high, .ref a_t_sets, .ref a_t_clash, .ref a_t_near])), (a_t_clash, .inl (cI, 16, .inl f_t_clash)), (a_t_near, .inl (cI, 16, .inl f_t_near))] → va_S A s.heap H locs → lv_has ls 4 [(0, .ref a_t), (1, .int y82_1)] → W p l e rm_X3_firstBreak s m ([.ref a_t] : List Value).toArray below meth c H locs 0 0 (MQ below (Qq A) ([.ref a_t] : List Value).toArray s 0 0 A) (F0 m 82 ls []) := ⟨_, rfl⟩
          have hst : ∀ (z : Int32) (x : (Int32 ⊕ Int32)), (fun z => L_X3_firstBreak_82 v_t_boxes v_t_fit f_t_clash f_t_near z) z = some x → ((∀ z', x = Sum.inl z' → W82 z') ∧ (∀ t_82, x = Sum.inr t_82 → t_82 = res)) → W82 z := by
            intro y82_1 x hM hX
            have hM : L_X3_firstBreak_82 v_t_boxes v_t_fit f_t_clash f_t_near y82_1 = some x := hM
            show W82 y82_1
            rw [hW82]
            intro H locs ls hP hD hS hl
            have hM : (if v_t_boxes ≤ y82_1 then (((some (-1 : Int32))).map Sum.inr) else (lpN (fun z => L_X3_firstBreak_94 y82_1 v_t_boxes v_t_fit f_t_clash f_t_near z) fuelK (y82_1 + (1 : Int32)))) = some x := hM
            refine lv_iload_n hx hb dX3_firstBreak_82 rfl (lv_at hl 1 rfl) ?_
            refine lv_aload_n hx hb dX3_firstBreak_83 rfl (lv_at hl 0 rfl) ?_
            refine va_get (D := (dC, dI)) (ci := 3) (v := .int v_t_boxes) (C := RX3) (T := TX3) (N := 8) hx hb hts in_X3_firstBreak_X3 hown hK hP 0 rfl rfl 1 (by decide) (hts (.fieldLink RX3 15 "NoneWithin$LawTable" "boxes" "I") (by decide +kernel)) (fun _ h9 => h9) rfl dX3_firstBreak_84 ?_
            refine lv_icmp_ge (tgt := 176) hx hb dX3_firstBreak_87 (by decide) (fun c87 => ?_) (fun c87 => ?_)
            · have hM := ifp c87 hM
              obtain ⟨x, hMn, hxe⟩ := mpr hM
              have hX := hX.2 _ hxe
              have hM := hMn
              refine lv_iconst (v := (-1 : Int32)) hx hb dX3_firstBreak_176 (by decide) ?_
              have hE : res = ((-1 : Int32) : Int32) := ((Option.some.inj hM).trans hX).symm
              rw [hQq, hE]
              exact nw_iret rfl hx hb hr hlocks hK hP hD hS dX3_firstBreak_177
            · have hM := ifn c87 hM
              refine lv_iload_n hx hb dX3_firstBreak_90 rfl (lv_at hl 1 rfl) ?_
              refine lv_iconst (v := (1 : Int32)) hx hb dX3_firstBreak_91 (by decide) ?_
              refine lv_iadd hx hb dX3_firstBreak_92 ?_
              refine lv_istore_n (lv' := [(2, .int (y82_1 + (1 : Int32))), (0, .ref a_t), (1, .int y82_1)]) hx hb dX3_firstBreak_93 rfl hl (by decide) rfl (fun ls hl => ?_)
              obtain ⟨W94, hW94⟩ : ∃ W9 : Int32 → Prop, W9 = fun (y94_2 : Int32) => ∀ (H : Heap) (locs : List Loc) (ls : Array Slot), va_P (dC, dI) classes [(a_t, .inr (3, [.int v_t_law, .int v_t_boxes, .int v_t_fit, .int v_t_low, .int v_t_high, .ref a_t_sets, .ref a_t_clash, .ref a_t_near])), (a_t_clash, .inl (cI, 16, .inl f_t_clash)), (a_t_near, .inl (cI, 16, .inl f_t_near))] H → va_D A [(a_t, .inr (3, [.int v_t_law, .int v_t_boxes, .int v_t_fit, .int v_t_low, .int v_t_high, .ref a_t_sets, .ref a_t_clash, .ref a_t_near])), (a_t_clash, .inl (cI, 16, .inl f_t_clash)), (a_t_near, .inl (cI, 16, .inl f_t_near))] → va_S A s.heap H locs → lv_has ls 4 [(0, .ref a_t), (1, .int y82_1), (2, .int y94_2)] → W p l e rm_X3_firstBreak s m ([.ref a_t] : List Value).toArray below meth c H locs 0 0 (MQ below (Qq A) ([.ref a_t] : List Value).toArray s 0 0 A) (F0 m 94 ls []) := ⟨_, rfl⟩
              have hst : ∀ (z : Int32) (x : (Int32 ⊕ (Int32 ⊕ Int32))), (fun z => L_X3_firstBreak_94 y82_1 v_t_boxes v_t_fit f_t_clash f_t_near z) z = some x → ((∀ z', x = Sum.inl z' → W94 z') ∧ (∀ t_94, x = Sum.inr t_94 → ((∀ z', t_94 = Sum.inl z' → W82 z') ∧ (∀ t_82, t_94 = Sum.inr t_82 → t_82 = res)))) → W94 z := by
                intro y94_2 x hM hX
                have hM : L_X3_firstBreak_94 y82_1 v_t_boxes v_t_fit f_t_clash f_t_near y94_2 = some x := hM
                show W94 y94_2
                rw [hW94]
                intro H locs ls hP hD hS hl
                have J136 : ∀ (x : (Int32 ⊕ (Int32 ⊕ Int32))) (x136_2 : Int32) (s136_0 : Int32) (H : Heap) (locs : List Loc) (ls : Array Slot), B_X3_firstBreak_136 y82_1 x136_2 s136_0 v_t_boxes v_t_fit f_t_clash f_t_near = some x → ((∀ z', x = Sum.inl z' → W94 z') ∧ (∀ t_94, x = Sum.inr t_94 → ((∀ z', t_94 = Sum.inl z' → W82 z') ∧ (∀ t_82, t_94 = Sum.inr t_82 → t_82 = res)))) → va_P (dC, dI) classes [(a_t, .inr (3, [.int v_t_law, .int v_t_boxes, .int v_t_fit, .int v_t_low, .int v_t_high, .ref a_t_sets, .ref a_t_clash, .ref a_t_near])), (a_t_clash, .inl (cI, 16, .inl f_t_clash)), (a_t_near, .inl (cI, 16, .inl f_t_near))] H → va_D A [(a_t, .inr (3, [.int v_t_law, .int v_t_boxes, .int v_t_fit, .int v_t_low, .int v_t_high, .ref a_t_sets, .ref a_t_clash, .ref a_t_near])), (a_t_clash, .inl (cI, 16, .inl f_t_clash)), (a_t_near, .inl (cI, 16, .inl f_t_near))] → va_S A s.heap H locs → lv_has ls 4 [(0, .ref a_t), (1, .int y82_1), (2, .int x136_2)] → W p l e rm_X3_firstBreak s m ([.ref a_t] : List Value).toArray below meth c H locs 0 0 (MQ below (Qq A) ([.ref a_t] : List Value).toArray s 0 0 A) (F0 m 136 ls [.int s136_0]) := by
                  intro x x136_2 s136_0 H locs ls hM hX hP hD hS hl
                  have hM : (if s136_0 = 0 then (some (Sum.inl (x136_2 + (1 : Int32)))) else (((((Option.bind (M_J6_numberOfTrailingZeros_0f7a4 s136_0) (fun t159 => some ((((((3000000 : Int32) + ((10000 : Int32) * y82_1)) + ((100 : Int32) * x136_2)) + x136_2) + (1 : Int32)) + t159)))).map Sum.inr)).map Sum.inr)) = some x := hM
                  refine lv_istore_n (lv' := [(3, .int s136_0), (0, .ref a_t), (1, .int y82_1), (2, .int x136_2)]) hx hb dX3_firstBreak_136 rfl hl (by decide) rfl (fun ls hl => ?_)
                  refine lv_iload_n hx hb dX3_firstBreak_137 rfl (lv_at hl 0 rfl) ?_
                  refine lv_if_eq (tgt := 164) hx hb dX3_firstBreak_138 (by decide) (fun c138 => ?_) (fun c138 => ?_)
                  · have hM := ifp c138 hM
                    refine lv_iinc (v := (x136_2 + (1 : Int32))) (lv' := [(2, .int (x136_2 + (1 : Int32))), (3, .int s136_0), (0, .ref a_t), (1, .int y82_1)]) hx hb dX3_firstBreak_164 hl (k := 3) rfl rfl (by decide) rfl (fun ls hl => ?_)
                    refine lv_goto (tgt := 94) hx hb dX3_firstBreak_167 (by decide) ?_
                    have hw := hX.1 _ (Option.some.inj hM).symm
                    rw [hW94] at hw
                    exact hw H locs ls hP hD hS (lv_sub hl [2, 3, 0] rfl)
                  · have hM := ifn c138 hM
                    obtain ⟨x, hMn, hxe⟩ := mpr hM
                    have hX := hX.2 _ hxe
                    have hM := hMn
                    obtain ⟨x, hMn, hxe⟩ := mpr hM
                    have hX := hX.2 _ hxe
                    have hM := hMn
                    refine lv_ldc (v := (3000000 : Int32)) hx hb hown (hts (.constant RX3 71 (3000000)) (by decide +kernel)) dX3_firstBreak_141 ?_
                    refine lv_sipush (v := (10000 : Int32)) hx hb dX3_firstBreak_143 (by decide) ?_
                    refine lv_iload_n hx hb dX3_firstBreak_146 rfl (lv_at hl 2 rfl) ?_
                    refine lv_imul hx hb dX3_firstBreak_147 ?_
                    refine lv_iadd hx hb dX3_firstBreak_148 ?_
                    refine lv_bipush (v := (100 : Int32)) hx hb dX3_firstBreak_149 (by decide) ?_
                    refine lv_iload_n hx hb dX3_firstBreak_151 rfl (lv_at hl 3 rfl) ?_
                    refine lv_imul hx hb dX3_firstBreak_152 ?_
                    refine lv_iadd hx hb dX3_firstBreak_153 ?_
                    refine lv_iload_n hx hb dX3_firstBreak_154 rfl (lv_at hl 3 rfl) ?_
                    refine lv_iadd hx hb dX3_firstBreak_155 ?_
                    refine lv_iconst (v := (1 : Int32)) hx hb dX3_firstBreak_156 (by decide) ?_
                    refine lv_iadd hx hb dX3_firstBreak_157 ?_
                    refine lv_iload_n hx hb dX3_firstBreak_158 rfl (lv_at hl 0 rfl) ?_
                    obtain ⟨t159, hg159, hM⟩ := bd hM
                    refine nw_i (wc := []) (wr := [(a_t, .inr (3, [.int v_t_law, .int v_t_boxes, .int v_t_fit, .int v_t_low, .int v_t_high, .ref a_t_sets, .ref a_t_clash, .ref a_t_near])), (a_t_clash, .inl (cI, 16, .inl f_t_clash)), (a_t_near, .inl (cI, 16, .inl f_t_near))]) (w1 := []) (wf := [(a_t, .inr (3, [.int v_t_law, .int v_t_boxes, .int v_t_fit, .int v_t_low, .int v_t_high, .ref a_t_sets, .ref a_t_clash, .ref a_t_near])), (a_t_clash, .inl (cI, 16, .inl f_t_clash)), (a_t_near, .inl (cI, 16, .inl f_t_near))]) [] [0, 1, 2] [0, 1, 2] hP hD hS hA rfl rfl rfl (by decide) rfl rfl (nw_runS (As := [.int s136_0]) (rest := [.int (((((3000000 : Int32) + ((10000 : Int32) * y82_1)) + ((100 : Int32) * x136_2)) + x136_2) + (1 : Int32))]) hfix (c_J6_numberOfTrailingZeros_0f7a4 l dC dI cI cJ cZ cQ gx  H.size  s136_0 t159 hg159) (va_cwS 1 hts gX3_firstBreak_J6_numberOfTrailingZeros_0f7a4 rfl rfl rfl (by decide +kernel) ⟨Nat.le_of_ble_eq_true rfl, Nat.le_of_ble_eq_true rfl⟩) hP hD hK hN hS hA hG [] rfl rfl hl.1 rfl rfl (Nat.le_of_ble_eq_true rfl) dX3_firstBreak_159 ⟨Nat.zero_le _, Nat.zero_le _⟩) (fun H locs hP hD hS => ?_)
                    refine lv_iadd hx hb dX3_firstBreak_162 ?_
                    have hE : res = (((((((3000000 : Int32) + ((10000 : Int32) * y82_1)) + ((100 : Int32) * x136_2)) + x136_2) + (1 : Int32)) + t159) : Int32) := ((Option.some.inj hM).trans hX).symm
                    rw [hQq, hE]
                    exact nw_iret rfl hx hb hr hlocks hK hP hD hS dX3_firstBreak_163
                have hM : (if v_t_boxes ≤ y94_2 then (((some (Sum.inl (y82_1 + (1 : Int32))))).map Sum.inr) else (ix y82_1 16 (Option.bind (M_X8_has (f_t_near y82_1.toNatClampNeg) y94_2) (fun t109 => if t109 = 0 then (B_X3_firstBreak_136 y82_1 y94_2 (0 : Int32) v_t_boxes v_t_fit f_t_clash f_t_near) else (ix y82_1 16 (ix y94_2 16 (B_X3_firstBreak_136 y82_1 y94_2 ((((f_t_near y82_1.toNatClampNeg) &&& (f_t_near y94_2.toNatClampNeg)).toUInt32 >>> ((y94_2 + (1 : Int32)).toUInt32 &&& Int32.toUInt32 31)).toInt32) v_t_boxes v_t_fit f_t_clash f_t_near))))))) = some x := hM
                refine lv_iload_n hx hb dX3_firstBreak_94 rfl (lv_at hl 2 rfl) ?_
                refine lv_aload_n hx hb dX3_firstBreak_95 rfl (lv_at hl 0 rfl) ?_
                refine va_get (D := (dC, dI)) (ci := 3) (v := .int v_t_boxes) (C := RX3) (T := TX3) (N := 8) hx hb hts in_X3_firstBreak_X3 hown hK hP 0 rfl rfl 1 (by decide) (hts (.fieldLink RX3 15 "NoneWithin$LawTable" "boxes" "I") (by decide +kernel)) (fun _ h9 => h9) rfl dX3_firstBreak_96 ?_
                refine lv_icmp_ge (tgt := 170) hx hb dX3_firstBreak_99 (by decide) (fun c99 => ?_) (fun c99 => ?_)
                · have hM := ifp c99 hM
                  obtain ⟨x, hMn, hxe⟩ := mpr hM
                  have hX := hX.2 _ hxe
                  have hM := hMn
                  refine lv_iinc (v := (y82_1 + (1 : Int32))) (lv' := [(1, .int (y82_1 + (1 : Int32))), (0, .ref a_t), (2, .int y94_2)]) hx hb dX3_firstBreak_170 hl (k := 1) rfl rfl (by decide) rfl (fun ls hl => ?_)
                  refine lv_goto (tgt := 82) hx hb dX3_firstBreak_173 (by decide) ?_
                  have hw := hX.1 _ (Option.some.inj hM).symm
                  rw [hW82] at hw
                  exact hw H locs ls hP hD hS (lv_sub hl [1, 0] rfl)
                · have hM := ifn c99 hM
                  refine lv_aload_n hx hb dX3_firstBreak_102 rfl (lv_at hl 0 rfl) ?_
                  refine va_get (D := (dC, dI)) (ci := 3) (v := .ref a_t_near) (C := RX3) (T := TX3) (N := 8) hx hb hts in_X3_firstBreak_X3 hown hK hP 0 rfl rfl 7 (by decide) (hts (.fieldLink RX3 34 "NoneWithin$LawTable" "near" "[I") (by decide +kernel)) (fun _ h9 => h9) rfl dX3_firstBreak_103 ?_
                  refine lv_iload_n hx hb dX3_firstBreak_106 rfl (lv_at hl 1 rfl) ?_
                  obtain ⟨hin, hM⟩ := ixp hM
                  refine va_iald hx hb hK hP 2 0 rfl rfl hin dX3_firstBreak_107 ?_
                  refine lv_iload_n hx hb dX3_firstBreak_108 rfl (lv_at hl 2 rfl) ?_
                  obtain ⟨t109, hg109, hM⟩ := bd hM
                  refine nw_i (wc := []) (wr := [(a_t, .inr (3, [.int v_t_law, .int v_t_boxes, .int v_t_fit, .int v_t_low, .int v_t_high, .ref a_t_sets, .ref a_t_clash, .ref a_t_near])), (a_t_clash, .inl (cI, 16, .inl f_t_clash)), (a_t_near, .inl (cI, 16, .inl f_t_near))]) (w1 := []) (wf := [(a_t, .inr (3, [.int v_t_law, .int v_t_boxes, .int v_t_fit, .int v_t_low, .int v_t_high, .ref a_t_sets, .ref a_t_clash, .ref a_t_near])), (a_t_clash, .inl (cI, 16, .inl f_t_clash)), (a_t_near, .inl (cI, 16, .inl f_t_near))]) [] [0, 1, 2] [0, 1, 2] hP hD hS hA rfl rfl rfl (by decide) rfl rfl (nw_runSN (As := [.int (f_t_near y82_1.toNatClampNeg), .int y94_2]) (rest := []) hfix (c_X8_has l dC dI cI cJ cZ cQ gx  H.size  (f_t_near y82_1.toNatClampNeg) y94_2 t109 hg109) ⟨va_cnB 2 hts gX3_firstBreak_X8_has_n60 rfl rfl rfl (hN.2.2.2.1) (hts (.initialized RX8) (by decide +kernel)) (by decide +kernel) ⟨Nat.le_of_ble_eq_true rfl, Nat.le_of_ble_eq_true rfl⟩, (hts (.static yX8_has) (by decide +kernel)), trivial⟩ hP hD hK hN hS hA hG [] rfl rfl hl.1 rfl rfl (Nat.le_of_ble_eq_true rfl) dX3_firstBreak_109 ⟨Nat.zero_le _, Nat.zero_le _⟩) (fun H locs hP hD hS => ?_)
                  refine lv_if_eq (tgt := 135) hx hb dX3_firstBreak_112 (by decide) (fun c112 => ?_) (fun c112 => ?_)
                  · have hM := ifp c112 hM
                    refine lv_iconst (v := (0 : Int32)) hx hb dX3_firstBreak_135 (by decide) ?_
                    exact J136 _ y94_2 (0 : Int32) H locs ls hM hX hP hD hS (lv_sub hl [0, 1, 2] rfl)
                  · have hM := ifn c112 hM
                    refine lv_aload_n hx hb dX3_firstBreak_115 rfl (lv_at hl 0 rfl) ?_
                    refine va_get (D := (dC, dI)) (ci := 3) (v := .ref a_t_near) (C := RX3) (T := TX3) (N := 8) hx hb hts in_X3_firstBreak_X3 hown hK hP 0 rfl rfl 7 (by decide) (hts (.fieldLink RX3 34 "NoneWithin$LawTable" "near" "[I") (by decide +kernel)) (fun _ h9 => h9) rfl dX3_firstBreak_116 ?_
                    refine lv_iload_n hx hb dX3_firstBreak_119 rfl (lv_at hl 1 rfl) ?_
                    obtain ⟨hin, hM⟩ := ixp hM
                    refine va_iald hx hb hK hP 2 0 rfl rfl hin dX3_firstBreak_120 ?_
                    refine lv_aload_n hx hb dX3_firstBreak_121 rfl (lv_at hl 0 rfl) ?_
                    refine va_get (D := (dC, dI)) (ci := 3) (v := .ref a_t_near) (C := RX3) (T := TX3) (N := 8) hx hb hts in_X3_firstBreak_X3 hown hK hP 0 rfl rfl 7 (by decide) (hts (.fieldLink RX3 34 "NoneWithin$LawTable" "near" "[I") (by decide +kernel)) (fun _ h9 => h9) rfl dX3_firstBreak_122 ?_
                    refine lv_iload_n hx hb dX3_firstBreak_125 rfl (lv_at hl 2 rfl) ?_
                    obtain ⟨hin, hM⟩ := ixp hM
                    refine va_iald hx hb hK hP 2 0 rfl rfl hin dX3_firstBreak_126 ?_
                    refine lv_iand hx hb dX3_firstBreak_127 ?_
                    refine lv_iload_n hx hb dX3_firstBreak_128 rfl (lv_at hl 2 rfl) ?_
                    refine lv_iconst (v := (1 : Int32)) hx hb dX3_firstBreak_129 (by decide) ?_
                    refine lv_iadd hx hb dX3_firstBreak_130 ?_
                    refine lv_iushr hx hb dX3_firstBreak_131 rfl ?_
                    refine lv_goto (tgt := 136) hx hb dX3_firstBreak_132 (by decide) ?_
                    exact J136 _ y94_2 ((((f_t_near y82_1.toNatClampNeg) &&& (f_t_near y94_2.toNatClampNeg)).toUInt32 >>> ((y94_2 + (1 : Int32)).toUInt32 &&& Int32.toUInt32 31)).toInt32) H locs ls hM hX hP hD hS (lv_sub hl [0, 1, 2] rfl)
              have hw := lp_walk (Wp := fun z => W94 z) (X := fun t => ((∀ z', t = Sum.inl z' → W82 z') ∧ (∀ t_82, t = Sum.inr t_82 → t_82 = res))) hst _ _ _ hM hX
              rw [hW94] at hw
              exact hw H locs ls hP hD hS (lv_sub hl [1, 2, 0] rfl)
          have hw := lp_walk (Wp := fun z => W82 z) (X := fun t => t = res) hst _ _ _ hM hX
          rw [hW82] at hw
          exact hw H locs ls hP hD hS (lv_sub hl [1, 0] rfl)
        · have hM := ifn c39 hM
          refine lv_aload_n hx hb dX3_firstBreak_42 rfl (lv_at hl 0 rfl) ?_
          refine va_get (D := (dC, dI)) (ci := 3) (v := .ref a_t_clash) (C := RX3) (T := TX3) (N := 8) hx hb hts in_X3_firstBreak_X3 hown hK hP 0 rfl rfl 6 (by decide) (hts (.fieldLink RX3 31 "NoneWithin$LawTable" "clash" "[I") (by decide +kernel)) (fun _ h9 => h9) rfl dX3_firstBreak_43 ?_
          refine lv_iload_n hx hb dX3_firstBreak_46 rfl (lv_at hl 1 rfl) ?_
          obtain ⟨hin, hM⟩ := ixp hM
          refine va_iald hx hb hK hP 1 0 rfl rfl hin dX3_firstBreak_47 ?_
          refine lv_iload_n hx hb dX3_firstBreak_48 rfl (lv_at hl 1 rfl) ?_
          refine lv_iconst (v := (1 : Int32)) hx hb dX3_firstBreak_49 (by decide) ?_
          refine lv_iadd hx hb dX3_firstBreak_50 ?_
          refine lv_iushr hx hb dX3_firstBreak_51 rfl ?_
          refine lv_istore_n (lv' := [(2, .int (((f_t_clash y34_1.toNatClampNeg).toUInt32 >>> ((y34_1 + (1 : Int32)).toUInt32 &&& Int32.toUInt32 31)).toInt32)), (0, .ref a_t), (1, .int y34_1)]) hx hb dX3_firstBreak_52 rfl hl (by decide) rfl (fun ls hl => ?_)
          refine lv_iload_n hx hb dX3_firstBreak_53 rfl (lv_at hl 0 rfl) ?_
          refine lv_if_eq (tgt := 74) hx hb dX3_firstBreak_54 (by decide) (fun c54 => ?_) (fun c54 => ?_)
          · have hM := ifp c54 hM
            refine lv_iinc (v := (y34_1 + (1 : Int32))) (lv' := [(1, .int (y34_1 + (1 : Int32))), (2, .int (((f_t_clash y34_1.toNatClampNeg).toUInt32 >>> ((y34_1 + (1 : Int32)).toUInt32 &&& Int32.toUInt32 31)).toInt32)), (0, .ref a_t)]) hx hb dX3_firstBreak_74 hl (k := 2) rfl rfl (by decide) rfl (fun ls hl => ?_)
            refine lv_goto (tgt := 34) hx hb dX3_firstBreak_77 (by decide) ?_
            have hw := hX.1 _ (Option.some.inj hM).symm
            rw [hW34] at hw
            exact hw H locs ls hP hD hS (lv_sub hl [2, 0] rfl)
          · have hM := ifn c54 hM
            obtain ⟨x, hMn, hxe⟩ := mpr hM
            have hX := hX.2 _ hxe
            have hM := hMn
            refine lv_ldc (v := (2000000 : Int32)) hx hb hown (hts (.constant RX3 65 (2000000)) (by decide +kernel)) dX3_firstBreak_57 ?_
            refine lv_bipush (v := (100 : Int32)) hx hb dX3_firstBreak_59 (by decide) ?_
            refine lv_iload_n hx hb dX3_firstBreak_61 rfl (lv_at hl 2 rfl) ?_
            refine lv_imul hx hb dX3_firstBreak_62 ?_
            refine lv_iadd hx hb dX3_firstBreak_63 ?_
            refine lv_iload_n hx hb dX3_firstBreak_64 rfl (lv_at hl 2 rfl) ?_
            refine lv_iadd hx hb dX3_firstBreak_65 ?_
            refine lv_iconst (v := (1 : Int32)) hx hb dX3_firstBreak_66 (by decide) ?_
            refine lv_iadd hx hb dX3_firstBreak_67 ?_
            refine lv_iload_n hx hb dX3_firstBreak_68 rfl (lv_at hl 0 rfl) ?_
            obtain ⟨t69, hg69, hM⟩ := bd hM
            refine nw_i (wc := []) (wr := [(a_t, .inr (3, [.int v_t_law, .int v_t_boxes, .int v_t_fit, .int v_t_low, .int v_t_high, .ref a_t_sets, .ref a_t_clash, .ref a_t_near])), (a_t_clash, .inl (cI, 16, .inl f_t_clash)), (a_t_near, .inl (cI, 16, .inl f_t_near))]) (w1 := []) (wf := [(a_t, .inr (3, [.int v_t_law, .int v_t_boxes, .int v_t_fit, .int v_t_low, .int v_t_high, .ref a_t_sets, .ref a_t_clash, .ref a_t_near])), (a_t_clash, .inl (cI, 16, .inl f_t_clash)), (a_t_near, .inl (cI, 16, .inl f_t_near))]) [] [0, 1, 2] [0, 1, 2] hP hD hS hA rfl rfl rfl (by decide) rfl rfl (nw_runS (As := [.int (((f_t_clash y34_1.toNatClampNeg).toUInt32 >>> ((y34_1 + (1 : Int32)).toUInt32 &&& Int32.toUInt32 31)).toInt32)]) (rest := [.int ((((2000000 : Int32) + ((100 : Int32) * y34_1)) + y34_1) + (1 : Int32))]) hfix (c_J6_numberOfTrailingZeros_0f7a4 l dC dI cI cJ cZ cQ gx  H.size  (((f_t_clash y34_1.toNatClampNeg).toUInt32 >>> ((y34_1 + (1 : Int32)).toUInt32 &&& Int32.toUInt32 31)).toInt32) t69 hg69) (va_cwS 1 hts gX3_firstBreak_J6_numberOfTrailingZeros_0f7a4 rfl rfl rfl (by decide +kernel) ⟨Nat.le_of_ble_eq_true rfl, Nat.le_of_ble_eq_true rfl⟩) hP hD hK hN hS hA hG [] rfl rfl hl.1 rfl rfl (Nat.le_of_ble_eq_true rfl) dX3_firstBreak_69 ⟨Nat.zero_le _, Nat.zero_le _⟩) (fun H locs hP hD hS => ?_)
            refine lv_iadd hx hb dX3_firstBreak_72 ?_
            have hE : res = ((((((2000000 : Int32) + ((100 : Int32) * y34_1)) + y34_1) + (1 : Int32)) + t69) : Int32) := ((Option.some.inj hM).trans hX).symm
            rw [hQq, hE]
            exact nw_iret rfl hx hb hr hlocks hK hP hD hS dX3_firstBreak_73
      have hw := lp_walk (Wp := fun z => W34 z) (X := fun t => t = res) hst _ _ _ hM hX
      rw [hW34] at hw
      exact hw H locs ls hP hD hS (lv_sub hl [1, 0] rfl)
    · have hM := ifn c7 hM
      refine lv_aload_n hx hb dX3_firstBreak_10 rfl (lv_at hl 0 rfl) ?_
      refine va_get (D := (dC, dI)) (ci := 3) (v := .int v_t_fit) (C := RX3) (T := TX3) (N := 8) hx hb hts in_X3_firstBreak_X3 hown hK hP 0 rfl rfl 2 (by decide) (hts (.fieldLink RX3 18 "NoneWithin$LawTable" "fit" "I") (by decide +kernel)) (fun _ h9 => h9) rfl dX3_firstBreak_11 ?_
      refine lv_iload_n hx hb dX3_firstBreak_14 rfl (lv_at hl 1 rfl) ?_
      obtain ⟨t15, hg15, hM⟩ := bd hM
      refine nw_i (wc := []) (wr := [(a_t, .inr (3, [.int v_t_law, .int v_t_boxes, .int v_t_fit, .int v_t_low, .int v_t_high, .ref a_t_sets, .ref a_t_clash, .ref a_t_near])), (a_t_clash, .inl (cI, 16, .inl f_t_clash)), (a_t_near, .inl (cI, 16, .inl f_t_near))]) (w1 := []) (wf := [(a_t, .inr (3, [.int v_t_law, .int v_t_boxes, .int v_t_fit, .int v_t_low, .int v_t_high, .ref a_t_sets, .ref a_t_clash, .ref a_t_near])), (a_t_clash, .inl (cI, 16, .inl f_t_clash)), (a_t_near, .inl (cI, 16, .inl f_t_near))]) [] [0, 1, 2] [0, 1, 2] hP hD hS hA rfl rfl rfl (by decide) rfl rfl (nw_runSN (As := [.int v_t_fit, .int y2_1]) (rest := []) hfix (c_X8_has l dC dI cI cJ cZ cQ gx  H.size  v_t_fit y2_1 t15 hg15) ⟨va_cnB 2 hts gX3_firstBreak_X8_has_n60 rfl rfl rfl (hN.2.2.2.1) (hts (.initialized RX8) (by decide +kernel)) (by decide +kernel) ⟨Nat.le_of_ble_eq_true rfl, Nat.le_of_ble_eq_true rfl⟩, (hts (.static yX8_has) (by decide +kernel)), trivial⟩ hP hD hK hN hS hA hG [] rfl rfl hl.1 rfl rfl (Nat.le_of_ble_eq_true rfl) dX3_firstBreak_15 ⟨Nat.zero_le _, Nat.zero_le _⟩) (fun H locs hP hD hS => ?_)
      refine lv_if_ne (tgt := 26) hx hb dX3_firstBreak_18 (by decide) (fun c18 => ?_) (fun c18 => ?_)
      · have hM := ifn c18 hM
        refine lv_iinc (v := (y2_1 + (1 : Int32))) (lv' := [(1, .int (y2_1 + (1 : Int32))), (0, .ref a_t)]) hx hb dX3_firstBreak_26 hl (k := 1) rfl rfl (by decide) rfl (fun ls hl => ?_)
        refine lv_goto (tgt := 2) hx hb dX3_firstBreak_29 (by decide) ?_
        have hw := hX.1 _ (Option.some.inj hM).symm
        rw [hW2] at hw
        exact hw H locs ls hP hD hS (lv_sub hl [1, 0] rfl)
      · have hM := ifp c18 hM
        obtain ⟨x, hMn, hxe⟩ := mpr hM
        have hX := hX.2 _ hxe
        have hM := hMn
        refine lv_ldc (v := (1000000 : Int32)) hx hb hown (hts (.constant RX3 64 (1000000)) (by decide +kernel)) dX3_firstBreak_21 ?_
        refine lv_iload_n hx hb dX3_firstBreak_23 rfl (lv_at hl 1 rfl) ?_
        refine lv_iadd hx hb dX3_firstBreak_24 ?_
        have hE : res = (((1000000 : Int32) + y2_1) : Int32) := ((Option.some.inj hM).trans hX).symm
        rw [hQq, hE]
        exact nw_iret rfl hx hb hr hlocks hK hP hD hS dX3_firstBreak_25
  have hw := lp_walk (Wp := fun z => W2 z) (X := fun t => t = res) hst _ _ _ hM hX
  rw [hW2] at hw
  exact hw H locs ls hP hD hS (lv_sub hl [1, 0] rfl)
abbrev rm_X3_admits : Room := { frames := 3, cells := 0, slots := 0, locals := 68 }
set_option maxHeartbeats 4000000 in
set_option maxRecDepth 100000 in
theorem c_X3_admits (l : Launch) (dC : Nat → ClassId) (dI : Nat → Nat → Nat) (cI cJ cZ cQ : ClassId) (gx : GX) (a_t a_t_near a_t_sets a_t_clash : Nat) (sz : Nat) (v_t_law : Int32) (v_t_boxes : Int32) (v_t_fit : Int32) (v_t_low : Int32) (v_t_high : Int32) (f_t_near : (Nat → Int32)) (f_t_sets : (Nat → Int32)) (p0 : Int32) (res : Int32) (hM : M_X3_admits v_t_boxes v_t_high v_t_law v_t_low f_t_near f_t_sets p0 = some res) : Met l yX3_admits wsX3_admits rm_X3_admits (kP dC dI cI cJ cZ cQ gx [.ref a_t, .int p0] sz [(a_t, .inr (3, [.int v_t_law, .int v_t_boxes, .int v_t_fit, .int v_t_low, .int v_t_high, .ref a_t_sets, .ref a_t_clash, .ref a_t_near])), (a_t_near, .inl (cI, 16, .inl f_t_near)), (a_t_sets, .inl (cI, 16, .inl f_t_sets))]) (kQi dC dI cI cJ cZ cQ res [(a_t, .inr (3, [.int v_t_law, .int v_t_boxes, .int v_t_fit, .int v_t_low, .int v_t_high, .ref a_t_sets, .ref a_t_clash, .ref a_t_near])), (a_t_near, .inl (cI, 16, .inl f_t_near)), (a_t_sets, .inl (cI, 16, .inl f_t_sets))] (va_A [(a_t, .inr (3, [.int v_t_law, .int v_t_boxes, .int v_t_fit, .int v_t_low, .int v_t_high, .ref a_t_sets, .ref a_t_clash, .ref a_t_near])), (a_t_near, .inl (cI, 16, .inl f_t_near)), (a_t_sets, .inl (cI, 16, .inl f_t_sets))] sz)) 0 0 (va_A [(a_t, .inr (3, [.int v_t_law, .int v_t_boxes, .int v_t_fit, .int v_t_low, .int v_t_high, .ref a_t_sets, .ref a_t_clash, .ref a_t_near])), (a_t_near, .inl (cI, 16, .inl f_t_near)), (a_t_sets, .inl (cI, 16, .inl f_t_sets))] sz) := by
  refine nw_entry (y := yX3_admits) (ws := wsX3_admits) (rm := rm_X3_admits) (sz := sz) (wpre := [(a_t, .inr (3, [.int v_t_law, .int v_t_boxes, .int v_t_fit, .int v_t_low, .int v_t_high, .ref a_t_sets, .ref a_t_clash, .ref a_t_near])), (a_t_near, .inl (cI, 16, .inl f_t_near)), (a_t_sets, .inl (cI, 16, .inl f_t_sets))]) (av := [.ref a_t, .int p0]) (Qc := (kQi dC dI cI cJ cZ cQ res [(a_t, .inr (3, [.int v_t_law, .int v_t_boxes, .int v_t_fit, .int v_t_low, .int v_t_high, .ref a_t_sets, .ref a_t_clash, .ref a_t_near])), (a_t_near, .inl (cI, 16, .inl f_t_near)), (a_t_sets, .inl (cI, 16, .inl f_t_sets))])) (cc := cX3_admits) (own := RX3) [(0, .ref a_t), (1, .int p0)] (by decide) rfl rfl (Nat.le_of_ble_eq_true rfl) rfl ?_
  intro p e s m below meth c A ls H locs hfix hr hlocks hin0 hsz0 hP hK hD hA hS hN hG hl
  obtain ⟨hx, hb, hml, hown, hts⟩ := id hfix
  obtain ⟨Qq, hQq⟩ : ∃ Q9, Q9 = (kQi dC dI cI cJ cZ cQ res [(a_t, .inr (3, [.int v_t_law, .int v_t_boxes, .int v_t_fit, .int v_t_low, .int v_t_high, .ref a_t_sets, .ref a_t_clash, .ref a_t_near])), (a_t_near, .inl (cI, 16, .inl f_t_near)), (a_t_sets, .inl (cI, 16, .inl f_t_sets))]) := ⟨_, rfl⟩
  rw [← hQq]
  have hX : res = res := rfl
  have hM : (Option.bind (M_X3_fitsAlone v_t_high v_t_law v_t_low p0) (fun t2 => if t2 = 0 then (some (0 : Int32)) else (Option.bind (M_X3_clashing v_t_boxes v_t_law f_t_sets p0) (fun t10 => if t10 = 0 then (Option.bind (M_X3_nearTo v_t_boxes v_t_law f_t_sets p0) (fun t21 => Option.bind (M_X3_anyTwoNear v_t_boxes f_t_near t21) (fun t24 => if t24 = 0 then (some (1 : Int32)) else (some (0 : Int32))))) else (some (0 : Int32)))))) = some res := hM
  refine lv_aload_n hx hb dX3_admits_0 rfl (lv_at hl 0 rfl) ?_
  refine lv_iload_n hx hb dX3_admits_1 rfl (lv_at hl 1 rfl) ?_
  obtain ⟨t2, hg2, hM⟩ := bd hM
  refine nw_i (wc := [(a_t, .inr (3, [.int v_t_law, .int v_t_boxes, .int v_t_fit, .int v_t_low, .int v_t_high, .ref a_t_sets, .ref a_t_clash, .ref a_t_near]))]) (wr := [(a_t_near, .inl (cI, 16, .inl f_t_near)), (a_t_sets, .inl (cI, 16, .inl f_t_sets))]) (w1 := [(a_t, .inr (3, [.int v_t_law, .int v_t_boxes, .int v_t_fit, .int v_t_low, .int v_t_high, .ref a_t_sets, .ref a_t_clash, .ref a_t_near]))]) (wf := [(a_t, .inr (3, [.int v_t_law, .int v_t_boxes, .int v_t_fit, .int v_t_low, .int v_t_high, .ref a_t_sets, .ref a_t_clash, .ref a_t_near])), (a_t_near, .inl (cI, 16, .inl f_t_near)), (a_t_sets, .inl (cI, 16, .inl f_t_sets))]) [0] [1, 2] [2, 0, 1] hP hD hS hA rfl rfl rfl (by decide) rfl rfl (nw_runV (As := [.int p0]) (rest := []) hfix (c_X3_fitsAlone l dC dI cI cJ cZ cQ gx a_t a_t_sets a_t_clash a_t_near H.size v_t_law v_t_boxes v_t_fit v_t_low v_t_high p0 t2 hg2) (cwV 1 hts gX3_admits_X3_fitsAlone rfl rfl rfl (by decide +kernel) ⟨Nat.le_of_ble_eq_true rfl, Nat.le_of_ble_eq_true rfl⟩) hP hD hK hN hS hA hG [0] rfl rfl 0 3 rfl rfl rfl hl.1 rfl rfl (Nat.le_of_ble_eq_true rfl) dX3_admits_2 ⟨Nat.zero_le _, Nat.zero_le _⟩) (fun H locs hP hD hS => ?_)
  refine lv_if_eq (tgt := 16) hx hb dX3_admits_5 (by decide) (fun c5 => ?_) (fun c5 => ?_)
  · have hM := ifp c5 hM
    refine lv_iconst (v := (0 : Int32)) hx hb dX3_admits_16 (by decide) ?_
    have hE : res = ((0 : Int32) : Int32) := ((Option.some.inj hM).trans hX).symm
    rw [hQq, hE]
    exact nw_zret rfl rfl hx hb hr hlocks hK hP hD hS dX3_admits_17
  · have hM := ifn c5 hM
    refine lv_aload_n hx hb dX3_admits_8 rfl (lv_at hl 0 rfl) ?_
    refine lv_iload_n hx hb dX3_admits_9 rfl (lv_at hl 1 rfl) ?_
    obtain ⟨t10, hg10, hM⟩ := bd hM
    refine nw_i (wc := [(a_t, .inr (3, [.int v_t_law, .int v_t_boxes, .int v_t_fit, .int v_t_low, .int v_t_high, .ref a_t_sets, .ref a_t_clash, .ref a_t_near])), (a_t_sets, .inl (cI, 16, .inl f_t_sets))]) (wr := [(a_t_near, .inl (cI, 16, .inl f_t_near))]) (w1 := [(a_t, .inr (3, [.int v_t_law, .int v_t_boxes, .int v_t_fit, .int v_t_low, .int v_t_high, .ref a_t_sets, .ref a_t_clash, .ref a_t_near])), (a_t_sets, .inl (cI, 16, .inl f_t_sets))]) (wf := [(a_t, .inr (3, [.int v_t_law, .int v_t_boxes, .int v_t_fit, .int v_t_low, .int v_t_high, .ref a_t_sets, .ref a_t_clash, .ref a_t_near])), (a_t_near, .inl (cI, 16, .inl f_t_near)), (a_t_sets, .inl (cI, 16, .inl f_t_sets))]) [0, 2] [1] [1, 0, 2] hP hD hS hA rfl rfl rfl (by decide) rfl rfl (nw_runV (As := [.int p0]) (rest := []) hfix (c_X3_clashing l dC dI cI cJ cZ cQ gx a_t a_t_sets a_t_clash a_t_near H.size v_t_law v_t_boxes v_t_fit v_t_low v_t_high f_t_sets p0 t10 hg10) (cwV 1 hts gX3_admits_X3_clashing rfl rfl rfl (by decide +kernel) ⟨Nat.le_of_ble_eq_true rfl, Nat.le_of_ble_eq_true rfl⟩) hP hD hK hN hS hA hG [0, 2] rfl rfl 0 3 rfl rfl rfl hl.1 rfl rfl (Nat.le_of_ble_eq_true rfl) dX3_admits_10 ⟨Nat.zero_le _, Nat.zero_le _⟩) (fun H locs hP hD hS => ?_)
    refine lv_if_eq (tgt := 18) hx hb dX3_admits_13 (by decide) (fun c13 => ?_) (fun c13 => ?_)
    · have hM := ifp c13 hM
      refine lv_aload_n hx hb dX3_admits_18 rfl (lv_at hl 0 rfl) ?_
      refine lv_aload_n hx hb dX3_admits_19 rfl (lv_at hl 0 rfl) ?_
      refine lv_iload_n hx hb dX3_admits_20 rfl (lv_at hl 1 rfl) ?_
      obtain ⟨t21, hg21, hM⟩ := bd hM
      refine nw_i (wc := [(a_t, .inr (3, [.int v_t_law, .int v_t_boxes, .int v_t_fit, .int v_t_low, .int v_t_high, .ref a_t_sets, .ref a_t_clash, .ref a_t_near])), (a_t_sets, .inl (cI, 16, .inl f_t_sets))]) (wr := [(a_t_near, .inl (cI, 16, .inl f_t_near))]) (w1 := [(a_t, .inr (3, [.int v_t_law, .int v_t_boxes, .int v_t_fit, .int v_t_low, .int v_t_high, .ref a_t_sets, .ref a_t_clash, .ref a_t_near])), (a_t_sets, .inl (cI, 16, .inl f_t_sets))]) (wf := [(a_t, .inr (3, [.int v_t_law, .int v_t_boxes, .int v_t_fit, .int v_t_low, .int v_t_high, .ref a_t_sets, .ref a_t_clash, .ref a_t_near])), (a_t_near, .inl (cI, 16, .inl f_t_near)), (a_t_sets, .inl (cI, 16, .inl f_t_sets))]) [0, 2] [1] [1, 0, 2] hP hD hS hA rfl rfl rfl (by decide) rfl rfl (nw_runV (As := [.int p0]) (rest := [.ref a_t]) hfix (c_X3_nearTo l dC dI cI cJ cZ cQ gx a_t a_t_sets a_t_clash a_t_near H.size v_t_law v_t_boxes v_t_fit v_t_low v_t_high f_t_sets p0 t21 hg21) (cwV 1 hts gX3_admits_X3_nearTo rfl rfl rfl (by decide +kernel) ⟨Nat.le_of_ble_eq_true rfl, Nat.le_of_ble_eq_true rfl⟩) hP hD hK hN hS hA hG [0, 2] rfl rfl 0 3 rfl rfl rfl hl.1 rfl rfl (Nat.le_of_ble_eq_true rfl) dX3_admits_21 ⟨Nat.zero_le _, Nat.zero_le _⟩) (fun H locs hP hD hS => ?_)
      obtain ⟨t24, hg24, hM⟩ := bd hM
      refine nw_i (wc := [(a_t, .inr (3, [.int v_t_law, .int v_t_boxes, .int v_t_fit, .int v_t_low, .int v_t_high, .ref a_t_sets, .ref a_t_clash, .ref a_t_near])), (a_t_near, .inl (cI, 16, .inl f_t_near))]) (wr := [(a_t_sets, .inl (cI, 16, .inl f_t_sets))]) (w1 := [(a_t, .inr (3, [.int v_t_law, .int v_t_boxes, .int v_t_fit, .int v_t_low, .int v_t_high, .ref a_t_sets, .ref a_t_clash, .ref a_t_near])), (a_t_near, .inl (cI, 16, .inl f_t_near))]) (wf := [(a_t, .inr (3, [.int v_t_law, .int v_t_boxes, .int v_t_fit, .int v_t_low, .int v_t_high, .ref a_t_sets, .ref a_t_clash, .ref a_t_near])), (a_t_near, .inl (cI, 16, .inl f_t_near)), (a_t_sets, .inl (cI, 16, .inl f_t_sets))]) [0, 1] [2] [1, 2, 0] hP hD hS hA rfl rfl rfl (by decide) rfl rfl (nw_runV (As := [.int t21]) (rest := []) hfix (c_X3_anyTwoNear l dC dI cI cJ cZ cQ gx a_t a_t_near a_t_sets a_t_clash H.size v_t_law v_t_boxes v_t_fit v_t_low v_t_high f_t_near t21 t24 hg24) (cwV 1 hts gX3_admits_X3_anyTwoNear rfl rfl rfl (by decide +kernel) ⟨Nat.le_of_ble_eq_true rfl, Nat.le_of_ble_eq_true rfl⟩) hP hD hK hN hS hA hG [0, 1] rfl rfl 0 3 rfl rfl rfl hl.1 rfl rfl (Nat.le_of_ble_eq_true rfl) dX3_admits_24 ⟨Nat.zero_le _, Nat.zero_le _⟩) (fun H locs hP hD hS => ?_)
      refine lv_if_ne (tgt := 34) hx hb dX3_admits_27 (by decide) (fun c27 => ?_) (fun c27 => ?_)
      · have hM := ifn c27 hM
        refine lv_iconst (v := (0 : Int32)) hx hb dX3_admits_34 (by decide) ?_
        have hE : res = ((0 : Int32) : Int32) := ((Option.some.inj hM).trans hX).symm
        rw [hQq, hE]
        exact nw_zret rfl rfl hx hb hr hlocks hK hP hD hS dX3_admits_35
      · have hM := ifp c27 hM
        refine lv_iconst (v := (1 : Int32)) hx hb dX3_admits_30 (by decide) ?_
        refine lv_goto (tgt := 35) hx hb dX3_admits_31 (by decide) ?_
        have hE : res = ((1 : Int32) : Int32) := ((Option.some.inj hM).trans hX).symm
        rw [hQq, hE]
        exact nw_zret rfl rfl hx hb hr hlocks hK hP hD hS dX3_admits_35
    · have hM := ifn c13 hM
      refine lv_iconst (v := (0 : Int32)) hx hb dX3_admits_16 (by decide) ?_
      have hE : res = ((0 : Int32) : Int32) := ((Option.some.inj hM).trans hX).symm
      rw [hQq, hE]
      exact nw_zret rfl rfl hx hb hr hlocks hK hP hD hS dX3_admits_17
theorem in_X4_noteWhole_X4 : ∀ w ∈ wsX40, w ∈ wsX4_noteWhole := fun _ h => List.mem_cons_of_mem _ (List.mem_append_right _ h)
abbrev rm_X4_noteWhole : Room := { frames := 1, cells := 0, slots := 0, locals := 21 }
set_option maxHeartbeats 4000000 in
set_option maxRecDepth 100000 in
theorem c_X4_noteWhole (l : Launch) (dC : Nat → ClassId) (dI : Nat → Nat → Nat) (cI cJ cZ cQ : ClassId) (gx : GX) (a_t a_t_table : Nat) (sz : Nat) (v_t_lawful : Int32) (v_t_whole : Int32) (v_t_fewest : Int32) (v_t_most : Int32) (p0 : Int32) (res : (Int32 × Int32 × Int32)) (hM : M_X4_noteWhole v_t_fewest v_t_most v_t_whole p0 = some res) : Met l yX4_noteWhole wsX4_noteWhole rm_X4_noteWhole (kP dC dI cI cJ cZ cQ gx [.ref a_t, .int p0] sz [(a_t, .inr (4, [.int v_t_lawful, .int v_t_whole, .int v_t_fewest, .int v_t_most, .ref a_t_table]))]) (kQv dC dI cI cJ cZ cQ [(a_t, .inr (4, [.int v_t_lawful, .int res.2.2, .int res.1, .int res.2.1, .ref a_t_table]))] (va_A [(a_t, .inr (4, [.int v_t_lawful, .int v_t_whole, .int v_t_fewest, .int v_t_most, .ref a_t_table]))] sz)) 0 0 (va_A [(a_t, .inr (4, [.int v_t_lawful, .int v_t_whole, .int v_t_fewest, .int v_t_most, .ref a_t_table]))] sz) := by
  refine nw_entry (y := yX4_noteWhole) (ws := wsX4_noteWhole) (rm := rm_X4_noteWhole) (sz := sz) (wpre := [(a_t, .inr (4, [.int v_t_lawful, .int v_t_whole, .int v_t_fewest, .int v_t_most, .ref a_t_table]))]) (av := [.ref a_t, .int p0]) (Qc := (kQv dC dI cI cJ cZ cQ [(a_t, .inr (4, [.int v_t_lawful, .int res.2.2, .int res.1, .int res.2.1, .ref a_t_table]))])) (cc := cX4_noteWhole) (own := RX4) [(0, .ref a_t), (1, .int p0)] (by decide) rfl rfl (Nat.le_of_ble_eq_true rfl) rfl ?_
  intro p e s m below meth c A ls H locs hfix hr hlocks hin0 hsz0 hP hK hD hA hS hN hG hl
  obtain ⟨hx, hb, hml, hown, hts⟩ := id hfix
  obtain ⟨Qq, hQq⟩ : ∃ Q9, Q9 = (kQv dC dI cI cJ cZ cQ [(a_t, .inr (4, [.int v_t_lawful, .int res.2.2, .int res.1, .int res.2.1, .ref a_t_table]))]) := ⟨_, rfl⟩
  rw [← hQq]
  have hX : res = res := rfl
  have hM : (Option.bind (M_J6_bitCount_0f7a4 p0) (fun t1 => some ((if t1 < v_t_fewest then t1 else v_t_fewest), (if v_t_most < t1 then t1 else v_t_most), (v_t_whole + (1 : Int32))))) = some res := hM
  refine lv_iload_n hx hb dX4_noteWhole_0 rfl (lv_at hl 1 rfl) ?_
  obtain ⟨t1, hg1, hM⟩ := bd hM
  refine nw_i (wc := []) (wr := [(a_t, .inr (4, [.int v_t_lawful, .int v_t_whole, .int v_t_fewest, .int v_t_most, .ref a_t_table]))]) (w1 := []) (wf := [(a_t, .inr (4, [.int v_t_lawful, .int v_t_whole, .int v_t_fewest, .int v_t_most, .ref a_t_table]))]) [] [0] [0] hP hD hS hA rfl rfl rfl (by decide) rfl rfl (nw_runS (As := [.int p0]) (rest := []) hfix (c_J6_bitCount_0f7a4 l dC dI cI cJ cZ cQ gx  H.size  p0 t1 hg1) (va_cwS 1 hts gX4_noteWhole_J6_bitCount_0f7a4 rfl rfl rfl (by decide +kernel) ⟨Nat.le_of_ble_eq_true rfl, Nat.le_of_ble_eq_true rfl⟩) hP hD hK hN hS hA hG [] rfl rfl hl.1 rfl rfl (Nat.le_of_ble_eq_true rfl) dX4_noteWhole_1 ⟨Nat.zero_le _, Nat.zero_le _⟩) (fun H locs hP hD hS => ?_)
  refine lv_istore_n (lv' := [(2, .int t1), (0, .ref a_t), (1, .int p0)]) hx hb dX4_noteWhole_4 rfl hl (by decide) rfl (fun ls hl => ?_)
  refine lv_aload_n hx hb dX4_noteWhole_5 rfl (lv_at hl 1 rfl) ?_
  refine lv_dup hx hb dX4_noteWhole_6 rfl ?_
  refine va_get (D := (dC, dI)) (ci := 4) (v := .int v_t_whole) (C := RX4) (T := TX4) (N := 5) hx hb hts in_X4_noteWhole_X4 hown hK hP 0 rfl rfl 1 (by decide) (hts (.fieldLink RX4 15 "NoneWithin$Lister" "whole" "I") (by decide +kernel)) (fun _ h9 => h9) rfl dX4_noteWhole_7 ?_
  refine lv_iconst (v := (1 : Int32)) hx hb dX4_noteWhole_10 (by decide) ?_
  refine lv_iadd hx hb dX4_noteWhole_11 ?_
  refine va_put (D := (dC, dI)) (ci := 4) (v := .int (v_t_whole + (1 : Int32))) (ty := .int) (C := RX4) (T := TX4) (N := 5) hx hb hts in_X4_noteWhole_X4 tyX4 tyX4_ok nmX4 hown hK hP hD hS 0 rfl rfl 1 (by decide) (hts (.fieldLink RX4 15 "NoneWithin$Lister" "whole" "I") (by decide +kernel)) (fun _ h9 => h9) rfl (by decide +kernel) rfl rfl (Nat.le_of_ble_eq_true rfl) dX4_noteWhole_12 (fun H locs hP hD hS => ?_)
  have hP : va_P (dC, dI) classes [(a_t, .inr (4, [.int v_t_lawful, .int (v_t_whole + (1 : Int32)), .int v_t_fewest, .int v_t_most, .ref a_t_table]))] H := hP
  have hD : va_D A [(a_t, .inr (4, [.int v_t_lawful, .int (v_t_whole + (1 : Int32)), .int v_t_fewest, .int v_t_most, .ref a_t_table]))] := hD
  refine lv_aload_n hx hb dX4_noteWhole_15 rfl (lv_at hl 1 rfl) ?_
  refine lv_aload_n hx hb dX4_noteWhole_16 rfl (lv_at hl 1 rfl) ?_
  refine va_get (D := (dC, dI)) (ci := 4) (v := .int v_t_fewest) (C := RX4) (T := TX4) (N := 5) hx hb hts in_X4_noteWhole_X4 hown hK hP 0 rfl rfl 2 (by decide) (hts (.fieldLink RX4 18 "NoneWithin$Lister" "fewest" "I") (by decide +kernel)) (fun _ h9 => h9) rfl dX4_noteWhole_17 ?_
  refine lv_iload_n hx hb dX4_noteWhole_20 rfl (lv_at hl 0 rfl) ?_
  refine va_mmin hx hb (hml.trans hl.1.symm) hown (hts (.methodLink RX4 54 Lib.Math.min.name) (by decide +kernel)) (hts (.static Lib.Math.min.name) (by decide +kernel)) (hts (.initialized "java/lang/Math") (by decide +kernel)) (hts (.code Lib.Math.min.name Lib.Math.min.code 2 (some .int)) (by decide +kernel)) (Nat.le_of_ble_eq_true rfl) (Nat.le_of_ble_eq_true rfl) (Nat.zero_le _) (Nat.zero_le _) dX4_noteWhole_21 ?_
  refine va_put (D := (dC, dI)) (ci := 4) (v := .int (if t1 < v_t_fewest then t1 else v_t_fewest)) (ty := .int) (C := RX4) (T := TX4) (N := 5) hx hb hts in_X4_noteWhole_X4 tyX4 tyX4_ok nmX4 hown hK hP hD hS 0 rfl rfl 2 (by decide) (hts (.fieldLink RX4 18 "NoneWithin$Lister" "fewest" "I") (by decide +kernel)) (fun _ h9 => h9) rfl (by decide +kernel) rfl rfl (Nat.le_of_ble_eq_true rfl) dX4_noteWhole_24 (fun H locs hP hD hS => ?_)
  have hP : va_P (dC, dI) classes [(a_t, .inr (4, [.int v_t_lawful, .int (v_t_whole + (1 : Int32)), .int (if t1 < v_t_fewest then t1 else v_t_fewest), .int v_t_most, .ref a_t_table]))] H := hP
  have hD : va_D A [(a_t, .inr (4, [.int v_t_lawful, .int (v_t_whole + (1 : Int32)), .int (if t1 < v_t_fewest then t1 else v_t_fewest), .int v_t_most, .ref a_t_table]))] := hD
  refine lv_aload_n hx hb dX4_noteWhole_27 rfl (lv_at hl 1 rfl) ?_
  refine lv_aload_n hx hb dX4_noteWhole_28 rfl (lv_at hl 1 rfl) ?_
  refine va_get (D := (dC, dI)) (ci := 4) (v := .int v_t_most) (C := RX4) (T := TX4) (N := 5) hx hb hts in_X4_noteWhole_X4 hown hK hP 0 rfl rfl 3 (by decide) (hts (.fieldLink RX4 21 "NoneWithin$Lister" "most" "I") (by decide +kernel)) (fun _ h9 => h9) rfl dX4_noteWhole_29 ?_
  refine lv_iload_n hx hb dX4_noteWhole_32 rfl (lv_at hl 0 rfl) ?_
  refine va_mmax hx hb (hml.trans hl.1.symm) hown (hts (.methodLink RX4 60 Lib.Math.max.name) (by decide +kernel)) (hts (.static Lib.Math.max.name) (by decide +kernel)) (hts (.initialized "java/lang/Math") (by decide +kernel)) (hts (.code Lib.Math.max.name Lib.Math.max.code 2 (some .int)) (by decide +kernel)) (Nat.le_of_ble_eq_true rfl) (Nat.le_of_ble_eq_true rfl) (Nat.zero_le _) (Nat.zero_le _) dX4_noteWhole_33 ?_
  refine va_put (D := (dC, dI)) (ci := 4) (v := .int (if v_t_most < t1 then t1 else v_t_most)) (ty := .int) (C := RX4) (T := TX4) (N := 5) hx hb hts in_X4_noteWhole_X4 tyX4 tyX4_ok nmX4 hown hK hP hD hS 0 rfl rfl 3 (by decide) (hts (.fieldLink RX4 21 "NoneWithin$Lister" "most" "I") (by decide +kernel)) (fun _ h9 => h9) rfl (by decide +kernel) rfl rfl (Nat.le_of_ble_eq_true rfl) dX4_noteWhole_36 (fun H locs hP hD hS => ?_)
  have hP : va_P (dC, dI) classes [(a_t, .inr (4, [.int v_t_lawful, .int (v_t_whole + (1 : Int32)), .int (if t1 < v_t_fewest then t1 else v_t_fewest), .int (if v_t_most < t1 then t1 else v_t_most), .ref a_t_table]))] H := hP
  have hD : va_D A [(a_t, .inr (4, [.int v_t_lawful, .int (v_t_whole + (1 : Int32)), .int (if t1 < v_t_fewest then t1 else v_t_fewest), .int (if v_t_most < t1 then t1 else v_t_most), .ref a_t_table]))] := hD
  have hE : res = (((if t1 < v_t_fewest then t1 else v_t_fewest), (if v_t_most < t1 then t1 else v_t_most), (v_t_whole + (1 : Int32))) : (Int32 × Int32 × Int32)) := ((Option.some.inj hM).trans hX).symm
  rw [hQq, hE]
  exact nw_vret hx hb hr hlocks hK hP hD hS dX4_noteWhole_39
theorem in_X4_walk_X3 : ∀ w ∈ wsX30, w ∈ wsX4_walk := fun _ h => List.mem_cons_of_mem _ (List.mem_append_right _ h)
theorem in_X4_walk_X4 : ∀ w ∈ wsX40, w ∈ wsX4_walk := fun _ h => List.mem_cons_of_mem _ (List.mem_append_left _ (List.mem_append_right _ h))
abbrev rm_X4_walk (d : Nat) : Room := { frames := 1 * d + 2, cells := 0, slots := 0, locals := 24 * d + 46 }
set_option maxHeartbeats 4000000 in
set_option maxRecDepth 100000 in
theorem c_X4_walk : ∀ (d : Nat) (l : Launch) (dC : Nat → ClassId) (dI : Nat → Nat → Nat) (cI cJ cZ cQ : ClassId) (gx : GX) (a_t a_t_table a_t_table_clash a_t_table_near a_t_table_sets : Nat) (sz : Nat) (v_t_lawful : Int32) (v_t_whole : Int32) (v_t_fewest : Int32) (v_t_most : Int32) (v_t_table_law : Int32) (v_t_table_boxes : Int32) (v_t_table_fit : Int32) (v_t_table_low : Int32) (v_t_table_high : Int32) (f_t_table_clash : (Nat → Int32)) (f_t_table_near : (Nat → Int32)) (p0 : Int32) (p1 : Int32) (p2 : Int32) (res : (Int32 × Int32 × Int32 × Int32)) (hM : M_X4_walk d v_t_fewest v_t_lawful v_t_most v_t_whole v_t_table_boxes f_t_table_clash f_t_table_near p0 p1 p2 = some res), Met l yX4_walk wsX4_walk (rm_X4_walk d) (kP dC dI cI cJ cZ cQ gx [.ref a_t, .int p0, .int p1, .int p2] sz [(a_t, .inr (4, [.int v_t_lawful, .int v_t_whole, .int v_t_fewest, .int v_t_most, .ref a_t_table])), (a_t_table, .inr (3, [.int v_t_table_law, .int v_t_table_boxes, .int v_t_table_fit, .int v_t_table_low, .int v_t_table_high, .ref a_t_table_sets, .ref a_t_table_clash, .ref a_t_table_near])), (a_t_table_clash, .inl (cI, 16, .inl f_t_table_clash)), (a_t_table_near, .inl (cI, 16, .inl f_t_table_near))]) (kQv dC dI cI cJ cZ cQ [(a_t, .inr (4, [.int res.2.1, .int res.2.2.2, .int res.1, .int res.2.2.1, .ref a_t_table])), (a_t_table, .inr (3, [.int v_t_table_law, .int v_t_table_boxes, .int v_t_table_fit, .int v_t_table_low, .int v_t_table_high, .ref a_t_table_sets, .ref a_t_table_clash, .ref a_t_table_near])), (a_t_table_clash, .inl (cI, 16, .inl f_t_table_clash)), (a_t_table_near, .inl (cI, 16, .inl f_t_table_near))] (va_A [(a_t, .inr (4, [.int v_t_lawful, .int v_t_whole, .int v_t_fewest, .int v_t_most, .ref a_t_table])), (a_t_table, .inr (3, [.int v_t_table_law, .int v_t_table_boxes, .int v_t_table_fit, .int v_t_table_low, .int v_t_table_high, .ref a_t_table_sets, .ref a_t_table_clash, .ref a_t_table_near])), (a_t_table_clash, .inl (cI, 16, .inl f_t_table_clash)), (a_t_table_near, .inl (cI, 16, .inl f_t_table_near))] sz)) 0 0 (va_A [(a_t, .inr (4, [.int v_t_lawful, .int v_t_whole, .int v_t_fewest, .int v_t_most, .ref a_t_table])), (a_t_table, .inr (3, [.int v_t_table_law, .int v_t_table_boxes, .int v_t_table_fit, .int v_t_table_low, .int v_t_table_high, .ref a_t_table_sets, .ref a_t_table_clash, .ref a_t_table_near])), (a_t_table_clash, .inl (cI, 16, .inl f_t_table_clash)), (a_t_table_near, .inl (cI, 16, .inl f_t_table_near))] sz) := by
  intro d
  induction d with
  | zero => intro l dC dI cI cJ cZ cQ gx a_t a_t_table a_t_table_clash a_t_table_near a_t_table_sets sz v_t_lawful v_t_whole v_t_fewest v_t_most v_t_table_law v_t_table_boxes v_t_table_fit v_t_table_low v_t_table_high f_t_table_clash f_t_table_near p0 p1 p2 res hM; cases hM
  | succ d ih_ =>
  intro l dC dI cI cJ cZ cQ gx a_t a_t_table a_t_table_clash a_t_table_near a_t_table_sets sz v_t_lawful v_t_whole v_t_fewest v_t_most v_t_table_law v_t_table_boxes v_t_table_fit v_t_table_low v_t_table_high f_t_table_clash f_t_table_near p0 p1 p2 res hM
  have hfr : (rm_X4_walk d).frames + 1 ≤ (rm_X4_walk (d + 1)).frames := by show 1 * d + 2 + 1 ≤ 1 * (d + 1) + 2; omega
  have hlo : 8 + (5 + 11) + (rm_X4_walk d).locals ≤ (rm_X4_walk (d + 1)).locals := by show 8 + (5 + 11) + (24 * d + 46) ≤ 24 * (d + 1) + 46; omega
  refine nw_entry (y := yX4_walk) (ws := wsX4_walk) (rm := (rm_X4_walk (d + 1))) (sz := sz) (wpre := [(a_t, .inr (4, [.int v_t_lawful, .int v_t_whole, .int v_t_fewest, .int v_t_most, .ref a_t_table])), (a_t_table, .inr (3, [.int v_t_table_law, .int v_t_table_boxes, .int v_t_table_fit, .int v_t_table_low, .int v_t_table_high, .ref a_t_table_sets, .ref a_t_table_clash, .ref a_t_table_near])), (a_t_table_clash, .inl (cI, 16, .inl f_t_table_clash)), (a_t_table_near, .inl (cI, 16, .inl f_t_table_near))]) (av := [.ref a_t, .int p0, .int p1, .int p2]) (Qc := (kQv dC dI cI cJ cZ cQ [(a_t, .inr (4, [.int res.2.1, .int res.2.2.2, .int res.1, .int res.2.2.1, .ref a_t_table])), (a_t_table, .inr (3, [.int v_t_table_law, .int v_t_table_boxes, .int v_t_table_fit, .int v_t_table_low, .int v_t_table_high, .ref a_t_table_sets, .ref a_t_table_clash, .ref a_t_table_near])), (a_t_table_clash, .inl (cI, 16, .inl f_t_table_clash)), (a_t_table_near, .inl (cI, 16, .inl f_t_table_near))])) (cc := cX4_walk) (own := RX4) [(0, .ref a_t), (1, .int p0), (2, .int p1), (3, .int p2)] (by decide) rfl rfl (Nat.le_of_ble_eq_true rfl) rfl ?_
  intro p e s m below meth c A ls H locs hfix hr hlocks hin0 hsz0 hP hK hD hA hS hN hG hl
  obtain ⟨hx, hb, hml, hown, hts⟩ := id hfix
  obtain ⟨Qq, hQq⟩ : ∃ Q9, Q9 = (kQv dC dI cI cJ cZ cQ [(a_t, .inr (4, [.int res.2.1, .int res.2.2.2, .int res.1, .int res.2.2.1, .ref a_t_table])), (a_t_table, .inr (3, [.int v_t_table_law, .int v_t_table_boxes, .int v_t_table_fit, .int v_t_table_low, .int v_t_table_high, .ref a_t_table_sets, .ref a_t_table_clash, .ref a_t_table_near])), (a_t_table_clash, .inl (cI, 16, .inl f_t_table_clash)), (a_t_table_near, .inl (cI, 16, .inl f_t_table_near))]) := ⟨_, rfl⟩
  rw [← hQq]
  have hX : res = res := rfl
  have hM : (Option.bind (M_X3_all v_t_table_boxes) (fun t17 => if (p1 ||| p2) = t17 then (Option.bind (M_X4_noteWhole v_t_fewest v_t_most v_t_whole p1) (fun t25 => lpN (fun z => L_X4_walk_31 (M_X4_walk d) p1 p2 v_t_table_boxes f_t_table_clash f_t_table_near z.1 z.2.1 z.2.2.1 z.2.2.2.1 z.2.2.2.2) fuelK (p0, t25.1, (v_t_lawful + (1 : Int32)), t25.2.1, t25.2.2))) else (lpN (fun z => L_X4_walk_31 (M_X4_walk d) p1 p2 v_t_table_boxes f_t_table_clash f_t_table_near z.1 z.2.1 z.2.2.1 z.2.2.2.1 z.2.2.2.2) fuelK (p0, v_t_fewest, (v_t_lawful + (1 : Int32)), v_t_most, v_t_whole)))) = some res := hM
  refine lv_aload_n hx hb dX4_walk_0 rfl (lv_at hl 0 rfl) ?_
  refine lv_dup hx hb dX4_walk_1 rfl ?_
  refine va_get (D := (dC, dI)) (ci := 4) (v := .int v_t_lawful) (C := RX4) (T := TX4) (N := 5) hx hb hts in_X4_walk_X4 hown hK hP 0 rfl rfl 0 (by decide) (hts (.fieldLink RX4 9 "NoneWithin$Lister" "lawful" "I") (by decide +kernel)) (fun _ h9 => h9) rfl dX4_walk_2 ?_
  refine lv_iconst (v := (1 : Int32)) hx hb dX4_walk_5 (by decide) ?_
  refine lv_iadd hx hb dX4_walk_6 ?_
  refine va_put (D := (dC, dI)) (ci := 4) (v := .int (v_t_lawful + (1 : Int32))) (ty := .int) (C := RX4) (T := TX4) (N := 5) hx hb hts in_X4_walk_X4 tyX4 tyX4_ok nmX4 hown hK hP hD hS 0 rfl rfl 0 (by decide) (hts (.fieldLink RX4 9 "NoneWithin$Lister" "lawful" "I") (by decide +kernel)) (fun _ h9 => h9) rfl (by decide +kernel) rfl rfl (Nat.le_of_ble_eq_true rfl) dX4_walk_7 (fun H locs hP hD hS => ?_)
  have hP : va_P (dC, dI) classes [(a_t, .inr (4, [.int (v_t_lawful + (1 : Int32)), .int v_t_whole, .int v_t_fewest, .int v_t_most, .ref a_t_table])), (a_t_table, .inr (3, [.int v_t_table_law, .int v_t_table_boxes, .int v_t_table_fit, .int v_t_table_low, .int v_t_table_high, .ref a_t_table_sets, .ref a_t_table_clash, .ref a_t_table_near])), (a_t_table_clash, .inl (cI, 16, .inl f_t_table_clash)), (a_t_table_near, .inl (cI, 16, .inl f_t_table_near))] H := hP
  have hD : va_D A [(a_t, .inr (4, [.int (v_t_lawful + (1 : Int32)), .int v_t_whole, .int v_t_fewest, .int v_t_most, .ref a_t_table])), (a_t_table, .inr (3, [.int v_t_table_law, .int v_t_table_boxes, .int v_t_table_fit, .int v_t_table_low, .int v_t_table_high, .ref a_t_table_sets, .ref a_t_table_clash, .ref a_t_table_near])), (a_t_table_clash, .inl (cI, 16, .inl f_t_table_clash)), (a_t_table_near, .inl (cI, 16, .inl f_t_table_near))] := hD
  refine lv_iload_n hx hb dX4_walk_10 rfl (lv_at hl 2 rfl) ?_
  refine lv_iload_n hx hb dX4_walk_11 rfl (lv_at hl 3 rfl) ?_
  refine lv_ior hx hb dX4_walk_12 ?_
  refine lv_aload_n hx hb dX4_walk_13 rfl (lv_at hl 0 rfl) ?_
  refine va_get (D := (dC, dI)) (ci := 4) (v := .ref a_t_table) (C := RX4) (T := TX4) (N := 5) hx hb hts in_X4_walk_X4 hown hK hP 0 rfl rfl 4 (by decide) (hts (.fieldLink RX4 24 "NoneWithin$Lister" "table" "LNoneWithin$LawTable;") (by decide +kernel)) (fun _ h9 => h9) rfl dX4_walk_14 ?_
  obtain ⟨t17, hg17, hM⟩ := bd hM
  refine nw_i (wc := [(a_t_table, .inr (3, [.int v_t_table_law, .int v_t_table_boxes, .int v_t_table_fit, .int v_t_table_low, .int v_t_table_high, .ref a_t_table_sets, .ref a_t_table_clash, .ref a_t_table_near]))]) (wr := [(a_t, .inr (4, [.int (v_t_lawful + (1 : Int32)), .int v_t_whole, .int v_t_fewest, .int v_t_most, .ref a_t_table])), (a_t_table_clash, .inl (cI, 16, .inl f_t_table_clash)), (a_t_table_near, .inl (cI, 16, .inl f_t_table_near))]) (w1 := [(a_t_table, .inr (3, [.int v_t_table_law, .int v_t_table_boxes, .int v_t_table_fit, .int v_t_table_low, .int v_t_table_high, .ref a_t_table_sets, .ref a_t_table_clash, .ref a_t_table_near]))]) (wf := [(a_t, .inr (4, [.int (v_t_lawful + (1 : Int32)), .int v_t_whole, .int v_t_fewest, .int v_t_most, .ref a_t_table])), (a_t_table, .inr (3, [.int v_t_table_law, .int v_t_table_boxes, .int v_t_table_fit, .int v_t_table_low, .int v_t_table_high, .ref a_t_table_sets, .ref a_t_table_clash, .ref a_t_table_near])), (a_t_table_clash, .inl (cI, 16, .inl f_t_table_clash)), (a_t_table_near, .inl (cI, 16, .inl f_t_table_near))]) [1] [0, 2, 3] [0, 3, 1, 2] hP hD hS hA rfl rfl rfl (by decide) rfl rfl (nw_runV (As := []) (rest := [.int (p1 ||| p2)]) hfix (c_X3_all l dC dI cI cJ cZ cQ gx a_t_table a_t_table_sets a_t_table_clash a_t_table_near H.size v_t_table_law v_t_table_boxes v_t_table_fit v_t_table_low v_t_table_high  t17 hg17) (cwV 0 hts gX4_walk_X3_all rfl rfl rfl (by decide +kernel) ⟨Nat.le_of_ble_eq_true rfl, Nat.le_of_ble_eq_true rfl⟩) hP hD hK hN hS hA hG [1] rfl rfl 1 3 rfl rfl rfl hl.1 rfl rfl (Nat.le_of_ble_eq_true rfl) dX4_walk_17 ⟨Nat.zero_le _, Nat.zero_le _⟩) (fun H locs hP hD hS => ?_)
  refine lv_icmp_ne (tgt := 28) hx hb dX4_walk_20 (by decide) (fun c20 => ?_) (fun c20 => ?_)
  · have hM := ifn c20 hM
    refine lv_iload_n hx hb dX4_walk_28 rfl (lv_at hl 1 rfl) ?_
    refine lv_istore (lv' := [(4, .int p0), (0, .ref a_t), (1, .int p0), (2, .int p1), (3, .int p2)]) hx hb dX4_walk_29 hl (by decide) rfl (fun ls hl => ?_)
    obtain ⟨W31, hW31⟩ : ∃ W9 : Int32 → Int32 → Int32 → Int32 → Int32 → Prop, W9 = fun (y31_4 : Int32) (y31_v_t_fewest : Int32) (y31_v_t_lawful : Int32) (y31_v_t_most : Int32) (y31_v_t_whole : Int32) => ∀ (H : Heap) (locs : List Loc) (ls : Array Slot), va_P (dC, dI) classes [(a_t, .inr (4, [.int y31_v_t_lawful, .int y31_v_t_whole, .int y31_v_t_fewest, .int y31_v_t_most, .ref a_t_table])), (a_t_table, .inr (3, [.int v_t_table_law, .int v_t_table_boxes, .int v_t_table_fit, .int v_t_table_low, .int v_t_table_high, .ref a_t_table_sets, .ref a_t_table_clash, .ref a_t_table_near])), (a_t_table_clash, .inl (cI, 16, .inl f_t_table_clash)), (a_t_table_near, .inl (cI, 16, .inl f_t_table_near))] H → va_D A [(a_t, .inr (4, [.int y31_v_t_lawful, .int y31_v_t_whole, .int y31_v_t_fewest, .int y31_v_t_most, .ref a_t_table])), (a_t_table, .inr (3, [.int v_t_table_law, .int v_t_table_boxes, .int v_t_table_fit, .int v_t_table_low, .int v_t_table_high, .ref a_t_table_sets, .ref a_t_table_clash, .ref a_t_table_near])), (a_t_table_clash, .inl (cI, 16, .inl f_t_table_clash)), (a_t_table_near, .inl (cI, 16, .inl f_t_table_near))] → va_S A s.heap H locs → lv_has ls 5 [(0, .ref a_t), (2, .int p1), (3, .int p2), (4, .int y31_4)] → W p l e (rm_X4_walk (d + 1)) s m ([.ref a_t, .int p0, .int p1, .int p2] : List Value).toArray below meth c H locs 0 0 (MQ below (Qq A) ([.ref a_t, .int p0, .int p1, .int p2] : List Value).toArray s 0 0 A) (F0 m 31 ls []) := ⟨_, rfl⟩
    have hst : ∀ (z : (Int32 × Int32 × Int32 × Int32 × Int32)) (x : ((Int32 × Int32 × Int32 × Int32 × Int32) ⊕ (Int32 × Int32 × Int32 × Int32))), (fun z => L_X4_walk_31 (M_X4_walk d) p1 p2 v_t_table_boxes f_t_table_clash f_t_table_near z.1 z.2.1 z.2.2.1 z.2.2.2.1 z.2.2.2.2) z = some x → ((∀ z', x = Sum.inl z' → W31 z'.1 z'.2.1 z'.2.2.1 z'.2.2.2.1 z'.2.2.2.2) ∧ (∀ t_31, x = Sum.inr t_31 → t_31 = res)) → W31 z.1 z.2.1 z.2.2.1 z.2.2.2.1 z.2.2.2.2 := by
      rintro ⟨y31_4, y31_v_t_fewest, y31_v_t_lawful, y31_v_t_most, y31_v_t_whole⟩ x hM hX
      have hM : L_X4_walk_31 (M_X4_walk d) p1 p2 v_t_table_boxes f_t_table_clash f_t_table_near y31_4 y31_v_t_fewest y31_v_t_lawful y31_v_t_most y31_v_t_whole = some x := hM
      show W31 y31_4 y31_v_t_fewest y31_v_t_lawful y31_v_t_most y31_v_t_whole
      rw [hW31]
      intro H locs ls hP hD hS hl
      have hM : (if v_t_table_boxes ≤ y31_4 then (((some (y31_v_t_fewest, y31_v_t_lawful, y31_v_t_most, y31_v_t_whole))).map Sum.inr) else (Option.bind (M_X8_has (p1 ||| p2) y31_4) (fun t48 => if t48 = 0 then (Option.bind (M_X3_barredBy v_t_table_boxes f_t_table_clash f_t_table_near y31_4 p1) (fun t73 => Option.bind ((M_X4_walk d) y31_v_t_fewest y31_v_t_lawful y31_v_t_most y31_v_t_whole v_t_table_boxes f_t_table_clash f_t_table_near (y31_4 + (1 : Int32)) (p1 ||| ((1 : Int32) <<< (y31_4 &&& 31))) (p2 ||| t73)) (fun t77 => some (Sum.inl ((y31_4 + (1 : Int32)), t77.1, t77.2.1, t77.2.2.1, t77.2.2.2))))) else (some (Sum.inl ((y31_4 + (1 : Int32)), y31_v_t_fewest, y31_v_t_lawful, y31_v_t_most, y31_v_t_whole)))))) = some x := hM
      refine lv_iload hx hb dX4_walk_31 (lv_at hl 3 rfl) ?_
      refine lv_aload_n hx hb dX4_walk_33 rfl (lv_at hl 0 rfl) ?_
      refine va_get (D := (dC, dI)) (ci := 4) (v := .ref a_t_table) (C := RX4) (T := TX4) (N := 5) hx hb hts in_X4_walk_X4 hown hK hP 0 rfl rfl 4 (by decide) (hts (.fieldLink RX4 24 "NoneWithin$Lister" "table" "LNoneWithin$LawTable;") (by decide +kernel)) (fun _ h9 => h9) rfl dX4_walk_34 ?_
      refine va_get (D := (dC, dI)) (ci := 3) (v := .int v_t_table_boxes) (C := RX3) (T := TX3) (N := 8) hx hb hts in_X4_walk_X3 hown hK hP 1 rfl rfl 1 (by decide) (hts (.fieldLink RX4 63 "NoneWithin$LawTable" "boxes" "I") (by decide +kernel)) (fun _ h9 => h9) rfl dX4_walk_37 ?_
      refine lv_icmp_ge (tgt := 86) hx hb dX4_walk_40 (by decide) (fun c40 => ?_) (fun c40 => ?_)
      · have hM := ifp c40 hM
        obtain ⟨x, hMn, hxe⟩ := mpr hM
        have hX := hX.2 _ hxe
        have hM := hMn
        have hE : res = ((y31_v_t_fewest, y31_v_t_lawful, y31_v_t_most, y31_v_t_whole) : (Int32 × Int32 × Int32 × Int32)) := ((Option.some.inj hM).trans hX).symm
        rw [hQq, hE]
        exact nw_vret hx hb hr hlocks hK hP hD hS dX4_walk_86
      · have hM := ifn c40 hM
        refine lv_iload_n hx hb dX4_walk_43 rfl (lv_at hl 1 rfl) ?_
        refine lv_iload_n hx hb dX4_walk_44 rfl (lv_at hl 2 rfl) ?_
        refine lv_ior hx hb dX4_walk_45 ?_
        refine lv_iload hx hb dX4_walk_46 (lv_at hl 3 rfl) ?_
        obtain ⟨t48, hg48, hM⟩ := bd hM
        refine nw_i (wc := []) (wr := [(a_t, .inr (4, [.int y31_v_t_lawful, .int y31_v_t_whole, .int y31_v_t_fewest, .int y31_v_t_most, .ref a_t_table])), (a_t_table, .inr (3, [.int v_t_table_law, .int v_t_table_boxes, .int v_t_table_fit, .int v_t_table_low, .int v_t_table_high, .ref a_t_table_sets, .ref a_t_table_clash, .ref a_t_table_near])), (a_t_table_clash, .inl (cI, 16, .inl f_t_table_clash)), (a_t_table_near, .inl (cI, 16, .inl f_t_table_near))]) (w1 := []) (wf := [(a_t, .inr (4, [.int y31_v_t_lawful, .int y31_v_t_whole, .int y31_v_t_fewest, .int y31_v_t_most, .ref a_t_table])), (a_t_table, .inr (3, [.int v_t_table_law, .int v_t_table_boxes, .int v_t_table_fit, .int v_t_table_low, .int v_t_table_high, .ref a_t_table_sets, .ref a_t_table_clash, .ref a_t_table_near])), (a_t_table_clash, .inl (cI, 16, .inl f_t_table_clash)), (a_t_table_near, .inl (cI, 16, .inl f_t_table_near))]) [] [0, 1, 2, 3] [0, 1, 2, 3] hP hD hS hA rfl rfl rfl (by decide) rfl rfl (nw_runSN (As := [.int (p1 ||| p2), .int y31_4]) (rest := []) hfix (c_X8_has l dC dI cI cJ cZ cQ gx  H.size  (p1 ||| p2) y31_4 t48 hg48) ⟨va_cnB 2 hts gX4_walk_X8_has_n66 rfl rfl rfl (hN.2.2.2.2.2.2.1) (hts (.initialized RX8) (by decide +kernel)) (by decide +kernel) ⟨Nat.le_of_ble_eq_true rfl, Nat.le_of_ble_eq_true rfl⟩, (hts (.static yX8_has) (by decide +kernel)), trivial⟩ hP hD hK hN hS hA hG [] rfl rfl hl.1 rfl rfl (Nat.le_of_ble_eq_true rfl) dX4_walk_48 ⟨Nat.zero_le _, Nat.zero_le _⟩) (fun H locs hP hD hS => ?_)
        refine lv_if_ne (tgt := 80) hx hb dX4_walk_51 (by decide) (fun c51 => ?_) (fun c51 => ?_)
        · have hM := ifn c51 hM
          refine lv_iinc (v := (y31_4 + (1 : Int32))) (lv' := [(4, .int (y31_4 + (1 : Int32))), (0, .ref a_t), (2, .int p1), (3, .int p2)]) hx hb dX4_walk_80 hl (k := 3) rfl rfl (by decide) rfl (fun ls hl => ?_)
          refine lv_goto (tgt := 31) hx hb dX4_walk_83 (by decide) ?_
          have hw := hX.1 _ (Option.some.inj hM).symm
          rw [hW31] at hw
          exact hw H locs ls hP hD hS (lv_sub hl [1, 2, 3, 0] rfl)
        · have hM := ifp c51 hM
          refine lv_aload_n hx hb dX4_walk_54 rfl (lv_at hl 0 rfl) ?_
          refine lv_iload hx hb dX4_walk_55 (lv_at hl 3 rfl) ?_
          refine lv_iconst (v := (1 : Int32)) hx hb dX4_walk_57 (by decide) ?_
          refine lv_iadd hx hb dX4_walk_58 ?_
          refine lv_iload_n hx hb dX4_walk_59 rfl (lv_at hl 1 rfl) ?_
          refine lv_iconst (v := (1 : Int32)) hx hb dX4_walk_60 (by decide) ?_
          refine lv_iload hx hb dX4_walk_61 (lv_at hl 3 rfl) ?_
          refine lv_ishl hx hb dX4_walk_63 ?_
          refine lv_ior hx hb dX4_walk_64 ?_
          refine lv_iload_n hx hb dX4_walk_65 rfl (lv_at hl 2 rfl) ?_
          refine lv_aload_n hx hb dX4_walk_66 rfl (lv_at hl 0 rfl) ?_
          refine va_get (D := (dC, dI)) (ci := 4) (v := .ref a_t_table) (C := RX4) (T := TX4) (N := 5) hx hb hts in_X4_walk_X4 hown hK hP 0 rfl rfl 4 (by decide) (hts (.fieldLink RX4 24 "NoneWithin$Lister" "table" "LNoneWithin$LawTable;") (by decide +kernel)) (fun _ h9 => h9) rfl dX4_walk_67 ?_
          refine lv_iload hx hb dX4_walk_70 (lv_at hl 3 rfl) ?_
          refine lv_iload_n hx hb dX4_walk_72 rfl (lv_at hl 1 rfl) ?_
          obtain ⟨t73, hg73, hM⟩ := bd hM
          refine nw_i (wc := [(a_t_table, .inr (3, [.int v_t_table_law, .int v_t_table_boxes, .int v_t_table_fit, .int v_t_table_low, .int v_t_table_high, .ref a_t_table_sets, .ref a_t_table_clash, .ref a_t_table_near])), (a_t_table_clash, .inl (cI, 16, .inl f_t_table_clash)), (a_t_table_near, .inl (cI, 16, .inl f_t_table_near))]) (wr := [(a_t, .inr (4, [.int y31_v_t_lawful, .int y31_v_t_whole, .int y31_v_t_fewest, .int y31_v_t_most, .ref a_t_table]))]) (w1 := [(a_t_table, .inr (3, [.int v_t_table_law, .int v_t_table_boxes, .int v_t_table_fit, .int v_t_table_low, .int v_t_table_high, .ref a_t_table_sets, .ref a_t_table_clash, .ref a_t_table_near])), (a_t_table_clash, .inl (cI, 16, .inl f_t_table_clash)), (a_t_table_near, .inl (cI, 16, .inl f_t_table_near))]) (wf := [(a_t, .inr (4, [.int y31_v_t_lawful, .int y31_v_t_whole, .int y31_v_t_fewest, .int y31_v_t_most, .ref a_t_table])), (a_t_table, .inr (3, [.int v_t_table_law, .int v_t_table_boxes, .int v_t_table_fit, .int v_t_table_low, .int v_t_table_high, .ref a_t_table_sets, .ref a_t_table_clash, .ref a_t_table_near])), (a_t_table_clash, .inl (cI, 16, .inl f_t_table_clash)), (a_t_table_near, .inl (cI, 16, .inl f_t_table_near))]) [1, 2, 3] [0] [0, 1, 2, 3] hP hD hS hA rfl rfl rfl (by decide) rfl rfl (nw_runV (As := [.int y31_4, .int p1]) (rest := [.int p2, .int (p1 ||| ((1 : Int32) <<< (y31_4 &&& 31))), .int (y31_4 + (1 : Int32)), .ref a_t]) hfix (c_X3_barredBy l dC dI cI cJ cZ cQ gx a_t_table a_t_table_clash a_t_table_near a_t_table_sets H.size v_t_table_law v_t_table_boxes v_t_table_fit v_t_table_low v_t_table_high f_t_table_clash f_t_table_near y31_4 p1 t73 hg73) (cwV 2 hts gX4_walk_X3_barredBy rfl rfl rfl (by decide +kernel) ⟨Nat.le_of_ble_eq_true rfl, Nat.le_of_ble_eq_true rfl⟩) hP hD hK hN hS hA hG [1, 2, 3] rfl rfl 1 3 rfl rfl rfl hl.1 rfl rfl (Nat.le_of_ble_eq_true rfl) dX4_walk_73 ⟨Nat.zero_le _, Nat.zero_le _⟩) (fun H locs hP hD hS => ?_)
          refine lv_ior hx hb dX4_walk_76 ?_
          obtain ⟨t77, hg77, hM⟩ := bd hM
          refine nw_v (wc := [(a_t, .inr (4, [.int y31_v_t_lawful, .int y31_v_t_whole, .int y31_v_t_fewest, .int y31_v_t_most, .ref a_t_table])), (a_t_table, .inr (3, [.int v_t_table_law, .int v_t_table_boxes, .int v_t_table_fit, .int v_t_table_low, .int v_t_table_high, .ref a_t_table_sets, .ref a_t_table_clash, .ref a_t_table_near])), (a_t_table_clash, .inl (cI, 16, .inl f_t_table_clash)), (a_t_table_near, .inl (cI, 16, .inl f_t_table_near))]) (wr := []) (w1 := [(a_t, .inr (4, [.int t77.2.1, .int t77.2.2.2, .int t77.1, .int t77.2.2.1, .ref a_t_table])), (a_t_table, .inr (3, [.int v_t_table_law, .int v_t_table_boxes, .int v_t_table_fit, .int v_t_table_low, .int v_t_table_high, .ref a_t_table_sets, .ref a_t_table_clash, .ref a_t_table_near])), (a_t_table_clash, .inl (cI, 16, .inl f_t_table_clash)), (a_t_table_near, .inl (cI, 16, .inl f_t_table_near))]) (wf := [(a_t, .inr (4, [.int t77.2.1, .int t77.2.2.2, .int t77.1, .int t77.2.2.1, .ref a_t_table])), (a_t_table, .inr (3, [.int v_t_table_law, .int v_t_table_boxes, .int v_t_table_fit, .int v_t_table_low, .int v_t_table_high, .ref a_t_table_sets, .ref a_t_table_clash, .ref a_t_table_near])), (a_t_table_clash, .inl (cI, 16, .inl f_t_table_clash)), (a_t_table_near, .inl (cI, 16, .inl f_t_table_near))]) [0, 1, 2, 3] [] [0, 1, 2, 3] hP hD hS hA rfl rfl rfl (by decide) rfl rfl (nw_runV (As := [.int (y31_4 + (1 : Int32)), .int (p1 ||| ((1 : Int32) <<< (y31_4 &&& 31))), .int (p2 ||| t73)]) (rest := []) hfix (ih_ l dC dI cI cJ cZ cQ gx a_t a_t_table a_t_table_clash a_t_table_near a_t_table_sets H.size y31_v_t_lawful y31_v_t_whole y31_v_t_fewest y31_v_t_most v_t_table_law v_t_table_boxes v_t_table_fit v_t_table_low v_t_table_high f_t_table_clash f_t_table_near (y31_4 + (1 : Int32)) (p1 ||| ((1 : Int32) <<< (y31_4 &&& 31))) (p2 ||| t73) t77 hg77) (cwV 3 hts gX4_walk_X4_walk rfl rfl rfl (by decide +kernel) ⟨hfr, hlo⟩) hP hD hK hN hS hA hG [0, 1, 2, 3] rfl rfl 0 4 rfl rfl rfl hl.1 rfl rfl (Nat.le_of_ble_eq_true rfl) dX4_walk_77 ⟨Nat.zero_le _, Nat.zero_le _⟩) (fun H locs hP hD hS => ?_)
          refine lv_iinc (v := (y31_4 + (1 : Int32))) (lv' := [(4, .int (y31_4 + (1 : Int32))), (0, .ref a_t), (2, .int p1), (3, .int p2)]) hx hb dX4_walk_80 hl (k := 3) rfl rfl (by decide) rfl (fun ls hl => ?_)
          refine lv_goto (tgt := 31) hx hb dX4_walk_83 (by decide) ?_
          have hw := hX.1 _ (Option.some.inj hM).symm
          rw [hW31] at hw
          exact hw H locs ls hP hD hS (lv_sub hl [1, 2, 3, 0] rfl)
    have hw := lp_walk (Wp := fun z => W31 z.1 z.2.1 z.2.2.1 z.2.2.2.1 z.2.2.2.2) (X := fun t => t = res) hst _ _ _ hM hX
    rw [hW31] at hw
    exact hw H locs ls hP hD hS (lv_sub hl [1, 3, 4, 0] rfl)
  · have hM := ifp c20 hM
    refine lv_aload_n hx hb dX4_walk_23 rfl (lv_at hl 0 rfl) ?_
    refine lv_iload_n hx hb dX4_walk_24 rfl (lv_at hl 2 rfl) ?_
    obtain ⟨t25, hg25, hM⟩ := bd hM
    refine nw_v (wc := [(a_t, .inr (4, [.int (v_t_lawful + (1 : Int32)), .int v_t_whole, .int v_t_fewest, .int v_t_most, .ref a_t_table]))]) (wr := [(a_t_table, .inr (3, [.int v_t_table_law, .int v_t_table_boxes, .int v_t_table_fit, .int v_t_table_low, .int v_t_table_high, .ref a_t_table_sets, .ref a_t_table_clash, .ref a_t_table_near])), (a_t_table_clash, .inl (cI, 16, .inl f_t_table_clash)), (a_t_table_near, .inl (cI, 16, .inl f_t_table_near))]) (w1 := [(a_t, .inr (4, [.int (v_t_lawful + (1 : Int32)), .int t25.2.2, .int t25.1, .int t25.2.1, .ref a_t_table]))]) (wf := [(a_t, .inr (4, [.int (v_t_lawful + (1 : Int32)), .int t25.2.2, .int t25.1, .int t25.2.1, .ref a_t_table])), (a_t_table, .inr (3, [.int v_t_table_law, .int v_t_table_boxes, .int v_t_table_fit, .int v_t_table_low, .int v_t_table_high, .ref a_t_table_sets, .ref a_t_table_clash, .ref a_t_table_near])), (a_t_table_clash, .inl (cI, 16, .inl f_t_table_clash)), (a_t_table_near, .inl (cI, 16, .inl f_t_table_near))]) [0] [1, 2, 3] [3, 0, 1, 2] hP hD hS hA rfl rfl rfl (by decide) rfl rfl (nw_runV (As := [.int p1]) (rest := []) hfix (c_X4_noteWhole l dC dI cI cJ cZ cQ gx a_t a_t_table H.size (v_t_lawful + (1 : Int32)) v_t_whole v_t_fewest v_t_most p1 t25 hg25) (cwV 1 hts gX4_walk_X4_noteWhole rfl rfl rfl (by decide +kernel) ⟨Nat.le_of_ble_eq_true rfl, Nat.le_of_ble_eq_true rfl⟩) hP hD hK hN hS hA hG [0] rfl rfl 0 4 rfl rfl rfl hl.1 rfl rfl (Nat.le_of_ble_eq_true rfl) dX4_walk_25 ⟨Nat.zero_le _, Nat.zero_le _⟩) (fun H locs hP hD hS => ?_)
    refine lv_iload_n hx hb dX4_walk_28 rfl (lv_at hl 1 rfl) ?_
    refine lv_istore (lv' := [(4, .int p0), (0, .ref a_t), (1, .int p0), (2, .int p1), (3, .int p2)]) hx hb dX4_walk_29 hl (by decide) rfl (fun ls hl => ?_)
    obtain ⟨W31, hW31⟩ : ∃ W9 : Int32 → Int32 → Int32 → Int32 → Int32 → Prop, W9 = fun (y31_4 : Int32) (y31_v_t_fewest : Int32) (y31_v_t_lawful : Int32) (y31_v_t_most : Int32) (y31_v_t_whole : Int32) => ∀ (H : Heap) (locs : List Loc) (ls : Array Slot), va_P (dC, dI) classes [(a_t, .inr (4, [.int y31_v_t_lawful, .int y31_v_t_whole, .int y31_v_t_fewest, .int y31_v_t_most, .ref a_t_table])), (a_t_table, .inr (3, [.int v_t_table_law, .int v_t_table_boxes, .int v_t_table_fit, .int v_t_table_low, .int v_t_table_high, .ref a_t_table_sets, .ref a_t_table_clash, .ref a_t_table_near])), (a_t_table_clash, .inl (cI, 16, .inl f_t_table_clash)), (a_t_table_near, .inl (cI, 16, .inl f_t_table_near))] H → va_D A [(a_t, .inr (4, [.int y31_v_t_lawful, .int y31_v_t_whole, .int y31_v_t_fewest, .int y31_v_t_most, .ref a_t_table])), (a_t_table, .inr (3, [.int v_t_table_law, .int v_t_table_boxes, .int v_t_table_fit, .int v_t_table_low, .int v_t_table_high, .ref a_t_table_sets, .ref a_t_table_clash, .ref a_t_table_near])), (a_t_table_clash, .inl (cI, 16, .inl f_t_table_clash)), (a_t_table_near, .inl (cI, 16, .inl f_t_table_near))] → va_S A s.heap H locs → lv_has ls 5 [(0, .ref a_t), (2, .int p1), (3, .int p2), (4, .int y31_4)] → W p l e (rm_X4_walk (d + 1)) s m ([.ref a_t, .int p0, .int p1, .int p2] : List Value).toArray below meth c H locs 0 0 (MQ below (Qq A) ([.ref a_t, .int p0, .int p1, .int p2] : List Value).toArray s 0 0 A) (F0 m 31 ls []) := ⟨_, rfl⟩
    have hst : ∀ (z : (Int32 × Int32 × Int32 × Int32 × Int32)) (x : ((Int32 × Int32 × Int32 × Int32 × Int32) ⊕ (Int32 × Int32 × Int32 × Int32))), (fun z => L_X4_walk_31 (M_X4_walk d) p1 p2 v_t_table_boxes f_t_table_clash f_t_table_near z.1 z.2.1 z.2.2.1 z.2.2.2.1 z.2.2.2.2) z = some x → ((∀ z', x = Sum.inl z' → W31 z'.1 z'.2.1 z'.2.2.1 z'.2.2.2.1 z'.2.2.2.2) ∧ (∀ t_31, x = Sum.inr t_31 → t_31 = res)) → W31 z.1 z.2.1 z.2.2.1 z.2.2.2.1 z.2.2.2.2 := by
      rintro ⟨y31_4, y31_v_t_fewest, y31_v_t_lawful, y31_v_t_most, y31_v_t_whole⟩ x hM hX
      have hM : L_X4_walk_31 (M_X4_walk d) p1 p2 v_t_table_boxes f_t_table_clash f_t_table_near y31_4 y31_v_t_fewest y31_v_t_lawful y31_v_t_most y31_v_t_whole = some x := hM
      show W31 y31_4 y31_v_t_fewest y31_v_t_lawful y31_v_t_most y31_v_t_whole
      rw [hW31]
      intro H locs ls hP hD hS hl
      have hM : (if v_t_table_boxes ≤ y31_4 then (((some (y31_v_t_fewest, y31_v_t_lawful, y31_v_t_most, y31_v_t_whole))).map Sum.inr) else (Option.bind (M_X8_has (p1 ||| p2) y31_4) (fun t48 => if t48 = 0 then (Option.bind (M_X3_barredBy v_t_table_boxes f_t_table_clash f_t_table_near y31_4 p1) (fun t73 => Option.bind ((M_X4_walk d) y31_v_t_fewest y31_v_t_lawful y31_v_t_most y31_v_t_whole v_t_table_boxes f_t_table_clash f_t_table_near (y31_4 + (1 : Int32)) (p1 ||| ((1 : Int32) <<< (y31_4 &&& 31))) (p2 ||| t73)) (fun t77 => some (Sum.inl ((y31_4 + (1 : Int32)), t77.1, t77.2.1, t77.2.2.1, t77.2.2.2))))) else (some (Sum.inl ((y31_4 + (1 : Int32)), y31_v_t_fewest, y31_v_t_lawful, y31_v_t_most, y31_v_t_whole)))))) = some x := hM
      refine lv_iload hx hb dX4_walk_31 (lv_at hl 3 rfl) ?_
      refine lv_aload_n hx hb dX4_walk_33 rfl (lv_at hl 0 rfl) ?_
      refine va_get (D := (dC, dI)) (ci := 4) (v := .ref a_t_table) (C := RX4) (T := TX4) (N := 5) hx hb hts in_X4_walk_X4 hown hK hP 0 rfl rfl 4 (by decide) (hts (.fieldLink RX4 24 "NoneWithin$Lister" "table" "LNoneWithin$LawTable;") (by decide +kernel)) (fun _ h9 => h9) rfl dX4_walk_34 ?_
      refine va_get (D := (dC, dI)) (ci := 3) (v := .int v_t_table_boxes) (C := RX3) (T := TX3) (N := 8) hx hb hts in_X4_walk_X3 hown hK hP 1 rfl rfl 1 (by decide) (hts (.fieldLink RX4 63 "NoneWithin$LawTable" "boxes" "I") (by decide +kernel)) (fun _ h9 => h9) rfl dX4_walk_37 ?_
      refine lv_icmp_ge (tgt := 86) hx hb dX4_walk_40 (by decide) (fun c40 => ?_) (fun c40 => ?_)
      · have hM := ifp c40 hM
        obtain ⟨x, hMn, hxe⟩ := mpr hM
        have hX := hX.2 _ hxe
        have hM := hMn
        have hE : res = ((y31_v_t_fewest, y31_v_t_lawful, y31_v_t_most, y31_v_t_whole) : (Int32 × Int32 × Int32 × Int32)) := ((Option.some.inj hM).trans hX).symm
        rw [hQq, hE]
        exact nw_vret hx hb hr hlocks hK hP hD hS dX4_walk_86
      · have hM := ifn c40 hM
        refine lv_iload_n hx hb dX4_walk_43 rfl (lv_at hl 1 rfl) ?_
        refine lv_iload_n hx hb dX4_walk_44 rfl (lv_at hl 2 rfl) ?_
        refine lv_ior hx hb dX4_walk_45 ?_
        refine lv_iload hx hb dX4_walk_46 (lv_at hl 3 rfl) ?_
        obtain ⟨t48, hg48, hM⟩ := bd hM
        refine nw_i (wc := []) (wr := [(a_t, .inr (4, [.int y31_v_t_lawful, .int y31_v_t_whole, .int y31_v_t_fewest, .int y31_v_t_most, .ref a_t_table])), (a_t_table, .inr (3, [.int v_t_table_law, .int v_t_table_boxes, .int v_t_table_fit, .int v_t_table_low, .int v_t_table_high, .ref a_t_table_sets, .ref a_t_table_clash, .ref a_t_table_near])), (a_t_table_clash, .inl (cI, 16, .inl f_t_table_clash)), (a_t_table_near, .inl (cI, 16, .inl f_t_table_near))]) (w1 := []) (wf := [(a_t, .inr (4, [.int y31_v_t_lawful, .int y31_v_t_whole, .int y31_v_t_fewest, .int y31_v_t_most, .ref a_t_table])), (a_t_table, .inr (3, [.int v_t_table_law, .int v_t_table_boxes, .int v_t_table_fit, .int v_t_table_low, .int v_t_table_high, .ref a_t_table_sets, .ref a_t_table_clash, .ref a_t_table_near])), (a_t_table_clash, .inl (cI, 16, .inl f_t_table_clash)), (a_t_table_near, .inl (cI, 16, .inl f_t_table_near))]) [] [0, 1, 2, 3] [0, 1, 2, 3] hP hD hS hA rfl rfl rfl (by decide) rfl rfl (nw_runSN (As := [.int (p1 ||| p2), .int y31_4]) (rest := []) hfix (c_X8_has l dC dI cI cJ cZ cQ gx  H.size  (p1 ||| p2) y31_4 t48 hg48) ⟨va_cnB 2 hts gX4_walk_X8_has_n66 rfl rfl rfl (hN.2.2.2.2.2.2.1) (hts (.initialized RX8) (by decide +kernel)) (by decide +kernel) ⟨Nat.le_of_ble_eq_true rfl, Nat.le_of_ble_eq_true rfl⟩, (hts (.static yX8_has) (by decide +kernel)), trivial⟩ hP hD hK hN hS hA hG [] rfl rfl hl.1 rfl rfl (Nat.le_of_ble_eq_true rfl) dX4_walk_48 ⟨Nat.zero_le _, Nat.zero_le _⟩) (fun H locs hP hD hS => ?_)
        refine lv_if_ne (tgt := 80) hx hb dX4_walk_51 (by decide) (fun c51 => ?_) (fun c51 => ?_)
        · have hM := ifn c51 hM
          refine lv_iinc (v := (y31_4 + (1 : Int32))) (lv' := [(4, .int (y31_4 + (1 : Int32))), (0, .ref a_t), (2, .int p1), (3, .int p2)]) hx hb dX4_walk_80 hl (k := 3) rfl rfl (by decide) rfl (fun ls hl => ?_)
          refine lv_goto (tgt := 31) hx hb dX4_walk_83 (by decide) ?_
          have hw := hX.1 _ (Option.some.inj hM).symm
          rw [hW31] at hw
          exact hw H locs ls hP hD hS (lv_sub hl [1, 2, 3, 0] rfl)
        · have hM := ifp c51 hM
          refine lv_aload_n hx hb dX4_walk_54 rfl (lv_at hl 0 rfl) ?_
          refine lv_iload hx hb dX4_walk_55 (lv_at hl 3 rfl) ?_
          refine lv_iconst (v := (1 : Int32)) hx hb dX4_walk_57 (by decide) ?_
          refine lv_iadd hx hb dX4_walk_58 ?_
          refine lv_iload_n hx hb dX4_walk_59 rfl (lv_at hl 1 rfl) ?_
          refine lv_iconst (v := (1 : Int32)) hx hb dX4_walk_60 (by decide) ?_
          refine lv_iload hx hb dX4_walk_61 (lv_at hl 3 rfl) ?_
          refine lv_ishl hx hb dX4_walk_63 ?_
          refine lv_ior hx hb dX4_walk_64 ?_
          refine lv_iload_n hx hb dX4_walk_65 rfl (lv_at hl 2 rfl) ?_
          refine lv_aload_n hx hb dX4_walk_66 rfl (lv_at hl 0 rfl) ?_
          refine va_get (D := (dC, dI)) (ci := 4) (v := .ref a_t_table) (C := RX4) (T := TX4) (N := 5) hx hb hts in_X4_walk_X4 hown hK hP 0 rfl rfl 4 (by decide) (hts (.fieldLink RX4 24 "NoneWithin$Lister" "table" "LNoneWithin$LawTable;") (by decide +kernel)) (fun _ h9 => h9) rfl dX4_walk_67 ?_
          refine lv_iload hx hb dX4_walk_70 (lv_at hl 3 rfl) ?_
          refine lv_iload_n hx hb dX4_walk_72 rfl (lv_at hl 1 rfl) ?_
          obtain ⟨t73, hg73, hM⟩ := bd hM
          refine nw_i (wc := [(a_t_table, .inr (3, [.int v_t_table_law, .int v_t_table_boxes, .int v_t_table_fit, .int v_t_table_low, .int v_t_table_high, .ref a_t_table_sets, .ref a_t_table_clash, .ref a_t_table_near])), (a_t_table_clash, .inl (cI, 16, .inl f_t_table_clash)), (a_t_table_near, .inl (cI, 16, .inl f_t_table_near))]) (wr := [(a_t, .inr (4, [.int y31_v_t_lawful, .int y31_v_t_whole, .int y31_v_t_fewest, .int y31_v_t_most, .ref a_t_table]))]) (w1 := [(a_t_table, .inr (3, [.int v_t_table_law, .int v_t_table_boxes, .int v_t_table_fit, .int v_t_table_low, .int v_t_table_high, .ref a_t_table_sets, .ref a_t_table_clash, .ref a_t_table_near])), (a_t_table_clash, .inl (cI, 16, .inl f_t_table_clash)), (a_t_table_near, .inl (cI, 16, .inl f_t_table_near))]) (wf := [(a_t, .inr (4, [.int y31_v_t_lawful, .int y31_v_t_whole, .int y31_v_t_fewest, .int y31_v_t_most, .ref a_t_table])), (a_t_table, .inr (3, [.int v_t_table_law, .int v_t_table_boxes, .int v_t_table_fit, .int v_t_table_low, .int v_t_table_high, .ref a_t_table_sets, .ref a_t_table_clash, .ref a_t_table_near])), (a_t_table_clash, .inl (cI, 16, .inl f_t_table_clash)), (a_t_table_near, .inl (cI, 16, .inl f_t_table_near))]) [1, 2, 3] [0] [0, 1, 2, 3] hP hD hS hA rfl rfl rfl (by decide) rfl rfl (nw_runV (As := [.int y31_4, .int p1]) (rest := [.int p2, .int (p1 ||| ((1 : Int32) <<< (y31_4 &&& 31))), .int (y31_4 + (1 : Int32)), .ref a_t]) hfix (c_X3_barredBy l dC dI cI cJ cZ cQ gx a_t_table a_t_table_clash a_t_table_near a_t_table_sets H.size v_t_table_law v_t_table_boxes v_t_table_fit v_t_table_low v_t_table_high f_t_table_clash f_t_table_near y31_4 p1 t73 hg73) (cwV 2 hts gX4_walk_X3_barredBy rfl rfl rfl (by decide +kernel) ⟨Nat.le_of_ble_eq_true rfl, Nat.le_of_ble_eq_true rfl⟩) hP hD hK hN hS hA hG [1, 2, 3] rfl rfl 1 3 rfl rfl rfl hl.1 rfl rfl (Nat.le_of_ble_eq_true rfl) dX4_walk_73 ⟨Nat.zero_le _, Nat.zero_le _⟩) (fun H locs hP hD hS => ?_)
          refine lv_ior hx hb dX4_walk_76 ?_
          obtain ⟨t77, hg77, hM⟩ := bd hM
          refine nw_v (wc := [(a_t, .inr (4, [.int y31_v_t_lawful, .int y31_v_t_whole, .int y31_v_t_fewest, .int y31_v_t_most, .ref a_t_table])), (a_t_table, .inr (3, [.int v_t_table_law, .int v_t_table_boxes, .int v_t_table_fit, .int v_t_table_low, .int v_t_table_high, .ref a_t_table_sets, .ref a_t_table_clash, .ref a_t_table_near])), (a_t_table_clash, .inl (cI, 16, .inl f_t_table_clash)), (a_t_table_near, .inl (cI, 16, .inl f_t_table_near))]) (wr := []) (w1 := [(a_t, .inr (4, [.int t77.2.1, .int t77.2.2.2, .int t77.1, .int t77.2.2.1, .ref a_t_table])), (a_t_table, .inr (3, [.int v_t_table_law, .int v_t_table_boxes, .int v_t_table_fit, .int v_t_table_low, .int v_t_table_high, .ref a_t_table_sets, .ref a_t_table_clash, .ref a_t_table_near])), (a_t_table_clash, .inl (cI, 16, .inl f_t_table_clash)), (a_t_table_near, .inl (cI, 16, .inl f_t_table_near))]) (wf := [(a_t, .inr (4, [.int t77.2.1, .int t77.2.2.2, .int t77.1, .int t77.2.2.1, .ref a_t_table])), (a_t_table, .inr (3, [.int v_t_table_law, .int v_t_table_boxes, .int v_t_table_fit, .int v_t_table_low, .int v_t_table_high, .ref a_t_table_sets, .ref a_t_table_clash, .ref a_t_table_near])), (a_t_table_clash, .inl (cI, 16, .inl f_t_table_clash)), (a_t_table_near, .inl (cI, 16, .inl f_t_table_near))]) [0, 1, 2, 3] [] [0, 1, 2, 3] hP hD hS hA rfl rfl rfl (by decide) rfl rfl (nw_runV (As := [.int (y31_4 + (1 : Int32)), .int (p1 ||| ((1 : Int32) <<< (y31_4 &&& 31))), .int (p2 ||| t73)]) (rest := []) hfix (ih_ l dC dI cI cJ cZ cQ gx a_t a_t_table a_t_table_clash a_t_table_near a_t_table_sets H.size y31_v_t_lawful y31_v_t_whole y31_v_t_fewest y31_v_t_most v_t_table_law v_t_table_boxes v_t_table_fit v_t_table_low v_t_table_high f_t_table_clash f_t_table_near (y31_4 + (1 : Int32)) (p1 ||| ((1 : Int32) <<< (y31_4 &&& 31))) (p2 ||| t73) t77 hg77) (cwV 3 hts gX4_walk_X4_walk rfl rfl rfl (by decide +kernel) ⟨hfr, hlo⟩) hP hD hK hN hS hA hG [0, 1, 2, 3] rfl rfl 0 4 rfl rfl rfl hl.1 rfl rfl (Nat.le_of_ble_eq_true rfl) dX4_walk_77 ⟨Nat.zero_le _, Nat.zero_le _⟩) (fun H locs hP hD hS => ?_)
          refine lv_iinc (v := (y31_4 + (1 : Int32))) (lv' := [(4, .int (y31_4 + (1 : Int32))), (0, .ref a_t), (2, .int p1), (3, .int p2)]) hx hb dX4_walk_80 hl (k := 3) rfl rfl (by decide) rfl (fun ls hl => ?_)
          refine lv_goto (tgt := 31) hx hb dX4_walk_83 (by decide) ?_
          have hw := hX.1 _ (Option.some.inj hM).symm
          rw [hW31] at hw
          exact hw H locs ls hP hD hS (lv_sub hl [1, 2, 3, 0] rfl)
    have hw := lp_walk (Wp := fun z => W31 z.1 z.2.1 z.2.2.1 z.2.2.2.1 z.2.2.2.2) (X := fun t => t = res) hst _ _ _ hM hX
    rw [hW31] at hw
    exact hw H locs ls hP hD hS (lv_sub hl [1, 3, 4, 0] rfl)
theorem in_X4_tell_X3 : ∀ w ∈ wsX30, w ∈ wsX4_tell := fun _ h => List.mem_cons_of_mem _ (List.mem_append_right _ h)
theorem in_X4_tell_X4 : ∀ w ∈ wsX40, w ∈ wsX4_tell := fun _ h => List.mem_cons_of_mem _ (List.mem_append_left _ (List.mem_append_right _ h))
abbrev rm_X4_tell : Room := { frames := 23, cells := 0, slots := 0, locals := 550 }
set_option maxHeartbeats 4000000 in
set_option maxRecDepth 100000 in
theorem c_X4_tell (l : Launch) (dC : Nat → ClassId) (dI : Nat → Nat → Nat) (cI cJ cZ cQ : ClassId) (gx : GX) (a_t a_t_table a_t_table_clash a_t_table_near a_t_table_sets : Nat) (sz : Nat) (v_t_lawful : Int32) (v_t_whole : Int32) (v_t_fewest : Int32) (v_t_most : Int32) (v_t_table_law : Int32) (v_t_table_boxes : Int32) (v_t_table_fit : Int32) (v_t_table_low : Int32) (v_t_table_high : Int32) (f_t_table_clash : (Nat → Int32)) (f_t_table_near : (Nat → Int32)) (res : (Int32 × Int32 × Int32 × Int32)) (hM : M_X4_tell v_t_fewest v_t_lawful v_t_most v_t_whole v_t_table_boxes v_t_table_fit v_t_table_law f_t_table_clash f_t_table_near = some res) : Met l yX4_tell wsX4_tell rm_X4_tell (kP dC dI cI cJ cZ cQ gx [.ref a_t] sz [(a_t, .inr (4, [.int v_t_lawful, .int v_t_whole, .int v_t_fewest, .int v_t_most, .ref a_t_table])), (a_t_table, .inr (3, [.int v_t_table_law, .int v_t_table_boxes, .int v_t_table_fit, .int v_t_table_low, .int v_t_table_high, .ref a_t_table_sets, .ref a_t_table_clash, .ref a_t_table_near])), (a_t_table_clash, .inl (cI, 16, .inl f_t_table_clash)), (a_t_table_near, .inl (cI, 16, .inl f_t_table_near))]) (kQv dC dI cI cJ cZ cQ [(a_t, .inr (4, [.int res.2.1, .int res.2.2.2, .int res.1, .int res.2.2.1, .ref a_t_table])), (a_t_table, .inr (3, [.int v_t_table_law, .int v_t_table_boxes, .int v_t_table_fit, .int v_t_table_low, .int v_t_table_high, .ref a_t_table_sets, .ref a_t_table_clash, .ref a_t_table_near])), (a_t_table_clash, .inl (cI, 16, .inl f_t_table_clash)), (a_t_table_near, .inl (cI, 16, .inl f_t_table_near))] (va_A [(a_t, .inr (4, [.int v_t_lawful, .int v_t_whole, .int v_t_fewest, .int v_t_most, .ref a_t_table])), (a_t_table, .inr (3, [.int v_t_table_law, .int v_t_table_boxes, .int v_t_table_fit, .int v_t_table_low, .int v_t_table_high, .ref a_t_table_sets, .ref a_t_table_clash, .ref a_t_table_near])), (a_t_table_clash, .inl (cI, 16, .inl f_t_table_clash)), (a_t_table_near, .inl (cI, 16, .inl f_t_table_near))] sz)) 0 0 (va_A [(a_t, .inr (4, [.int v_t_lawful, .int v_t_whole, .int v_t_fewest, .int v_t_most, .ref a_t_table])), (a_t_table, .inr (3, [.int v_t_table_law, .int v_t_table_boxes, .int v_t_table_fit, .int v_t_table_low, .int v_t_table_high, .ref a_t_table_sets, .ref a_t_table_clash, .ref a_t_table_near])), (a_t_table_clash, .inl (cI, 16, .inl f_t_table_clash)), (a_t_table_near, .inl (cI, 16, .inl f_t_table_near))] sz) := by
  refine nw_entry (y := yX4_tell) (ws := wsX4_tell) (rm := rm_X4_tell) (sz := sz) (wpre := [(a_t, .inr (4, [.int v_t_lawful, .int v_t_whole, .int v_t_fewest, .int v_t_most, .ref a_t_table])), (a_t_table, .inr (3, [.int v_t_table_law, .int v_t_table_boxes, .int v_t_table_fit, .int v_t_table_low, .int v_t_table_high, .ref a_t_table_sets, .ref a_t_table_clash, .ref a_t_table_near])), (a_t_table_clash, .inl (cI, 16, .inl f_t_table_clash)), (a_t_table_near, .inl (cI, 16, .inl f_t_table_near))]) (av := [.ref a_t]) (Qc := (kQv dC dI cI cJ cZ cQ [(a_t, .inr (4, [.int res.2.1, .int res.2.2.2, .int res.1, .int res.2.2.1, .ref a_t_table])), (a_t_table, .inr (3, [.int v_t_table_law, .int v_t_table_boxes, .int v_t_table_fit, .int v_t_table_low, .int v_t_table_high, .ref a_t_table_sets, .ref a_t_table_clash, .ref a_t_table_near])), (a_t_table_clash, .inl (cI, 16, .inl f_t_table_clash)), (a_t_table_near, .inl (cI, 16, .inl f_t_table_near))])) (cc := cX4_tell) (own := RX4) [(0, .ref a_t)] (by decide) rfl rfl (Nat.le_of_ble_eq_true rfl) rfl ?_
  intro p e s m below meth c A ls H locs hfix hr hlocks hin0 hsz0 hP hK hD hA hS hN hG hl
  obtain ⟨hx, hb, hml, hown, hts⟩ := id hfix
  obtain ⟨Qq, hQq⟩ : ∃ Q9, Q9 = (kQv dC dI cI cJ cZ cQ [(a_t, .inr (4, [.int res.2.1, .int res.2.2.2, .int res.1, .int res.2.2.1, .ref a_t_table])), (a_t_table, .inr (3, [.int v_t_table_law, .int v_t_table_boxes, .int v_t_table_fit, .int v_t_table_low, .int v_t_table_high, .ref a_t_table_sets, .ref a_t_table_clash, .ref a_t_table_near])), (a_t_table_clash, .inl (cI, 16, .inl f_t_table_clash)), (a_t_table_near, .inl (cI, 16, .inl f_t_table_near))]) := ⟨_, rfl⟩
  rw [← hQq]
  have hX : res = res := rfl
  have hM : (if v_t_table_law = 0 then (Option.bind (M_J6_bitCount_0f7a4 v_t_table_fit) (fun t40 => Option.bind (M_X4_noteWhole (16 : Int32) (0 : Int32) (0 : Int32) v_t_table_fit) (fun t55 => some (t55.1, ((1 : Int32) <<< (t40 &&& 31)), t55.2.1, t55.2.2)))) else (Option.bind (M_X3_all v_t_table_boxes) (fun t68 => Option.bind (M_X4_walk 20 (16 : Int32) (0 : Int32) (0 : Int32) (0 : Int32) v_t_table_boxes f_t_table_clash f_t_table_near (0 : Int32) (0 : Int32) (t68 &&& (v_t_table_fit ^^^ (-1 : Int32)))) (fun t81 => some (t81.1, t81.2.1, t81.2.2.1, t81.2.2.2))))) = some res := hM
  refine lv_aload_n hx hb dX4_tell_0 rfl (lv_at hl 0 rfl) ?_
  refine lv_iconst (v := (0 : Int32)) hx hb dX4_tell_1 (by decide) ?_
  refine va_put (D := (dC, dI)) (ci := 4) (v := .int (0 : Int32)) (ty := .int) (C := RX4) (T := TX4) (N := 5) hx hb hts in_X4_tell_X4 tyX4 tyX4_ok nmX4 hown hK hP hD hS 0 rfl rfl 0 (by decide) (hts (.fieldLink RX4 9 "NoneWithin$Lister" "lawful" "I") (by decide +kernel)) (fun _ h9 => h9) rfl (by decide +kernel) rfl rfl (Nat.le_of_ble_eq_true rfl) dX4_tell_2 (fun H locs hP hD hS => ?_)
  have hP : va_P (dC, dI) classes [(a_t, .inr (4, [.int (0 : Int32), .int v_t_whole, .int v_t_fewest, .int v_t_most, .ref a_t_table])), (a_t_table, .inr (3, [.int v_t_table_law, .int v_t_table_boxes, .int v_t_table_fit, .int v_t_table_low, .int v_t_table_high, .ref a_t_table_sets, .ref a_t_table_clash, .ref a_t_table_near])), (a_t_table_clash, .inl (cI, 16, .inl f_t_table_clash)), (a_t_table_near, .inl (cI, 16, .inl f_t_table_near))] H := hP
  have hD : va_D A [(a_t, .inr (4, [.int (0 : Int32), .int v_t_whole, .int v_t_fewest, .int v_t_most, .ref a_t_table])), (a_t_table, .inr (3, [.int v_t_table_law, .int v_t_table_boxes, .int v_t_table_fit, .int v_t_table_low, .int v_t_table_high, .ref a_t_table_sets, .ref a_t_table_clash, .ref a_t_table_near])), (a_t_table_clash, .inl (cI, 16, .inl f_t_table_clash)), (a_t_table_near, .inl (cI, 16, .inl f_t_table_near))] := hD
  refine lv_aload_n hx hb dX4_tell_5 rfl (lv_at hl 0 rfl) ?_
  refine lv_iconst (v := (0 : Int32)) hx hb dX4_tell_6 (by decide) ?_
  refine va_put (D := (dC, dI)) (ci := 4) (v := .int (0 : Int32)) (ty := .int) (C := RX4) (T := TX4) (N := 5) hx hb hts in_X4_tell_X4 tyX4 tyX4_ok nmX4 hown hK hP hD hS 0 rfl rfl 1 (by decide) (hts (.fieldLink RX4 15 "NoneWithin$Lister" "whole" "I") (by decide +kernel)) (fun _ h9 => h9) rfl (by decide +kernel) rfl rfl (Nat.le_of_ble_eq_true rfl) dX4_tell_7 (fun H locs hP hD hS => ?_)
  have hP : va_P (dC, dI) classes [(a_t, .inr (4, [.int (0 : Int32), .int (0 : Int32), .int v_t_fewest, .int v_t_most, .ref a_t_table])), (a_t_table, .inr (3, [.int v_t_table_law, .int v_t_table_boxes, .int v_t_table_fit, .int v_t_table_low, .int v_t_table_high, .ref a_t_table_sets, .ref a_t_table_clash, .ref a_t_table_near])), (a_t_table_clash, .inl (cI, 16, .inl f_t_table_clash)), (a_t_table_near, .inl (cI, 16, .inl f_t_table_near))] H := hP
  have hD : va_D A [(a_t, .inr (4, [.int (0 : Int32), .int (0 : Int32), .int v_t_fewest, .int v_t_most, .ref a_t_table])), (a_t_table, .inr (3, [.int v_t_table_law, .int v_t_table_boxes, .int v_t_table_fit, .int v_t_table_low, .int v_t_table_high, .ref a_t_table_sets, .ref a_t_table_clash, .ref a_t_table_near])), (a_t_table_clash, .inl (cI, 16, .inl f_t_table_clash)), (a_t_table_near, .inl (cI, 16, .inl f_t_table_near))] := hD
  refine lv_aload_n hx hb dX4_tell_10 rfl (lv_at hl 0 rfl) ?_
  refine lv_bipush (v := (16 : Int32)) hx hb dX4_tell_11 (by decide) ?_
  refine va_put (D := (dC, dI)) (ci := 4) (v := .int (16 : Int32)) (ty := .int) (C := RX4) (T := TX4) (N := 5) hx hb hts in_X4_tell_X4 tyX4 tyX4_ok nmX4 hown hK hP hD hS 0 rfl rfl 2 (by decide) (hts (.fieldLink RX4 18 "NoneWithin$Lister" "fewest" "I") (by decide +kernel)) (fun _ h9 => h9) rfl (by decide +kernel) rfl rfl (Nat.le_of_ble_eq_true rfl) dX4_tell_13 (fun H locs hP hD hS => ?_)
  have hP : va_P (dC, dI) classes [(a_t, .inr (4, [.int (0 : Int32), .int (0 : Int32), .int (16 : Int32), .int v_t_most, .ref a_t_table])), (a_t_table, .inr (3, [.int v_t_table_law, .int v_t_table_boxes, .int v_t_table_fit, .int v_t_table_low, .int v_t_table_high, .ref a_t_table_sets, .ref a_t_table_clash, .ref a_t_table_near])), (a_t_table_clash, .inl (cI, 16, .inl f_t_table_clash)), (a_t_table_near, .inl (cI, 16, .inl f_t_table_near))] H := hP
  have hD : va_D A [(a_t, .inr (4, [.int (0 : Int32), .int (0 : Int32), .int (16 : Int32), .int v_t_most, .ref a_t_table])), (a_t_table, .inr (3, [.int v_t_table_law, .int v_t_table_boxes, .int v_t_table_fit, .int v_t_table_low, .int v_t_table_high, .ref a_t_table_sets, .ref a_t_table_clash, .ref a_t_table_near])), (a_t_table_clash, .inl (cI, 16, .inl f_t_table_clash)), (a_t_table_near, .inl (cI, 16, .inl f_t_table_near))] := hD
  refine lv_aload_n hx hb dX4_tell_16 rfl (lv_at hl 0 rfl) ?_
  refine lv_iconst (v := (0 : Int32)) hx hb dX4_tell_17 (by decide) ?_
  refine va_put (D := (dC, dI)) (ci := 4) (v := .int (0 : Int32)) (ty := .int) (C := RX4) (T := TX4) (N := 5) hx hb hts in_X4_tell_X4 tyX4 tyX4_ok nmX4 hown hK hP hD hS 0 rfl rfl 3 (by decide) (hts (.fieldLink RX4 21 "NoneWithin$Lister" "most" "I") (by decide +kernel)) (fun _ h9 => h9) rfl (by decide +kernel) rfl rfl (Nat.le_of_ble_eq_true rfl) dX4_tell_18 (fun H locs hP hD hS => ?_)
  have hP : va_P (dC, dI) classes [(a_t, .inr (4, [.int (0 : Int32), .int (0 : Int32), .int (16 : Int32), .int (0 : Int32), .ref a_t_table])), (a_t_table, .inr (3, [.int v_t_table_law, .int v_t_table_boxes, .int v_t_table_fit, .int v_t_table_low, .int v_t_table_high, .ref a_t_table_sets, .ref a_t_table_clash, .ref a_t_table_near])), (a_t_table_clash, .inl (cI, 16, .inl f_t_table_clash)), (a_t_table_near, .inl (cI, 16, .inl f_t_table_near))] H := hP
  have hD : va_D A [(a_t, .inr (4, [.int (0 : Int32), .int (0 : Int32), .int (16 : Int32), .int (0 : Int32), .ref a_t_table])), (a_t_table, .inr (3, [.int v_t_table_law, .int v_t_table_boxes, .int v_t_table_fit, .int v_t_table_low, .int v_t_table_high, .ref a_t_table_sets, .ref a_t_table_clash, .ref a_t_table_near])), (a_t_table_clash, .inl (cI, 16, .inl f_t_table_clash)), (a_t_table_near, .inl (cI, 16, .inl f_t_table_near))] := hD
  refine lv_aload_n hx hb dX4_tell_21 rfl (lv_at hl 0 rfl) ?_
  refine va_get (D := (dC, dI)) (ci := 4) (v := .ref a_t_table) (C := RX4) (T := TX4) (N := 5) hx hb hts in_X4_tell_X4 hown hK hP 0 rfl rfl 4 (by decide) (hts (.fieldLink RX4 24 "NoneWithin$Lister" "table" "LNoneWithin$LawTable;") (by decide +kernel)) (fun _ h9 => h9) rfl dX4_tell_22 ?_
  refine va_get (D := (dC, dI)) (ci := 3) (v := .int v_t_table_law) (C := RX3) (T := TX3) (N := 8) hx hb hts in_X4_tell_X3 hown hK hP 1 rfl rfl 0 (by decide) (hts (.fieldLink RX4 28 "NoneWithin$LawTable" "law" "I") (by decide +kernel)) (fun _ h9 => h9) rfl dX4_tell_25 ?_
  refine lv_if_ne (tgt := 61) hx hb dX4_tell_28 (by decide) (fun c28 => ?_) (fun c28 => ?_)
  · have hM := ifn c28 hM
    refine lv_aload_n hx hb dX4_tell_61 rfl (lv_at hl 0 rfl) ?_
    refine lv_iconst (v := (0 : Int32)) hx hb dX4_tell_62 (by decide) ?_
    refine lv_iconst (v := (0 : Int32)) hx hb dX4_tell_63 (by decide) ?_
    refine lv_aload_n hx hb dX4_tell_64 rfl (lv_at hl 0 rfl) ?_
    refine va_get (D := (dC, dI)) (ci := 4) (v := .ref a_t_table) (C := RX4) (T := TX4) (N := 5) hx hb hts in_X4_tell_X4 hown hK hP 0 rfl rfl 4 (by decide) (hts (.fieldLink RX4 24 "NoneWithin$Lister" "table" "LNoneWithin$LawTable;") (by decide +kernel)) (fun _ h9 => h9) rfl dX4_tell_65 ?_
    obtain ⟨t68, hg68, hM⟩ := bd hM
    refine nw_i (wc := [(a_t_table, .inr (3, [.int v_t_table_law, .int v_t_table_boxes, .int v_t_table_fit, .int v_t_table_low, .int v_t_table_high, .ref a_t_table_sets, .ref a_t_table_clash, .ref a_t_table_near]))]) (wr := [(a_t, .inr (4, [.int (0 : Int32), .int (0 : Int32), .int (16 : Int32), .int (0 : Int32), .ref a_t_table])), (a_t_table_clash, .inl (cI, 16, .inl f_t_table_clash)), (a_t_table_near, .inl (cI, 16, .inl f_t_table_near))]) (w1 := [(a_t_table, .inr (3, [.int v_t_table_law, .int v_t_table_boxes, .int v_t_table_fit, .int v_t_table_low, .int v_t_table_high, .ref a_t_table_sets, .ref a_t_table_clash, .ref a_t_table_near]))]) (wf := [(a_t, .inr (4, [.int (0 : Int32), .int (0 : Int32), .int (16 : Int32), .int (0 : Int32), .ref a_t_table])), (a_t_table, .inr (3, [.int v_t_table_law, .int v_t_table_boxes, .int v_t_table_fit, .int v_t_table_low, .int v_t_table_high, .ref a_t_table_sets, .ref a_t_table_clash, .ref a_t_table_near])), (a_t_table_clash, .inl (cI, 16, .inl f_t_table_clash)), (a_t_table_near, .inl (cI, 16, .inl f_t_table_near))]) [1] [0, 2, 3] [0, 3, 1, 2] hP hD hS hA rfl rfl rfl (by decide) rfl rfl (nw_runV (As := []) (rest := [.int (0 : Int32), .int (0 : Int32), .ref a_t]) hfix (c_X3_all l dC dI cI cJ cZ cQ gx a_t_table a_t_table_sets a_t_table_clash a_t_table_near H.size v_t_table_law v_t_table_boxes v_t_table_fit v_t_table_low v_t_table_high  t68 hg68) (cwV 0 hts gX4_tell_X3_all rfl rfl rfl (by decide +kernel) ⟨Nat.le_of_ble_eq_true rfl, Nat.le_of_ble_eq_true rfl⟩) hP hD hK hN hS hA hG [1] rfl rfl 1 3 rfl rfl rfl hl.1 rfl rfl (Nat.le_of_ble_eq_true rfl) dX4_tell_68 ⟨Nat.zero_le _, Nat.zero_le _⟩) (fun H locs hP hD hS => ?_)
    refine lv_aload_n hx hb dX4_tell_71 rfl (lv_at hl 0 rfl) ?_
    refine va_get (D := (dC, dI)) (ci := 4) (v := .ref a_t_table) (C := RX4) (T := TX4) (N := 5) hx hb hts in_X4_tell_X4 hown hK hP 0 rfl rfl 4 (by decide) (hts (.fieldLink RX4 24 "NoneWithin$Lister" "table" "LNoneWithin$LawTable;") (by decide +kernel)) (fun _ h9 => h9) rfl dX4_tell_72 ?_
    refine va_get (D := (dC, dI)) (ci := 3) (v := .int v_t_table_fit) (C := RX3) (T := TX3) (N := 8) hx hb hts in_X4_tell_X3 hown hK hP 1 rfl rfl 2 (by decide) (hts (.fieldLink RX4 33 "NoneWithin$LawTable" "fit" "I") (by decide +kernel)) (fun _ h9 => h9) rfl dX4_tell_75 ?_
    refine lv_iconst (v := (-1 : Int32)) hx hb dX4_tell_78 (by decide) ?_
    refine lv_ixor hx hb dX4_tell_79 ?_
    refine lv_iand hx hb dX4_tell_80 ?_
    obtain ⟨t81, hg81, hM⟩ := bd hM
    refine nw_v (wc := [(a_t, .inr (4, [.int (0 : Int32), .int (0 : Int32), .int (16 : Int32), .int (0 : Int32), .ref a_t_table])), (a_t_table, .inr (3, [.int v_t_table_law, .int v_t_table_boxes, .int v_t_table_fit, .int v_t_table_low, .int v_t_table_high, .ref a_t_table_sets, .ref a_t_table_clash, .ref a_t_table_near])), (a_t_table_clash, .inl (cI, 16, .inl f_t_table_clash)), (a_t_table_near, .inl (cI, 16, .inl f_t_table_near))]) (wr := []) (w1 := [(a_t, .inr (4, [.int t81.2.1, .int t81.2.2.2, .int t81.1, .int t81.2.2.1, .ref a_t_table])), (a_t_table, .inr (3, [.int v_t_table_law, .int v_t_table_boxes, .int v_t_table_fit, .int v_t_table_low, .int v_t_table_high, .ref a_t_table_sets, .ref a_t_table_clash, .ref a_t_table_near])), (a_t_table_clash, .inl (cI, 16, .inl f_t_table_clash)), (a_t_table_near, .inl (cI, 16, .inl f_t_table_near))]) (wf := [(a_t, .inr (4, [.int t81.2.1, .int t81.2.2.2, .int t81.1, .int t81.2.2.1, .ref a_t_table])), (a_t_table, .inr (3, [.int v_t_table_law, .int v_t_table_boxes, .int v_t_table_fit, .int v_t_table_low, .int v_t_table_high, .ref a_t_table_sets, .ref a_t_table_clash, .ref a_t_table_near])), (a_t_table_clash, .inl (cI, 16, .inl f_t_table_clash)), (a_t_table_near, .inl (cI, 16, .inl f_t_table_near))]) [0, 1, 2, 3] [] [0, 1, 2, 3] hP hD hS hA rfl rfl rfl (by decide) rfl rfl (nw_runV (As := [.int (0 : Int32), .int (0 : Int32), .int (t68 &&& (v_t_table_fit ^^^ (-1 : Int32)))]) (rest := []) hfix (c_X4_walk 20 l dC dI cI cJ cZ cQ gx a_t a_t_table a_t_table_clash a_t_table_near a_t_table_sets H.size (0 : Int32) (0 : Int32) (16 : Int32) (0 : Int32) v_t_table_law v_t_table_boxes v_t_table_fit v_t_table_low v_t_table_high f_t_table_clash f_t_table_near (0 : Int32) (0 : Int32) (t68 &&& (v_t_table_fit ^^^ (-1 : Int32))) t81 hg81) (cwV 3 hts gX4_tell_X4_walk rfl rfl rfl (by decide +kernel) ⟨Nat.le_of_ble_eq_true rfl, Nat.le_of_ble_eq_true rfl⟩) hP hD hK hN hS hA hG [0, 1, 2, 3] rfl rfl 0 4 rfl rfl rfl hl.1 rfl rfl (Nat.le_of_ble_eq_true rfl) dX4_tell_81 ⟨Nat.zero_le _, Nat.zero_le _⟩) (fun H locs hP hD hS => ?_)
    have hE : res = ((t81.1, t81.2.1, t81.2.2.1, t81.2.2.2) : (Int32 × Int32 × Int32 × Int32)) := ((Option.some.inj hM).trans hX).symm
    rw [hQq, hE]
    exact nw_vret hx hb hr hlocks hK hP hD hS dX4_tell_84
  · have hM := ifp c28 hM
    refine lv_aload_n hx hb dX4_tell_31 rfl (lv_at hl 0 rfl) ?_
    refine lv_iconst (v := (1 : Int32)) hx hb dX4_tell_32 (by decide) ?_
    refine lv_aload_n hx hb dX4_tell_33 rfl (lv_at hl 0 rfl) ?_
    refine va_get (D := (dC, dI)) (ci := 4) (v := .ref a_t_table) (C := RX4) (T := TX4) (N := 5) hx hb hts in_X4_tell_X4 hown hK hP 0 rfl rfl 4 (by decide) (hts (.fieldLink RX4 24 "NoneWithin$Lister" "table" "LNoneWithin$LawTable;") (by decide +kernel)) (fun _ h9 => h9) rfl dX4_tell_34 ?_
    refine va_get (D := (dC, dI)) (ci := 3) (v := .int v_t_table_fit) (C := RX3) (T := TX3) (N := 8) hx hb hts in_X4_tell_X3 hown hK hP 1 rfl rfl 2 (by decide) (hts (.fieldLink RX4 33 "NoneWithin$LawTable" "fit" "I") (by decide +kernel)) (fun _ h9 => h9) rfl dX4_tell_37 ?_
    obtain ⟨t40, hg40, hM⟩ := bd hM
    refine nw_i (wc := []) (wr := [(a_t, .inr (4, [.int (0 : Int32), .int (0 : Int32), .int (16 : Int32), .int (0 : Int32), .ref a_t_table])), (a_t_table, .inr (3, [.int v_t_table_law, .int v_t_table_boxes, .int v_t_table_fit, .int v_t_table_low, .int v_t_table_high, .ref a_t_table_sets, .ref a_t_table_clash, .ref a_t_table_near])), (a_t_table_clash, .inl (cI, 16, .inl f_t_table_clash)), (a_t_table_near, .inl (cI, 16, .inl f_t_table_near))]) (w1 := []) (wf := [(a_t, .inr (4, [.int (0 : Int32), .int (0 : Int32), .int (16 : Int32), .int (0 : Int32), .ref a_t_table])), (a_t_table, .inr (3, [.int v_t_table_law, .int v_t_table_boxes, .int v_t_table_fit, .int v_t_table_low, .int v_t_table_high, .ref a_t_table_sets, .ref a_t_table_clash, .ref a_t_table_near])), (a_t_table_clash, .inl (cI, 16, .inl f_t_table_clash)), (a_t_table_near, .inl (cI, 16, .inl f_t_table_near))]) [] [0, 1, 2, 3] [0, 1, 2, 3] hP hD hS hA rfl rfl rfl (by decide) rfl rfl (nw_runS (As := [.int v_t_table_fit]) (rest := [.int (1 : Int32), .ref a_t]) hfix (c_J6_bitCount_0f7a4 l dC dI cI cJ cZ cQ gx  H.size  v_t_table_fit t40 hg40) (va_cwS 1 hts gX4_tell_J6_bitCount_0f7a4 rfl rfl rfl (by decide +kernel) ⟨Nat.le_of_ble_eq_true rfl, Nat.le_of_ble_eq_true rfl⟩) hP hD hK hN hS hA hG [] rfl rfl hl.1 rfl rfl (Nat.le_of_ble_eq_true rfl) dX4_tell_40 ⟨Nat.zero_le _, Nat.zero_le _⟩) (fun H locs hP hD hS => ?_)
    refine lv_ishl hx hb dX4_tell_43 ?_
    refine va_put (D := (dC, dI)) (ci := 4) (v := .int ((1 : Int32) <<< (t40 &&& 31))) (ty := .int) (C := RX4) (T := TX4) (N := 5) hx hb hts in_X4_tell_X4 tyX4 tyX4_ok nmX4 hown hK hP hD hS 0 rfl rfl 0 (by decide) (hts (.fieldLink RX4 9 "NoneWithin$Lister" "lawful" "I") (by decide +kernel)) (fun _ h9 => h9) rfl (by decide +kernel) rfl rfl (Nat.le_of_ble_eq_true rfl) dX4_tell_44 (fun H locs hP hD hS => ?_)
    have hP : va_P (dC, dI) classes [(a_t, .inr (4, [.int ((1 : Int32) <<< (t40 &&& 31)), .int (0 : Int32), .int (16 : Int32), .int (0 : Int32), .ref a_t_table])), (a_t_table, .inr (3, [.int v_t_table_law, .int v_t_table_boxes, .int v_t_table_fit, .int v_t_table_low, .int v_t_table_high, .ref a_t_table_sets, .ref a_t_table_clash, .ref a_t_table_near])), (a_t_table_clash, .inl (cI, 16, .inl f_t_table_clash)), (a_t_table_near, .inl (cI, 16, .inl f_t_table_near))] H := hP
    have hD : va_D A [(a_t, .inr (4, [.int ((1 : Int32) <<< (t40 &&& 31)), .int (0 : Int32), .int (16 : Int32), .int (0 : Int32), .ref a_t_table])), (a_t_table, .inr (3, [.int v_t_table_law, .int v_t_table_boxes, .int v_t_table_fit, .int v_t_table_low, .int v_t_table_high, .ref a_t_table_sets, .ref a_t_table_clash, .ref a_t_table_near])), (a_t_table_clash, .inl (cI, 16, .inl f_t_table_clash)), (a_t_table_near, .inl (cI, 16, .inl f_t_table_near))] := hD
    refine lv_aload_n hx hb dX4_tell_47 rfl (lv_at hl 0 rfl) ?_
    refine lv_aload_n hx hb dX4_tell_48 rfl (lv_at hl 0 rfl) ?_
    refine va_get (D := (dC, dI)) (ci := 4) (v := .ref a_t_table) (C := RX4) (T := TX4) (N := 5) hx hb hts in_X4_tell_X4 hown hK hP 0 rfl rfl 4 (by decide) (hts (.fieldLink RX4 24 "NoneWithin$Lister" "table" "LNoneWithin$LawTable;") (by decide +kernel)) (fun _ h9 => h9) rfl dX4_tell_49 ?_
    refine va_get (D := (dC, dI)) (ci := 3) (v := .int v_t_table_fit) (C := RX3) (T := TX3) (N := 8) hx hb hts in_X4_tell_X3 hown hK hP 1 rfl rfl 2 (by decide) (hts (.fieldLink RX4 33 "NoneWithin$LawTable" "fit" "I") (by decide +kernel)) (fun _ h9 => h9) rfl dX4_tell_52 ?_
    obtain ⟨t55, hg55, hM⟩ := bd hM
    refine nw_v (wc := [(a_t, .inr (4, [.int ((1 : Int32) <<< (t40 &&& 31)), .int (0 : Int32), .int (16 : Int32), .int (0 : Int32), .ref a_t_table]))]) (wr := [(a_t_table, .inr (3, [.int v_t_table_law, .int v_t_table_boxes, .int v_t_table_fit, .int v_t_table_low, .int v_t_table_high, .ref a_t_table_sets, .ref a_t_table_clash, .ref a_t_table_near])), (a_t_table_clash, .inl (cI, 16, .inl f_t_table_clash)), (a_t_table_near, .inl (cI, 16, .inl f_t_table_near))]) (w1 := [(a_t, .inr (4, [.int ((1 : Int32) <<< (t40 &&& 31)), .int t55.2.2, .int t55.1, .int t55.2.1, .ref a_t_table]))]) (wf := [(a_t, .inr (4, [.int ((1 : Int32) <<< (t40 &&& 31)), .int t55.2.2, .int t55.1, .int t55.2.1, .ref a_t_table])), (a_t_table, .inr (3, [.int v_t_table_law, .int v_t_table_boxes, .int v_t_table_fit, .int v_t_table_low, .int v_t_table_high, .ref a_t_table_sets, .ref a_t_table_clash, .ref a_t_table_near])), (a_t_table_clash, .inl (cI, 16, .inl f_t_table_clash)), (a_t_table_near, .inl (cI, 16, .inl f_t_table_near))]) [0] [1, 2, 3] [3, 0, 1, 2] hP hD hS hA rfl rfl rfl (by decide) rfl rfl (nw_runV (As := [.int v_t_table_fit]) (rest := []) hfix (c_X4_noteWhole l dC dI cI cJ cZ cQ gx a_t a_t_table H.size ((1 : Int32) <<< (t40 &&& 31)) (0 : Int32) (16 : Int32) (0 : Int32) v_t_table_fit t55 hg55) (cwV 1 hts gX4_tell_X4_noteWhole rfl rfl rfl (by decide +kernel) ⟨Nat.le_of_ble_eq_true rfl, Nat.le_of_ble_eq_true rfl⟩) hP hD hK hN hS hA hG [0] rfl rfl 0 4 rfl rfl rfl hl.1 rfl rfl (Nat.le_of_ble_eq_true rfl) dX4_tell_55 ⟨Nat.zero_le _, Nat.zero_le _⟩) (fun H locs hP hD hS => ?_)
    refine lv_goto (tgt := 84) hx hb dX4_tell_58 (by decide) ?_
    have hE : res = ((t55.1, ((1 : Int32) <<< (t40 &&& 31)), t55.2.1, t55.2.2) : (Int32 × Int32 × Int32 × Int32)) := ((Option.some.inj hM).trans hX).symm
    rw [hQq, hE]
    exact nw_vret hx hb hr hlocks hK hP hD hS dX4_tell_84
theorem in_X5_begin_X5 : ∀ w ∈ wsX50, w ∈ wsX5_begin := fun _ h => List.mem_cons_of_mem _ (List.mem_append_left _ (List.mem_append_right _ h))
abbrev rm_X5_begin : Room := { frames := 3, cells := 0, slots := 0, locals := 70 }
set_option maxHeartbeats 4000000 in
set_option maxRecDepth 100000 in
theorem c_X5_begin (l : Launch) (dC : Nat → ClassId) (dI : Nat → Nat → Nat) (cI cJ cZ cQ : ClassId) (gx : GX) (a_t a_t_table a_t_table_clash a_t_table_near a_t_known a_t_won a_t_parts a_t_table_sets : Nat) (sz : Nat) (v_t_list : Int32) (v_t_barred : Int32) (v_t_table_law : Int32) (v_t_table_boxes : Int32) (v_t_table_fit : Int32) (v_t_table_low : Int32) (v_t_table_high : Int32) (f_t_table_clash : (Nat → Int32)) (f_t_table_near : (Nat → Int32)) (p0 : Int32) (res : (Int32 × Int32 × Int32)) (hM : M_X5_begin v_t_barred v_t_list v_t_table_boxes v_t_table_fit f_t_table_clash f_t_table_near p0 = some res) : Met l yX5_begin wsX5_begin rm_X5_begin (kP dC dI cI cJ cZ cQ gx [.ref a_t, .int p0] sz [(a_t, .inr (5, [.ref a_t_known, .ref a_t_won, .ref a_t_parts, .ref a_t_table, .int v_t_list, .int v_t_barred])), (a_t_table, .inr (3, [.int v_t_table_law, .int v_t_table_boxes, .int v_t_table_fit, .int v_t_table_low, .int v_t_table_high, .ref a_t_table_sets, .ref a_t_table_clash, .ref a_t_table_near])), (a_t_table_clash, .inl (cI, 16, .inl f_t_table_clash)), (a_t_table_near, .inl (cI, 16, .inl f_t_table_near))]) (kQi dC dI cI cJ cZ cQ res.1 [(a_t, .inr (5, [.ref a_t_known, .ref a_t_won, .ref a_t_parts, .ref a_t_table, .int res.2.2, .int res.2.1])), (a_t_table, .inr (3, [.int v_t_table_law, .int v_t_table_boxes, .int v_t_table_fit, .int v_t_table_low, .int v_t_table_high, .ref a_t_table_sets, .ref a_t_table_clash, .ref a_t_table_near])), (a_t_table_clash, .inl (cI, 16, .inl f_t_table_clash)), (a_t_table_near, .inl (cI, 16, .inl f_t_table_near))] (va_A [(a_t, .inr (5, [.ref a_t_known, .ref a_t_won, .ref a_t_parts, .ref a_t_table, .int v_t_list, .int v_t_barred])), (a_t_table, .inr (3, [.int v_t_table_law, .int v_t_table_boxes, .int v_t_table_fit, .int v_t_table_low, .int v_t_table_high, .ref a_t_table_sets, .ref a_t_table_clash, .ref a_t_table_near])), (a_t_table_clash, .inl (cI, 16, .inl f_t_table_clash)), (a_t_table_near, .inl (cI, 16, .inl f_t_table_near))] sz)) 0 0 (va_A [(a_t, .inr (5, [.ref a_t_known, .ref a_t_won, .ref a_t_parts, .ref a_t_table, .int v_t_list, .int v_t_barred])), (a_t_table, .inr (3, [.int v_t_table_law, .int v_t_table_boxes, .int v_t_table_fit, .int v_t_table_low, .int v_t_table_high, .ref a_t_table_sets, .ref a_t_table_clash, .ref a_t_table_near])), (a_t_table_clash, .inl (cI, 16, .inl f_t_table_clash)), (a_t_table_near, .inl (cI, 16, .inl f_t_table_near))] sz) := by
  refine nw_entry (y := yX5_begin) (ws := wsX5_begin) (rm := rm_X5_begin) (sz := sz) (wpre := [(a_t, .inr (5, [.ref a_t_known, .ref a_t_won, .ref a_t_parts, .ref a_t_table, .int v_t_list, .int v_t_barred])), (a_t_table, .inr (3, [.int v_t_table_law, .int v_t_table_boxes, .int v_t_table_fit, .int v_t_table_low, .int v_t_table_high, .ref a_t_table_sets, .ref a_t_table_clash, .ref a_t_table_near])), (a_t_table_clash, .inl (cI, 16, .inl f_t_table_clash)), (a_t_table_near, .inl (cI, 16, .inl f_t_table_near))]) (av := [.ref a_t, .int p0]) (Qc := (kQi dC dI cI cJ cZ cQ res.1 [(a_t, .inr (5, [.ref a_t_known, .ref a_t_won, .ref a_t_parts, .ref a_t_table, .int res.2.2, .int res.2.1])), (a_t_table, .inr (3, [.int v_t_table_law, .int v_t_table_boxes, .int v_t_table_fit, .int v_t_table_low, .int v_t_table_high, .ref a_t_table_sets, .ref a_t_table_clash, .ref a_t_table_near])), (a_t_table_clash, .inl (cI, 16, .inl f_t_table_clash)), (a_t_table_near, .inl (cI, 16, .inl f_t_table_near))])) (cc := cX5_begin) (own := RX5) [(0, .ref a_t), (1, .int p0)] (by decide) rfl rfl (Nat.le_of_ble_eq_true rfl) rfl ?_
  intro p e s m below meth c A ls H locs hfix hr hlocks hin0 hsz0 hP hK hD hA hS hN hG hl
  obtain ⟨hx, hb, hml, hown, hts⟩ := id hfix
  obtain ⟨Qq, hQq⟩ : ∃ Q9, Q9 = (kQi dC dI cI cJ cZ cQ res.1 [(a_t, .inr (5, [.ref a_t_known, .ref a_t_won, .ref a_t_parts, .ref a_t_table, .int res.2.2, .int res.2.1])), (a_t_table, .inr (3, [.int v_t_table_law, .int v_t_table_boxes, .int v_t_table_fit, .int v_t_table_low, .int v_t_table_high, .ref a_t_table_sets, .ref a_t_table_clash, .ref a_t_table_near])), (a_t_table_clash, .inl (cI, 16, .inl f_t_table_clash)), (a_t_table_near, .inl (cI, 16, .inl f_t_table_near))]) := ⟨_, rfl⟩
  rw [← hQq]
  have hX : res = res := rfl
  have hM : (Option.bind (M_X3_barredByAll v_t_table_boxes v_t_table_fit f_t_table_clash f_t_table_near p0) (fun t14 => if t14 = (-1 : Int32) then (some ((0 : Int32), t14, p0)) else (some ((1 : Int32), t14, p0)))) = some res := hM
  refine lv_aload_n hx hb dX5_begin_0 rfl (lv_at hl 0 rfl) ?_
  refine lv_iload_n hx hb dX5_begin_1 rfl (lv_at hl 1 rfl) ?_
  refine va_put (D := (dC, dI)) (ci := 5) (v := .int p0) (ty := .int) (C := RX5) (T := TX5) (N := 6) hx hb hts in_X5_begin_X5 tyX5 tyX5_ok nmX5 hown hK hP hD hS 0 rfl rfl 4 (by decide) (hts (.fieldLink RX5 22 "NoneWithin$Player" "list" "I") (by decide +kernel)) (fun _ h9 => h9) rfl (by decide +kernel) rfl rfl (Nat.le_of_ble_eq_true rfl) dX5_begin_2 (fun H locs hP hD hS => ?_)
  have hP : va_P (dC, dI) classes [(a_t, .inr (5, [.ref a_t_known, .ref a_t_won, .ref a_t_parts, .ref a_t_table, .int p0, .int v_t_barred])), (a_t_table, .inr (3, [.int v_t_table_law, .int v_t_table_boxes, .int v_t_table_fit, .int v_t_table_low, .int v_t_table_high, .ref a_t_table_sets, .ref a_t_table_clash, .ref a_t_table_near])), (a_t_table_clash, .inl (cI, 16, .inl f_t_table_clash)), (a_t_table_near, .inl (cI, 16, .inl f_t_table_near))] H := hP
  have hD : va_D A [(a_t, .inr (5, [.ref a_t_known, .ref a_t_won, .ref a_t_parts, .ref a_t_table, .int p0, .int v_t_barred])), (a_t_table, .inr (3, [.int v_t_table_law, .int v_t_table_boxes, .int v_t_table_fit, .int v_t_table_low, .int v_t_table_high, .ref a_t_table_sets, .ref a_t_table_clash, .ref a_t_table_near])), (a_t_table_clash, .inl (cI, 16, .inl f_t_table_clash)), (a_t_table_near, .inl (cI, 16, .inl f_t_table_near))] := hD
  refine lv_aload_n hx hb dX5_begin_5 rfl (lv_at hl 0 rfl) ?_
  refine lv_aload_n hx hb dX5_begin_6 rfl (lv_at hl 0 rfl) ?_
  refine va_get (D := (dC, dI)) (ci := 5) (v := .ref a_t_table) (C := RX5) (T := TX5) (N := 6) hx hb hts in_X5_begin_X5 hown hK hP 0 rfl rfl 3 (by decide) (hts (.fieldLink RX5 29 "NoneWithin$Player" "table" "LNoneWithin$LawTable;") (by decide +kernel)) (fun _ h9 => h9) rfl dX5_begin_7 ?_
  refine lv_aload_n hx hb dX5_begin_10 rfl (lv_at hl 0 rfl) ?_
  refine va_get (D := (dC, dI)) (ci := 5) (v := .int p0) (C := RX5) (T := TX5) (N := 6) hx hb hts in_X5_begin_X5 hown hK hP 0 rfl rfl 4 (by decide) (hts (.fieldLink RX5 22 "NoneWithin$Player" "list" "I") (by decide +kernel)) (fun _ h9 => h9) rfl dX5_begin_11 ?_
  obtain ⟨t14, hg14, hM⟩ := bd hM
  refine nw_i (wc := [(a_t_table, .inr (3, [.int v_t_table_law, .int v_t_table_boxes, .int v_t_table_fit, .int v_t_table_low, .int v_t_table_high, .ref a_t_table_sets, .ref a_t_table_clash, .ref a_t_table_near])), (a_t_table_clash, .inl (cI, 16, .inl f_t_table_clash)), (a_t_table_near, .inl (cI, 16, .inl f_t_table_near))]) (wr := [(a_t, .inr (5, [.ref a_t_known, .ref a_t_won, .ref a_t_parts, .ref a_t_table, .int p0, .int v_t_barred]))]) (w1 := [(a_t_table, .inr (3, [.int v_t_table_law, .int v_t_table_boxes, .int v_t_table_fit, .int v_t_table_low, .int v_t_table_high, .ref a_t_table_sets, .ref a_t_table_clash, .ref a_t_table_near])), (a_t_table_clash, .inl (cI, 16, .inl f_t_table_clash)), (a_t_table_near, .inl (cI, 16, .inl f_t_table_near))]) (wf := [(a_t, .inr (5, [.ref a_t_known, .ref a_t_won, .ref a_t_parts, .ref a_t_table, .int p0, .int v_t_barred])), (a_t_table, .inr (3, [.int v_t_table_law, .int v_t_table_boxes, .int v_t_table_fit, .int v_t_table_low, .int v_t_table_high, .ref a_t_table_sets, .ref a_t_table_clash, .ref a_t_table_near])), (a_t_table_clash, .inl (cI, 16, .inl f_t_table_clash)), (a_t_table_near, .inl (cI, 16, .inl f_t_table_near))]) [1, 2, 3] [0] [0, 1, 2, 3] hP hD hS hA rfl rfl rfl (by decide) rfl rfl (nw_runV (As := [.int p0]) (rest := [.ref a_t]) hfix (c_X3_barredByAll l dC dI cI cJ cZ cQ gx a_t_table a_t_table_clash a_t_table_near a_t_table_sets H.size v_t_table_law v_t_table_boxes v_t_table_fit v_t_table_low v_t_table_high f_t_table_clash f_t_table_near p0 t14 hg14) (cwV 1 hts gX5_begin_X3_barredByAll rfl rfl rfl (by decide +kernel) ⟨Nat.le_of_ble_eq_true rfl, Nat.le_of_ble_eq_true rfl⟩) hP hD hK hN hS hA hG [1, 2, 3] rfl rfl 1 3 rfl rfl rfl hl.1 rfl rfl (Nat.le_of_ble_eq_true rfl) dX5_begin_14 ⟨Nat.zero_le _, Nat.zero_le _⟩) (fun H locs hP hD hS => ?_)
  refine va_put (D := (dC, dI)) (ci := 5) (v := .int t14) (ty := .int) (C := RX5) (T := TX5) (N := 6) hx hb hts in_X5_begin_X5 tyX5 tyX5_ok nmX5 hown hK hP hD hS 0 rfl rfl 5 (by decide) (hts (.fieldLink RX5 26 "NoneWithin$Player" "barred" "I") (by decide +kernel)) (fun _ h9 => h9) rfl (by decide +kernel) rfl rfl (Nat.le_of_ble_eq_true rfl) dX5_begin_17 (fun H locs hP hD hS => ?_)
  have hP : va_P (dC, dI) classes [(a_t, .inr (5, [.ref a_t_known, .ref a_t_won, .ref a_t_parts, .ref a_t_table, .int p0, .int t14])), (a_t_table, .inr (3, [.int v_t_table_law, .int v_t_table_boxes, .int v_t_table_fit, .int v_t_table_low, .int v_t_table_high, .ref a_t_table_sets, .ref a_t_table_clash, .ref a_t_table_near])), (a_t_table_clash, .inl (cI, 16, .inl f_t_table_clash)), (a_t_table_near, .inl (cI, 16, .inl f_t_table_near))] H := hP
  have hD : va_D A [(a_t, .inr (5, [.ref a_t_known, .ref a_t_won, .ref a_t_parts, .ref a_t_table, .int p0, .int t14])), (a_t_table, .inr (3, [.int v_t_table_law, .int v_t_table_boxes, .int v_t_table_fit, .int v_t_table_low, .int v_t_table_high, .ref a_t_table_sets, .ref a_t_table_clash, .ref a_t_table_near])), (a_t_table_clash, .inl (cI, 16, .inl f_t_table_clash)), (a_t_table_near, .inl (cI, 16, .inl f_t_table_near))] := hD
  refine lv_aload_n hx hb dX5_begin_20 rfl (lv_at hl 0 rfl) ?_
  refine va_get (D := (dC, dI)) (ci := 5) (v := .int t14) (C := RX5) (T := TX5) (N := 6) hx hb hts in_X5_begin_X5 hown hK hP 0 rfl rfl 5 (by decide) (hts (.fieldLink RX5 26 "NoneWithin$Player" "barred" "I") (by decide +kernel)) (fun _ h9 => h9) rfl dX5_begin_21 ?_
  refine lv_iconst (v := (-1 : Int32)) hx hb dX5_begin_24 (by decide) ?_
  refine lv_icmp_eq (tgt := 32) hx hb dX5_begin_25 (by decide) (fun c25 => ?_) (fun c25 => ?_)
  · have hM := ifp c25 hM
    refine lv_iconst (v := (0 : Int32)) hx hb dX5_begin_32 (by decide) ?_
    have hE : res = (((0 : Int32), t14, p0) : (Int32 × Int32 × Int32)) := ((Option.some.inj hM).trans hX).symm
    rw [hQq, hE]
    exact nw_zret rfl rfl hx hb hr hlocks hK hP hD hS dX5_begin_33
  · have hM := ifn c25 hM
    refine lv_iconst (v := (1 : Int32)) hx hb dX5_begin_28 (by decide) ?_
    refine lv_goto (tgt := 33) hx hb dX5_begin_29 (by decide) ?_
    have hE : res = (((1 : Int32), t14, p0) : (Int32 × Int32 × Int32)) := ((Option.some.inj hM).trans hX).symm
    rw [hQq, hE]
    exact nw_zret rfl rfl hx hb hr hlocks hK hP hD hS dX5_begin_33
theorem in_X5_comers_X5 : ∀ w ∈ wsX50, w ∈ wsX5_comers := fun _ h => List.mem_cons_of_mem _ (List.mem_append_left _ (List.mem_append_right _ h))
abbrev rm_X5_comers : Room := { frames := 1, cells := 0, slots := 0, locals := 20 }
set_option maxHeartbeats 4000000 in
set_option maxRecDepth 100000 in
theorem c_X5_comers (l : Launch) (dC : Nat → ClassId) (dI : Nat → Nat → Nat) (cI cJ cZ cQ : ClassId) (gx : GX) (a_t a_t_table a_t_known a_t_won a_t_parts a_t_table_sets a_t_table_clash a_t_table_near : Nat) (sz : Nat) (v_t_list : Int32) (v_t_barred : Int32) (v_t_table_law : Int32) (v_t_table_boxes : Int32) (v_t_table_fit : Int32) (v_t_table_low : Int32) (v_t_table_high : Int32) (res : Int32) (hM : M_X5_comers v_t_barred v_t_list v_t_table_boxes = some res) : Met l yX5_comers wsX5_comers rm_X5_comers (kP dC dI cI cJ cZ cQ gx [.ref a_t] sz [(a_t, .inr (5, [.ref a_t_known, .ref a_t_won, .ref a_t_parts, .ref a_t_table, .int v_t_list, .int v_t_barred])), (a_t_table, .inr (3, [.int v_t_table_law, .int v_t_table_boxes, .int v_t_table_fit, .int v_t_table_low, .int v_t_table_high, .ref a_t_table_sets, .ref a_t_table_clash, .ref a_t_table_near]))]) (kQi dC dI cI cJ cZ cQ res [(a_t, .inr (5, [.ref a_t_known, .ref a_t_won, .ref a_t_parts, .ref a_t_table, .int v_t_list, .int v_t_barred])), (a_t_table, .inr (3, [.int v_t_table_law, .int v_t_table_boxes, .int v_t_table_fit, .int v_t_table_low, .int v_t_table_high, .ref a_t_table_sets, .ref a_t_table_clash, .ref a_t_table_near]))] (va_A [(a_t, .inr (5, [.ref a_t_known, .ref a_t_won, .ref a_t_parts, .ref a_t_table, .int v_t_list, .int v_t_barred])), (a_t_table, .inr (3, [.int v_t_table_law, .int v_t_table_boxes, .int v_t_table_fit, .int v_t_table_low, .int v_t_table_high, .ref a_t_table_sets, .ref a_t_table_clash, .ref a_t_table_near]))] sz)) 0 0 (va_A [(a_t, .inr (5, [.ref a_t_known, .ref a_t_won, .ref a_t_parts, .ref a_t_table, .int v_t_list, .int v_t_barred])), (a_t_table, .inr (3, [.int v_t_table_law, .int v_t_table_boxes, .int v_t_table_fit, .int v_t_table_low, .int v_t_table_high, .ref a_t_table_sets, .ref a_t_table_clash, .ref a_t_table_near]))] sz) := by
  refine nw_entry (y := yX5_comers) (ws := wsX5_comers) (rm := rm_X5_comers) (sz := sz) (wpre := [(a_t, .inr (5, [.ref a_t_known, .ref a_t_won, .ref a_t_parts, .ref a_t_table, .int v_t_list, .int v_t_barred])), (a_t_table, .inr (3, [.int v_t_table_law, .int v_t_table_boxes, .int v_t_table_fit, .int v_t_table_low, .int v_t_table_high, .ref a_t_table_sets, .ref a_t_table_clash, .ref a_t_table_near]))]) (av := [.ref a_t]) (Qc := (kQi dC dI cI cJ cZ cQ res [(a_t, .inr (5, [.ref a_t_known, .ref a_t_won, .ref a_t_parts, .ref a_t_table, .int v_t_list, .int v_t_barred])), (a_t_table, .inr (3, [.int v_t_table_law, .int v_t_table_boxes, .int v_t_table_fit, .int v_t_table_low, .int v_t_table_high, .ref a_t_table_sets, .ref a_t_table_clash, .ref a_t_table_near]))])) (cc := cX5_comers) (own := RX5) [(0, .ref a_t)] (by decide) rfl rfl (Nat.le_of_ble_eq_true rfl) rfl ?_
  intro p e s m below meth c A ls H locs hfix hr hlocks hin0 hsz0 hP hK hD hA hS hN hG hl
  obtain ⟨hx, hb, hml, hown, hts⟩ := id hfix
  obtain ⟨Qq, hQq⟩ : ∃ Q9, Q9 = (kQi dC dI cI cJ cZ cQ res [(a_t, .inr (5, [.ref a_t_known, .ref a_t_won, .ref a_t_parts, .ref a_t_table, .int v_t_list, .int v_t_barred])), (a_t_table, .inr (3, [.int v_t_table_law, .int v_t_table_boxes, .int v_t_table_fit, .int v_t_table_low, .int v_t_table_high, .ref a_t_table_sets, .ref a_t_table_clash, .ref a_t_table_near]))]) := ⟨_, rfl⟩
  rw [← hQq]
  have hX : res = res := rfl
  have hM : (Option.bind (M_X3_all v_t_table_boxes) (fun t4 => some (t4 &&& ((v_t_list ||| v_t_barred) ^^^ (-1 : Int32))))) = some res := hM
  refine lv_aload_n hx hb dX5_comers_0 rfl (lv_at hl 0 rfl) ?_
  refine va_get (D := (dC, dI)) (ci := 5) (v := .ref a_t_table) (C := RX5) (T := TX5) (N := 6) hx hb hts in_X5_comers_X5 hown hK hP 0 rfl rfl 3 (by decide) (hts (.fieldLink RX5 29 "NoneWithin$Player" "table" "LNoneWithin$LawTable;") (by decide +kernel)) (fun _ h9 => h9) rfl dX5_comers_1 ?_
  obtain ⟨t4, hg4, hM⟩ := bd hM
  refine nw_i (wc := [(a_t_table, .inr (3, [.int v_t_table_law, .int v_t_table_boxes, .int v_t_table_fit, .int v_t_table_low, .int v_t_table_high, .ref a_t_table_sets, .ref a_t_table_clash, .ref a_t_table_near]))]) (wr := [(a_t, .inr (5, [.ref a_t_known, .ref a_t_won, .ref a_t_parts, .ref a_t_table, .int v_t_list, .int v_t_barred]))]) (w1 := [(a_t_table, .inr (3, [.int v_t_table_law, .int v_t_table_boxes, .int v_t_table_fit, .int v_t_table_low, .int v_t_table_high, .ref a_t_table_sets, .ref a_t_table_clash, .ref a_t_table_near]))]) (wf := [(a_t, .inr (5, [.ref a_t_known, .ref a_t_won, .ref a_t_parts, .ref a_t_table, .int v_t_list, .int v_t_barred])), (a_t_table, .inr (3, [.int v_t_table_law, .int v_t_table_boxes, .int v_t_table_fit, .int v_t_table_low, .int v_t_table_high, .ref a_t_table_sets, .ref a_t_table_clash, .ref a_t_table_near]))]) [1] [0] [0, 1] hP hD hS hA rfl rfl rfl (by decide) rfl rfl (nw_runV (As := []) (rest := []) hfix (c_X3_all l dC dI cI cJ cZ cQ gx a_t_table a_t_table_sets a_t_table_clash a_t_table_near H.size v_t_table_law v_t_table_boxes v_t_table_fit v_t_table_low v_t_table_high  t4 hg4) (cwV 0 hts gX5_comers_X3_all rfl rfl rfl (by decide +kernel) ⟨Nat.le_of_ble_eq_true rfl, Nat.le_of_ble_eq_true rfl⟩) hP hD hK hN hS hA hG [1] rfl rfl 1 3 rfl rfl rfl hl.1 rfl rfl (Nat.le_of_ble_eq_true rfl) dX5_comers_4 ⟨Nat.zero_le _, Nat.zero_le _⟩) (fun H locs hP hD hS => ?_)
  refine lv_aload_n hx hb dX5_comers_7 rfl (lv_at hl 0 rfl) ?_
  refine va_get (D := (dC, dI)) (ci := 5) (v := .int v_t_list) (C := RX5) (T := TX5) (N := 6) hx hb hts in_X5_comers_X5 hown hK hP 0 rfl rfl 4 (by decide) (hts (.fieldLink RX5 22 "NoneWithin$Player" "list" "I") (by decide +kernel)) (fun _ h9 => h9) rfl dX5_comers_8 ?_
  refine lv_aload_n hx hb dX5_comers_11 rfl (lv_at hl 0 rfl) ?_
  refine va_get (D := (dC, dI)) (ci := 5) (v := .int v_t_barred) (C := RX5) (T := TX5) (N := 6) hx hb hts in_X5_comers_X5 hown hK hP 0 rfl rfl 5 (by decide) (hts (.fieldLink RX5 26 "NoneWithin$Player" "barred" "I") (by decide +kernel)) (fun _ h9 => h9) rfl dX5_comers_12 ?_
  refine lv_ior hx hb dX5_comers_15 ?_
  refine lv_iconst (v := (-1 : Int32)) hx hb dX5_comers_16 (by decide) ?_
  refine lv_ixor hx hb dX5_comers_17 ?_
  refine lv_iand hx hb dX5_comers_18 ?_
  have hE : res = ((t4 &&& ((v_t_list ||| v_t_barred) ^^^ (-1 : Int32))) : Int32) := ((Option.some.inj hM).trans hX).symm
  rw [hQq, hE]
  exact nw_iret rfl hx hb hr hlocks hK hP hD hS dX5_comers_19
abbrev rm_J7_fill_d0a16 : Room := { frames := 0, cells := 0, slots := 0, locals := 0 }
set_option maxHeartbeats 4000000 in
set_option maxRecDepth 100000 in
theorem c_J7_fill_d0a16 (l : Launch) (dC : Nat → ClassId) (dI : Nat → Nat → Nat) (cI cJ cZ cQ : ClassId) (gx : GX) (n_p0 : Nat) (a_p0 : Nat) (sz : Nat) (f_p0 : (Nat → Int64)) (p1 : Int64) (res : (Nat → Int64)) (hM : M_J7_fill_d0a16 n_p0 f_p0 p1 = some res) : Met l yJ7_fill_d0a16 wsJ7_fill_d0a16 rm_J7_fill_d0a16 (kP dC dI cI cJ cZ cQ gx [.ref a_p0, .long p1] sz [(a_p0, .inl (cJ, n_p0, .inr (.inl f_p0)))]) (kQv dC dI cI cJ cZ cQ [(a_p0, .inl (cJ, n_p0, .inr (.inl res)))] (va_A [(a_p0, .inl (cJ, n_p0, .inr (.inl f_p0)))] sz)) 0 0 (va_A [(a_p0, .inl (cJ, n_p0, .inr (.inl f_p0)))] sz) := by
  refine nw_entry (y := yJ7_fill_d0a16) (ws := wsJ7_fill_d0a16) (rm := rm_J7_fill_d0a16) (sz := sz) (wpre := [(a_p0, .inl (cJ, n_p0, .inr (.inl f_p0)))]) (av := [.ref a_p0, .long p1]) (Qc := (kQv dC dI cI cJ cZ cQ [(a_p0, .inl (cJ, n_p0, .inr (.inl res)))])) (cc := cJ7_fill_d0a16) (own := RJ7) [(0, .ref a_p0), (1, .long p1)] (by decide) rfl rfl (Nat.le_of_ble_eq_true rfl) rfl ?_
  intro p e s m below meth c A ls H locs hfix hr hlocks hin0 hsz0 hP hK hD hA hS hN hG hl
  obtain ⟨hx, hb, hml, hown, hts⟩ := id hfix
  obtain ⟨Qq, hQq⟩ : ∃ Q9, Q9 = (kQv dC dI cI cJ cZ cQ [(a_p0, .inl (cJ, n_p0, .inr (.inl res)))]) := ⟨_, rfl⟩
  rw [← hQq]
  have hX : res = res := rfl
  have hM : (lpN (fun z => L_J7_fill_d0a16_6 n_p0 p1 (Int32.ofNat n_p0) z.1 z.2) fuelK ((0 : Int32), f_p0)) = some res := hM
  refine lv_iconst (v := (0 : Int32)) hx hb dJ7_fill_d0a16_0 (by decide) ?_
  refine lv_istore_n (lv' := [(3, .int (0 : Int32)), (0, .ref a_p0), (1, .long p1)]) hx hb dJ7_fill_d0a16_1 rfl hl (by decide) rfl (fun ls hl => ?_)
  refine lv_aload_n hx hb dJ7_fill_d0a16_2 rfl (lv_at hl 1 rfl) ?_
  refine va_alen (v := (Int32.ofNat n_p0)) hx hb hK hP 0 1 rfl rfl rfl dJ7_fill_d0a16_3 ?_
  refine lv_istore (lv' := [(4, .int (Int32.ofNat n_p0)), (3, .int (0 : Int32)), (0, .ref a_p0), (1, .long p1)]) hx hb dJ7_fill_d0a16_4 hl (by decide) rfl (fun ls hl => ?_)
  obtain ⟨W6, hW6⟩ : ∃ W9 : Int32 → (Nat → Int64) → Prop, W9 = fun (y6_3 : Int32) (y6_f_p0 : (Nat → Int64)) => ∀ (H : Heap) (locs : List Loc) (ls : Array Slot), va_P (dC, dI) classes [(a_p0, .inl (cJ, n_p0, .inr (.inl y6_f_p0)))] H → va_D A [(a_p0, .inl (cJ, n_p0, .inr (.inl y6_f_p0)))] → va_S A s.heap H locs → lv_has ls 5 [(0, .ref a_p0), (1, .long p1), (3, .int y6_3), (4, .int (Int32.ofNat n_p0))] → W p l e rm_J7_fill_d0a16 s m ([.ref a_p0, .long p1] : List Value).toArray below meth c H locs 0 0 (MQ below (Qq A) ([.ref a_p0, .long p1] : List Value).toArray s 0 0 A) (F0 m 6 ls []) := ⟨_, rfl⟩
  have hst : ∀ (z : (Int32 × (Nat → Int64))) (x : ((Int32 × (Nat → Int64)) ⊕ (Nat → Int64))), (fun z => L_J7_fill_d0a16_6 n_p0 p1 (Int32.ofNat n_p0) z.1 z.2) z = some x → ((∀ z', x = Sum.inl z' → W6 z'.1 z'.2) ∧ (∀ t_6, x = Sum.inr t_6 → t_6 = res)) → W6 z.1 z.2 := by
    rintro ⟨y6_3, y6_f_p0⟩ x hM hX
    have hM : L_J7_fill_d0a16_6 n_p0 p1 (Int32.ofNat n_p0) y6_3 y6_f_p0 = some x := hM
    show W6 y6_3 y6_f_p0
    rw [hW6]
    intro H locs ls hP hD hS hl
    have hM : (if (Int32.ofNat n_p0) ≤ y6_3 then (((some y6_f_p0)).map Sum.inr) else (ix y6_3 n_p0 (some (Sum.inl ((y6_3 + (1 : Int32)), (vp_updL y6_f_p0 y6_3.toNatClampNeg p1)))))) = some x := hM
    refine lv_iload_n hx hb dJ7_fill_d0a16_6 rfl (lv_at hl 2 rfl) ?_
    refine lv_iload hx hb dJ7_fill_d0a16_7 (lv_at hl 3 rfl) ?_
    refine lv_icmp_ge (tgt := 22) hx hb dJ7_fill_d0a16_9 (by decide) (fun c9 => ?_) (fun c9 => ?_)
    · have hM := ifp c9 hM
      obtain ⟨x, hMn, hxe⟩ := mpr hM
      have hX := hX.2 _ hxe
      have hM := hMn
      have hE : res = (y6_f_p0 : (Nat → Int64)) := ((Option.some.inj hM).trans hX).symm
      rw [hQq, hE]
      exact nw_vret hx hb hr hlocks hK hP hD hS dJ7_fill_d0a16_22
    · have hM := ifn c9 hM
      refine lv_aload_n hx hb dJ7_fill_d0a16_12 rfl (lv_at hl 0 rfl) ?_
      refine lv_iload_n hx hb dJ7_fill_d0a16_13 rfl (lv_at hl 2 rfl) ?_
      refine lv_lload_n hx hb dJ7_fill_d0a16_14 rfl (lv_at hl 1 rfl) ?_
      obtain ⟨hin, hM⟩ := ixp hM
      refine va_last hx hb hK hP hD hS 0 1 rfl rfl hin dJ7_fill_d0a16_15 (fun H locs hP hD hS => ?_)
      have hP : va_P (dC, dI) classes [(a_p0, .inl (cJ, n_p0, .inr (.inl (vp_updL y6_f_p0 y6_3.toNatClampNeg p1))))] H := hP
      have hD : va_D A [(a_p0, .inl (cJ, n_p0, .inr (.inl (vp_updL y6_f_p0 y6_3.toNatClampNeg p1))))] := hD
      refine lv_iinc (v := (y6_3 + (1 : Int32))) (lv' := [(3, .int (y6_3 + (1 : Int32))), (0, .ref a_p0), (1, .long p1), (4, .int (Int32.ofNat n_p0))]) hx hb dJ7_fill_d0a16_16 hl (k := 2) rfl rfl (by decide) rfl (fun ls hl => ?_)
      refine lv_goto (tgt := 6) hx hb dJ7_fill_d0a16_19 (by decide) ?_
      have hw := hX.1 _ (Option.some.inj hM).symm
      rw [hW6] at hw
      exact hw H locs ls hP hD hS (lv_sub hl [1, 2, 0, 3] rfl)
  have hw := lp_walk (Wp := fun z => W6 z.1 z.2) (X := fun t => t = res) hst _ _ _ hM hX
  rw [hW6] at hw
  exact hw H locs ls hP hD hS (lv_sub hl [2, 3, 1, 0] rfl)
