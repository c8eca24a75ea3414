/-! The texts' own methods (length, charAt and what they call), over what lies still -/
def gsC (k : Nat) (i : Int32) : Int32 := (gsB.getD k []).getD i.toNatClampNeg 0
theorem gs_char : ∀ k, k < 3 → ∀ j, j < gsL.getD k 0 → (((((gsB.getD k []).getD j 0) &&& (255 : Int32)).toUInt32 % 65536).toInt32 = (gsB.getD k []).getD j 0) ∧ narrow .char (.int ((gsB.getD k []).getD j 0)) = .int ((gsB.getD k []).getD j 0) := by
  intro k hk
  rcases (show k = 0 ∨ k = 1 ∨ k = 2 by omega) with rfl | rfl | rfl
  · intro j hj
    have hj : j < 5 := hj
    rcases (show j = 0 ∨ j = 1 ∨ j = 2 ∨ j = 3 ∨ j = 4 by omega) with rfl | rfl | rfl | rfl | rfl <;> exact ⟨by decide, by rfl⟩
  · intro j hj
    have hj : j < 5 := hj
    rcases (show j = 0 ∨ j = 1 ∨ j = 2 ∨ j = 3 ∨ j = 4 by omega) with rfl | rfl | rfl | rfl | rfl <;> exact ⟨by decide, by rfl⟩
  · intro j hj
    have hj : j < 3 := hj
    rcases (show j = 0 ∨ j = 1 ∨ j = 2 by omega) with rfl | rfl | rfl <;> exact ⟨by decide, by rfl⟩
section NWT
variable {p : Program} {l : Launch} {e : Env} {R : Room} {s : State} {m : MethodId} {args : Array Value} {below : List Frame} {meth : Method} {c : Code} {H : Heap} {locs : List Loc} {cells slots : Nat} {Q : State → Prop}
variable {dC : Nat → ClassId} {dI : Nat → Nat → Nat} {cI cJ cZ cQ : ClassId} {gx : GX} {A : Nat → Prop} {ws wc : va_W} {cc bytes : ByteArray} {pc : Nat} {ls : Array Slot} {maxL nL mc ms n index : Nat} {y : MethodName} {ret : Option FieldType} {wsy Ts : List Cond} {rm : Room} {Qc : Array Value → State → Outcome → State → Prop} {own : String} {As rest : List Value} {st0 : List Value}
/-- a call of a text's method -/
theorem nw_runT (k : Nat) (hk : k < 3) (S : CallFix p m c cc nL s args Ts own) (hM : Met l y wsy rm (kP dC dI cI cJ cZ cQ gx (.ref (gx.1 k) :: As) H.size wc) Qc mc ms (va_A wc H.size)) (cw : CallW R s args own "java/lang/String" index y bytes maxL ret wsy rm mc ms n)
    (hP : va_P (dC, dI) classes ws H) (hD : va_D A ws) (hK : va_K (dC, dI) classes (tysN cI cJ cZ cQ) s) (hN : GN s) (hS : va_S A s.heap H locs) (hA : ∀ q, s.heap.size ≤ q → A q) (hG : GS gx A s s.heap) (isC : List Nat) (hnd : va_nd isC = true) (hC : isC.map (fun i => ws[i]?) = wc.map some)
    (hl : ls.size = nL) (hn : As.length = n) (hstack : st0 = As.reverse ++ .ref (gx.1 k) :: rest) (hW : (rest.map fun v => v.category).sum ≤ 8) (hdg : decode cc pc = .ok (.invokevirtual index, 3)) (hf : cells + mc ≤ R.cells ∧ slots + ms ≤ R.slots) :
    va_Run p l e R s m args below meth c H locs cells slots mc ms (F0 m pc ls st0) rest (Qc (Value.ref (gx.1 k) :: As).toArray) (va_A wc H.size) := by
  obtain ⟨h1, h2⟩ := nw_preS (As := .ref (gx.1 k) :: As) (wc := wc) hP hD hK hN hS hA hG isC hnd hC
  exact va_runV S hM cw ⟨h1, vk_recv hG.1 hk hS, h2⟩ rfl hn hl hstack (lv_room hW) hdg hf
end NWT
abbrev rm_J0_coder : Room := { frames := 0, cells := 0, slots := 0, locals := 0 }
set_option maxHeartbeats 4000000 in
set_option maxRecDepth 100000 in
theorem c_J0_coder (l : Launch) (dC : Nat → ClassId) (dI : Nat → Nat → Nat) (cI cJ cZ cQ : ClassId) (gx : GX) (k : Nat) (hk : k < 3) (sz : Nat) : Met l yJ0_coder_7d493 wsJ0_coder_7d493 rm_J0_coder (kP dC dI cI cJ cZ cQ gx [.ref (gx.1 k)] sz []) (kQi dC dI cI cJ cZ cQ 0 [] (va_A [] sz)) 0 0 (va_A [] sz) := by
  refine nw_entry (y := yJ0_coder_7d493) (ws := wsJ0_coder_7d493) (rm := rm_J0_coder) (sz := sz) (wpre := []) (av := [.ref (gx.1 k)]) (Qc := kQi dC dI cI cJ cZ cQ 0 []) (cc := cJ0_coder_7d493) (own := RJ0) [(0, .ref (gx.1 k))] (by decide) rfl rfl (Nat.le_of_ble_eq_true rfl) rfl ?_
  intro p e s m below meth c A ls H locs hfix hr hlocks hin0 hsz0 hP hK hD hA hS hN hG hl
  obtain ⟨hx, hb, hml, hown, hts⟩ := id hfix
  refine va_gets (v := .int 1) (C := "java/lang/String") (n := "COMPACT_STRINGS") (d := "Z") hx hb hG.2.2.1 hS hown (hts (.fieldLink RJ0 38 "java/lang/String" "COMPACT_STRINGS" "Z") (by decide +kernel)) (fun _ h9 => h9) dJ0_coder_7d493_0 ?_
  refine lv_if_eq (tgt := 13) hx hb dJ0_coder_7d493_3 (by decide) (fun c3 => absurd c3 (by decide)) (fun c3 => ?_)
  refine lv_aload_n hx hb dJ0_coder_7d493_6 rfl (lv_at hl 0 rfl) ?_
  refine vk_getf hx hb (hG.1.1 k hk).2.1 hS hown (hts (.fieldLink RJ0 15 "java/lang/String" "coder" "B") (by decide +kernel)) (fun _ h9 => h9) dJ0_coder_7d493_7 ?_
  refine lv_goto (tgt := 14) hx hb dJ0_coder_7d493_10 (by decide) ?_
  exact nw_zret rfl rfl hx hb hr hlocks hK hP hD hS dJ0_coder_7d493_14
abbrev rm_J0_isLatin1 : Room := { frames := 0, cells := 0, slots := 0, locals := 0 }
set_option maxHeartbeats 4000000 in
set_option maxRecDepth 100000 in
theorem c_J0_isLatin1 (l : Launch) (dC : Nat → ClassId) (dI : Nat → Nat → Nat) (cI cJ cZ cQ : ClassId) (gx : GX) (k : Nat) (hk : k < 3) (sz : Nat) : Met l yJ0_isLatin1_aae02 wsJ0_isLatin1_aae02 rm_J0_isLatin1 (kP dC dI cI cJ cZ cQ gx [.ref (gx.1 k)] sz []) (kQi dC dI cI cJ cZ cQ 1 [] (va_A [] sz)) 0 0 (va_A [] sz) := by
  refine nw_entry (y := yJ0_isLatin1_aae02) (ws := wsJ0_isLatin1_aae02) (rm := rm_J0_isLatin1) (sz := sz) (wpre := []) (av := [.ref (gx.1 k)]) (Qc := kQi dC dI cI cJ cZ cQ 1 []) (cc := cJ0_isLatin1_aae02) (own := RJ0) [(0, .ref (gx.1 k))] (by decide) rfl rfl (Nat.le_of_ble_eq_true rfl) rfl ?_
  intro p e s m below meth c A ls H locs hfix hr hlocks hin0 hsz0 hP hK hD hA hS hN hG hl
  obtain ⟨hx, hb, hml, hown, hts⟩ := id hfix
  refine va_gets (v := .int 1) (C := "java/lang/String") (n := "COMPACT_STRINGS") (d := "Z") hx hb hG.2.2.1 hS hown (hts (.fieldLink RJ0 38 "java/lang/String" "COMPACT_STRINGS" "Z") (by decide +kernel)) (fun _ h9 => h9) dJ0_isLatin1_aae02_0 ?_
  refine lv_if_eq (tgt := 17) hx hb dJ0_isLatin1_aae02_3 (by decide) (fun c3 => absurd c3 (by decide)) (fun c3 => ?_)
  refine lv_aload_n hx hb dJ0_isLatin1_aae02_6 rfl (lv_at hl 0 rfl) ?_
  refine vk_getf hx hb (hG.1.1 k hk).2.1 hS hown (hts (.fieldLink RJ0 15 "java/lang/String" "coder" "B") (by decide +kernel)) (fun _ h9 => h9) dJ0_isLatin1_aae02_7 ?_
  refine lv_if_ne (tgt := 17) hx hb dJ0_isLatin1_aae02_10 (by decide) (fun c3 => absurd rfl c3) (fun c3 => ?_)
  refine lv_iconst (v := 1) hx hb dJ0_isLatin1_aae02_13 (by decide) ?_
  refine lv_goto (tgt := 18) hx hb dJ0_isLatin1_aae02_14 (by decide) ?_
  exact nw_zret rfl rfl hx hb hr hlocks hK hP hD hS dJ0_isLatin1_aae02_18
abbrev rm_J0_length : Room := { frames := 1, cells := 0, slots := 0, locals := 20 }
set_option maxHeartbeats 4000000 in
set_option maxRecDepth 100000 in
theorem c_J0_length (l : Launch) (dC : Nat → ClassId) (dI : Nat → Nat → Nat) (cI cJ cZ cQ : ClassId) (gx : GX) (k : Nat) (hk : k < 3) (sz : Nat) : Met l yJ0_length_8abf5 wsJ0_length_8abf5 rm_J0_length (kP dC dI cI cJ cZ cQ gx [.ref (gx.1 k)] sz []) (kQi dC dI cI cJ cZ cQ (Int32.ofNat (gsL.getD k 0)) [] (va_A [] sz)) 0 0 (va_A [] sz) := by
  refine nw_entry (y := yJ0_length_8abf5) (ws := wsJ0_length_8abf5) (rm := rm_J0_length) (sz := sz) (wpre := []) (av := [.ref (gx.1 k)]) (Qc := kQi dC dI cI cJ cZ cQ (Int32.ofNat (gsL.getD k 0)) []) (cc := cJ0_length_8abf5) (own := RJ0) [(0, .ref (gx.1 k))] (by decide) rfl rfl (Nat.le_of_ble_eq_true rfl) rfl ?_
  intro p e s m below meth c A ls H locs hfix hr hlocks hin0 hsz0 hP hK hD hA hS hN hG hl
  obtain ⟨hx, hb, hml, hown, hts⟩ := id hfix
  refine lv_aload_n hx hb dJ0_length_8abf5_0 rfl (lv_at hl 0 rfl) ?_
  refine vk_getf hx hb (hG.1.1 k hk).2.2.1 hS hown (hts (.fieldLink RJ0 9 "java/lang/String" "value" "[B") (by decide +kernel)) (fun _ h9 => h9) dJ0_length_8abf5_1 ?_
  refine va_tlen (v := Int32.ofNat (gsL.getD k 0)) hx hb (hG.1.1 k hk).2.2.2 hS rfl dJ0_length_8abf5_4 ?_
  refine lv_aload_n hx hb dJ0_length_8abf5_5 rfl (lv_at hl 0 rfl) ?_
  refine nw_i (wc := []) (wr := []) (w1 := []) (wf := []) [] [] [] hP hD hS hA rfl rfl rfl (by decide) rfl rfl (nw_runT k hk (As := []) (rest := [.int (Int32.ofNat (gsL.getD k 0))]) hfix (c_J0_coder l dC dI cI cJ cZ cQ gx k hk H.size) (cwV 0 hts gJ0_length_8abf5_J0_coder_7d493 rfl rfl rfl (by decide +kernel) ⟨Nat.le_of_ble_eq_true rfl, Nat.le_of_ble_eq_true rfl⟩) hP hD hK hN hS hA hG [] rfl rfl hl.1 rfl rfl (Nat.le_of_ble_eq_true rfl) dJ0_length_8abf5_6 ⟨Nat.zero_le _, Nat.zero_le _⟩) (fun H locs hP hD hS => ?_)
  refine lv_ishr hx hb dJ0_length_8abf5_9 ?_
  exact nw_iret (sb_shr0 _) hx hb hr hlocks hK hP hD hS dJ0_length_8abf5_10
abbrev rm_J3_checkIndex : Room := { frames := 0, cells := 0, slots := 0, locals := 0 }
set_option maxHeartbeats 4000000 in
set_option maxRecDepth 100000 in
theorem c_J3_checkIndex (l : Launch) (dC : Nat → ClassId) (dI : Nat → Nat → Nat) (cI cJ cZ cQ : ClassId) (gx : GX) (sz : Nat) (i n : Int32) (f : Option Nat) (h0 : ¬ i < 0) (h1 : i < n) : Met l yJ3_checkIndex_8e157 wsJ3_checkIndex_8e157 rm_J3_checkIndex (kP dC dI cI cJ cZ cQ gx [.int i, .int n, va_rf f] sz []) (kQi dC dI cI cJ cZ cQ i [] (va_A [] sz)) 0 0 (va_A [] sz) := by
  refine nw_entry (y := yJ3_checkIndex_8e157) (ws := wsJ3_checkIndex_8e157) (rm := rm_J3_checkIndex) (sz := sz) (wpre := []) (av := [.int i, .int n, va_rf f]) (Qc := kQi dC dI cI cJ cZ cQ i []) (cc := cJ3_checkIndex_8e157) (own := RJ3) [(0, .int i), (1, .int n), (2, va_rf f)] (by decide) rfl rfl (by cases f <;> exact Nat.le_of_ble_eq_true rfl) (by cases f <;> rfl) ?_
  intro p e s m below meth c A ls H locs hfix hr hlocks hin0 hsz0 hP hK hD hA hS hN hG hl
  obtain ⟨hx, hb, hml, hown, hts⟩ := id hfix
  refine lv_iload_n hx hb dJ3_checkIndex_8e157_0 rfl (lv_at hl 0 rfl) ?_
  refine lv_if_lt (tgt := 9) hx hb dJ3_checkIndex_8e157_1 (by decide) (fun c3 => absurd c3 h0) (fun c3 => ?_)
  refine lv_iload_n hx hb dJ3_checkIndex_8e157_4 rfl (lv_at hl 0 rfl) ?_
  refine lv_iload_n hx hb dJ3_checkIndex_8e157_5 rfl (lv_at hl 1 rfl) ?_
  refine lv_icmp_lt (tgt := 16) hx hb dJ3_checkIndex_8e157_6 (by decide) (fun c3 => ?_) (fun c3 => absurd h1 c3)
  refine lv_iload_n hx hb dJ3_checkIndex_8e157_16 rfl (lv_at hl 0 rfl) ?_
  exact nw_iret rfl hx hb hr hlocks hK hP hD hS dJ3_checkIndex_8e157_17
abbrev rm_J0_checkIndex : Room := { frames := 1, cells := 0, slots := 0, locals := 22 }
set_option maxHeartbeats 4000000 in
set_option maxRecDepth 100000 in
theorem c_J0_checkIndex (l : Launch) (dC : Nat → ClassId) (dI : Nat → Nat → Nat) (cI cJ cZ cQ : ClassId) (gx : GX) (sz : Nat) (i n : Int32) (h0 : ¬ i < 0) (h1 : i < n) : Met l yJ0_checkIndex_df160 wsJ0_checkIndex_df160 rm_J0_checkIndex (kP dC dI cI cJ cZ cQ gx [.int i, .int n] sz []) (kQv dC dI cI cJ cZ cQ [] (va_A [] sz)) 0 0 (va_A [] sz) := by
  refine nw_entry (y := yJ0_checkIndex_df160) (ws := wsJ0_checkIndex_df160) (rm := rm_J0_checkIndex) (sz := sz) (wpre := []) (av := [.int i, .int n]) (Qc := kQv dC dI cI cJ cZ cQ []) (cc := cJ0_checkIndex_df160) (own := RJ0) [(0, .int i), (1, .int n)] (by decide) rfl rfl (Nat.le_of_ble_eq_true rfl) rfl ?_
  intro p e s m below meth c A ls H locs hfix hr hlocks hin0 hsz0 hP hK hD hA hS hN hG hl
  obtain ⟨hx, hb, hml, hown, hts⟩ := id hfix
  obtain ⟨f, hf⟩ : ∃ f : Option Nat, va_Z "jdk/internal/util/Preconditions" "SIOOBE_FORMATTER" "Ljava/util/function/BiFunction;" (va_rf f) A s s.heap := by
    rcases hG.2.2.2.2.2.1 with h | ⟨t, h⟩
    · exact ⟨none, h⟩
    · exact ⟨some t, h⟩
  refine lv_iload_n hx hb dJ0_checkIndex_df160_0 rfl (lv_at hl 0 rfl) ?_
  refine lv_iload_n hx hb dJ0_checkIndex_df160_1 rfl (lv_at hl 1 rfl) ?_
  refine va_gets (v := va_rf f) hx hb hf hS hown (hts (.fieldLink RJ0 1053 "jdk/internal/util/Preconditions" "SIOOBE_FORMATTER" "Ljava/util/function/BiFunction;") (by decide +kernel)) (fun _ h9 => h9) dJ0_checkIndex_df160_2 ?_
  refine nw_i (wc := []) (wr := []) (w1 := []) (wf := []) [] [] [] hP hD hS hA rfl rfl rfl (by decide) rfl rfl (nw_runS (As := [.int i, .int n, va_rf f]) (rest := []) hfix (c_J3_checkIndex l dC dI cI cJ cZ cQ gx H.size i n f h0 h1) (va_cwS 3 hts gJ0_checkIndex_df160_J3_checkIndex_8e157 rfl rfl rfl (by decide +kernel) ⟨Nat.le_of_ble_eq_true rfl, Nat.le_of_ble_eq_true rfl⟩) hP hD hK hN hS hA hG [] rfl rfl hl.1 rfl rfl (Nat.le_of_ble_eq_true rfl) dJ0_checkIndex_df160_5 ⟨Nat.zero_le _, Nat.zero_le _⟩) (fun H locs hP hD hS => ?_)
  refine lv_pop hx hb dJ0_checkIndex_df160_8 rfl ?_
  exact nw_vret hx hb hr hlocks hK hP hD hS dJ0_checkIndex_df160_9
abbrev rm_J1_charAt : Room := { frames := 2, cells := 0, slots := 0, locals := 43 }
set_option maxHeartbeats 4000000 in
set_option maxRecDepth 100000 in
theorem c_J1_charAt (l : Launch) (dC : Nat → ClassId) (dI : Nat → Nat → Nat) (cI cJ cZ cQ : ClassId) (gx : GX) (k : Nat) (hk : k < 3) (sz : Nat) (i : Int32) (hi : vp_in i (gsL.getD k 0)) : Met l yJ1_charAt_3b067 wsJ1_charAt_3b067 rm_J1_charAt (kP dC dI cI cJ cZ cQ gx [.ref (gx.2.1 k), .int i] sz []) (kQi dC dI cI cJ cZ cQ (gsC k i) [] (va_A [] sz)) 0 0 (va_A [] sz) := by
  refine nw_entry (y := yJ1_charAt_3b067) (ws := wsJ1_charAt_3b067) (rm := rm_J1_charAt) (sz := sz) (wpre := []) (av := [.ref (gx.2.1 k), .int i]) (Qc := kQi dC dI cI cJ cZ cQ (gsC k i) []) (cc := cJ1_charAt_3b067) (own := RJ1) [(0, .ref (gx.2.1 k)), (1, .int i)] (by decide) rfl rfl (Nat.le_of_ble_eq_true rfl) rfl ?_
  intro p e s m below meth c A ls H locs hfix hr hlocks hin0 hsz0 hP hK hD hA hS hN hG hl
  obtain ⟨hx, hb, hml, hown, hts⟩ := id hfix
  have hL : gsL.getD k 0 < 2 ^ 31 := by rcases (show k = 0 ∨ k = 1 ∨ k = 2 by omega) with rfl | rfl | rfl <;> decide
  obtain ⟨j, hj, rfl⟩ := vp_in_of hi hL
  have h0 : ¬ nI j < 0 := nI_pos (by omega)
  have h1 : nI j < Int32.ofNat (gsL.getD k 0) := nI_lt hj hL
  have hgc := gs_char k hk j hj
  refine lv_iload_n hx hb dJ1_charAt_3b067_0 rfl (lv_at hl 1 rfl) ?_
  refine lv_aload_n hx hb dJ1_charAt_3b067_1 rfl (lv_at hl 0 rfl) ?_
  refine va_tlen (v := Int32.ofNat (gsL.getD k 0)) hx hb (hG.1.1 k hk).2.2.2 hS rfl dJ1_charAt_3b067_2 ?_
  refine nw_v (wc := []) (wr := []) (w1 := []) (wf := []) [] [] [] hP hD hS hA rfl rfl rfl (by decide) rfl rfl (nw_runS (As := [.int (nI j), .int (Int32.ofNat (gsL.getD k 0))]) (rest := []) hfix (c_J0_checkIndex l dC dI cI cJ cZ cQ gx H.size (nI j) (Int32.ofNat (gsL.getD k 0)) h0 h1) (va_cwS 2 hts gJ1_charAt_3b067_J0_checkIndex_df160 rfl rfl rfl (by decide +kernel) ⟨Nat.le_of_ble_eq_true rfl, Nat.le_of_ble_eq_true rfl⟩) hP hD hK hN hS hA hG [] rfl rfl hl.1 rfl rfl (Nat.le_of_ble_eq_true rfl) dJ1_charAt_3b067_3 ⟨Nat.zero_le _, Nat.zero_le _⟩) (fun H locs hP hD hS => ?_)
  refine lv_aload_n hx hb dJ1_charAt_3b067_6 rfl (lv_at hl 0 rfl) ?_
  refine lv_iload_n hx hb dJ1_charAt_3b067_7 rfl (lv_at hl 1 rfl) ?_
  refine va_tb (v := .int ((gsB.getD k []).getD j 0)) hx hb (hG.1.1 k hk).2.2.2 hS hi (by show Value.int _ = _; rw [nI_clamp (by omega)]) dJ1_charAt_3b067_8 ?_
  refine lv_sipush (v := 255) hx hb dJ1_charAt_3b067_9 (by decide) ?_
  refine lv_iand hx hb dJ1_charAt_3b067_12 ?_
  refine lv_i2c (v := (gsB.getD k []).getD j 0) hx hb dJ1_charAt_3b067_13 hgc.1 ?_
  exact nw_zret hgc.2 (by unfold gsC; rw [nI_clamp (by omega)]) hx hb hr hlocks hK hP hD hS dJ1_charAt_3b067_14
abbrev rm_J0_charAt : Room := { frames := 3, cells := 0, slots := 0, locals := 64 }
set_option maxHeartbeats 4000000 in
set_option maxRecDepth 100000 in
theorem c_J0_charAt (l : Launch) (dC : Nat → ClassId) (dI : Nat → Nat → Nat) (cI cJ cZ cQ : ClassId) (gx : GX) (k : Nat) (hk : k < 3) (sz : Nat) (i : Int32) (hi : vp_in i (gsL.getD k 0)) : Met l yJ0_charAt_5068e wsJ0_charAt_5068e rm_J0_charAt (kP dC dI cI cJ cZ cQ gx [.ref (gx.1 k), .int i] sz []) (kQi dC dI cI cJ cZ cQ (gsC k i) [] (va_A [] sz)) 0 0 (va_A [] sz) := by
  refine nw_entry (y := yJ0_charAt_5068e) (ws := wsJ0_charAt_5068e) (rm := rm_J0_charAt) (sz := sz) (wpre := []) (av := [.ref (gx.1 k), .int i]) (Qc := kQi dC dI cI cJ cZ cQ (gsC k i) []) (cc := cJ0_charAt_5068e) (own := RJ0) [(0, .ref (gx.1 k)), (1, .int i)] (by decide) rfl rfl (Nat.le_of_ble_eq_true rfl) rfl ?_
  intro p e s m below meth c A ls H locs hfix hr hlocks hin0 hsz0 hP hK hD hA hS hN hG hl
  obtain ⟨hx, hb, hml, hown, hts⟩ := id hfix
  have hL : gsL.getD k 0 < 2 ^ 31 := by rcases (show k = 0 ∨ k = 1 ∨ k = 2 by omega) with rfl | rfl | rfl <;> decide
  have hn : narrow .char (.int (gsC k i)) = .int (gsC k i) := by
    obtain ⟨j, hj, rfl⟩ := vp_in_of hi hL
    unfold gsC
    rw [nI_clamp (by omega)]
    exact (gs_char k hk j hj).2
  refine lv_aload_n hx hb dJ0_charAt_5068e_0 rfl (lv_at hl 0 rfl) ?_
  refine nw_i (wc := []) (wr := []) (w1 := []) (wf := []) [] [] [] hP hD hS hA rfl rfl rfl (by decide) rfl rfl (nw_runT k hk (As := []) (rest := []) hfix (c_J0_isLatin1 l dC dI cI cJ cZ cQ gx k hk H.size) (cwV 0 hts gJ0_charAt_5068e_J0_isLatin1_aae02 rfl rfl rfl (by decide +kernel) ⟨Nat.le_of_ble_eq_true rfl, Nat.le_of_ble_eq_true rfl⟩) hP hD hK hN hS hA hG [] rfl rfl hl.1 rfl rfl (Nat.le_of_ble_eq_true rfl) dJ0_charAt_5068e_1 ⟨Nat.zero_le _, Nat.zero_le _⟩) (fun H locs hP hD hS => ?_)
  refine lv_if_eq (tgt := 16) hx hb dJ0_charAt_5068e_4 (by decide) (fun c3 => absurd c3 (by decide)) (fun c3 => ?_)
  refine lv_aload_n hx hb dJ0_charAt_5068e_7 rfl (lv_at hl 0 rfl) ?_
  refine vk_getf hx hb (hG.1.1 k hk).2.2.1 hS hown (hts (.fieldLink RJ0 9 "java/lang/String" "value" "[B") (by decide +kernel)) (fun _ h9 => h9) dJ0_charAt_5068e_8 ?_
  refine lv_iload_n hx hb dJ0_charAt_5068e_11 rfl (lv_at hl 1 rfl) ?_
  refine nw_i (wc := []) (wr := []) (w1 := []) (wf := []) [] [] [] hP hD hS hA rfl rfl rfl (by decide) rfl rfl (nw_runS (As := [.ref (gx.2.1 k), .int i]) (rest := []) hfix (c_J1_charAt l dC dI cI cJ cZ cQ gx k hk H.size i hi) (va_cwS 2 hts gJ0_charAt_5068e_J1_charAt_3b067 rfl rfl rfl (by decide +kernel) ⟨Nat.le_of_ble_eq_true rfl, Nat.le_of_ble_eq_true rfl⟩) hP hD hK hN hS hA hG [] rfl rfl hl.1 rfl rfl (Nat.le_of_ble_eq_true rfl) dJ0_charAt_5068e_12 ⟨Nat.zero_le _, Nat.zero_le _⟩) (fun H locs hP hD hS => ?_)
  exact nw_zret hn rfl hx hb hr hlocks hK hP hD hS dJ0_charAt_5068e_15
/-- the two images -/
def im2 (a b : Nat) : Nat → Option Nat := va_up (va_up (fun _ => none) 0 (some a)) 1 (some b)
theorem im_1 {i : Int32} (h : vp_in i 2) (h0 : ¬ i = 0) : i.toNatClampNeg = 1 := by
  obtain ⟨j, hj, rfl⟩ := vp_in_of h (by decide)
  rw [nI_clamp (by omega)]
  rcases (show j = 0 ∨ j = 1 by omega) with rfl | rfl
  · exact absurd rfl h0
  · rfl
theorem nn_int {z : Int32} (hz : ¬ z < 0) : z.toInt = (z.toNatClampNeg : Int) := by
  obtain ⟨j, hj, rfl⟩ := nI_of hz
  rw [nI_toInt hj, nI_clamp hj]
section NWCT
variable {p : Program} {l : Launch} {e : Env} {R : Room} {s : State} {m : MethodId} {args : Array Value} {below : List Frame} {meth : Method} {c : Code} {H : Heap} {locs : List Loc} {cells slots : Nat} {Q : State → Prop}
variable {cc : ByteArray} {pc : Nat} {ls : Array Slot} {rest : List Value} {D : va_G} {cl : List vw_C} {A : Nat → Prop} {a : Nat} {tys : List (ClassId × FieldType)} {ws : va_W}
/-- ints out of a static row into a row of the world -/
theorem nw_copyT (hexec : p.tables.exec = Jvm.exec) (hb : c.code = cc) (hml : c.maxLocals = ls.size) {own : String} {index : Nat} (hown : s.vm.findClass own = some m.cls) (hlink : (Cond.methodLink own index arraycopyName).before args s = true) (hnat : (Cond.native arraycopyName).before args s = true) (hstat : (Cond.static arraycopyName).before args s = true) (hini : (Cond.initialized "java/lang/System").before args s = true)
    (hK : va_K D cl tys s) (hP : va_P D cl ws H) (hD : va_D A ws) (hS : va_S A s.heap H locs) {b0 n0 : Nat} {f : Nat → Int32} (hT0 : va_T .int b0 n0 (fun j => .int (f j)) A s s.heap) (q1 t1 : Nat) {c1 : ClassId} {n1 : Nat} {g : Nat → Int32} (ha1 : ws[q1]? = some (a, .inl (c1, n1, .inl g))) (ht1 : tys[t1]? = some (c1, .int))
    {sp dp n : Int32} (h1 : ¬ sp < 0) (h2 : ¬ dp < 0) (h3 : ¬ n < 0) (h4 : sp.toNatClampNeg + n.toNatClampNeg ≤ n0) (h5 : dp.toNatClampNeg + n.toNatClampNeg ≤ n1)
    (hframes : 1 ≤ R.frames) (hlocals : (rest.map fun v => v.category).sum + (nativeFrameWords "java/lang/System" "arraycopy" 5 + 11) ≤ R.locals) (hdg : decode cc pc = .ok (.invokestatic index, 3))
    (kk : ∀ (H1 : Heap) (locs1 : List Loc), va_P D cl (ws.set q1 (a, .inl (c1, n1, .inl (va_cpy f g sp.toNatClampNeg dp.toNatClampNeg n.toNatClampNeg)))) H1 → va_D A (ws.set q1 (a, .inl (c1, n1, .inl (va_cpy f g sp.toNatClampNeg dp.toNatClampNeg n.toNatClampNeg)))) → va_S A s.heap H1 locs1 → W p l e R s m args below meth c H1 locs1 cells slots Q (F0 m (pc + 3) ls rest)) : W p l e R s m args below meth c H locs cells slots Q (F0 m pc ls (.int n :: .int dp :: .ref a :: .int sp :: .ref b0 :: rest)) := by
  intro T hT X
  obtain ⟨src, hs1, ⟨hs6, k0, hk0, cm0, hkk0⟩, hs3, hs4, -, hs5, hs7⟩ := hT0
  have hsrc : H[b0]? = some src := by rw [hS.2.1 b0 (Array.getElem?_eq_some_iff.mp hs1).1 hs7]; exact hs1
  have hdst : H[a]? = some (vp_cell c1 (n1, .inl g)) := hP q1 _ ha1
  obtain ⟨-, k1, hk1, cm1, hkk1⟩ := (hK.2 t1 _ ht1).1 n1 (fun j => .int (g j))
  have hsp := nn_int h1
  have hdp := nn_int h2
  have hnn := nn_int h3
  obtain ⟨vm', X', step⟩ := X.arraycopy hexec hown hlink hnat hstat hini (src := b0) (dst := a) (cs := src) (cd := vp_cell c1 (n1, .inl g)) (srcPos := sp) (destPos := dp) (n := n) (by rw [hT]; exact hsrc) (by rw [hT]; exact hdst)
    hs6 (fun _ h => by cases h) hs3 (fun h => by cases h) hk0 hk1 hkk0 hkk1 (by simp [refKind]) h1 h2 h3 (by rw [hsp, hnn]; omega)
    (by rw [hdp, hnn]; show ¬ _ > ((arrV c1 n1 (fun j => .int (g j))).slots.size : Int); rw [arrV_size]; omega)
    (fun vm₁ _ i hi => by
      rw [show src.slots.getD (sp.toNatClampNeg + i) .null = .int (f (sp.toNatClampNeg + i)) by rw [Array.getD_eq_getD_getElem?, hs5 _ (by omega)]; rfl]
      exact ⟨rfl, trivial⟩)
    (g := F0 m pc ls (.int n :: .int dp :: .ref a :: .int sp :: .ref b0 :: rest)) rfl (by rw [hml]) (rest := rest) rfl (by rw [hb]; exact hdg) hframes (by show 2 * 0 + _ + _ ≤ _; omega)
  rw [show copied src (vp_cell c1 (n1, .inl g)) sp dp n = vp_cell c1 (n1, .inl (va_cpy f g sp.toNatClampNeg dp.toNatClampNeg n.toNatClampNeg)) from va_copiedX (fun z => .int z) src c1 f g hs5 h4] at X' step
  have hl : a < H.size := (Array.getElem?_eq_some_iff.mp hdst).1
  have hheap : ((T.setVm vm').setCell a (vp_cell c1 (n1, .inl (va_cpy f g sp.toNatClampNeg dp.toNatClampNeg n.toNatClampNeg)))).heap = H.setIfInBounds a (vp_cell c1 (n1, .inl (va_cpy f g sp.toNatClampNeg dp.toNatClampNeg n.toNatClampNeg))) := by rw [← hT]; rfl
  have oq : ∀ q : Nat, q ≠ a → (H.setIfInBounds a (vp_cell c1 (n1, .inl (va_cpy f g sp.toNatClampNeg dp.toNatClampNeg n.toNatClampNeg))))[q]? = H[q]? := fun q hq => by simp [Array.getElem?_setIfInBounds, Ne.symm hq]
  have hin : A a := hD.2 q1 _ ha1
  obtain ⟨t, a1, b1⟩ := kk _ _ (hP.set hD ha1 (show (H.setIfInBounds a _)[a]? = some _ by simp [Array.getElem?_setIfInBounds, hl]) oq) (hD.set ha1) ⟨by simp; exact hS.1, fun q g1 g2 => (by rw [oq q (fun e => g2 (by rw [e]; exact hin))]; exact hS.2.1 q g1 g2), fun q hq => (by
      rcases List.mem_append.mp hq with h | h
      · exact hS.2.2 q h
      · obtain ⟨z, -, hz⟩ := List.mem_map.mp h
        rw [← hz]
        exact hin)⟩ _ hheap X'
  exact ⟨t, step t a1, b1⟩
end NWCT
