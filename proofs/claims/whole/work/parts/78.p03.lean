set_option maxHeartbeats 1000000 in
theorem pu_pop (v_x_bytes : Int32) (v_x_badCalls : Int32) (v_x_noCalls : Int32) (v_x_fullCalls : Int32) (v_x_shop_n : Int32) (v_x_shop_low : Int32) (v_x_shop_high : Int32) (v_x_shop_boxes : Int32) (f_x_shop_sets : (Nat → Int32)) (f_x_shop_worths : (Nat → Int32)) (f_x_alike : (Nat → Int32)) (v_x_images_0_there : Int32) (v_x_images_0_shop_n : Int32) (v_x_images_0_shop_low : Int32) (v_x_images_0_shop_high : Int32) (v_x_images_0_shop_boxes : Int32) (f_x_images_0_shop_sets : (Nat → Int32)) (f_x_images_0_shop_worths : (Nat → Int32)) (f_x_images_0_alike : (Nat → Int32)) (v_x_images_1_there : Int32) (v_x_images_1_shop_n : Int32) (v_x_images_1_shop_low : Int32) (v_x_images_1_shop_high : Int32) (v_x_images_1_shop_boxes : Int32) (f_x_images_1_shop_sets : (Nat → Int32)) (f_x_images_1_shop_worths : (Nat → Int32)) (f_x_images_1_alike : (Nat → Int32)) (f_x_text : (Nat → Int32)) (v_x_fraction_above : Int64) (v_x_fraction_below : Int64) (v_m_n : Int32) (v_m_low : Int32) (v_m_high : Int32) (v_m_boxes : Int32) (v_m_size : Int32) (v_m_above : Int64) (v_m_below : Int64) (f_m_box : (Nat → Int32)) (f_m_worth : (Nat → Int32)) (f_m_alike : (Nat → Int32)) (f_m_text : (Nat → Int32)) (f_m_images : (Nat → Int32)) (f_m_refused : (Nat → Int32))  (hI : Inv v_x_shop_n v_x_shop_low v_x_shop_high v_x_shop_boxes f_x_shop_sets f_x_shop_worths f_x_alike f_x_text v_x_bytes v_x_fraction_above v_x_fraction_below v_x_badCalls v_x_noCalls v_x_fullCalls v_x_images_0_there v_x_images_0_shop_n v_x_images_0_shop_low v_x_images_0_shop_high v_x_images_0_shop_boxes f_x_images_0_shop_sets f_x_images_0_shop_worths f_x_images_0_alike v_x_images_1_there v_x_images_1_shop_n v_x_images_1_shop_low v_x_images_1_shop_high v_x_images_1_shop_boxes f_x_images_1_shop_sets f_x_images_1_shop_worths f_x_images_1_alike v_m_n v_m_low v_m_high v_m_boxes f_m_box f_m_worth f_m_alike f_m_text v_m_size v_m_above v_m_below f_m_refused f_m_images) : ∃ (rc : (Int32 × Int32 × Int32 × Int32 × Int32)) (rr : (Int32 × Int32 × (Nat → Int32))), M_X8_pop v_x_badCalls v_x_fullCalls v_x_noCalls v_x_shop_boxes f_x_shop_sets = some rc ∧ M_X9_pop v_m_boxes f_m_box f_m_refused = some rr ∧ rc.1 = rr.1 ∧ Inv v_x_shop_n v_x_shop_low v_x_shop_high rc.2.2.2.2 f_x_shop_sets f_x_shop_worths f_x_alike f_x_text v_x_bytes v_x_fraction_above v_x_fraction_below rc.2.1 rc.2.2.2.1 rc.2.2.1 v_x_images_0_there v_x_images_0_shop_n v_x_images_0_shop_low v_x_images_0_shop_high v_x_images_0_shop_boxes f_x_images_0_shop_sets f_x_images_0_shop_worths f_x_images_0_alike v_x_images_1_there v_x_images_1_shop_n v_x_images_1_shop_low v_x_images_1_shop_high v_x_images_1_shop_boxes f_x_images_1_shop_sets f_x_images_1_shop_worths f_x_images_1_alike v_m_n v_m_low v_m_high rr.2.1 f_m_box f_m_worth f_m_alike f_m_text v_m_size v_m_above v_m_below rr.2.2 f_m_images := by
  obtain ⟨⟨N, lo, hi, k, g1, g2, g3, g4, g5, gn, gl, gh, ⟨gb, gb'⟩, S, V, gS, gD⟩, hal, htx, hfr, hcn, hi0, hi1⟩ := id hI
  subst gb; subst gb'
  rcases Nat.eq_zero_or_pos k with rfl | hk
  · refine ⟨(-3, v_x_badCalls, v_x_fullCalls, v_x_noCalls + 1, nI 0), (-3, nI 0, upd f_m_refused 1 (f_m_refused 1 + 1)), ?_, ?_, rfl, inv_no hI⟩
    · rw [M_X8_pop, if_neg (by decide)]; rfl
    · rw [M_X9_pop, if_pos (by decide)]; rfl
  · obtain ⟨j, rfl⟩ : ∃ j, k = j + 1 := ⟨k - 1, by omega⟩
    have e1 : nI (j + 1) - 1 = nI j := nI_pred j
    have hin : vp_in (nI j) 16 := vp_in_nI (by omega) (by decide)
    refine ⟨(f_x_shop_sets j, v_x_badCalls, v_x_fullCalls, v_x_noCalls, nI j), (f_m_box j, nI j, f_m_refused), ?_, ?_, ?_, ?_⟩
    · rw [M_X8_pop, if_pos (show (1 : Int32) ≤ nI (j + 1) from nI_le (a := 1) (by omega) (by omega)), e1, ix_in hin, nI_clamp (by omega)]
    · rw [M_X9_pop, if_neg (nI_ne0 (by omega) (by omega)), e1, ix_in hin, nI_clamp (by omega)]
    · show f_x_shop_sets j = f_m_box j
      rw [(gS j (by omega)).2.2.1.1, (gS j (by omega)).2.2.1.2]
    · exact ⟨⟨N, lo, hi, j, g1, g2, g3, g4, by omega, gn, gl, gh, ⟨rfl, rfl⟩, S, V, fun i hi => gS i (by omega), fun a b ha hb => gD a b (by omega) (by omega)⟩, hal, htx, hfr, hcn, hi0, hi1⟩
set_option maxHeartbeats 1000000 in
theorem pu_told (v_x_bytes : Int32) (v_x_badCalls : Int32) (v_x_noCalls : Int32) (v_x_fullCalls : Int32) (v_x_shop_n : Int32) (v_x_shop_low : Int32) (v_x_shop_high : Int32) (v_x_shop_boxes : Int32) (f_x_shop_sets : (Nat → Int32)) (f_x_shop_worths : (Nat → Int32)) (f_x_alike : (Nat → Int32)) (v_x_images_0_there : Int32) (v_x_images_0_shop_n : Int32) (v_x_images_0_shop_low : Int32) (v_x_images_0_shop_high : Int32) (v_x_images_0_shop_boxes : Int32) (f_x_images_0_shop_sets : (Nat → Int32)) (f_x_images_0_shop_worths : (Nat → Int32)) (f_x_images_0_alike : (Nat → Int32)) (v_x_images_1_there : Int32) (v_x_images_1_shop_n : Int32) (v_x_images_1_shop_low : Int32) (v_x_images_1_shop_high : Int32) (v_x_images_1_shop_boxes : Int32) (f_x_images_1_shop_sets : (Nat → Int32)) (f_x_images_1_shop_worths : (Nat → Int32)) (f_x_images_1_alike : (Nat → Int32)) (f_x_text : (Nat → Int32)) (v_x_fraction_above : Int64) (v_x_fraction_below : Int64) (v_m_n : Int32) (v_m_low : Int32) (v_m_high : Int32) (v_m_boxes : Int32) (v_m_size : Int32) (v_m_above : Int64) (v_m_below : Int64) (f_m_box : (Nat → Int32)) (f_m_worth : (Nat → Int32)) (f_m_alike : (Nat → Int32)) (f_m_text : (Nat → Int32)) (f_m_images : (Nat → Int32)) (f_m_refused : (Nat → Int32)) (p0 : Int32) (p1 : Int32) (hI : Inv v_x_shop_n v_x_shop_low v_x_shop_high v_x_shop_boxes f_x_shop_sets f_x_shop_worths f_x_alike f_x_text v_x_bytes v_x_fraction_above v_x_fraction_below v_x_badCalls v_x_noCalls v_x_fullCalls v_x_images_0_there v_x_images_0_shop_n v_x_images_0_shop_low v_x_images_0_shop_high v_x_images_0_shop_boxes f_x_images_0_shop_sets f_x_images_0_shop_worths f_x_images_0_alike v_x_images_1_there v_x_images_1_shop_n v_x_images_1_shop_low v_x_images_1_shop_high v_x_images_1_shop_boxes f_x_images_1_shop_sets f_x_images_1_shop_worths f_x_images_1_alike v_m_n v_m_low v_m_high v_m_boxes f_m_box f_m_worth f_m_alike f_m_text v_m_size v_m_above v_m_below f_m_refused f_m_images) : ∃ (rc : (Int32 × Int32 × Int32 × Int32)) (rr : (Int32 × (Nat → Int32))), M_X8_told v_x_badCalls v_x_fullCalls v_x_noCalls v_x_shop_boxes f_x_shop_sets f_x_shop_worths p0 p1 = some rc ∧ M_X9_told v_m_boxes f_m_box f_m_refused f_m_worth p0 p1 = some rr ∧ rc.1 = rr.1 ∧ Inv v_x_shop_n v_x_shop_low v_x_shop_high v_x_shop_boxes f_x_shop_sets f_x_shop_worths f_x_alike f_x_text v_x_bytes v_x_fraction_above v_x_fraction_below rc.2.1 rc.2.2.2 rc.2.2.1 v_x_images_0_there v_x_images_0_shop_n v_x_images_0_shop_low v_x_images_0_shop_high v_x_images_0_shop_boxes f_x_images_0_shop_sets f_x_images_0_shop_worths f_x_images_0_alike v_x_images_1_there v_x_images_1_shop_n v_x_images_1_shop_low v_x_images_1_shop_high v_x_images_1_shop_boxes f_x_images_1_shop_sets f_x_images_1_shop_worths f_x_images_1_alike v_m_n v_m_low v_m_high v_m_boxes f_m_box f_m_worth f_m_alike f_m_text v_m_size v_m_above v_m_below rr.2 f_m_images := by
  obtain ⟨⟨N, lo, hi, k, g1, g2, g3, g4, g5, gn, gl, gh, ⟨gb, gb'⟩, S, V, gS, gD⟩, hal, htx, hfr, hcn, hi0, hi1⟩ := id hI
  subst gb; subst gb'
  have e1 : M_X9_in p0.toInt64 0 (nI k - 1).toInt64 = some (if (0 : Int32) ≤ p0 ∧ p0 ≤ nI k - 1 then 1 else 0) := in32n p0 0 (nI k - 1) 0 _ rfl rfl
  have e2 : M_X9_in p1.toInt64 0 1 = some (if (0 : Int32) ≤ p1 ∧ p1 ≤ 1 then 1 else 0) := in32n p1 0 1 0 1 rfl rfl
  by_cases c : (0 : Int32) ≤ p0 ∧ p0 ≤ nI k - 1
  · by_cases c2 : (0 : Int32) ≤ p1 ∧ p1 ≤ 1
    · obtain ⟨j, hj, rfl⟩ := idx_of (by omega) c
      obtain ⟨i, hi1', hi2, rfl⟩ := nI_btw (lo := 0) (hi := 1) (by decide) c2 (by decide)
      have hin : vp_in (nI j) 16 := vp_in_nI (by omega) (by decide)
      rcases (show i = 0 ∨ i = 1 by omega) with rfl | rfl
      · refine ⟨(f_x_shop_sets j, v_x_badCalls, v_x_fullCalls, v_x_noCalls), (f_m_box j, f_m_refused), ?_, ?_, ?_, hI⟩
        · rw [M_X8_told, bw, if_pos c, bw, if_pos c2]
          show ix (nI j) 16 _ = _
          rw [ix_in hin, nI_clamp (by omega)]
        · rw [M_X9_told, e1, if_pos c, e2, if_pos c2]
          show ix (nI j) 16 _ = _
          rw [ix_in hin, nI_clamp (by omega)]
        · show f_x_shop_sets j = f_m_box j
          rw [(gS j hj).2.2.1.1, (gS j hj).2.2.1.2]
      · refine ⟨(f_x_shop_worths j, v_x_badCalls, v_x_fullCalls, v_x_noCalls), (f_m_worth j, f_m_refused), ?_, ?_, ?_, hI⟩
        · rw [M_X8_told, bw, if_pos c, bw, if_pos c2]
          show ix (nI j) 16 _ = _
          rw [ix_in hin, nI_clamp (by omega)]
        · rw [M_X9_told, e1, if_pos c, e2, if_pos c2]
          show ix (nI j) 16 _ = _
          rw [ix_in hin, nI_clamp (by omega)]
        · show f_x_shop_worths j = f_m_worth j
          rw [(gS j hj).2.2.2.1, (gS j hj).2.2.2.2]
    · refine ⟨(-2, v_x_badCalls + 1, v_x_fullCalls, v_x_noCalls), (-2, upd f_m_refused 0 (f_m_refused 0 + 1)), ?_, ?_, rfl, inv_bad hI⟩
      · rw [M_X8_told, bw, if_pos c, bw, if_neg c2]; rfl
      · rw [M_X9_told, e1, if_pos c, e2, if_neg c2]; rfl
  · refine ⟨(-2, v_x_badCalls + 1, v_x_fullCalls, v_x_noCalls), (-2, upd f_m_refused 0 (f_m_refused 0 + 1)), ?_, ?_, rfl, inv_bad hI⟩
    · rw [M_X8_told, bw, if_neg c]; rfl
    · rw [M_X9_told, e1, if_neg c]; rfl
set_option maxHeartbeats 1000000 in
theorem pu_box (v_x_bytes : Int32) (v_x_badCalls : Int32) (v_x_noCalls : Int32) (v_x_fullCalls : Int32) (v_x_shop_n : Int32) (v_x_shop_low : Int32) (v_x_shop_high : Int32) (v_x_shop_boxes : Int32) (f_x_shop_sets : (Nat → Int32)) (f_x_shop_worths : (Nat → Int32)) (f_x_alike : (Nat → Int32)) (v_x_images_0_there : Int32) (v_x_images_0_shop_n : Int32) (v_x_images_0_shop_low : Int32) (v_x_images_0_shop_high : Int32) (v_x_images_0_shop_boxes : Int32) (f_x_images_0_shop_sets : (Nat → Int32)) (f_x_images_0_shop_worths : (Nat → Int32)) (f_x_images_0_alike : (Nat → Int32)) (v_x_images_1_there : Int32) (v_x_images_1_shop_n : Int32) (v_x_images_1_shop_low : Int32) (v_x_images_1_shop_high : Int32) (v_x_images_1_shop_boxes : Int32) (f_x_images_1_shop_sets : (Nat → Int32)) (f_x_images_1_shop_worths : (Nat → Int32)) (f_x_images_1_alike : (Nat → Int32)) (f_x_text : (Nat → Int32)) (v_x_fraction_above : Int64) (v_x_fraction_below : Int64) (v_m_n : Int32) (v_m_low : Int32) (v_m_high : Int32) (v_m_boxes : Int32) (v_m_size : Int32) (v_m_above : Int64) (v_m_below : Int64) (f_m_box : (Nat → Int32)) (f_m_worth : (Nat → Int32)) (f_m_alike : (Nat → Int32)) (f_m_text : (Nat → Int32)) (f_m_images : (Nat → Int32)) (f_m_refused : (Nat → Int32)) (p0 : Int32) (p1 : Int32) (hI : Inv v_x_shop_n v_x_shop_low v_x_shop_high v_x_shop_boxes f_x_shop_sets f_x_shop_worths f_x_alike f_x_text v_x_bytes v_x_fraction_above v_x_fraction_below v_x_badCalls v_x_noCalls v_x_fullCalls v_x_images_0_there v_x_images_0_shop_n v_x_images_0_shop_low v_x_images_0_shop_high v_x_images_0_shop_boxes f_x_images_0_shop_sets f_x_images_0_shop_worths f_x_images_0_alike v_x_images_1_there v_x_images_1_shop_n v_x_images_1_shop_low v_x_images_1_shop_high v_x_images_1_shop_boxes f_x_images_1_shop_sets f_x_images_1_shop_worths f_x_images_1_alike v_m_n v_m_low v_m_high v_m_boxes f_m_box f_m_worth f_m_alike f_m_text v_m_size v_m_above v_m_below f_m_refused f_m_images) : ∃ (rc : (Int32 × Int32 × Int32 × Int32 × Int32 × (Nat → Int32) × (Nat → Int32))) (rr : (Int32 × Int32 × (Nat → Int32) × (Nat → Int32) × (Nat → Int32))), M_X8_box v_x_badCalls v_x_fullCalls v_x_noCalls v_x_shop_boxes v_x_shop_n f_x_shop_sets f_x_shop_worths p0 p1 = some rc ∧ M_X9_box v_m_boxes v_m_n f_m_box f_m_refused f_m_worth p0 p1 = some rr ∧ rc.1 = rr.1 ∧ Inv v_x_shop_n v_x_shop_low v_x_shop_high rc.2.2.2.2.1 rc.2.2.2.2.2.1 rc.2.2.2.2.2.2 f_x_alike f_x_text v_x_bytes v_x_fraction_above v_x_fraction_below rc.2.1 rc.2.2.2.1 rc.2.2.1 v_x_images_0_there v_x_images_0_shop_n v_x_images_0_shop_low v_x_images_0_shop_high v_x_images_0_shop_boxes f_x_images_0_shop_sets f_x_images_0_shop_worths f_x_images_0_alike v_x_images_1_there v_x_images_1_shop_n v_x_images_1_shop_low v_x_images_1_shop_high v_x_images_1_shop_boxes f_x_images_1_shop_sets f_x_images_1_shop_worths f_x_images_1_alike v_m_n v_m_low v_m_high rr.2.1 rr.2.2.1 rr.2.2.2.2 f_m_alike f_m_text v_m_size v_m_above v_m_below rr.2.2.2.1 f_m_images := by
  obtain ⟨⟨N, lo, hi, k, g1, g2, g3, g4, g5, ⟨gn, gn'⟩, gl, gh, ⟨gb, gb'⟩, S, V, gS, gD⟩, hal, htx, hfr, hcn, hi0, hi1⟩ := id hI
  subst gb; subst gb'; subst gn; subst gn'
  have e2 : M_X9_in p1.toInt64 0 99 = some (if (0 : Int32) ≤ p1 ∧ p1 ≤ 99 then 1 else 0) := in32n p1 0 99 0 99 rfl rfl
  have hbad : ∃ (rc : (Int32 × Int32 × Int32 × Int32 × Int32 × (Nat → Int32) × (Nat → Int32))) (rr : (Int32 × Int32 × (Nat → Int32) × (Nat → Int32) × (Nat → Int32))), B_X8_box_29 v_x_badCalls v_x_fullCalls v_x_noCalls (nI k) (nI N) f_x_shop_sets f_x_shop_worths = some rc ∧ B_X9_box_29 (nI k) (nI N) f_m_box f_m_refused f_m_worth = some rr ∧ rc = (-2, v_x_badCalls + 1, v_x_fullCalls, v_x_noCalls, nI k, f_x_shop_sets, f_x_shop_worths) ∧ rr = (-2, nI k, f_m_box, upd f_m_refused 0 (f_m_refused 0 + 1), f_m_worth) := ⟨_, _, rfl, rfl, rfl, rfl⟩
  obtain ⟨rc, rr, q1, q2, q3, q4⟩ := hbad
  by_cases c : (0 : Int32) ≤ p0 ∧ p0 ≤ nI (2 ^ N - 1)
  · by_cases c2 : (0 : Int32) ≤ p1 ∧ p1 ≤ 99
    · obtain ⟨z, hz, rfl⟩ := box_of g2 c
      obtain ⟨v, hv1, hv2, rfl⟩ := nI_btw (lo := 0) (hi := 99) (by decide) c2 (by decide)
      have h28 : 2 ^ N ≤ 2 ^ 8 := Nat.pow_le_pow_right (by decide) g2
      by_cases hd : ∃ j, j < k ∧ S j = z
      · obtain ⟨j, hj, ej⟩ := hd
        have y1 := holds_yes g5 f_x_shop_sets (nI z) hj (by rw [(gS j hj).2.2.1.1, ej])
        obtain ⟨i, hi, y2⟩ := numberOf_yes g5 f_m_box (nI z) hj (by rw [(gS j hj).2.2.1.2, ej])
        refine ⟨rc, rr, ?_, ?_, by rw [q3, q4], by rw [q3, q4]; exact inv_bad hI⟩
        · rw [M_X8_box, isBoxC (by omega), if_pos c]
          show Option.bind (M_X8_between (nI v) 0 99) _ = _
          rw [bw, if_pos c2]
          show Option.bind (M_X6_holds (nI k) f_x_shop_sets (nI z)) _ = _
          rw [y1]; exact q1
        · rw [M_X9_box, isBoxR (by omega), if_pos c]
          show Option.bind (M_X9_in (nI v).toInt64 0 99) _ = _
          rw [e2, if_pos c2]
          show Option.bind (M_X9_numberOf (nI k) f_m_box (nI z)) _ = _
          rw [y2]
          show (if nI i = (-1 : Int32) then _ else _) = _
          rw [if_neg (fun h => absurd (show nI i < 0 by rw [h]; decide) (nI_pos (by omega)))]
          exact q2
      · have hn : ∀ j, j < k → ¬ S j = z := fun j hj h => hd ⟨j, hj, h⟩
        have hS : ∀ j, j < k → S j < 2 ^ 31 := fun j hj => by have := (gS j hj).1; omega
        have y1 := holds_no g5 f_x_shop_sets (nI z) (fun j hj => by rw [(gS j hj).2.2.1.1]; exact fun h => hn j hj ((nI_eq (hS j hj) (by omega)).mp h))
        have y2 := numberOf_no g5 f_m_box (nI z) (fun j hj => by rw [(gS j hj).2.2.1.2]; exact fun h => hn j hj ((nI_eq (hS j hj) (by omega)).mp h))
        by_cases hk : k < 16
        · have hin : vp_in (nI k) 16 := vp_in_nI hk (by decide)
          have hl16 : nI k < (16 : Int32) := nI_lt (b := 16) hk (by decide)
          refine ⟨(nI (k + 1) - 1, v_x_badCalls, v_x_fullCalls, v_x_noCalls, nI (k + 1), upd f_x_shop_sets k (nI z), upd f_x_shop_worths k (nI v)), (nI (k + 1) - 1, nI (k + 1), upd f_m_box k (nI z), f_m_refused, upd f_m_worth k (nI v)), ?_, ?_, rfl, ?_⟩
          · rw [M_X8_box, isBoxC (by omega), if_pos c]
            show Option.bind (M_X8_between (nI v) 0 99) _ = _
            rw [bw, if_pos c2]
            show Option.bind (M_X6_holds (nI k) f_x_shop_sets (nI z)) _ = _
            rw [y1]
            show (if nI k < (16 : Int32) then _ else _) = _
            rw [if_pos hl16, M_X6_put, if_neg (Int32.not_le.mpr hl16), ix_in hin, ix_in hin, nI_clamp (by omega), nI_1]
            rfl
          · rw [M_X9_box, isBoxR (by omega), if_pos c]
            show Option.bind (M_X9_in (nI v).toInt64 0 99) _ = _
            rw [e2, if_pos c2]
            show Option.bind (M_X9_numberOf (nI k) f_m_box (nI z)) _ = _
            rw [y2]
            show (if nI k = (16 : Int32) then _ else _) = _
            rw [if_neg (show ¬ nI k = (16 : Int32) from fun h => absurd ((nI_eq (a := k) (b := 16) (by omega) (by decide)).mp h) (by omega)), ix_in hin, ix_in hin, nI_clamp (by omega), nI_1]
          · refine ⟨⟨N, lo, hi, k + 1, g1, g2, g3, g4, by omega, ⟨rfl, rfl⟩, gl, gh, ⟨rfl, rfl⟩, fun j => if j = k then z else S j, fun j => if j = k then v else V j, fun j hj => ?_, fun a b ha hb hab => ?_⟩, hal, htx, hfr, hcn, hi0, hi1⟩
            · by_cases hjk : j = k
              · subst hjk
                simp only [if_pos rfl]
                exact ⟨hz, hv2, ⟨pk_us, pk_us⟩, ⟨pk_us, pk_us⟩⟩
              · simp only [if_neg hjk]
                have h9 := gS j (by omega)
                exact ⟨h9.1, h9.2.1, ⟨by rw [← h9.2.2.1.1]; exact pk_un hjk, by rw [← h9.2.2.1.2]; exact pk_un hjk⟩, ⟨by rw [← h9.2.2.2.1]; exact pk_un hjk, by rw [← h9.2.2.2.2]; exact pk_un hjk⟩⟩
            · by_cases hak : a = k <;> by_cases hbk : b = k
              · omega
              · simp only [if_pos hak, if_neg hbk] at hab
                exact absurd hab.symm (hn b (by omega))
              · simp only [if_neg hak, if_pos hbk] at hab
                exact absurd hab (hn a (by omega))
              · simp only [if_neg hak, if_neg hbk] at hab
                exact gD a b (by omega) (by omega) hab
        · have hk16 : k = 16 := by omega
          subst hk16
          refine ⟨(-4, v_x_badCalls, v_x_fullCalls + 1, v_x_noCalls, nI 16, f_x_shop_sets, f_x_shop_worths), (-4, nI 16, f_m_box, upd f_m_refused 2 (f_m_refused 2 + 1), f_m_worth), ?_, ?_, rfl, inv_full hI⟩
          · rw [M_X8_box, isBoxC (by omega), if_pos c]
            show Option.bind (M_X8_between (nI v) 0 99) _ = _
            rw [bw, if_pos c2]
            show Option.bind (M_X6_holds (nI 16) f_x_shop_sets (nI z)) _ = _
            rw [y1]; rfl
          · rw [M_X9_box, isBoxR (by omega), if_pos c]
            show Option.bind (M_X9_in (nI v).toInt64 0 99) _ = _
            rw [e2, if_pos c2]
            show Option.bind (M_X9_numberOf (nI 16) f_m_box (nI z)) _ = _
            rw [y2]; rfl
    · refine ⟨rc, rr, ?_, ?_, by rw [q3, q4], by rw [q3, q4]; exact inv_bad hI⟩
      · rw [M_X8_box, isBoxC (by omega), if_pos c]
        show Option.bind (M_X8_between p1 0 99) _ = _
        rw [bw, if_neg c2]; exact q1
      · rw [M_X9_box, isBoxR (by omega), if_pos c]
        show Option.bind (M_X9_in p1.toInt64 0 99) _ = _
        rw [e2, if_neg c2]; exact q2
  · refine ⟨rc, rr, ?_, ?_, by rw [q3, q4], by rw [q3, q4]; exact inv_bad hI⟩
    · rw [M_X8_box, isBoxC (by omega), if_neg c]; exact q1
    · rw [M_X9_box, isBoxR (by omega), if_neg c]; exact q2
