set_option maxHeartbeats 1000000 in
theorem pu_things (v_x_bytes : Int32) (v_x_badCalls : Int32) (v_x_noCalls : Int32) (v_x_fullCalls : Int32) (v_x_shop_n : Int32) (v_x_shop_low : Int32) (v_x_shop_high : Int32) (v_x_shop_boxes : Int32) (f_x_shop_sets : (Nat → Int32)) (f_x_shop_worths : (Nat → Int32)) (f_x_alike : (Nat → Int32)) (v_x_images_0_there : Int32) (v_x_images_0_shop_n : Int32) (v_x_images_0_shop_low : Int32) (v_x_images_0_shop_high : Int32) (v_x_images_0_shop_boxes : Int32) (f_x_images_0_shop_sets : (Nat → Int32)) (f_x_images_0_shop_worths : (Nat → Int32)) (f_x_images_0_alike : (Nat → Int32)) (v_x_images_1_there : Int32) (v_x_images_1_shop_n : Int32) (v_x_images_1_shop_low : Int32) (v_x_images_1_shop_high : Int32) (v_x_images_1_shop_boxes : Int32) (f_x_images_1_shop_sets : (Nat → Int32)) (f_x_images_1_shop_worths : (Nat → Int32)) (f_x_images_1_alike : (Nat → Int32)) (f_x_text : (Nat → Int32)) (v_x_fraction_above : Int64) (v_x_fraction_below : Int64) (f_x_ways : (Nat → Int64)) (v_m_n : Int32) (v_m_low : Int32) (v_m_high : Int32) (v_m_boxes : Int32) (v_m_size : Int32) (v_m_above : Int64) (v_m_below : Int64) (f_m_box : (Nat → Int32)) (f_m_worth : (Nat → Int32)) (f_m_alike : (Nat → Int32)) (f_m_text : (Nat → Int32)) (f_m_images : (Nat → Int32)) (f_m_refused : (Nat → Int32)) (f_m_ways : (Nat → Int64)) (p0 : Int32) (hI : Inv v_x_shop_n v_x_shop_low v_x_shop_high v_x_shop_boxes f_x_shop_sets f_x_shop_worths f_x_alike f_x_text v_x_bytes v_x_fraction_above v_x_fraction_below v_x_badCalls v_x_noCalls v_x_fullCalls v_x_images_0_there v_x_images_0_shop_n v_x_images_0_shop_low v_x_images_0_shop_high v_x_images_0_shop_boxes f_x_images_0_shop_sets f_x_images_0_shop_worths f_x_images_0_alike v_x_images_1_there v_x_images_1_shop_n v_x_images_1_shop_low v_x_images_1_shop_high v_x_images_1_shop_boxes f_x_images_1_shop_sets f_x_images_1_shop_worths f_x_images_1_alike v_m_n v_m_low v_m_high v_m_boxes f_m_box f_m_worth f_m_alike f_m_text v_m_size v_m_above v_m_below f_m_refused f_m_images) : ∃ (rc : (Int64 × Int32 × Int32 × Int32 × (Nat → Int64))) (rr : (Int64 × (Nat → Int32) × (Nat → Int64))), M_X8_things v_x_badCalls v_x_fullCalls v_x_noCalls f_x_alike f_x_ways p0 = some rc ∧ M_X9_things f_m_alike f_m_refused f_m_ways p0 = some rr ∧ rc.1 = rr.1 ∧ Inv v_x_shop_n v_x_shop_low v_x_shop_high v_x_shop_boxes f_x_shop_sets f_x_shop_worths f_x_alike f_x_text v_x_bytes v_x_fraction_above v_x_fraction_below rc.2.1 rc.2.2.2.1 rc.2.2.1 v_x_images_0_there v_x_images_0_shop_n v_x_images_0_shop_low v_x_images_0_shop_high v_x_images_0_shop_boxes f_x_images_0_shop_sets f_x_images_0_shop_worths f_x_images_0_alike v_x_images_1_there v_x_images_1_shop_n v_x_images_1_shop_low v_x_images_1_shop_high v_x_images_1_shop_boxes f_x_images_1_shop_sets f_x_images_1_shop_worths f_x_images_1_alike v_m_n v_m_low v_m_high v_m_boxes f_m_box f_m_worth f_m_alike f_m_text v_m_size v_m_above v_m_below rr.2.1 f_m_images := by
  obtain ⟨hsh, ⟨M, hM⟩, hrest⟩ := id hI
  have e1 : M_X9_in p0.toInt64 0 72 = some (if (0 : Int32) ≤ p0 ∧ p0 ≤ 72 then 1 else 0) := in32n p0 0 72 0 72 rfl rfl
  by_cases c : (0 : Int32) ≤ p0 ∧ p0 ≤ 72
  · obtain ⟨q, h1, h2, rfl⟩ := nI_btw (lo := 0) (hi := 72) (by decide) c (by decide)
    obtain ⟨g, eg, hg⟩ := waysC (al := f_x_alike) (fun j hj => ⟨(hM j hj).1, (hM j hj).2.1⟩) f_x_ways
    obtain ⟨g', eg', hg'⟩ := waysR (al := f_m_alike) (fun j hj => ⟨(hM j hj).1, (hM j hj).2.2⟩) f_m_ways
    have hT := wy_T M (n := 8) (fun j hj => (hM j hj).1) 8 (Nat.le_refl 8)
    have s1 : M_X8_things v_x_badCalls v_x_fullCalls v_x_noCalls f_x_alike f_x_ways (nI q) = some (g q, v_x_badCalls, v_x_fullCalls, v_x_noCalls, g) := by
      rw [M_X8_things, bw, if_pos c]
      show Option.bind (M_X8_countWays f_x_alike f_x_ways) _ = _
      rw [eg]
      show ix (nI q) 73 _ = _
      rw [ix_in (vp_in_nI (by omega) (by decide)), nI_clamp (by omega)]
    have s2 : M_X9_things f_m_alike f_m_refused f_m_ways (nI q) = some (wyW M 8 q, f_m_refused, g') := by
      rw [M_X9_things, e1, if_pos c]
      show Option.bind (M_X9_spread f_m_alike f_m_ways) _ = _
      rw [eg']
      show (if nI q ≤ nI (wyT M 8) then _ else _) = _
      by_cases hq : q ≤ wyT M 8
      · rw [if_pos (nI_le hq (by omega)), ix_in (vp_in_nI (by omega) (by decide)), nI_clamp (by omega)]
        show some (g' q, f_m_refused, g') = _
        rw [hg' q h2]
      · rw [if_neg (nle (by omega) (by omega)), wy_0 M 8 q (by omega)]
    exact ⟨_, _, s1, s2, hg q h2, hI⟩
  · refine ⟨((-2 : Int32).toInt64, v_x_badCalls + 1, v_x_fullCalls, v_x_noCalls, f_x_ways), ((-2 : Int32).toInt64, upd f_m_refused 0 (f_m_refused 0 + 1), f_m_ways), ?_, ?_, rfl, inv_bad hI⟩
    · rw [M_X8_things, bw, if_neg c]; rfl
    · rw [M_X9_things, e1, if_neg c]; rfl
set_option maxHeartbeats 1000000 in
theorem pu_middle (v_x_bytes : Int32) (v_x_badCalls : Int32) (v_x_noCalls : Int32) (v_x_fullCalls : Int32) (v_x_shop_n : Int32) (v_x_shop_low : Int32) (v_x_shop_high : Int32) (v_x_shop_boxes : Int32) (f_x_shop_sets : (Nat → Int32)) (f_x_shop_worths : (Nat → Int32)) (f_x_alike : (Nat → Int32)) (v_x_images_0_there : Int32) (v_x_images_0_shop_n : Int32) (v_x_images_0_shop_low : Int32) (v_x_images_0_shop_high : Int32) (v_x_images_0_shop_boxes : Int32) (f_x_images_0_shop_sets : (Nat → Int32)) (f_x_images_0_shop_worths : (Nat → Int32)) (f_x_images_0_alike : (Nat → Int32)) (v_x_images_1_there : Int32) (v_x_images_1_shop_n : Int32) (v_x_images_1_shop_low : Int32) (v_x_images_1_shop_high : Int32) (v_x_images_1_shop_boxes : Int32) (f_x_images_1_shop_sets : (Nat → Int32)) (f_x_images_1_shop_worths : (Nat → Int32)) (f_x_images_1_alike : (Nat → Int32)) (f_x_text : (Nat → Int32)) (v_x_fraction_above : Int64) (v_x_fraction_below : Int64) (f_x_ways : (Nat → Int64)) (v_m_n : Int32) (v_m_low : Int32) (v_m_high : Int32) (v_m_boxes : Int32) (v_m_size : Int32) (v_m_above : Int64) (v_m_below : Int64) (f_m_box : (Nat → Int32)) (f_m_worth : (Nat → Int32)) (f_m_alike : (Nat → Int32)) (f_m_text : (Nat → Int32)) (f_m_images : (Nat → Int32)) (f_m_refused : (Nat → Int32)) (f_m_ways : (Nat → Int64)) (p0 : Int32) (hI : Inv v_x_shop_n v_x_shop_low v_x_shop_high v_x_shop_boxes f_x_shop_sets f_x_shop_worths f_x_alike f_x_text v_x_bytes v_x_fraction_above v_x_fraction_below v_x_badCalls v_x_noCalls v_x_fullCalls v_x_images_0_there v_x_images_0_shop_n v_x_images_0_shop_low v_x_images_0_shop_high v_x_images_0_shop_boxes f_x_images_0_shop_sets f_x_images_0_shop_worths f_x_images_0_alike v_x_images_1_there v_x_images_1_shop_n v_x_images_1_shop_low v_x_images_1_shop_high v_x_images_1_shop_boxes f_x_images_1_shop_sets f_x_images_1_shop_worths f_x_images_1_alike v_m_n v_m_low v_m_high v_m_boxes f_m_box f_m_worth f_m_alike f_m_text v_m_size v_m_above v_m_below f_m_refused f_m_images) : ∃ (rc : (Int32 × Int32 × Int32 × Int32 × (Nat → Int64))) (rr : (Int32 × (Nat → Int32) × (Nat → Int64))), M_X8_middle v_x_badCalls v_x_fullCalls v_x_noCalls f_x_alike f_x_ways p0 = some rc ∧ M_X9_middle f_m_alike f_m_refused f_m_ways p0 = some rr ∧ rc.1 = rr.1 ∧ Inv v_x_shop_n v_x_shop_low v_x_shop_high v_x_shop_boxes f_x_shop_sets f_x_shop_worths f_x_alike f_x_text v_x_bytes v_x_fraction_above v_x_fraction_below rc.2.1 rc.2.2.2.1 rc.2.2.1 v_x_images_0_there v_x_images_0_shop_n v_x_images_0_shop_low v_x_images_0_shop_high v_x_images_0_shop_boxes f_x_images_0_shop_sets f_x_images_0_shop_worths f_x_images_0_alike v_x_images_1_there v_x_images_1_shop_n v_x_images_1_shop_low v_x_images_1_shop_high v_x_images_1_shop_boxes f_x_images_1_shop_sets f_x_images_1_shop_worths f_x_images_1_alike v_m_n v_m_low v_m_high v_m_boxes f_m_box f_m_worth f_m_alike f_m_text v_m_size v_m_above v_m_below rr.2.1 f_m_images := by
  obtain ⟨hsh, ⟨M, hM⟩, hrest⟩ := id hI
  have e1 : M_X9_in p0.toInt64 0 1 = some (if (0 : Int32) ≤ p0 ∧ p0 ≤ 1 then 1 else 0) := in32n p0 0 1 0 1 rfl rfl
  by_cases c : (0 : Int32) ≤ p0 ∧ p0 ≤ 1
  · obtain ⟨i, h1, h2, rfl⟩ := nI_btw (lo := 0) (hi := 1) (by decide) c (by decide)
    obtain ⟨g, eg, hg⟩ := waysC (al := f_x_alike) (fun j hj => ⟨(hM j hj).1, (hM j hj).2.1⟩) f_x_ways
    obtain ⟨g', eg', hg'⟩ := waysR (al := f_m_alike) (fun j hj => ⟨(hM j hj).1, (hM j hj).2.2⟩) f_m_ways
    have hb : bsx g 72 = bsx g' 72 := bsx_cg 72 (fun q hq => by rw [hg q hq, hg' q hq])
    have s2 : M_X9_middle f_m_alike f_m_refused f_m_ways (nI i) = (if nI i = 0 then some (nI (bsx g' 72), f_m_refused, g') else some (nI (wyT M 8), f_m_refused, g')) := by
      rw [M_X9_middle, e1, if_pos c]
      show Option.bind (M_X9_spread f_m_alike f_m_ways) _ = _
      rw [eg']
      exact midR _ _ _ _ _
    rcases (show i = 0 ∨ i = 1 by omega) with rfl | rfl
    · rw [if_pos rfl] at s2
      refine ⟨(nI (bsx g 72), v_x_badCalls, v_x_fullCalls, v_x_noCalls, g), _, ?_, s2, by rw [hb], hI⟩
      rw [M_X8_middle, bw, if_pos c]
      show Option.bind (M_X8_countWays f_x_alike f_x_ways) _ = _
      rw [eg]
      exact midC _ _ _ _ _
    · rw [if_neg (by decide)] at s2
      refine ⟨(nI (wyT M 8), v_x_badCalls, v_x_fullCalls, v_x_noCalls, g), _, ?_, s2, rfl, hI⟩
      rw [M_X8_middle, bw, if_pos c]
      show Option.bind (M_X8_countWays f_x_alike f_x_ways) _ = _
      rw [eg]
      rfl
  · refine ⟨(-2, v_x_badCalls + 1, v_x_fullCalls, v_x_noCalls, f_x_ways), (-2, upd f_m_refused 0 (f_m_refused 0 + 1), f_m_ways), ?_, ?_, rfl, inv_bad hI⟩
    · rw [M_X8_middle, bw, if_neg c]; rfl
    · rw [M_X9_middle, e1, if_neg c]; rfl
