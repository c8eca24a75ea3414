set_option maxHeartbeats 1000000 in
theorem pu_greatest (v_x_bytes : Int32) (v_x_badCalls : Int32) (v_x_noCalls : Int32) (v_x_fullCalls : Int32) (v_x_shop_n : Int32) (v_x_shop_low : Int32) (v_x_shop_high : Int32) (v_x_shop_boxes : Int32) (f_x_shop_sets : (Nat → Int32)) (f_x_shop_worths : (Nat → Int32)) (f_x_alike : (Nat → Int32)) (v_x_images_0_there : Int32) (v_x_images_0_shop_n : Int32) (v_x_images_0_shop_low : Int32) (v_x_images_0_shop_high : Int32) (v_x_images_0_shop_boxes : Int32) (f_x_images_0_shop_sets : (Nat → Int32)) (f_x_images_0_shop_worths : (Nat → Int32)) (f_x_images_0_alike : (Nat → Int32)) (v_x_images_1_there : Int32) (v_x_images_1_shop_n : Int32) (v_x_images_1_shop_low : Int32) (v_x_images_1_shop_high : Int32) (v_x_images_1_shop_boxes : Int32) (f_x_images_1_shop_sets : (Nat → Int32)) (f_x_images_1_shop_worths : (Nat → Int32)) (f_x_images_1_alike : (Nat → Int32)) (f_x_text : (Nat → Int32)) (v_x_fraction_above : Int64) (v_x_fraction_below : Int64) (v_m_n : Int32) (v_m_low : Int32) (v_m_high : Int32) (v_m_boxes : Int32) (v_m_size : Int32) (v_m_above : Int64) (v_m_below : Int64) (f_m_box : (Nat → Int32)) (f_m_worth : (Nat → Int32)) (f_m_alike : (Nat → Int32)) (f_m_text : (Nat → Int32)) (f_m_images : (Nat → Int32)) (f_m_refused : (Nat → Int32)) (f_m_triangle : (Nat → Int64)) (p0 : Int32) (hI : Inv v_x_shop_n v_x_shop_low v_x_shop_high v_x_shop_boxes f_x_shop_sets f_x_shop_worths f_x_alike f_x_text v_x_bytes v_x_fraction_above v_x_fraction_below v_x_badCalls v_x_noCalls v_x_fullCalls v_x_images_0_there v_x_images_0_shop_n v_x_images_0_shop_low v_x_images_0_shop_high v_x_images_0_shop_boxes f_x_images_0_shop_sets f_x_images_0_shop_worths f_x_images_0_alike v_x_images_1_there v_x_images_1_shop_n v_x_images_1_shop_low v_x_images_1_shop_high v_x_images_1_shop_boxes f_x_images_1_shop_sets f_x_images_1_shop_worths f_x_images_1_alike v_m_n v_m_low v_m_high v_m_boxes f_m_box f_m_worth f_m_alike f_m_text v_m_size v_m_above v_m_below f_m_refused f_m_images) : ∃ (rc : (Int64 × Int32 × Int32 × Int32)) (rr : (Int64 × (Nat → Int32) × (Nat → Int64))), M_X8_greatest v_x_badCalls v_x_fullCalls v_x_noCalls p0 = some rc ∧ M_X9_greatest f_m_refused f_m_triangle p0 = some rr ∧ rc.1 = rr.1 ∧ Inv v_x_shop_n v_x_shop_low v_x_shop_high v_x_shop_boxes f_x_shop_sets f_x_shop_worths f_x_alike f_x_text v_x_bytes v_x_fraction_above v_x_fraction_below rc.2.1 rc.2.2.2 rc.2.2.1 v_x_images_0_there v_x_images_0_shop_n v_x_images_0_shop_low v_x_images_0_shop_high v_x_images_0_shop_boxes f_x_images_0_shop_sets f_x_images_0_shop_worths f_x_images_0_alike v_x_images_1_there v_x_images_1_shop_n v_x_images_1_shop_low v_x_images_1_shop_high v_x_images_1_shop_boxes f_x_images_1_shop_sets f_x_images_1_shop_worths f_x_images_1_alike v_m_n v_m_low v_m_high v_m_boxes f_m_box f_m_worth f_m_alike f_m_text v_m_size v_m_above v_m_below rr.2.1 f_m_images := by
  have e1 : M_X9_in p0.toInt64 0 60 = some (if (0 : Int32) ≤ p0 ∧ p0 ≤ 60 then 1 else 0) := in32n p0 0 60 0 60 rfl rfl
  by_cases c : (0 : Int32) ≤ p0 ∧ p0 ≤ 60
  · obtain ⟨n, h1, h2, rfl⟩ := nI_btw (lo := 0) (hi := 60) (by decide) c (by decide)
    have hd : nI n / (2 : Int32) = nI (n / 2) := pk_div (d := 2) (by omega) (by decide) (by decide)
    have hc := chooseC (n := n) (k := n / 2) h2 (by omega)
    obtain ⟨g, hg⟩ := chosenR (n := n) (k := n / 2) h2 (by omega) f_m_triangle
    refine ⟨(lN (bn n (n / 2)), v_x_badCalls, v_x_fullCalls, v_x_noCalls), (lN (bn n (n / 2)), f_m_refused, g), ?_, ?_, rfl, hI⟩
    · rw [M_X8_greatest, bw, if_pos c, hd, hc]; rfl
    · rw [M_X9_greatest, e1, if_pos c, hd, hg]; rfl
  · refine ⟨((-2 : Int32).toInt64, v_x_badCalls + 1, v_x_fullCalls, v_x_noCalls), ((-2 : Int32).toInt64, upd f_m_refused 0 (f_m_refused 0 + 1), f_m_triangle), ?_, ?_, rfl, inv_bad hI⟩
    · rw [M_X8_greatest, bw, if_neg c]; rfl
    · rw [M_X9_greatest, e1, if_neg c]; rfl
set_option maxHeartbeats 1000000 in
theorem pu_shared (v_x_bytes : Int32) (v_x_badCalls : Int32) (v_x_noCalls : Int32) (v_x_fullCalls : Int32) (v_x_shop_n : Int32) (v_x_shop_low : Int32) (v_x_shop_high : Int32) (v_x_shop_boxes : Int32) (f_x_shop_sets : (Nat → Int32)) (f_x_shop_worths : (Nat → Int32)) (f_x_alike : (Nat → Int32)) (v_x_images_0_there : Int32) (v_x_images_0_shop_n : Int32) (v_x_images_0_shop_low : Int32) (v_x_images_0_shop_high : Int32) (v_x_images_0_shop_boxes : Int32) (f_x_images_0_shop_sets : (Nat → Int32)) (f_x_images_0_shop_worths : (Nat → Int32)) (f_x_images_0_alike : (Nat → Int32)) (v_x_images_1_there : Int32) (v_x_images_1_shop_n : Int32) (v_x_images_1_shop_low : Int32) (v_x_images_1_shop_high : Int32) (v_x_images_1_shop_boxes : Int32) (f_x_images_1_shop_sets : (Nat → Int32)) (f_x_images_1_shop_worths : (Nat → Int32)) (f_x_images_1_alike : (Nat → Int32)) (f_x_text : (Nat → Int32)) (v_x_fraction_above : Int64) (v_x_fraction_below : Int64) (v_m_n : Int32) (v_m_low : Int32) (v_m_high : Int32) (v_m_boxes : Int32) (v_m_size : Int32) (v_m_above : Int64) (v_m_below : Int64) (f_m_box : (Nat → Int32)) (f_m_worth : (Nat → Int32)) (f_m_alike : (Nat → Int32)) (f_m_text : (Nat → Int32)) (f_m_images : (Nat → Int32)) (f_m_refused : (Nat → Int32)) (f_m_triangle : (Nat → Int64)) (p0 : Int32) (p1 : Int32) (hI : Inv v_x_shop_n v_x_shop_low v_x_shop_high v_x_shop_boxes f_x_shop_sets f_x_shop_worths f_x_alike f_x_text v_x_bytes v_x_fraction_above v_x_fraction_below v_x_badCalls v_x_noCalls v_x_fullCalls v_x_images_0_there v_x_images_0_shop_n v_x_images_0_shop_low v_x_images_0_shop_high v_x_images_0_shop_boxes f_x_images_0_shop_sets f_x_images_0_shop_worths f_x_images_0_alike v_x_images_1_there v_x_images_1_shop_n v_x_images_1_shop_low v_x_images_1_shop_high v_x_images_1_shop_boxes f_x_images_1_shop_sets f_x_images_1_shop_worths f_x_images_1_alike v_m_n v_m_low v_m_high v_m_boxes f_m_box f_m_worth f_m_alike f_m_text v_m_size v_m_above v_m_below f_m_refused f_m_images) : ∃ (rc : (Int64 × Int32 × Int32 × Int32)) (rr : (Int64 × (Nat → Int32) × (Nat → Int64))), M_X8_shared v_x_badCalls v_x_fullCalls v_x_noCalls p0 p1 = some rc ∧ M_X9_shared f_m_refused f_m_triangle p0 p1 = some rr ∧ rc.1 = rr.1 ∧ Inv v_x_shop_n v_x_shop_low v_x_shop_high v_x_shop_boxes f_x_shop_sets f_x_shop_worths f_x_alike f_x_text v_x_bytes v_x_fraction_above v_x_fraction_below rc.2.1 rc.2.2.2 rc.2.2.1 v_x_images_0_there v_x_images_0_shop_n v_x_images_0_shop_low v_x_images_0_shop_high v_x_images_0_shop_boxes f_x_images_0_shop_sets f_x_images_0_shop_worths f_x_images_0_alike v_x_images_1_there v_x_images_1_shop_n v_x_images_1_shop_low v_x_images_1_shop_high v_x_images_1_shop_boxes f_x_images_1_shop_sets f_x_images_1_shop_worths f_x_images_1_alike v_m_n v_m_low v_m_high v_m_boxes f_m_box f_m_worth f_m_alike f_m_text v_m_size v_m_above v_m_below rr.2.1 f_m_images := by
  have e1 : M_X9_in p1.toInt64 1 30 = some (if (1 : Int32) ≤ p1 ∧ p1 ≤ 30 then 1 else 0) := in32n p1 1 30 1 30 rfl rfl
  by_cases c : (1 : Int32) ≤ p1 ∧ p1 ≤ 30
  · obtain ⟨k, h1, h2, rfl⟩ := nI_btw (lo := 1) (hi := 30) (by decide) c (by decide)
    have ek : (2 : Int32) * nI k = nI (2 * k) := pk_mul 2 k
    have ek2 : (2 : Int64) * (nI k).toInt64 = ((2 : Int32) * nI k).toInt64 := by
      rw [ek, nI_l (by omega), nI_l (by omega)]; exact lN_mul 2 k
    have e2 : M_X9_in p0.toInt64 ((2 : Int64) * (nI k).toInt64) 60 = some (if (2 : Int32) * nI k ≤ p0 ∧ p0 ≤ 60 then 1 else 0) := in32n p0 ((2 : Int32) * nI k) 60 _ 60 ek2 rfl
    by_cases c2 : (2 : Int32) * nI k ≤ p0 ∧ p0 ≤ 60
    · have c3 := c2
      rw [ek] at c3
      obtain ⟨n, h3, h4, rfl⟩ := nI_btw (lo := 2 * k) (hi := 60) (by decide) c3 (by omega)
      obtain ⟨n', rfl⟩ : ∃ n', n = n' + 1 := ⟨n - 1, by omega⟩
      obtain ⟨k', rfl⟩ : ∃ k', k = k' + 1 := ⟨k - 1, by omega⟩
      have hc := chooseC (n := n') (k := k') (by omega) (by omega)
      obtain ⟨g, hg⟩ := chosenR (n := n') (k := k') (by omega) (by omega) f_m_triangle
      refine ⟨(lN (bn n' k'), v_x_badCalls, v_x_fullCalls, v_x_noCalls), (lN (bn n' k'), f_m_refused, g), ?_, ?_, rfl, hI⟩
      · rw [M_X8_shared, bw, if_pos c]
        show Option.bind (M_X8_between (nI (n' + 1)) ((2 : Int32) * nI (k' + 1)) 60) _ = _
        rw [bw, if_pos c2]
        show Option.bind (M_X8_choose (nI (n' + 1) - 1) (nI (k' + 1) - 1)) _ = _
        rw [nI_pred, nI_pred, hc]; rfl
      · rw [M_X9_shared, e1, if_pos c]
        show Option.bind (M_X9_in (nI (n' + 1)).toInt64 ((2 : Int64) * (nI (k' + 1)).toInt64) 60) _ = _
        rw [e2, if_pos c2]
        show Option.bind (M_X9_chosen f_m_triangle (nI (n' + 1) - 1) (nI (k' + 1) - 1)) _ = _
        rw [nI_pred, nI_pred, hg]; rfl
    · refine ⟨((-2 : Int32).toInt64, v_x_badCalls + 1, v_x_fullCalls, v_x_noCalls), ((-2 : Int32).toInt64, upd f_m_refused 0 (f_m_refused 0 + 1), f_m_triangle), ?_, ?_, rfl, inv_bad hI⟩
      · rw [M_X8_shared, bw, if_pos c]
        show Option.bind (M_X8_between p0 ((2 : Int32) * nI k) 60) _ = _
        rw [bw, if_neg c2]; rfl
      · rw [M_X9_shared, e1, if_pos c]
        show Option.bind (M_X9_in p0.toInt64 ((2 : Int64) * (nI k).toInt64) 60) _ = _
        rw [e2, if_neg c2]; rfl
  · refine ⟨((-2 : Int32).toInt64, v_x_badCalls + 1, v_x_fullCalls, v_x_noCalls), ((-2 : Int32).toInt64, upd f_m_refused 0 (f_m_refused 0 + 1), f_m_triangle), ?_, ?_, rfl, inv_bad hI⟩
    · rw [M_X8_shared, bw, if_neg c]; rfl
    · rw [M_X9_shared, e1, if_neg c]; rfl
