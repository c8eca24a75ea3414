set_option maxHeartbeats 1000000 in
theorem pu_type (v_x_bytes : Int32) (v_x_badCalls : Int32) (v_x_noCalls : Int32) (v_x_fullCalls : Int32) (v_x_shop_n : Int32) (v_x_shop_low : Int32) (v_x_shop_high : Int32) (v_x_shop_boxes : Int32) (f_x_shop_sets : (Nat → Int32)) (f_x_shop_worths : (Nat → Int32)) (f_x_alike : (Nat → Int32)) (v_x_images_0_there : Int32) (v_x_images_0_shop_n : Int32) (v_x_images_0_shop_low : Int32) (v_x_images_0_shop_high : Int32) (v_x_images_0_shop_boxes : Int32) (f_x_images_0_shop_sets : (Nat → Int32)) (f_x_images_0_shop_worths : (Nat → Int32)) (f_x_images_0_alike : (Nat → Int32)) (v_x_images_1_there : Int32) (v_x_images_1_shop_n : Int32) (v_x_images_1_shop_low : Int32) (v_x_images_1_shop_high : Int32) (v_x_images_1_shop_boxes : Int32) (f_x_images_1_shop_sets : (Nat → Int32)) (f_x_images_1_shop_worths : (Nat → Int32)) (f_x_images_1_alike : (Nat → Int32)) (f_x_text : (Nat → Int32)) (v_x_fraction_above : Int64) (v_x_fraction_below : Int64) (v_m_n : Int32) (v_m_low : Int32) (v_m_high : Int32) (v_m_boxes : Int32) (v_m_size : Int32) (v_m_above : Int64) (v_m_below : Int64) (f_m_box : (Nat → Int32)) (f_m_worth : (Nat → Int32)) (f_m_alike : (Nat → Int32)) (f_m_text : (Nat → Int32)) (f_m_images : (Nat → Int32)) (f_m_refused : (Nat → Int32)) (p0 : Int64) (p1 : Int32) (hI : Inv v_x_shop_n v_x_shop_low v_x_shop_high v_x_shop_boxes f_x_shop_sets f_x_shop_worths f_x_alike f_x_text v_x_bytes v_x_fraction_above v_x_fraction_below v_x_badCalls v_x_noCalls v_x_fullCalls v_x_images_0_there v_x_images_0_shop_n v_x_images_0_shop_low v_x_images_0_shop_high v_x_images_0_shop_boxes f_x_images_0_shop_sets f_x_images_0_shop_worths f_x_images_0_alike v_x_images_1_there v_x_images_1_shop_n v_x_images_1_shop_low v_x_images_1_shop_high v_x_images_1_shop_boxes f_x_images_1_shop_sets f_x_images_1_shop_worths f_x_images_1_alike v_m_n v_m_low v_m_high v_m_boxes f_m_box f_m_worth f_m_alike f_m_text v_m_size v_m_above v_m_below f_m_refused f_m_images) : ∃ (rc : (Int32 × Int32 × Int32 × Int32 × Int32 × (Nat → Int32))) (rr : (Int32 × Int32 × (Nat → Int32) × (Nat → Int32))), M_X8_type v_x_badCalls v_x_bytes v_x_fullCalls v_x_noCalls f_x_text p0 p1 = some rc ∧ M_X9_type v_m_size f_m_refused f_m_text p0 p1 = some rr ∧ rc.1 = rr.1 ∧ Inv v_x_shop_n v_x_shop_low v_x_shop_high v_x_shop_boxes f_x_shop_sets f_x_shop_worths f_x_alike rc.2.2.2.2.2 rc.2.2.1 v_x_fraction_above v_x_fraction_below rc.2.1 rc.2.2.2.2.1 rc.2.2.2.1 v_x_images_0_there v_x_images_0_shop_n v_x_images_0_shop_low v_x_images_0_shop_high v_x_images_0_shop_boxes f_x_images_0_shop_sets f_x_images_0_shop_worths f_x_images_0_alike v_x_images_1_there v_x_images_1_shop_n v_x_images_1_shop_low v_x_images_1_shop_high v_x_images_1_shop_boxes f_x_images_1_shop_sets f_x_images_1_shop_worths f_x_images_1_alike v_m_n v_m_low v_m_high v_m_boxes f_m_box f_m_worth f_m_alike rr.2.2.2 rr.2.1 v_m_above v_m_below rr.2.2.1 f_m_images := by
  obtain ⟨hsh, hal, ⟨b, hb, t1, t2, B, hB⟩, hfr, hcn, hi0, hi1⟩ := id hI
  subst t1; subst t2
  have e1 : M_X9_in p1.toInt64 1 8 = some (if (1 : Int32) ≤ p1 ∧ p1 ≤ 8 then 1 else 0) := in32n p1 1 8 1 8 rfl rfl
  by_cases c : (1 : Int32) ≤ p1 ∧ p1 ≤ 8
  · obtain ⟨n, h1, h2, rfl⟩ := nI_btw (lo := 1) (hi := 8) (by decide) c (by decide)
    by_cases hf : b + n ≤ 200
    · have hle : nI b + nI n ≤ (200 : Int32) := by rw [nI_add]; exact nI_le (b := 200) hf (by decide)
      obtain ⟨B', hB'⟩ := ty_ok p0 (n := n) (b := b) h2 hB n (Nat.le_refl n)
      refine ⟨(nI (b + n), v_x_badCalls, nI (b + n), v_x_fullCalls, v_x_noCalls, tyC p0 n b f_x_text n), (nI (b + n), nI (b + n), f_m_refused, tyR p0 n b f_m_text n), ?_, ?_, rfl, ?_⟩
      · rw [M_X8_type, bw, if_pos c]
        show (if nI b + nI n ≤ (200 : Int32) then _ else _) = _
        rw [if_pos hle]
        exact typeC h2 hf _ _ _ _ _
      · rw [M_X9_type, e1, if_pos c]
        show (if nI b + nI n ≤ (200 : Int32) then _ else _) = _
        rw [if_pos hle]
        exact typeR h2 hf _ _ _
      · exact ⟨hsh, hal, ⟨b + n, hf, rfl, rfl, B', hB'⟩, hfr, hcn, hi0, hi1⟩
    · have hle : ¬ nI b + nI n ≤ (200 : Int32) := by rw [nI_add]; exact nle (b := 200) (by omega) (by omega)
      refine ⟨(-4, v_x_badCalls, nI b, v_x_fullCalls + 1, v_x_noCalls, f_x_text), (-4, nI b, upd f_m_refused 2 (f_m_refused 2 + 1), f_m_text), ?_, ?_, rfl, inv_full hI⟩
      · rw [M_X8_type, bw, if_pos c]
        show (if nI b + nI n ≤ (200 : Int32) then _ else _) = _
        rw [if_neg hle]; rfl
      · rw [M_X9_type, e1, if_pos c]
        show (if nI b + nI n ≤ (200 : Int32) then _ else _) = _
        rw [if_neg hle]; rfl
  · refine ⟨(-2, v_x_badCalls + 1, nI b, v_x_fullCalls, v_x_noCalls, f_x_text), (-2, nI b, upd f_m_refused 0 (f_m_refused 0 + 1), f_m_text), ?_, ?_, rfl, inv_bad hI⟩
    · rw [M_X8_type, bw, if_neg c]; rfl
    · rw [M_X9_type, e1, if_neg c]; rfl
