set_option maxHeartbeats 1000000 in
theorem pu_opens (v_x_bytes : Int32) (v_x_badCalls : Int32) (v_x_noCalls : Int32) (v_x_fullCalls : Int32) (v_x_shop_n : Int32) (v_x_shop_low : Int32) (v_x_shop_high : Int32) (v_x_shop_boxes : Int32) (f_x_shop_sets : (Nat → Int32)) (f_x_shop_worths : (Nat → Int32)) (f_x_alike : (Nat → Int32)) (v_x_images_0_there : Int32) (v_x_images_0_shop_n : Int32) (v_x_images_0_shop_low : Int32) (v_x_images_0_shop_high : Int32) (v_x_images_0_shop_boxes : Int32) (f_x_images_0_shop_sets : (Nat → Int32)) (f_x_images_0_shop_worths : (Nat → Int32)) (f_x_images_0_alike : (Nat → Int32)) (v_x_images_1_there : Int32) (v_x_images_1_shop_n : Int32) (v_x_images_1_shop_low : Int32) (v_x_images_1_shop_high : Int32) (v_x_images_1_shop_boxes : Int32) (f_x_images_1_shop_sets : (Nat → Int32)) (f_x_images_1_shop_worths : (Nat → Int32)) (f_x_images_1_alike : (Nat → Int32)) (f_x_text : (Nat → Int32)) (v_x_fraction_above : Int64) (v_x_fraction_below : Int64) (f_x_openers : (Nat → Int32)) (v_m_n : Int32) (v_m_low : Int32) (v_m_high : Int32) (v_m_boxes : Int32) (v_m_size : Int32) (v_m_above : Int64) (v_m_below : Int64) (f_m_box : (Nat → Int32)) (f_m_worth : (Nat → Int32)) (f_m_alike : (Nat → Int32)) (f_m_text : (Nat → Int32)) (f_m_images : (Nat → Int32)) (f_m_refused : (Nat → Int32)) (f_m_coverMany : (Nat → Int32)) (f_m_coverSet : (Nat → Int32)) (p0 : Int32) (p1 : Int32) (hI : Inv v_x_shop_n v_x_shop_low v_x_shop_high v_x_shop_boxes f_x_shop_sets f_x_shop_worths f_x_alike f_x_text v_x_bytes v_x_fraction_above v_x_fraction_below v_x_badCalls v_x_noCalls v_x_fullCalls v_x_images_0_there v_x_images_0_shop_n v_x_images_0_shop_low v_x_images_0_shop_high v_x_images_0_shop_boxes f_x_images_0_shop_sets f_x_images_0_shop_worths f_x_images_0_alike v_x_images_1_there v_x_images_1_shop_n v_x_images_1_shop_low v_x_images_1_shop_high v_x_images_1_shop_boxes f_x_images_1_shop_sets f_x_images_1_shop_worths f_x_images_1_alike v_m_n v_m_low v_m_high v_m_boxes f_m_box f_m_worth f_m_alike f_m_text v_m_size v_m_above v_m_below f_m_refused f_m_images) : ∃ (rc : (Int32 × Int32 × Int32 × Int32 × (Nat → Int32))) (rr : (Int32 × (Nat → Int32) × (Nat → Int32) × (Nat → Int32))), M_X8_opens v_x_badCalls v_x_fullCalls v_x_noCalls f_x_openers v_x_shop_boxes v_x_shop_n f_x_shop_sets p0 p1 = some rc ∧ M_X9_opens v_m_boxes v_m_n f_m_box f_m_coverMany f_m_coverSet f_m_refused p0 p1 = some rr ∧ rc.1 = rr.1 ∧ Inv v_x_shop_n v_x_shop_low v_x_shop_high v_x_shop_boxes f_x_shop_sets f_x_shop_worths f_x_alike f_x_text v_x_bytes v_x_fraction_above v_x_fraction_below rc.2.1 rc.2.2.2.1 rc.2.2.1 v_x_images_0_there v_x_images_0_shop_n v_x_images_0_shop_low v_x_images_0_shop_high v_x_images_0_shop_boxes f_x_images_0_shop_sets f_x_images_0_shop_worths f_x_images_0_alike v_x_images_1_there v_x_images_1_shop_n v_x_images_1_shop_low v_x_images_1_shop_high v_x_images_1_shop_boxes f_x_images_1_shop_sets f_x_images_1_shop_worths f_x_images_1_alike v_m_n v_m_low v_m_high v_m_boxes f_m_box f_m_worth f_m_alike f_m_text v_m_size v_m_above v_m_below rr.2.2.2 f_m_images := by
  obtain ⟨⟨N, lo, hi, k, g1, g2, g3, g4, g5, ⟨gn, gn'⟩, ⟨gl, gl'⟩, ⟨gh, gh'⟩, ⟨gb, gb'⟩, S, V, gS, gD⟩, hal, htx, hfr, hcn, hi0, hi1⟩ := id hI
  subst gb; subst gb'; subst gn; subst gn'; subst gl; subst gl'; subst gh; subst gh'
  have h28 : 2 ^ N ≤ 2 ^ 8 := Nat.pow_le_pow_right (by decide) g2
  have hS : ∀ j, j < k → S j < 256 := fun j hj => by have := (gS j hj).1; omega
  have e2 : M_X9_in p1.toInt64 0 1 = some (if (0 : Int32) ≤ p1 ∧ p1 ≤ 1 then 1 else 0) := in32n p1 0 1 0 1 rfl rfl
  by_cases c : (0 : Int32) ≤ p0 ∧ p0 ≤ nI (2 ^ N - 1)
  · by_cases c2 : (0 : Int32) ≤ p1 ∧ p1 ≤ 1
    · obtain ⟨z, hz, rfl⟩ := box_of g2 c
      obtain ⟨v, g, hv, ev⟩ := q_opC g5 hS (sets := f_x_shop_sets) (fun j hj => (gS j hj).2.2.1.1) (z := z) (by omega) f_x_openers
      obtain ⟨f1, f2, e3, hf⟩ := q_cvR g5 hS (box := f_m_box) (fun j hj => (gS j hj).2.2.1.2) f_m_coverMany f_m_coverSet
      have eC : M_X8_opens v_x_badCalls v_x_fullCalls v_x_noCalls f_x_openers (nI k) (nI N) f_x_shop_sets (nI z) p1 = (if (if v = 1073741824 then (-1 : Int32) else v) = -1 then some (-1, v_x_badCalls, v_x_fullCalls, v_x_noCalls, g) else if p1 = 0 then some ((((if v = 1073741824 then (-1 : Int32) else v).toUInt32 >>> ((16 : Int32).toUInt32 &&& Int32.toUInt32 31)).toInt32), v_x_badCalls, v_x_fullCalls, v_x_noCalls, g) else some (((if v = 1073741824 then (-1 : Int32) else v) &&& 65535), v_x_badCalls, v_x_fullCalls, v_x_noCalls, g)) := by
        rw [M_X8_opens, isBoxC (by omega), if_pos c, ob, if_neg (by decide), bw, if_pos c2, ob, if_neg (by decide), ev, ob]
      have eR : M_X9_opens (nI k) (nI N) f_m_box f_m_coverMany f_m_coverSet f_m_refused (nI z) p1 = lpN (fun w : Int32 × Int32 => L_X9_opens_34 (nI z) p1 (nI k) (nI N) f_m_box f1 f2 f_m_refused w.1 w.2) fuelK ((-1 : Int32), (0 : Int32)) := by
        rw [M_X9_opens, isBoxR (by omega), if_pos c, ob, if_neg (by decide), e2, if_pos c2, ob, if_neg (by decide), e3, ob]
      rcases q_opR g5 hS (z := z) (by omega) hf p1 (nI N) f_m_box f_m_refused with ⟨h1, h2⟩ | ⟨e, h1, h2, h3⟩
      · rcases hv with ⟨v1, v2⟩ | ⟨ev, v1, v2, v3⟩
        · refine ⟨(-1, v_x_badCalls, v_x_fullCalls, v_x_noCalls, g), (-1, f1, f2, f_m_refused), ?_, eR.trans h1, rfl, hI⟩
          rw [eC, if_pos v1, if_pos rfl]
        · exact absurd v1 (h2 ev)
      · rcases hv with ⟨v1, v2⟩ | ⟨ev, v1, v2, v3⟩
        · exact absurd h1 (v2 e)
        · have hee : e = ev := by
            have := h2 ev v1
            have := v3 e h1
            omega
          subst hee
          have hb := q_PC_b g5 hS (Nat.le_refl k) h1
          have hnv : ¬ v = 1073741824 := fun h => by
            rw [v2] at h
            have := (nI_eq (a := e) (b := 1073741824) (by omega) (by decide)).mp h
            omega
          have hnm : ¬ v = (-1 : Int32) := by rw [v2]; exact q_nm1 (by omega)
          rw [if_neg hnv, if_neg hnm] at eC
          refine ⟨((if p1 = 0 then nI (e / 65536) else nI (e % 65536)), v_x_badCalls, v_x_fullCalls, v_x_noCalls, g), ((if p1 = 0 then nI (e / 65536) else nI (e % 65536)), f1, f2, f_m_refused), ?_, eR.trans h3, rfl, hI⟩
          rw [eC, v2]
          by_cases h0 : p1 = 0
          · rw [if_pos h0, if_pos h0, pk_ushrN (by omega) (16 : Int32) 16 (by decide)]
          · rw [if_neg h0, if_neg h0, nx_mod]
    · refine ⟨(-2, v_x_badCalls + 1, v_x_fullCalls, v_x_noCalls, f_x_openers), (-2, f_m_coverMany, f_m_coverSet, upd f_m_refused 0 (f_m_refused 0 + 1)), ?_, ?_, rfl, inv_bad hI⟩
      · rw [M_X8_opens, isBoxC (by omega), if_pos c, ob, if_neg (by decide), bw, if_neg c2, ob, if_pos rfl]; rfl
      · rw [M_X9_opens, isBoxR (by omega), if_pos c, ob, if_neg (by decide), e2, if_neg c2, ob, if_pos rfl]; rfl
  · refine ⟨(-2, v_x_badCalls + 1, v_x_fullCalls, v_x_noCalls, f_x_openers), (-2, f_m_coverMany, f_m_coverSet, upd f_m_refused 0 (f_m_refused 0 + 1)), ?_, ?_, rfl, inv_bad hI⟩
    · rw [M_X8_opens, isBoxC (by omega), if_neg c, ob, if_pos rfl]; rfl
    · rw [M_X9_opens, isBoxR (by omega), if_neg c, ob, if_pos rfl]; rfl
