set_option maxHeartbeats 1000000 in
theorem pu_row (v_x_bytes : Int32) (v_x_badCalls : Int32) (v_x_noCalls : Int32) (v_x_fullCalls : Int32) (v_x_shop_n : Int32) (v_x_shop_low : Int32) (v_x_shop_high : Int32) (v_x_shop_boxes : Int32) (f_x_shop_sets : (Nat → Int32)) (f_x_shop_worths : (Nat → Int32)) (f_x_alike : (Nat → Int32)) (v_x_images_0_there : Int32) (v_x_images_0_shop_n : Int32) (v_x_images_0_shop_low : Int32) (v_x_images_0_shop_high : Int32) (v_x_images_0_shop_boxes : Int32) (f_x_images_0_shop_sets : (Nat → Int32)) (f_x_images_0_shop_worths : (Nat → Int32)) (f_x_images_0_alike : (Nat → Int32)) (v_x_images_1_there : Int32) (v_x_images_1_shop_n : Int32) (v_x_images_1_shop_low : Int32) (v_x_images_1_shop_high : Int32) (v_x_images_1_shop_boxes : Int32) (f_x_images_1_shop_sets : (Nat → Int32)) (f_x_images_1_shop_worths : (Nat → Int32)) (f_x_images_1_alike : (Nat → Int32)) (f_x_text : (Nat → Int32)) (v_x_fraction_above : Int64) (v_x_fraction_below : Int64) (v_m_n : Int32) (v_m_low : Int32) (v_m_high : Int32) (v_m_boxes : Int32) (v_m_size : Int32) (v_m_above : Int64) (v_m_below : Int64) (f_m_box : (Nat → Int32)) (f_m_worth : (Nat → Int32)) (f_m_alike : (Nat → Int32)) (f_m_text : (Nat → Int32)) (f_m_images : (Nat → Int32)) (f_m_refused : (Nat → Int32)) (p0 : Int32) (p1 : Int32) (hI : Inv v_x_shop_n v_x_shop_low v_x_shop_high v_x_shop_boxes f_x_shop_sets f_x_shop_worths f_x_alike f_x_text v_x_bytes v_x_fraction_above v_x_fraction_below v_x_badCalls v_x_noCalls v_x_fullCalls v_x_images_0_there v_x_images_0_shop_n v_x_images_0_shop_low v_x_images_0_shop_high v_x_images_0_shop_boxes f_x_images_0_shop_sets f_x_images_0_shop_worths f_x_images_0_alike v_x_images_1_there v_x_images_1_shop_n v_x_images_1_shop_low v_x_images_1_shop_high v_x_images_1_shop_boxes f_x_images_1_shop_sets f_x_images_1_shop_worths f_x_images_1_alike v_m_n v_m_low v_m_high v_m_boxes f_m_box f_m_worth f_m_alike f_m_text v_m_size v_m_above v_m_below f_m_refused f_m_images) : ∃ (rc : (Int32 × Int32 × Int32 × Int32)) (rr : (Int32 × (Nat → Int32))), M_X8_row v_x_badCalls v_x_fullCalls v_x_noCalls v_x_shop_n p0 p1 = some rc ∧ M_X9_row v_m_n f_m_refused p0 p1 = some rr ∧ rc.1 = rr.1 ∧ Inv v_x_shop_n v_x_shop_low v_x_shop_high v_x_shop_boxes f_x_shop_sets f_x_shop_worths f_x_alike f_x_text v_x_bytes v_x_fraction_above v_x_fraction_below rc.2.1 rc.2.2.2 rc.2.2.1 v_x_images_0_there v_x_images_0_shop_n v_x_images_0_shop_low v_x_images_0_shop_high v_x_images_0_shop_boxes f_x_images_0_shop_sets f_x_images_0_shop_worths f_x_images_0_alike v_x_images_1_there v_x_images_1_shop_n v_x_images_1_shop_low v_x_images_1_shop_high v_x_images_1_shop_boxes f_x_images_1_shop_sets f_x_images_1_shop_worths f_x_images_1_alike v_m_n v_m_low v_m_high v_m_boxes f_m_box f_m_worth f_m_alike f_m_text v_m_size v_m_above v_m_below rr.2 f_m_images := by
  obtain ⟨⟨N, lo, hi, k, g1, g2, g3, g4, g5, ⟨gn, gn'⟩, gr⟩, hrest⟩ := id hI
  subst gn; subst gn'
  have e2 : M_X9_in p1.toInt64 0 3 = some (if (0 : Int32) ≤ p1 ∧ p1 ≤ 3 then 1 else 0) := in32n p1 0 3 0 3 rfl rfl
  by_cases c : (0 : Int32) ≤ p0 ∧ p0 ≤ nI (2 ^ N - 1)
  · by_cases c2 : (0 : Int32) ≤ p1 ∧ p1 ≤ 3
    · obtain ⟨z, hz, rfl⟩ := box_of g2 c
      obtain ⟨w, hw1, hw2, rfl⟩ := nI_btw (lo := 0) (hi := 3) (by decide) c2 (by decide)
      have hall := row_all g2 hz
      unfold rowOK at hall
      split at hall
      · rename_i a b ha hb
        simp only [Bool.and_eq_true, Bool.or_eq_true, beq_iff_eq] at hall
        obtain ⟨⟨⟨rfl, q0⟩, q2⟩, q3⟩ := hall
        split at q2
        · rename_i c1 d1 hc1 hd1
          simp only [Bool.and_eq_true, beq_iff_eq] at q2
          obtain ⟨rfl, q2⟩ := q2
          split at q2
          · rename_i u v hu hv
            simp only [beq_iff_eq] at q2
            split at q3
            · rename_i c3 d3 hc3 hd3
              simp only [beq_iff_eq] at q3
              subst q3
              have s1 : ∀ r, (M_X8_row v_x_badCalls v_x_fullCalls v_x_noCalls (nI N) (nI z) (nI w) = some (r, v_x_badCalls, v_x_fullCalls, v_x_noCalls) ∧ M_X9_row (nI N) f_m_refused (nI z) (nI w) = some (r, f_m_refused)) → ∃ (rc : (Int32 × Int32 × Int32 × Int32)) (rr : (Int32 × (Nat → Int32))), M_X8_row v_x_badCalls v_x_fullCalls v_x_noCalls (nI N) (nI z) (nI w) = some rc ∧ M_X9_row (nI N) f_m_refused (nI z) (nI w) = some rr ∧ rc.1 = rr.1 ∧ rc.2.1 = v_x_badCalls ∧ rc.2.2.1 = v_x_fullCalls ∧ rc.2.2.2 = v_x_noCalls ∧ rr.2 = f_m_refused := fun r h => ⟨_, _, h.1, h.2, rfl, rfl, rfl, rfl, rfl⟩
              have fin : ∃ (rc : (Int32 × Int32 × Int32 × Int32)) (rr : (Int32 × (Nat → Int32))), M_X8_row v_x_badCalls v_x_fullCalls v_x_noCalls (nI N) (nI z) (nI w) = some rc ∧ M_X9_row (nI N) f_m_refused (nI z) (nI w) = some rr ∧ rc.1 = rr.1 ∧ rc.2.1 = v_x_badCalls ∧ rc.2.2.1 = v_x_fullCalls ∧ rc.2.2.2 = v_x_noCalls ∧ rr.2 = f_m_refused := by
                have t1 : M_X8_row v_x_badCalls v_x_fullCalls v_x_noCalls (nI N) (nI z) (nI w) = (if (nI w) = 0 then (if (((((1 : Int32) <<< ((nI N) &&& 31)) - (1 : Int32)) &&& (a ^^^ (-1 : Int32))) &&& ((nI z) ^^^ (-1 : Int32))) = 0 then (some ((-1 : Int32), v_x_badCalls, v_x_fullCalls, v_x_noCalls)) else (Option.bind (M_J6_lowestOneBit_0f7a4 (((((1 : Int32) <<< ((nI N) &&& 31)) - (1 : Int32)) &&& (a ^^^ (-1 : Int32))) &&& ((nI z) ^^^ (-1 : Int32)))) (fun t108 => some (((nI z) ||| t108), v_x_badCalls, v_x_fullCalls, v_x_noCalls)))) else (if (nI w) = 1 then (some (((nI z) &&& a), v_x_badCalls, v_x_fullCalls, v_x_noCalls)) else (if (nI w) = 2 then (dz (2 : Int32) (Option.bind (M_J6_bitCount_0f7a4 ((nI z) &&& a)) (fun t131 => Option.bind (M_X8_lowestBits ((((1 : Int32) <<< ((nI N) &&& 31)) - (1 : Int32)) &&& (a ^^^ (-1 : Int32))) (((nI N) / (2 : Int32)) - t131)) (fun t135 => some ((((nI z) &&& a) ||| t135), v_x_badCalls, v_x_fullCalls, v_x_noCalls))))) else (Option.bind (M_J6_bitCount_0f7a4 ((((1 : Int32) <<< ((nI N) &&& 31)) - (1 : Int32)) &&& (a ^^^ (-1 : Int32)))) (fun t142 => some ((t142 + (1 : Int32)), v_x_badCalls, v_x_fullCalls, v_x_noCalls)))))) := by
                  rw [M_X8_row, isBoxC (by omega), if_pos c]
                  show Option.bind (M_X8_between (nI w) 0 3) _ = _
                  rw [bw, if_pos c2]
                  show Option.bind (M_X8_matchedSorts (nI z) (nI N)) _ = _
                  rw [ha]
                  rfl
                have t2 : M_X9_row (nI N) f_m_refused (nI z) (nI w) = (if (nI w) = 0 then (if (((((1 : Int32) <<< ((nI N) &&& 31)) - (1 : Int32)) &&& (a ^^^ (-1 : Int32))) &&& ((nI z) ^^^ (-1 : Int32))) = 0 then (some ((-1 : Int32), f_m_refused)) else (Option.bind (M_X9_withFirst (nI z) (((((1 : Int32) <<< ((nI N) &&& 31)) - (1 : Int32)) &&& (a ^^^ (-1 : Int32))) &&& ((nI z) ^^^ (-1 : Int32))) (1 : Int32)) (fun t105 => some (t105, f_m_refused)))) else (if (nI w) = 1 then (some (((nI z) &&& a), f_m_refused)) else (if (nI w) = 2 then (dz (2 : Int32) (Option.bind (M_X9_many ((nI z) &&& a)) (fun t124 => Option.bind (M_X9_withFirst ((nI z) &&& a) ((((1 : Int32) <<< ((nI N) &&& 31)) - (1 : Int32)) &&& (a ^^^ (-1 : Int32))) (((nI N) / (2 : Int32)) - t124)) (fun t128 => some (t128, f_m_refused))))) else (Option.bind (M_X9_many ((((1 : Int32) <<< ((nI N) &&& 31)) - (1 : Int32)) &&& (a ^^^ (-1 : Int32)))) (fun t134 => some ((t134 + (1 : Int32)), f_m_refused)))))) := by
                  rw [M_X9_row, isBoxR (by omega), if_pos c]
                  show Option.bind (M_X9_in (nI w).toInt64 0 3) _ = _
                  rw [e2, if_pos c2]
                  show Option.bind (M_X9_matched (nI N) (nI z)) _ = _
                  rw [hb]
                  rfl
                rcases (show w = 0 ∨ w = 1 ∨ w = 2 ∨ w = 3 by omega) with rfl | rfl | rfl | rfl
                · rcases q0 with q0 | q0
                  · exact s1 (-1) ⟨by rw [t1]; exact (if_pos q0), by rw [t2]; exact (if_pos q0)⟩
                  · by_cases hy : ((((1 : Int32) <<< (nI N &&& 31)) - (1 : Int32)) &&& (a ^^^ (-1 : Int32))) &&& (nI z ^^^ (-1 : Int32)) = 0
                    · exact s1 (-1) ⟨by rw [t1]; exact (if_pos hy), by rw [t2]; exact (if_pos hy)⟩
                    · exact s1 _ ⟨by rw [t1]; exact (if_neg hy), by rw [t2]; refine (if_neg hy).trans ?_; rw [q0]; rfl⟩
                · exact s1 _ ⟨t1, t2⟩
                · refine s1 v ⟨?_, ?_⟩
                  · rw [t1, if_neg (show ¬ nI 2 = (0 : Int32) by decide), if_neg (show ¬ nI 2 = (1 : Int32) by decide), if_pos (show nI 2 = (2 : Int32) by decide), dz, if_neg (show ¬ (2 : Int32) = 0 by decide)]
                    simp only [Option.bind, hc1, hu, q2]
                  · rw [t2, if_neg (show ¬ nI 2 = (0 : Int32) by decide), if_neg (show ¬ nI 2 = (1 : Int32) by decide), if_pos (show nI 2 = (2 : Int32) by decide), dz, if_neg (show ¬ (2 : Int32) = 0 by decide)]
                    simp only [Option.bind, hd1, hv]
                · refine s1 (c3 + 1) ⟨?_, ?_⟩
                  · rw [t1, if_neg (show ¬ nI 3 = (0 : Int32) by decide), if_neg (show ¬ nI 3 = (1 : Int32) by decide), if_neg (show ¬ nI 3 = (2 : Int32) by decide)]
                    simp only [Option.bind, hc3]
                  · rw [t2, if_neg (show ¬ nI 3 = (0 : Int32) by decide), if_neg (show ¬ nI 3 = (1 : Int32) by decide), if_neg (show ¬ nI 3 = (2 : Int32) by decide)]
                    simp only [Option.bind, hd3]
              obtain ⟨rc, rr, y1, y2, y3, y4, y5, y6, y7⟩ := fin
              exact ⟨rc, rr, y1, y2, y3, by rw [y4, y5, y6, y7]; exact hI⟩
            · exact absurd q3 (by decide)
          · exact absurd q2 (by decide)
        · exact absurd q2 (by decide)
      · exact absurd hall (by decide)
    · refine ⟨(-10, v_x_badCalls + 1, v_x_fullCalls, v_x_noCalls), (-2 - 8, upd f_m_refused 0 (f_m_refused 0 + 1)), ?_, ?_, rfl, inv_bad hI⟩
      · rw [M_X8_row, isBoxC (by omega), if_pos c]
        show Option.bind (M_X8_between p1 0 3) _ = _
        rw [bw, if_neg c2]; rfl
      · rw [M_X9_row, isBoxR (by omega), if_pos c]
        show Option.bind (M_X9_in p1.toInt64 0 3) _ = _
        rw [e2, if_neg c2]; rfl
  · refine ⟨(-10, v_x_badCalls + 1, v_x_fullCalls, v_x_noCalls), (-2 - 8, upd f_m_refused 0 (f_m_refused 0 + 1)), ?_, ?_, rfl, inv_bad hI⟩
    · rw [M_X8_row, isBoxC (by omega), if_neg c]; rfl
    · rw [M_X9_row, isBoxR (by omega), if_neg c]; rfl
