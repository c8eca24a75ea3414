set_option maxHeartbeats 1000000 in
theorem pu_kept (v_x_bytes : Int32) (v_x_badCalls : Int32) (v_x_noCalls : Int32) (v_x_fullCalls : Int32) (v_x_shop_n : Int32) (v_x_shop_low : Int32) (v_x_shop_high : Int32) (v_x_shop_boxes : Int32) (f_x_shop_sets : (Nat → Int32)) (f_x_shop_worths : (Nat → Int32)) (f_x_alike : (Nat → Int32)) (v_x_images_0_there : Int32) (v_x_images_0_shop_n : Int32) (v_x_images_0_shop_low : Int32) (v_x_images_0_shop_high : Int32) (v_x_images_0_shop_boxes : Int32) (f_x_images_0_shop_sets : (Nat → Int32)) (f_x_images_0_shop_worths : (Nat → Int32)) (f_x_images_0_alike : (Nat → Int32)) (v_x_images_1_there : Int32) (v_x_images_1_shop_n : Int32) (v_x_images_1_shop_low : Int32) (v_x_images_1_shop_high : Int32) (v_x_images_1_shop_boxes : Int32) (f_x_images_1_shop_sets : (Nat → Int32)) (f_x_images_1_shop_worths : (Nat → Int32)) (f_x_images_1_alike : (Nat → Int32)) (f_x_text : (Nat → Int32)) (v_x_fraction_above : Int64) (v_x_fraction_below : Int64) (v_x_table_law : Int32) (v_x_table_boxes : Int32) (v_x_table_fit : Int32) (v_x_table_low : Int32) (v_x_table_high : Int32) (f_x_table_sets : (Nat → Int32)) (f_x_table_clash : (Nat → Int32)) (f_x_table_near : (Nat → Int32)) (v_x_keeper_best : Int32) (v_x_keeper_bits : Int32) (f_x_keeper_weights : (Nat → Int32)) (v_m_n : Int32) (v_m_low : Int32) (v_m_high : Int32) (v_m_boxes : Int32) (v_m_size : Int32) (v_m_above : Int64) (v_m_below : Int64) (v_m_items : Int32) (v_m_fit : Int32) (v_m_lawful : Int32) (v_m_whole : Int32) (v_m_fewest : Int32) (v_m_most : Int32) (v_m_mostMany : Int32) (v_m_mostSet : Int32) (v_m_richWorth : Int32) (v_m_richSet : Int32) (f_m_box : (Nat → Int32)) (f_m_worth : (Nat → Int32)) (f_m_alike : (Nat → Int32)) (f_m_text : (Nat → Int32)) (f_m_images : (Nat → Int32)) (f_m_refused : (Nat → Int32)) (f_m_near : (Nat → Int32)) (f_m_bars : (Nat → Int32)) (f_m_steps : (Nat → Int32)) (f_m_may : (Nat → Int32)) (p0 : Int32) (p1 : Int32) (p2 : Int32) (hI : Inv v_x_shop_n v_x_shop_low v_x_shop_high v_x_shop_boxes f_x_shop_sets f_x_shop_worths f_x_alike f_x_text v_x_bytes v_x_fraction_above v_x_fraction_below v_x_badCalls v_x_noCalls v_x_fullCalls v_x_images_0_there v_x_images_0_shop_n v_x_images_0_shop_low v_x_images_0_shop_high v_x_images_0_shop_boxes f_x_images_0_shop_sets f_x_images_0_shop_worths f_x_images_0_alike v_x_images_1_there v_x_images_1_shop_n v_x_images_1_shop_low v_x_images_1_shop_high v_x_images_1_shop_boxes f_x_images_1_shop_sets f_x_images_1_shop_worths f_x_images_1_alike v_m_n v_m_low v_m_high v_m_boxes f_m_box f_m_worth f_m_alike f_m_text v_m_size v_m_above v_m_below f_m_refused f_m_images) : ∃ (rc : (Int32 × Int32 × Int32 × Int32 × Int32 × Int32 × (Nat → Int32) × Int32 × Int32 × Int32 × Int32 × Int32 × (Nat → Int32) × (Nat → Int32) × (Nat → Int32))) (rr : (Int32 × Int32 × Int32 × Int32 × Int32 × Int32 × Int32 × Int32 × Int32 × Int32 × Int32 × (Nat → Int32) × (Nat → Int32) × (Nat → Int32) × (Nat → Int32) × (Nat → Int32))), M_X8_kept v_x_badCalls v_x_fullCalls v_x_noCalls v_x_keeper_best v_x_keeper_bits f_x_keeper_weights v_x_shop_boxes v_x_shop_high v_x_shop_low f_x_shop_sets f_x_shop_worths v_x_table_boxes v_x_table_fit v_x_table_high v_x_table_law v_x_table_low f_x_table_clash f_x_table_near f_x_table_sets p0 p1 p2 = some rc ∧ M_X9_kept v_m_boxes v_m_fewest v_m_fit v_m_high v_m_items v_m_lawful v_m_low v_m_most v_m_mostMany v_m_mostSet v_m_n v_m_richSet v_m_richWorth v_m_whole f_m_bars f_m_box f_m_may f_m_near f_m_refused f_m_steps f_m_worth p0 p1 p2 = some rr ∧ rc.1 = rr.1 ∧ Inv v_x_shop_n v_x_shop_low v_x_shop_high v_x_shop_boxes f_x_shop_sets f_x_shop_worths f_x_alike f_x_text v_x_bytes v_x_fraction_above v_x_fraction_below rc.2.1 rc.2.2.2.1 rc.2.2.1 v_x_images_0_there v_x_images_0_shop_n v_x_images_0_shop_low v_x_images_0_shop_high v_x_images_0_shop_boxes f_x_images_0_shop_sets f_x_images_0_shop_worths f_x_images_0_alike v_x_images_1_there v_x_images_1_shop_n v_x_images_1_shop_low v_x_images_1_shop_high v_x_images_1_shop_boxes f_x_images_1_shop_sets f_x_images_1_shop_worths f_x_images_1_alike v_m_n v_m_low v_m_high v_m_boxes f_m_box f_m_worth f_m_alike f_m_text v_m_size v_m_above v_m_below rr.2.2.2.2.2.2.2.2.2.2.2.2.2.2.1 f_m_images := by
  obtain ⟨⟨N, lo, hi, k, g1, g2, g3, g4, g5, ⟨gn, gn'⟩, ⟨gl, gl'⟩, ⟨gh, gh'⟩, ⟨gb, gb'⟩, S, V, gS, gD⟩, hal, htx, hfr, hcn, hi0, hi1⟩ := id hI
  subst gb; subst gb'; subst gn; subst gn'; subst gl; subst gl'; subst gh; subst gh'
  have h28 : 2 ^ N ≤ 2 ^ 8 := Nat.pow_le_pow_right (by decide) g2
  have h216 : 2 ^ k ≤ 2 ^ 16 := Nat.pow_le_pow_right (by decide) g5
  have h21 : 1 ≤ 2 ^ k := Nat.one_le_two_pow
  have hS : ∀ j, j < k → S j < 256 := fun j hj => by have := (gS j hj).1; omega
  have hV : ∀ j, j < k → V j ≤ 99 := fun j hj => (gS j hj).2.1
  have e1 : M_X9_in p1.toInt64 0 (nI (2 ^ k - 1)).toInt64 = some (if (0 : Int32) ≤ p1 ∧ p1 ≤ nI (2 ^ k - 1) then 1 else 0) := in32n p1 0 (nI (2 ^ k - 1)) 0 _ rfl rfl
  have e2 : M_X9_in p2.toInt64 0 3 = some (if (0 : Int32) ≤ p2 ∧ p2 ≤ 3 then 1 else 0) := in32n p2 0 3 0 3 rfl rfl
  by_cases c : (0 : Int32) ≤ p0 ∧ p0 ≤ 4
  · by_cases c1 : (0 : Int32) ≤ p1 ∧ p1 ≤ nI (2 ^ k - 1)
    · by_cases c2 : (0 : Int32) ≤ p2 ∧ p2 ≤ 3
      · obtain ⟨L, _, hL, rfl⟩ := nI_btw (lo := 0) (hi := 4) (by decide) c (by decide)
        obtain ⟨z, _, hz, rfl⟩ := nI_btw (lo := 0) (hi := 2 ^ k - 1) (by omega) c1 (by decide)
        have eW : nI z = q_mk (fun i => z.testBit i) k := q_tbm (by omega) (by omega)
        obtain ⟨cl, nr, st, elay, hc, hn, hs⟩ := q_layC (lo := lo) hL (by omega) g4 g5 (A := S) (f := f_x_shop_sets) (fun j hj => ⟨hS j hj, (gS j hj).2.2.1.1⟩) v_x_table_boxes v_x_table_fit v_x_table_high v_x_table_law v_x_table_low f_x_table_clash f_x_table_near f_x_table_sets
        have elo : M_X8_layOverList (nI k) (nI hi) (nI lo) f_x_shop_sets v_x_table_boxes v_x_table_fit v_x_table_high v_x_table_law v_x_table_low f_x_table_clash f_x_table_near f_x_table_sets (nI L) = some (nI k, q_mk (q_F L lo hi S) k, nI hi, nI L, nI lo, cl, nr, st) := by
          rw [M_X8_layOverList, elay]; rfl
        obtain ⟨br, nx, elr, hb, hnx⟩ := q_layR (lo := lo) hL (by omega) g4 g5 (A := S) hS (box := f_m_box) (p1 := 0) (p2 := 1) (fun j hj => by rw [M_X9_item, if_pos rfl, ix_in (vp_in_nI (by omega) (by decide)), nI_clamp (by omega), (gS j hj).2.2.1.2]) (nI k) v_m_fit v_m_items (nI N) f_m_bars f_m_near
        have elr2 : M_X9_lay (nI k) v_m_fit (nI hi) v_m_items (nI lo) (nI N) f_m_bars f_m_box f_m_near (nI L) 0 1 = some (q_mk (q_F L lo hi S) k, nI k, br, nx) := by
          rw [M_X9_lay, if_pos rfl, elr]; rfl
        obtain ⟨may', steps', eg⟩ := q_goR (L := L) (p2 := 0) (bars := br) (near := nx) (worth := f_m_worth) (st := q_stp k (q_C L S) (q_R L S)) (W := fun i => z.testBit i) (leaf := q_mt k 0 V) g5 (fun j S' M' hj => q_stillR hL g5 hj gD hb hnx S' M') (fun a S' M' => q_mtR g5 0 (fun _ j hj => (gS j hj).2.2.2.2) a S' M') (q_F L lo hi S) v_m_fewest v_m_lawful v_m_most v_m_mostMany v_m_mostSet v_m_richSet v_m_richWorth v_m_whole f_m_may f_m_steps
        have hR := q_keptR g5 (F := q_F L lo hi S) (q_syA L S) hV (V1 := fun _ => 1) (fun _ _ => rfl) (fun i => z.testBit i) v_m_mostSet v_m_richSet
        rw [← eW] at eg
        generalize q_go (q_stp k (q_C L S) (q_R L S)) (fun i => z.testBit i) (q_mt k 0 V) k 0 (fun _ => false) (q_F L lo hi S) (16, 0, 0, -1, v_m_mostSet, v_m_richSet, -1, 0) = G at eg hR
        have eR : M_X9_kept (nI k) v_m_fewest v_m_fit (nI hi) v_m_items v_m_lawful (nI lo) v_m_most v_m_mostMany v_m_mostSet (nI N) v_m_richSet v_m_richWorth v_m_whole f_m_bars f_m_box f_m_may f_m_near f_m_refused f_m_steps f_m_worth (nI L) (nI z) p2 = some ((if G.2.1 = 0 then (-1 : Int32) else if p2 = 0 then G.2.2.2.1 else if p2 = 1 then G.2.2.2.2.1 else if p2 = 2 then G.2.2.2.2.2.2.1 else G.2.2.2.2.2.1), G.1, q_mk (q_F L lo hi S) k, nI k, G.2.1, G.2.2.1, G.2.2.2.1, G.2.2.2.2.1, G.2.2.2.2.2.1, G.2.2.2.2.2.2.1, G.2.2.2.2.2.2.2, br, may', nx, f_m_refused, steps') := by
          rw [M_X9_kept, q_lawR, if_pos c, ob, if_neg (by decide), pw1m (by omega), e1, if_pos c1, ob, if_neg (by decide), e2, if_pos c2, ob, if_neg (by decide), elr2, ob, eg, ob]
          by_cases hl : G.2.1 = 0
          · rw [if_pos hl, if_pos hl]
          · rw [if_neg hl, if_neg hl]
            by_cases h0 : p2 = 0
            · rw [if_pos h0, if_pos h0]
            · rw [if_neg h0, if_neg h0]
              by_cases h1 : p2 = 1
              · rw [if_pos h1, if_pos h1]
              · rw [if_neg h1, if_neg h1]
                by_cases h2 : p2 = 2
                · rw [if_pos h2, if_pos h2]
                · rw [if_neg h2, if_neg h2]
        by_cases hlt : p2 < 2
        · obtain ⟨t, et, t1, t2, t3, ht⟩ := q_keptC g5 (F := q_F L lo hi S) (q_syA L S) hc hn (V := fun _ => 1) (fun _ _ => by decide) (fun i => z.testBit i) p2 0 f_x_shop_worths (fun j hj => ⟨fun _ => rfl, fun h => absurd rfl h⟩) v_x_badCalls v_x_fullCalls v_x_noCalls v_x_keeper_best v_x_keeper_bits (nI hi) (nI lo) (nI hi) (nI L) (nI lo) f_x_shop_sets st f_x_keeper_weights
          rw [← eW] at et
          refine ⟨t, _, ?_, eR, ?_, by rw [t1, t2, t3]; exact hI⟩
          · rw [M_X8_kept, q_lawC, if_pos c, ob, if_neg (by decide), pw1m (by omega), bw, if_pos c1, ob, if_neg (by decide), bw, if_pos c2, ob, if_neg (by decide), elo, ob, if_pos hlt]
            exact et
          · show t.1 = if G.2.1 = 0 then (-1 : Int32) else if p2 = 0 then G.2.2.2.1 else if p2 = 1 then G.2.2.2.2.1 else if p2 = 2 then G.2.2.2.2.2.2.1 else G.2.2.2.2.2.1
            rcases ht with ⟨h1, h2⟩ | ⟨T, h1, h2⟩
            · rcases hR with ⟨h3, h4⟩ | ⟨h3, h4⟩
              · rw [h2, if_pos h4]
              · exact absurd h3 h1
            · rcases hR with ⟨h3, h4⟩ | ⟨h3, h4, h5, h6⟩
              · exact absurd (q_law_sub h1.2.1 h1.1) h3
              · rw [h2, if_neg h4, (h5 T h1).1, (h5 T h1).2]
                by_cases h0 : p2 = 0
                · rw [if_pos (Or.inl h0), if_pos h0]
                · have h22 : ¬ p2 = 2 := fun h => by rw [h] at hlt; exact absurd hlt (by decide)
                  have h11 : p2 = 1 := by
                    obtain ⟨w, _, hw, rfl⟩ := nI_btw (lo := 0) (hi := 3) (by decide) c2 (by decide)
                    have h7 := (nI_ltI (a := w) (b := 2) (by omega) (by decide)).mp hlt
                    rcases (show w = 0 ∨ w = 1 by omega) with rfl | rfl
                    · exact absurd rfl h0
                    · rfl
                  rw [if_neg (by rintro (h | h); exact h0 h; exact h22 h), if_neg h0, if_pos h11]
        · obtain ⟨t, et, t1, t2, t3, ht⟩ := q_keptC g5 (F := q_F L lo hi S) (q_syA L S) hc hn (V := V) hV (fun i => z.testBit i) p2 1 f_x_shop_worths (fun j hj => ⟨fun h => absurd h (by decide), fun _ => (gS j hj).2.2.2.1⟩) v_x_badCalls v_x_fullCalls v_x_noCalls v_x_keeper_best v_x_keeper_bits (nI hi) (nI lo) (nI hi) (nI L) (nI lo) f_x_shop_sets st f_x_keeper_weights
          rw [← eW] at et
          refine ⟨t, _, ?_, eR, ?_, by rw [t1, t2, t3]; exact hI⟩
          · rw [M_X8_kept, q_lawC, if_pos c, ob, if_neg (by decide), pw1m (by omega), bw, if_pos c1, ob, if_neg (by decide), bw, if_pos c2, ob, if_neg (by decide), elo, ob, if_neg hlt]
            exact et
          · show t.1 = if G.2.1 = 0 then (-1 : Int32) else if p2 = 0 then G.2.2.2.1 else if p2 = 1 then G.2.2.2.2.1 else if p2 = 2 then G.2.2.2.2.2.2.1 else G.2.2.2.2.2.1
            have h00 : ¬ p2 = 0 := fun h => hlt (by rw [h]; decide)
            have h11 : ¬ p2 = 1 := fun h => hlt (by rw [h]; decide)
            rcases ht with ⟨h1, h2⟩ | ⟨T, h1, h2⟩
            · rcases hR with ⟨h3, h4⟩ | ⟨h3, h4⟩
              · rw [h2, if_pos h4]
              · exact absurd h3 h1
            · rcases hR with ⟨h3, h4⟩ | ⟨h3, h4, h5, h6⟩
              · exact absurd (q_law_sub h1.2.1 h1.1) h3
              · rw [h2, if_neg h4, (h6 T h1).1, (h6 T h1).2, if_neg h00, if_neg h11]
                by_cases h2 : p2 = 2
                · rw [if_pos (Or.inr h2), if_pos h2]
                · rw [if_neg (by rintro (h | h); exact h00 h; exact h2 h), if_neg h2]
      · refine ⟨(-2, v_x_badCalls + 1, v_x_fullCalls, v_x_noCalls, v_x_keeper_best, v_x_keeper_bits, f_x_keeper_weights, v_x_table_boxes, v_x_table_fit, v_x_table_high, v_x_table_law, v_x_table_low, f_x_table_clash, f_x_table_near, f_x_table_sets), (-2, v_m_fewest, v_m_fit, v_m_items, v_m_lawful, v_m_most, v_m_mostMany, v_m_mostSet, v_m_richSet, v_m_richWorth, v_m_whole, f_m_bars, f_m_may, f_m_near, upd f_m_refused 0 (f_m_refused 0 + 1), f_m_steps), ?_, ?_, rfl, inv_bad hI⟩
        · rw [M_X8_kept, q_lawC, if_pos c, ob, if_neg (by decide), pw1m (by omega), bw, if_pos c1, ob, if_neg (by decide), bw, if_neg c2, ob, if_pos rfl]; rfl
        · rw [M_X9_kept, q_lawR, if_pos c, ob, if_neg (by decide), pw1m (by omega), e1, if_pos c1, ob, if_neg (by decide), e2, if_neg c2, ob, if_pos rfl]; rfl
    · refine ⟨(-2, v_x_badCalls + 1, v_x_fullCalls, v_x_noCalls, v_x_keeper_best, v_x_keeper_bits, f_x_keeper_weights, v_x_table_boxes, v_x_table_fit, v_x_table_high, v_x_table_law, v_x_table_low, f_x_table_clash, f_x_table_near, f_x_table_sets), (-2, v_m_fewest, v_m_fit, v_m_items, v_m_lawful, v_m_most, v_m_mostMany, v_m_mostSet, v_m_richSet, v_m_richWorth, v_m_whole, f_m_bars, f_m_may, f_m_near, upd f_m_refused 0 (f_m_refused 0 + 1), f_m_steps), ?_, ?_, rfl, inv_bad hI⟩
      · rw [M_X8_kept, q_lawC, if_pos c, ob, if_neg (by decide), pw1m (by omega), bw, if_neg c1, ob, if_pos rfl]; rfl
      · rw [M_X9_kept, q_lawR, if_pos c, ob, if_neg (by decide), pw1m (by omega), e1, if_neg c1, ob, if_pos rfl]; rfl
  · refine ⟨(-2, v_x_badCalls + 1, v_x_fullCalls, v_x_noCalls, v_x_keeper_best, v_x_keeper_bits, f_x_keeper_weights, v_x_table_boxes, v_x_table_fit, v_x_table_high, v_x_table_law, v_x_table_low, f_x_table_clash, f_x_table_near, f_x_table_sets), (-2, v_m_fewest, v_m_fit, v_m_items, v_m_lawful, v_m_most, v_m_mostMany, v_m_mostSet, v_m_richSet, v_m_richWorth, v_m_whole, f_m_bars, f_m_may, f_m_near, upd f_m_refused 0 (f_m_refused 0 + 1), f_m_steps), ?_, ?_, rfl, inv_bad hI⟩
    · rw [M_X8_kept, q_lawC, if_neg c, ob, if_pos rfl]; rfl
    · rw [M_X9_kept, q_lawR, if_neg c, ob, if_pos rfl]; rfl
