set_option maxHeartbeats 1000000 in
theorem pu_judge (v_x_bytes : Int32) (v_x_badCalls : Int32) (v_x_noCalls : Int32) (v_x_fullCalls : Int32) (v_x_shop_n : Int32) (v_x_shop_low : Int32) (v_x_shop_high : Int32) (v_x_shop_boxes : Int32) (f_x_shop_sets : (Nat → Int32)) (f_x_shop_worths : (Nat → Int32)) (f_x_alike : (Nat → Int32)) (v_x_images_0_there : Int32) (v_x_images_0_shop_n : Int32) (v_x_images_0_shop_low : Int32) (v_x_images_0_shop_high : Int32) (v_x_images_0_shop_boxes : Int32) (f_x_images_0_shop_sets : (Nat → Int32)) (f_x_images_0_shop_worths : (Nat → Int32)) (f_x_images_0_alike : (Nat → Int32)) (v_x_images_1_there : Int32) (v_x_images_1_shop_n : Int32) (v_x_images_1_shop_low : Int32) (v_x_images_1_shop_high : Int32) (v_x_images_1_shop_boxes : Int32) (f_x_images_1_shop_sets : (Nat → Int32)) (f_x_images_1_shop_worths : (Nat → Int32)) (f_x_images_1_alike : (Nat → Int32)) (f_x_text : (Nat → Int32)) (v_x_fraction_above : Int64) (v_x_fraction_below : Int64) (v_x_table_law : Int32) (v_x_table_boxes : Int32) (v_x_table_fit : Int32) (v_x_table_low : Int32) (v_x_table_high : Int32) (f_x_table_sets : (Nat → Int32)) (f_x_table_clash : (Nat → Int32)) (f_x_table_near : (Nat → Int32)) (v_m_n : Int32) (v_m_low : Int32) (v_m_high : Int32) (v_m_boxes : Int32) (v_m_size : Int32) (v_m_above : Int64) (v_m_below : Int64) (v_m_breaking : Int32) (f_m_box : (Nat → Int32)) (f_m_worth : (Nat → Int32)) (f_m_alike : (Nat → Int32)) (f_m_text : (Nat → Int32)) (f_m_images : (Nat → Int32)) (f_m_refused : (Nat → Int32)) (p0 : Int32) (p1 : Int32) (hI : Inv v_x_shop_n v_x_shop_low v_x_shop_high v_x_shop_boxes f_x_shop_sets f_x_shop_worths f_x_alike f_x_text v_x_bytes v_x_fraction_above v_x_fraction_below v_x_badCalls v_x_noCalls v_x_fullCalls v_x_images_0_there v_x_images_0_shop_n v_x_images_0_shop_low v_x_images_0_shop_high v_x_images_0_shop_boxes f_x_images_0_shop_sets f_x_images_0_shop_worths f_x_images_0_alike v_x_images_1_there v_x_images_1_shop_n v_x_images_1_shop_low v_x_images_1_shop_high v_x_images_1_shop_boxes f_x_images_1_shop_sets f_x_images_1_shop_worths f_x_images_1_alike v_m_n v_m_low v_m_high v_m_boxes f_m_box f_m_worth f_m_alike f_m_text v_m_size v_m_above v_m_below f_m_refused f_m_images) : ∃ (rc : (Int32 × Int32 × Int32 × Int32 × Int32 × Int32 × Int32 × Int32 × Int32 × (Nat → Int32) × (Nat → Int32) × (Nat → Int32))) (rr : (Int32 × Int32 × (Nat → Int32))), M_X8_judge v_x_badCalls v_x_fullCalls v_x_noCalls v_x_shop_boxes v_x_shop_high v_x_shop_low f_x_shop_sets v_x_table_boxes v_x_table_fit v_x_table_high v_x_table_law v_x_table_low f_x_table_clash f_x_table_near f_x_table_sets p0 p1 = some rc ∧ M_X9_judge v_m_boxes v_m_breaking v_m_high v_m_low f_m_box f_m_refused p0 p1 = some rr ∧ rc.1 = rr.1 ∧ Inv v_x_shop_n v_x_shop_low v_x_shop_high v_x_shop_boxes f_x_shop_sets f_x_shop_worths f_x_alike f_x_text v_x_bytes v_x_fraction_above v_x_fraction_below rc.2.1 rc.2.2.2.1 rc.2.2.1 v_x_images_0_there v_x_images_0_shop_n v_x_images_0_shop_low v_x_images_0_shop_high v_x_images_0_shop_boxes f_x_images_0_shop_sets f_x_images_0_shop_worths f_x_images_0_alike v_x_images_1_there v_x_images_1_shop_n v_x_images_1_shop_low v_x_images_1_shop_high v_x_images_1_shop_boxes f_x_images_1_shop_sets f_x_images_1_shop_worths f_x_images_1_alike v_m_n v_m_low v_m_high v_m_boxes f_m_box f_m_worth f_m_alike f_m_text v_m_size v_m_above v_m_below rr.2.2 f_m_images := by
  obtain ⟨⟨N, lo, hi, k, g1, g2, g3, g4, g5, ⟨gn, gn'⟩, ⟨gl, gl'⟩, ⟨gh, gh'⟩, ⟨gb, gb'⟩, S, V, gS, gD⟩, hal, htx, hfr, hcn, hi0, hi1⟩ := id hI
  subst gb; subst gb'; subst gn; subst gn'; subst gl; subst gl'; subst gh; subst gh'
  have h28 : 2 ^ N ≤ 2 ^ 8 := Nat.pow_le_pow_right (by decide) g2
  have e2 : M_X9_in p1.toInt64 0 1 = some (if (0 : Int32) ≤ p1 ∧ p1 ≤ 1 then 1 else 0) := in32n p1 0 1 0 1 rfl rfl
  by_cases c : (0 : Int32) ≤ p0 ∧ p0 ≤ 4
  · by_cases c2 : (0 : Int32) ≤ p1 ∧ p1 ≤ 1
    · obtain ⟨L, _, hL, rfl⟩ := nI_btw (lo := 0) (hi := 4) (by decide) c (by decide)
      obtain ⟨cl, nr, st, elay, hc, hn, hs⟩ := q_layC (lo := lo) hL (by omega) g4 g5 (A := S) (f := f_x_shop_sets) (fun j hj => ⟨by have := (gS j hj).1; omega, (gS j hj).2.2.1.1⟩) v_x_table_boxes v_x_table_fit v_x_table_high v_x_table_law v_x_table_low f_x_table_clash f_x_table_near f_x_table_sets
      have elo : M_X8_layOverList (nI k) (nI hi) (nI lo) f_x_shop_sets v_x_table_boxes v_x_table_fit v_x_table_high v_x_table_law v_x_table_low f_x_table_clash f_x_table_near f_x_table_sets (nI L) = some (nI k, q_mk (q_F L lo hi S) k, nI hi, nI L, nI lo, cl, nr, st) := by
        rw [M_X8_layOverList, elay]; rfl
      have hl := q_break (lo := lo) hL (by omega) g4 g5 (A := S) (box := f_m_box) (fun j hj => ⟨by have := (gS j hj).1; omega, (gS j hj).2.2.1.2⟩) gD hc hn v_m_breaking
      have s1 : ∀ t, M_X3_firstBreak (nI k) (q_mk (q_F L lo hi S) k) cl nr = some t → M_X8_judge v_x_badCalls v_x_fullCalls v_x_noCalls (nI k) (nI hi) (nI lo) f_x_shop_sets v_x_table_boxes v_x_table_fit v_x_table_high v_x_table_law v_x_table_low f_x_table_clash f_x_table_near f_x_table_sets (nI L) p1 = if t = (-1 : Int32) then some (-1, v_x_badCalls, v_x_fullCalls, v_x_noCalls, nI k, q_mk (q_F L lo hi S) k, nI hi, nI L, nI lo, cl, nr, st) else if p1 = 0 then some (t - t / (1000000 : Int32) * (1000000 : Int32), v_x_badCalls, v_x_fullCalls, v_x_noCalls, nI k, q_mk (q_F L lo hi S) k, nI hi, nI L, nI lo, cl, nr, st) else some (t / (1000000 : Int32), v_x_badCalls, v_x_fullCalls, v_x_noCalls, nI k, q_mk (q_F L lo hi S) k, nI hi, nI L, nI lo, cl, nr, st) := by
        intro t ht
        rw [M_X8_judge, q_lawC, if_pos c, ob, if_neg (by decide), bw, if_pos c2, ob, if_neg (by decide), elo, ob, ht, ob]
        rfl
      have s2 : ∀ t, M_X9_breaks (nI k) v_m_breaking (nI hi) (nI lo) f_m_box (nI L) = some t → M_X9_judge (nI k) v_m_breaking (nI hi) (nI lo) f_m_box f_m_refused (nI L) p1 = if p1 = 0 then some (t.1, t.2, f_m_refused) else if t.1 = (-1 : Int32) then some (t.1, t.2, f_m_refused) else some (t.2, t.2, f_m_refused) := by
        intro t ht
        rw [M_X9_judge, q_lawR, if_pos c, ob, if_neg (by decide), e2, if_pos c2, ob, if_neg (by decide), ht, ob]
      rcases hl with ⟨b1, b2⟩ | ⟨b, r, hb1, hb2, hr, b1, b2⟩
      · refine ⟨_, (-1, 0, f_m_refused), (s1 _ b1).trans (if_pos rfl), ?_, rfl, hI⟩
        rw [s2 _ b2]
        split <;> rfl
      · have hp := q_nm1 (a := 1000000 * b + r) (by omega)
        have hp2 := q_nm1 (a := r) (by omega)
        have m1 : nI (1000000 * b + r) - nI (1000000 * b + r) / (1000000 : Int32) * (1000000 : Int32) = nI r := by
          have := pk_rem (a := 1000000 * b + r) (d := 1000000) (by omega) (by decide) (by decide)
          rw [show (1000000 * b + r) % 1000000 = r by omega] at this
          exact this
        have m2 : nI (1000000 * b + r) / (1000000 : Int32) = nI b := by
          have := pk_div (a := 1000000 * b + r) (d := 1000000) (by omega) (by decide) (by decide)
          rw [show (1000000 * b + r) / 1000000 = b by omega] at this
          exact this
        by_cases h0 : p1 = 0
        · refine ⟨_, _, (s1 _ b1).trans ((if_neg hp).trans (if_pos h0)), (s2 _ b2).trans (if_pos h0), m1, hI⟩
        · refine ⟨_, _, (s1 _ b1).trans ((if_neg hp).trans (if_neg h0)), (s2 _ b2).trans ((if_neg h0).trans (if_neg hp2)), m2, hI⟩
    · refine ⟨(-2, v_x_badCalls + 1, v_x_fullCalls, v_x_noCalls, v_x_table_boxes, v_x_table_fit, v_x_table_high, v_x_table_law, v_x_table_low, f_x_table_clash, f_x_table_near, f_x_table_sets), (-2, v_m_breaking, upd f_m_refused 0 (f_m_refused 0 + 1)), ?_, ?_, rfl, inv_bad hI⟩
      · rw [M_X8_judge, q_lawC, if_pos c, ob, if_neg (by decide), bw, if_neg c2, ob, if_pos rfl]; rfl
      · rw [M_X9_judge, q_lawR, if_pos c, ob, if_neg (by decide), e2, if_neg c2, ob, if_pos rfl]; rfl
  · refine ⟨(-2, v_x_badCalls + 1, v_x_fullCalls, v_x_noCalls, v_x_table_boxes, v_x_table_fit, v_x_table_high, v_x_table_law, v_x_table_low, f_x_table_clash, f_x_table_near, f_x_table_sets), (-2, v_m_breaking, upd f_m_refused 0 (f_m_refused 0 + 1)), ?_, ?_, rfl, inv_bad hI⟩
    · rw [M_X8_judge, q_lawC, if_neg c, ob, if_pos rfl]; rfl
    · rw [M_X9_judge, q_lawR, if_neg c, ob, if_pos rfl]; rfl
set_option maxHeartbeats 1000000 in
theorem pu_more (v_x_bytes : Int32) (v_x_badCalls : Int32) (v_x_noCalls : Int32) (v_x_fullCalls : Int32) (v_x_shop_n : Int32) (v_x_shop_low : Int32) (v_x_shop_high : Int32) (v_x_shop_boxes : Int32) (f_x_shop_sets : (Nat → Int32)) (f_x_shop_worths : (Nat → Int32)) (f_x_alike : (Nat → Int32)) (v_x_images_0_there : Int32) (v_x_images_0_shop_n : Int32) (v_x_images_0_shop_low : Int32) (v_x_images_0_shop_high : Int32) (v_x_images_0_shop_boxes : Int32) (f_x_images_0_shop_sets : (Nat → Int32)) (f_x_images_0_shop_worths : (Nat → Int32)) (f_x_images_0_alike : (Nat → Int32)) (v_x_images_1_there : Int32) (v_x_images_1_shop_n : Int32) (v_x_images_1_shop_low : Int32) (v_x_images_1_shop_high : Int32) (v_x_images_1_shop_boxes : Int32) (f_x_images_1_shop_sets : (Nat → Int32)) (f_x_images_1_shop_worths : (Nat → Int32)) (f_x_images_1_alike : (Nat → Int32)) (f_x_text : (Nat → Int32)) (v_x_fraction_above : Int64) (v_x_fraction_below : Int64) (v_x_table_law : Int32) (v_x_table_boxes : Int32) (v_x_table_fit : Int32) (v_x_table_low : Int32) (v_x_table_high : Int32) (f_x_table_sets : (Nat → Int32)) (f_x_table_clash : (Nat → Int32)) (f_x_table_near : (Nat → Int32)) (v_m_n : Int32) (v_m_low : Int32) (v_m_high : Int32) (v_m_boxes : Int32) (v_m_size : Int32) (v_m_above : Int64) (v_m_below : Int64) (v_m_breaking : Int32) (f_m_box : (Nat → Int32)) (f_m_worth : (Nat → Int32)) (f_m_alike : (Nat → Int32)) (f_m_text : (Nat → Int32)) (f_m_images : (Nat → Int32)) (f_m_refused : (Nat → Int32)) (p0 : Int32) (hI : Inv v_x_shop_n v_x_shop_low v_x_shop_high v_x_shop_boxes f_x_shop_sets f_x_shop_worths f_x_alike f_x_text v_x_bytes v_x_fraction_above v_x_fraction_below v_x_badCalls v_x_noCalls v_x_fullCalls v_x_images_0_there v_x_images_0_shop_n v_x_images_0_shop_low v_x_images_0_shop_high v_x_images_0_shop_boxes f_x_images_0_shop_sets f_x_images_0_shop_worths f_x_images_0_alike v_x_images_1_there v_x_images_1_shop_n v_x_images_1_shop_low v_x_images_1_shop_high v_x_images_1_shop_boxes f_x_images_1_shop_sets f_x_images_1_shop_worths f_x_images_1_alike v_m_n v_m_low v_m_high v_m_boxes f_m_box f_m_worth f_m_alike f_m_text v_m_size v_m_above v_m_below f_m_refused f_m_images) : ∃ (rc : (Int32 × Int32 × Int32 × Int32 × Int32 × Int32 × Int32 × Int32 × Int32 × (Nat → Int32) × (Nat → Int32) × (Nat → Int32))) (rr : (Int32 × Int32 × (Nat → Int32))), M_X8_more v_x_badCalls v_x_fullCalls v_x_noCalls v_x_shop_boxes v_x_shop_high v_x_shop_low v_x_shop_n f_x_shop_sets v_x_table_boxes v_x_table_fit v_x_table_high v_x_table_law v_x_table_low f_x_table_clash f_x_table_near f_x_table_sets p0 = some rc ∧ M_X9_more v_m_boxes v_m_breaking v_m_high v_m_low v_m_n f_m_box f_m_refused p0 = some rr ∧ rc.1 = rr.1 ∧ Inv v_x_shop_n v_x_shop_low v_x_shop_high v_x_shop_boxes f_x_shop_sets f_x_shop_worths f_x_alike f_x_text v_x_bytes v_x_fraction_above v_x_fraction_below rc.2.1 rc.2.2.2.1 rc.2.2.1 v_x_images_0_there v_x_images_0_shop_n v_x_images_0_shop_low v_x_images_0_shop_high v_x_images_0_shop_boxes f_x_images_0_shop_sets f_x_images_0_shop_worths f_x_images_0_alike v_x_images_1_there v_x_images_1_shop_n v_x_images_1_shop_low v_x_images_1_shop_high v_x_images_1_shop_boxes f_x_images_1_shop_sets f_x_images_1_shop_worths f_x_images_1_alike v_m_n v_m_low v_m_high v_m_boxes f_m_box f_m_worth f_m_alike f_m_text v_m_size v_m_above v_m_below rr.2.2 f_m_images := by
  obtain ⟨⟨N, lo, hi, k, g1, g2, g3, g4, g5, ⟨gn, gn'⟩, ⟨gl, gl'⟩, ⟨gh, gh'⟩, ⟨gb, gb'⟩, S, V, gS, gD⟩, hal, htx, hfr, hcn, hi0, hi1⟩ := id hI
  subst gb; subst gb'; subst gn; subst gn'; subst gl; subst gl'; subst gh; subst gh'
  have h28 : 2 ^ N ≤ 2 ^ 8 := Nat.pow_le_pow_right (by decide) g2
  by_cases c : (0 : Int32) ≤ p0 ∧ p0 ≤ 4
  · obtain ⟨L, _, hL, rfl⟩ := nI_btw (lo := 0) (hi := 4) (by decide) c (by decide)
    have hS : ∀ j, j < k → S j < 256 := fun j hj => by have := (gS j hj).1; omega
    obtain ⟨cl, nr, st, elay, hc, hn, hs⟩ := q_layC (lo := lo) hL (by omega) g4 g5 (A := S) (f := f_x_shop_sets) (fun j hj => ⟨hS j hj, (gS j hj).2.2.1.1⟩) v_x_table_boxes v_x_table_fit v_x_table_high v_x_table_law v_x_table_low f_x_table_clash f_x_table_near f_x_table_sets
    have elo : M_X8_layOverList (nI k) (nI hi) (nI lo) f_x_shop_sets v_x_table_boxes v_x_table_fit v_x_table_high v_x_table_law v_x_table_low f_x_table_clash f_x_table_near f_x_table_sets (nI L) = some (nI k, q_mk (q_F L lo hi S) k, nI hi, nI L, nI lo, cl, nr, st) := by
      rw [M_X8_layOverList, elay]; rfl
    have hl := q_break (lo := lo) hL (by omega) g4 g5 (A := S) (box := f_m_box) (fun j hj => ⟨hS j hj, (gS j hj).2.2.1.2⟩) gD hc hn v_m_breaking
    have s1 : ∀ t, M_X3_firstBreak (nI k) (q_mk (q_F L lo hi S) k) cl nr = some t → M_X8_more v_x_badCalls v_x_fullCalls v_x_noCalls (nI k) (nI hi) (nI lo) (nI N) f_x_shop_sets v_x_table_boxes v_x_table_fit v_x_table_high v_x_table_law v_x_table_low f_x_table_clash f_x_table_near f_x_table_sets (nI L) = if t = (-1 : Int32) then lpN (fun z => L_X8_more_46 ((1 : Int32) <<< (nI N &&& 31)) v_x_badCalls v_x_fullCalls v_x_noCalls (nI k) (nI hi) (nI lo) (nI N) f_x_shop_sets (nI k) (q_mk (q_F L lo hi S) k) (nI hi) (nI L) (nI lo) cl nr st z) fuelK (0 : Int32) else some (-1, v_x_badCalls, v_x_fullCalls, v_x_noCalls, nI k, q_mk (q_F L lo hi S) k, nI hi, nI L, nI lo, cl, nr, st) := by
      intro t ht
      rw [M_X8_more, q_lawC, if_pos c, ob, if_neg (by decide), elo, ob, ht, ob]
    have s2 : ∀ t, M_X9_breaks (nI k) v_m_breaking (nI hi) (nI lo) f_m_box (nI L) = some t → M_X9_more (nI k) v_m_breaking (nI hi) (nI lo) (nI N) f_m_box f_m_refused (nI L) = if t.1 = (-1 : Int32) then lpN (fun z => L_X9_more_27 (nI L) (nI k) t.2 (nI hi) (nI lo) (nI N) f_m_box f_m_refused z) fuelK (0 : Int32) else some (-1, t.2, f_m_refused) := by
      intro t ht
      rw [M_X9_more, q_lawR, if_pos c, ob, if_neg (by decide), ht, ob]
    rcases hl with ⟨b1, b2⟩ | ⟨b, r, hb1, hb2, hr, b1, b2⟩
    · have q1 := (s1 _ b1).trans (if_pos rfl)
      have q2 := (s2 _ b2).trans (if_pos rfl)
      have hnew : ∀ z, z < 2 ^ N → (∃ j, j < k ∧ S j = z) ∨ ∀ j, j < k → S j ≠ z := fun z hz => by
        by_cases h : ∃ j, j < k ∧ S j = z
        · exact Or.inl h
        · exact Or.inr (fun j hj e => h ⟨j, hj, e⟩)
      have stC : ∀ z, z < 2 ^ N → L_X8_more_46 ((1 : Int32) <<< (nI N &&& 31)) v_x_badCalls v_x_fullCalls v_x_noCalls (nI k) (nI hi) (nI lo) (nI N) f_x_shop_sets (nI k) (q_mk (q_F L lo hi S) k) (nI hi) (nI L) (nI lo) cl nr st (nI z) = if (∀ j, j < k → S j ≠ z) ∧ (q_fit L lo hi z && !q_ex (fun i => !q_mcV L S z i) k) = true then some (Sum.inr (nI z, v_x_badCalls, v_x_fullCalls, v_x_noCalls, nI k, q_mk (q_F L lo hi S) k, nI hi, nI L, nI lo, cl, nr, st)) else some (Sum.inl (nI (z + 1))) := by
        intro z hz
        rw [L_X8_more_46, pw1 N (by omega), if_neg (nle hz (by omega)), nI_1]
        rcases hnew z hz with ⟨j, hj, ej⟩ | hno
        · rw [holds_yes g5 f_x_shop_sets (nI z) hj (by rw [(gS j hj).2.2.1.1, ej]), ob, if_neg (by decide), if_neg (fun h => h.1 j hj ej)]
        · rw [holds_no g5 f_x_shop_sets (nI z) (fun j hj => by rw [(gS j hj).2.2.1.1]; exact fun h => hno j hj ((nI_eq (by have := hS j hj; omega) (by omega)).mp h)), ob, if_pos rfl, q_admC hL (by omega) g4 g5 (by omega) (fun j hj => ⟨hS j hj, hs j hj⟩) hn, ob, Bool.and_assoc, q_adm_eq hno]
          cases hq : (q_fit L lo hi z && !q_ex (fun i => !q_mcV L S z i) k) with
          | false => rw [nb0, if_neg (fun h => by cases h.2)]
          | true => rw [if_pos rfl, if_neg (by decide), if_pos ⟨hno, rfl⟩]; rfl
      have stR : ∀ z, z < 2 ^ N → L_X9_more_27 (nI L) (nI k) 0 (nI hi) (nI lo) (nI N) f_m_box f_m_refused (nI z) = if (∀ j, j < k → S j ≠ z) ∧ (q_fit L lo hi z && !q_ex (fun i => !q_mcV L S z i) k) = true then some (Sum.inr (nI z, 0, f_m_refused)) else some (Sum.inl (nI (z + 1))) := by
        intro z hz
        rw [L_X9_more_27, pw1 N (by omega), if_neg (nle hz (by omega)), nI_1]
        rcases hnew z hz with ⟨j, hj, ej⟩ | hno
        · obtain ⟨i, hi2, y2⟩ := numberOf_yes g5 f_m_box (nI z) hj (by rw [(gS j hj).2.2.1.2, ej])
          rw [y2, ob, if_neg (q_nm1 (by omega)), if_neg (fun h => h.1 j hj ej)]
        · rw [numberOf_no g5 f_m_box (nI z) (fun j hj => by rw [(gS j hj).2.2.1.2]; exact fun h => hno j hj ((nI_eq (by have := hS j hj; omega) (by omega)).mp h)), ob, if_pos rfl, q_mayR hL (by omega) g4 g5 (by omega) (fun j hj => ⟨hS j hj, (gS j hj).2.2.1.2⟩), ob]
          cases hq : (q_fit L lo hi z && !q_ex (fun i => !q_mcV L S z i) k) with
          | false => rw [nb0, if_neg (fun h => by cases h.2)]
          | true => rw [if_pos rfl, if_neg (by decide), if_pos ⟨hno, rfl⟩]; rfl
      by_cases hz : ∃ z, z < 2 ^ N ∧ (∀ j, j < k → S j ≠ z) ∧ (q_fit L lo hi z && !q_ex (fun i => !q_mcV L S z i) k) = true
      · obtain ⟨z, ⟨z1, z2⟩, z3⟩ := pk_least _ hz
        refine ⟨(nI z, v_x_badCalls, v_x_fullCalls, v_x_noCalls, nI k, q_mk (q_F L lo hi S) k, nI hi, nI L, nI lo, cl, nr, st), (nI z, 0, f_m_refused), ?_, ?_, rfl, hI⟩
        · rw [q1]
          refine lp_runK (fun i => nI i) z _ (by omega) (fun a ha => ?_) ?_
          · exact (stC a (by omega)).trans (if_neg (fun h => z3 a ha ⟨by omega, h⟩))
          · exact (stC z z1).trans (if_pos z2)
        · rw [q2]
          refine lp_runK (fun i => nI i) z _ (by omega) (fun a ha => ?_) ?_
          · exact (stR a (by omega)).trans (if_neg (fun h => z3 a ha ⟨by omega, h⟩))
          · exact (stR z z1).trans (if_pos z2)
      · refine ⟨(-1, v_x_badCalls, v_x_fullCalls, v_x_noCalls, nI k, q_mk (q_F L lo hi S) k, nI hi, nI L, nI lo, cl, nr, st), (-1, 0, f_m_refused), ?_, ?_, rfl, hI⟩
        · rw [q1]
          refine lp_runK (fun i => nI i) (2 ^ N) _ (by omega) (fun a ha => ?_) ?_
          · exact (stC a ha).trans (if_neg (fun h => hz ⟨a, ha, h⟩))
          · show L_X8_more_46 ((1 : Int32) <<< (nI N &&& 31)) v_x_badCalls v_x_fullCalls v_x_noCalls (nI k) (nI hi) (nI lo) (nI N) f_x_shop_sets (nI k) (q_mk (q_F L lo hi S) k) (nI hi) (nI L) (nI lo) cl nr st (nI (2 ^ N)) = _
            rw [L_X8_more_46, pw1 N (by omega), if_pos (nI_le (Nat.le_refl _) (by omega))]
            rfl
        · rw [q2]
          refine lp_runK (fun i => nI i) (2 ^ N) _ (by omega) (fun a ha => ?_) ?_
          · exact (stR a ha).trans (if_neg (fun h => hz ⟨a, ha, h⟩))
          · show L_X9_more_27 (nI L) (nI k) 0 (nI hi) (nI lo) (nI N) f_m_box f_m_refused (nI (2 ^ N)) = _
            rw [L_X9_more_27, pw1 N (by omega), if_pos (nI_le (Nat.le_refl _) (by omega))]
            rfl
    · exact ⟨_, _, (s1 _ b1).trans (if_neg (q_nm1 (by omega))), (s2 _ b2).trans (if_neg (q_nm1 (by omega))), rfl, hI⟩
  · refine ⟨(-2, v_x_badCalls + 1, v_x_fullCalls, v_x_noCalls, v_x_table_boxes, v_x_table_fit, v_x_table_high, v_x_table_law, v_x_table_low, f_x_table_clash, f_x_table_near, f_x_table_sets), (-2, v_m_breaking, upd f_m_refused 0 (f_m_refused 0 + 1)), ?_, ?_, rfl, inv_bad hI⟩
    · rw [M_X8_more, q_lawC, if_neg c, ob, if_pos rfl]; rfl
    · rw [M_X9_more, q_lawR, if_neg c, ob, if_pos rfl]; rfl
