/-! kept: the program's call -/
theorem q_keptC {k : Nat} (hk : k ≤ 16) {F : Nat → Bool} {C R : Nat → Nat → Bool} (sy : q_sy C R) {c n : Nat → Int32} (hc : ∀ j, j < k → c j = q_mk (C j) k) (hn : ∀ j, j < k → n j = q_mk (R j) k) {V : Nat → Nat} (hV : ∀ j, j < k → V j ≤ 99) (W : Nat → Bool) (p2 byw : Int32) (worths : Nat → Int32) (hval : ∀ j, j < k → (byw = 0 → V j = 1) ∧ (¬ byw = 0 → worths j = nI (V j))) (bad full no vb vi sh sl th tl tw : Int32) (sets ts f0 : Nat → Int32) :
    ∃ t, lpN (fun z : Int32 × (Nat → Int32) => L_X8_kept_64 (q_mk W k) p2 byw bad full no vb vi (nI k) sh sl sets worths (nI k) (q_mk F k) th tl tw c n ts z.1 z.2) fuelK ((0 : Int32), f0) = some t ∧ t.2.1 = bad ∧ t.2.2.1 = full ∧ t.2.2.2.1 = no ∧ ((¬ q_law k F C R W ∧ t.1 = -1) ∨ ∃ T, q_bst k F C R V W T ∧ t.1 = if p2 = 0 ∨ p2 = 2 then nI (q_sum V T k) else q_mk T k) := by
  refine lp_invK (body := fun z : Int32 × (Nat → Int32) => L_X8_kept_64 (q_mk W k) p2 byw bad full no vb vi (nI k) sh sl sets worths (nI k) (q_mk F k) th tl tw c n ts z.1 z.2)
    (fun i z => ∃ f, z = (nI i, f) ∧ ∀ j, j < i → f j = iI (q_wv V j)) (fun t => t.2.1 = bad ∧ t.2.2.1 = full ∧ t.2.2.2.1 = no ∧ ((¬ q_law k F C R W ∧ t.1 = -1) ∨ ∃ T, q_bst k F C R V W T ∧ t.1 = if p2 = 0 ∨ p2 = 2 then nI (q_sum V T k) else q_mk T k)) k (by omega) ?_ ?_ ((0 : Int32), f0) ⟨f0, rfl, fun j hj => absurd hj (by omega)⟩
  · rintro i z hi ⟨f, rfl, hf⟩
    refine Or.inl ⟨(nI (i + 1), upd f i (iI (q_wv V i))), ?_, _, rfl, fun j hj => ?_⟩
    · show L_X8_kept_64 (q_mk W k) p2 byw bad full no vb vi (nI k) sh sl sets worths (nI k) (q_mk F k) th tl tw c n ts (nI i) f = _
      rw [L_X8_kept_64, if_neg (nle hi (by omega))]
      by_cases hb : byw = 0
      · rw [if_pos hb, B_X8_kept_101, show (1 : Int32) = nI (V i) from by rw [(hval i hi).1 hb]; rfl, q_valueC f (by omega) (hV i hi), ob, (hval i hi).1 hb, show nI 1 = (1 : Int32) from rfl, nI_1]
      · rw [if_neg hb, ix_in (vp_in_nI (by omega) (by decide)), nI_clamp (by omega), (hval i hi).2 hb, B_X8_kept_101, q_valueC f (by omega) (hV i hi), ob, nI_1]
    · by_cases c1 : j = i
      · subst c1; exact pk_us
      · rw [pk_un c1]; exact hf j (by omega)
  · rintro z ⟨f, rfl, hf⟩
    show ∃ t, L_X8_kept_64 (q_mk W k) p2 byw bad full no vb vi (nI k) sh sl sets worths (nI k) (q_mk F k) th tl tw c n ts (nI k) f = some (Sum.inr t) ∧ _
    rw [L_X8_kept_64, if_pos (nI_le (Nat.le_refl k) (by omega))]
    rcases q_keep (F := F) sy hk hc hn hV hf W vb vi with ⟨h1, h2⟩ | ⟨T, h1, h2⟩
    · rw [h2, ob, if_pos (show ((0 : Int32), vb, vi).1 = 0 from rfl)]
      exact ⟨_, rfl, rfl, rfl, rfl, Or.inl ⟨h1, rfl⟩⟩
    · rw [h2, ob, if_neg (show ¬ ((1 : Int32), iI (q_w (q_wv V) T k), q_mk T k).1 = 0 from by show ¬ (1 : Int32) = 0; decide)]
      by_cases a0 : p2 = 0
      · rw [if_pos a0, B_X8_kept_132, q_bestSum hk hV, ob]
        exact ⟨_, rfl, rfl, rfl, rfl, Or.inr ⟨T, h1, by rw [if_pos (Or.inl a0)]⟩⟩
      · rw [if_neg a0]
        by_cases a2 : p2 = 2
        · rw [if_pos a2, B_X8_kept_132, q_bestSum hk hV, ob]
          exact ⟨_, rfl, rfl, rfl, rfl, Or.inr ⟨T, h1, by rw [if_pos (Or.inr a2)]⟩⟩
        · rw [if_neg a2, M_X2_bestBits, ob]
          refine ⟨_, rfl, rfl, rfl, rfl, Or.inr ⟨T, h1, ?_⟩⟩
          rw [if_neg (by rintro (h | h); exact a0 h; exact a2 h)]
