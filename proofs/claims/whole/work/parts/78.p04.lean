/-! digest -/
def dgC (n boxes bytes low high : Int32) : Nat → Int32 := fun i => if i = 0 then n else if i = 1 then boxes else if i = 2 then bytes else if i = 3 then low else high
def dg5 (c : Nat → Int32) : Nat → Int64
  | 0 => 659
  | i + 1 => 31 * dg5 c i + (c i).toInt64
def dgB (f g : Nat → Int32) (h : Int64) : Nat → Int64
  | 0 => h
  | i + 1 => 31 * (31 * dgB f g h i + (f i).toInt64) + (g i).toInt64
def dgA (f : Nat → Int32) (h : Int64) : Nat → Int64
  | 0 => h
  | i + 1 => 31 * dgA f h i + (f i).toInt64
theorem dgB_eq {f g f' g' : Nat → Int32} (h : Int64) : ∀ k, (∀ j, j < k → f j = f' j ∧ g j = g' j) → dgB f g h k = dgB f' g' h k := by
  intro k
  induction k with
  | zero => intro _; rfl
  | succ k ih =>
    intro hj
    show 31 * (31 * dgB f g h k + _) + _ = 31 * (31 * dgB f' g' h k + _) + _
    rw [ih (fun j h => hj j (by omega)), (hj k (by omega)).1, (hj k (by omega)).2]
theorem dgA_eq {f f' : Nat → Int32} (h : Int64) : ∀ k, (∀ j, j < k → f j = f' j) → dgA f h k = dgA f' h k := by
  intro k
  induction k with
  | zero => intro _; rfl
  | succ k ih =>
    intro hj
    show 31 * dgA f h k + _ = 31 * dgA f' h k + _
    rw [ih (fun j h => hj j (by omega)), hj k (by omega)]
theorem digC {k : Nat} (hk : k ≤ 16) (bad bytes full no : Int32) (alike : Nat → Int32) (above below : Int64) (high low n : Int32) (sets worths : Nat → Int32) :
    M_X8_digest bad bytes full no alike above below (nI k) high low n sets worths = some (31 * (31 * dgA alike (dgB sets worths (dg5 (dgC n (nI k) bytes low high) 5) k) 8 + above) + below, bad, full, no) := by
  refine lp_runK (fun i => (dg5 (dgC n (nI k) bytes low high) i, nI i, bad, full, no)) 5 _ (by decide) (fun i hi => ?_) ?_
  · show L_X8_digest_6 bytes alike above below (nI k) high low n sets worths (dg5 (dgC n (nI k) bytes low high) i) (nI i) bad full no = _
    rw [L_X8_digest_6]
    rcases (show i = 0 ∨ i = 1 ∨ i = 2 ∨ i = 3 ∨ i = 4 by omega) with rfl | rfl | rfl | rfl | rfl <;> rfl
  · show L_X8_digest_6 bytes alike above below (nI k) high low n sets worths (dg5 (dgC n (nI k) bytes low high) 5) (nI 5) bad full no = _
    rw [L_X8_digest_6, if_pos (by decide)]
    generalize dg5 (dgC n (nI k) bytes low high) 5 = h
    refine congrArg (Option.map Sum.inr) (a₂ := some _) (lp_runK (fun i => (dgB sets worths h i, nI i)) k _ (by omega) (fun i hi => ?_) ?_)
    · show L_X8_digest_32 bad bytes full no alike above below (nI k) high low n sets worths (dgB sets worths h i) (nI i) = _
      rw [L_X8_digest_32, if_neg (nle hi (by omega)), ix_in (vp_in_nI (by omega) (by decide)), ix_in (vp_in_nI (by omega) (by decide)), nI_clamp (by omega)]
      exact congrArg some (congrArg Sum.inl (Prod.ext rfl (nI_1 i)))
    · show L_X8_digest_32 bad bytes full no alike above below (nI k) high low n sets worths (dgB sets worths h k) (nI k) = _
      rw [L_X8_digest_32, if_pos (nI_le (Nat.le_refl k) (by omega))]
      generalize dgB sets worths h k = h2
      refine congrArg (Option.map Sum.inr) (a₂ := some _) (lp_runK (fun i => (dgA alike h2 i, nI i)) 8 _ (by decide) (fun i hi => ?_) ?_)
      · show L_X8_digest_85 bad bytes full no alike above below (nI k) high low n sets worths (dgA alike h2 i) (nI i) = _
        rw [L_X8_digest_85, if_neg (show ¬ (8 : Int32) ≤ nI i from nle (a := 8) hi (by decide)), ix_in (vp_in_nI (by omega) (by decide)), nI_clamp (by omega)]
        exact congrArg some (congrArg Sum.inl (Prod.ext rfl (nI_1 i)))
      · show L_X8_digest_85 bad bytes full no alike above below (nI k) high low n sets worths (dgA alike h2 8) (nI 8) = _
        rw [L_X8_digest_85, if_pos (by decide)]
        rfl
theorem digR {k : Nat} (hk : k ≤ 16) (size : Int32) (alike : Nat → Int32) (above below : Int64) (high low n : Int32) (sets worths : Nat → Int32) :
    M_X9_digest above below (nI k) high low n size alike sets worths = some (31 * (31 * dgA alike (dgB sets worths (dg5 (dgC n (nI k) size low high) 5) k) 8 + above) + below) := by
  refine lp_runK (fun i => (dg5 (dgC n (nI k) size low high) i, nI i)) 5 _ (by decide) (fun i hi => ?_) ?_
  · show L_X9_digest_6 above below (nI k) high low n size alike sets worths (dg5 (dgC n (nI k) size low high) i) (nI i) = _
    rw [L_X9_digest_6]
    rcases (show i = 0 ∨ i = 1 ∨ i = 2 ∨ i = 3 ∨ i = 4 by omega) with rfl | rfl | rfl | rfl | rfl <;> rfl
  · show L_X9_digest_6 above below (nI k) high low n size alike sets worths (dg5 (dgC n (nI k) size low high) 5) (nI 5) = _
    rw [L_X9_digest_6, if_pos (by decide)]
    generalize dg5 (dgC n (nI k) size low high) 5 = h
    refine congrArg (Option.map Sum.inr) (a₂ := some _) (lp_runK (fun i => (dgB sets worths h i, nI i)) k _ (by omega) (fun i hi => ?_) ?_)
    · show L_X9_digest_32 above below (nI k) high low n size alike sets worths (dgB sets worths h i) (nI i) = _
      rw [L_X9_digest_32, if_neg (nle hi (by omega)), ix_in (vp_in_nI (by omega) (by decide)), ix_in (vp_in_nI (by omega) (by decide)), nI_clamp (by omega)]
      exact congrArg some (congrArg Sum.inl (Prod.ext rfl (nI_1 i)))
    · show L_X9_digest_32 above below (nI k) high low n size alike sets worths (dgB sets worths h k) (nI k) = _
      rw [L_X9_digest_32, if_pos (nI_le (Nat.le_refl k) (by omega))]
      generalize dgB sets worths h k = h2
      refine congrArg (Option.map Sum.inr) (a₂ := some _) (lp_runK (fun i => (dgA alike h2 i, nI i)) 8 _ (by decide) (fun i hi => ?_) ?_)
      · show L_X9_digest_74 above below (nI k) high low n size alike sets worths (dgA alike h2 i) (nI i) = _
        rw [L_X9_digest_74, if_neg (show ¬ (8 : Int32) ≤ nI i from nle (a := 8) hi (by decide)), ix_in (vp_in_nI (by omega) (by decide)), nI_clamp (by omega)]
        exact congrArg some (congrArg Sum.inl (Prod.ext rfl (nI_1 i)))
      · show L_X9_digest_74 above below (nI k) high low n size alike sets worths (dgA alike h2 8) (nI 8) = _
        rw [L_X9_digest_74, if_pos (by decide)]
        rfl
/-! images -/
theorem ad3 (c d j : Nat) : (nI c + nI d) + nI j = nI (c + d + j) := by rw [nI_add, nI_add]
theorem shR.congr {n low high boxes n' low' high' boxes' : Int32} {s w s' w' s2 w2 s2' w2' : Nat → Int32} (h : shR n low high boxes s w n' low' high' boxes' s' w') (e1 : ∀ j, j < 16 → s2 j = s j) (e2 : ∀ j, j < 16 → w2 j = w j) (e3 : ∀ j, j < 16 → s2' j = s' j) (e4 : ∀ j, j < 16 → w2' j = w' j) : shR n low high boxes s2 w2 n' low' high' boxes' s2' w2' := by
  obtain ⟨N, lo, hi, k, g1, g2, g3, g4, g5, gn, gl, gh, gb, S, V, gS, gD⟩ := h
  refine ⟨N, lo, hi, k, g1, g2, g3, g4, g5, gn, gl, gh, gb, S, V, fun j hj => ?_, gD⟩
  obtain ⟨a, b, ⟨c1, c2⟩, ⟨d1, d2⟩⟩ := gS j hj
  exact ⟨a, b, ⟨by rw [e1 j (by omega)]; exact c1, by rw [e3 j (by omega)]; exact c2⟩, ⟨by rw [e2 j (by omega)]; exact d1, by rw [e4 j (by omega)]; exact d2⟩⟩
theorem alR.congr {a a' b b' : Nat → Int32} (h : alR a a') (e1 : ∀ j, j < 8 → b j = a j) (e2 : ∀ j, j < 8 → b' j = a' j) : alR b b' := by
  obtain ⟨M, hM⟩ := h
  exact ⟨M, fun j hj => ⟨(hM j hj).1, by rw [e1 j hj]; exact (hM j hj).2.1, by rw [e2 j hj]; exact (hM j hj).2.2⟩⟩
theorem imR.keep {i : Nat} {t n l h b : Int32} {s w k im im' : Nat → Int32} (hi : imR i t n l h b s w k im) (e : ∀ q, 48 * i ≤ q → q < 48 * i + 45 → im' q = im q) : imR i t n l h b s w k im' := by
  rcases hi with ⟨a1, a2⟩ | ⟨a1, a2, a3, a4⟩
  · exact Or.inl ⟨a1, by rw [e _ (by omega) (by omega)]; exact a2⟩
  · refine Or.inr ⟨a1, by rw [e _ (by omega) (by omega)]; exact a2, ?_, a4.congr (fun _ _ => rfl) (fun j hj => e _ (by omega) (by omega))⟩
    rw [e (48 * i + 1) (by omega) (by omega), e (48 * i + 2) (by omega) (by omega), e (48 * i + 3) (by omega) (by omega), e (48 * i + 4) (by omega) (by omega)]
    exact a3.congr (fun _ _ => rfl) (fun _ _ => rfl) (fun j hj => e _ (by omega) (by omega)) (fun j hj => e _ (by omega) (by omega))
theorem img_al {c : Nat} (hc : c ≤ 48) (boxes high low n : Int32) (alike box refused worth g1 : Nat → Int32) : ∃ t, lpN (fun z => L_X9_image_126 (nI c) boxes high low n alike box refused worth z.1 z.2) fuelK ((0 : Int32), g1) = some t ∧ ∃ g, t = (1, g, refused) ∧ (∀ a, a < 8 → g (c + 37 + a) = alike a) ∧ ∀ q, (q < c + 37 ∨ c + 45 ≤ q) → g q = g1 q := by
  refine lp_invK (fun j z => z.1 = nI j ∧ (∀ a, a < j → z.2 (c + 37 + a) = alike a) ∧ ∀ q, (q < c + 37 ∨ c + 45 ≤ q) → z.2 q = g1 q) _ 8 (by decide) ?_ ?_ _ ⟨rfl, fun a h => absurd h (by omega), fun _ _ => rfl⟩
  · rintro j ⟨x, g⟩ hj ⟨rfl, h1, h2⟩
    refine Or.inl ⟨(nI (j + 1), upd g (c + 37 + j) (alike j)), ?_, rfl, fun a ha => ?_, fun q hq => ?_⟩
    · show L_X9_image_126 (nI c) boxes high low n alike box refused worth (nI j) g = _
      rw [L_X9_image_126, if_neg (show ¬ (8 : Int32) ≤ nI j from nle (a := 8) hj (by decide)), ix_in (vp_in_nI hj (by decide)), show (nI c + (37 : Int32)) + nI j = nI (c + 37 + j) from ad3 c 37 j, ix_in (vp_in_nI (by omega) (by decide)), nI_clamp (by omega), nI_clamp (by omega), nI_1]
    · show upd g (c + 37 + j) (alike j) (c + 37 + a) = alike a
      by_cases hE : a = j
      · subst hE; exact pk_us
      · rw [pk_un (by omega)]; exact h1 a (by omega)
    · show upd g (c + 37 + j) (alike j) q = g1 q
      rw [pk_un (by omega)]; exact h2 q hq
  · rintro ⟨x, g⟩ ⟨rfl, h1, h2⟩
    refine ⟨(1, g, refused), ?_, g, rfl, h1, h2⟩
    show L_X9_image_126 (nI c) boxes high low n alike box refused worth (nI 8) g = _
    rw [L_X9_image_126, if_pos (by decide)]
    rfl
theorem img_bx {c : Nat} (hc : c ≤ 48) (boxes high low n : Int32) (alike box refused worth g0 : Nat → Int32) : ∃ t, lpN (fun z => L_X9_image_79 (nI c) boxes high low n alike box refused worth z.1 z.2) fuelK ((0 : Int32), g0) = some t ∧ ∃ g, t = (1, g, refused) ∧ (∀ a, a < 16 → g (c + 5 + a) = box a ∧ g (c + 21 + a) = worth a) ∧ (∀ a, a < 8 → g (c + 37 + a) = alike a) ∧ ∀ q, (q < c + 5 ∨ c + 45 ≤ q) → g q = g0 q := by
  refine lp_invK (fun j z => z.1 = nI j ∧ (∀ a, a < j → z.2 (c + 5 + a) = box a ∧ z.2 (c + 21 + a) = worth a) ∧ ∀ q, (q < c + 5 ∨ c + 37 ≤ q) → z.2 q = g0 q) _ 16 (by decide) ?_ ?_ _ ⟨rfl, fun a h => absurd h (by omega), fun _ _ => rfl⟩
  · rintro j ⟨x, g⟩ hj ⟨rfl, h1, h2⟩
    refine Or.inl ⟨(nI (j + 1), upd (upd g (c + 5 + j) (box j)) (c + 21 + j) (worth j)), ?_, rfl, fun a ha => ?_, fun q hq => ?_⟩
    · show L_X9_image_79 (nI c) boxes high low n alike box refused worth (nI j) g = _
      rw [L_X9_image_79, if_neg (show ¬ (16 : Int32) ≤ nI j from nle (a := 16) hj (by decide)), ix_in (vp_in_nI hj (by decide)), show (nI c + (5 : Int32)) + nI j = nI (c + 5 + j) from ad3 c 5 j, ix_in (vp_in_nI (by omega) (by decide)), ix_in (vp_in_nI hj (by decide)), show (nI c + (21 : Int32)) + nI j = nI (c + 21 + j) from ad3 c 21 j, ix_in (vp_in_nI (by omega) (by decide)), nI_clamp (by omega), nI_clamp (by omega), nI_clamp (by omega), nI_1]
    · show upd (upd g (c + 5 + j) (box j)) (c + 21 + j) (worth j) (c + 5 + a) = box a ∧ upd (upd g (c + 5 + j) (box j)) (c + 21 + j) (worth j) (c + 21 + a) = worth a
      by_cases hE : a = j
      · subst hE
        exact ⟨by rw [pk_un (by omega)]; exact pk_us, pk_us⟩
      · rw [pk_un (by omega), pk_un (by omega), pk_un (by omega), pk_un (by omega)]
        exact h1 a (by omega)
    · show upd (upd g (c + 5 + j) (box j)) (c + 21 + j) (worth j) q = g0 q
      rw [pk_un (by omega), pk_un (by omega)]; exact h2 q hq
  · rintro ⟨x, g1⟩ ⟨rfl, h1, h2⟩
    obtain ⟨t, et, g, rfl, hg1, hg2⟩ := img_al hc boxes high low n alike box refused worth g1
    refine ⟨(1, g, refused), ?_, g, rfl, fun a ha => ⟨by rw [hg2 _ (by omega)]; exact (h1 a ha).1, by rw [hg2 _ (by omega)]; exact (h1 a ha).2⟩, hg1, fun q hq => by rw [hg2 q (by omega)]; exact h2 q (by omega)⟩
    show L_X9_image_79 (nI c) boxes high low n alike box refused worth (nI 16) g1 = _
    rw [L_X9_image_79, if_pos (by decide), show (0 : Int32) = 0 from rfl, et]
    rfl
theorem img_R {i : Nat} (hi : i < 2) (boxes high low n : Int32) (alike box images refused worth : Nat → Int32) : ∃ g, M_X9_image boxes high low n alike box images refused worth (nI i) = some (1, g, refused) ∧ (g (48 * i) = 1 ∧ g (48 * i + 1) = n ∧ g (48 * i + 2) = low ∧ g (48 * i + 3) = high ∧ g (48 * i + 4) = boxes) ∧ (∀ a, a < 16 → g (48 * i + 5 + a) = box a ∧ g (48 * i + 21 + a) = worth a) ∧ (∀ a, a < 8 → g (48 * i + 37 + a) = alike a) ∧ ∀ q, (q < 48 * i ∨ 48 * i + 45 ≤ q) → g q = images q := by
  have e1 : M_X9_in (nI i).toInt64 0 1 = some 1 := by
    rw [in32n (nI i) 0 1 0 1 rfl rfl, if_pos ⟨nI_pos' (by omega), nI_le (b := 1) (by omega) (by decide)⟩]
  have e48 : (48 : Int32) * nI i = nI (48 * i) := pk_mul 48 i
  have ea : ∀ d, nI (48 * i) + nI d = nI (48 * i + d) := fun d => nI_add _ _
  obtain ⟨t, et, g, rfl, h1, h2, h3⟩ := img_bx (c := 48 * i) (by omega) boxes high low n alike box refused worth (upd (upd (upd (upd (upd images (48 * i) 1) (48 * i + 1) n) (48 * i + 2) low) (48 * i + 3) high) (48 * i + 4) boxes)
  refine ⟨g, ?_, ⟨?_, ?_, ?_, ?_, ?_⟩, h1, h2, fun q hq => ?_⟩
  · rw [M_X9_image, e1]
    show ix ((48 : Int32) * nI i) 96 _ = _
    rw [e48, show nI (48 * i) + (1 : Int32) = nI (48 * i + 1) from ea 1, show nI (48 * i) + (2 : Int32) = nI (48 * i + 2) from ea 2, show nI (48 * i) + (3 : Int32) = nI (48 * i + 3) from ea 3, show nI (48 * i) + (4 : Int32) = nI (48 * i + 4) from ea 4,
      ix_in (vp_in_nI (by omega) (by decide)), ix_in (vp_in_nI (by omega) (by decide)), ix_in (vp_in_nI (by omega) (by decide)), ix_in (vp_in_nI (by omega) (by decide)), ix_in (vp_in_nI (by omega) (by decide)), nI_clamp (by omega), nI_clamp (by omega), nI_clamp (by omega), nI_clamp (by omega), nI_clamp (by omega)]
    exact et
  · rw [h3 _ (by omega), pk_un (by omega), pk_un (by omega), pk_un (by omega), pk_un (by omega)]; exact pk_us
  · rw [h3 _ (by omega), pk_un (by omega), pk_un (by omega), pk_un (by omega)]; exact pk_us
  · rw [h3 _ (by omega), pk_un (by omega), pk_un (by omega)]; exact pk_us
  · rw [h3 _ (by omega), pk_un (by omega)]; exact pk_us
  · rw [h3 _ (by omega)]; exact pk_us
  · rw [h3 _ (by omega), pk_un (by omega), pk_un (by omega), pk_un (by omega), pk_un (by omega), pk_un (by omega)]
theorem frm_al {c : Nat} (hc : c ≤ 48) (boxes high low n : Int32) (box images refused worth al0 : Nat → Int32) : ∃ t, lpN (fun z => L_X9_from_135 (nI c) boxes high low n box images refused worth z.1 z.2) fuelK ((0 : Int32), al0) = some t ∧ ∃ al, t = (1, boxes, high, low, n, al, box, refused, worth) ∧ ∀ a, a < 8 → al a = images (c + 37 + a) := by
  refine lp_invK (fun j z => z.1 = nI j ∧ ∀ a, a < j → z.2 a = images (c + 37 + a)) _ 8 (by decide) ?_ ?_ _ ⟨rfl, fun a h => absurd h (by omega)⟩
  · rintro j ⟨x, g⟩ hj ⟨rfl, h1⟩
    refine Or.inl ⟨(nI (j + 1), upd g j (images (c + 37 + j))), ?_, rfl, fun a ha => ?_⟩
    · show L_X9_from_135 (nI c) boxes high low n box images refused worth (nI j) g = _
      rw [L_X9_from_135, if_neg (show ¬ (8 : Int32) ≤ nI j from nle (a := 8) hj (by decide)), show (nI c + (37 : Int32)) + nI j = nI (c + 37 + j) from ad3 c 37 j, ix_in (vp_in_nI (by omega) (by decide)), ix_in (vp_in_nI hj (by decide)), nI_clamp (by omega), nI_clamp (by omega), nI_1]
    · show upd g j (images (c + 37 + j)) a = images (c + 37 + a)
      by_cases hE : a = j
      · subst hE; exact pk_us
      · rw [pk_un hE]; exact h1 a (by omega)
  · rintro ⟨x, g⟩ ⟨rfl, h1⟩
    refine ⟨(1, boxes, high, low, n, g, box, refused, worth), ?_, g, rfl, h1⟩
    show L_X9_from_135 (nI c) boxes high low n box images refused worth (nI 8) g = _
    rw [L_X9_from_135, if_pos (by decide)]
    rfl
theorem frm_bx {c : Nat} (hc : c ≤ 48) (boxes high low n : Int32) (alike images refused b0 w0 : Nat → Int32) : ∃ t, lpN (fun z => L_X9_from_88 (nI c) boxes high low n alike images refused z.1 z.2.1 z.2.2) fuelK ((0 : Int32), b0, w0) = some t ∧ ∃ al bx wo, t = (1, boxes, high, low, n, al, bx, refused, wo) ∧ (∀ a, a < 16 → bx a = images (c + 5 + a) ∧ wo a = images (c + 21 + a)) ∧ ∀ a, a < 8 → al a = images (c + 37 + a) := by
  refine lp_invK (fun j z => z.1 = nI j ∧ ∀ a, a < j → z.2.1 a = images (c + 5 + a) ∧ z.2.2 a = images (c + 21 + a)) _ 16 (by decide) ?_ ?_ _ ⟨rfl, fun a h => absurd h (by omega)⟩
  · rintro j ⟨x, g, w⟩ hj ⟨rfl, h1⟩
    refine Or.inl ⟨(nI (j + 1), upd g j (images (c + 5 + j)), upd w j (images (c + 21 + j))), ?_, rfl, fun a ha => ?_⟩
    · show L_X9_from_88 (nI c) boxes high low n alike images refused (nI j) g w = _
      rw [L_X9_from_88, if_neg (show ¬ (16 : Int32) ≤ nI j from nle (a := 16) hj (by decide)), show (nI c + (5 : Int32)) + nI j = nI (c + 5 + j) from ad3 c 5 j, ix_in (vp_in_nI (by omega) (by decide)), ix_in (vp_in_nI hj (by decide)), show (nI c + (21 : Int32)) + nI j = nI (c + 21 + j) from ad3 c 21 j, ix_in (vp_in_nI (by omega) (by decide)), ix_in (vp_in_nI hj (by decide)), nI_clamp (by omega), nI_clamp (by omega), nI_clamp (by omega), nI_1]
    · show upd g j (images (c + 5 + j)) a = images (c + 5 + a) ∧ upd w j (images (c + 21 + j)) a = images (c + 21 + a)
      by_cases hE : a = j
      · subst hE; exact ⟨pk_us, pk_us⟩
      · rw [pk_un hE, pk_un hE]; exact h1 a (by omega)
  · rintro ⟨x, g, w⟩ ⟨rfl, h1⟩
    obtain ⟨t, et, al, rfl, hal⟩ := frm_al hc boxes high low n g images refused w alike
    refine ⟨_, ?_, al, g, w, rfl, h1, hal⟩
    show L_X9_from_88 (nI c) boxes high low n alike images refused (nI 16) g w = _
    rw [L_X9_from_88, if_pos (by decide), et]
    rfl
theorem frm_R {i : Nat} (hi : i < 2) (boxes high low n : Int32) (alike box images refused worth : Nat → Int32) (h0 : ¬ images (48 * i) = 0) : ∃ al bx wo, M_X9_from boxes high low n alike box images refused worth (nI i) = some (1, images (48 * i + 4), images (48 * i + 3), images (48 * i + 2), images (48 * i + 1), al, bx, refused, wo) ∧ (∀ a, a < 16 → bx a = images (48 * i + 5 + a) ∧ wo a = images (48 * i + 21 + a)) ∧ ∀ a, a < 8 → al a = images (48 * i + 37 + a) := by
  have e1 : M_X9_in (nI i).toInt64 0 1 = some 1 := by
    rw [in32n (nI i) 0 1 0 1 rfl rfl, if_pos ⟨nI_pos' (by omega), nI_le (b := 1) (by omega) (by decide)⟩]
  have e48 : (48 : Int32) * nI i = nI (48 * i) := pk_mul 48 i
  have ea : ∀ d, nI (48 * i) + nI d = nI (48 * i + d) := fun d => nI_add _ _
  obtain ⟨t, et, al, bx, wo, rfl, h1, h2⟩ := frm_bx (c := 48 * i) (by omega) (images (48 * i + 4)) (images (48 * i + 3)) (images (48 * i + 2)) (images (48 * i + 1)) alike images refused box worth
  refine ⟨al, bx, wo, ?_, h1, h2⟩
  rw [M_X9_from, e1]
  show ix ((48 : Int32) * nI i) 96 _ = _
  rw [e48, show nI (48 * i) + (1 : Int32) = nI (48 * i + 1) from ea 1, show nI (48 * i) + (2 : Int32) = nI (48 * i + 2) from ea 2, show nI (48 * i) + (3 : Int32) = nI (48 * i + 3) from ea 3, show nI (48 * i) + (4 : Int32) = nI (48 * i + 4) from ea 4,
    ix_in (vp_in_nI (by omega) (by decide)), nI_clamp (by omega), if_neg h0, ix_in (vp_in_nI (by omega) (by decide)), ix_in (vp_in_nI (by omega) (by decide)), ix_in (vp_in_nI (by omega) (by decide)), ix_in (vp_in_nI (by omega) (by decide)), nI_clamp (by omega), nI_clamp (by omega), nI_clamp (by omega), nI_clamp (by omega)]
  exact et
theorem frm_N {i : Nat} (hi : i < 2) (boxes high low n : Int32) (alike box images refused worth : Nat → Int32) (h0 : images (48 * i) = 0) : M_X9_from boxes high low n alike box images refused worth (nI i) = some (-3, boxes, high, low, n, alike, box, upd refused 1 (refused 1 + 1), worth) := by
  have e1 : M_X9_in (nI i).toInt64 0 1 = some 1 := by
    rw [in32n (nI i) 0 1 0 1 rfl rfl, if_pos ⟨nI_pos' (by omega), nI_le (b := 1) (by omega) (by decide)⟩]
  have e48 : (48 : Int32) * nI i = nI (48 * i) := pk_mul 48 i
  rw [M_X9_from, e1]
  show ix ((48 : Int32) * nI i) 96 _ = _
  rw [e48, ix_in (vp_in_nI (by omega) (by decide)), nI_clamp (by omega), if_pos h0]
  rfl
