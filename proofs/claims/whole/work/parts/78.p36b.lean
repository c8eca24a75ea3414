section OP2
variable {k : Nat} {S : Nat → Nat}
theorem q_cvR (hk : k ≤ 16) (hS : ∀ j, j < k → S j < 256) {box : Nat → Int32} (hs : ∀ j, j < k → box j = nI (S j)) (f0 g0 : Nat → Int32) :
    ∃ f g, M_X9_covers (nI k) box f0 g0 = some (f, g) ∧ ∀ t, t < 256 → q_isR (q_E S k t) (f t) (g t) := by
  have inner : ∀ i, i < k → ∀ f g, (∀ t, t < 256 → q_isR (q_E S i t) (f t) (g t)) → ∃ f' g', lpN (fun w : Int32 × (Nat → Int32) × (Nat → Int32) => L_X9_covers_51 (nI i) (nI k) box w.1 w.2.1 w.2.2) fuelK ((255 : Int32), f, g) = some (Sum.inl (nI (i + 1), f', g')) ∧ ∀ t, t < 256 → q_isR (q_E S (i + 1) t) (f' t) (g' t) := by
    intro i hi f g hfg
    obtain ⟨t, et, f', g', rfl, h⟩ := lp_invK (body := fun w : Int32 × (Nat → Int32) × (Nat → Int32) => L_X9_covers_51 (nI i) (nI k) box w.1 w.2.1 w.2.2)
      (fun j w => ∃ f g, w = (nI (256 - j) + (-1), f, g) ∧ ∀ t, t < 256 → q_isR (q_Pt S i (256 - j) t) (f t) (g t))
      (fun t => ∃ f g, t = Sum.inl (nI (i + 1), f, g) ∧ ∀ t, t < 256 → q_isR (q_E S (i + 1) t) (f t) (g t)) 256 (by decide) (by
      rintro j w hj ⟨f, g, rfl, hfg⟩
      obtain ⟨x, hx⟩ : ∃ x, 256 - j = x + 1 := ⟨255 - j, by omega⟩
      have hx2 : 256 - (j + 1) = x := by omega
      rw [hx] at hfg
      obtain ⟨f', g', e1, e2⟩ := q_cvR1 hk hS hs hi (x := x) (by omega) hfg
      refine Or.inl ⟨(nI x + (-1), f', g'), ?_, f', g', by rw [hx2], by rw [hx2]; exact e2⟩
      show L_X9_covers_51 (nI i) (nI k) box (nI (256 - j) + (-1)) f g = _
      rw [hx, pk_m1, e1]) (by
      rintro w ⟨f, g, rfl, hfg⟩
      refine ⟨_, ?_, f, g, rfl, fun t ht => q_isR_cg (hfg t ht) (fun e => ?_)⟩
      · show L_X9_covers_51 (nI i) (nI k) box (nI 0 + (-1)) f g = _
        rw [L_X9_covers_51, if_pos (by decide), nI_1]
        rfl
      · constructor
        · rintro (h | ⟨c', e', -, h2, h3, h4⟩)
          · exact Or.inl h
          · exact Or.inr ⟨c', e', h2, h3, h4⟩
        · rintro (h | ⟨c', e', h2, h3, h4⟩)
          · exact Or.inl h
          · exact Or.inr ⟨c', e', Nat.zero_le c', h2, h3, h4⟩) ((255 : Int32), f, g) ⟨f, g, by rw [show nI (256 - 0) + (-1) = (255 : Int32) by decide], fun t ht => q_isR_cg (hfg t ht) (fun e => by
        constructor
        · exact Or.inl
        · rintro (h | ⟨c', e', h1, h2, -, -⟩)
          · exact h
          · have := (q_E_b hk hS i (by omega) c' e' h2).1
            omega)⟩
    exact ⟨f', g', et, h⟩
  have outer : ∀ f g, (∀ t, t < 256 → q_isR (q_E S 0 t) (f t) (g t)) → ∃ t, lpN (fun w : Int32 × (Nat → Int32) × (Nat → Int32) => L_X9_covers_39 (nI k) box w.1 w.2.1 w.2.2) fuelK ((0 : Int32), f, g) = some t ∧ ∀ c, c < 256 → q_isR (q_E S k c) (t.1 c) (t.2 c) := by
    intro f g hfg
    refine lp_invK (body := fun w : Int32 × (Nat → Int32) × (Nat → Int32) => L_X9_covers_39 (nI k) box w.1 w.2.1 w.2.2)
      (fun i w => ∃ f g, w = (nI i, f, g) ∧ ∀ t, t < 256 → q_isR (q_E S i t) (f t) (g t)) (fun t => ∀ c, c < 256 → q_isR (q_E S k c) (t.1 c) (t.2 c)) k (by omega) ?_ ?_ ((0 : Int32), f, g) ⟨f, g, rfl, hfg⟩
    · rintro i w hi ⟨f, g, rfl, hfg⟩
      obtain ⟨f', g', e1, e2⟩ := inner i hi f g hfg
      refine Or.inl ⟨(nI (i + 1), f', g'), ?_, f', g', rfl, e2⟩
      show L_X9_covers_39 (nI k) box (nI i) f g = _
      rw [L_X9_covers_39, if_neg (nle hi (by omega)), e1]
    · rintro w ⟨f, g, rfl, hfg⟩
      refine ⟨(f, g), ?_, hfg⟩
      show L_X9_covers_39 (nI k) box (nI k) f g = _
      rw [L_X9_covers_39, if_pos (nI_le (Nat.le_refl k) (by omega))]
      rfl
  obtain ⟨t, et, ht⟩ := lp_invK (body := fun w : Int32 × (Nat → Int32) × (Nat → Int32) => L_X9_covers_2 (nI k) box w.1 w.2.1 w.2.2)
    (fun i w => ∃ f g, w = (nI i, f, g) ∧ ∀ t, t < i → q_isR (q_E S 0 t) (f t) (g t)) (fun t => ∀ c, c < 256 → q_isR (q_E S k c) (t.1 c) (t.2 c)) 256 (by decide) (by
    rintro i w hi ⟨f, g, rfl, hfg⟩
    have hin : vp_in (nI i) 256 := vp_in_nI (by omega) (by decide)
    left
    show ∃ w', L_X9_covers_2 (nI k) box (nI i) f g = some (Sum.inl w') ∧ _
    rw [L_X9_covers_2, if_neg (show ¬ (256 : Int32) ≤ nI i from nle (a := 256) hi (by decide)), B_X9_covers_23, B_X9_covers_23, ix_in hin, ix_in hin, nI_clamp (by omega), nI_1, ix_in hin, ix_in hin]
    by_cases c : i = 0
    · subst c
      rw [if_pos nI_0]
      refine ⟨_, rfl, _, _, rfl, fun t ht => ?_⟩
      have : t = 0 := by omega
      subst this
      rw [pk_us, pk_us]
      exact Or.inr ⟨0, ⟨rfl, rfl⟩, rfl, rfl, fun e' _ => Nat.zero_le e'⟩
    · rw [if_neg (nI_ne0 (by omega) (by omega))]
      refine ⟨_, rfl, _, _, rfl, fun t ht => ?_⟩
      by_cases c2 : t = i
      · subst c2
        rw [pk_us, pk_us]
        exact Or.inl ⟨rfl, fun e he => c he.1⟩
      · rw [pk_un c2, pk_un c2]
        exact hfg t (by omega)) (by
    rintro w ⟨f, g, rfl, hfg⟩
    obtain ⟨t, e1, e2⟩ := outer f g hfg
    refine ⟨t, ?_, e2⟩
    show L_X9_covers_2 (nI k) box (nI 256) f g = _
    rw [L_X9_covers_2, if_pos (show (256 : Int32) ≤ nI 256 by decide), e1]
    rfl) ((0 : Int32), f0, g0) ⟨f0, g0, rfl, fun t ht => absurd ht (by omega)⟩
  exact ⟨t.1, t.2, et, ht⟩
def q_Q (S : Nat → Nat) (k z x e : Nat) : Prop := ∃ c, c < x ∧ (c &&& z) = z ∧ q_E S k c e
theorem q_opR (hk : k ≤ 16) (hS : ∀ j, j < k → S j < 256) {z : Nat} (hz : z < 256) {f g : Nat → Int32} (hfg : ∀ t, t < 256 → q_isR (q_E S k t) (f t) (g t)) (p1 vn : Int32) (box refused : Nat → Int32) :
    (lpN (fun w : Int32 × Int32 => L_X9_opens_34 (nI z) p1 (nI k) vn box f g refused w.1 w.2) fuelK ((-1 : Int32), (0 : Int32)) = some (-1, f, g, refused) ∧ ∀ e, ¬ q_PC S k z e) ∨ ∃ e, q_PC S k z e ∧ (∀ e', q_PC S k z e' → e ≤ e') ∧ lpN (fun w : Int32 × Int32 => L_X9_opens_34 (nI z) p1 (nI k) vn box f g refused w.1 w.2) fuelK ((-1 : Int32), (0 : Int32)) = some ((if p1 = 0 then nI (e / 65536) else nI (e % 65536)), f, g, refused) := by
  have hQ : ∀ e, q_Q S k z 256 e ↔ q_PC S k z e := fun e => by
    constructor
    · rintro ⟨c, h1, h2, h3⟩
      exact ⟨c, h3, by rw [Nat.and_comm]; exact h2⟩
    · rintro ⟨c, h1, h2⟩
      exact ⟨c, (q_E_b hk hS k (Nat.le_refl k) c e h1).1, by rw [Nat.and_comm]; exact h2, h1⟩
  obtain ⟨t, et, h⟩ := lp_invK (body := fun w : Int32 × Int32 => L_X9_opens_34 (nI z) p1 (nI k) vn box f g refused w.1 w.2)
    (fun x w => ∃ b, w = (b, nI x) ∧ ((b = -1 ∧ ∀ e, ¬ q_Q S k z x e) ∨ ∃ c e, c < x ∧ b = nI c ∧ f c = nI (e / 65536) ∧ g c = nI (e % 65536) ∧ q_Q S k z x e ∧ ∀ e', q_Q S k z x e' → e ≤ e'))
    (fun t => (t = (-1, f, g, refused) ∧ ∀ e, ¬ q_PC S k z e) ∨ ∃ e, q_PC S k z e ∧ (∀ e', q_PC S k z e' → e ≤ e') ∧ t = ((if p1 = 0 then nI (e / 65536) else nI (e % 65536)), f, g, refused)) 256 (by decide) (by
    rintro x w hx ⟨b, rfl, hb⟩
    have hxin : vp_in (nI x) 256 := vp_in_nI (by omega) (by decide)
    left
    show ∃ w', L_X9_opens_34 (nI z) p1 (nI k) vn box f g refused b (nI x) = some (Sum.inl w') ∧ _
    rw [L_X9_opens_34, if_neg (show ¬ (256 : Int32) ≤ nI x from nle (a := 256) hx (by decide)), ix_in hxin, nI_clamp (by omega)]
    have skip : (∀ e, q_Q S k z (x + 1) e ↔ q_Q S k z x e) → ∃ w', some (Sum.inl (b, nI (x + 1))) = some (Sum.inl w' : (Int32 × Int32) ⊕ (Int32 × (Nat → Int32) × (Nat → Int32) × (Nat → Int32))) ∧ ∃ b, w' = (b, nI (x + 1)) ∧ ((b = -1 ∧ ∀ e, ¬ q_Q S k z (x + 1) e) ∨ ∃ c e, c < x + 1 ∧ b = nI c ∧ f c = nI (e / 65536) ∧ g c = nI (e % 65536) ∧ q_Q S k z (x + 1) e ∧ ∀ e', q_Q S k z (x + 1) e' → e ≤ e') := fun hq => by
      refine ⟨_, rfl, b, rfl, ?_⟩
      rcases hb with ⟨h1, h2⟩ | ⟨c, e, h1, h2, h3, h4, h5, h6⟩
      · exact Or.inl ⟨h1, fun e he => h2 e ((hq e).mp he)⟩
      · exact Or.inr ⟨c, e, by omega, h2, h3, h4, (hq e).mpr h5, fun e' he' => h6 e' ((hq e').mp he')⟩
    have hno : (∀ e, q_E S k x e → (x &&& z) = z → False) → ∀ e, q_Q S k z (x + 1) e ↔ q_Q S k z x e := fun hn e => by
      constructor
      · rintro ⟨c, h1, h2, h3⟩
        rcases Nat.lt_or_ge c x with h4 | h4
        · exact ⟨c, h4, h2, h3⟩
        · have : c = x := by omega
          subst this
          exact (hn e h3 h2).elim
      · rintro ⟨c, h1, h2, h3⟩
        exact ⟨c, by omega, h2, h3⟩
    have h65 : B_X9_opens_65 (nI z) p1 b (nI x) (nI k) vn box f g refused = some (Sum.inl (b, nI (x + 1))) := by
      rw [B_X9_opens_65, B_X9_opens_66, if_pos rfl, nI_1]
    rw [h65]
    rcases hfg x hx with ⟨s1, s2⟩ | ⟨es, s1, s2, s3, s4⟩
    · rw [if_pos s1]
      exact skip (hno (fun e he _ => s2 e he))
    · obtain ⟨b1, b2, b3⟩ := q_E_b hk hS k (Nat.le_refl k) x es s1
      rw [if_neg (by rw [s2]; exact q_nm1 (by omega)), nx_and]
      by_cases hxz : (x &&& z) = z
      · rw [hxz, if_pos rfl, B_X9_opens_66, if_neg (show ¬ (1 : Int32) = 0 by decide), nI_1]
        have hQs : ∀ e, q_Q S k z (x + 1) e ↔ q_Q S k z x e ∨ q_E S k x e := fun e => by
          constructor
          · rintro ⟨c, h1, h2, h3⟩
            rcases Nat.lt_or_ge c x with h4 | h4
            · exact Or.inl ⟨c, h4, h2, h3⟩
            · have : c = x := by omega
              subst this
              exact Or.inr h3
          · rintro (⟨c, h1, h2, h3⟩ | h3)
            · exact ⟨c, by omega, h2, h3⟩
            · exact ⟨x, by omega, hxz, h3⟩
        have take : (∀ e, q_Q S k z x e → es ≤ e) → ∃ w', some (Sum.inl (nI x, nI (x + 1))) = some (Sum.inl w' : (Int32 × Int32) ⊕ (Int32 × (Nat → Int32) × (Nat → Int32) × (Nat → Int32))) ∧ ∃ b, w' = (b, nI (x + 1)) ∧ ((b = -1 ∧ ∀ e, ¬ q_Q S k z (x + 1) e) ∨ ∃ c e, c < x + 1 ∧ b = nI c ∧ f c = nI (e / 65536) ∧ g c = nI (e % 65536) ∧ q_Q S k z (x + 1) e ∧ ∀ e', q_Q S k z (x + 1) e' → e ≤ e') := fun hle => by
          refine ⟨_, rfl, nI x, rfl, Or.inr ⟨x, es, by omega, rfl, s2, s3, (hQs es).mpr (Or.inr s1), fun e he => ?_⟩⟩
          rcases (hQs e).mp he with h | h
          · exact hle e h
          · exact s4 e h
        rcases hb with ⟨h1, h2⟩ | ⟨c, e, h1, h2, h3, h4, h5, h6⟩
        · rw [if_pos h1]
          exact take (fun e he => absurd he (h2 e))
        · have hcin : vp_in (nI c) 256 := vp_in_nI (by omega) (by decide)
          have he : e / 65536 ≤ 16 := by
            obtain ⟨c2, -, -, h7⟩ := h5
            have := (q_E_b hk hS k (Nat.le_refl k) c2 e h7).2.1
            omega
          have stay : e ≤ es → ∃ w', some (Sum.inl (b, nI (x + 1))) = some (Sum.inl w' : (Int32 × Int32) ⊕ (Int32 × (Nat → Int32) × (Nat → Int32) × (Nat → Int32))) ∧ ∃ b, w' = (b, nI (x + 1)) ∧ ((b = -1 ∧ ∀ e, ¬ q_Q S k z (x + 1) e) ∨ ∃ c e, c < x + 1 ∧ b = nI c ∧ f c = nI (e / 65536) ∧ g c = nI (e % 65536) ∧ q_Q S k z (x + 1) e ∧ ∀ e', q_Q S k z (x + 1) e' → e ≤ e') := fun hle => by
            refine ⟨_, rfl, b, rfl, Or.inr ⟨c, e, by omega, h2, h3, h4, (hQs e).mpr (Or.inl h5), fun e' he' => ?_⟩⟩
            rcases (hQs e').mp he' with h | h
            · exact h6 e' h
            · have := s4 e' h
              omega
          rw [h2] at stay ⊢
          rw [if_neg (q_nm1 (by omega)), ix_in hxin, ix_in hcin, nI_clamp (by omega), nI_clamp (by omega), s2, h3, ix_in hxin, ix_in hcin, ix_in hxin, ix_in hcin, s3, h4]
          by_cases c1 : es / 65536 < e / 65536
          · rw [if_pos (nI_lt c1 (by omega))]
            exact take (fun e' he' => by have := h6 e' he'; omega)
          · rw [if_neg (nI_nlt (by omega) (by omega))]
            by_cases c2 : es / 65536 = e / 65536
            · rw [if_pos (by rw [c2])]
              by_cases c3 : e % 65536 ≤ es % 65536
              · rw [if_pos (nI_le c3 (by omega))]
                exact stay (by omega)
              · rw [if_neg (nle (by omega) (by omega))]
                exact take (fun e' he' => by have := h6 e' he'; omega)
            · rw [if_neg (fun h => c2 ((nI_eq (by omega) (by omega)).mp h))]
              exact stay (by omega)
      · have hlt : (x &&& z) < 2 ^ 31 := q_and_lt hx
        rw [if_neg (fun h => hxz ((nI_eq hlt (by omega)).mp h))]
        exact skip (hno (fun e _ h => hxz h))) (by
    rintro w ⟨b, rfl, hb⟩
    show ∃ t, L_X9_opens_34 (nI z) p1 (nI k) vn box f g refused b (nI 256) = some (Sum.inr t) ∧ _
    rw [L_X9_opens_34, if_pos (show (256 : Int32) ≤ nI 256 by decide)]
    rcases hb with ⟨h1, h2⟩ | ⟨c, e, h1, h2, h3, h4, h5, h6⟩
    · rw [if_pos h1]
      exact ⟨_, rfl, Or.inl ⟨rfl, fun e he => h2 e ((hQ e).mpr he)⟩⟩
    · have hcin : vp_in (nI c) 256 := vp_in_nI (by omega) (by decide)
      rw [h2, if_neg (q_nm1 (by omega)), ix_in hcin, ix_in hcin, nI_clamp (by omega), h3, h4]
      by_cases c1 : p1 = 0
      · rw [if_pos c1]
        exact ⟨_, rfl, Or.inr ⟨e, (hQ e).mp h5, fun e' he' => h6 e' ((hQ e').mpr he'), by rw [if_pos c1]⟩⟩
      · rw [if_neg c1]
        exact ⟨_, rfl, Or.inr ⟨e, (hQ e).mp h5, fun e' he' => h6 e' ((hQ e').mpr he'), by rw [if_neg c1]⟩⟩) ((-1 : Int32), (0 : Int32)) ⟨-1, rfl, Or.inl ⟨rfl, fun e ⟨c, h1, _⟩ => by omega⟩⟩
  rcases h with ⟨h1, h2⟩ | ⟨e, h1, h2, h3⟩
  · exact Or.inl ⟨by rw [et, h1], h2⟩
  · exact Or.inr ⟨e, h1, h2, by rw [et, h3]⟩
end OP2
