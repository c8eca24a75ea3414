/-! read: boxes, sizes -/
def q_lz (B : Nat → Nat) (N s : Nat) : Nat → Option (Nat × Nat)
  | 0 => some (0, 0)
  | j + 1 => match q_lz B N s j with
    | none => none
    | some p => if p.2 ≤ B (s + j) - 97 ∧ B (s + j) - 97 < N then some (p.1 ||| 2 ^ (B (s + j) - 97), B (s + j) - 97 + 1) else none
theorem q_lz_s {B : Nat → Nat} {N s j : Nat} {p : Nat × Nat} (h : q_lz B N s j = some p) : q_lz B N s (j + 1) = if p.2 ≤ B (s + j) - 97 ∧ B (s + j) - 97 < N then some (p.1 ||| 2 ^ (B (s + j) - 97), B (s + j) - 97 + 1) else none := by
  rw [q_lz, h]
theorem q_lz_b {B : Nat → Nat} {N s : Nat} : ∀ j z b, q_lz B N s j = some (z, b) → z < 2 ^ b ∧ b ≤ N ∧ (0 < j → 1 ≤ b ∧ 2 ^ (b - 1) ≤ z) := by
  intro j
  induction j with
  | zero =>
    intro z b h
    rw [q_lz] at h
    have h1 := Option.some.inj h
    have h2 : (0 : Nat) = z := congrArg Prod.fst h1
    have h3 : (0 : Nat) = b := congrArg Prod.snd h1
    subst h2; subst h3
    exact ⟨by decide, Nat.zero_le N, fun h => by omega⟩
  | succ j ih =>
    intro z b h
    cases hq : q_lz B N s j with
    | none => rw [q_lz, hq] at h; cases h
    | some p =>
      rw [q_lz_s hq] at h
      obtain ⟨g1, g2, g3⟩ := ih p.1 p.2 (by rw [hq])
      by_cases c : p.2 ≤ B (s + j) - 97 ∧ B (s + j) - 97 < N
      · rw [if_pos c] at h
        have h1 := Option.some.inj h
        have h2 : p.1 ||| 2 ^ (B (s + j) - 97) = z := congrArg Prod.fst h1
        have h3 : B (s + j) - 97 + 1 = b := congrArg Prod.snd h1
        subst h2; subst h3
        have hp : 2 ^ p.2 ≤ 2 ^ (B (s + j) - 97) := Nat.pow_le_pow_right (by decide) c.1
        have hp2 : 2 ^ (B (s + j) - 97) < 2 ^ (B (s + j) - 97 + 1) := Nat.pow_lt_pow_right (by decide) (by omega)
        refine ⟨Nat.or_lt_two_pow (by omega) hp2, by omega, fun _ => ⟨by omega, ?_⟩⟩
        rw [Nat.add_sub_cancel]
        exact Nat.right_le_or
      · rw [if_neg c] at h; cases h
theorem q_lz_n {B : Nat → Nat} {N s j : Nat} (h : q_lz B N s j = none) : ∀ d, q_lz B N s (j + d) = none := by
  intro d
  induction d with
  | zero => exact h
  | succ d ih =>
    show q_lz B N s (j + d + 1) = none
    rw [q_lz, ih]
def q_lr (o : Option (Nat × Nat)) : Int32 := match o with
  | none => -1
  | some p => nI p.1
theorem q_bef {c b : Nat} (hc : c < 300) (hb : b < 300) : nI c ≤ nI b + (-1) ↔ c < b := by
  rcases Nat.eq_zero_or_pos b with h | h
  · subst h
    constructor
    · intro h2
      rw [show nI 0 + (-1) = (-1 : Int32) by decide] at h2
      have h3 := Int32.le_iff_toInt_le.mp h2
      rw [nI_toInt (by omega)] at h3
      have h4 : (-1 : Int32).toInt = -1 := rfl
      omega
    · intro h2; omega
  · obtain ⟨d, rfl⟩ : ∃ d, b = d + 1 := ⟨b - 1, by omega⟩
    rw [pk_m1, nI_leI (by omega) (by omega)]
    omega
theorem q_orI (a b : Nat) : nI a ||| nI b = nI (a ||| b) := by
  apply b_ext
  intro j hj
  rw [b_or, q_nIbt _ hj, q_nIbt _ hj, q_nIbt _ hj, Nat.testBit_or]
def q_ar (N b : Nat) (cs cw rb rq : Nat → Int32) : Prop := ∃ S V : Nat → Nat, (∀ j, j < b → S j < 2 ^ N ∧ V j ≤ 99 ∧ (cs j = nI (S j) ∧ rb j = nI (S j)) ∧ (cw j = nI (V j) ∧ rq j = nI (V j))) ∧ ∀ i j, i < b → j < b → S i = S j → i = j
section BX
variable {k : Nat} {B : Nat → Nat} {f g : Nat → Int32}
theorem q_bx (hk : k ≤ 200) (hB : ∀ j, j < k → B j < 256 ∧ f j = nI (B j)) (hG : ∀ j, j < k → B j < 256 ∧ g j = nI (B j)) {a s e K N : Nat} (hN : N ≤ 8) (ht : q_tk k B a s e K) {x : Int32} (hx : K ≠ 5 → x = nI e) :
    ∃ r, M_X7_letters (nI e) (nI K) (nI s) (nI N) f = some r ∧ M_X9_boxHere x (nI s) (nI K) (nI N) g = some r ∧ (r = -1 ∨ ∃ z, z < 2 ^ N ∧ r = nI z ∧ K ≠ 5 ∧ K ≠ 0) := by
  obtain ⟨t1, t2, t3, t4, t5, t6, t7, t8⟩ := ht
  have kn : ∀ n : Nat, n < 9 → (nI K = nI n ↔ K = n) := fun n hn => nI_eq (by omega) (by omega)
  by_cases c3 : K = 3
  · refine ⟨0, ?_, ?_, Or.inr ⟨0, Nat.two_pow_pos N, rfl, by omega, by omega⟩⟩
    · rw [M_X7_letters, if_pos (show nI K = (3 : Int32) by rw [c3]; rfl)]
    · rw [M_X9_boxHere, if_pos (show nI K = (3 : Int32) by rw [c3]; rfl)]
  · have h3 : ¬ nI K = (3 : Int32) := fun h => c3 ((kn 3 (by decide)).mp h)
    by_cases c1 : K = 1
    · have hse := t6 (by omega)
      have hr := t7 c1
      have hxe := hx (by omega)
      subst hxe
      have hch : ∀ j, j < e - s → 97 ≤ B (s + j) ∧ B (s + j) ≤ 122 := fun j hj => q_kd1 (hr (s + j) (by omega) (by omega))
      have hres : q_lr (q_lz B N s (e - s)) = -1 ∨ ∃ z, z < 2 ^ N ∧ q_lr (q_lz B N s (e - s)) = nI z ∧ K ≠ 5 ∧ K ≠ 0 := by
        cases hq : q_lz B N s (e - s) with
        | none => exact Or.inl rfl
        | some p =>
          obtain ⟨g1, g2, g3⟩ := q_lz_b (e - s) p.1 p.2 (by rw [hq])
          exact Or.inr ⟨p.1, Nat.lt_of_lt_of_le g1 (Nat.pow_le_pow_right (by decide) g2), rfl, by omega, by omega⟩
      refine ⟨q_lr (q_lz B N s (e - s)), ?_, ?_, hres⟩
      · rw [M_X7_letters, if_neg h3, if_pos (show nI K = (1 : Int32) by rw [c1]; rfl)]
        obtain ⟨t, et, h⟩ := lp_invK (body := fun z : Int32 × Int32 × Int32 => L_X7_letters_29 (nI e) (nI K) (nI s) (nI N) f z.1 z.2.1 z.2.2)
          (fun j z => ∃ p, q_lz B N s j = some p ∧ z = (nI p.1, nI p.2 + (-1), nI (s + j))) (fun t => t = q_lr (q_lz B N s (e - s))) (e - s) (by omega) (by
          rintro j z hj ⟨p, hp, rfl⟩
          obtain ⟨q1, q2⟩ := hch j hj
          obtain ⟨g1, g2, g3⟩ := q_lz_b j p.1 p.2 (by rw [hp])
          have hb := hB (s + j) (by omega)
          show (∃ z', L_X7_letters_29 (nI e) (nI K) (nI s) (nI N) f (nI p.1) (nI p.2 + (-1)) (nI (s + j)) = some (Sum.inl z') ∧ _) ∨ (∃ t, L_X7_letters_29 (nI e) (nI K) (nI s) (nI N) f (nI p.1) (nI p.2 + (-1)) (nI (s + j)) = some (Sum.inr t) ∧ _)
          rw [L_X7_letters_29, if_neg (nle (by omega) (by omega)), ix_in (vp_in_nI (by omega) (by decide)), nI_clamp (by omega), hb.2, show (97 : Int32) = nI 97 from rfl, pk_sub q1]
          have hs := q_lz_s hp
          have none_end : q_lz B N s (j + 1) = none → q_lz B N s (e - s) = none := fun h => by
            have := q_lz_n h (e - s - (j + 1))
            rw [show j + 1 + (e - s - (j + 1)) = e - s by omega] at this
            exact this
          by_cases cb : p.2 ≤ B (s + j) - 97
          · rw [if_neg (fun h => by have := (q_bef (by omega) (by omega)).mp h; omega)]
            by_cases cn : B (s + j) - 97 < N
            · left
              rw [if_pos (nI_lt cn (by omega)), pw1 _ (by omega), q_orI, nI_1]
              rw [if_pos ⟨cb, cn⟩] at hs
              exact ⟨_, rfl, _, hs, by rw [pk_m1]; rfl⟩
            · right
              rw [if_neg (nI_nlt (by omega) (by omega))]
              rw [if_neg (fun h => cn h.2)] at hs
              exact ⟨_, rfl, by rw [none_end hs]; rfl⟩
          · right
            rw [if_pos ((q_bef (by omega) (by omega)).mpr (by omega))]
            rw [if_neg (fun h => cb h.1)] at hs
            exact ⟨_, rfl, by rw [none_end hs]; rfl⟩) (by
          rintro z ⟨p, hp, rfl⟩
          refine ⟨nI p.1, ?_, by rw [hp]; rfl⟩
          show L_X7_letters_29 (nI e) (nI K) (nI s) (nI N) f (nI p.1) (nI p.2 + (-1)) (nI (s + (e - s))) = _
          rw [L_X7_letters_29, if_pos (nI_le (by omega) (by omega))]
          rfl) ((0 : Int32), (-1 : Int32), nI s) ⟨(0, 0), rfl, by rw [Nat.add_zero]; rfl⟩
        rw [et, h]
      · rw [M_X9_boxHere, if_neg h3]
        obtain ⟨t, et, h⟩ := lp_invK (body := fun z : Int32 × Int32 => L_X9_boxHere_17 (nI e) (nI s) (nI K) (nI N) g z.1 z.2)
          (fun j z => ∃ p, q_lz B N s j = some p ∧ z = (nI p.1, nI (s + j))) (fun t => t = q_lr (q_lz B N s (e - s))) (e - s) (by omega) (by
          rintro j z hj ⟨p, hp, rfl⟩
          obtain ⟨q1, q2⟩ := hch j hj
          obtain ⟨g1, g2, g3⟩ := q_lz_b j p.1 p.2 (by rw [hp])
          have hb := hG (s + j) (by omega)
          have hin : vp_in (nI (s + j)) 200 := vp_in_nI (by omega) (by decide)
          have hp8 : 2 ^ p.2 ≤ 2 ^ 8 := Nat.pow_le_pow_right (by decide) (by omega)
          show (∃ z', L_X9_boxHere_17 (nI e) (nI s) (nI K) (nI N) g (nI p.1) (nI (s + j)) = some (Sum.inl z') ∧ _) ∨ (∃ t, L_X9_boxHere_17 (nI e) (nI s) (nI K) (nI N) g (nI p.1) (nI (s + j)) = some (Sum.inr t) ∧ _)
          rw [L_X9_boxHere_17, if_neg (nle (by omega) (by omega)), if_pos (show nI K = (1 : Int32) by rw [c1]; rfl), ix_in hin, ix_in hin, nI_clamp (by omega), hb.2, show (97 : Int32) = nI 97 from rfl, pk_sub q1]
          have hs := q_lz_s hp
          have none_end : q_lz B N s (j + 1) = none → q_lz B N s (e - s) = none := fun h => by
            have := q_lz_n h (e - s - (j + 1))
            rw [show j + 1 + (e - s - (j + 1)) = e - s by omega] at this
            exact this
          by_cases cn : B (s + j) - 97 < N
          · have hp2 : 2 ^ (B (s + j) - 97) ≤ 2 ^ 8 := Nat.pow_le_pow_right (by decide) (by omega)
            rw [if_neg (nle cn (by omega)), pw1 _ (by omega)]
            by_cases cb : p.2 ≤ B (s + j) - 97
            · left
              have hp3 : 2 ^ p.2 ≤ 2 ^ (B (s + j) - 97) := Nat.pow_le_pow_right (by decide) cb
              rw [if_pos (nI_lt (by omega) (by omega)), q_orI, nI_1]
              rw [if_pos ⟨cb, cn⟩] at hs
              exact ⟨_, rfl, _, hs, rfl⟩
            · right
              have hj0 : 0 < j := by
                rcases Nat.eq_zero_or_pos j with h | h
                · subst h
                  rw [q_lz] at hp
                  have : (0 : Nat) = p.2 := congrArg Prod.snd (Option.some.inj hp)
                  omega
                · exact h
              have hp4 : 2 ^ (B (s + j) - 97) ≤ 2 ^ (p.2 - 1) := Nat.pow_le_pow_right (by decide) (by omega)
              have hp5 := (g3 hj0).2
              rw [if_neg (nI_nlt (by omega) (by omega))]
              rw [if_neg (fun h => cb h.1)] at hs
              exact ⟨_, rfl, by rw [none_end hs]; rfl⟩
          · right
            rw [if_pos (nI_le (by omega) (by omega))]
            rw [if_neg (fun h => cn h.2)] at hs
            exact ⟨_, rfl, by rw [none_end hs]; rfl⟩) (by
          rintro z ⟨p, hp, rfl⟩
          obtain ⟨g1, g2, g3⟩ := q_lz_b (e - s) p.1 p.2 (by rw [hp])
          obtain ⟨g4, g5⟩ := g3 (by omega)
          have hp8 : 2 ^ p.2 ≤ 2 ^ 8 := Nat.pow_le_pow_right (by decide) (by omega)
          have hp9 := Nat.two_pow_pos (p.2 - 1)
          refine ⟨nI p.1, ?_, by rw [hp]; rfl⟩
          show L_X9_boxHere_17 (nI e) (nI s) (nI K) (nI N) g (nI p.1) (nI (s + (e - s))) = _
          rw [L_X9_boxHere_17, if_pos (nI_le (by omega) (by omega)), B_X9_boxHere_78, if_neg (nI_ne0 (by omega) (by omega))]
          rfl) ((0 : Int32), nI s) ⟨(0, 0), rfl, by rw [Nat.add_zero]; rfl⟩
        rw [et, h]
    · have h1 : ¬ nI K = (1 : Int32) := fun h => c1 ((kn 1 (by decide)).mp h)
      refine ⟨-1, ?_, ?_, Or.inl rfl⟩
      · rw [M_X7_letters, if_neg h3, if_neg h1]
      · rw [M_X9_boxHere, if_neg h3]
        refine lp_runK (fun _ => ((0 : Int32), nI s)) 0 _ (by omega) (fun j hj => by omega) ?_
        show L_X9_boxHere_17 x (nI s) (nI K) (nI N) g 0 (nI s) = _
        rw [L_X9_boxHere_17, if_neg h1, B_X9_boxHere_78, if_pos rfl]
        split <;> rfl
/-- sizes, by both -/
theorem q_szs (hk : k ≤ 200) (hB : ∀ j, j < k → B j < 256 ∧ f j = nI (B j)) (hG : ∀ j, j < k → B j < 256 ∧ g j = nI (B j)) {a : Nat} (ha : a ≤ k) (vh vl vh' vl' : Int32) :
    ∃ s, s ≤ k ∧ (((∃ t, (∀ vk vs, M_X7_parseSizes (nI a) vk (nI k) vs vh vl f = some t) ∧ t.1 = 0 ∧ t.2.2.2.1 = nI s) ∧ ∀ vb vk vv, ∃ t, M_X9_takesSizes (nI a) vb vk vh' vl' (nI k) vv g = some t ∧ t.1 = 0 ∧ t.2.2.1 = nI s) ∨
    ∃ e lo hi, a < e ∧ e ≤ k ∧ lo ≤ hi ∧ hi ≤ 8 ∧ (∀ vk vs, M_X7_parseSizes (nI a) vk (nI k) vs vh vl f = some (1, nI e, nI 4, nI s, nI hi, nI lo)) ∧ ∀ vb vk vv, ∃ v, M_X9_takesSizes (nI a) vb vk vh' vl' (nI k) vv g = some (1, nI e, nI s, nI 4, nI hi, nI lo, v)) := by
  obtain ⟨s1, e1, K1, hs1, hA1, h1⟩ := q_num hk hB hG ha (lo := 0) (hi := 8) (by decide) (by decide) (lo' := 0) (hi' := 8) rfl rfl
  rcases h1 with ⟨h1, r1⟩ | ⟨lo, a1, a2, a3, a4, h1, n1, r1⟩
  · refine ⟨s1, hs1, Or.inl ⟨⟨(0, nI e1, nI K1, nI s1, vh, vl), fun vk vs => ?_, rfl, rfl⟩, fun vb vk vv => ?_⟩⟩
    · rw [M_X7_parseSizes, hA1, ob, h1, ob, if_pos rfl]
    · obtain ⟨t, et, t1, t2⟩ := r1 vb vk vv
      rw [M_X9_takesSizes, et, ob, if_pos t1]
      exact ⟨_, rfl, rfl, t2⟩
  · obtain ⟨s2, e2, K2, hs2, hA2, h2⟩ := q_num hk hB hG a4 (lo := lo) (hi := 8) (by omega) (by decide) (lo' := nI lo) (hi' := 8) rfl rfl
    rcases h2 with ⟨h2, r2⟩ | ⟨hi, b1, b2, b3, b4, h2, n2, r2⟩
    · refine ⟨s2, hs2, Or.inl ⟨⟨(0, nI e2, nI K2, nI s2, vh, nI lo), fun vk vs => ?_, rfl, rfl⟩, fun vb vk vv => ?_⟩⟩
      · rw [M_X7_parseSizes, hA1, ob, h1, ob, if_neg (by decide), n1, ob, hA2, ob, h2, ob, if_pos rfl]
      · obtain ⟨t, et, t1, t2⟩ := r2 (nI s1) (nI 2) (lN lo)
        rw [M_X9_takesSizes, r1, ob, if_neg (show ¬ (1 : Int32) = 0 by decide), lN_i, et, ob, if_pos t1]
        exact ⟨_, rfl, rfl, t2⟩
    · obtain ⟨s3, hs3, h3⟩ := q_stop hk hB hG b4
      rcases h3 with ⟨t3, p3, t31, t32, r3⟩ | ⟨e3, c1, c2, p3, r3⟩
      · refine ⟨s3, hs3, Or.inl ⟨⟨(t3.1, t3.2.1, t3.2.2.1, t3.2.2.2, nI hi, nI lo), fun vk vs => ?_, t31, t32⟩, fun vb vk vv => ?_⟩⟩
        · rw [M_X7_parseSizes, hA1, ob, h1, ob, if_neg (by decide), n1, ob, hA2, ob, h2, ob, if_neg (by decide), n2, ob, p3, ob, bz, if_pos (Or.inl t31)]
        · obtain ⟨t, et, t1, t2⟩ := r3 (nI s2) (nI 2) (lN hi)
          rw [M_X9_takesSizes, r1, ob, if_neg (show ¬ (1 : Int32) = 0 by decide), lN_i, r2, ob, if_neg (show ¬ (1 : Int32) = 0 by decide), et, ob, bz, if_pos (Or.inl t1)]
          exact ⟨_, rfl, t1, t2⟩
      · refine ⟨s3, hs3, Or.inr ⟨e3, lo, hi, by omega, c2, b1, b2, fun vk vs => ?_, fun vb vk vv => ?_⟩⟩
        · rw [M_X7_parseSizes, hA1, ob, h1, ob, if_neg (by decide), n1, ob, hA2, ob, h2, ob, if_neg (by decide), n2, ob, p3, ob, bz, if_pos (Or.inr rfl)]
        · obtain ⟨v, ev⟩ := r3 (nI s2) (nI 2) (lN hi)
          rw [M_X9_takesSizes, r1, ob, if_neg (show ¬ (1 : Int32) = 0 by decide), lN_i, r2, ob, if_neg (show ¬ (1 : Int32) = 0 by decide), ev, ob, bz, if_pos (Or.inr rfl), lN_i]
          exact ⟨v, rfl⟩
end BX
