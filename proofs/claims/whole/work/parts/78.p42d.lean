/-! chance: the reference's table -/
section CT
variable {m : Nat} {F : Nat → Bool} {C R : Nat → Nat → Bool} {W M : Nat → Bool} {af he fi br nx box refused : Nat → Int32} {va vz : Int64} {vb vx vm vf vh vi vl vn : Int32}
theorem q_ch2 (sy : q_sy C R) (hm : m ≤ 16) (ok : q_ok m F C R W M) (h8 : q_cnt M m ≤ 8) (hfi : ∀ u, u < m → M u = true → fi (q_cnt M u) = nI u) (hSp : ∀ c, c < 2 ^ q_cnt M m → q_Sp m F C R (q_T W M c) (af c) (he c)) {sl : Nat → Int64} (hsl : ∀ d, d ≤ 8 → sl d = lN (q_sc d)) (c0 : Nat → Int64) :
    ∃ x ch, x * 40320 = q_Pn m C R W M * q_sc 0 ∧ lpN (fun z : Int32 × (Nat → Int64) => L_X9_chance_101 va vb vz vx vm (nI (q_cnt M m)) vf vh vi vl vn af br box fi he nx refused sl z.1 z.2) fuelK (nI (2 ^ q_cnt M m) - 1, c0) = some (1, lN (x / Nat.gcd x (q_sc 0)), vb, lN (q_sc 0 / Nat.gcd x (q_sc 0)), vm, nI (q_cnt M m), vf, vi, af, br, ch, fi, he, nx, refused, sl) := by
  have h256 : 2 ^ q_cnt M m ≤ 2 ^ 8 := Nat.pow_le_pow_right (by decide) h8
  have h21 := Nat.two_pow_pos (q_cnt M m)
  obtain ⟨t, et, x, ch, hx, rfl⟩ := lp_invK (body := fun z : Int32 × (Nat → Int64) => L_X9_chance_101 va vb vz vx vm (nI (q_cnt M m)) vf vh vi vl vn af br box fi he nx refused sl z.1 z.2)
    (fun j z => ∃ ch, z = (nI (2 ^ q_cnt M m - j) + (-1), ch) ∧ ∀ c, 2 ^ q_cnt M m - j ≤ c → c < 2 ^ q_cnt M m → q_Ch m F C R W M c (ch c))
    (fun t => ∃ x ch, x * 40320 = q_Pn m C R W M * q_sc 0 ∧ t = (1, lN (x / Nat.gcd x (q_sc 0)), vb, lN (q_sc 0 / Nat.gcd x (q_sc 0)), vm, nI (q_cnt M m), vf, vi, af, br, ch, fi, he, nx, refused, sl)) (2 ^ q_cnt M m) (by omega) (by
    rintro j z hj ⟨ch, rfl, hch⟩
    obtain ⟨c, hcj⟩ : ∃ c, 2 ^ q_cnt M m - j = c + 1 := ⟨2 ^ q_cnt M m - j - 1, by omega⟩
    have hcj2 : 2 ^ q_cnt M m - (j + 1) = c := by omega
    rw [hcj] at hch
    rw [hcj2]
    have hclt : c < 2 ^ q_cnt M m := by omega
    have hcin : vp_in (nI c) 65536 := vp_in_nI (by omega) (by decide)
    have hcin2 : vp_in (nI c) 256 := vp_in_nI (by omega) (by decide)
    have hmany : M_X9_many (nI c) = some (nI (q_dc M m c)) := by
      rw [q_tbm (k := q_cnt M m) (by omega) hclt, q_many _ (by omega)]
      rfl
    left
    show ∃ z', L_X9_chance_101 va vb vz vx vm (nI (q_cnt M m)) vf vh vi vl vn af br box fi he nx refused sl (nI (2 ^ q_cnt M m - j) + (-1)) ch = some (Sum.inl z') ∧ _
    rw [hcj, pk_m1, L_X9_chance_101, if_neg (nI_pos (by omega)), hmany, ob, ix_in hcin, ix_in hcin, nI_clamp (by omega)]
    rcases (hSp c hclt).2 with ⟨Mc, okc, ea⟩ | ⟨nl, ea⟩
    · have hv : q_val Mc m < 2 ^ 31 := Nat.lt_of_lt_of_le (q_val_lt Mc m) (Nat.le_trans (Nat.pow_le_pow_right (by decide) hm) (show 2 ^ 16 ≤ 2 ^ 31 by decide))
      obtain ⟨g, e1, e2, e3⟩ := q_ch1 (va := va) (vz := vz) (vb := vb) (vx := vx) (vm := vm) (vf := vf) (vh := vh) (vi := vi) (vl := vl) (vn := vn) (br := br) (box := box) (he := he) (nx := nx) (refused := refused) sy hm ok h8 hfi hsl hclt okc ea (ch := ch) (fun c' h1 h2 => hch c' (by omega) h2)
      rw [ea, if_neg (show ¬ q_mk Mc m = (-1 : Int32) from q_nm1 hv), q_many Mc (by omega), ob, B_X9_chance_133, ix_in hcin2, nI_clamp (by omega), e1]
      refine ⟨_, rfl, g, rfl, fun c' h1 h2 => ?_⟩
      by_cases e : c' = c
      · rw [e]; exact e2
      · rw [e3 c' e]; exact hch c' (by omega) h2
    · rw [if_pos ea, B_X9_chance_133, ix_in hcin2, nI_clamp (by omega)]
      have e1 : lpN (fun z : Int32 × (Nat → Int64) => L_X9_chance_145 (nI c) (nI (q_dc M m c)) 0 va vb vz vx vm (nI (q_cnt M m)) vf vh vi vl vn af br box fi he nx refused sl z.1 z.2) fuelK ((0 : Int32), vp_updL ch c 0) = some (Sum.inl (nI c + (-1), vp_updL ch c 0)) := by
        refine lp_runK (fun _ => ((0 : Int32), vp_updL ch c 0)) 0 _ (by omega) (fun j hj => by omega) ?_
        show L_X9_chance_145 (nI c) (nI (q_dc M m c)) 0 va vb vz vx vm (nI (q_cnt M m)) vf vh vi vl vn af br box fi he nx refused sl 0 (vp_updL ch c 0) = _
        rw [L_X9_chance_145, if_pos (show (0 : Int32) ≤ 0 by decide)]
        split <;> rfl
      rw [e1]
      refine ⟨_, rfl, _, rfl, fun c' h1 h2 => ?_⟩
      by_cases e : c' = c
      · intro Mc okc
        rw [e] at okc
        exact absurd okc.1 nl
      · rw [pk_uLn e]; exact hch c' (by omega) h2) (by
    rintro z ⟨ch, rfl, hch⟩
    rw [Nat.sub_self] at hch ⊢
    obtain ⟨x, x1, x2⟩ := hch 0 (Nat.zero_le 0) h21 M (by rw [q_T0]; exact ok)
    have hd0 : q_dc M m 0 = 0 := q_cnt_z (fun i _ => Nat.zero_testBit i)
    rw [q_T0, hd0] at x2
    obtain ⟨sb1, sb2⟩ := q_sc_b 0 (by decide)
    have hPle := (q_Pn_ok (m := m) (C := C) (R := R) (T := W) (M := M) h8).1
    have hxle : x ≤ q_sc 0 := by
      have := Nat.mul_le_mul_right (q_sc 0) hPle
      omega
    have hg : 0 < Nat.gcd x (q_sc 0) := Nat.gcd_pos_of_pos_right _ sb1
    have hgy : Nat.gcd x (q_sc 0) ≤ q_sc 0 := Nat.gcd_le_right _ sb1
    refine ⟨_, ?_, x, ch, x2, rfl⟩
    show L_X9_chance_101 va vb vz vx vm (nI (q_cnt M m)) vf vh vi vl vn af br box fi he nx refused sl (nI 0 + (-1)) ch = _
    rw [L_X9_chance_101, if_pos (by decide), ix_in (show vp_in (0 : Int32) 256 from vp_in_nI (n := 0) (by decide) (by decide)), ix_in (show vp_in (0 : Int32) 9 from vp_in_nI (n := 0) (by decide) (by decide)), show (0 : Int32).toNatClampNeg = 0 from rfl, x1, hsl 0 (by decide), M_X9_tell, gcd_R (by omega) (by omega), ob, dzL, if_neg (lN_ne0 hg (by omega)), dzL, if_neg (lN_ne0 hg (by omega)), pk_lDiv (by omega) hg (by omega), pk_lDiv (by omega) hg (by omega), ob]
    rfl) (nI (2 ^ q_cnt M m) - 1, c0) ⟨c0, by rw [q_m1]; rfl, fun c h1 h2 => by omega⟩
  exact ⟨x, ch, hx, et⟩
theorem q_ch3 (sy : q_sy C R) (hm : m ≤ 16) (ok : q_ok m F C R W M) (h8 : q_cnt M m ≤ 8) (hfi : ∀ u, u < m → M u = true → fi (q_cnt M u) = nI u) (hSp : ∀ c, c < 2 ^ q_cnt M m → q_Sp m F C R (q_T W M c) (af c) (he c)) (c0 s0 : Nat → Int64) :
    ∃ x ch sl, x * 40320 = q_Pn m C R W M * q_sc 0 ∧ lpN (fun z : Int32 × (Nat → Int64) => L_X9_chance_62 va vb vz vx vm (nI (q_cnt M m)) vf vh vi vl vn af br box c0 fi he nx refused z.1 z.2) fuelK ((7 : Int32), vp_updL s0 8 1) = some (1, lN (x / Nat.gcd x (q_sc 0)), vb, lN (q_sc 0 / Nat.gcd x (q_sc 0)), vm, nI (q_cnt M m), vf, vi, af, br, ch, fi, he, nx, refused, sl) := by
  obtain ⟨t, et, x, ch, sl, hx, rfl⟩ := lp_invK (body := fun z : Int32 × (Nat → Int64) => L_X9_chance_62 va vb vz vx vm (nI (q_cnt M m)) vf vh vi vl vn af br box c0 fi he nx refused z.1 z.2)
    (fun j z => ∃ s, z = (nI (8 - j) + (-1), s) ∧ ∀ d, 8 - j ≤ d → d ≤ 8 → s d = lN (q_sc d))
    (fun t => ∃ x ch sl, x * 40320 = q_Pn m C R W M * q_sc 0 ∧ t = (1, lN (x / Nat.gcd x (q_sc 0)), vb, lN (q_sc 0 / Nat.gcd x (q_sc 0)), vm, nI (q_cnt M m), vf, vi, af, br, ch, fi, he, nx, refused, sl)) 8 (by decide) (by
    rintro j z hj ⟨s, rfl, hs⟩
    obtain ⟨d, hd⟩ : ∃ d, 8 - j = d + 1 := ⟨7 - j, by omega⟩
    have hd2 : 8 - (j + 1) = d := by omega
    rw [hd] at hs
    rw [hd2]
    left
    show ∃ z', L_X9_chance_62 va vb vz vx vm (nI (q_cnt M m)) vf vh vi vl vn af br box c0 fi he nx refused (nI (8 - j) + (-1)) s = some (Sum.inl z') ∧ _
    have hcm : q_cm d < 1000 := (q_cm_d d (by omega) 1 (by decide) (by decide) (by omega)).2
    rw [hd, pk_m1, L_X9_chance_62, if_neg (nI_pos (by omega)), nI_1, ix_in (vp_in_nI (by omega) (by decide)), q_cmR d (by omega), ob, ix_in (vp_in_nI (by omega) (by decide)), nI_clamp (by omega), nI_clamp (by omega), hs (d + 1) (Nat.le_refl _) (by omega), nI_l (by omega), lN_mul, ← q_sc_s d (by omega)]
    refine ⟨_, rfl, _, rfl, fun e h1 h2 => ?_⟩
    by_cases c1 : e = d
    · subst c1; exact pk_uLs
    · rw [pk_uLn c1]; exact hs e (by omega) h2) (by
    rintro z ⟨s, rfl, hs⟩
    have hn := q_cnt_le M m
    obtain ⟨x, ch, hx, e1⟩ := q_ch2 (va := va) (vz := vz) (vb := vb) (vx := vx) (vm := vm) (vf := vf) (vh := vh) (vi := vi) (vl := vl) (vn := vn) (br := br) (box := box) (nx := nx) (refused := refused) sy hm ok h8 hfi hSp (sl := s) (fun d hd => hs d (by omega) hd) c0
    refine ⟨_, ?_, x, ch, s, hx, rfl⟩
    show L_X9_chance_62 va vb vz vx vm (nI (q_cnt M m)) vf vh vi vl vn af br box c0 fi he nx refused (nI 0 + (-1)) s = _
    rw [L_X9_chance_62, if_pos (by decide), pw1 _ (by omega), e1]
    rfl) ((7 : Int32), vp_updL s0 8 1) ⟨_, by rw [show nI (8 - 0) + (-1) = (7 : Int32) by decide], fun d h1 h2 => by
      have : d = 8 := by omega
      subst this
      rw [pk_uLs]
      rfl⟩
  exact ⟨x, ch, sl, hx, et⟩
end CT
