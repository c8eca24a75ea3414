/-! chance: the reference -/
def q_cm (d : Nat) : Nat := if d = 0 then 840 else if d = 1 then 420 else if d < 4 then 60 else if d = 4 then 12 else if d = 5 then 6 else if d = 6 then 2 else 1
def q_s : Nat → Nat
  | 0 => 1
  | j + 1 => q_s j * q_cm (7 - j)
def q_sc (d : Nat) : Nat := q_s (8 - d)
theorem q_cmR : ∀ d, d < 9 → M_X9_common (nI d) = some (nI (q_cm d)) := by decide
theorem q_sc_s : ∀ d, d < 8 → q_sc d = q_sc (d + 1) * q_cm d := by decide
theorem q_sc_b : ∀ d, d < 9 → 0 < q_sc d ∧ q_sc d < 2 ^ 39 := by decide
theorem q_cm_d : ∀ d, d < 8 → ∀ f, f < 9 → 1 ≤ f → d + f ≤ 8 → q_cm d % f = 0 ∧ q_cm d < 1000 := by decide
theorem q_sm_mul {f : Nat → Nat} {a : Nat} : ∀ m, q_sm f m * a = q_sm (fun u => f u * a) m := by
  intro m
  induction m with
  | zero => rw [q_sm, q_sm, Nat.zero_mul]
  | succ m ih => rw [q_sm, q_sm, Nat.add_mul, ih]
theorem q_sm_up {f g : Nat → Nat} {u : Nat} : ∀ {m : Nat}, u < m → f u = 0 → (∀ j, j < m → j ≠ u → g j = f j) → q_sm g m = q_sm f m + g u := by
  intro m
  induction m with
  | zero => intro h; omega
  | succ m ih =>
    intro hu h0 h
    rw [q_sm, q_sm]
    by_cases c : u = m
    · subst c
      rw [q_sm_cg (f := g) (g := f) (fun j hj => h j (by omega) (by omega)), h0]
      omega
    · rw [ih (by omega) h0 (fun j hj => h j (by omega)), h m (by omega) (by omega)]
      omega
theorem q_sm_z {f : Nat → Nat} : ∀ {m : Nat}, (∀ j, j < m → f j = 0) → q_sm f m = 0 := by
  intro m
  induction m with
  | zero => intro _; rfl
  | succ m ih => intro h; rw [q_sm, ih (fun j hj => h j (by omega)), h m (by omega)]
section CR
variable {m : Nat} {F : Nat → Bool} {C R : Nat → Nat → Bool} {W M : Nat → Bool} {af he fi br nx box refused : Nat → Int32} {va vz : Int64} {vb vx vm vf vh vi vl vn : Int32} {sl : Nat → Int64}
def q_dc (M : Nat → Bool) (m c : Nat) : Nat := q_cnt (fun b => c.testBit b) (q_cnt M m)
theorem q_dcf (ok : q_ok m F C R W M) {c : Nat} {Mc : Nat → Bool} (okc : q_ok m F C R (q_T W M c) Mc) : q_cnt Mc m + q_dc M m c ≤ q_cnt M m := by
  unfold q_dc
  rw [← q_cnt_c]
  refine q_cnt_dis (fun u hu h => ?_) (fun u hu h => by rw [Bool.and_eq_true] at h; exact h.1)
  obtain ⟨h1, h2⟩ := (okc.2 u hu).mp h
  unfold q_T at h1
  rw [Bool.or_eq_false_iff] at h1
  refine ⟨(ok.2 u hu).mpr ⟨h1.1, q_law_sub h2 (fun i hi hx => ?_)⟩, h1.2⟩
  rcases q_ins_iff.mp hx with hx | hx
  · exact q_ins_iff.mpr (Or.inl (by unfold q_T; rw [hx]; rfl))
  · exact q_ins_iff.mpr (Or.inr hx)
/-- what a number of the table says -/
def q_Ch (m : Nat) (F : Nat → Bool) (C R : Nat → Nat → Bool) (W M : Nat → Bool) (c : Nat) (v : Int64) : Prop := ∀ Mc, q_ok m F C R (q_T W M c) Mc → ∃ x, v = lN x ∧ x * 40320 = q_Pn m C R (q_T W M c) Mc * q_sc (q_dc M m c)
theorem q_ch1 (sy : q_sy C R) (hm : m ≤ 16) (ok : q_ok m F C R W M) (h8 : q_cnt M m ≤ 8) (hfi : ∀ u, u < m → M u = true → fi (q_cnt M u) = nI u) (hsl : ∀ d, d ≤ 8 → sl d = lN (q_sc d)) {c : Nat} (hc : c < 2 ^ q_cnt M m) {Mc : Nat → Bool} (okc : q_ok m F C R (q_T W M c) Mc) (ha : af c = q_mk Mc m) {ch : Nat → Int64} (hch : ∀ c', c < c' → c' < 2 ^ q_cnt M m → q_Ch m F C R W M c' (ch c')) :
    ∃ g, lpN (fun z : Int32 × (Nat → Int64) => L_X9_chance_145 (nI c) (nI (q_dc M m c)) (nI (q_cnt Mc m)) va vb vz vx vm (nI (q_cnt M m)) vf vh vi vl vn af br box fi he nx refused sl z.1 z.2) fuelK ((0 : Int32), vp_updL ch c 0) = some (Sum.inl (nI c + (-1), g)) ∧ q_Ch m F C R W M c (g c) ∧ ∀ c', c' ≠ c → g c' = ch c' := by
  have h256 : 2 ^ q_cnt M m ≤ 2 ^ 8 := Nat.pow_le_pow_right (by decide) h8
  have hcin : vp_in (nI c) 256 := vp_in_nI (by omega) (by decide)
  have hdf := q_dcf ok okc
  obtain ⟨p1, p2⟩ := q_Pn_ok (m := m) (C := C) (R := R) (T := q_T W M c) (M := Mc) (by omega)
  have hMc : ∀ u, u < m → Mc u = true → M u = true := fun u hu h => by
    obtain ⟨h1, h2⟩ := (okc.2 u hu).mp h
    refine (ok.2 u hu).mpr ⟨?_, q_law_sub h2 (fun i hi hx => ?_)⟩
    · unfold q_T at h1
      rw [Bool.or_eq_false_iff] at h1
      exact h1.1
    · rcases q_ins_iff.mp hx with hx | hx
      · exact q_ins_iff.mpr (Or.inl (by unfold q_T; rw [hx]; rfl))
      · exact q_ins_iff.mpr (Or.inr hx)
  rcases Nat.eq_zero_or_pos (q_cnt Mc m) with h0 | h0
  · refine ⟨vp_updL ch c 0, ?_, ?_, fun c' h => pk_uLn h⟩
    · refine lp_runK (fun _ => ((0 : Int32), vp_updL ch c 0)) 0 _ (by omega) (fun j hj => by omega) ?_
      show L_X9_chance_145 (nI c) (nI (q_dc M m c)) (nI (q_cnt Mc m)) va vb vz vx vm (nI (q_cnt M m)) vf vh vi vl vn af br box fi he nx refused sl 0 (vp_updL ch c 0) = _
      rw [L_X9_chance_145, if_pos (show nI (q_cnt Mc m) ≤ 0 by rw [h0]; decide)]
      split <;> rfl
    · intro Mc' okc'
      refine ⟨0, by rw [pk_uLs]; rfl, ?_⟩
      have h1 : q_Pn m C R (q_T W M c) Mc' = 0 := by
        have h2 : q_cnt Mc' m = 0 := by rw [← q_cnt_cg (q_ok_M okc okc')]; exact h0
        unfold q_Pn
        rw [q_P, h2, Nat.div_zero]
      rw [h1, Nat.zero_mul, Nat.zero_mul]
  · have hd7 : q_dc M m c < 8 := by omega
    obtain ⟨k1, k2⟩ := q_cm_d _ hd7 (q_cnt Mc m) (by omega) h0 (by omega)
    obtain ⟨kf, hkf⟩ := Nat.dvd_of_mod_eq_zero k1
    obtain ⟨sb1, sb2⟩ := q_sc_b (q_dc M m c + 1) (by omega)
    -- the children
    have hkid : ∀ u, u < m → Mc u = true → c.testBit (q_cnt M u) = false ∧ c ||| 2 ^ q_cnt M u < 2 ^ q_cnt M m ∧ ∃ x, ch (c ||| 2 ^ q_cnt M u) = lN x ∧ x * 40320 = q_Pn m C R (q_ins (q_T W M c) u) (q_stp m C R u (q_T W M c) Mc) * q_sc (q_dc M m c + 1) := fun u hu hMu => by
      have hM := hMc u hu hMu
      have hTu := ((okc.2 u hu).mp hMu).1
      have hcb : c.testBit (q_cnt M u) = false := by
        unfold q_T at hTu
        rw [Bool.or_eq_false_iff, hM, Bool.true_and] at hTu
        exact hTu.2
      have hci : q_cnt M u < q_cnt M m := q_cnt_mo hu hM
      obtain ⟨a1, a2, a3⟩ := q_addb (c := c) (b := q_cnt M u) (by omega) hcb
      have hc2 : c ||| 2 ^ q_cnt M u < 2 ^ q_cnt M m := Nat.or_lt_two_pow hc (Nat.pow_lt_pow_right (by decide) hci)
      have hTc : q_T W M (c ||| 2 ^ q_cnt M u) = q_ins (q_T W M c) u := q_T_in hM a2
      have hdc : q_dc M m (c ||| 2 ^ q_cnt M u) = q_dc M m c + 1 := by
        unfold q_dc
        rw [← q_cnt_in (P := fun b => c.testBit b) hci hcb]
        apply q_cnt_cg
        intro i hi
        show (c ||| 2 ^ q_cnt M u).testBit i = (c.testBit i || i == q_cnt M u)
        rw [a2]
        by_cases e : i = q_cnt M u
        · subst e; simp
        · rw [decide_eq_false e, show (i == q_cnt M u) = false from beq_eq_false_iff_ne.mpr e]
      obtain ⟨x, x1, x2⟩ := hch _ a3 hc2 (q_stp m C R u (q_T W M c) Mc) (by rw [hTc]; exact q_ok_step sy okc hu hMu)
      rw [hTc, hdc] at x2
      exact ⟨hcb, hc2, x, x1, x2⟩
    let X : Nat → Nat := fun u => q_Pn m C R (q_ins (q_T W M c) u) (q_stp m C R u (q_T W M c) Mc) * q_sc (q_dc M m c + 1) / 40320
    have hX : ∀ u, u < m → Mc u = true → ch (c ||| 2 ^ q_cnt M u) = lN (X u) ∧ X u * 40320 = q_Pn m C R (q_ins (q_T W M c) u) (q_stp m C R u (q_T W M c) Mc) * q_sc (q_dc M m c + 1) ∧ X u ≤ q_sc (q_dc M m c + 1) := fun u hu hMu => by
      obtain ⟨-, -, x, x1, x2⟩ := hkid u hu hMu
      have hxX : X u = x := by
        show q_Pn m C R (q_ins (q_T W M c) u) (q_stp m C R u (q_T W M c) Mc) * q_sc (q_dc M m c + 1) / 40320 = x
        rw [← x2]; omega
      have hcs := q_stp_cnt (C := C) (R := R) (T := q_T W M c) hu hMu
      have hPle := (q_Pn_ok (m := m) (C := C) (R := R) (T := q_ins (q_T W M c) u) (M := q_stp m C R u (q_T W M c) Mc) (by omega)).1
      rw [hxX]
      refine ⟨x1, x2, ?_⟩
      have h9 := Nat.mul_le_mul_right (q_sc (q_dc M m c + 1)) hPle
      omega
    let G : Nat → Nat := fun u => (q_sc (q_dc M m c + 1) - X u) * kf
    let Y : Nat → Nat := fun b => q_sm (fun u => if (Mc u && decide (q_cnt M u < b)) = true then G u else 0) m
    obtain ⟨t, et, g, rfl, hg1, hg2⟩ := lp_invK (body := fun z : Int32 × (Nat → Int64) => L_X9_chance_145 (nI c) (nI (q_dc M m c)) (nI (q_cnt Mc m)) va vb vz vx vm (nI (q_cnt M m)) vf vh vi vl vn af br box fi he nx refused sl z.1 z.2)
      (fun b z => ∃ g, z = (nI b, g) ∧ g c = lN (Y b) ∧ ∀ c', c' ≠ c → g c' = ch c')
      (fun t => ∃ g, t = Sum.inl (nI c + (-1), g) ∧ g c = lN (Y (q_cnt M m)) ∧ ∀ c', c' ≠ c → g c' = ch c') (q_cnt M m) (by omega) (by
      rintro b z hb ⟨g, rfl, hg1, hg2⟩
      obtain ⟨u, hu, hMu, hcu⟩ := q_nth (M := M) m b hb
      have hcm : M_X9_comes af fi (nI c) (nI b) = some (if Mc u = true then 1 else 0) := by
        have := q_comesR hm (M := M) (fi := fi) (c := c) (by omega) hu ha (hfi u hu hMu)
        rw [hcu] at this
        exact this
      have hYs : Y (b + 1) = Y b + (if Mc u = true then G u else 0) := by
        have h1 := q_sm_up (f := fun w => if (Mc w && decide (q_cnt M w < b)) = true then G w else 0) (g := fun w => if (Mc w && decide (q_cnt M w < b + 1)) = true then G w else 0) hu (by
          show (if (Mc u && decide (q_cnt M u < b)) = true then G u else 0) = 0
          rw [hcu, decide_eq_false (Nat.lt_irrefl b), Bool.and_false, if_neg q_ff]) (fun w hw hwu => by
          show (if (Mc w && decide (q_cnt M w < b + 1)) = true then G w else 0) = if (Mc w && decide (q_cnt M w < b)) = true then G w else 0
          cases hMw : Mc w with
          | false => rfl
          | true =>
            have : q_cnt M w ≠ b := fun h => hwu (q_cnt_inj (hMc w hw hMw) hMu (by rw [h, hcu]))
            by_cases e : q_cnt M w < b
            · rw [decide_eq_true e, decide_eq_true (show q_cnt M w < b + 1 by omega)]
            · rw [decide_eq_false e, decide_eq_false (show ¬ q_cnt M w < b + 1 by omega)])
        have h2 : (if (Mc u && decide (q_cnt M u < b + 1)) = true then G u else 0) = if Mc u = true then G u else 0 := by
          rw [hcu, decide_eq_true (Nat.lt_succ_self b), Bool.and_true]
        rw [← h2]
        exact h1
      have hB : ∀ s3, B_X9_chance_209 (nI c) (nI (q_dc M m c)) (nI (q_cnt Mc m)) (nI b) (nI c) (g c) s3 va vb vz vx vm (nI (q_cnt M m)) vf vh vi vl vn af br box g fi he nx refused sl = some (Sum.inl (nI (b + 1), vp_updL g c (g c + s3))) := fun s3 => by
        rw [B_X9_chance_209, ix_in hcin, nI_clamp (by omega), nI_1]
      left
      show ∃ z', L_X9_chance_145 (nI c) (nI (q_dc M m c)) (nI (q_cnt Mc m)) va vb vz vx vm (nI (q_cnt M m)) vf vh vi vl vn af br box fi he nx refused sl (nI b) g = some (Sum.inl z') ∧ _
      rw [L_X9_chance_145, if_neg (nle hb (by omega)), if_neg (nI_nle h0 (by omega)), ix_in hcin, hcm, ob, nI_clamp (by omega), hB]
      cases hMcu : Mc u with
      | false =>
        rw [nb0]
        refine ⟨_, rfl, _, rfl, ?_, fun c' h => by rw [pk_uLn h]; exact hg2 c' h⟩
        rw [pk_uLs, hYs, hMcu, if_neg q_ff, hg1]
        exact lN_add (Y b) 0
      | true =>
        obtain ⟨hcb, hc2, -⟩ := hkid u hu hMcu
        obtain ⟨x1, x2, x3⟩ := hX u hu hMcu
        rw [hcu] at hcb hc2 x1
        obtain ⟨a1, a2, a3⟩ := q_addb (c := c) (b := b) (by omega) hcb
        have hcf : q_cm (q_dc M m c) / q_cnt Mc m = kf := by rw [hkf]; exact Nat.mul_div_cancel_left kf h0
        have hkle : kf < 1000 := by
          have : 1 * kf ≤ q_cnt Mc m * kf := Nat.mul_le_mul_right kf h0
          omega
        rw [nb1, nI_1 (q_dc M m c), ix_in (vp_in_nI (by omega) (by decide)), a1, ix_in (vp_in_nI (by omega) (by decide)), q_cmR _ (by omega), ob, dz, if_neg (nI_ne0 h0 (by omega)), hB, nI_clamp (by omega), nI_clamp (by omega), hsl _ (by omega), hg2 (c ||| 2 ^ b) (by omega), x1, pk_div (by omega) h0 (by omega), hcf, nI_l (by omega), lN_sub x3, lN_mul]
        refine ⟨_, rfl, _, rfl, ?_, fun c' h => by rw [pk_uLn h]; exact hg2 c' h⟩
        rw [pk_uLs, hYs, hMcu, if_pos rfl, hg1, lN_add]) (by
      rintro z ⟨g, rfl, hg1, hg2⟩
      refine ⟨_, ?_, g, rfl, hg1, hg2⟩
      show L_X9_chance_145 (nI c) (nI (q_dc M m c)) (nI (q_cnt Mc m)) va vb vz vx vm (nI (q_cnt M m)) vf vh vi vl vn af br box fi he nx refused sl (nI (q_cnt M m)) g = _
      rw [L_X9_chance_145, if_pos (nI_le (Nat.le_refl _) (by omega))]
      rfl) ((0 : Int32), vp_updL ch c 0) ⟨_, rfl, by
        rw [pk_uLs]
        have : Y 0 = 0 := q_sm_z (fun u _ => by
          show (if (Mc u && decide (q_cnt M u < 0)) = true then G u else 0) = 0
          rw [decide_eq_false (Nat.not_lt_zero _), Bool.and_false, if_neg q_ff])
        rw [this]; rfl, fun c' h => pk_uLn h⟩
    refine ⟨g, et, fun Mc' okc' => ⟨Y (q_cnt M m), hg1, ?_⟩, hg2⟩
    have hPc : q_Pn m C R (q_T W M c) Mc' = q_Pn m C R (q_T W M c) Mc := q_P_cg 16 _ _ Mc' Mc (fun _ _ => rfl) (q_ok_M okc' okc)
    rw [hPc, q_sc_s _ hd7, hkf]
    show q_sm (fun u => if (Mc u && decide (q_cnt M u < q_cnt M m)) = true then G u else 0) m * 40320 = _
    rw [q_sm_mul]
    have e1 : q_sm (fun u => (if (Mc u && decide (q_cnt M u < q_cnt M m)) = true then G u else 0) * 40320) m = q_sm (fun u => (if Mc u = true then 40320 - q_Pn m C R (q_ins (q_T W M c) u) (q_stp m C R u (q_T W M c) Mc) else 0) * (q_sc (q_dc M m c + 1) * kf)) m := q_sm_cg (fun u hu => by
      cases hMu : Mc u with
      | false => rw [Bool.false_and, if_neg q_ff, if_neg q_ff, Nat.zero_mul, Nat.zero_mul]
      | true =>
        obtain ⟨x1, x2, x3⟩ := hX u hu hMu
        rw [decide_eq_true (q_cnt_mo hu (hMc u hu hMu)), Bool.true_and, if_pos rfl, if_pos rfl]
        show (q_sc (q_dc M m c + 1) - X u) * kf * 40320 = (40320 - q_Pn m C R (q_ins (q_T W M c) u) (q_stp m C R u (q_T W M c) Mc)) * (q_sc (q_dc M m c + 1) * kf)
        rw [Nat.mul_assoc, Nat.mul_comm kf 40320, ← Nat.mul_assoc, Nat.sub_mul, x2, ← Nat.mul_assoc (40320 - _), Nat.sub_mul, Nat.mul_comm (q_sc (q_dc M m c + 1)) 40320, Nat.sub_mul, Nat.sub_mul])
    rw [e1, ← q_sm_mul, ← p2]
    rw [Nat.mul_comm (q_cnt Mc m) (q_Pn m C R (q_T W M c) Mc), Nat.mul_assoc, Nat.mul_left_comm (q_cnt Mc m)]
end CR
