/-! chance: the program -/
theorem q_modb (c k : Nat) : c % 2 ^ (k + 1) = if c.testBit k = true then c % 2 ^ k + 2 ^ k else c % 2 ^ k := by
  apply Nat.eq_of_testBit_eq
  intro i
  have hlt : c % 2 ^ k < 2 ^ k := Nat.mod_lt _ (Nat.two_pow_pos k)
  rw [Nat.testBit_mod_two_pow]
  cases h : c.testBit k with
  | false =>
    rw [if_neg q_ff, Nat.testBit_mod_two_pow]
    by_cases c1 : i < k
    · rw [decide_eq_true c1, decide_eq_true (show i < k + 1 by omega)]
    · by_cases c2 : i = k
      · subst c2; rw [h]; simp
      · rw [decide_eq_false c1, decide_eq_false (show ¬ i < k + 1 by omega)]
  | true =>
    rw [if_pos rfl, show c % 2 ^ k + 2 ^ k = 2 ^ k * 1 + c % 2 ^ k by omega, Nat.testBit_two_pow_mul_add 1 hlt]
    by_cases c1 : i < k
    · rw [if_pos c1, Nat.testBit_mod_two_pow, decide_eq_true c1, decide_eq_true (show i < k + 1 by omega)]
    · rw [if_neg c1]
      by_cases c2 : i = k
      · subst c2; rw [h, Nat.sub_self, decide_eq_true (Nat.lt_succ_self i)]; rfl
      · obtain ⟨t, ht⟩ : ∃ t, i - k = t + 1 := ⟨i - k - 1, by omega⟩
        rw [decide_eq_false (show ¬ i < k + 1 by omega), ht, Nat.testBit_succ]
        exact (Nat.zero_testBit t).symm
section PC
variable {m : Nat} {F : Nat → Bool} {C R : Nat → Nat → Bool} {c n : Nat → Int32}
/-- those that may come from the list -/
theorem q_comC (hm : m ≤ 16) (W B : Nat → Bool) : M_X5_comers (q_mk B m) (q_mk W m) (nI m) = some (q_mk (fun u => !(W u || B u)) m) := by
  rw [M_X5_comers, M_X3_all, ob, q_all (by omega), q_or W B (by omega), q_dif _ _ (by omega)]
  congr 1
theorem q_plC (hm : m ≤ 16) {W B : Nat → Bool} (h8 : q_cnt (fun u => !(W u || B u)) m ≤ 8) {x : Nat} (hx : x < 2 ^ q_cnt (fun u => !(W u || B u)) m) : M_X5_placeOf (q_mk B m) (q_mk W m) (nI m) (q_mk (q_T W (fun u => !(W u || B u)) x) m &&& (q_mk W m ^^^ (-1 : Int32))) = some (nI x) := by
  rw [M_X5_placeOf, q_comC hm, ob, q_dif _ _ (by omega)]
  generalize hM : (fun u => !(W u || B u)) = M at h8 hx ⊢
  have hMW : ∀ u, M u = true → W u = false := fun u h => by
    rw [← hM] at h
    cases hW : W u with
    | false => rfl
    | true => simp [hW] at h
  have h2 : ∀ i, i ≤ m → q_cnt M i ≤ 8 := fun i hi => by
    have h3 : q_cnt M i ≤ q_cnt M m := by
      rcases Nat.lt_or_ge i m with h4 | h4
      · obtain ⟨d, rfl⟩ : ∃ d, m = i + d := ⟨m - i, by omega⟩
        clear h4 hi h8 hx hm
        induction d with
        | zero => exact Nat.le_refl _
        | succ d ih => show q_cnt M i ≤ q_cnt M (i + d) + _; omega
      · have : i = m := by omega
        rw [this]; exact Nat.le_refl _
    omega
  have h256 : 2 ^ q_cnt M m ≤ 2 ^ 8 := Nat.pow_le_pow_right (by decide) h8
  have e0 : ((0 : Int32), (1 : Int32), (0 : Int32)) = (nI (x % 2 ^ q_cnt M 0), nI (2 ^ q_cnt M 0), nI 0) := by
    rw [show q_cnt M 0 = 0 from rfl, Nat.pow_zero, Nat.mod_one]
    rfl
  rw [e0]
  refine lp_runK (fun i => (nI (x % 2 ^ q_cnt M i), nI (2 ^ q_cnt M i), nI i)) m _ (by omega) (fun i hi => ?_) ?_
  · show L_X5_placeOf_13 (q_mk (fun j => q_T W M x j && !W j) m) (q_mk M m) (q_mk B m) (q_mk W m) (nI m) (nI (x % 2 ^ q_cnt M i)) (nI (2 ^ q_cnt M i)) (nI i) = some (Sum.inl (nI (x % 2 ^ q_cnt M (i + 1)), nI (2 ^ q_cnt M (i + 1)), nI (i + 1)))
    have hci := h2 i (by omega)
    rw [L_X5_placeOf_13, if_neg (nle hi (by omega)), q_has _ (by omega), ob, q_bt _ (by omega), decide_eq_true hi, Bool.true_and, nI_1, q_cnt]
    cases hMi : M i with
    | false => rw [nb0, if_neg q_ff]; rfl
    | true =>
      have hlt : x % 2 ^ q_cnt M i < 2 ^ q_cnt M i := Nat.mod_lt _ (Nat.two_pow_pos _)
      have e1 : (q_T W M x i && !W i) = x.testBit (q_cnt M i) := by
        unfold q_T
        rw [hMW i hMi, hMi]; simp
      have e2 : nI (2 ^ q_cnt M i) <<< ((1 : Int32) &&& 31) = nI (2 ^ (q_cnt M i + 1)) := by
        rw [pk_shlN ((1 : Int32) &&& 31) 1 (by decide) (by
          have : 2 ^ q_cnt M i ≤ 2 ^ 8 := Nat.pow_le_pow_right (by decide) hci
          omega), Nat.pow_one, Nat.pow_succ]
      rw [nb1, if_pos rfl, q_has _ (by omega), ob, q_bt _ (by omega), decide_eq_true hi, Bool.true_and, e1, B_X5_placeOf_50, B_X5_placeOf_50, e2, nI_1, q_modb]
      cases hb : x.testBit (q_cnt M i) with
      | false => rw [nb0, if_neg q_ff, Int32.or_zero]
      | true =>
        rw [nb1, if_pos rfl]
        congr 3
        apply b_ext
        intro j hj
        rw [b_or, q_nIbt _ hj, q_nIbt _ hj, q_nIbt _ hj, show x % 2 ^ q_cnt M i + 2 ^ q_cnt M i = 2 ^ q_cnt M i * 1 + x % 2 ^ q_cnt M i by omega, Nat.testBit_two_pow_mul_add 1 hlt, Nat.testBit_two_pow]
        by_cases c1 : j < q_cnt M i
        · rw [if_pos c1, decide_eq_false (show ¬ q_cnt M i = j by omega), Bool.or_false]
        · rw [if_neg c1, Nat.testBit_mod_two_pow, decide_eq_false c1, Bool.false_and, Bool.false_or]
          by_cases c2 : q_cnt M i = j
          · rw [decide_eq_true c2, c2, Nat.sub_self]; rfl
          · obtain ⟨t, ht⟩ : ∃ t, j - q_cnt M i = t + 1 := ⟨j - q_cnt M i - 1, by omega⟩
            rw [decide_eq_false c2, ht, Nat.testBit_succ]
            exact (Nat.zero_testBit t).symm
  · show L_X5_placeOf_13 (q_mk (fun j => q_T W M x j && !W j) m) (q_mk M m) (q_mk B m) (q_mk W m) (nI m) (nI (x % 2 ^ q_cnt M m)) (nI (2 ^ q_cnt M m)) (nI m) = some (Sum.inr (nI x))
    rw [L_X5_placeOf_13, if_pos (nI_le (Nat.le_refl m) (by omega)), Nat.mod_eq_of_lt hx, show (Int32.ofNat 256) - (1 : Int32) = 255 by decide, pk_andN (n := x) (by omega) 8 (by decide), Nat.mod_eq_of_lt (show x < 2 ^ 8 by omega)]
    rfl
/-- what is kept of the parts -/
def q_Kp (m : Nat) (F : Nat → Bool) (C R : Nat → Nat → Bool) (W M : Nat → Bool) (pa : Nat → Int32) : Prop := ∀ x, x < 2 ^ q_cnt M m → pa x = -1 ∨ ∃ Mx, q_ok m F C R (q_T W M x) Mx ∧ pa x = nI (q_Pn m C R (q_T W M x) Mx)
theorem q_pfC (sy : q_sy C R) (hm : m ≤ 16) (hc : ∀ j, j < m → c j = q_mk (C j) m) (hn : ∀ j, j < m → n j = q_mk (R j) m) {W B0 : Nat → Bool} (ok0 : q_ok m F C R W (fun u => !(W u || B0 u))) (h8 : q_cnt (fun u => !(W u || B0 u)) m ≤ 8) :
    ∀ (D x : Nat) (B : Nat → Bool) (pa : Nat → Int32) (dep : Nat), x < 2 ^ q_cnt (fun u => !(W u || B0 u)) m → q_ok m F C R (q_T W (fun u => !(W u || B0 u)) x) (fun u => !(q_T W (fun u => !(W u || B0 u)) x u || B u)) → q_cnt (fun u => !(q_T W (fun u => !(W u || B0 u)) x u || B u)) m < D → dep + q_cnt (fun u => !(q_T W (fun u => !(W u || B0 u)) x u || B u)) m ≤ 8 → q_Kp m F C R W (fun u => !(W u || B0 u)) pa →
    ∃ t, M_X5_partsFrom D (q_mk B0 m) (q_mk W m) pa (nI m) c n (q_mk (q_T W (fun u => !(W u || B0 u)) x) m) (q_mk B m) (nI dep) = some t ∧ t.1 = nI (q_Pn m C R (q_T W (fun u => !(W u || B0 u)) x) (fun u => !(q_T W (fun u => !(W u || B0 u)) x u || B u))) ∧ q_Kp m F C R W (fun u => !(W u || B0 u)) t.2 := by
  intro D
  induction D with
  | zero => intro x B pa dep _ _ h; omega
  | succ D ih =>
    intro x B pa dep hx ok hD hdep hK
    have hpl := q_plC hm h8 hx
    have h256 : 2 ^ q_cnt (fun u => !(W u || B0 u)) m ≤ 2 ^ 8 := Nat.pow_le_pow_right (by decide) h8
    have hxin : vp_in (nI x) 256 := vp_in_nI (by omega) (by decide)
    have hF : M_X5_partsFrom (D + 1) (q_mk B0 m) (q_mk W m) pa (nI m) c n (q_mk (q_T W (fun u => !(W u || B0 u)) x) m) (q_mk B m) (nI dep) = F_X5_partsFrom (M_X5_partsFrom D) (q_mk B0 m) (q_mk W m) pa (nI m) c n (q_mk (q_T W (fun u => !(W u || B0 u)) x) m) (q_mk B m) (nI dep) := rfl
    rw [hF, F_X5_partsFrom, hpl, ob, ix_in hxin, nI_clamp (by omega)]
    generalize hM0 : (fun u => !(W u || B0 u)) = M0 at *
    have hsub : ∀ u, u < m → (!(q_T W M0 x u || B u)) = true → M0 u = true := fun u hu h => by
      obtain ⟨h1, h2⟩ := (ok.2 u hu).mp h
      refine (ok0.2 u hu).mpr ⟨?_, q_law_sub h2 (fun i hi hx => ?_)⟩
      · unfold q_T at h1
        rw [Bool.or_eq_false_iff] at h1
        exact h1.1
      · rcases q_ins_iff.mp hx with hx | hx
        · exact q_ins_iff.mpr (Or.inl (by unfold q_T; rw [hx]; rfl))
        · exact q_ins_iff.mpr (Or.inr hx)
    generalize hT : q_T W M0 x = T at *
    generalize hMT : (fun u => !(T u || B u)) = MT at *
    have hMTu : ∀ u, MT u = !(T u || B u) := fun u => by rw [← hMT]
    obtain ⟨p1, p2⟩ := q_Pn_ok (C := C) (R := R) (T := T) (M := MT) (show q_cnt MT m ≤ 8 by omega)
    by_cases hk : pa x = -1
    · rw [if_pos hk]
      obtain ⟨t, et, h1, h2⟩ := lp_invK (body := fun z : Int32 × Int32 × Int32 × (Nat → Int32) => L_X5_partsFrom_42 (M_X5_partsFrom D) (q_mk T m) (q_mk B m) (nI dep) (nI x) (q_mk B0 m) (q_mk W m) (nI m) c n z.1 z.2.1 z.2.2.1 z.2.2.2)
        (fun i z => ∃ pa, z = (nI (q_sm (fun u => if MT u = true then 40320 - q_Pn m C R (q_ins T u) (q_stp m C R u T MT) else 0) i), nI (q_cnt MT i), nI i, pa) ∧ q_Kp m F C R W M0 pa)
        (fun t => t.1 = nI (q_Pn m C R T MT) ∧ q_Kp m F C R W M0 t.2) m (by omega) (by
        rintro i z hi ⟨pa, rfl, hK⟩
        left
        show ∃ z', L_X5_partsFrom_42 (M_X5_partsFrom D) (q_mk T m) (q_mk B m) (nI dep) (nI x) (q_mk B0 m) (q_mk W m) (nI m) c n (nI (q_sm (fun u => if MT u = true then 40320 - q_Pn m C R (q_ins T u) (q_stp m C R u T MT) else 0) i)) (nI (q_cnt MT i)) (nI i) pa = some (Sum.inl z') ∧ _
        rw [L_X5_partsFrom_42, if_neg (nle hi (by omega)), if_neg (show ¬ (8 : Int32) < nI dep from nI_nlt (a := 8) (by omega) (by decide)), q_or T B (by omega), q_has _ (by omega), ob, q_bt _ (by omega), decide_eq_true hi, Bool.true_and, nI_1 i]
        cases hb : (T i || B i) with
        | true =>
          have hMi : MT i = false := by rw [hMTu, hb]; rfl
          rw [nb1]
          refine ⟨_, rfl, pa, ?_, hK⟩
          rw [q_sm, q_cnt, hMi, if_neg q_ff, if_neg q_ff]
          rfl
        | false =>
          have hMi : MT i = true := by rw [hMTu, hb]; rfl
          have hM0i : M0 i = true := hsub i hi (by rw [hb]; rfl)
          have hTi := ((ok.2 i hi).mp hMi).1
          have hxb : x.testBit (q_cnt M0 i) = false := by
            rw [← hT] at hTi
            unfold q_T at hTi
            rw [Bool.or_eq_false_iff, hM0i, Bool.true_and] at hTi
            exact hTi.2
          have hci : q_cnt M0 i < q_cnt M0 m := q_cnt_mo hi hM0i
          obtain ⟨a1, a2, a3⟩ := q_addb (c := x) (b := q_cnt M0 i) (by omega) hxb
          have hx2 : x ||| 2 ^ q_cnt M0 i < 2 ^ q_cnt M0 m := Nat.or_lt_two_pow hx (Nat.pow_lt_pow_right (by decide) hci)
          have hTc : q_T W M0 (x ||| 2 ^ q_cnt M0 i) = q_ins T i := by rw [← hT]; exact q_T_in hM0i (fun j => a2 j)
          have hst : (fun u => !(q_ins T i u || (B u || q_bb m C R i T u))) = q_stp m C R i T MT := by rw [← hMT]; exact q_stp_sb T B
          have hok2 := q_ok_step sy ok hi hMi
          have hcs := q_stp_cnt (C := C) (R := R) (T := T) hi hMi
          obtain ⟨t, et, t1, t2⟩ := ih (x ||| 2 ^ q_cnt M0 i) (fun u => B u || q_bb m C R i T u) pa (dep + 1) hx2 (by rw [hTc, hst]; exact hok2) (by rw [hTc, hst]; omega) (by rw [hTc, hst]; omega) hK
          rw [hTc, hst] at t1
          rw [hTc] at et
          rw [nb0, q_barC hm hi hc hn T, ob, q_or B _ (by omega), q_insm T (by omega) hi, nI_1 dep, et, ob, t1]
          have hPle := (q_Pn_ok (C := C) (R := R) (m := m) (T := q_ins T i) (M := q_stp m C R i T MT) (by omega)).1
          refine ⟨_, rfl, t.2, ?_, t2⟩
          rw [q_sm, q_cnt, hMi, if_pos rfl, if_pos rfl, show (40320 : Int32) = nI 40320 from rfl, pk_sub hPle, nI_add, nI_1 (q_cnt MT i)]) (by
        rintro z ⟨pa, rfl, hK⟩
        have hfin : ∀ v, v = nI (q_Pn m C R T MT) → ∃ t, Option.map Sum.inr (B_X5_partsFrom_133 (M_X5_partsFrom D) (nI x) (nI x) v (q_mk B0 m) (q_mk W m) pa (nI m) c n) = some (Sum.inr t : (Int32 × Int32 × Int32 × (Nat → Int32)) ⊕ (Int32 × (Nat → Int32))) ∧ t.1 = nI (q_Pn m C R T MT) ∧ q_Kp m F C R W M0 t.2 := fun v hv => by
          rw [B_X5_partsFrom_133, ix_in hxin, ix_in hxin, nI_clamp (by omega), pk_us]
          refine ⟨_, rfl, hv, fun y hy => ?_⟩
          by_cases e : y = x
          · right
            subst e
            refine ⟨MT, by rw [hT]; exact ok, ?_⟩
            show upd pa y v y = _
            rw [pk_us, hv, hT]
          · have hu : upd pa x v y = pa y := pk_un e
            show upd pa x v y = -1 ∨ ∃ Mx, q_ok m F C R (q_T W M0 y) Mx ∧ upd pa x v y = nI (q_Pn m C R (q_T W M0 y) Mx)
            rw [hu]
            exact hK y hy
        show ∃ t, L_X5_partsFrom_42 (M_X5_partsFrom D) (q_mk T m) (q_mk B m) (nI dep) (nI x) (q_mk B0 m) (q_mk W m) (nI m) c n (nI (q_sm (fun u => if MT u = true then 40320 - q_Pn m C R (q_ins T u) (q_stp m C R u T MT) else 0) m)) (nI (q_cnt MT m)) (nI m) pa = some (Sum.inr t) ∧ _
        rw [L_X5_partsFrom_42, if_pos (nI_le (Nat.le_refl m) (by omega)), B_X5_partsFrom_113, ← p2]
        rcases Nat.eq_zero_or_pos (q_cnt MT m) with h0 | h0
        · rw [h0, if_pos nI_0]
          refine hfin 0 ?_
          have : q_Pn m C R T MT = 0 := by
            unfold q_Pn
            rw [q_P, h0, Nat.div_zero]
          rw [this]; rfl
        · have hcm : q_cnt MT m ≤ 8 := by omega
          have hmul : q_cnt MT m * q_Pn m C R T MT ≤ 8 * 40320 := Nat.mul_le_mul hcm p1
          rw [if_neg (nI_ne0 h0 (by omega)), dz, if_neg (nI_ne0 h0 (by omega)), pk_div (by omega) h0 (by omega), Nat.mul_div_cancel_left _ h0]
          exact hfin _ rfl) ((0 : Int32), (0 : Int32), (0 : Int32), pa) ⟨pa, rfl, hK⟩
      exact ⟨t, et, h1, h2⟩
    · rw [if_neg hk, ix_in hxin]
      rcases hK x hx with h | ⟨Mx, h1, h2⟩
      · exact absurd h hk
      · refine ⟨_, rfl, ?_, hK⟩
        show pa x = _
        rw [h2, hT]
        rw [hT] at h1
        exact congrArg nI (q_P_cg 16 T T Mx MT (fun _ _ => rfl) (q_ok_M h1 ok))
end PC
