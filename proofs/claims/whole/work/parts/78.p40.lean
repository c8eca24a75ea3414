/-! The game: the reference -/
theorem q_cnt_mo {M : Nat → Bool} {u j : Nat} (h : u < j) (hM : M u = true) : q_cnt M u < q_cnt M j := by
  have key : ∀ d, q_cnt M u < q_cnt M (u + 1 + d) := by
    intro d
    induction d with
    | zero => show q_cnt M u < q_cnt M u + (if M u = true then 1 else 0); rw [if_pos hM]; omega
    | succ d ih => show q_cnt M u < q_cnt M (u + 1 + d) + (if M (u + 1 + d) = true then 1 else 0); omega
  have := key (j - (u + 1))
  rw [show u + 1 + (j - (u + 1)) = j by omega] at this
  exact this
theorem q_nth {M : Nat → Bool} : ∀ m b, b < q_cnt M m → ∃ u, u < m ∧ M u = true ∧ q_cnt M u = b := by
  intro m
  induction m with
  | zero => intro b h; exact absurd h (Nat.not_lt_zero b)
  | succ m ih =>
    intro b h
    rw [q_cnt] at h
    by_cases c : b < q_cnt M m
    · obtain ⟨u, h1, h2, h3⟩ := ih b c
      exact ⟨u, by omega, h2, h3⟩
    · cases hM : M m with
      | false => rw [hM, if_neg q_ff] at h; omega
      | true => rw [hM, if_pos rfl] at h; exact ⟨m, by omega, hM, by omega⟩
theorem q_cnt_inj {M : Nat → Bool} {u v : Nat} (hu : M u = true) (hv : M v = true) (h : q_cnt M u = q_cnt M v) : u = v := by
  rcases Nat.lt_trichotomy u v with c | c | c
  · have := q_cnt_mo c hu; omega
  · exact c
  · have := q_cnt_mo c hv; omega
section GR
variable {m : Nat} {F : Nat → Bool} {C R : Nat → Nat → Bool}
theorem q_firsts (hm : m ≤ 16) {M : Nat → Bool} (vb vx vf vh vl vn : Int32) (bars box near : Nat → Int32) (f0 : Nat → Int32) : ∃ fi, (∀ u, u < m → M u = true → fi (q_cnt M u) = nI u) ∧ lpN (fun z : Int32 × Int32 × (Nat → Int32) => L_X9_begins_101 vb vx (q_mk M m) vf vh (nI m) vl vn bars box near z.1 z.2.1 z.2.2) fuelK ((0 : Int32), (0 : Int32), f0) = some (1, vb, q_mk M m, nI (q_cnt M m), vf, nI m, bars, fi, near) := by
  obtain ⟨t, et, fi, h1, rfl⟩ := lp_invK (body := fun z : Int32 × Int32 × (Nat → Int32) => L_X9_begins_101 vb vx (q_mk M m) vf vh (nI m) vl vn bars box near z.1 z.2.1 z.2.2)
    (fun j z => ∃ fi, z = (nI j, nI (q_cnt M j), fi) ∧ ∀ u, u < j → M u = true → fi (q_cnt M u) = nI u)
    (fun t => ∃ fi, (∀ u, u < m → M u = true → fi (q_cnt M u) = nI u) ∧ t = (1, vb, q_mk M m, nI (q_cnt M m), vf, nI m, bars, fi, near)) m (by omega) (by
    rintro j z hj ⟨fi, rfl, hfi⟩
    have hcl := q_cnt_le M j
    left
    show ∃ z', L_X9_begins_101 vb vx (q_mk M m) vf vh (nI m) vl vn bars box near (nI j) (nI (q_cnt M j)) fi = some (Sum.inl z') ∧ _
    rw [L_X9_begins_101, if_neg (nle hj (by omega)), nI_1 j, nI_1 (q_cnt M j)]
    cases hM : M j with
    | true =>
      rw [if_pos ((q_hasR1 _ (by omega)).mpr (by rw [q_bt _ (by omega), decide_eq_true hj, hM]; rfl)), ix_in (vp_in_nI (by omega) (by decide)), nI_clamp (by omega)]
      refine ⟨_, rfl, _, by rw [q_cnt, hM, if_pos rfl], fun u hu hMu => ?_⟩
      rcases Nat.lt_or_ge u j with h | h
      · have := q_cnt_mo h hMu
        rw [pk_un (by omega)]
        exact hfi u h hMu
      · have : u = j := by omega
        rw [this]; exact pk_us
    | false =>
      rw [if_neg (fun h => by
        have := (q_hasR1 _ (by omega)).mp h
        rw [q_bt _ (by omega), hM, Bool.and_false] at this; cases this)]
      refine ⟨_, rfl, fi, (by rw [q_cnt, hM, if_neg q_ff]; rfl), fun u hu hMu => ?_⟩
      rcases Nat.lt_or_ge u j with h | h
      · exact hfi u h hMu
      · have : u = j := by omega
        rw [this, hM] at hMu; cases hMu) (by
    rintro z ⟨fi, rfl, hfi⟩
    refine ⟨_, ?_, fi, hfi, rfl⟩
    show L_X9_begins_101 vb vx (q_mk M m) vf vh (nI m) vl vn bars box near (nI m) (nI (q_cnt M m)) fi = _
    rw [L_X9_begins_101, if_pos (nI_le (Nat.le_refl m) (by omega))]
    rfl) ((0 : Int32), (0 : Int32), f0) ⟨f0, rfl, fun u hu => absurd hu (by omega)⟩
  exact ⟨fi, h1, et⟩
/-- the boxes of the list and those that a number tells -/
def q_T (W M : Nat → Bool) (c u : Nat) : Bool := W u || (M u && c.testBit (q_cnt M u))
theorem q_T0 (W M : Nat → Bool) : q_T W M 0 = W := by
  funext u
  unfold q_T
  rw [Nat.zero_testBit, Bool.and_false, Bool.or_false]
theorem q_T_in {W M : Nat → Bool} {a c u : Nat} (hM : M u = true) (h : ∀ i, c.testBit i = (a.testBit i || decide (i = q_cnt M u))) : q_T W M c = q_ins (q_T W M a) u := by
  funext x
  show (W x || (M x && c.testBit (q_cnt M x))) = ((W x || (M x && a.testBit (q_cnt M x))) || x == u)
  rw [h]
  by_cases e : x = u
  · subst e; rw [hM]; simp
  · rw [show (x == u) = false from beq_eq_false_iff_ne.mpr e, Bool.or_false]
    cases hx : M x with
    | false => rfl
    | true =>
      rw [decide_eq_false (fun h2 => e (q_cnt_inj hx hM h2)), Bool.or_false]
def q_Sp (m : Nat) (F : Nat → Bool) (C R : Nat → Nat → Bool) (T : Nat → Bool) (a h : Int32) : Prop := h = q_mk T m ∧ ((∃ M, q_ok m F C R T M ∧ a = q_mk M m) ∨ (¬ q_law m F C R T ∧ a = -1))
theorem q_lowc {c t : Nat} (hc : c < 2 ^ 31) (b1 : c.testBit t = true) (b0 : ∀ i, i < t → c.testBit i = false) : nI c &&& (-(nI c)) = nI (2 ^ t) ∧ nI c &&& (nI c - 1) = nI (c &&& (c - 1)) ∧ ∀ i, (c &&& (c - 1)).testBit i = (c.testBit i && !decide (i = t)) := by
  have hpos : 1 ≤ c := by
    rcases Nat.eq_zero_or_pos c with h | h
    · rw [h, Nat.zero_testBit] at b1; cases b1
    · exact h
  refine ⟨?_, ?_, fun i => ?_⟩
  · have e : -(nI c) = nI (4294967296 - c) := by
      rw [← Int32.zero_sub, show (0 : Int32) = nI 4294967296 from rfl, pk_sub (by omega)]
    rw [e, nx_and]
    congr 1
    apply Nat.eq_of_testBit_eq
    intro i
    rw [Nat.testBit_and, show 4294967296 - c = 2 ^ 32 - ((c - 1) + 1) by omega, Nat.testBit_two_pow_sub_succ (by omega), q_low b1 b0, Nat.testBit_two_pow]
    by_cases c1 : i < t
    · rw [b0 i c1, decide_eq_false (show ¬ t = i by omega)]; rfl
    · rw [if_neg c1]
      by_cases c2 : i = t
      · subst c2
        have : i < 32 := by
          rcases Nat.lt_or_ge i 32 with h | h
          · exact h
          · rw [Nat.testBit_lt_two_pow (Nat.lt_of_lt_of_le hc (Nat.pow_le_pow_right (by decide) (by omega)))] at b1; cases b1
        rw [if_pos rfl, b1, decide_eq_true this, decide_eq_true rfl]; rfl
      · rw [if_neg c2, decide_eq_false (Ne.symm c2)]
        cases c.testBit i <;> simp
  · rw [show nI c - 1 = nI (c - 1) from pk_sub (a := c) (b := 1) hpos, nx_and]
  · rw [Nat.testBit_and, q_low b1 b0]
    by_cases c1 : i < t
    · rw [b0 i c1]; simp
    · rw [if_neg c1]
      by_cases c2 : i = t
      · subst c2; rw [if_pos rfl]; simp
      · rw [if_neg c2, decide_eq_false c2]; simp
theorem q_many2 {t : Nat} (ht : t ≤ 16) : M_X9_many (nI (2 ^ t) - 1) = some (nI t) := by
  have h : ∀ t, t < 17 → M_X9_many (nI (2 ^ t) - 1) = some (nI t) := by decide +kernel
  exact h t (by omega)
theorem q_spR (sy : q_sy C R) (hm : m ≤ 16) {L : Nat} {br nx : Nat → Int32} (hst : ∀ k S M, k < m → M_X9_still (nI m) br nx (nI L) (nI k) (q_mk S m) (q_mk M m) = some (q_mk (q_stp m C R k S M) m)) {W M : Nat → Bool} (ok : q_ok m F C R W M) {fi : Nat → Int32} (hfi : ∀ u, u < m → M u = true → fi (q_cnt M u) = nI u) (a0 h0 : Nat → Int32) :
    ∃ af he, M_X9_spreads (q_mk W m) (q_mk M m) (nI (q_cnt M m)) (nI m) a0 br fi h0 nx (nI L) = some (af, he) ∧ ∀ c, c < 2 ^ q_cnt M m → q_Sp m F C R (q_T W M c) (af c) (he c) := by
  have hn := q_cnt_le M m
  have h216 : 2 ^ q_cnt M m ≤ 2 ^ 16 := Nat.pow_le_pow_right (by decide) (by omega)
  have h21 := Nat.two_pow_pos (q_cnt M m)
  obtain ⟨t, et, ht⟩ := lp_invK (body := fun z : Int32 × (Nat → Int32) × (Nat → Int32) => L_X9_spreads_22 (nI L) (q_mk W m) (q_mk M m) (nI (q_cnt M m)) (nI m) br fi nx z.1 z.2.1 z.2.2)
    (fun j z => ∃ af he, z = (nI (1 + j), af, he) ∧ ∀ c, c < 1 + j → q_Sp m F C R (q_T W M c) (af c) (he c))
    (fun t => ∀ c, c < 2 ^ q_cnt M m → q_Sp m F C R (q_T W M c) (t.1 c) (t.2 c)) (2 ^ q_cnt M m - 1) (by omega) (by
    rintro j z hj ⟨af, he, rfl, hSp⟩
    obtain ⟨c, hcj⟩ : ∃ c, c = 1 + j := ⟨_, rfl⟩
    rw [show 1 + (j + 1) = c + 1 by omega]
    rw [← hcj] at hSp ⊢
    have hclt : c < 2 ^ q_cnt M m := by omega
    have hex : ∃ t, c.testBit t = true := by
      by_cases hx : ∃ t, c.testBit t = true
      · exact hx
      · have : c = 0 := Nat.eq_of_testBit_eq (fun i => by
          rw [Nat.zero_testBit]
          cases hq : c.testBit i with
          | false => rfl
          | true => exact absurd ⟨i, hq⟩ hx)
        omega
    obtain ⟨t, b1, b2⟩ := pk_least _ hex
    have b0 : ∀ i, i < t → c.testBit i = false := fun i hi => by
      cases hq : c.testBit i with
      | false => rfl
      | true => exact absurd hq (b2 i hi)
    have htn : t < q_cnt M m := by
      rcases Nat.lt_or_ge t (q_cnt M m) with h | h
      · exact h
      · rw [Nat.testBit_lt_two_pow (Nat.lt_of_lt_of_le hclt (Nat.pow_le_pow_right (by decide) h))] at b1; cases b1
    obtain ⟨u, hu, hMu, hcu⟩ := q_nth m t htn
    obtain ⟨l1, l2, l3⟩ := q_lowc (by omega) b1 b0
    obtain ⟨a, ha⟩ : ∃ a, a = c &&& (c - 1) := ⟨_, rfl⟩
    have hac : a < c := by
      have : c &&& (c - 1) ≤ c - 1 := Nat.and_le_right
      omega
    rw [← ha] at l2 l3
    have hTc : q_T W M c = q_ins (q_T W M a) u := q_T_in hMu (fun i => by
      rw [l3, hcu]
      by_cases c1 : i = t
      · subst c1; rw [b1]; simp
      · rw [decide_eq_false c1]; simp)
    have hTau : q_T W M a u = false := by
      unfold q_T
      rw [((ok.2 u hu).mp hMu).1, hMu, hcu, l3, decide_eq_true rfl]; simp
    have ht16 : vp_in (nI t) 16 := vp_in_nI (by omega) (by decide)
    have hain : vp_in (nI a) 65536 := vp_in_nI (by omega) (by decide)
    have hcin : vp_in (nI c) 65536 := vp_in_nI (by omega) (by decide)
    obtain ⟨s1, s2⟩ := hSp a hac
    have fin : ∀ x, ((∃ M', q_ok m F C R (q_T W M c) M' ∧ x = q_mk M' m) ∨ (¬ q_law m F C R (q_T W M c) ∧ x = -1)) → ∃ z', some (Sum.inl (nI (c + 1), upd af c x, upd he c (q_mk (q_T W M c) m))) = some (Sum.inl z' : (Int32 × (Nat → Int32) × (Nat → Int32)) ⊕ ((Nat → Int32) × (Nat → Int32))) ∧ ∃ af he, z' = (nI (c + 1), af, he) ∧ ∀ c', c' < c + 1 → q_Sp m F C R (q_T W M c') (af c') (he c') := fun x hx => by
      refine ⟨_, rfl, _, _, rfl, fun c' hc' => ?_⟩
      by_cases c1 : c' = c
      · subst c1
        rw [pk_us, pk_us]
        exact ⟨rfl, hx⟩
      · rw [pk_un c1, pk_un c1]
        exact hSp c' (by omega)
    left
    show ∃ z', L_X9_spreads_22 (nI L) (q_mk W m) (q_mk M m) (nI (q_cnt M m)) (nI m) br fi nx (nI c) af he = some (Sum.inl z') ∧ _
    have hf : fi t = nI u := by rw [← hcu]; exact hfi u hu hMu
    have h83 : B_X9_spreads_83 (nI L) (nI c) (nI a) (nI u) (q_mk W m) (q_mk M m) (nI (q_cnt M m)) (nI m) af br fi he nx = some (Sum.inl (nI (c + 1), upd af c (-1), upd he c (q_mk (q_T W M c) m))) := by
      rw [B_X9_spreads_83, B_X9_spreads_84, ix_in hain, ix_in hcin, if_pos rfl, B_X9_spreads_136, ix_in hcin, nI_clamp (by omega), nI_clamp (by omega), nI_1, s1, q_insm _ (by omega) hu, ← hTc]
    rw [L_X9_spreads_22, pw1 _ (by omega), if_neg (nle hclt (by omega)), l1, q_many2 (by omega), ob, ix_in ht16, l2, ix_in hain, nI_clamp (by omega), nI_clamp (by omega), hf, ix_in hain, h83]
    rcases s2 with ⟨Ma, oka, ea⟩ | ⟨nl, ea⟩
    · have hv : q_val Ma m < 2 ^ 31 := Nat.lt_of_lt_of_le (q_val_lt Ma m) (Nat.le_trans (Nat.pow_le_pow_right (by decide) hm) (show 2 ^ 16 ≤ 2 ^ 31 by decide))
      rw [ea, if_neg (show ¬ q_mk Ma m = (-1 : Int32) from q_nm1 hv)]
      cases hMa : Ma u with
      | true =>
        rw [if_pos ((q_hasR1 _ (by omega)).mpr (by rw [q_bt _ (by omega), decide_eq_true hu, hMa]; rfl)), B_X9_spreads_84, ix_in hain, ix_in hcin, if_neg (by decide), ix_in hain, ix_in hain, nI_clamp (by omega), nI_clamp (by omega), pk_un (show a ≠ c by omega), s1, ea, hst u _ _ hu, ob, B_X9_spreads_136, ix_in hcin, nI_clamp (by omega), nI_1, q_insm _ (by omega) hu, ← hTc]
        refine fin _ (Or.inl ⟨_, ?_, rfl⟩)
        rw [hTc]
        exact q_ok_step sy oka hu hMa
      | false =>
        rw [if_neg (fun h => by
          have := (q_hasR1 _ (by omega)).mp h
          rw [q_bt _ (by omega), hMa, Bool.and_false] at this; cases this)]
        refine fin _ (Or.inr ⟨fun hl => ?_, rfl⟩)
        rw [hTc] at hl
        have := (oka.2 u hu).mpr ⟨hTau, hl⟩
        rw [hMa] at this; cases this
    · rw [if_pos ea]
      refine fin _ (Or.inr ⟨fun hl => nl (q_law_sub hl (fun i _ h => ?_)), rfl⟩)
      rw [hTc]
      exact q_ins_iff.mpr (Or.inl h)) (by
    rintro z ⟨af, he, rfl, hSp⟩
    refine ⟨(af, he), ?_, fun c hc => hSp c (by omega)⟩
    show L_X9_spreads_22 (nI L) (q_mk W m) (q_mk M m) (nI (q_cnt M m)) (nI m) br fi nx (nI (1 + (2 ^ q_cnt M m - 1))) af he = _
    rw [L_X9_spreads_22, pw1 _ (by omega), if_pos (nI_le (by omega) (by omega))]
    rfl) ((1 : Int32), upd a0 0 (q_mk M m), upd h0 0 (q_mk W m)) ⟨_, _, rfl, fun c hc => by
      have : c = 0 := by omega
      subst this
      rw [pk_us, pk_us, q_T0]
      exact ⟨rfl, Or.inl ⟨M, ok, rfl⟩⟩⟩
  have h0in : vp_in (0 : Int32) 65536 := vp_in_nI (n := 0) (by decide) (by decide)
  refine ⟨t.1, t.2, ?_, ht⟩
  rw [M_X9_spreads, ix_in h0in, ix_in h0in]
  exact et
end GR
