/-! The game: the reference's table -/
section GT
variable {m : Nat} {F : Nat → Bool} {C R : Nat → Nat → Bool}
theorem q_ok_M {W M M' : Nat → Bool} (h : q_ok m F C R W M) (g : q_ok m F C R W M') : ∀ u, u < m → M u = M' u := fun u hu => by
  have h1 := (h.2 u hu).trans (g.2 u hu).symm
  cases hM : M u <;> cases hM' : M' u <;> simp [hM, hM'] at h1 ⊢
theorem q_best_cg {W M M' : Nat → Bool} {x : Int32} (hM : ∀ u, u < m → M u = M' u) (h : q_best m F C R W M x) : q_best m F C R W M' x := by
  rcases h with ⟨h1, h2⟩ | ⟨u, h1, h2, h3, h4, h5⟩
  · exact Or.inl ⟨h1, fun u hu hx => h2 u hu (by rw [hM u hu]; exact hx)⟩
  · exact Or.inr ⟨u, h1, h2, by rw [← hM u h1]; exact h3, h4, fun u' hu' hx => h5 u' hu' (by rw [hM u' (by omega)]; exact hx)⟩
theorem q_best_w (hm : m ≤ 16) {W M : Nat → Bool} (ok : q_ok m F C R W M) {x : Int32} (h : q_best m F C R W M x) : x = -1 ↔ ¬ q_wn m F C R W := by
  rw [q_wn_ok hm ok]
  rcases h with ⟨h1, h2⟩ | ⟨u, h1, h2, h3, h4, h5⟩
  · refine ⟨fun _ => ?_, fun _ => h1⟩
    rintro ⟨u, g1, g2, g3⟩
    exact g3 (h2 u g1 g2)
  · refine ⟨fun h => ?_, fun h => absurd ⟨u, h1, h3, h4⟩ h⟩
    rw [h2] at h
    exact absurd h (q_nm1 (by omega))
theorem q_begR {k L lo hi N : Nat} (hk : k ≤ 16) (hL : L ≤ 4) (hlo : lo ≤ 8) (hh : hi ≤ 8) (hN : N ≤ 4) {S : Nat → Nat} {box : Nat → Int32} (hS : ∀ j, j < k → S j < 2 ^ N ∧ box j = nI (S j)) (gD : ∀ i j, i < k → j < k → S i = S j → i = j) (v1 v2 v3 v4 v5 : Int32) (bars first near : Nat → Int32) :
    ∃ br nx, (∀ j S' M', j < 2 ^ N → M_X9_still (nI (2 ^ N)) br nx (nI L) (nI j) (q_mk S' (2 ^ N)) (q_mk M' (2 ^ N)) = some (q_mk (q_stp (2 ^ N) (q_C L (fun j => j)) (q_R L (fun j => j)) j S' M') (2 ^ N))) ∧
    ∃ t, M_X9_begins v1 (nI k) v2 v3 v4 (nI hi) v5 (nI lo) (nI N) bars box first near (nI L) = some t ∧ ((t.1 = 0 ∧ ¬ q_law (2 ^ N) (q_F L lo hi (fun j => j)) (q_C L (fun j => j)) (q_R L (fun j => j)) (q_li S k)) ∨ ∃ M fi, q_ok (2 ^ N) (q_F L lo hi (fun j => j)) (q_C L (fun j => j)) (q_R L (fun j => j)) (q_li S k) M ∧ (∀ u, u < 2 ^ N → M u = true → fi (q_cnt M u) = nI u) ∧ t = (1, q_mk (q_li S k) (2 ^ N), q_mk M (2 ^ N), nI (q_cnt M (2 ^ N)), q_mk (q_F L lo hi (fun j => j)) (2 ^ N), nI (2 ^ N), br, fi, nx)) := by
  have h16 := q_p16 hN
  obtain ⟨br, nx, elr, hb, hnx⟩ := q_layAR hL hlo hh hN (nI k) v4 v5 bars box near
  have hst : ∀ j S' M', j < 2 ^ N → M_X9_still (nI (2 ^ N)) br nx (nI L) (nI j) (q_mk S' (2 ^ N)) (q_mk M' (2 ^ N)) = some (q_mk (q_stp (2 ^ N) (q_C L (fun j => j)) (q_R L (fun j => j)) j S' M') (2 ^ N)) := fun j S' M' hj => q_stillR hL h16 hj (fun i j _ _ h => h) hb hnx S' M'
  refine ⟨br, nx, hst, ?_⟩
  rw [M_X9_begins, elr, ob]
  have sy := q_syA L (fun j => j)
  generalize q_F L lo hi (fun j => j) = F
  refine lp_invK (body := fun z : Int32 × Int32 × Int32 => L_X9_begins_22 (nI L) (nI k) v3 (q_mk F (2 ^ N)) (nI hi) (nI (2 ^ N)) (nI lo) (nI N) br box first nx z.1 z.2.1 z.2.2)
    (fun i z => ∃ M, z = (nI i, q_mk (q_li S i) (2 ^ N), q_mk M (2 ^ N)) ∧ q_ok (2 ^ N) F (q_C L (fun j => j)) (q_R L (fun j => j)) (q_li S i) M)
    (fun t => (t.1 = 0 ∧ ¬ q_law (2 ^ N) F (q_C L (fun j => j)) (q_R L (fun j => j)) (q_li S k)) ∨ ∃ M fi, q_ok (2 ^ N) F (q_C L (fun j => j)) (q_R L (fun j => j)) (q_li S k) M ∧ (∀ u, u < 2 ^ N → M u = true → fi (q_cnt M u) = nI u) ∧ t = (1, q_mk (q_li S k) (2 ^ N), q_mk M (2 ^ N), nI (q_cnt M (2 ^ N)), q_mk F (2 ^ N), nI (2 ^ N), br, fi, nx)) k (by omega) ?_ ?_ ((0 : Int32), (0 : Int32), q_mk F (2 ^ N)) ⟨F, by
      rw [show q_li S 0 = fun _ => false from rfl, q_0]; rfl, q_ok_0 sy⟩
  · rintro i z hi' ⟨M, rfl, ok⟩
    obtain ⟨hSi, hbi⟩ := hS i hi'
    have hin : vp_in (nI i) 16 := vp_in_nI (by omega) (by decide)
    have hlk : ∀ u, q_ins (q_li S i) (S i) u = true → q_li S k u = true := fun u hu => by
      rw [← q_li_s] at hu
      unfold q_li at hu ⊢
      obtain ⟨j, h1, h2⟩ := (q_ex_iff _ _).mp hu
      exact (q_ex_iff _ _).mpr ⟨j, by omega, h2⟩
    have hWi : q_li S i (S i) = false := by
      cases hq : q_li S i (S i) with
      | false => rfl
      | true =>
        unfold q_li at hq
        obtain ⟨j, h1, h2⟩ := (q_ex_iff _ _).mp hq
        rw [beq_iff_eq] at h2
        have := gD j i (by omega) hi' h2
        omega
    show (∃ z', L_X9_begins_22 (nI L) (nI k) v3 (q_mk F (2 ^ N)) (nI hi) (nI (2 ^ N)) (nI lo) (nI N) br box first nx (nI i) (q_mk (q_li S i) (2 ^ N)) (q_mk M (2 ^ N)) = some (Sum.inl z') ∧ _) ∨ (∃ t, L_X9_begins_22 (nI L) (nI k) v3 (q_mk F (2 ^ N)) (nI hi) (nI (2 ^ N)) (nI lo) (nI N) br box first nx (nI i) (q_mk (q_li S i) (2 ^ N)) (q_mk M (2 ^ N)) = some (Sum.inr t) ∧ _)
    rw [L_X9_begins_22, if_neg (nle hi' (by omega)), ix_in hin, ix_in hin, nI_clamp (by omega), hbi]
    cases hM : M (S i) with
    | false =>
      right
      rw [if_pos ((q_hasR0 _ (by omega)).mpr (by rw [q_bt _ (by omega), hM, Bool.and_false]))]
      refine ⟨_, rfl, Or.inl ⟨rfl, fun hl => ?_⟩⟩
      have := (ok.2 (S i) hSi).mpr ⟨hWi, q_law_sub hl (fun u _ h => hlk u h)⟩
      rw [hM] at this; cases this
    | true =>
      left
      rw [if_neg (fun h => by
        have := (q_hasR0 _ (by omega)).mp h
        rw [q_bt _ (by omega), decide_eq_true hSi, hM] at this; cases this), hst (S i) _ _ hSi, ob, ix_in hin, q_insm _ (by omega) hSi, nI_1]
      refine ⟨_, rfl, _, by rw [q_li_s], ?_⟩
      rw [q_li_s]
      exact q_ok_step sy ok hSi hM
  · rintro z ⟨M, rfl, ok⟩
    obtain ⟨fi, h1, h2⟩ := q_firsts h16 (M := M) (q_mk (q_li S k) (2 ^ N)) (nI k) (q_mk F (2 ^ N)) (nI hi) (nI lo) (nI N) br box nx first
    refine ⟨_, ?_, Or.inr ⟨M, fi, ok, h1, rfl⟩⟩
    show L_X9_begins_22 (nI L) (nI k) v3 (q_mk F (2 ^ N)) (nI hi) (nI (2 ^ N)) (nI lo) (nI N) br box first nx (nI k) (q_mk (q_li S k) (2 ^ N)) (q_mk M (2 ^ N)) = _
    rw [L_X9_begins_22, if_pos (nI_le (Nat.le_refl k) (by omega)), h2]
    rfl
theorem q_comesR (hm : m ≤ 16) {M Mc : Nat → Bool} {af fi : Nat → Int32} {c u : Nat} (hc : c < 65536) (hu : u < m) (ha : af c = q_mk Mc m) (hf : fi (q_cnt M u) = nI u) : M_X9_comes af fi (nI c) (nI (q_cnt M u)) = some (if Mc u = true then 1 else 0) := by
  have hcl := q_cnt_le M u
  rw [M_X9_comes, ix_in (vp_in_nI (by omega) (by decide)), ix_in (vp_in_nI (by omega) (by decide)), nI_clamp (by omega), nI_clamp (by omega), ha, hf]
  cases h : Mc u with
  | true => rw [if_pos ((q_hasR1 _ (by omega)).mpr (by rw [q_bt _ (by omega), decide_eq_true hu, h]; rfl)), if_pos rfl]
  | false =>
    rw [if_neg (fun h2 => by
      have := (q_hasR1 _ (by omega)).mp h2
      rw [q_bt _ (by omega), h, Bool.and_false] at this; cases this), if_neg q_ff]
theorem q_addb {c b : Nat} (hb : b < 16) (h : c.testBit b = false) : nI c ||| ((1 : Int32) <<< (nI b &&& 31)) = nI (c ||| 2 ^ b) ∧ (∀ i, (c ||| 2 ^ b).testBit i = (c.testBit i || decide (i = b))) ∧ c < c ||| 2 ^ b := by
  have ht : ∀ i, (c ||| 2 ^ b).testBit i = (c.testBit i || decide (i = b)) := fun i => by
    rw [Nat.testBit_or, Nat.testBit_two_pow]
    by_cases e : i = b
    · rw [decide_eq_true e, decide_eq_true e.symm]
    · rw [decide_eq_false e, decide_eq_false (Ne.symm e)]
  refine ⟨?_, ht, ?_⟩
  · rw [pw1 b (by omega)]
    apply b_ext
    intro i hi
    rw [b_or, q_nIbt _ hi, q_nIbt _ hi, q_nIbt _ hi, Nat.testBit_or]
  · rcases Nat.lt_or_ge c (c ||| 2 ^ b) with h1 | h1
    · exact h1
    · have h2 : c ||| 2 ^ b = c := by have := q_or_ge c (2 ^ b); omega
      have h3 := ht b
      rw [h2, h, decide_eq_true rfl] at h3
      cases h3
theorem q_m1 (n : Nat) : nI n - 1 = nI n + (-1) := Int32.sub_eq_add_neg _ _
section DP
variable {W M : Nat → Bool} {af he fi br nx box refused : Nat → Int32} {p1 vb vx vm vf vh vi vl vn : Int32}
theorem q_gm1 (sy : q_sy C R) (hm : m ≤ 16) (ok : q_ok m F C R W M) (hfi : ∀ u, u < m → M u = true → fi (q_cnt M u) = nI u) {c : Nat} (hc : c < 2 ^ q_cnt M m) {Mc : Nat → Bool} (okc : q_ok m F C R (q_T W M c) Mc) (ha : af c = q_mk Mc m) {wi : Nat → Int32} (hwi : ∀ c', c < c' → c' < 2 ^ q_cnt M m → q_law m F C R (q_T W M c') → (wi c' = 1 ∧ q_wn m F C R (q_T W M c')) ∨ (wi c' = 0 ∧ ¬ q_wn m F C R (q_T W M c'))) :
    ∃ best, lpN (fun z : Int32 × Int32 => L_X9_game_89 p1 (nI c) vb vx vm (nI (q_cnt M m)) vf vh vi vl vn af br box fi he nx refused wi z.1 z.2) fuelK ((-1 : Int32), nI (q_cnt M m) - 1) = some (Sum.inl (best, nI c + (-1), upd wi c (if best = -1 then 0 else 1))) ∧ q_best m F C R (q_T W M c) Mc best := by
  have hn := q_cnt_le M m
  have h216 : 2 ^ q_cnt M m ≤ 2 ^ 16 := Nat.pow_le_pow_right (by decide) (by omega)
  have hcin : vp_in (nI c) 65536 := vp_in_nI (by omega) (by decide)
  have hv : q_val Mc m < 2 ^ 31 := Nat.lt_of_lt_of_le (q_val_lt Mc m) (Nat.le_trans (Nat.pow_le_pow_right (by decide) hm) (show 2 ^ 16 ≤ 2 ^ 31 by decide))
  have hMc : ∀ u, u < m → Mc u = true → M u = true := fun u hu h => by
    obtain ⟨h1, h2⟩ := (okc.2 u hu).mp h
    refine (ok.2 u hu).mpr ⟨?_, q_law_sub h2 (fun i hi hx => ?_)⟩
    · unfold q_T at h1
      rw [Bool.or_eq_false_iff] at h1
      exact h1.1
    · rcases q_ins_iff.mp hx with hx | hx
      · exact q_ins_iff.mpr (Or.inl (by unfold q_T; rw [hx]; rfl))
      · exact q_ins_iff.mpr (Or.inr hx)
  have h149 : ∀ best, B_X9_game_149 p1 best (nI c) vb vx vm (nI (q_cnt M m)) vf vh vi vl vn af br box fi he nx refused wi = some (Sum.inl (best, nI c + (-1), upd wi c (if best = -1 then 0 else 1))) := fun best => by
    rw [B_X9_game_149, B_X9_game_165, B_X9_game_165, ix_in hcin, ix_in hcin, nI_clamp (by omega)]
    by_cases h : best = -1
    · rw [if_pos h, if_pos h]; rfl
    · rw [if_neg h, if_neg h]; rfl
  obtain ⟨t, et, best, rfl, hbest⟩ := lp_invK (body := fun z : Int32 × Int32 => L_X9_game_89 p1 (nI c) vb vx vm (nI (q_cnt M m)) vf vh vi vl vn af br box fi he nx refused wi z.1 z.2)
    (fun j z => ∃ best, z = (best, nI (q_cnt M m - j) + (-1)) ∧ ((best = -1 ∧ ∀ u, u < m → Mc u = true → q_cnt M m - j ≤ q_cnt M u → q_wn m F C R (q_ins (q_T W M c) u)) ∨ ∃ u, u < m ∧ best = nI u ∧ Mc u = true ∧ ¬ q_wn m F C R (q_ins (q_T W M c) u) ∧ ∀ u', u' < u → Mc u' = true → q_cnt M m - j ≤ q_cnt M u' → q_wn m F C R (q_ins (q_T W M c) u')))
    (fun t => ∃ best, t = Sum.inl (best, nI c + (-1), upd wi c (if best = -1 then 0 else 1)) ∧ q_best m F C R (q_T W M c) Mc best) (q_cnt M m) (by omega) (by
    rintro j z hj ⟨best, rfl, hb⟩
    obtain ⟨b, hbj⟩ : ∃ b, q_cnt M m - j = b + 1 := ⟨q_cnt M m - j - 1, by omega⟩
    have hbj2 : q_cnt M m - (j + 1) = b := by omega
    rw [hbj] at hb
    rw [hbj2]
    obtain ⟨u, hu, hMu, hcu⟩ := q_nth (M := M) m b (by omega)
    have hf : fi b = nI u := by rw [← hcu]; exact hfi u hu hMu
    have hb16 : vp_in (nI b) 16 := vp_in_nI (by omega) (by decide)
    have hcm : M_X9_comes af fi (nI c) (nI b) = some (if Mc u = true then 1 else 0) := by
      have := q_comesR hm (M := M) (fi := fi) (c := c) (by omega) hu ha (by rw [hcu]; exact hf)
      rw [hcu] at this
      exact this
    left
    show ∃ z', L_X9_game_89 p1 (nI c) vb vx vm (nI (q_cnt M m)) vf vh vi vl vn af br box fi he nx refused wi best (nI (q_cnt M m - j) + (-1)) = some (Sum.inl z') ∧ _
    rw [hbj, pk_m1, L_X9_game_89, if_neg (nI_pos (by omega)), ix_in hcin, nI_clamp (by omega), ha, if_neg (show ¬ q_mk Mc m = (-1 : Int32) from q_nm1 hv), hcm, ob]
    have stay : (Mc u = true → q_wn m F C R (q_ins (q_T W M c) u)) → ∃ z', some (Sum.inl (best, nI b + (-1))) = some (Sum.inl z' : (Int32 × Int32) ⊕ ((Int32 × Int32 × (Nat → Int32)) ⊕ (Int32 × Int32 × Int32 × Int32 × Int32 × Int32 × (Nat → Int32) × (Nat → Int32) × (Nat → Int32) × (Nat → Int32) × (Nat → Int32) × (Nat → Int32) × (Nat → Int32)))) ∧ ∃ best, z' = (best, nI b + (-1)) ∧ ((best = -1 ∧ ∀ u, u < m → Mc u = true → b ≤ q_cnt M u → q_wn m F C R (q_ins (q_T W M c) u)) ∨ ∃ u, u < m ∧ best = nI u ∧ Mc u = true ∧ ¬ q_wn m F C R (q_ins (q_T W M c) u) ∧ ∀ u', u' < u → Mc u' = true → b ≤ q_cnt M u' → q_wn m F C R (q_ins (q_T W M c) u')) := fun hx => by
      have hall : ∀ x, x < m → Mc x = true → b ≤ q_cnt M x → (b + 1 ≤ q_cnt M x → q_wn m F C R (q_ins (q_T W M c) x)) → q_wn m F C R (q_ins (q_T W M c) x) := fun x hxm hMx hle hr => by
        rcases Nat.lt_or_ge b (q_cnt M x) with h | h
        · exact hr h
        · have hxu : x = u := q_cnt_inj (hMc x hxm hMx) hMu (by omega)
          rw [hxu]
          exact hx (by rw [← hxu]; exact hMx)
      refine ⟨_, rfl, best, rfl, ?_⟩
      rcases hb with ⟨h1, h2⟩ | ⟨x, h1, h2, h3, h4, h5⟩
      · exact Or.inl ⟨h1, fun x hxm hMx hle => hall x hxm hMx hle (h2 x hxm hMx)⟩
      · exact Or.inr ⟨x, h1, h2, h3, h4, fun x' hx' hMx hle => hall x' (by omega) hMx hle (h5 x' hx' hMx)⟩
    cases hMcu : Mc u with
    | false =>
      rw [nb0]
      exact stay (fun h => by rw [hMcu] at h; cases h)
    | true =>
      obtain ⟨hTu, hlu⟩ := (okc.2 u hu).mp hMcu
      have hcb : c.testBit b = false := by
        unfold q_T at hTu
        rw [Bool.or_eq_false_iff, hMu, hcu, Bool.true_and] at hTu
        exact hTu.2
      obtain ⟨a1, a2, a3⟩ := q_addb (by omega) hcb
      have hc2 : c ||| 2 ^ b < 2 ^ q_cnt M m := Nat.or_lt_two_pow hc (Nat.pow_lt_pow_right (by decide) (by omega))
      have hTc : q_T W M (c ||| 2 ^ b) = q_ins (q_T W M c) u := q_T_in hMu (fun i => by rw [a2, hcu])
      have hw := hwi (c ||| 2 ^ b) a3 hc2 (by rw [hTc]; exact hlu)
      rw [hTc] at hw
      rw [nb1, a1, ix_in (vp_in_nI (by omega) (by decide)), nI_clamp (by omega), ix_in hb16, nI_clamp (by omega), hf]
      rcases hw with ⟨w1, w2⟩ | ⟨w1, w2⟩
      · rw [if_neg (by rw [w1]; decide)]
        exact stay (fun _ => w2)
      · rw [if_pos w1]
        refine ⟨_, rfl, nI u, rfl, Or.inr ⟨u, hu, rfl, hMcu, w2, fun u' hu' hM' hle => ?_⟩⟩
        have := q_cnt_mo hu' (hMc u' (by omega) hM')
        omega) (by
    rintro z ⟨best, rfl, hb⟩
    refine ⟨_, ?_, best, rfl, ?_⟩
    · show L_X9_game_89 p1 (nI c) vb vx vm (nI (q_cnt M m)) vf vh vi vl vn af br box fi he nx refused wi best (nI (q_cnt M m - q_cnt M m) + (-1)) = _
      rw [Nat.sub_self, L_X9_game_89, if_pos (by decide), h149]
      rfl
    · rw [Nat.sub_self] at hb
      rcases hb with ⟨h1, h2⟩ | ⟨u, h1, h2, h3, h4, h5⟩
      · exact Or.inl ⟨h1, fun u hu hM => h2 u hu hM (Nat.zero_le _)⟩
      · exact Or.inr ⟨u, h1, h2, h3, h4, fun u' hu' hM => h5 u' hu' hM (Nat.zero_le _)⟩) ((-1 : Int32), nI (q_cnt M m) - 1) ⟨-1, by rw [q_m1]; rfl, Or.inl ⟨rfl, fun u hu hM hle => by
      have := q_cnt_mo hu (hMc u hu hM)
      omega⟩⟩
  exact ⟨best, et, hbest⟩
theorem q_gm0 {n c : Nat} (hn : n ≤ 16) (hc : c < 65536) (ha : af c = -1) {wi : Nat → Int32} :
    lpN (fun z : Int32 × Int32 => L_X9_game_89 p1 (nI c) vb vx vm (nI n) vf vh vi vl vn af br box fi he nx refused wi z.1 z.2) fuelK ((-1 : Int32), nI n - 1) = some (Sum.inl (-1, nI c + (-1), upd wi c 0)) := by
  have hcin : vp_in (nI c) 65536 := vp_in_nI (by omega) (by decide)
  have h149 : B_X9_game_149 p1 (-1) (nI c) vb vx vm (nI n) vf vh vi vl vn af br box fi he nx refused wi = some (Sum.inl (-1, nI c + (-1), upd wi c 0)) := by
    rw [B_X9_game_149, if_pos rfl, B_X9_game_165, ix_in hcin, nI_clamp (by omega)]
    rfl
  refine lp_runK (fun _ => ((-1 : Int32), nI n - 1)) 0 _ (by omega) (fun j hj => by omega) ?_
  show L_X9_game_89 p1 (nI c) vb vx vm (nI n) vf vh vi vl vn af br box fi he nx refused wi (-1) (nI n - 1) = _
  rw [L_X9_game_89, ix_in hcin, nI_clamp (by omega), if_pos ha, h149]
  split <;> rfl
theorem q_gmR (sy : q_sy C R) (hm : m ≤ 16) (ok : q_ok m F C R W M) (hfi : ∀ u, u < m → M u = true → fi (q_cnt M u) = nI u) (hSp : ∀ c, c < 2 ^ q_cnt M m → q_Sp m F C R (q_T W M c) (af c) (he c)) (w0 : Nat → Int32) :
    ∃ best wi, q_best m F C R W M best ∧ lpN (fun z : Int32 × Int32 × (Nat → Int32) => L_X9_game_74 p1 vb vx vm (nI (q_cnt M m)) vf vh vi vl vn af br box fi he nx refused z.1 z.2.1 z.2.2) fuelK ((-1 : Int32), nI (2 ^ q_cnt M m) - 1, w0) = some ((if p1 = 1 then best else if best = -1 then 0 else 1), vb, vm, nI (q_cnt M m), vf, vi, af, br, fi, he, nx, refused, wi) := by
  have hn := q_cnt_le M m
  have h216 : 2 ^ q_cnt M m ≤ 2 ^ 16 := Nat.pow_le_pow_right (by decide) (by omega)
  have h21 := Nat.two_pow_pos (q_cnt M m)
  obtain ⟨t, et, best, wi, hb, rfl⟩ := lp_invK (body := fun z : Int32 × Int32 × (Nat → Int32) => L_X9_game_74 p1 vb vx vm (nI (q_cnt M m)) vf vh vi vl vn af br box fi he nx refused z.1 z.2.1 z.2.2)
    (fun j z => ∃ best wi, z = (best, nI (2 ^ q_cnt M m - j) + (-1), wi) ∧ (∀ c, 2 ^ q_cnt M m - j ≤ c → c < 2 ^ q_cnt M m → q_law m F C R (q_T W M c) → (wi c = 1 ∧ q_wn m F C R (q_T W M c)) ∨ (wi c = 0 ∧ ¬ q_wn m F C R (q_T W M c))) ∧ (2 ^ q_cnt M m - j = 0 → q_best m F C R W M best))
    (fun t => ∃ best wi, q_best m F C R W M best ∧ t = ((if p1 = 1 then best else if best = -1 then 0 else 1), vb, vm, nI (q_cnt M m), vf, vi, af, br, fi, he, nx, refused, wi)) (2 ^ q_cnt M m) (by omega) (by
    rintro j z hj ⟨best, wi, rfl, hwi, -⟩
    obtain ⟨c, hcj⟩ : ∃ c, 2 ^ q_cnt M m - j = c + 1 := ⟨2 ^ q_cnt M m - j - 1, by omega⟩
    have hcj2 : 2 ^ q_cnt M m - (j + 1) = c := by omega
    rw [hcj] at hwi
    rw [hcj2]
    have hclt : c < 2 ^ q_cnt M m := by omega
    left
    show ∃ z', L_X9_game_74 p1 vb vx vm (nI (q_cnt M m)) vf vh vi vl vn af br box fi he nx refused best (nI (2 ^ q_cnt M m - j) + (-1)) wi = some (Sum.inl z') ∧ _
    rw [hcj, pk_m1, L_X9_game_74, if_neg (nI_pos (by omega))]
    rcases (hSp c hclt).2 with ⟨Mc, okc, ea⟩ | ⟨nl, ea⟩
    · obtain ⟨b', e1, e2⟩ := q_gm1 (p1 := p1) (vb := vb) (vx := vx) (vm := vm) (vf := vf) (vh := vh) (vi := vi) (vl := vl) (vn := vn) (br := br) (box := box) (he := he) (nx := nx) (refused := refused) sy hm ok hfi hclt okc ea (wi := wi) (fun c' h1 h2 h3 => hwi c' (by omega) h2 h3)
      rw [e1]
      refine ⟨_, rfl, b', _, rfl, fun c' h1 h2 h3 => ?_, fun h0 => ?_⟩
      · by_cases e : c' = c
        · subst e
          rw [pk_us]
          have hbw := q_best_w hm okc e2
          by_cases hb : b' = -1
          · rw [if_pos hb]; exact Or.inr ⟨rfl, hbw.mp hb⟩
          · rw [if_neg hb]
            refine Or.inl ⟨rfl, ?_⟩
            by_cases hw : q_wn m F C R (q_T W M c')
            · exact hw
            · exact absurd (hbw.mpr hw) hb
        · rw [pk_un e]; exact hwi c' (by omega) h2 h3
      · subst h0
        rw [q_T0] at e2 okc
        exact q_best_cg (q_ok_M okc ok) e2
    · rw [q_gm0 (by omega) (by omega) ea]
      refine ⟨_, rfl, -1, _, rfl, fun c' h1 h2 h3 => ?_, fun h0 => ?_⟩
      · by_cases e : c' = c
        · rw [e] at h3; exact absurd h3 nl
        · rw [pk_un e]; exact hwi c' (by omega) h2 h3
      · subst h0
        rw [q_T0] at nl
        exact absurd ok.1 nl) (by
    rintro z ⟨best, wi, rfl, hwi, hb⟩
    rw [Nat.sub_self] at hwi hb ⊢
    have hbb := hb rfl
    have h0in : vp_in (0 : Int32) 65536 := vp_in_nI (n := 0) (by decide) (by decide)
    refine ⟨_, ?_, best, wi, hbb, rfl⟩
    show L_X9_game_74 p1 vb vx vm (nI (q_cnt M m)) vf vh vi vl vn af br box fi he nx refused best (nI 0 + (-1)) wi = _
    rw [L_X9_game_74, if_pos (by decide)]
    by_cases h1 : p1 = 1
    · rw [if_pos h1, if_pos h1]; rfl
    · rw [if_neg h1, if_neg h1, ix_in h0in, show (0 : Int32).toNatClampNeg = 0 from rfl]
      have hbw := q_best_w hm ok hbb
      have hw := hwi 0 (Nat.zero_le 0) h21 (by rw [q_T0]; exact ok.1)
      rw [q_T0] at hw
      rcases hw with ⟨w1, w2⟩ | ⟨w1, w2⟩
      · rw [if_neg (by rw [w1]; decide), if_neg (fun h => hbw.mp h w2)]; rfl
      · rw [if_pos w1, if_pos (hbw.mpr w2)]; rfl) ((-1 : Int32), nI (2 ^ q_cnt M m) - 1, w0) ⟨-1, w0, by rw [q_m1]; rfl, fun c h1 h2 => by omega, fun h => by omega⟩
  exact ⟨best, wi, hb, et⟩
end DP
end GT
