/-! The game: the program -/
section GC
variable {m : Nat} {F : Nat → Bool} {C R : Nat → Nat → Bool} {c n : Nat → Int32}
theorem q_winExit {kn wo : Nat → Int64} (hK : q_K m F C R kn wo) {T : Nat → Bool} {v : Nat} (hv : v < 65536) (hT : ∀ i, i < m → v.testBit i = T i) {wi : Int32} (hw : (wi = 1 ∧ q_wn m F C R T) ∨ (wi = 0 ∧ ¬ q_wn m F C R T)) (rec_ : (Nat → Int64) → Int32 → (Nat → Int32) → (Nat → Int32) → (Nat → Int64) → Int32 → Int32 → Int32 → Option (Int32 × (Nat → Int64) × (Nat → Int64))) :
    ∃ t, B_X5_wins_135 rec_ (nI (v / 64)) (lN (2 ^ (v % 64))) wi kn (nI m) c n wo = some t ∧ q_K m F C R t.2.1 t.2.2 ∧ ((t.1 = 1 ∧ q_wn m F C R T) ∨ (t.1 = 0 ∧ ¬ q_wn m F C R T)) := by
  have hin : vp_in (nI (v / 64)) 1024 := vp_in_nI (by omega) (by decide)
  rw [B_X5_wins_135, ix_in hin, ix_in hin, ix_in hin, ix_in hin, nI_clamp (by omega)]
  rcases hw with ⟨h1, h2⟩ | ⟨h1, h2⟩
  · rw [if_neg (by rw [h1]; decide), B_X5_wins_185, ix_in hin, bz, if_pos (Or.inr h1), nI_clamp (by omega)]
    refine ⟨_, rfl, q_K_set hK hv hT (b := true) (fun i hi => ?_) ⟨fun _ => h2, fun _ => rfl⟩, Or.inl ⟨h1, h2⟩⟩
    rw [lb_or, lb_pw hi]
    by_cases c1 : i = v % 64
    · rw [if_pos c1, decide_eq_true c1, Bool.or_true]
    · rw [if_neg c1, decide_eq_false c1, Bool.or_false]
  · rw [if_pos h1, B_X5_wins_185, ix_in hin, bz, if_pos (Or.inl h1), nI_clamp (by omega)]
    refine ⟨_, rfl, q_K_set hK hv hT (b := false) (fun i hi => ?_) ⟨fun h => (by cases h), fun h => absurd h h2⟩, Or.inr ⟨h1, h2⟩⟩
    rw [lb_and, lb_not _ hi, lb_pw hi]
    by_cases c1 : i = v % 64
    · rw [if_pos c1, decide_eq_true c1]; simp
    · rw [if_neg c1, decide_eq_false c1]; simp
theorem q_winsC (sy : q_sy C R) (hm : m ≤ 16) (hc : ∀ j, j < m → c j = q_mk (C j) m) (hn : ∀ j, j < m → n j = q_mk (R j) m) :
    ∀ (D : Nat) (T B : Nat → Bool) (kn wo : Nat → Int64) (dep : Nat), q_ok m F C R T (fun u => !(T u || B u)) → m < q_cnt T m + D → dep ≤ q_cnt T m → q_K m F C R kn wo →
    ∃ t, M_X5_wins D kn (nI m) c n wo (q_mk T m) (q_mk B m) (nI dep) = some t ∧ q_K m F C R t.2.1 t.2.2 ∧ ((t.1 = 1 ∧ q_wn m F C R T) ∨ (t.1 = 0 ∧ ¬ q_wn m F C R T)) := by
  intro D
  induction D with
  | zero => intro T B kn wo dep _ h; have := q_cnt_le T m; omega
  | succ D ih =>
    intro T B kn wo dep ok hD hdep hK
    have h16 : 2 ^ m ≤ 2 ^ 16 := Nat.pow_le_pow_right (by decide) hm
    have hv : q_val T m < 65536 := Nat.lt_of_lt_of_le (q_val_lt T m) h16
    have hT : ∀ i, i < m → (q_val T m).testBit i = T i := fun i hi => by rw [q_val_tb, decide_eq_true hi, Bool.true_and]
    have hcl := q_cnt_le T m
    have hin : vp_in (nI (q_val T m / 64)) 1024 := vp_in_nI (by omega) (by decide)
    have hF : M_X5_wins (D + 1) kn (nI m) c n wo (q_mk T m) (q_mk B m) (nI dep) = F_X5_wins (M_X5_wins D) kn (nI m) c n wo (q_mk T m) (q_mk B m) (nI dep) := rfl
    have ew : (((q_mk T m).toUInt32 >>> ((6 : Int32).toUInt32 &&& Int32.toUInt32 31)).toInt32) &&& (1023 : Int32) = nI (q_val T m / 64) := q_word hv
    have eb : (1 : Int64) <<< ((q_mk T m &&& (63 : Int32)).toInt64 &&& 63) = lN (2 ^ (q_val T m % 64)) := q_bit hv
    rw [hF, F_X5_wins, ew, eb, ix_in hin, nI_clamp (by omega)]
    by_cases hk : kb kn (q_val T m) = false
    · rw [if_pos ((lb_t (by omega)).mpr hk)]
      refine lp_invK (body := fun z : Int32 × Int32 × (Nat → Int64) × (Nat → Int64) => L_X5_wins_60 (M_X5_wins D) (q_mk T m) (q_mk B m) (nI dep) (nI (q_val T m / 64)) (lN (2 ^ (q_val T m % 64))) (nI m) c n z.1 z.2.1 z.2.2.1 z.2.2.2)
        (fun i z => ∃ wi kn wo, z = (wi, nI i, kn, wo) ∧ q_K m F C R kn wo ∧ ((wi = 0 ∧ ∀ u, u < i → u < m → (!(T u || B u)) = true → q_wn m F C R (q_ins T u)) ∨ (wi = 1 ∧ ∃ u, u < m ∧ (!(T u || B u)) = true ∧ ¬ q_wn m F C R (q_ins T u))))
        (fun t => q_K m F C R t.2.1 t.2.2 ∧ ((t.1 = 1 ∧ q_wn m F C R T) ∨ (t.1 = 0 ∧ ¬ q_wn m F C R T))) m (by omega) ?_ ?_ ((0 : Int32), (0 : Int32), kn, wo) ⟨0, kn, wo, rfl, hK, Or.inl ⟨rfl, fun u hu => absurd hu (by omega)⟩⟩
      · rintro i z hi ⟨wi, kn, wo, rfl, hK, hw⟩
        show (∃ z', L_X5_wins_60 (M_X5_wins D) (q_mk T m) (q_mk B m) (nI dep) (nI (q_val T m / 64)) (lN (2 ^ (q_val T m % 64))) (nI m) c n wi (nI i) kn wo = some (Sum.inl z') ∧ _) ∨ (∃ t, L_X5_wins_60 (M_X5_wins D) (q_mk T m) (q_mk B m) (nI dep) (nI (q_val T m / 64)) (lN (2 ^ (q_val T m % 64))) (nI m) c n wi (nI i) kn wo = some (Sum.inr t) ∧ _)
        rw [L_X5_wins_60, if_neg (nle hi (by omega))]
        rcases hw with ⟨h1, h2⟩ | ⟨h1, h2⟩
        · rw [if_pos h1, if_neg (show ¬ (16 : Int32) < nI dep from nI_nlt (a := 16) (by omega) (by decide)), q_or T B (by omega), q_has _ (by omega), ob, q_bt _ (by omega), decide_eq_true hi, Bool.true_and, nI_1 i]
          left
          cases hb : (T i || B i) with
          | true =>
            rw [nb1]
            refine ⟨_, rfl, wi, kn, wo, rfl, hK, Or.inl ⟨h1, fun u hu hum hM => ?_⟩⟩
            rcases Nat.lt_or_ge u i with h3 | h3
            · exact h2 u h3 hum hM
            · have : u = i := by omega
              rw [this, hb] at hM; cases hM
          | false =>
            have hMi : (fun u => !(T u || B u)) i = true := by show (!(T i || B i)) = true; rw [hb]; rfl
            have hok := q_ok_step sy ok hi hMi
            rw [← q_stp_sb] at hok
            have hTi := ((ok.2 i hi).mp hMi).1
            have hcn : q_cnt (q_ins T i) m = q_cnt T m + 1 := q_cnt_in hi hTi
            obtain ⟨t, et, hK2, ht⟩ := ih (q_ins T i) (fun u => B u || q_bb m C R i T u) kn wo (dep + 1) hok (by omega) (by omega) hK
            rw [nb0, q_barC hm hi hc hn T, ob, q_or B _ (by omega), q_insm T (by omega) hi, nI_1 dep, et, ob]
            rcases ht with ⟨t1, t2⟩ | ⟨t1, t2⟩
            · rw [if_neg (by rw [t1]; decide)]
              refine ⟨_, rfl, 0, t.2.1, t.2.2, rfl, hK2, Or.inl ⟨rfl, fun u hu hum hM => ?_⟩⟩
              rcases Nat.lt_or_ge u i with h3 | h3
              · exact h2 u h3 hum hM
              · have : u = i := by omega
                rw [this]; exact t2
            · rw [if_pos t1]
              exact ⟨_, rfl, 1, t.2.1, t.2.2, rfl, hK2, Or.inr ⟨rfl, i, hi, hMi, t2⟩⟩
        · right
          rw [if_neg (by rw [h1]; decide)]
          obtain ⟨t, et, h3, h4⟩ := q_winExit (c := c) (n := n) hK hv hT (Or.inl ⟨h1, (q_wn_ok hm ok).mpr h2⟩) (M_X5_wins D)
          exact ⟨t, by rw [et]; rfl, h3, h4⟩
      · rintro z ⟨wi, kn, wo, rfl, hK, hw⟩
        show ∃ t, L_X5_wins_60 (M_X5_wins D) (q_mk T m) (q_mk B m) (nI dep) (nI (q_val T m / 64)) (lN (2 ^ (q_val T m % 64))) (nI m) c n wi (nI m) kn wo = some (Sum.inr t) ∧ _
        rw [L_X5_wins_60, if_pos (nI_le (Nat.le_refl m) (by omega))]
        have hw2 : (wi = 1 ∧ q_wn m F C R T) ∨ (wi = 0 ∧ ¬ q_wn m F C R T) := by
          rcases hw with ⟨h1, h2⟩ | ⟨h1, h2⟩
          · refine Or.inr ⟨h1, fun h => ?_⟩
            obtain ⟨u, h3, h4, h5⟩ := (q_wn_ok hm ok).mp h
            exact h5 (h2 u h3 h3 h4)
          · exact Or.inl ⟨h1, (q_wn_ok hm ok).mpr h2⟩
        obtain ⟨t, et, h3, h4⟩ := q_winExit (c := c) (n := n) hK hv hT hw2 (M_X5_wins D)
        exact ⟨t, by rw [et]; rfl, h3, h4⟩
    · have hkt : kb kn (q_val T m) = true := by
        cases h : kb kn (q_val T m) with
        | true => rfl
        | false => exact absurd h hk
      rw [if_neg (fun h => hk ((lb_t (by omega)).mp h)), ix_in hin]
      have h1 := (hK _ hv hkt).trans (q_wn_cg hT)
      cases hb : kb wo (q_val T m) with
      | false =>
        rw [if_pos ((lb_t (by omega)).mpr hb)]
        exact ⟨_, rfl, hK, Or.inr ⟨rfl, fun h => by rw [← h1, hb] at h; cases h⟩⟩
      | true =>
        rw [if_neg (fun h => by
          have := (lb_t (by omega)).mp h
          rw [show lb (wo (q_val T m / 64)) (q_val T m % 64) = true from hb] at this; cases this)]
        exact ⟨_, rfl, hK, Or.inl ⟨rfl, h1.mp hb⟩⟩
/-- the least box by which who is on turn wins -/
def q_best (m : Nat) (F : Nat → Bool) (C R : Nat → Nat → Bool) (W M : Nat → Bool) (x : Int32) : Prop := (x = -1 ∧ ∀ u, u < m → M u = true → q_wn m F C R (q_ins W u)) ∨ ∃ u, u < m ∧ x = nI u ∧ M u = true ∧ ¬ q_wn m F C R (q_ins W u) ∧ ∀ u', u' < u → M u' = true → q_wn m F C R (q_ins W u')
theorem q_best_eq {W M M' : Nat → Bool} {x y : Int32} (hM : ∀ u, u < m → M u = M' u) (h : q_best m F C R W M x) (g : q_best m F C R W M' y) : x = y := by
  rcases h with ⟨h1, h2⟩ | ⟨u, h1, h2, h3, h4, h5⟩
  · rcases g with ⟨g1, g2⟩ | ⟨u', g1, g2, g3, g4, g5⟩
    · rw [h1, g1]
    · exact absurd (h2 u' g1 (by rw [hM u' g1]; exact g3)) g4
  · rcases g with ⟨g1, g2⟩ | ⟨u', g1, g2, g3, g4, g5⟩
    · exact absurd (g2 u h1 (by rw [← hM u h1]; exact h3)) h4
    · rw [h2, g2]
      congr 1
      rcases Nat.lt_trichotomy u u' with h6 | h6 | h6
      · exact absurd (g5 u h6 (by rw [← hM u h1]; exact h3)) h4
      · exact h6
      · exact absurd (h5 u' h6 (by rw [hM u' g1]; exact g3)) g4
theorem q_boxC (sy : q_sy C R) (hm : m ≤ 16) (hc : ∀ j, j < m → c j = q_mk (C j) m) (hn : ∀ j, j < m → n j = q_mk (R j) m) {L : Nat} (hL : L ≤ 4) (hC0 : L = 0 → ∀ i j, C i j = false) (hR0 : L = 0 → ∀ i j, R i j = false) {W B : Nat → Bool} (ok : q_ok m F C R W (fun u => !(W u || B u))) (kn wo : Nat → Int64) :
    ∃ t, M_X5_winningBox (q_mk B m) (q_mk W m) kn (nI m) (nI L) c n wo = some t ∧ q_best m F C R W (fun u => !(W u || B u)) t.1 := by
  have ec : M_X5_comers (q_mk B m) (q_mk W m) (nI m) = some (q_mk (fun u => !(W u || B u)) m) := by
    rw [M_X5_comers, M_X3_all, ob, q_all (by omega), q_or W B (by omega), q_dif _ _ (by omega)]
    congr 1
  rw [M_X5_winningBox, ec, ob]
  by_cases h0 : L = 0
  · rw [if_pos (by rw [h0]; rfl), q_bitC _ hm, ob, dz, if_neg (by decide)]
    have hle := q_cnt_le (fun u => !(W u || B u)) m
    have er : nI (q_cnt (fun u => !(W u || B u)) m) - nI (q_cnt (fun u => !(W u || B u)) m) / 2 * 2 = nI (q_cnt (fun u => !(W u || B u)) m % 2) := pk_rem (d := 2) (by omega) (by decide) (by decide)
    rw [er]
    have hodd : ∀ u, u < m → (fun u => !(W u || B u)) u = true → (q_wn m F C R (q_ins W u) ↔ (q_cnt (fun u => !(W u || B u)) m - 1) % 2 = 1) := fun u hu hM => by
      refine q_odd sy (hC0 h0) (hR0 h0) _ 16 (q_ins W u) (q_stp m C R u W (fun u => !(W u || B u))) (q_ok_step sy ok hu hM) ?_ (by omega)
      have h1 : q_cnt (fun u => !(W u || B u)) m = q_cnt (fun j => !(W j || B j) && !(j == u)) m + 1 := q_cnt_rm (P := fun u => !(W u || B u)) hu hM
      have h2 : q_cnt (q_stp m C R u W (fun u => !(W u || B u))) m = q_cnt (fun j => !(W j || B j) && !(j == u)) m := q_cnt_cg (fun i hi => by
        unfold q_stp q_bb
        rw [hC0 h0, hR0 h0, show (i != u) = !(i == u) from rfl]
        simp)
      omega
    by_cases he : q_cnt (fun u => !(W u || B u)) m % 2 = 0
    · rw [he, if_pos nI_0]
      refine ⟨_, rfl, Or.inl ⟨rfl, fun u hu hM => (hodd u hu hM).mpr ?_⟩⟩
      have h1 : q_cnt (fun u => !(W u || B u)) m = q_cnt (fun j => !(W j || B j) && !(j == u)) m + 1 := q_cnt_rm (P := fun u => !(W u || B u)) hu hM
      omega
    · rw [if_neg (nI_ne0 (by omega) (by omega))]
      obtain ⟨e, hee⟩ : ∃ e, q_cnt (fun u => !(W u || B u)) m = e + 1 := ⟨q_cnt (fun u => !(W u || B u)) m - 1, by omega⟩
      obtain ⟨u, ⟨h1, h2⟩, h3⟩ := pk_least _ (q_cnt_ex hee)
      have h4 : ∀ i, i < u → (fun u => !(W u || B u)) i = false := fun i hi => by
        cases hq : (fun u => !(W u || B u)) i with
        | false => rfl
        | true => exact absurd ⟨by omega, hq⟩ (h3 i hi)
      rw [q_ntz (t := u) (by omega) (by rw [q_bt _ (by omega), decide_eq_true h1, h2]; rfl) (fun i hi => by rw [q_bt _ (by omega), show (!(W i || B i)) = false from h4 i hi, Bool.and_false]), ob]
      refine ⟨_, rfl, Or.inr ⟨u, h1, rfl, h2, fun h => ?_, fun u' hu' hM' => ?_⟩⟩
      · have := (hodd u h1 h2).mp h
        omega
      · rw [h4 u' hu'] at hM'; cases hM'
  · rw [if_neg (nI_ne0 (by omega) (by omega))]
    obtain ⟨k0, ek, hk⟩ := fillJ (n := 1024) (by decide) kn 0
    rw [ek, ob]
    refine lp_invK (body := fun z : Int32 × (Nat → Int64) × (Nat → Int64) => L_X5_winningBox_43 (q_mk (fun u => !(W u || B u)) m) (q_mk B m) (q_mk W m) (nI m) (nI L) c n z.1 z.2.1 z.2.2)
      (fun i z => ∃ kn wo, z = (nI i, kn, wo) ∧ q_K m F C R kn wo ∧ ∀ u, u < i → (!(W u || B u)) = true → q_wn m F C R (q_ins W u)) (fun t => q_best m F C R W (fun u => !(W u || B u)) t.1) m (by omega) ?_ ?_ ((0 : Int32), k0, wo) ⟨k0, wo, rfl, (fun v hv h => by
        unfold kb at h
        rw [hk _ (by omega), lb_0] at h
        cases h), fun u hu => absurd hu (by omega)⟩
    · rintro i z hi ⟨kn, wo, rfl, hK, hw⟩
      show (∃ z', L_X5_winningBox_43 (q_mk (fun u => !(W u || B u)) m) (q_mk B m) (q_mk W m) (nI m) (nI L) c n (nI i) kn wo = some (Sum.inl z') ∧ _) ∨ (∃ t, L_X5_winningBox_43 (q_mk (fun u => !(W u || B u)) m) (q_mk B m) (q_mk W m) (nI m) (nI L) c n (nI i) kn wo = some (Sum.inr t) ∧ _)
      rw [L_X5_winningBox_43, if_neg (nle hi (by omega)), q_has _ (by omega), ob, q_bt _ (by omega), decide_eq_true hi, Bool.true_and, nI_1]
      cases hb : (W i || B i) with
      | true =>
        left
        rw [show (!true) = false from rfl, nb0]
        refine ⟨_, rfl, kn, wo, rfl, hK, fun u hu hM => ?_⟩
        rcases Nat.lt_or_ge u i with h3 | h3
        · exact hw u h3 hM
        · have : u = i := by omega
          rw [this, hb] at hM; cases hM
      | false =>
        have hMi : (fun u => !(W u || B u)) i = true := by show (!(W i || B i)) = true; rw [hb]; rfl
        have hok := q_ok_step sy ok hi hMi
        rw [← q_stp_sb] at hok
        have hTi := ((ok.2 i hi).mp hMi).1
        have hcn : q_cnt (q_ins W i) m = q_cnt W m + 1 := q_cnt_in hi hTi
        obtain ⟨t, et, hK2, ht⟩ := q_winsC sy hm hc hn 20 (q_ins W i) (fun u => B u || q_bb m C R i W u) kn wo 1 hok (by omega) (by omega) hK
        rw [show (!false) = true from rfl, nb1, q_barC hm hi hc hn W, ob, q_or B _ (by omega), q_insm W (by omega) hi, show M_X5_wins 20 kn (nI m) c n wo (q_mk (q_ins W i) m) (q_mk (fun u => B u || q_bb m C R i W u) m) 1 = some t from et, ob]
        rcases ht with ⟨t1, t2⟩ | ⟨t1, t2⟩
        · left
          rw [if_neg (by rw [t1]; decide)]
          refine ⟨_, rfl, t.2.1, t.2.2, rfl, hK2, fun u hu hM => ?_⟩
          rcases Nat.lt_or_ge u i with h3 | h3
          · exact hw u h3 hM
          · have : u = i := by omega
            rw [this]; exact t2
        · right
          rw [if_pos t1]
          exact ⟨_, rfl, Or.inr ⟨i, hi, rfl, hMi, t2, fun u hu hM => hw u hu hM⟩⟩
    · rintro z ⟨kn, wo, rfl, hK, hw⟩
      refine ⟨(-1, kn, wo), ?_, Or.inl ⟨rfl, fun u hu hM => hw u hu hM⟩⟩
      show L_X5_winningBox_43 (q_mk (fun u => !(W u || B u)) m) (q_mk B m) (q_mk W m) (nI m) (nI L) c n (nI m) kn wo = _
      rw [L_X5_winningBox_43, if_pos (nI_le (Nat.le_refl m) (by omega))]
      rfl
end GC
def q_li (S : Nat → Nat) (i : Nat) (u : Nat) : Bool := q_ex (fun j => S j == u) i
theorem q_li_s (S : Nat → Nat) (i : Nat) : q_li S (i + 1) = q_ins (q_li S i) (S i) := by
  funext u
  unfold q_li q_ins
  rw [q_ex, show (S i == u) = (u == S i) from Bool.beq_comm]
/-- the program begins -/
theorem q_begC {k L lo hi N : Nat} (hk : k ≤ 16) (hL : L ≤ 4) (hlo : lo ≤ 8) (hh : hi ≤ 8) (hN : N ≤ 4) {S : Nat → Nat} {sets : Nat → Int32} (hS : ∀ j, j < k → S j < 2 ^ N ∧ sets j = nI (S j)) (pb pl vb vf vh vl vw : Int32) (fc fn fs : Nat → Int32) :
    ∃ c n s, (∀ j, j < 2 ^ N → c j = q_mk (q_C L (fun j => j) j) (2 ^ N)) ∧ (∀ j, j < 2 ^ N → n j = q_mk (q_R L (fun j => j) j) (2 ^ N)) ∧
    ((¬ q_law (2 ^ N) (q_F L lo hi (fun j => j)) (q_C L (fun j => j)) (q_R L (fun j => j)) (q_li S k) ∧ M_X8_beginGame pb pl (nI k) (nI hi) (nI lo) (nI N) sets vb vf vh vl vw fc fn fs (nI L) = some (0, -1, q_mk (q_li S k) (2 ^ N), nI (2 ^ N), q_mk (q_F L lo hi (fun j => j)) (2 ^ N), nI hi, nI L, nI lo, c, n, s)) ∨
    ∃ B, q_ok (2 ^ N) (q_F L lo hi (fun j => j)) (q_C L (fun j => j)) (q_R L (fun j => j)) (q_li S k) (fun u => !(q_li S k u || B u)) ∧ M_X8_beginGame pb pl (nI k) (nI hi) (nI lo) (nI N) sets vb vf vh vl vw fc fn fs (nI L) = some (1, q_mk B (2 ^ N), q_mk (q_li S k) (2 ^ N), nI (2 ^ N), q_mk (q_F L lo hi (fun j => j)) (2 ^ N), nI hi, nI L, nI lo, c, n, s)) := by
  have h16 := q_p16 hN
  obtain ⟨c, n, s, elay, hc, hn⟩ := q_layAC hL hlo hh hN vb vf vh vl vw fc fn fs
  refine ⟨c, n, s, hc, hn, ?_⟩
  have e1 : ∀ t, M_X5_begin pb pl (nI (2 ^ N)) (q_mk (q_F L lo hi (fun j => j)) (2 ^ N)) c n (q_mk (q_li S k) (2 ^ N)) = some t → (t.1 = 0 ∨ t.1 = 1) → M_X8_beginGame pb pl (nI k) (nI hi) (nI lo) (nI N) sets vb vf vh vl vw fc fn fs (nI L) = some (t.1, t.2.1, t.2.2, nI (2 ^ N), q_mk (q_F L lo hi (fun j => j)) (2 ^ N), nI hi, nI L, nI lo, c, n, s) := by
    intro t ht h01
    rw [M_X8_beginGame, if_pos (show nI N ≤ (4 : Int32) from nI_le (b := 4) hN (by decide)), elay, ob]
    have e0 : ((0 : Int32), (0 : Int32)) = (q_mk (q_li S 0) (2 ^ N), nI 0) := by
      rw [show q_li S 0 = fun _ => false from rfl, q_0]; rfl
    rw [e0]
    refine lp_runK (fun i => (q_mk (q_li S i) (2 ^ N), nI i)) k _ (by omega) (fun i hi' => ?_) ?_
    · show L_X8_beginGame_22 pb pl (nI k) (nI hi) (nI lo) (nI N) sets (nI (2 ^ N)) (q_mk (q_F L lo hi (fun j => j)) (2 ^ N)) (nI hi) (nI L) (nI lo) c n s (q_mk (q_li S i) (2 ^ N)) (nI i) = _
      rw [L_X8_beginGame_22, if_neg (nle hi' (by omega)), ix_in (vp_in_nI (by omega) (by decide)), nI_clamp (by omega), (hS i hi').2, q_insm _ (by omega) (hS i hi').1, nI_1, q_li_s]
    · show L_X8_beginGame_22 pb pl (nI k) (nI hi) (nI lo) (nI N) sets (nI (2 ^ N)) (q_mk (q_F L lo hi (fun j => j)) (2 ^ N)) (nI hi) (nI L) (nI lo) c n s (q_mk (q_li S k) (2 ^ N)) (nI k) = _
      rw [L_X8_beginGame_22, if_pos (nI_le (Nat.le_refl k) (by omega)), ht, ob, bz, if_pos h01]
      rfl
  rcases q_bball (F := q_F L lo hi (fun j => j)) (q_syA L (fun j => j)) h16 hc hn (q_li S k) with ⟨h1, h2⟩ | ⟨B, h1, h2⟩
  · refine Or.inl ⟨h1, ?_⟩
    refine e1 (0, -1, q_mk (q_li S k) (2 ^ N)) ?_ (Or.inl rfl)
    rw [M_X5_begin, h2, ob, if_pos rfl]
  · refine Or.inr ⟨B, h1, ?_⟩
    have hv : q_val B (2 ^ N) < 2 ^ 31 := Nat.lt_of_lt_of_le (q_val_lt B (2 ^ N)) (Nat.pow_le_pow_right (by decide) (by omega))
    refine e1 (1, q_mk B (2 ^ N), q_mk (q_li S k) (2 ^ N)) ?_ (Or.inr rfl)
    rw [M_X5_begin, h2, ob, if_neg (show ¬ q_mk B (2 ^ N) = (-1 : Int32) from q_nm1 hv)]
