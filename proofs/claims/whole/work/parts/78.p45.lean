/-! read: words, numbers, letters -/
theorem lg0 {a b : Int64} : lg_cmp a b = 0 ↔ a = b := by
  constructor
  · intro h
    unfold lg_cmp at h
    by_cases h1 : a > b
    · rw [if_pos h1] at h; exact absurd h (by decide)
    · rw [if_neg h1] at h
      by_cases h2 : a = b
      · exact h2
      · rw [if_neg h2] at h; exact absurd h (by decide)
  · exact lg_eq
def q_wl (w : Nat) : Nat := gsL.getD w 0
def q_wc (w i : Nat) : Nat := (([[115, 111, 114, 116, 115], [115, 105, 122, 101, 115], [98, 111, 120]] : List (List Nat)).getD w []).getD i 0
theorem q_wcI : ∀ w, w < 3 → ∀ i, i < q_wl w → gsC w (nI i) = nI (q_wc w i) := by decide
theorem q_wl_b : ∀ w, w < 3 → q_wl w ≤ 5 ∧ 1 ≤ q_wl w := by decide
theorem q_wc_b : ∀ w, w < 3 → ∀ i, i < q_wl w → q_wc w i < 256 := by decide
def q_is (B : Nat → Nat) (w s e K : Nat) : Prop := K = 1 ∧ e - s = q_wl w ∧ ∀ i, i < q_wl w → B (s + i) = q_wc w i
section WD
variable {k : Nat} {B : Nat → Nat} {f g : Nat → Int32}
theorem q_isWC (hk : k ≤ 200) (hB : ∀ j, j < k → B j < 256 ∧ f j = nI (B j)) {a s e K w : Nat} (ht : q_tk k B a s e K) (hw : w < 3) : (q_is B w s e K ∧ M_X7_isWord w (nI e) (nI K) (nI s) f = some 1) ∨ (¬ q_is B w s e K ∧ M_X7_isWord w (nI e) (nI K) (nI s) f = some 0) := by
  obtain ⟨t1, t2, t3, t4, t5, t6, t7, t8⟩ := ht
  obtain ⟨l1, l2⟩ := q_wl_b w hw
  rw [M_X7_isWord]
  by_cases c1 : K = 1
  · rw [if_pos (show nI K = (1 : Int32) by rw [c1]; rfl), pk_sub t2]
    by_cases c2 : e - s = q_wl w
    · rw [if_pos (show nI (e - s) = Int32.ofNat (gsL.getD w 0) by rw [c2]; rfl)]
      obtain ⟨t, et, h⟩ := lp_invK (body := fun z : Int32 => L_X7_isWord_28 w (nI e) (nI K) (nI s) f z)
        (fun i z => z = nI i ∧ ∀ j, j < i → B (s + j) = q_wc w j)
        (fun t => (t = 1 ∧ ∀ j, j < q_wl w → B (s + j) = q_wc w j) ∨ (t = 0 ∧ ¬ ∀ j, j < q_wl w → B (s + j) = q_wc w j)) (q_wl w) (by omega) (by
        rintro i z hi ⟨rfl, h⟩
        have hb := hB (s + i) (by omega)
        have hwc := q_wc_b w hw i hi
        show (∃ z', L_X7_isWord_28 w (nI e) (nI K) (nI s) f (nI i) = some (Sum.inl z') ∧ _) ∨ (∃ t, L_X7_isWord_28 w (nI e) (nI K) (nI s) f (nI i) = some (Sum.inr t) ∧ _)
        rw [L_X7_isWord_28, if_neg (show ¬ Int32.ofNat (gsL.getD w 0) ≤ nI i from nle (a := q_wl w) hi (by omega)), nI_add, ix_in (vp_in_nI (by omega) (by decide)), ix_in (show vp_in (nI i) (gsL.getD w 0) from vp_in_nI (N := q_wl w) hi (by omega)), nI_clamp (by omega), hb.2, q_wcI w hw i hi, nI_1]
        by_cases c : B (s + i) = q_wc w i
        · left
          rw [if_pos (by rw [c])]
          refine ⟨_, rfl, rfl, fun j hj => ?_⟩
          rcases Nat.lt_or_ge j i with h2 | h2
          · exact h j h2
          · have : j = i := by omega
            rw [this]; exact c
        · right
          rw [if_neg (fun h2 => c ((nI_eq (by omega) (by omega)).mp h2))]
          exact ⟨_, rfl, Or.inr ⟨rfl, fun h2 => c (h2 i hi)⟩⟩) (by
        rintro z ⟨rfl, h⟩
        refine ⟨1, ?_, Or.inl ⟨rfl, h⟩⟩
        show L_X7_isWord_28 w (nI e) (nI K) (nI s) f (nI (q_wl w)) = _
        rw [L_X7_isWord_28, if_pos (show Int32.ofNat (gsL.getD w 0) ≤ nI (q_wl w) from nI_le (a := q_wl w) (Nat.le_refl _) (by omega))]
        rfl) (0 : Int32) ⟨rfl, fun j hj => absurd hj (by omega)⟩
      rcases h with ⟨h1, h2⟩ | ⟨h1, h2⟩
      · exact Or.inl ⟨⟨c1, c2, h2⟩, by rw [et, h1]⟩
      · exact Or.inr ⟨fun h => h2 h.2.2, by rw [et, h1]⟩
    · exact Or.inr ⟨fun h => c2 h.2.1, by rw [if_neg (show ¬ nI (e - s) = Int32.ofNat (gsL.getD w 0) from fun h => c2 ((nI_eq (a := e - s) (b := q_wl w) (by omega) (by omega)).mp h))]⟩
  · exact Or.inr ⟨fun h => c1 h.1, by rw [if_neg (show ¬ nI K = (1 : Int32) from fun h => c1 ((nI_eq (a := K) (b := 1) (by omega) (by decide)).mp h))]⟩
theorem q_hv_lt {s : Nat} : ∀ n, (∀ j, j < n → B (s + j) ≤ 122) → q_hv B s n < 32 ^ n := by
  intro n
  induction n with
  | zero => intro _; exact (by decide : 0 < 32 ^ 0)
  | succ n ih =>
    intro h
    have h1 := ih (fun j hj => h j (by omega))
    have h2 := h n (by omega)
    rw [q_hv, Nat.pow_succ]
    omega
theorem q_code {s n V : Nat} (hn : n ≤ 8) (hr : ∀ j, j < n → 97 ≤ B (s + j) ∧ B (s + j) ≤ 122) (hV : V < 2 ^ 31) : lg_cmp (q_wv2 B s n) (lN V) = 0 ↔ q_hv B s n = V := by
  have h1 := q_hv_lt (B := B) (s := s) n (fun j hj => (hr j hj).2)
  have h2 : 32 ^ n ≤ 32 ^ 8 := Nat.pow_le_pow_right (by decide) hn
  rw [lg0, q_wv2, if_pos hn, pk_lEQ (by omega) (by omega)]
theorem q_hv_eq {s n V : Nat} (hn : n ≤ 8) (h1 : 1 ≤ n) (hr : ∀ j, j < n → 97 ≤ B (s + j) ∧ B (s + j) ≤ 122) :
    (q_hv B s n = 20433555 ↔ n = 5 ∧ ∀ i, i < 5 → B (s + i) = q_wc 0 i) ∧ (q_hv B s n = 20244659 ↔ n = 5 ∧ ∀ i, i < 5 → B (s + i) = q_wc 1 i) ∧ (q_hv B s n = 2552 ↔ n = 3 ∧ ∀ i, i < 3 → B (s + i) = q_wc 2 i) := by
  have five : ∀ (c : Nat → Nat), (∀ i, i < 5 → B (s + i) = c i) ↔ (B (s + 0) = c 0 ∧ B (s + 1) = c 1 ∧ B (s + 2) = c 2 ∧ B (s + 3) = c 3 ∧ B (s + 4) = c 4) := fun c => by
    constructor
    · intro h
      exact ⟨h 0 (by decide), h 1 (by decide), h 2 (by decide), h 3 (by decide), h 4 (by decide)⟩
    · rintro ⟨a0, a1, a2, a3, a4⟩ i hi
      rcases (show i = 0 ∨ i = 1 ∨ i = 2 ∨ i = 3 ∨ i = 4 by omega) with rfl | rfl | rfl | rfl | rfl <;> assumption
  have three : ∀ (c : Nat → Nat), (∀ i, i < 3 → B (s + i) = c i) ↔ (B (s + 0) = c 0 ∧ B (s + 1) = c 1 ∧ B (s + 2) = c 2) := fun c => by
    constructor
    · intro h
      exact ⟨h 0 (by decide), h 1 (by decide), h 2 (by decide)⟩
    · rintro ⟨a0, a1, a2⟩ i hi
      rcases (show i = 0 ∨ i = 1 ∨ i = 2 by omega) with rfl | rfl | rfl <;> assumption
  rw [five, five, three]
  simp only [show q_wc 0 0 = 115 from rfl, show q_wc 0 1 = 111 from rfl, show q_wc 0 2 = 114 from rfl, show q_wc 0 3 = 116 from rfl, show q_wc 0 4 = 115 from rfl, show q_wc 1 0 = 115 from rfl, show q_wc 1 1 = 105 from rfl, show q_wc 1 2 = 122 from rfl, show q_wc 1 3 = 101 from rfl, show q_wc 1 4 = 115 from rfl, show q_wc 2 0 = 98 from rfl, show q_wc 2 1 = 111 from rfl, show q_wc 2 2 = 120 from rfl]
  have r := fun j => hr j
  generalize hb0 : B (s + 0) = b0
  generalize hb1 : B (s + 1) = b1
  generalize hb2 : B (s + 2) = b2
  generalize hb3 : B (s + 3) = b3
  generalize hb4 : B (s + 4) = b4
  have r0 : 97 ≤ b0 ∧ b0 ≤ 122 := by rw [← hb0]; exact hr 0 (by omega)
  rcases (show n = 1 ∨ n = 2 ∨ n = 3 ∨ n = 4 ∨ n = 5 ∨ n = 6 ∨ n = 7 ∨ n = 8 by omega) with rfl | rfl | rfl | rfl | rfl | rfl | rfl | rfl
  · simp only [q_hv, hb0]; omega
  · have r1 := hr 1 (by decide)
    simp only [q_hv, hb0, hb1] at r1 ⊢; omega
  · have r1 := hr 1 (by decide)
    have r2 := hr 2 (by decide)
    simp only [q_hv, hb0, hb1, hb2] at r1 r2 ⊢
    refine ⟨⟨fun h => ?_, fun h => absurd h.1 (by decide)⟩, ⟨fun h => ?_, fun h => absurd h.1 (by decide)⟩, ⟨fun h => ⟨by trivial, ?_, ?_, ?_⟩, fun h => ?_⟩⟩
    · exfalso; omega
    · exfalso; omega
    · omega
    · omega
    · omega
    · obtain ⟨-, h0, h1, h2⟩ := h
      omega
  · have r1 := hr 1 (by decide)
    have r2 := hr 2 (by decide)
    have r3 := hr 3 (by decide)
    simp only [q_hv, hb0, hb1, hb2, hb3] at r1 r2 r3 ⊢; omega
  · have r1 := hr 1 (by decide)
    have r2 := hr 2 (by decide)
    have r3 := hr 3 (by decide)
    have r4 := hr 4 (by decide)
    simp only [q_hv, hb0, hb1, hb2, hb3, hb4] at r1 r2 r3 r4 ⊢
    refine ⟨⟨fun h => ⟨by trivial, ?_, ?_, ?_, ?_, ?_⟩, fun h => ?_⟩, ⟨fun h => ⟨by trivial, ?_, ?_, ?_, ?_, ?_⟩, fun h => ?_⟩, ⟨fun h => ?_, fun h => absurd h.1 (by decide)⟩⟩
    · omega
    · omega
    · omega
    · omega
    · omega
    · obtain ⟨-, h0, h1, h2, h3, h4⟩ := h
      omega
    · omega
    · omega
    · omega
    · omega
    · omega
    · obtain ⟨-, h0, h1, h2, h3, h4⟩ := h
      omega
    · exfalso; omega
  · have r1 := hr 1 (by decide)
    have r2 := hr 2 (by decide)
    have r3 := hr 3 (by decide)
    have r4 := hr 4 (by decide)
    have r5 := hr 5 (by decide)
    simp only [q_hv, hb0, hb1, hb2, hb3, hb4] at r1 r2 r3 r4 r5 ⊢; omega
  · have r1 := hr 1 (by decide)
    have r2 := hr 2 (by decide)
    have r3 := hr 3 (by decide)
    have r4 := hr 4 (by decide)
    have r5 := hr 5 (by decide)
    have r6 := hr 6 (by decide)
    simp only [q_hv, hb0, hb1, hb2, hb3, hb4] at r1 r2 r3 r4 r5 r6 ⊢; omega
  · have r1 := hr 1 (by decide)
    have r2 := hr 2 (by decide)
    have r3 := hr 3 (by decide)
    have r4 := hr 4 (by decide)
    have r5 := hr 5 (by decide)
    have r6 := hr 6 (by decide)
    have r7 := hr 7 (by decide)
    simp only [q_hv, hb0, hb1, hb2, hb3, hb4] at r1 r2 r3 r4 r5 r6 r7 ⊢; omega
/-- the reference knows the same words -/
theorem q_isWR {a s e K : Nat} (ht : q_tk k B a s e K) (hK : K = 1) : (lg_cmp (q_wv2 B s (e - s)) 20433555 = 0 ↔ q_is B 0 s e K) ∧ (lg_cmp (q_wv2 B s (e - s)) 20244659 = 0 ↔ q_is B 1 s e K) ∧ (lg_cmp (q_wv2 B s (e - s)) 2552 = 0 ↔ q_is B 2 s e K) := by
  obtain ⟨t1, t2, t3, t4, t5, t6, t7, t8⟩ := ht
  have hse := t6 (by omega)
  have hr : ∀ j, j < e - s → 97 ≤ B (s + j) ∧ B (s + j) ≤ 122 := fun j hj => q_kd1 (t7 hK (s + j) (by omega) (by omega))
  by_cases c : e - s ≤ 8
  · obtain ⟨v1, v2, v3⟩ := q_hv_eq (V := 0) c (by omega) hr
    have w1 := q_code (V := 20433555) c hr (by decide)
    have w2 := q_code (V := 20244659) c hr (by decide)
    have w3 := q_code (V := 2552) c hr (by decide)
    refine ⟨?_, ?_, ?_⟩
    · refine (show lg_cmp (q_wv2 B s (e - s)) 20433555 = 0 ↔ _ from w1).trans (v1.trans ⟨fun h => ⟨hK, h.1, h.2⟩, fun h => ⟨h.2.1, h.2.2⟩⟩)
    · refine (show lg_cmp (q_wv2 B s (e - s)) 20244659 = 0 ↔ _ from w2).trans (v2.trans ⟨fun h => ⟨hK, h.1, h.2⟩, fun h => ⟨h.2.1, h.2.2⟩⟩)
    · refine (show lg_cmp (q_wv2 B s (e - s)) 2552 = 0 ↔ _ from w3).trans (v3.trans ⟨fun h => ⟨hK, h.1, h.2⟩, fun h => ⟨h.2.1, h.2.2⟩⟩)
  · have hm : q_wv2 B s (e - s) = -1 := by rw [q_wv2, if_neg c]
    rw [hm]
    refine ⟨⟨fun h => absurd h (by decide), fun h => ?_⟩, ⟨fun h => absurd h (by decide), fun h => ?_⟩, ⟨fun h => absurd h (by decide), fun h => ?_⟩⟩
    · have h2 : e - s = 5 := h.2.1; omega
    · have h2 : e - s = 5 := h.2.1; omega
    · have h2 : e - s = 3 := h.2.1; omega
theorem q_numC (hk : k ≤ 200) (hB : ∀ j, j < k → B j < 256 ∧ f j = nI (B j)) {s e : Nat} (hse : s ≤ e) (he : e ≤ k) (h2 : e - s ≤ 2) (hr : ∀ j, s ≤ j → j < e → q_kd (B j) = 2) : M_X7_number (nI e) (nI s) f = some (nI (q_nv B s (e - s))) := by
  rw [M_X7_number]
  have h0 : ((0 : Int32), nI s) = (fun i => (nI (q_nv B s (i - s)), nI i)) s := by
    show ((0 : Int32), nI s) = (nI (q_nv B s (s - s)), nI s)
    rw [Nat.sub_self]; rfl
  rw [h0]
  refine lp_fromK (fun i => (nI (q_nv B s (i - s)), nI i)) s e _ hse (by omega) (fun i h1 h3 => ?_) ?_
  · show L_X7_number_7 (nI e) (nI s) f (nI (q_nv B s (i - s))) (nI i) = some (Sum.inl (nI (q_nv B s (i + 1 - s)), nI (i + 1)))
    have hb := hB i (by omega)
    have hkd := q_kd2 (hr i h1 h3)
    rw [L_X7_number_7, if_neg (nle h3 (by omega)), ix_in (vp_in_nI (by omega) (by decide)), nI_clamp (by omega), hb.2, show (10 : Int32) = nI 10 from rfl, show (48 : Int32) = nI 48 from rfl, pk_mul, nI_add, pk_sub (by omega), nI_1, show i + 1 - s = (i - s) + 1 by omega, q_nv, show s + (i - s) = i by omega, Nat.mul_comm 10]
  · show L_X7_number_7 (nI e) (nI s) f (nI (q_nv B s (e - s))) (nI e) = _
    rw [L_X7_number_7, if_pos (nI_le (Nat.le_refl e) (by omega))]
    rfl
theorem q_nv_b {s n : Nat} (hn : n ≤ 2) (hr : ∀ j, j < n → 48 ≤ B (s + j) ∧ B (s + j) ≤ 57) : q_nv B s n ≤ 99 := by
  rcases (show n = 0 ∨ n = 1 ∨ n = 2 by omega) with rfl | rfl | rfl
  · exact Nat.zero_le _
  · have h0 := hr 0 (by decide)
    simp only [q_nv] at h0 ⊢; omega
  · have h0 := hr 0 (by decide)
    have h1 := hr 1 (by decide)
    simp only [q_nv] at h0 h1 ⊢; omega
/-- a number, by both -/
theorem q_num (hk : k ≤ 200) (hB : ∀ j, j < k → B j < 256 ∧ f j = nI (B j)) (hG : ∀ j, j < k → B j < 256 ∧ g j = nI (B j)) {a lo hi : Nat} (ha : a ≤ k) (hlo : lo ≤ 99) (hhi : hi ≤ 99) {lo' hi' : Int32} (el : lo' = nI lo) (eh : hi' = nI hi) :
    ∃ s e K, s ≤ k ∧ (∀ vk vs, M_X7_advance (nI a) vk (nI k) vs f = some (nI e, nI K, nI s)) ∧
    ((M_X7_isNumber (nI e) (nI K) (nI s) f lo' hi' = some 0 ∧ ∀ vb vk vv, ∃ t, M_X9_takesNumber (nI a) vb vk (nI k) vv g lo' hi' = some t ∧ t.1 = 0 ∧ t.2.2.1 = nI s) ∨
     ∃ v, lo ≤ v ∧ v ≤ hi ∧ a < e ∧ e ≤ k ∧ M_X7_isNumber (nI e) (nI K) (nI s) f lo' hi' = some 1 ∧ M_X7_number (nI e) (nI s) f = some (nI v) ∧ ∀ vb vk vv, M_X9_takesNumber (nI a) vb vk (nI k) vv g lo' hi' = some (1, nI e, nI s, nI 2, lN v)) := by
  obtain ⟨s, e, K, ht, hC, hR⟩ := q_tok hk hB hG ha
  obtain ⟨t1, t2, t3, t4, t5, t6, t7, t8⟩ := id ht
  refine ⟨s, e, K, by omega, hC, ?_⟩
  by_cases c1 : K = 2
  · have hse := t6 (by omega)
    have hin : ∀ x : Int32, M_X9_in x.toInt64 lo'.toInt64 hi'.toInt64 = some (if lo' ≤ x ∧ x ≤ hi' then 1 else 0) := fun x => in32 x lo' hi'
    by_cases c2 : e - s ≤ 2
    · have hr : ∀ j, j < e - s → 48 ≤ B (s + j) ∧ B (s + j) ≤ 57 := fun j hj => q_kd2 (t8 c1 (s + j) (by omega) (by omega))
      have hnb := q_nv_b c2 hr
      have hn := q_numC hk hB t2 t3 c2 (t8 c1)
      have hmv : q_mv B s (e - s) = (nI (q_nv B s (e - s))).toInt64 := by rw [q_mv, if_pos c2, nI_l (by omega)]
      have eC : M_X7_isNumber (nI e) (nI K) (nI s) f lo' hi' = some (if lo' ≤ nI (q_nv B s (e - s)) ∧ nI (q_nv B s (e - s)) ≤ hi' then 1 else 0) := by
        rw [M_X7_isNumber, if_pos (show nI K = (2 : Int32) by rw [c1]; rfl), pk_sub t2, if_neg (show ¬ (2 : Int32) < nI (e - s) from nI_nlt (a := 2) c2 (by decide)), hn, ob, bw, ob]
        split
        · rfl
        · rfl
      by_cases c3 : lo ≤ q_nv B s (e - s) ∧ q_nv B s (e - s) ≤ hi
      · have hc : lo' ≤ nI (q_nv B s (e - s)) ∧ nI (q_nv B s (e - s)) ≤ hi' := by rw [el, eh]; exact ⟨nI_le c3.1 (by omega), nI_le c3.2 (by omega)⟩
        refine Or.inr ⟨q_nv B s (e - s), c3.1, c3.2, by omega, t3, by rw [eC, if_pos hc], hn, fun vb vk vv => ?_⟩
        obtain ⟨x, v, ex, x1, x2, x3⟩ := hR vb vk vv
        rw [M_X9_takesNumber, ex, ob, x1 (by omega), x3 c1, hmv, c1, if_pos (show nI 2 = (2 : Int32) from rfl), hin, if_pos hc, ob, if_neg (by decide), nI_l (by omega)]
      · have hc : ¬ (lo' ≤ nI (q_nv B s (e - s)) ∧ nI (q_nv B s (e - s)) ≤ hi') := by
          rw [el, eh]
          exact fun h => c3 ⟨(nI_leI (by omega) (by omega)).mp h.1, (nI_leI (by omega) (by omega)).mp h.2⟩
        refine Or.inl ⟨by rw [eC, if_neg hc], fun vb vk vv => ?_⟩
        obtain ⟨x, v, ex, x1, x2, x3⟩ := hR vb vk vv
        rw [M_X9_takesNumber, ex, ob, x3 c1, hmv, c1, if_pos (show nI 2 = (2 : Int32) from rfl), hin, if_neg hc, ob, if_pos rfl]
        exact ⟨_, rfl, rfl, rfl⟩
    · have hmv : q_mv B s (e - s) = (nI 1000).toInt64 := by rw [q_mv, if_neg c2]; rfl
      refine Or.inl ⟨?_, fun vb vk vv => ?_⟩
      · rw [M_X7_isNumber, if_pos (show nI K = (2 : Int32) by rw [c1]; rfl), pk_sub t2, if_pos (show (2 : Int32) < nI (e - s) from nI_lt (a := 2) (by omega) (by omega))]
      · obtain ⟨x, v, ex, x1, x2, x3⟩ := hR vb vk vv
        rw [M_X9_takesNumber, ex, ob, x3 c1, hmv, c1, if_pos (show nI 2 = (2 : Int32) from rfl), hin, if_neg (fun h => by
          have h2 := h.2
          rw [eh] at h2
          have := (nI_leI (by decide) (by omega)).mp h2
          omega), ob, if_pos rfl]
        exact ⟨_, rfl, rfl, rfl⟩
  · have hK2 : ¬ nI K = (2 : Int32) := fun h => c1 ((nI_eq (a := K) (b := 2) (by omega) (by decide)).mp h)
    refine Or.inl ⟨by rw [M_X7_isNumber, if_neg hK2], fun vb vk vv => ?_⟩
    obtain ⟨x, v, ex, x1, x2, x3⟩ := hR vb vk vv
    rw [M_X9_takesNumber, ex, ob, if_neg hK2]
    exact ⟨_, rfl, rfl, rfl⟩
/-- an item's end, by both -/
theorem q_stop (hk : k ≤ 200) (hB : ∀ j, j < k → B j < 256 ∧ f j = nI (B j)) (hG : ∀ j, j < k → B j < 256 ∧ g j = nI (B j)) {a : Nat} (ha : a ≤ k) :
    ∃ s, s ≤ k ∧ ((∃ t, (∀ vk vs, M_X7_parseSemicolon (nI a) vk (nI k) vs f = some t) ∧ t.1 = 0 ∧ t.2.2.2 = nI s ∧ ∀ vb vk vv, ∃ t, M_X9_takesStop (nI a) vb vk (nI k) vv g = some t ∧ t.1 = 0 ∧ t.2.2.1 = nI s) ∨
    ∃ e, a < e ∧ e ≤ k ∧ (∀ vk vs, M_X7_parseSemicolon (nI a) vk (nI k) vs f = some (1, nI e, nI 4, nI s)) ∧ ∀ vb vk vv, ∃ v, M_X9_takesStop (nI a) vb vk (nI k) vv g = some (1, nI e, nI s, nI 4, v)) := by
  obtain ⟨s, e, K, ht, hC, hR⟩ := q_tok hk hB hG ha
  obtain ⟨t1, t2, t3, t4, t5, t6, t7, t8⟩ := id ht
  refine ⟨s, by omega, ?_⟩
  by_cases c1 : K = 4
  · have hse := t6 (by omega)
    subst c1
    refine Or.inr ⟨e, by omega, t3, fun vk vs => ?_, fun vb vk vv => ?_⟩
    · rw [M_X7_parseSemicolon, hC, ob, if_pos (show nI 4 = (4 : Int32) from rfl)]
    · obtain ⟨x, v, ex, x1, x2, x3⟩ := hR vb vk vv
      refine ⟨v, ?_⟩
      rw [M_X9_takesStop, ex, ob, if_pos (show nI 4 = (4 : Int32) from rfl), x1 (by decide)]
  · have hK4 : ¬ nI K = (4 : Int32) := fun h => c1 ((nI_eq (a := K) (b := 4) (by omega) (by decide)).mp h)
    refine Or.inl ⟨(0, nI e, nI K, nI s), fun vk vs => ?_, rfl, rfl, fun vb vk vv => ?_⟩
    · rw [M_X7_parseSemicolon, hC, ob, if_neg hK4]
    · obtain ⟨x, v, ex, x1, x2, x3⟩ := hR vb vk vv
      rw [M_X9_takesStop, ex, ob, if_neg hK4]
      exact ⟨_, rfl, rfl, rfl⟩
end WD
