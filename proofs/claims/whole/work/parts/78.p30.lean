/-! What a lawful set is -/
def q_law (m : Nat) (F : Nat → Bool) (C R : Nat → Nat → Bool) (S : Nat → Bool) : Prop :=
  (∀ i, i < m → S i = true → F i = true) ∧ (∀ i j, i < m → j < m → S i = true → S j = true → C i j = false) ∧ ∀ i j l, i < m → j < m → l < m → S i = true → S j = true → S l = true → R i j = true → R j l = true → R i l = true → False
def q_sy (C R : Nat → Nat → Bool) : Prop := (∀ i j, C i j = C j i) ∧ (∀ i, C i i = false) ∧ (∀ i j, R i j = R j i) ∧ ∀ i, R i i = false
theorem q_syA (L : Nat) (A : Nat → Nat) : q_sy (q_C L A) (q_R L A) := by
  refine ⟨fun i j => ?_, fun i => ?_, fun i j => ?_, fun i => ?_⟩
  · unfold q_C; rw [q_agr_comm, show (A j != A i) = (A i != A j) from bne_comm]
  · unfold q_C; simp
  · unfold q_R; rw [q_nst_comm]
  · unfold q_R q_nst; simp
theorem q_ins_iff {S : Nat → Bool} {k j : Nat} : q_ins S k j = true ↔ S j = true ∨ j = k := by
  unfold q_ins
  rw [Bool.or_eq_true, beq_iff_eq]
theorem q_ins_f {S : Nat → Bool} {k j : Nat} : q_ins S k j = false ↔ S j = false ∧ j ≠ k := by
  unfold q_ins
  rw [Bool.or_eq_false_iff, beq_eq_false_iff_ne]
section LW
variable {m : Nat} {F : Nat → Bool} {C R : Nat → Nat → Bool}
theorem q_law_sub {S T : Nat → Bool} (h : q_law m F C R S) (hs : ∀ i, i < m → T i = true → S i = true) : q_law m F C R T :=
  ⟨fun i hi h1 => h.1 i hi (hs i hi h1), fun i j hi hj h1 h2 => h.2.1 i j hi hj (hs i hi h1) (hs j hj h2), fun i j l hi hj hl h1 h2 h3 => h.2.2 i j l hi hj hl (hs i hi h1) (hs j hj h2) (hs l hl h3)⟩
theorem q_law_two (sy : q_sy C R) {S : Nat → Bool} {k u : Nat} (hlk : q_law m F C R (q_ins S k)) (hlu : q_law m F C R (q_ins S u)) (hC : C k u = false) (hx : ∀ t, t < m → S t = true → R k u = true → R k t = true → R t u = true → False) : q_law m F C R (q_ins (q_ins S k) u) := by
  obtain ⟨sC, iC, sR, iR⟩ := sy
  have mem : ∀ {j}, q_ins (q_ins S k) u j = true → S j = true ∨ j = k ∨ j = u := fun {j} h => by
    rcases q_ins_iff.mp h with h | h
    · rcases q_ins_iff.mp h with h | h
      · exact Or.inl h
      · exact Or.inr (Or.inl h)
    · exact Or.inr (Or.inr h)
  refine ⟨fun i hi h => ?_, fun i j hi hj h1 h2 => ?_, fun i j l hi hj hl h1 h2 h3 a b c => ?_⟩
  · rcases mem h with h | h | h
    · exact hlk.1 i hi (q_ins_iff.mpr (Or.inl h))
    · exact hlk.1 i hi (q_ins_iff.mpr (Or.inr h))
    · exact hlu.1 i hi (q_ins_iff.mpr (Or.inr h))
  · rcases mem h1 with mi | mi | mi <;> rcases mem h2 with mj | mj | mj <;> first
      | exact hlk.2.1 i j hi hj (q_ins_iff.mpr (by first | exact Or.inl mi | exact Or.inr mi)) (q_ins_iff.mpr (by first | exact Or.inl mj | exact Or.inr mj))
      | exact hlu.2.1 i j hi hj (q_ins_iff.mpr (by first | exact Or.inl mi | exact Or.inr mi)) (q_ins_iff.mpr (by first | exact Or.inl mj | exact Or.inr mj))
      | (rw [mi, mj]; exact hC)
      | (rw [mi, mj, sC]; exact hC)
  · rcases mem h1 with mi | mi | mi <;> rcases mem h2 with mj | mj | mj <;> rcases mem h3 with ml | ml | ml <;> first
      | exact hlk.2.2 i j l hi hj hl (q_ins_iff.mpr (by first | exact Or.inl mi | exact Or.inr mi)) (q_ins_iff.mpr (by first | exact Or.inl mj | exact Or.inr mj)) (q_ins_iff.mpr (by first | exact Or.inl ml | exact Or.inr ml)) a b c
      | exact hlu.2.2 i j l hi hj hl (q_ins_iff.mpr (by first | exact Or.inl mi | exact Or.inr mi)) (q_ins_iff.mpr (by first | exact Or.inl mj | exact Or.inr mj)) (q_ins_iff.mpr (by first | exact Or.inl ml | exact Or.inr ml)) a b c
      | (rw [mi, mj, iR] at a; cases a)
      | (rw [mj, ml, iR] at b; cases b)
      | (rw [mi, ml, iR] at c; cases c)
      | exact hx l hl ml (by rw [← mi, ← mj]; exact a) (by rw [← mi]; exact c) (by rw [sR, ← mj]; exact b)
      | exact hx j hj mj (by rw [← mi, ← ml]; exact c) (by rw [← mi]; exact a) (by rw [← ml]; exact b)
      | exact hx l hl ml (by rw [sR, ← mi, ← mj]; exact a) (by rw [← mj]; exact b) (by rw [sR, ← mi]; exact c)
      | exact hx j hj mj (by rw [sR, ← mi, ← ml]; exact c) (by rw [sR, ← ml]; exact b) (by rw [sR, ← mi]; exact a)
      | exact hx i hi mi (by rw [← mj, ← ml]; exact b) (by rw [sR, ← mj]; exact a) (by rw [← ml]; exact c)
      | exact hx i hi mi (by rw [sR, ← mj, ← ml]; exact b) (by rw [sR, ← ml]; exact c) (by rw [← mj]; exact a)
def q_ok (m : Nat) (F : Nat → Bool) (C R : Nat → Nat → Bool) (S M : Nat → Bool) : Prop := q_law m F C R S ∧ ∀ u, u < m → (M u = true ↔ S u = false ∧ q_law m F C R (q_ins S u))
theorem q_ok_0 (sy : q_sy C R) : q_ok m F C R (fun _ => false) F := by
  obtain ⟨sC, iC, sR, iR⟩ := sy
  refine ⟨⟨fun i _ h => (by cases h), fun i j _ _ h _ => (by cases h), fun i j l _ _ _ h _ _ _ _ _ => (by cases h)⟩, fun u hu => ⟨fun h => ⟨rfl, ?_⟩, fun h => h.2.1 u hu (q_ins_iff.mpr (Or.inr rfl))⟩⟩
  have mem : ∀ {j}, q_ins (fun _ => false) u j = true → j = u := fun {j} h => by
    rcases q_ins_iff.mp h with h | h
    · cases h
    · exact h
  refine ⟨fun i hi h1 => ?_, fun i j hi hj h1 h2 => ?_, fun i j l hi hj hl h1 h2 h3 a b c => ?_⟩
  · rw [mem h1]; exact h
  · rw [mem h1, mem h2]; exact iC u
  · rw [mem h1, mem h2, iR] at a; cases a
theorem q_ok_step (sy : q_sy C R) {S M : Nat → Bool} (ok : q_ok m F C R S M) {k : Nat} (hk : k < m) (hM : M k = true) : q_ok m F C R (q_ins S k) (q_stp m C R k S M) := by
  obtain ⟨hl, hu⟩ := ok
  obtain ⟨hSk, hlk⟩ := (hu k hk).mp hM
  refine ⟨hlk, fun u hum => ?_⟩
  unfold q_stp
  constructor
  · intro h
    rw [Bool.and_eq_true, Bool.and_eq_true] at h
    obtain ⟨⟨h1, h2⟩, h3⟩ := h
    have huk : u ≠ k := bne_iff_ne.mp h2
    have hbb : q_bb m C R k S u = false := by simpa using h3
    obtain ⟨hSu, hlu⟩ := (hu u hum).mp h1
    unfold q_bb at hbb
    rw [Bool.or_eq_false_iff] at hbb
    obtain ⟨hC, hR⟩ := hbb
    refine ⟨q_ins_f.mpr ⟨hSu, huk⟩, q_law_two sy hlk hlu hC (fun t ht hSt a b c => ?_)⟩
    have hx : q_ex (fun t => S t && R k t && R t u) m = true := (q_ex_iff _ m).mpr ⟨t, ht, by rw [hSt, b, c]; rfl⟩
    rw [a, hx] at hR; cases hR
  · rintro ⟨h1, h2⟩
    obtain ⟨hSu, huk⟩ := q_ins_f.mp h1
    have hMu : M u = true := (hu u hum).mpr ⟨hSu, q_law_sub h2 (fun i _ h => by
      rcases q_ins_iff.mp h with h | h
      · exact q_ins_iff.mpr (Or.inl (q_ins_iff.mpr (Or.inl h)))
      · exact q_ins_iff.mpr (Or.inr h))⟩
    have iu : q_ins (q_ins S k) u u = true := q_ins_iff.mpr (Or.inr rfl)
    have ik : q_ins (q_ins S k) u k = true := q_ins_iff.mpr (Or.inl (q_ins_iff.mpr (Or.inr rfl)))
    have hC : C k u = false := h2.2.1 k u hk hum ik iu
    have hbb : q_bb m C R k S u = false := by
      unfold q_bb
      rw [hC, Bool.false_or]
      cases hR : R k u with
      | false => rfl
      | true =>
        cases hx : q_ex (fun t => S t && R k t && R t u) m with
        | false => rfl
        | true =>
          obtain ⟨t, ht, hb⟩ := (q_ex_iff _ m).mp hx
          rw [Bool.and_eq_true, Bool.and_eq_true] at hb
          exact (h2.2.2 k t u hk ht hum ik (q_ins_iff.mpr (Or.inl (q_ins_iff.mpr (Or.inl hb.1.1)))) iu hb.1.2 hb.2 hR).elim
    rw [hMu, show (u != k) = true from bne_iff_ne.mpr huk, hbb]
    rfl
theorem q_ok_cg {S T M N : Nat → Bool} (ok : q_ok m F C R S M) (h : ∀ i, i < m → S i = T i) (h2 : ∀ i, i < m → M i = N i) : q_ok m F C R T N := by
  refine ⟨q_law_sub ok.1 (fun i hi h1 => by rw [h i hi]; exact h1), fun u hu => ?_⟩
  rw [← h2 u hu, ok.2 u hu, h u hu]
  constructor
  · rintro ⟨a, b⟩
    exact ⟨a, q_law_sub b (fun i hi h1 => by rw [q_ins_iff] at h1 ⊢; rw [h i hi]; exact h1)⟩
  · rintro ⟨a, b⟩
    exact ⟨a, q_law_sub b (fun i hi h1 => by rw [q_ins_iff] at h1 ⊢; rw [← h i hi]; exact h1)⟩
/-! the ends of the reference's way -/
def q_lv (st : Nat → (Nat → Bool) → (Nat → Bool) → Nat → Bool) (W : Nat → Bool) : Nat → Nat → (Nat → Bool) → (Nat → Bool) → List ((Nat → Bool) × (Nat → Bool))
  | 0, _, S, M => [(S, M)]
  | d + 1, k, S, M => (if M k = true then q_lv st W d (k + 1) (q_ins S k) (st k S M) else []) ++ (if W k = true then [] else q_lv st W d (k + 1) S M)
theorem q_go_lv {α : Type} {st : Nat → (Nat → Bool) → (Nat → Bool) → Nat → Bool} {W : Nat → Bool} {leaf : (Nat → Bool) → (Nat → Bool) → α → α} : ∀ d k S M a, q_go st W leaf d k S M a = (q_lv st W d k S M).foldl (fun a p => leaf p.1 p.2 a) a := by
  intro d
  induction d with
  | zero => intro k S M a; rfl
  | succ d ih =>
    intro k S M a
    rw [q_go, q_lv, List.foldl_append]
    cases M k with
    | true =>
      rw [if_pos rfl, if_pos rfl, ← ih]
      cases W k with
      | true => rw [if_pos rfl, if_pos rfl]; rfl
      | false => rw [if_neg q_ff, if_neg q_ff, ← ih]
    | false =>
      rw [if_neg q_ff, if_neg q_ff]
      cases W k with
      | true => rw [if_pos rfl, if_pos rfl]; rfl
      | false => rw [if_neg q_ff, if_neg q_ff, ← ih]; rfl
theorem q_lv_in (sy : q_sy C R) {W : Nat → Bool} : ∀ (d k : Nat) (S M : Nat → Bool), k + d = m → q_ok m F C R S M → ∀ p, p ∈ q_lv (q_stp m C R) W d k S M → q_law m F C R p.1 ∧ (∀ j, j < k → p.1 j = S j) ∧ ∀ j, k ≤ j → j < m → W j = true → p.1 j = true := by
  intro d
  induction d with
  | zero =>
    intro k S M hk ok p hp
    rw [q_lv, List.mem_singleton] at hp
    rw [hp]
    exact ⟨ok.1, fun _ _ => rfl, fun j h1 h2 => by omega⟩
  | succ d ih =>
    intro k S M hk ok p hp
    rw [q_lv, List.mem_append] at hp
    rcases hp with hp | hp
    · cases hM : M k with
      | false => rw [hM, if_neg (by decide)] at hp; cases hp
      | true =>
        rw [hM, if_pos rfl] at hp
        obtain ⟨h1, h2, h3⟩ := ih (k + 1) _ _ (by omega) (q_ok_step sy ok (by omega) hM) p hp
        refine ⟨h1, fun j hj => ?_, fun j hj hjm hW => ?_⟩
        · rw [h2 j (by omega)]
          unfold q_ins
          rw [show (j == k) = false from beq_eq_false_iff_ne.mpr (by omega), Bool.or_false]
        · rcases Nat.lt_or_ge k j with c | c
          · exact h3 j c hjm hW
          · have : j = k := by omega
            subst this
            rw [h2 j (by omega)]
            exact q_ins_iff.mpr (Or.inr rfl)
    · cases hW : W k with
      | true => rw [hW, if_pos rfl] at hp; cases hp
      | false =>
        rw [hW, if_neg (by decide)] at hp
        obtain ⟨h1, h2, h3⟩ := ih (k + 1) _ _ (by omega) ok p hp
        refine ⟨h1, fun j hj => h2 j (by omega), fun j hj hjm hWj => ?_⟩
        rcases Nat.lt_or_ge k j with c | c
        · exact h3 j c hjm hWj
        · have : j = k := by omega
          subst this
          rw [hW] at hWj; cases hWj
theorem q_lv_all (sy : q_sy C R) {W : Nat → Bool} {T : Nat → Bool} (hT : q_law m F C R T) : ∀ (d k : Nat) (S M : Nat → Bool), k + d = m → q_ok m F C R S M → (∀ j, k ≤ j → S j = false) → (∀ j, j < k → T j = S j) → (∀ j, k ≤ j → j < m → W j = true → T j = true) → ∃ p, p ∈ q_lv (q_stp m C R) W d k S M ∧ ∀ j, j < m → p.1 j = T j := by
  intro d
  induction d with
  | zero =>
    intro k S M hk ok hS hj hW
    exact ⟨(S, M), by rw [q_lv]; exact List.mem_singleton.mpr rfl, fun j hjm => (hj j (by omega)).symm⟩
  | succ d ih =>
    intro k S M hk ok hS hj hW
    rw [q_lv]
    cases hTk : T k with
    | true =>
      have hM : M k = true := (ok.2 k (by omega)).mpr ⟨hS k (Nat.le_refl k), q_law_sub hT (fun i hi h => by
        rcases q_ins_iff.mp h with h | h
        · rcases Nat.lt_or_ge i k with c | c
          · rw [hj i c]; exact h
          · rw [hS i c] at h; cases h
        · rw [h]; exact hTk)⟩
      obtain ⟨p, hp, hpT⟩ := ih (k + 1) (q_ins S k) (q_stp m C R k S M) (by omega) (q_ok_step sy ok (by omega) hM) (fun j h => q_ins_f.mpr ⟨hS j (by omega), by omega⟩) (fun j h => by
        rcases Nat.lt_or_ge j k with c | c
        · rw [hj j c]
          unfold q_ins
          rw [show (j == k) = false from beq_eq_false_iff_ne.mpr (by omega), Bool.or_false]
        · have : j = k := by omega
          subst this
          rw [hTk]
          exact (q_ins_iff.mpr (Or.inr rfl)).symm) (fun j h h2 => hW j (by omega) h2)
      exact ⟨p, List.mem_append.mpr (Or.inl (by rw [hM, if_pos rfl]; exact hp)), hpT⟩
    | false =>
      have hWk : W k = false := by
        cases h : W k with
        | false => rfl
        | true => rw [hW k (Nat.le_refl k) (by omega) h] at hTk; cases hTk
      obtain ⟨p, hp, hpT⟩ := ih (k + 1) S M (by omega) ok (fun j h => hS j (by omega)) (fun j h => by
        rcases Nat.lt_or_ge j k with c | c
        · exact hj j c
        · have : j = k := by omega
          subst this
          rw [hTk, hS j (Nat.le_refl j)]) (fun j h h2 => hW j (by omega) h2)
      exact ⟨p, List.mem_append.mpr (Or.inr (by rw [hWk, if_neg (by decide)]; exact hp)), hpT⟩
/-! which boxes bar -/
theorem q_bball (sy : q_sy C R) (hm : m ≤ 16) {c n : Nat → Int32} (hc : ∀ j, j < m → c j = q_mk (C j) m) (hn : ∀ j, j < m → n j = q_mk (R j) m) (W : Nat → Bool) :
    (¬ q_law m F C R W ∧ M_X3_barredByAll (nI m) (q_mk F m) c n (q_mk W m) = some (-1)) ∨ ∃ B, q_ok m F C R W (fun u => !(W u || B u)) ∧ M_X3_barredByAll (nI m) (q_mk F m) c n (q_mk W m) = some (q_mk B m) := by
  obtain ⟨t, et, hq⟩ := lp_invK (body := fun z : Int32 × Int32 × Int32 => L_X3_barredByAll_17 (q_mk W m) (nI m) (q_mk F m) c n z.1 z.2.1 z.2.2)
    (fun i z => ∃ B, z = (q_mk B m, q_mk (fun u => W u && decide (u < i)) m, nI i) ∧ q_ok m F C R (fun u => W u && decide (u < i)) (fun u => !((W u && decide (u < i)) || B u)))
    (fun t => (¬ q_law m F C R W ∧ t = -1) ∨ ∃ B, q_ok m F C R W (fun u => !(W u || B u)) ∧ t = q_mk B m) m (by omega) (by
    rintro i z hi ⟨B, rfl, ok⟩
    show (∃ z', L_X3_barredByAll_17 (q_mk W m) (nI m) (q_mk F m) c n (q_mk B m) (q_mk (fun u => W u && decide (u < i)) m) (nI i) = some (Sum.inl z') ∧ _) ∨ (∃ t, L_X3_barredByAll_17 (q_mk W m) (nI m) (q_mk F m) c n (q_mk B m) (q_mk (fun u => W u && decide (u < i)) m) (nI i) = some (Sum.inr t) ∧ _)
    rw [L_X3_barredByAll_17, if_neg (nle hi (by omega)), q_has _ (by omega), ob, q_bt _ (by omega), decide_eq_true hi, Bool.true_and, nI_1]
    have hins : ∀ u, W i = true → q_ins (fun u => W u && decide (u < i)) i u = (W u && decide (u < i + 1)) := fun u hW => by
      show ((W u && decide (u < i)) || u == i) = (W u && decide (u < i + 1))
      by_cases c1 : u = i
      · subst c1; rw [hW]; simp
      · rw [show (u == i) = false from beq_eq_false_iff_ne.mpr c1, Bool.or_false]
        by_cases c2 : u < i
        · rw [decide_eq_true c2, decide_eq_true (show u < i + 1 by omega)]
        · rw [decide_eq_false c2, decide_eq_false (show ¬ u < i + 1 by omega)]
    cases hW : W i with
    | false =>
      left
      rw [nb0]
      have e : ∀ u, (W u && decide (u < i)) = (W u && decide (u < i + 1)) := by
        intro u
        by_cases c1 : u = i
        · subst c1; rw [hW]; rfl
        · by_cases c2 : u < i
          · rw [decide_eq_true c2, decide_eq_true (show u < i + 1 by omega)]
          · rw [decide_eq_false c2, decide_eq_false (show ¬ u < i + 1 by omega)]
      refine ⟨_, rfl, B, ?_, ?_⟩
      · simp only [e]
      · simp only [← e]; exact ok
    | true =>
      rw [if_pos rfl, if_neg (by decide), q_has _ (by omega), ob, q_bt _ (by omega), decide_eq_true hi, Bool.true_and]
      cases hB : B i with
      | true =>
        right
        rw [if_pos rfl, if_neg (by decide)]
        refine ⟨-1, rfl, Or.inl ⟨fun hl => ?_, rfl⟩⟩
        have h1 := (ok.2 i hi).mpr ⟨by simp, q_law_sub hl (fun u _ h => by
          rcases q_ins_iff.mp h with h | h
          · rw [Bool.and_eq_true] at h; exact h.1
          · rw [h]; exact hW)⟩
        have h2 : (!((W i && decide (i < i)) || B i)) = true := h1
        rw [hB, Bool.or_true] at h2
        cases h2
      | false =>
        left
        rw [nb0, q_barC hm hi hc hn, ob, q_or _ _ (by omega), q_insm _ (by omega) hi]
        refine ⟨_, rfl, (fun u => B u || q_bb m C R i (fun u => W u && decide (u < i)) u), ?_, ?_⟩
        · rw [show q_ins (fun u => W u && decide (u < i)) i = fun u => W u && decide (u < i + 1) from funext (fun u => hins u hW)]
        · have h1 := q_ok_step sy ok hi (by simp [hB])
          rw [← q_stp_sb, show q_ins (fun u => W u && decide (u < i)) i = fun u => W u && decide (u < i + 1) from funext (fun u => hins u hW)] at h1
          exact h1) (by
    rintro z ⟨B, rfl, ok⟩
    refine ⟨q_mk B m, ?_, Or.inr ⟨B, q_ok_cg ok (fun u hu => by rw [decide_eq_true hu, Bool.and_true]) (fun u hu => by rw [decide_eq_true hu, Bool.and_true]), rfl⟩⟩
    show L_X3_barredByAll_17 (q_mk W m) (nI m) (q_mk F m) c n (q_mk B m) _ (nI m) = _
    rw [L_X3_barredByAll_17, if_pos (nI_le (Nat.le_refl m) (by omega))]
    rfl) ((q_mk (fun j => true && !F j) m), (0 : Int32), (0 : Int32)) ⟨fun j => !F j, by
      have e : (fun u => W u && decide (u < 0)) = fun _ => false := by funext u; simp
      rw [e, q_0]
      rfl, by
      have e : (fun u => W u && decide (u < 0)) = fun _ => false := by funext u; simp
      have e2 : (fun u => !((W u && decide (u < 0)) || !F u)) = F := by funext u; simp
      rw [e2, e]
      exact q_ok_0 sy⟩
  have eM : M_X3_barredByAll (nI m) (q_mk F m) c n (q_mk W m) = some t := by
    rw [M_X3_barredByAll, M_X3_all, q_all (by omega), ob, q_dif _ _ (by omega)]
    exact et
  rcases hq with ⟨h1, h2⟩ | ⟨B, h1, h2⟩
  · exact Or.inl ⟨h1, by rw [eM, h2]⟩
  · exact Or.inr ⟨B, h1, by rw [eM, h2]⟩
end LW
