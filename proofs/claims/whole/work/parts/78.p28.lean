/-! lists: both ways through all sets -/
theorem q_ff : ¬ false = true := by decide
abbrev Q4 : Type := Int32 × Int32 × Int32 × Int32
def q_l4 (m : Nat) (S M : Nat → Bool) (a : Q4) : Q4 :=
  (if q_mk M m = 0 then (if a.1 ≤ nI (q_cnt S m) then a.1 else nI (q_cnt S m)) else a.1,
   a.2.1 + 1,
   if q_mk M m = 0 then (if nI (q_cnt S m) ≤ a.2.2.1 then a.2.2.1 else nI (q_cnt S m)) else a.2.2.1,
   if q_mk M m = 0 then a.2.2.2 + 1 else a.2.2.2)
theorem q_minc (f t u : Int32) : (if (if f ≤ t then f else t) ≤ u then (if f ≤ t then f else t) else u) = (if (if f ≤ u then f else u) ≤ t then (if f ≤ u then f else u) else t) := by
  by_cases h1 : f ≤ t <;> by_cases h2 : f ≤ u <;> by_cases h3 : t ≤ u <;> by_cases h4 : u ≤ t <;> simp only [h1, h2, h3, h4, if_true, if_false] <;> first | rfl | (exfalso; simp only [Int32.le_iff_toInt_le] at h1 h2 h3 h4; omega) | (apply Int32.le_antisymm <;> assumption)
theorem q_maxc (f t u : Int32) : (if u ≤ (if t ≤ f then f else t) then (if t ≤ f then f else t) else u) = (if t ≤ (if u ≤ f then f else u) then (if u ≤ f then f else u) else t) := by
  by_cases h1 : t ≤ f <;> by_cases h2 : u ≤ f <;> by_cases h3 : t ≤ u <;> by_cases h4 : u ≤ t <;> simp only [h1, h2, h3, h4, if_true, if_false] <;> first | rfl | (exfalso; simp only [Int32.le_iff_toInt_le] at h1 h2 h3 h4; omega) | (apply Int32.le_antisymm <;> assumption)
theorem q_l4c (m : Nat) (S M X Y : Nat → Bool) (a : Q4) : q_l4 m S M (q_l4 m X Y a) = q_l4 m X Y (q_l4 m S M a) := by
  obtain ⟨f, l, mo, w⟩ := a
  unfold q_l4
  dsimp only
  by_cases h1 : q_mk M m = 0
  · by_cases h2 : q_mk Y m = 0
    · simp only [if_pos h1, if_pos h2]
      rw [q_minc f (nI (q_cnt X m)) (nI (q_cnt S m)), q_maxc mo (nI (q_cnt X m)) (nI (q_cnt S m))]
    · simp only [if_pos h1, if_neg h2]
  · by_cases h2 : q_mk Y m = 0
    · simp only [if_neg h1, if_pos h2]
    · simp only [if_neg h1, if_neg h2]
theorem q_go_comm {α : Type} {st : Nat → (Nat → Bool) → (Nat → Bool) → Nat → Bool} {W : Nat → Bool} {leaf : (Nat → Bool) → (Nat → Bool) → α → α} (g : α → α) (h : ∀ S M a, leaf S M (g a) = g (leaf S M a)) : ∀ d k S M a, q_go st W leaf d k S M (g a) = g (q_go st W leaf d k S M a) := by
  intro d
  induction d with
  | zero => intro k S M a; exact h S M a
  | succ d ih =>
    intro k S M a
    rw [q_go, q_go]
    cases W k <;> cases M k <;> simp [ih]
theorem q_go_rel {α β : Type} {st : Nat → (Nat → Bool) → (Nat → Bool) → Nat → Bool} {W : Nat → Bool} {leaf : (Nat → Bool) → (Nat → Bool) → α → α} {leaf' : (Nat → Bool) → (Nat → Bool) → β → β} (Rl : α → β → Prop) (h : ∀ S M a b, Rl a b → Rl (leaf S M a) (leaf' S M b)) : ∀ d k S M a b, Rl a b → Rl (q_go st W leaf d k S M a) (q_go st W leaf' d k S M b) := by
  intro d
  induction d with
  | zero => intro k S M a b hr; exact h S M a b hr
  | succ d ih =>
    intro k S M a b hr
    rw [q_go, q_go]
    have h1 : Rl (if M k = true then q_go st W leaf d (k + 1) (q_ins S k) (st k S M) a else a) (if M k = true then q_go st W leaf' d (k + 1) (q_ins S k) (st k S M) b else b) := by
      cases M k with
      | true => rw [if_pos rfl, if_pos rfl]; exact ih _ _ _ _ _ hr
      | false => rw [if_neg (by decide), if_neg (by decide)]; exact hr
    cases W k with
    | true => rw [if_pos rfl, if_pos rfl]; exact h1
    | false => rw [if_neg q_ff, if_neg q_ff]; exact ih _ _ _ _ _ h1
def q_lo {α : Type} (st : Nat → (Nat → Bool) → (Nat → Bool) → Nat → Bool) (leaf : (Nat → Bool) → (Nat → Bool) → α → α) : Nat → Nat → (Nat → Bool) → (Nat → Bool) → α → α
  | 0, _, _, _, a => a
  | d + 1, k, S, M, a => q_lo st leaf d (k + 1) S M (if M k = true then q_go st (fun _ => false) leaf d (k + 1) (q_ins S k) (st k S M) a else a)
theorem q_go_lo {α : Type} {st : Nat → (Nat → Bool) → (Nat → Bool) → Nat → Bool} {leaf : (Nat → Bool) → (Nat → Bool) → α → α} : ∀ d k S M a, q_go st (fun _ => false) leaf d k S M a = leaf S M (q_lo st leaf d k S M a) := by
  intro d
  induction d with
  | zero => intro k S M a; rfl
  | succ d ih =>
    intro k S M a
    rw [q_go, q_lo, if_neg (by decide), ih]
theorem q_lo_comm {α : Type} {st : Nat → (Nat → Bool) → (Nat → Bool) → Nat → Bool} {leaf : (Nat → Bool) → (Nat → Bool) → α → α} (g : α → α) (h : ∀ S M a, leaf S M (g a) = g (leaf S M a)) : ∀ d k S M a, q_lo st leaf d k S M (g a) = g (q_lo st leaf d k S M a) := by
  intro d
  induction d with
  | zero => intro k S M a; rfl
  | succ d ih =>
    intro k S M a
    rw [q_lo, q_lo]
    cases M k with
    | true => rw [if_pos rfl, if_pos rfl, q_go_comm g h, ih]
    | false => rw [if_neg (by decide), if_neg (by decide), ih]
theorem q_stp_sb {m i : Nat} {C R : Nat → Nat → Bool} (S B : Nat → Bool) : (fun u => !(q_ins S i u || (B u || q_bb m C R i S u))) = q_stp m C R i S (fun u => !(S u || B u)) := by
  funext u
  show (!((S u || u == i) || (B u || q_bb m C R i S u))) = ((!(S u || B u)) && !(u == i) && !q_bb m C R i S u)
  cases S u <;> cases (u == i) <;> cases B u <;> cases q_bb m C R i S u <;> rfl
theorem q_mn1 (t f : Int32) : (if t < f then t else f) = if f ≤ t then f else t := by
  by_cases h : f ≤ t
  · rw [if_pos h, if_neg (Int32.not_lt.mpr h)]
  · rw [if_neg h, if_pos (Int32.not_le.mp h)]
theorem q_mx1 (t f : Int32) : (if f < t then t else f) = if t ≤ f then f else t := by
  by_cases h : t ≤ f
  · rw [if_pos h, if_neg (Int32.not_lt.mpr h)]
  · rw [if_neg h, if_pos (Int32.not_le.mp h)]
theorem q_full {m : Nat} (hm : m ≤ 32) (S B : Nat → Bool) : q_mk (fun j => S j || B j) m = q_mk (fun _ => true) m ↔ q_mk (fun u => !(S u || B u)) m = 0 := by
  rw [q_eq0 hm]
  constructor
  · intro h i hi
    have h2 : (S i || B i) = true := q_inj hm h i hi
    show (!(S i || B i)) = false
    rw [h2]; rfl
  · intro h
    apply q_mkcg
    intro i hi
    have h2 : (!(S i || B i)) = false := h i hi
    show (S i || B i) = true
    cases h3 : (S i || B i) with
    | true => rfl
    | false => rw [h3] at h2; cases h2
theorem q_wkC {m : Nat} (hm : m ≤ 16) {C R : Nat → Nat → Bool} {c n : Nat → Int32} (hc : ∀ j, j < m → c j = q_mk (C j) m) (hn : ∀ j, j < m → n j = q_mk (R j) m) : ∀ (d k D : Nat) (S B : Nat → Bool) (a : Q4), k + d = m → d < D → M_X4_walk D a.1 a.2.1 a.2.2.1 a.2.2.2 (nI m) c n (nI k) (q_mk S m) (q_mk B m) = some (q_go (q_stp m C R) (fun _ => false) (q_l4 m) d k S (fun u => !(S u || B u)) a) := by
  intro d
  induction d using Nat.strongRecOn with
  | _ d IH =>
    intro k D S B a hkd hD
    obtain ⟨D, rfl⟩ : ∃ e, D = e + 1 := ⟨D - 1, by omega⟩
    have loop : ∀ (e i : Nat) (b : Q4) (nf : Nat), i + e = m → k ≤ i → e < nf → lpN (fun z : Int32 × Int32 × Int32 × Int32 × Int32 => L_X4_walk_31 (M_X4_walk D) (q_mk S m) (q_mk B m) (nI m) c n z.1 z.2.1 z.2.2.1 z.2.2.2.1 z.2.2.2.2) nf (nI i, b.1, b.2.1, b.2.2.1, b.2.2.2) = some (q_lo (q_stp m C R) (q_l4 m) e i S (fun u => !(S u || B u)) b) := by
      intro e
      induction e with
      | zero =>
        intro i b nf hi hki hnf
        obtain ⟨nf, rfl⟩ : ∃ e, nf = e + 1 := ⟨nf - 1, by omega⟩
        have hi' : i = m := by omega
        subst hi'
        have e1 : L_X4_walk_31 (M_X4_walk D) (q_mk S i) (q_mk B i) (nI i) c n (nI i) b.1 b.2.1 b.2.2.1 b.2.2.2 = some (Sum.inr b) := by
          rw [L_X4_walk_31, if_pos (nI_le (Nat.le_refl i) (by omega))]
          rfl
        unfold lpN
        rw [e1]
        rfl
      | succ e ihe =>
        intro i b nf hi hki hnf
        obtain ⟨nf, rfl⟩ : ∃ e, nf = e + 1 := ⟨nf - 1, by omega⟩
        have him : i < m := by omega
        have e1 : L_X4_walk_31 (M_X4_walk D) (q_mk S m) (q_mk B m) (nI m) c n (nI i) b.1 b.2.1 b.2.2.1 b.2.2.2 = some (Sum.inl (nI (i + 1), (if (!(S i || B i)) = true then q_go (q_stp m C R) (fun _ => false) (q_l4 m) e (i + 1) (q_ins S i) (q_stp m C R i S (fun u => !(S u || B u))) b else b).1, (if (!(S i || B i)) = true then q_go (q_stp m C R) (fun _ => false) (q_l4 m) e (i + 1) (q_ins S i) (q_stp m C R i S (fun u => !(S u || B u))) b else b).2.1, (if (!(S i || B i)) = true then q_go (q_stp m C R) (fun _ => false) (q_l4 m) e (i + 1) (q_ins S i) (q_stp m C R i S (fun u => !(S u || B u))) b else b).2.2.1, (if (!(S i || B i)) = true then q_go (q_stp m C R) (fun _ => false) (q_l4 m) e (i + 1) (q_ins S i) (q_stp m C R i S (fun u => !(S u || B u))) b else b).2.2.2)) := by
          rw [L_X4_walk_31, if_neg (nle him (by omega)), q_or S B (by omega), q_has _ (by omega), ob, q_bt _ (by omega), decide_eq_true him, Bool.true_and]
          cases hb : (S i || B i) with
          | true => rw [if_pos rfl, if_neg (by decide), if_neg (by decide), nI_1]
          | false =>
            have hr := IH e (by omega) (i + 1) D (q_ins S i) (fun u => B u || q_bb m C R i S u) b (by omega) (by omega)
            rw [q_stp_sb] at hr
            rw [nb0, q_barC hm him hc hn S, ob, q_or B _ (by omega), q_insm S (by omega) him, nI_1, hr, ob, if_pos (by decide)]
        have e2 := lpS (body := fun z : Int32 × Int32 × Int32 × Int32 × Int32 => L_X4_walk_31 (M_X4_walk D) (q_mk S m) (q_mk B m) (nI m) c n z.1 z.2.1 z.2.2.1 z.2.2.2.1 z.2.2.2.2) (z := (nI i, b.1, b.2.1, b.2.2.1, b.2.2.2)) nf e1
        rw [e2, ihe (i + 1) _ nf (by omega) (by omega) (by omega)]
        rfl
    have hF : M_X4_walk (D + 1) a.1 a.2.1 a.2.2.1 a.2.2.2 (nI m) c n (nI k) (q_mk S m) (q_mk B m) = F_X4_walk (M_X4_walk D) a.1 a.2.1 a.2.2.1 a.2.2.2 (nI m) c n (nI k) (q_mk S m) (q_mk B m) := rfl
    have hL := loop d k (q_l4 m S (fun u => !(S u || B u)) a) fuelK (by omega) (Nat.le_refl k) (by unfold fuelK; omega)
    rw [hF, q_go_lo, ← q_lo_comm (q_l4 m S (fun u => !(S u || B u))) (fun X Y b => q_l4c m X Y S _ b), F_X4_walk, M_X3_all, q_all (by omega), ob, q_or S B (by omega)]
    by_cases h : q_mk (fun j => S j || B j) m = q_mk (fun _ => true) m
    · rw [if_pos h, M_X4_noteWhole, q_bitC S hm, ob, ob]
      rw [← hL]
      have h0 := (q_full (by omega) S B).mp h
      unfold q_l4
      simp only [if_pos h0, q_mn1, q_mx1]
    · rw [if_neg h, ← hL]
      have h0 : ¬ q_mk (fun u => !(S u || B u)) m = 0 := fun c => h ((q_full (by omega) S B).mpr c)
      unfold q_l4
      simp only [if_neg h0]
/-! without bars -/
def q_cf (M : Nat → Bool) : Nat → Nat → Nat
  | 0, _ => 0
  | d + 1, k => (if M k = true then 1 else 0) + q_cf M d (k + 1)
theorem q_cf_cg {M N : Nat → Bool} : ∀ d k, (∀ u, k ≤ u → M u = N u) → q_cf M d k = q_cf N d k := by
  intro d
  induction d with
  | zero => intro k _; rfl
  | succ d ih => intro k h; rw [q_cf, q_cf, h k (Nat.le_refl k), ih (k + 1) (fun u hu => h u (by omega))]
theorem q_cf_cnt {M : Nat → Bool} : ∀ d k, q_cnt M k + q_cf M d k = q_cnt M (k + d) := by
  intro d
  induction d with
  | zero => intro k; rfl
  | succ d ih =>
    intro k
    have := ih (k + 1)
    rw [q_cf, show k + (d + 1) = k + 1 + d by omega, ← this, q_cnt]
    omega
theorem q_free {m : Nat} (hm : m ≤ 32) {st : Nat → (Nat → Bool) → (Nat → Bool) → Nat → Bool} (hst : ∀ k S M, st k S M = fun u => M u && !(u == k)) : ∀ (d k : Nat) (S M : Nat → Bool) (a : Q4), k + d = m →
    q_go st (fun _ => false) (q_l4 m) d k S M a = (if q_mk M k = 0 then (if a.1 ≤ nI (q_cnt (fun u => S u || M u) m) then a.1 else nI (q_cnt (fun u => S u || M u) m)) else a.1, a.2.1 + nI (2 ^ q_cf M d k), if q_mk M k = 0 then (if nI (q_cnt (fun u => S u || M u) m) ≤ a.2.2.1 then a.2.2.1 else nI (q_cnt (fun u => S u || M u) m)) else a.2.2.1, if q_mk M k = 0 then a.2.2.2 + 1 else a.2.2.2) := by
  intro d
  induction d with
  | zero =>
    intro k S M a hk
    have hk' : k = m := by omega
    subst hk'
    rw [q_go, q_cf]
    unfold q_l4
    by_cases h : q_mk M k = 0
    · have hc : q_cnt (fun u => S u || M u) k = q_cnt S k := q_cnt_cg (fun i hi => by
        show (S i || M i) = S i
        rw [(q_eq0 hm).mp h i hi, Bool.or_false])
      simp only [if_pos h, hc]
      rfl
    · simp only [if_neg h]
      rfl
  | succ d ih =>
    intro k S M a hk
    rw [q_go, if_neg (by decide), q_cf]
    cases hM : M k with
    | false =>
      have h0 : q_mk M (k + 1) = 0 ↔ q_mk M k = 0 := by
        rw [q_eq0 (by omega), q_eq0 (by omega)]
        constructor
        · intro h i hi; exact h i (by omega)
        · intro h i hi
          rcases Nat.lt_or_ge i k with c | c
          · exact h i c
          · have : i = k := by omega
            subst this; exact hM
      rw [if_neg q_ff, ih (k + 1) S M a (by omega), if_neg q_ff, Nat.zero_add]
      simp only [h0]
    | true =>
      have h1 : ¬ q_mk M (k + 1) = 0 := fun h => by
        have := (q_eq0 (by omega)).mp h k (by omega)
        rw [hM] at this; cases this
      have h2 : q_mk (st k S M) (k + 1) = 0 ↔ q_mk M k = 0 := by
        rw [q_eq0 (by omega), q_eq0 (by omega), hst]
        constructor
        · intro h i hi
          have := h i (by omega)
          simp only at this
          rw [show (i == k) = false from beq_eq_false_iff_ne.mpr (by omega)] at this
          simpa using this
        · intro h i hi
          by_cases c : i = k
          · subst c; simp
          · simp only; rw [h i (by omega)]; rfl
      have h3 : q_cnt (fun u => q_ins S k u || st k S M u) m = q_cnt (fun u => S u || M u) m := q_cnt_cg (fun i hi => by
        simp only [hst, q_ins]
        by_cases c : i = k
        · subst c; rw [hM]; simp
        · rw [show (i == k) = false from beq_eq_false_iff_ne.mpr c]; simp)
      have h4 : q_cf (st k S M) d (k + 1) = q_cf M d (k + 1) := q_cf_cg d (k + 1) (fun u hu => by
        rw [hst]
        simp only
        rw [show (u == k) = false from beq_eq_false_iff_ne.mpr (by omega)]; simp)
      rw [if_pos rfl, if_pos rfl, ih (k + 1) (q_ins S k) (st k S M) a (by omega), ih (k + 1) S M _ (by omega)]
      simp only [if_neg h1, h2, h3, h4]
      rw [Int32.add_assoc, nI_add, show 2 ^ q_cf M d (k + 1) + 2 ^ q_cf M d (k + 1) = 2 ^ (1 + q_cf M d (k + 1)) by rw [Nat.pow_add]; omega]
theorem q_tellC {L lo hi m : Nat} (hL : L ≤ 4) (hm : m ≤ 16) {A : Nat → Nat} {c n : Nat → Int32} (hc : ∀ j, j < m → c j = q_mk (q_C L A j) m) (hn : ∀ j, j < m → n j = q_mk (q_R L A j) m) (v1 v2 v3 v4 : Int32) : M_X4_tell v1 v2 v3 v4 (nI m) (q_mk (q_F L lo hi A) m) (nI L) c n = some (q_go (q_stp m (q_C L A) (q_R L A)) (fun _ => false) (q_l4 m) m 0 (fun _ => false) (q_F L lo hi A) (16, 0, 0, 0)) := by
  rw [M_X4_tell]
  by_cases h : L = 0
  · subst h
    have hst : ∀ k S M, q_stp m (q_C 0 A) (q_R 0 A) k S M = fun u => M u && !(u == k) := by
      intro k S M
      funext u
      have h1 : q_C 0 A k u = false := by unfold q_C q_agr; simp
      have h2 : q_R 0 A k u = false := rfl
      unfold q_stp q_bb
      rw [h1, h2, show (u != k) = !(u == k) from rfl]
      simp
    have hcf : q_cf (q_F 0 lo hi A) m 0 = q_cnt (q_F 0 lo hi A) m := by
      have := q_cf_cnt (M := q_F 0 lo hi A) m 0
      rw [Nat.zero_add] at this
      rw [← this, q_cnt, Nat.zero_add]
    have hle := q_cnt_le (q_F 0 lo hi A) m
    rw [if_pos nI_0, q_bitC _ hm, ob, M_X4_noteWhole, q_bitC _ hm, ob, ob, pw1 _ (by omega), q_free (by omega) hst m 0 _ _ _ (by omega), hcf]
    have h0 : q_mk (q_F 0 lo hi A) 0 = 0 := rfl
    simp only [if_pos h0, Bool.false_or, q_mn1, q_mx1]
    rw [show (0 : Int32) + nI (2 ^ q_cnt (q_F 0 lo hi A) m) = nI (2 ^ q_cnt (q_F 0 lo hi A) m) from Int32.zero_add _]
  · rw [if_neg (nI_ne0 (by omega) (by omega)), M_X3_all, q_all (by omega), ob, q_dif _ _ (by omega)]
    have e := q_wkC hm hc hn m 0 20 (fun _ => false) (fun j => true && !q_F L lo hi A j) (16, 0, 0, 0) (by omega) (by omega)
    rw [q_0] at e
    have e2 : M_X4_walk 20 16 0 0 0 (nI m) c n 0 0 (q_mk (fun j => true && !q_F L lo hi A j) m) = some (q_go (q_stp m (q_C L A) (q_R L A)) (fun _ => false) (q_l4 m) m 0 (fun _ => false) (q_F L lo hi A) (16, 0, 0, 0)) := by
      refine Eq.trans e ?_
      congr 2
      funext u
      cases q_F L lo hi A u <;> rfl
    rw [e2, ob]
theorem q_layE (vb vf vh vl vw : Int32) (fc fn fs : Nat → Int32) (p0 p1 p2 p4 : Int32) : M_X3_layS vb vf vh vl vw fc fn fs p0 p1 p2 p4 = M_X3_lay 16 (fun j => nI j) vb vf vh vl vw fc fn fs p0 p1 p2 p4 := rfl
theorem q_p16 {N : Nat} (hN : N ≤ 4) : 2 ^ N ≤ 16 := Nat.le_trans (Nat.pow_le_pow_right (by decide) hN) (show 2 ^ 4 ≤ 16 by decide)
theorem q_layAC {L lo hi N : Nat} (hL : L ≤ 4) (hlo : lo ≤ 8) (hh : hi ≤ 8) (hN : N ≤ 4) (vb vf vh vl vw : Int32) (fc fn fs : Nat → Int32) :
    ∃ c n s, M_X8_layOverAll (nI hi) (nI lo) (nI N) vb vf vh vl vw fc fn fs (nI L) = some (nI (2 ^ N), q_mk (q_F L lo hi (fun j => j)) (2 ^ N), nI hi, nI L, nI lo, c, n, s) ∧ (∀ j, j < 2 ^ N → c j = q_mk (q_C L (fun j => j) j) (2 ^ N)) ∧ (∀ j, j < 2 ^ N → n j = q_mk (q_R L (fun j => j) j) (2 ^ N)) := by
  have h16 := q_p16 hN
  obtain ⟨c, n, s, e, hc, hn, -⟩ := q_layC hL hlo hh h16 (A := fun j => j) (f := fun j => nI j) (fun j hj => ⟨by omega, rfl⟩) vb vf vh vl vw fc fn fs
  refine ⟨c, n, s, ?_, hc, hn⟩
  rw [M_X8_layOverAll, pw1 N (by omega), q_layE, e, ob]
theorem q_layAR {L lo hi N : Nat} (hL : L ≤ 4) (hlo : lo ≤ 8) (hh : hi ≤ 8) (hN : N ≤ 4) (vb vf vi : Int32) (bars box near : Nat → Int32) :
    ∃ b n, M_X9_lay vb vf (nI hi) vi (nI lo) (nI N) bars box near (nI L) 1 1 = some (q_mk (q_F L lo hi (fun j => j)) (2 ^ N), nI (2 ^ N), b, n) ∧ (∀ j, j < 2 ^ N → b j = q_mk (q_Br L (fun j => j) j) (2 ^ N)) ∧ (∀ j, j < 2 ^ N → n j = q_mk (q_Nr (fun j => j) j) (2 ^ N)) := by
  have h16 := q_p16 hN
  obtain ⟨b, n, e, hb, hn⟩ := q_layR hL hlo hh h16 (A := fun j => j) (fun j hj => by omega) (box := box) (p1 := 1) (p2 := 1) (fun j hj => by rw [M_X9_item, if_neg (by decide)]) vb vf vi (nI N) bars near
  refine ⟨b, n, ?_, hb, hn⟩
  rw [M_X9_lay, if_neg (by decide), pw1 N (by omega), e]
  rfl
