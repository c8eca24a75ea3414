/-! read: a box, an item -/
def q_tbx (x va vb vk vbo vs : Int32) (vv : Int64) (rb rq g : Nat → Int32) (is : Int32) : Option (Int32 × Int32 × Int32 × Int32 × Int32 × Int64 × (Nat → Int32) × (Nat → Int32)) :=
  if is = 0 then (some ((0 : Int32), va, vb, vk, vbo, vv, rb, rq)) else (Option.bind (M_X9_takesNumber va vb vk vs vv g (0 : Int32) (99 : Int32)) (fun t64 => if t64.1 = 0 then (some ((0 : Int32), t64.2.1, t64.2.2.1, t64.2.2.2.1, vbo, t64.2.2.2.2, rb, rq)) else (ix vbo 16 (ix vbo 16 (Option.bind (M_X9_takesStop t64.2.1 t64.2.2.1 t64.2.2.2.1 vs t64.2.2.2.2 g) (fun t107 => bz t107.1 (some (t107.1, t107.2.1, t107.2.2.1, t107.2.2.2.1, (vbo + (1 : Int32)), t107.2.2.2.2, (upd rb vbo.toNatClampNeg x), (upd rq vbo.toNatClampNeg t64.2.2.2.2.toInt32)))))))))
theorem q_dup {b : Nat} (hb : b ≤ 16) {x va vb vk vn vs : Int32} {vv : Int64} {rb rq g : Nat → Int32} (is0 : Bool) {t : Int32 × Int32 × Int32 × Int32 × Int32 × Int64 × (Nat → Int32) × (Nat → Int32)} (ht : q_tbx x va vb vk (nI b) vs vv rb rq g (if (is0 && !q_ex (fun j => rb j == x) b) = true then 1 else 0) = some t) : lpN (fun z : Int32 × Int32 => L_X9_takesBox_22 x va vb vk (nI b) vn vs vv rb rq g z.1 z.2) fuelK ((if is0 = true then 1 else 0), (0 : Int32)) = some t := by
  have h0 : ((if is0 = true then (1 : Int32) else 0), (0 : Int32)) = (fun i => ((if (is0 && !q_ex (fun j => rb j == x) i) = true then (1 : Int32) else 0), nI i)) 0 := by
    show ((if is0 = true then (1 : Int32) else 0), (0 : Int32)) = ((if (is0 && !false) = true then (1 : Int32) else 0), nI 0)
    rw [Bool.not_false, Bool.and_true]; rfl
  rw [h0]
  refine lp_runK (fun i => ((if (is0 && !q_ex (fun j => rb j == x) i) = true then (1 : Int32) else 0), nI i)) b _ (by omega) (fun i hi => ?_) ?_
  · show L_X9_takesBox_22 x va vb vk (nI b) vn vs vv rb rq g (if (is0 && !q_ex (fun j => rb j == x) i) = true then (1 : Int32) else 0) (nI i) = some (Sum.inl ((if (is0 && !(q_ex (fun j => rb j == x) i || rb i == x)) = true then (1 : Int32) else 0), nI (i + 1)))
    rw [L_X9_takesBox_22, if_neg (nle hi (by omega)), nI_1]
    cases h : (is0 && !q_ex (fun j => rb j == x) i) with
    | false =>
      have h2 : (is0 && !(q_ex (fun j => rb j == x) i || rb i == x)) = false := by
        exact (by decide : ∀ u w w2 : Bool, (u && !w) = false → (u && !(w || w2)) = false) _ _ _ h
      rw [if_pos (show (if false = true then (1 : Int32) else 0) = 0 by decide), h2, if_neg q_ff]
    | true =>
      rw [if_neg (show ¬ (if true = true then (1 : Int32) else 0) = 0 by decide), ix_in (vp_in_nI (by omega) (by decide)), nI_clamp (by omega)]
      have h2 : (is0 && !(q_ex (fun j => rb j == x) i || rb i == x)) = !(rb i == x) := by
        exact (by decide : ∀ u w w2 : Bool, (u && !w) = true → (u && !(w || w2)) = !w2) _ _ _ h
      rw [h2]
      by_cases c : rb i = x
      · rw [if_pos c, show (rb i == x) = true from beq_iff_eq.mpr c, show (!true) = false from rfl, if_neg q_ff]
      · rw [if_neg c, show (rb i == x) = false from beq_eq_false_iff_ne.mpr c, show (!false) = true from rfl, if_pos rfl]
  · show L_X9_takesBox_22 x va vb vk (nI b) vn vs vv rb rq g (if (is0 && !q_ex (fun j => rb j == x) b) = true then (1 : Int32) else 0) (nI b) = some (Sum.inr t)
    rw [L_X9_takesBox_22, if_pos (nI_le (Nat.le_refl b) (by omega))]
    refine Eq.trans (show _ = Option.map Sum.inr (q_tbx x va vb vk (nI b) vs vv rb rq g (if (is0 && !q_ex (fun j => rb j == x) b) = true then 1 else 0)) from rfl) ?_
    rw [ht]
    rfl
section IT
variable {k : Nat} {B : Nat → Nat} {f g : Nat → Int32}
theorem q_box (hk : k ≤ 200) (hB : ∀ j, j < k → B j < 256 ∧ f j = nI (B j)) (hG : ∀ j, j < k → B j < 256 ∧ g j = nI (B j)) {a N b : Nat} (ha : a ≤ k) (hN : N ≤ 8) (hb : b < 16) {cs cw rb rq : Nat → Int32} (har : q_ar N b cs cw rb rq) :
    ∃ s, s ≤ k ∧ (((∃ t, (∀ vk vs, M_X7_parseBox (nI a) vk (nI k) vs (nI b) (nI N) cs cw f = some t) ∧ t.1 = 0 ∧ t.2.2.2.1 = nI s) ∧ ∀ vb vk vv, ∃ t, M_X9_takesBox (nI a) vb vk (nI b) (nI N) (nI k) vv rb rq g = some t ∧ t.1 = 0 ∧ t.2.2.1 = nI s) ∨
    ∃ e cs' cw' rb' rq', a < e ∧ e ≤ k ∧ q_ar N (b + 1) cs' cw' rb' rq' ∧ (∀ vk vs, M_X7_parseBox (nI a) vk (nI k) vs (nI b) (nI N) cs cw f = some (1, nI e, nI 4, nI s, nI (b + 1), cs', cw')) ∧ ∀ vb vk vv, ∃ v, M_X9_takesBox (nI a) vb vk (nI b) (nI N) (nI k) vv rb rq g = some (1, nI e, nI s, nI 4, nI (b + 1), v, rb', rq')) := by
  obtain ⟨S, V, hS, hD⟩ := har
  have h28 : 2 ^ N ≤ 2 ^ 8 := Nat.pow_le_pow_right (by decide) hN
  obtain ⟨s1, e1, K1, ht1, hC1, hR1⟩ := q_tok hk hB hG ha
  obtain ⟨t1, t2, t3, t4, t5, t6, t7, t8⟩ := id ht1
  obtain ⟨r, hr, -, hrr⟩ := q_bx hk hB hG hN ht1 (x := nI e1) (fun _ => rfl)
  have hbR : ∀ x, (K1 ≠ 5 → x = nI e1) → M_X9_boxHere x (nI s1) (nI K1) (nI N) g = some r := fun x hx => by
    obtain ⟨r', h1, h2, -⟩ := q_bx hk hB hG hN ht1 hx
    rw [hr] at h1
    rw [h2, Option.some.inj h1]
  rcases hrr with hm | ⟨z, hz, hrz, hK5, hK0⟩
  · refine ⟨s1, by omega, Or.inl ⟨⟨(0, nI e1, nI K1, nI s1, nI b, cs, cw), fun vk vs => ?_, rfl, rfl⟩, fun vb vk vv => ?_⟩⟩
    · rw [M_X7_parseBox, hC1, ob, hr, ob, if_pos hm]
    · obtain ⟨x, v, ex, x1, x2, x3⟩ := hR1 vb vk vv
      refine ⟨(0, x, nI s1, nI K1, nI b, v, rb, rq), ?_, rfl, rfl⟩
      rw [M_X9_takesBox, ex, ob, hbR x x1, ob, if_pos hm]
      exact q_dup (by omega) false (by rw [Bool.false_and, if_neg q_ff, q_tbx, if_pos rfl])
  · have hse := t6 hK0
    have hrm : ¬ r = (-1 : Int32) := by rw [hrz]; exact q_nm1 (by omega)
    by_cases hd : ∃ j, j < b ∧ S j = z
    · obtain ⟨j, hj, hSj⟩ := hd
      refine ⟨s1, by omega, Or.inl ⟨⟨(0, nI e1, nI K1, nI s1, nI b, cs, cw), fun vk vs => ?_, rfl, rfl⟩, fun vb vk vv => ?_⟩⟩
      · rw [M_X7_parseBox, hC1, ob, hr, ob, if_neg hrm, holds_yes (by omega) cs r hj (by rw [(hS j hj).2.2.1.1, hSj, hrz]), ob, if_neg (by decide)]
      · obtain ⟨x, v, ex, x1, x2, x3⟩ := hR1 vb vk vv
        refine ⟨(0, x, nI s1, nI K1, nI b, v, rb, rq), ?_, rfl, rfl⟩
        rw [M_X9_takesBox, ex, ob, hbR x x1, ob, if_neg hrm]
        have hex : q_ex (fun j => rb j == r) b = true := (q_ex_iff _ b).mpr ⟨j, hj, beq_iff_eq.mpr (by rw [(hS j hj).2.2.1.2, hSj, hrz])⟩
        exact q_dup (by omega) true (by rw [hex, show (true && !true) = false from rfl, if_neg q_ff, q_tbx, if_pos rfl])
    · have hnC : M_X6_holds (nI b) cs r = some 0 := holds_no (by omega) cs r (fun j hj h => hd ⟨j, hj, by
        rw [(hS j hj).2.2.1.1, hrz] at h
        have := (hS j hj).1
        exact (nI_eq (by omega) (by omega)).mp h⟩)
      have hex : q_ex (fun j => rb j == r) b = false := by
        cases hq : q_ex (fun j => rb j == r) b with
        | false => rfl
        | true =>
          obtain ⟨j, hj, h⟩ := (q_ex_iff _ b).mp hq
          rw [beq_iff_eq, (hS j hj).2.2.1.2, hrz] at h
          have := (hS j hj).1
          exact absurd ⟨j, hj, (nI_eq (by omega) (by omega)).mp h⟩ hd
      have hdup : ∀ {va vb vk : Int32} {vv : Int64} {t}, q_tbx r va vb vk (nI b) (nI k) vv rb rq g 1 = some t → lpN (fun z : Int32 × Int32 => L_X9_takesBox_22 r va vb vk (nI b) (nI N) (nI k) vv rb rq g z.1 z.2) fuelK ((1 : Int32), (0 : Int32)) = some t := fun h => q_dup (by omega) true (by rw [hex, show (true && !false) = true from rfl, if_pos rfl]; exact h)
      obtain ⟨s2, e2, K2, hs2, hA2, h2⟩ := q_num hk hB hG t3 (lo := 0) (hi := 99) (by decide) (by decide) (lo' := 0) (hi' := 99) rfl rfl
      rcases h2 with ⟨h2, r2⟩ | ⟨w, a1, a2, a3, a4, h2, n2, r2⟩
      · refine ⟨s2, hs2, Or.inl ⟨⟨(0, nI e2, nI K2, nI s2, nI b, cs, cw), fun vk vs => ?_, rfl, rfl⟩, fun vb vk vv => ?_⟩⟩
        · rw [M_X7_parseBox, hC1, ob, hr, ob, if_neg hrm, hnC, ob, if_pos rfl, hA2, ob, h2, ob, if_pos rfl]
        · obtain ⟨x, v, ex, x1, x2, x3⟩ := hR1 vb vk vv
          obtain ⟨t, et, u1, u2⟩ := r2 (nI s1) (nI K1) v
          refine ⟨(0, t.2.1, t.2.2.1, t.2.2.2.1, nI b, t.2.2.2.2, rb, rq), ?_, rfl, u2⟩
          rw [M_X9_takesBox, ex, ob, hbR x x1, ob, if_neg hrm]
          refine hdup ?_
          rw [q_tbx, if_neg (by decide), x1 hK5, et, ob, if_pos u1]
      · have hput : M_X6_put (nI b) cs cw r (nI w) = some (nI (b + 1), upd cs b r, upd cw b (nI w)) := by
          rw [M_X6_put, if_neg (show ¬ (16 : Int32) ≤ nI b from nle (a := 16) hb (by decide)), ix_in (vp_in_nI hb (by decide)), ix_in (vp_in_nI hb (by decide)), nI_clamp (by omega), nI_1]
        have hbin : vp_in (nI b) 16 := vp_in_nI hb (by decide)
        obtain ⟨s3, hs3, h3⟩ := q_stop hk hB hG a4
        rcases h3 with ⟨t3', p3, t31, t32, r3⟩ | ⟨e3, c1, c2, p3, r3⟩
        · refine ⟨s3, hs3, Or.inl ⟨⟨(t3'.1, t3'.2.1, t3'.2.2.1, t3'.2.2.2, nI (b + 1), upd cs b r, upd cw b (nI w)), fun vk vs => ?_, t31, t32⟩, fun vb vk vv => ?_⟩⟩
          · rw [M_X7_parseBox, hC1, ob, hr, ob, if_neg hrm, hnC, ob, if_pos rfl, hA2, ob, h2, ob, if_neg (by decide), n2, ob, hput, ob, p3, ob, bz, if_pos (Or.inl t31)]
          · obtain ⟨x, v, ex, x1, x2, x3⟩ := hR1 vb vk vv
            obtain ⟨t, et, u1, u2⟩ := r3 (nI s2) (nI 2) (lN w)
            refine ⟨(t.1, t.2.1, t.2.2.1, t.2.2.2.1, nI b + 1, t.2.2.2.2, upd rb (nI b).toNatClampNeg r, upd rq (nI b).toNatClampNeg (lN w).toInt32), ?_, u1, u2⟩
            rw [M_X9_takesBox, ex, ob, hbR x x1, ob, if_neg hrm]
            refine hdup ?_
            rw [q_tbx, if_neg (by decide), x1 hK5, r2, ob, if_neg (show ¬ (1 : Int32) = 0 by decide), ix_in hbin, ix_in hbin, et, ob, bz, if_pos (Or.inl u1)]
        · refine ⟨s3, hs3, Or.inr ⟨e3, upd cs b r, upd cw b (nI w), upd rb b r, upd rq b (nI w), by omega, c2, ?_, fun vk vs => ?_, fun vb vk vv => ?_⟩⟩
          · refine ⟨fun j => if j = b then z else S j, fun j => if j = b then w else V j, fun j hj => ?_, fun i j hi hj h => ?_⟩
            · by_cases c : j = b
              · subst c
                simp only [if_true]
                rw [pk_us, pk_us, pk_us, pk_us]
                exact ⟨hz, a2, ⟨hrz, hrz⟩, rfl, rfl⟩
              · simp only [if_neg c]
                rw [pk_un c, pk_un c, pk_un c, pk_un c]
                exact hS j (by omega)
            · by_cases ci : i = b
              · by_cases cj : j = b
                · omega
                · simp only [if_pos ci, if_neg cj] at h
                  exact absurd ⟨j, by omega, h.symm⟩ hd
              · by_cases cj : j = b
                · simp only [if_neg ci, if_pos cj] at h
                  exact absurd ⟨i, by omega, h⟩ hd
                · simp only [if_neg ci, if_neg cj] at h
                  exact hD i j (by omega) (by omega) h
          · rw [M_X7_parseBox, hC1, ob, hr, ob, if_neg hrm, hnC, ob, if_pos rfl, hA2, ob, h2, ob, if_neg (by decide), n2, ob, hput, ob, p3, ob, bz, if_pos (Or.inr rfl)]
          · obtain ⟨x, v, ex, x1, x2, x3⟩ := hR1 vb vk vv
            obtain ⟨v3, ev⟩ := r3 (nI s2) (nI 2) (lN w)
            refine ⟨v3, ?_⟩
            rw [M_X9_takesBox, ex, ob, hbR x x1, ob, if_neg hrm]
            refine hdup ?_
            rw [q_tbx, if_neg (by decide), x1 hK5, r2, ob, if_neg (show ¬ (1 : Int32) = 0 by decide), ix_in hbin, ix_in hbin, ev, ob, bz, if_pos (Or.inr rfl), nI_clamp (by omega), nI_1, lN_i]
/-- an item, by both -/
theorem q_item (hk : k ≤ 200) (hB : ∀ j, j < k → B j < 256 ∧ f j = nI (B j)) (hG : ∀ j, j < k → B j < 256 ∧ g j = nI (B j)) {a s e K N b lo hi : Nat} (ht : q_tk k B a s e K) (hK0 : K ≠ 0) (hN : N ≤ 8) (hb : b ≤ 16) (hlo : lo ≤ hi) (hhi : hi ≤ 8) {cs cw rb rq : Nat → Int32} (har : q_ar N b cs cw rb rq) {x : Int32} {v : Int64} (hx : K ≠ 5 → x = nI e) (hv : K = 1 → v = q_wv2 B s (e - s)) :
    ∃ s', s' ≤ k ∧ ((∃ t, M_X7_parseItem (nI e) (nI K) (nI k) (nI s) (nI b) (nI hi) (nI lo) (nI N) cs cw f = some t ∧ t.1 = 0 ∧ t.2.2.2.1 = nI s' ∧ ∃ t', L_X9_takesAll_78 (nI N) (nI k) g 1 x (nI s) (nI K) (nI b) (nI hi) (nI lo) v rb rq = some (Sum.inl t') ∧ t'.1 = 0 ∧ t'.2.2.1 = nI s') ∨
    ∃ e' b' lo' hi' cs' cw' rb' rq', e < e' ∧ e' ≤ k ∧ b' ≤ 16 ∧ lo' ≤ hi' ∧ hi' ≤ 8 ∧ q_ar N b' cs' cw' rb' rq' ∧ (∃ kd st, M_X7_parseItem (nI e) (nI K) (nI k) (nI s) (nI b) (nI hi) (nI lo) (nI N) cs cw f = some (1, nI e', kd, st, nI b', nI hi', nI lo', cs', cw')) ∧ ∃ bg kd vv, L_X9_takesAll_78 (nI N) (nI k) g 1 x (nI s) (nI K) (nI b) (nI hi) (nI lo) v rb rq = B_X9_takesAll_150 1 (nI e') bg kd (nI b') (nI hi') (nI lo') (nI N) (nI k) vv rb' rq' g) := by
  obtain ⟨t1, t2, t3, t4, t5, t6, t7, t8⟩ := id ht
  have hk0 : ¬ nI K = 0 := nI_ne0 (by omega) (by omega)
  have hgood : ¬ (1 : Int32) = 0 := by decide
  by_cases c1 : K = 1
  · have hk1 : nI K = (1 : Int32) := by rw [c1]; rfl
    obtain ⟨w0, w1, w2⟩ := q_isWR ht c1
    have hxe := hx (by omega)
    have hve := hv c1
    subst hxe; subst hve
    rcases q_isWC hk hB ht (w := 1) (by decide) with ⟨i1, e1⟩ | ⟨i1, e1⟩
    · obtain ⟨s', hs', h⟩ := q_szs hk hB hG t3 (nI hi) (nI lo) (nI hi) (nI lo)
      refine ⟨s', hs', ?_⟩
      rcases h with ⟨⟨t, et, u1, u2⟩, hR⟩ | ⟨e', lo', hi', p1, p2, p3, p4, et, hR⟩
      · left
        obtain ⟨t', et', u1', u2'⟩ := hR (nI s) (nI K) (q_wv2 B s (e - s))
        refine ⟨(t.1, t.2.1, t.2.2.1, t.2.2.2.1, nI b, t.2.2.2.2.1, t.2.2.2.2.2, cs, cw), ?_, u1, u2, (0, t'.2.1, t'.2.2.1, t'.2.2.2.1, nI b, t'.2.2.2.2.1, t'.2.2.2.2.2.1, t'.2.2.2.2.2.2, rb, rq), ?_, rfl, u2'⟩
        · rw [M_X7_parseItem, e1, ob, if_neg hgood, et, ob, bz, if_pos (Or.inl u1)]
        · rw [L_X9_takesAll_78, if_neg hgood, if_neg hk0, if_pos hk1, if_pos (w1.mpr i1), et', ob, if_pos u1', B_X9_takesAll_149, B_X9_takesAll_150, if_pos rfl]
      · right
        obtain ⟨v', ev'⟩ := hR (nI s) (nI K) (q_wv2 B s (e - s))
        refine ⟨e', b, lo', hi', cs, cw, rb, rq, p1, p2, hb, p3, p4, har, ⟨nI 4, nI s', ?_⟩, nI s', nI 4, v', ?_⟩
        · rw [M_X7_parseItem, e1, ob, if_neg hgood, et, ob, bz, if_pos (Or.inr rfl)]
        · rw [L_X9_takesAll_78, if_neg hgood, if_neg hk0, if_pos hk1, if_pos (w1.mpr i1), ev', ob, if_neg (show ¬ (1 : Int32) = 0 by decide), B_X9_takesAll_145]
    · have hn1 : ¬ lg_cmp (q_wv2 B s (e - s)) 20244659 = 0 := fun h => i1 (w1.mp h)
      rcases q_isWC hk hB ht (w := 2) (by decide) with ⟨i2, e2⟩ | ⟨i2, e2⟩
      · by_cases cb : b < 16
        · have hb16 : ¬ (16 : Int32) ≤ nI b := nle (a := 16) cb (by decide)
          obtain ⟨s', hs', h⟩ := q_box hk hB hG t3 hN cb har
          refine ⟨s', hs', ?_⟩
          rcases h with ⟨⟨t, et, u1, u2⟩, hR⟩ | ⟨e', cs', cw', rb', rq', p1, p2, p3, et, hR⟩
          · left
            obtain ⟨t', et', u1', u2'⟩ := hR (nI s) (nI K) (q_wv2 B s (e - s))
            refine ⟨(0, t.2.1, t.2.2.1, t.2.2.2.1, t.2.2.2.2.1, nI hi, nI lo, t.2.2.2.2.2.1, t.2.2.2.2.2.2), ?_, rfl, u2, (0, t'.2.1, t'.2.2.1, t'.2.2.2.1, t'.2.2.2.2.1, nI hi, nI lo, t'.2.2.2.2.2.1, t'.2.2.2.2.2.2.1, t'.2.2.2.2.2.2.2), ?_, rfl, u2'⟩
            · rw [M_X7_parseItem, e1, ob, if_pos rfl, e2, ob, if_neg hgood, if_neg hb16, et, ob, if_pos u1]
            · rw [L_X9_takesAll_78, if_neg hgood, if_neg hk0, if_pos hk1, if_neg hn1, if_pos (w2.mpr i2), if_neg hb16, et', ob, if_pos u1', B_X9_takesAll_149, B_X9_takesAll_150, if_pos rfl]
          · right
            obtain ⟨v', ev'⟩ := hR (nI s) (nI K) (q_wv2 B s (e - s))
            refine ⟨e', b + 1, lo, hi, cs', cw', rb', rq', p1, p2, by omega, hlo, hhi, p3, ⟨nI 4, nI s', ?_⟩, nI s', nI 4, v', ?_⟩
            · rw [M_X7_parseItem, e1, ob, if_pos rfl, e2, ob, if_neg hgood, if_neg hb16, et, ob, if_neg (show ¬ (1 : Int32) = 0 by decide)]
            · rw [L_X9_takesAll_78, if_neg hgood, if_neg hk0, if_pos hk1, if_neg hn1, if_pos (w2.mpr i2), if_neg hb16, ev', ob, if_neg (show ¬ (1 : Int32) = 0 by decide), B_X9_takesAll_145]
        · have hb16 : (16 : Int32) ≤ nI b := nI_le (a := 16) (by omega) (by omega)
          refine ⟨s, by omega, Or.inl ⟨_, by rw [M_X7_parseItem, e1, ob, if_pos rfl, e2, ob, if_neg hgood, if_pos hb16], rfl, rfl, _, by rw [L_X9_takesAll_78, if_neg hgood, if_neg hk0, if_pos hk1, if_neg hn1, if_pos (w2.mpr i2), if_pos hb16, B_X9_takesAll_149, B_X9_takesAll_150, if_pos rfl], rfl, rfl⟩⟩
      · have hn2 : ¬ lg_cmp (q_wv2 B s (e - s)) 2552 = 0 := fun h => i2 (w2.mp h)
        exact ⟨s, by omega, Or.inl ⟨_, by rw [M_X7_parseItem, e1, ob, if_pos rfl, e2, ob, if_pos rfl], rfl, rfl, _, by rw [L_X9_takesAll_78, if_neg hgood, if_neg hk0, if_pos hk1, if_neg hn1, if_neg hn2, B_X9_takesAll_149, B_X9_takesAll_150, if_pos rfl], rfl, rfl⟩⟩
  · have hk1 : ¬ nI K = (1 : Int32) := fun h => c1 ((nI_eq (a := K) (b := 1) (by omega) (by decide)).mp h)
    have hw : ∀ w, w < 3 → M_X7_isWord w (nI e) (nI K) (nI s) f = some 0 := fun w hw => by rw [M_X7_isWord, if_neg hk1]
    exact ⟨s, by omega, Or.inl ⟨_, by rw [M_X7_parseItem, hw 1 (by decide), ob, if_pos rfl, hw 2 (by decide), ob, if_pos rfl], rfl, rfl, _, by rw [L_X9_takesAll_78, if_neg hgood, if_neg hk0, if_neg hk1, B_X9_takesAll_149, B_X9_takesAll_150, if_pos rfl], rfl, rfl⟩⟩
end IT
