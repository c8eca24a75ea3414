/-! read: item after item -/
theorem lpE {σ τ : Type} {body : σ → Option (σ ⊕ τ)} {z : σ} {t : τ} (n : Nat) (h : body z = some (.inr t)) : lpN body (n + 1) z = some t := by rw [lpN, h]
def q_rel (k N : Nat) (tc : Int32 × Int32 × Int32 × Int32 × Int32 × Int32 × Int32 × Int32 × Int32 × (Nat → Int32) × (Nat → Int32)) (tr : Int32 × Int32 × Int32 × Int32 × Int32 × Int32 × Int32 × Int32 × Int64 × (Nat → Int32) × (Nat → Int32)) : Prop :=
  (∃ s, s ≤ k ∧ tc.1 = nI s ∧ tr.1 = 0 ∧ tr.2.2.1 = nI s) ∨
  ∃ b lo hi cs cw rb rq, b ≤ 16 ∧ lo ≤ hi ∧ hi ≤ 8 ∧ q_ar N b cs cw rb rq ∧ (∃ e kd ln st, tc = (-1, e, kd, ln, st, nI b, nI hi, nI lo, nI N, cs, cw)) ∧ ∃ a bg kd v, tr = (1, a, bg, kd, nI b, nI hi, nI lo, nI N, v, rb, rq)
section MN
variable {k : Nat} {B : Nat → Nat} {f g : Nat → Int32}
theorem q_end0 (N : Nat) (n : Nat) {t : Int32 × Int32 × Int32 × Int32 × Int32 × Int32 × Int32 × Int64 × (Nat → Int32) × (Nat → Int32)} (h : t.1 = 0) : ∃ tr, lpN (fun z : Int32 × Int32 × Int32 × Int32 × Int32 × Int32 × Int32 × Int64 × (Nat → Int32) × (Nat → Int32) => L_X9_takesAll_78 (nI N) (nI k) g z.1 z.2.1 z.2.2.1 z.2.2.2.1 z.2.2.2.2.1 z.2.2.2.2.2.1 z.2.2.2.2.2.2.1 z.2.2.2.2.2.2.2.1 z.2.2.2.2.2.2.2.2.1 z.2.2.2.2.2.2.2.2.2) (n + 1) t = some tr ∧ tr.1 = 0 ∧ tr.2.2.1 = t.2.2.1 := by
  obtain ⟨t0, t1, t2, t3, t4, t5, t6, t7, t8, t9⟩ := t
  have h : t0 = 0 := h
  subst h
  have h1 : L_X9_takesAll_78 (nI N) (nI k) g 0 t1 t2 t3 t4 t5 t6 t7 t8 t9 = some (Sum.inr (0, t1, t2, t3, t4, t5, t6, nI N, t7, t8, t9)) := by
    rw [L_X9_takesAll_78, if_pos rfl, bz, if_pos (Or.inl rfl)]
    rfl
  exact ⟨_, lpE n h1, rfl, rfl⟩
theorem q_main (hk : k ≤ 200) (hB : ∀ j, j < k → B j < 256 ∧ f j = nI (B j)) (hG : ∀ j, j < k → B j < 256 ∧ g j = nI (B j)) {N : Nat} (hN : N ≤ 8) :
    ∀ (d a item b lo hi : Nat) (cs cw rb rq : Nat → Int32), k < a + d → a ≤ k → item ≤ a → b ≤ 16 → lo ≤ hi → hi ≤ 8 → q_ar N b cs cw rb rq → ∀ (nf nf' : Nat) (vk vs vb vk' : Int32) (vv : Int64), d ≤ nf → d + 1 ≤ nf' →
    ∃ tc tr, lpN (fun z : Int32 × Int32 × Int32 × Int32 × Int32 × Int32 × Int32 × (Nat → Int32) × (Nat → Int32) => L_X7_parse_32 (nI k) (nI N) f z.1 z.2.1 z.2.2.1 z.2.2.2.1 z.2.2.2.2.1 z.2.2.2.2.2.1 z.2.2.2.2.2.2.1 z.2.2.2.2.2.2.2.1 z.2.2.2.2.2.2.2.2) nf (nI item, nI a, vk, vs, nI b, nI hi, nI lo, cs, cw) = some tc ∧
    Option.bind (M_X9_next (nI a) vb vk' (nI k) vv g) (fun t => lpN (fun z : Int32 × Int32 × Int32 × Int32 × Int32 × Int32 × Int32 × Int64 × (Nat → Int32) × (Nat → Int32) => L_X9_takesAll_78 (nI N) (nI k) g z.1 z.2.1 z.2.2.1 z.2.2.2.1 z.2.2.2.2.1 z.2.2.2.2.2.1 z.2.2.2.2.2.2.1 z.2.2.2.2.2.2.2.1 z.2.2.2.2.2.2.2.2.1 z.2.2.2.2.2.2.2.2.2) nf' ((1 : Int32), t.1, t.2.1, t.2.2.1, nI b, nI hi, nI lo, t.2.2.2, rb, rq)) = some tr ∧ q_rel k N tc tr := by
  intro d
  induction d with
  | zero => intro a item b lo hi cs cw rb rq h1 h2; omega
  | succ d ih =>
    intro a item b lo hi cs cw rb rq had ha hit hb hlo hhi har nf nf' vk vs vb vk' vv hn hn'
    obtain ⟨n, rfl⟩ : ∃ n, nf = n + 1 := ⟨nf - 1, by omega⟩
    obtain ⟨n', rfl⟩ : ∃ n', nf' = n' + 1 + 1 := ⟨nf' - 2, by omega⟩
    obtain ⟨s, e, K, ht, hC, hR⟩ := q_tok hk hB hG ha
    obtain ⟨t1, t2, t3, t4, t5, t6, t7, t8⟩ := id ht
    obtain ⟨x, v, ex, x1, x2, x3⟩ := hR vb vk' vv
    rw [ex, ob]
    have hlt : ¬ nI k < nI item := nI_nlt (by omega) (by omega)
    have hgood : ¬ (1 : Int32) = 0 := by decide
    by_cases hK0 : K = 0
    · subst hK0
      have h1 : L_X7_parse_32 (nI k) (nI N) f (nI item) (nI a) vk vs (nI b) (nI hi) (nI lo) cs cw = some (Sum.inr (-1, nI e, nI 0, nI k, nI s, nI b, nI hi, nI lo, nI N, cs, cw)) := by
        rw [L_X7_parse_32, if_neg hlt, hC, ob, if_pos (show nI 0 = 0 from rfl)]
        rfl
      have h2 : L_X9_takesAll_78 (nI N) (nI k) g 1 x (nI s) (nI 0) (nI b) (nI hi) (nI lo) v rb rq = some (Sum.inr (1, x, nI s, nI 0, nI b, nI hi, nI lo, nI N, v, rb, rq)) := by
        rw [L_X9_takesAll_78, if_neg hgood, if_pos (show nI 0 = 0 from rfl), bz, if_pos (Or.inr rfl)]
        rfl
      exact ⟨_, _, lpE n h1, lpE (n' + 1) h2, Or.inr ⟨b, lo, hi, cs, cw, rb, rq, hb, hlo, hhi, har, ⟨_, _, _, _, rfl⟩, _, _, _, _, rfl⟩⟩
    · have hk0 : ¬ nI K = 0 := nI_ne0 (by omega) (by omega)
      obtain ⟨s', hs', h⟩ := q_item hk hB hG ht hK0 hN hb hlo hhi har x1 x2
      rcases h with ⟨t, et, u1, u2, t', et', u1', u2'⟩ | ⟨e', b', lo', hi', cs', cw', rb', rq', p1, p2, p3, p4, p5, p6, ⟨kd, st, et⟩, bg, kd', vv', et'⟩
      · have h1 : L_X7_parse_32 (nI k) (nI N) f (nI item) (nI a) vk vs (nI b) (nI hi) (nI lo) cs cw = some (Sum.inr (t.2.2.2.1, t.2.1, t.2.2.1, nI k, t.2.2.2.1, t.2.2.2.2.1, t.2.2.2.2.2.1, t.2.2.2.2.2.2.1, nI N, t.2.2.2.2.2.2.2.1, t.2.2.2.2.2.2.2.2)) := by
          rw [L_X7_parse_32, if_neg hlt, hC, ob, if_neg hk0, et, ob, if_pos u1]
          rfl
        obtain ⟨tr, e1, e2, e3⟩ := q_end0 (k := k) (g := g) N n' u1'
        exact ⟨_, tr, lpE n h1, (lpS (n' + 1) et').trans e1, Or.inl ⟨s', hs', u2, e2, e3.trans u2'⟩⟩
      · have h1 : L_X7_parse_32 (nI k) (nI N) f (nI item) (nI a) vk vs (nI b) (nI hi) (nI lo) cs cw = some (Sum.inl (nI (item + 1), nI e', kd, st, nI b', nI hi', nI lo', cs', cw')) := by
          rw [L_X7_parse_32, if_neg hlt, hC, ob, if_neg hk0, et, ob, if_neg hgood, nI_1]
        obtain ⟨tc, tr, c1, c2, c3⟩ := ih e' (item + 1) b' lo' hi' cs' cw' rb' rq' (by omega) p2 (by omega) p3 p4 p5 p6 n (n' + 1) kd st bg kd' vv' (by omega) (by omega)
        obtain ⟨y, y1, y2⟩ := bd c2
        have h2 : L_X9_takesAll_78 (nI N) (nI k) g 1 x (nI s) (nI K) (nI b) (nI hi) (nI lo) v rb rq = some (Sum.inl (1, y.1, y.2.1, y.2.2.1, nI b', nI hi', nI lo', y.2.2.2, rb', rq')) := by
          rw [et', B_X9_takesAll_150, if_neg hgood, y1, ob]
        exact ⟨tc, tr, (lpS n h1).trans c1, (lpS (n' + 1) h2).trans y2, c3⟩
/-- the whole text, by both -/
theorem q_txt (hk : k ≤ 200) (hB : ∀ j, j < k → B j < 256 ∧ f j = nI (B j)) (hG : ∀ j, j < k → B j < 256 ∧ g j = nI (B j)) (v1 v2 v3 v4 v5 v6 v7 v8 : Int32) (cs cw : Nat → Int32) (w1 w2 w3 w4 w5 w6 w7 : Int32) (vv : Int64) (rb rq : Nat → Int32) :
    ∃ N tc tr, 1 ≤ N ∧ N ≤ 8 ∧ M_X7_parse v1 v2 v3 v4 v5 v6 v7 v8 cs cw f (nI k) = some tc ∧ M_X9_takesAll w1 w2 w3 w4 w5 w6 w7 (nI k) vv rb rq g = some tr ∧ q_rel k N tc tr := by
  have hm : (if (Int32.ofNat 200) < nI k then (Int32.ofNat 200) else nI k) = nI k := if_neg (show ¬ nI 200 < nI k from nI_nlt hk (by decide))
  have hgood : ¬ (1 : Int32) = 0 := by decide
  obtain ⟨s, e, K, ht, hC, hR⟩ := q_tok hk hB hG (Nat.zero_le k)
  obtain ⟨t1, t2, t3, t4, t5, t6, t7, t8⟩ := id ht
  obtain ⟨x, v, ex, x1, x2, x3⟩ := hR w2 w3 vv
  have hC0 : ∀ vk vs, M_X7_advance 0 vk (nI k) vs f = some (nI e, nI K, nI s) := hC
  have ex0 : M_X9_next 0 w2 w3 (nI k) vv g = some (x, nI s, nI K, v) := ex
  have hw := q_isWC hk hB ht (w := 0) (by decide)
  have hbad : ∀ (s' : Nat) (a b : Int32), s' ≤ k → (∃ tS, M_X7_parseSorts 0 v2 (nI k) v4 v5 v6 v7 v8 f = some tS ∧ tS.1 = 0 ∧ tS.2.2.2.1 = nI s') → (∃ tr, M_X9_takesAll w1 w2 w3 w4 w5 w6 w7 (nI k) vv rb rq g = some tr ∧ tr.1 = 0 ∧ tr.2.2.1 = nI s') → ∃ N tc tr, 1 ≤ N ∧ N ≤ 8 ∧ M_X7_parse v1 v2 v3 v4 v5 v6 v7 v8 cs cw f (nI k) = some tc ∧ M_X9_takesAll w1 w2 w3 w4 w5 w6 w7 (nI k) vv rb rq g = some tr ∧ q_rel k N tc tr := by
    rintro s' - - hs' ⟨tS, e1, e2, e3⟩ ⟨tr, r1, r2, r3⟩
    have hP : M_X7_parse v1 v2 v3 v4 v5 v6 v7 v8 cs cw f (nI k) = some (tS.2.2.2.1, tS.2.1, tS.2.2.1, nI k, tS.2.2.2.1, tS.2.2.2.2.1, tS.2.2.2.2.2.1, tS.2.2.2.2.2.2.1, tS.2.2.2.2.2.2.2, cs, cw) := by
      rw [M_X7_parse, hm, e1, ob, if_pos e2]
    exact ⟨1, _, tr, by decide, by decide, hP, r1, Or.inl ⟨s', hs', e3, r2, r3⟩⟩
  by_cases c1 : q_is B 0 s e K
  · have hK1 : K = 1 := c1.1
    have e0 : M_X7_isWord 0 (nI e) (nI K) (nI s) f = some 1 := by
      rcases hw with ⟨i1, e1⟩ | ⟨i1, e1⟩
      · exact e1
      · exact absurd c1 i1
    have hk1 : nI K = (1 : Int32) := by rw [hK1]; rfl
    have hxe := x1 (by omega)
    have hve := x2 hK1
    have hcode : lg_cmp v 20433555 = 0 := by rw [hve]; exact (q_isWR ht hK1).1.mpr c1
    obtain ⟨s2, e2, K2, hs2, hA2, h2⟩ := q_num hk hB hG t3 (lo := 1) (hi := 8) (by decide) (by decide) (lo' := 1) (hi' := 8) rfl rfl
    rcases h2 with ⟨h2, r2⟩ | ⟨N, a1, a2, a3, a4, h2, n2, r2⟩
    · refine hbad s2 0 0 hs2 ⟨(0, nI e2, nI K2, nI s2, v5, v6, v7, v8), ?_, rfl, rfl⟩ ?_
      · rw [M_X7_parseSorts, hC0, ob, e0, ob, if_neg hgood, hA2, ob, h2, ob, if_pos rfl]
      · obtain ⟨t, et, u1, u2⟩ := r2 (nI s) (nI K) v
        refine ⟨(0, t.2.1, t.2.2.1, t.2.2.2.1, 0, 8, 0, w7, t.2.2.2.2, rb, rq), ?_, rfl, u2⟩
        rw [M_X9_takesAll, ex0, ob, if_pos hk1, if_pos hcode, hxe, et, ob, if_pos u1]
    · have hvi : (lN N).toInt32 = nI N := lN_i N
      obtain ⟨s3, hs3, h3⟩ := q_stop hk hB hG a4
      rcases h3 with ⟨t3', p3, t31, t32, r3⟩ | ⟨e3, b1, b2, p3, r3⟩
      · refine hbad s3 0 0 hs3 ⟨(t3'.1, t3'.2.1, t3'.2.2.1, t3'.2.2.2, 0, 8, 0, nI N), ?_, t31, t32⟩ ?_
        · rw [M_X7_parseSorts, hC0, ob, e0, ob, if_neg hgood, hA2, ob, h2, ob, if_neg hgood, n2, ob, M_X6_begin, ob, p3, ob, bz, if_pos (Or.inl t31)]
        · obtain ⟨t, et, u1, u2⟩ := r3 (nI s2) (nI 2) (lN N)
          obtain ⟨tr, d1, d2, d3⟩ := q_end0 (k := k) (g := g) N 4294967295 (t := (t.1, t.2.1, t.2.2.1, t.2.2.2.1, 0, 8, 0, t.2.2.2.2, rb, rq)) u1
          refine ⟨tr, ?_, d2, d3.trans u2⟩
          rw [M_X9_takesAll, ex0, ob, if_pos hk1, if_pos hcode, hxe, r2, ob, if_neg hgood, et, ob, if_pos u1, hvi, B_X9_takesAll_78, show fuelK = 4294967295 + 1 from rfl]
          exact d1
      · obtain ⟨v3, ev⟩ := r3 (nI s2) (nI 2) (lN N)
        obtain ⟨tc, tr, c1', c2', c3'⟩ := q_main hk hB hG a2 (k + 1) e3 0 0 0 8 cs cw rb rq (by omega) b2 (by omega) (by decide) (by decide) (by decide) ⟨fun _ => 0, fun _ => 0, fun j hj => absurd hj (by omega), fun i j hi hj => absurd hi (by omega)⟩ fuelK fuelK (nI 4) (nI s3) (nI s3) (nI 4) v3 (by rw [fuelK]; omega) (by rw [fuelK]; omega)
        refine ⟨N, tc, tr, a1, a2, ?_, ?_, c3'⟩
        · have hS : M_X7_parseSorts 0 v2 (nI k) v4 v5 v6 v7 v8 f = some (1, nI e3, nI 4, nI s3, 0, 8, 0, nI N) := by
            rw [M_X7_parseSorts, hC0, ob, e0, ob, if_neg hgood, hA2, ob, h2, ob, if_neg hgood, n2, ob, M_X6_begin, ob, p3, ob, bz, if_pos (Or.inr rfl)]
          rw [M_X7_parse, hm, hS, ob, if_neg hgood]
          exact c1'
        · obtain ⟨y, y1, y2⟩ := bd c2'
          rw [M_X9_takesAll, ex0, ob, if_pos hk1, if_pos hcode, hxe, r2, ob, if_neg hgood, ev, ob, if_neg hgood, y1, ob, hvi, B_X9_takesAll_78]
          exact y2
  · have e0 : M_X7_isWord 0 (nI e) (nI K) (nI s) f = some 0 := by
      rcases hw with ⟨i1, e1⟩ | ⟨i1, e1⟩
      · exact absurd i1 c1
      · exact e1
    refine hbad s 0 0 (by omega) ⟨(0, nI e, nI K, nI s, v5, v6, v7, v8), ?_, rfl, rfl⟩ ⟨(0, x, nI s, nI K, 0, 8, 0, w7, v, rb, rq), ?_, rfl, rfl⟩
    · rw [M_X7_parseSorts, hC0, ob, e0, ob, if_pos rfl]
    · rw [M_X9_takesAll, ex0, ob]
      by_cases hK1 : K = 1
      · rw [if_pos (show nI K = (1 : Int32) by rw [hK1]; rfl), if_neg (fun h => c1 ((q_isWR ht hK1).1.mp (by rw [← x2 hK1]; exact h)))]
      · rw [if_neg (show ¬ nI K = (1 : Int32) from fun h => hK1 ((nI_eq (a := K) (b := 1) (by omega) (by decide)).mp h))]
end MN
