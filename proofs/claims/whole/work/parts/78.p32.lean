/-! What is kept -/
theorem q_w_ge {w : Nat → Int} {P Q : Nat → Bool} : ∀ {m : Nat}, (∀ i, i < m → P i = true → Q i = true) → (∀ i, i < m → Q i = true → P i = false → w i ≤ 0) → q_w w Q m ≤ q_w w P m := by
  intro m
  induction m with
  | zero => intro _ _; exact Int.le_refl 0
  | succ m ih =>
    intro h h2
    have h3 := ih (fun i hi => h i (by omega)) (fun i hi => h2 i (by omega))
    rw [q_w, q_w]
    cases hP : P m with
    | true => rw [h m (by omega) hP]; omega
    | false =>
      cases hQ : Q m with
      | true =>
        have h4 := h2 m (by omega) hQ hP
        rw [if_pos rfl, if_neg (by decide)]; omega
      | false => omega
def q_wv (V : Nat → Nat) (i : Nat) : Int := 65536 * (V i : Int) - ((2 ^ i : Nat) : Int)
theorem q_w_sv (V : Nat → Nat) (T : Nat → Bool) : ∀ m, q_w (q_wv V) T m = 65536 * (q_sum V T m : Int) - (q_val T m : Int) := by
  intro m
  induction m with
  | zero => rfl
  | succ m ih =>
    rw [q_w, q_sum, q_val, ih, q_wv]
    cases T m with
    | true => rw [if_pos rfl, if_pos rfl, if_pos rfl]; omega
    | false => rw [if_neg (by decide), if_neg (by decide), if_neg (by decide)]; omega
theorem q_wvb {V : Nat → Nat} {m : Nat} (hm : m ≤ 16) (hV : ∀ j, j < m → V j ≤ 99) : ∀ i, i < m → -8388608 ≤ q_wv V i ∧ q_wv V i ≤ 8388608 := fun i hi => by
  have h1 := hV i hi
  have h2 : 2 ^ i ≤ 2 ^ 16 := Nat.pow_le_pow_right (by decide) (by omega)
  have h3 := Nat.two_pow_pos i
  unfold q_wv
  generalize 2 ^ i = p at h2 h3 ⊢
  omega
theorem q_sum_le {V : Nat → Nat} {T : Nat → Bool} : ∀ {m : Nat}, (∀ j, j < m → V j ≤ 99) → q_sum V T m ≤ 99 * m := by
  intro m
  induction m with
  | zero => intro _; exact Nat.le_refl 0
  | succ m ih =>
    intro h
    have h1 := ih (fun j hj => h j (by omega))
    have h2 := h m (by omega)
    rw [q_sum]
    split <;> omega
theorem q_sum_1 {V : Nat → Nat} {T : Nat → Bool} : ∀ {m : Nat}, (∀ j, j < m → V j = 1) → q_sum V T m = q_cnt T m := by
  intro m
  induction m with
  | zero => intro _; rfl
  | succ m ih => intro h; rw [q_sum, q_cnt, ih (fun j hj => h j (by omega)), h m (by omega)]
theorem q_sum_cg {V : Nat → Nat} {P Q : Nat → Bool} : ∀ {m : Nat}, (∀ i, i < m → P i = Q i) → q_sum V P m = q_sum V Q m := by
  intro m
  induction m with
  | zero => intro _; rfl
  | succ m ih => intro h; rw [q_sum, q_sum, ih (fun i hi => h i (by omega)), h m (by omega)]
theorem q_valueC (f : Nat → Int32) {V : Nat → Nat} {i : Nat} (hi : i < 16) (hv : V i ≤ 99) : M_X2_value f (nI i) (nI (V i)) = some (upd f i (iI (q_wv V i))) := by
  have h2 : 2 ^ i ≤ 2 ^ 16 := Nat.pow_le_pow_right (by decide) (by omega)
  rw [M_X2_value, bw, if_pos (show (0 : Int32) ≤ nI i ∧ nI i ≤ 15 from ⟨nI_pos' (by omega), nI_le (b := 15) (by omega) (by decide)⟩), ob, if_neg (by decide), ix_in (vp_in_nI (by omega) (by decide)), nI_clamp (by omega), pk_shlN ((16 : Int32) &&& 31) 16 (by decide) (by omega), pw1 i (by omega), iI_n, iI_n, iI_sub]
  unfold q_wv
  rw [show ((V i * 2 ^ 16 : Nat) : Int) = 65536 * (V i : Int) by omega]
theorem q_bestSum {V : Nat → Nat} {T : Nat → Bool} {m : Nat} (hm : m ≤ 16) (hV : ∀ j, j < m → V j ≤ 99) : M_X2_bestSum (iI (q_w (q_wv V) T m)) (q_mk T m) = some (nI (q_sum V T m)) := by
  have h1 := q_sum_le (T := T) hV
  rw [M_X2_bestSum, q_mk, iI_n, iI_add, q_w_sv, show 65536 * (q_sum V T m : Int) - (q_val T m : Int) + (q_val T m : Int) = ((q_sum V T m * 65536 : Nat) : Int) by omega, ← iI_n, pk_shrN (by omega) ((16 : Int32) &&& 31) 16 (by decide), show q_sum V T m * 65536 / 2 ^ 16 = q_sum V T m by omega]
section KC
variable {m : Nat} {F : Nat → Bool} {C R : Nat → Nat → Bool} {c n wt : Nat → Int32} {V : Nat → Nat}
def q_bst (m : Nat) (F : Nat → Bool) (C R : Nat → Nat → Bool) (V : Nat → Nat) (W T : Nat → Bool) : Prop := (∀ i, i < m → W i = true → T i = true) ∧ q_law m F C R T ∧ ∀ T', (∀ i, i < m → W i = true → T' i = true) → q_law m F C R T' → q_w (q_wv V) T' m ≤ q_w (q_wv V) T m
theorem q_keep (sy : q_sy C R) (hm : m ≤ 16) (hc : ∀ j, j < m → c j = q_mk (C j) m) (hn : ∀ j, j < m → n j = q_mk (R j) m) (hV : ∀ j, j < m → V j ≤ 99) (hw : ∀ j, j < m → wt j = iI (q_wv V j)) (W : Nat → Bool) (vb vi : Int32) :
    (¬ q_law m F C R W ∧ M_X2_keep vb vi (nI m) (q_mk F m) c n wt (q_mk W m) = some (0, vb, vi)) ∨ ∃ T, q_bst m F C R V W T ∧ M_X2_keep vb vi (nI m) (q_mk F m) c n wt (q_mk W m) = some (1, iI (q_w (q_wv V) T m), q_mk T m) := by
  have hwb := q_wvb hm hV
  rcases q_bball (F := F) sy hm hc hn W with ⟨h1, h2⟩ | ⟨B, ok, h2⟩
  · exact Or.inl ⟨h1, by rw [M_X2_keep, h2, ob, if_pos rfl]⟩
  · right
    have hv : q_val B m < 2 ^ 31 := Nat.lt_of_lt_of_le (q_val_lt B m) (Nat.pow_le_pow_right (by decide) (by omega))
    have hfr : ∀ u, u < m → (((true && !B u) && !W u) && decide (0 < q_wv V u)) = true → W u = false ∧ q_law m F C R (q_ins W u) ∧ 0 < q_wv V u := fun u hu h => by
      rw [Bool.and_eq_true, decide_eq_true_eq] at h
      have h3 : (!(W u || B u)) = true := by
        have := h.1
        cases hW : W u <;> cases hB : B u <;> simp [hW, hB] at this ⊢
      have h4 := (ok.2 u hu).mp h3
      exact ⟨h4.1, h4.2, h.2⟩
    obtain ⟨r, hr, sp⟩ := q_search (F := F) sy hm hc hn hw hwb 20 0 W (fun u => ((true && !B u) && !W u) && decide (0 < q_wv V u)) (-1073741824) 0 (by omega) (by omega) (by decide) (by decide) ok.1 hfr (fun u _ _ => Nat.zero_le u)
    have eK : M_X2_keep vb vi (nI m) (q_mk F m) c n wt (q_mk W m) = some (1, r.1, r.2) := by
      rw [M_X2_keep, h2, ob, if_neg (show ¬ q_mk B m = (-1 : Int32) from q_nm1 hv), M_X3_all, ob, q_all (by omega), q_dif _ _ (by omega), q_dif _ _ (by omega), q_worthw hm hw hwb, ob, q_or _ _ (by omega), q_weigh hm hw, ob]
      rw [show M_X2_search 20 (-1073741824) 0 (nI m) c n wt 0 (q_mk W m) (q_mk (fun u => ((true && !B u) && !W u) && decide (0 < q_wv V u)) m) (iI (q_w (q_wv V) (fun u => W u || (((true && !B u) && !W u) && decide (0 < q_wv V u))) m)) = some r from hr, ob]
    rcases sp with ⟨h3, h4⟩ | ⟨T, h3, h4, h5, h6⟩
    · have h7 := h4 W ⟨fun _ _ h => h, fun _ _ h => Or.inl h, ok.1⟩
      have h8 := q_w_b (w := q_wv V) W hwb
      omega
    · refine ⟨T, ⟨h3.1, h3.2.2, fun T' hW' hT' => ?_⟩, by rw [eK, h4]⟩
      have h7 : q_w (q_wv V) T' m ≤ q_w (q_wv V) (fun u => T' u && (W u || decide (0 < q_wv V u))) m := q_w_ge (fun u _ h => by rw [Bool.and_eq_true] at h; exact h.1) (fun u hu h h8 => by
        rw [h, Bool.true_and, Bool.or_eq_false_iff, decide_eq_false_iff_not] at h8
        omega)
      refine Int.le_trans h7 (h6 _ ⟨fun u hu h => by
        show (T' u && (W u || decide (0 < q_wv V u))) = true
        rw [hW' u hu h, h]; rfl, fun u hu h => ?_, q_law_sub hT' (fun u _ h => by rw [Bool.and_eq_true] at h; exact h.1)⟩)
      rw [Bool.and_eq_true] at h
      cases hWu : W u with
      | true => exact Or.inl rfl
      | false =>
        right
        have h9 := h.2
        rw [hWu, Bool.false_or] at h9
        have h10 : (!(W u || B u)) = true := (ok.2 u hu).mpr ⟨hWu, q_law_sub hT' (fun i hi hx => by
          rcases q_ins_iff.mp hx with hx | hx
          · exact hW' i hi hx
          · rw [hx]; exact h.1)⟩
        rw [hWu, Bool.false_or] at h10
        show (((true && !B u) && !W u) && decide (0 < q_wv V u)) = true
        rw [hWu, h9, h10]
        rfl
end KC
/-! the best of those that the reference meets -/
section BR
variable {E : Type} (f g : E → Nat)
def q_u2 (a : Int32 × Int32) (p : E) : Int32 × Int32 := (if a.1 < nI (f p) ∨ (nI (f p) = a.1 ∧ ¬ a.2 ≤ nI (g p)) then nI (f p) else a.1, if a.1 < nI (f p) ∨ (nI (f p) = a.1 ∧ ¬ a.2 ≤ nI (g p)) then nI (g p) else a.2)
theorem q_f2 (hf : ∀ e, f e < 2 ^ 31) (hg : ∀ e, g e < 2 ^ 31) : ∀ (l : List E) (e0 : E), ∃ e, e ∈ e0 :: l ∧ l.foldl (q_u2 f g) (nI (f e0), nI (g e0)) = (nI (f e), nI (g e)) ∧ ∀ e', e' ∈ e0 :: l → f e' < f e ∨ (f e' = f e ∧ g e ≤ g e') := by
  intro l
  induction l with
  | nil =>
    intro e0
    exact ⟨e0, List.mem_singleton.mpr rfl, rfl, fun e' h => by rw [List.mem_singleton.mp h]; exact Or.inr ⟨rfl, Nat.le_refl _⟩⟩
  | cons p l ih =>
    intro e0
    have hcond : (nI (f e0) < nI (f p) ∨ (nI (f p) = nI (f e0) ∧ ¬ nI (g e0) ≤ nI (g p))) ↔ (f e0 < f p ∨ (f p = f e0 ∧ g p < g e0)) := by
      rw [nI_ltI (hf e0) (hf p), nI_eq (hf p) (hf e0), nI_leI (hg e0) (hg p), Nat.not_le]
    rw [List.foldl_cons]
    by_cases hc : f e0 < f p ∨ (f p = f e0 ∧ g p < g e0)
    · have e1 : q_u2 f g (nI (f e0), nI (g e0)) p = (nI (f p), nI (g p)) := by
        unfold q_u2
        simp only [if_pos (hcond.mpr hc)]
      obtain ⟨e, h1, h2, h3⟩ := ih p
      refine ⟨e, List.mem_cons_of_mem _ h1, by rw [e1, h2], fun e' he' => ?_⟩
      rcases List.mem_cons.mp he' with h4 | h4
      · have h5 := h3 p (List.mem_cons_self ..)
        rw [h4]; omega
      · exact h3 e' h4
    · have e1 : q_u2 f g (nI (f e0), nI (g e0)) p = (nI (f e0), nI (g e0)) := by
        unfold q_u2
        simp only [if_neg (fun h => hc (hcond.mp h))]
      obtain ⟨e, h1, h2, h3⟩ := ih e0
      refine ⟨e, ?_, by rw [e1, h2], fun e' he' => ?_⟩
      · rcases List.mem_cons.mp h1 with h4 | h4
        · rw [h4]; exact List.mem_cons_self ..
        · exact List.mem_cons_of_mem _ (List.mem_cons_of_mem _ h4)
      · have h5 := h3 e0 (List.mem_cons_self ..)
        rcases List.mem_cons.mp he' with h4 | h4
        · rw [h4]; exact h5
        · rcases List.mem_cons.mp h4 with h6 | h6
          · rw [h6]; omega
          · exact h3 e' (List.mem_cons_of_mem _ h6)
theorem q_f2s (hf : ∀ e, f e < 2 ^ 31) (hg : ∀ e, g e < 2 ^ 31) {l : List E} {p0 : E} (hp : p0 ∈ l) (y : Int32) : ∃ e, e ∈ l ∧ l.foldl (q_u2 f g) (-1, y) = (nI (f e), nI (g e)) ∧ ∀ e', e' ∈ l → f e' < f e ∨ (f e' = f e ∧ g e ≤ g e') := by
  cases l with
  | nil => cases hp
  | cons p l =>
    have hlt : (-1 : Int32) < nI (f p) := by
      rw [Int32.lt_iff_toInt_lt, nI_toInt (hf p)]
      have : (-1 : Int32).toInt = -1 := rfl
      omega
    have e1 : q_u2 f g (-1, y) p = (nI (f p), nI (g p)) := by
      unfold q_u2
      simp only [if_pos (Or.inl hlt)]
    rw [List.foldl_cons, e1]
    exact q_f2 f g hf hg l p
end BR
theorem q_lv_len {st : Nat → (Nat → Bool) → (Nat → Bool) → Nat → Bool} {W : Nat → Bool} : ∀ d k S M, (q_lv st W d k S M).length ≤ 2 ^ d := by
  intro d
  induction d with
  | zero => intro k S M; exact Nat.le_refl 1
  | succ d ih =>
    intro k S M
    rw [q_lv, List.length_append, Nat.pow_succ]
    have h1 := ih (k + 1) (q_ins S k) (st k S M)
    have h2 := ih (k + 1) S M
    split <;> split <;> (try simp only [List.length_nil]) <;> omega
theorem q_fold1 {E : Type} : ∀ (l : List E) (x : Int32), l.foldl (fun (a : Int32) (_ : E) => a + 1) x = x + nI l.length := by
  intro l
  induction l with
  | nil => intro x; exact (Int32.add_zero x).symm
  | cons p l ih => intro x; rw [List.foldl_cons, ih, List.length_cons, Int32.add_assoc, show (1 : Int32) = nI 1 from rfl, nI_add, Nat.add_comm]
/-- what the reference answers -/
theorem q_keptR {m : Nat} (hm : m ≤ 16) {F : Nat → Bool} {C R : Nat → Nat → Bool} (sy : q_sy C R) {V V1 : Nat → Nat} (hV : ∀ j, j < m → V j ≤ 99) (hV1 : ∀ j, j < m → V1 j = 1) (W : Nat → Bool) (ms rs : Int32) :
    (¬ q_law m F C R W ∧ (q_go (q_stp m C R) W (q_mt m 0 V) m 0 (fun _ => false) F (16, 0, 0, -1, ms, rs, -1, 0)).2.1 = 0) ∨
    (q_law m F C R W ∧ ¬ (q_go (q_stp m C R) W (q_mt m 0 V) m 0 (fun _ => false) F (16, 0, 0, -1, ms, rs, -1, 0)).2.1 = 0 ∧
      (∀ T, q_bst m F C R V1 W T → (q_go (q_stp m C R) W (q_mt m 0 V) m 0 (fun _ => false) F (16, 0, 0, -1, ms, rs, -1, 0)).2.2.2.1 = nI (q_sum V1 T m) ∧ (q_go (q_stp m C R) W (q_mt m 0 V) m 0 (fun _ => false) F (16, 0, 0, -1, ms, rs, -1, 0)).2.2.2.2.1 = q_mk T m) ∧
      ∀ T, q_bst m F C R V W T → (q_go (q_stp m C R) W (q_mt m 0 V) m 0 (fun _ => false) F (16, 0, 0, -1, ms, rs, -1, 0)).2.2.2.2.2.2.1 = nI (q_sum V T m) ∧ (q_go (q_stp m C R) W (q_mt m 0 V) m 0 (fun _ => false) F (16, 0, 0, -1, ms, rs, -1, 0)).2.2.2.2.2.1 = q_mk T m) := by
  have r1 := q_go_rel (st := q_stp m C R) (W := W) (leaf := q_mt m 0 V) (leaf' := fun _ _ (a : Int32) => a + 1) (fun a b => b = a.2.1) (fun S' M' a b h => by rw [h]; rfl) m 0 (fun _ => false) F (16, 0, 0, -1, ms, rs, -1, 0) 0 rfl
  have r2 := q_go_rel (st := q_stp m C R) (W := W) (leaf := q_mt m 0 V) (leaf' := fun S M a => q_u2 (fun p : (Nat → Bool) × (Nat → Bool) => q_cnt p.1 m) (fun p => q_val p.1 m) a (S, M)) (fun a b => b = (a.2.2.2.1, a.2.2.2.2.1)) (fun S' M' a b h => by rw [h]; rfl) m 0 (fun _ => false) F (16, 0, 0, -1, ms, rs, -1, 0) (-1, ms) rfl
  have r3 := q_go_rel (st := q_stp m C R) (W := W) (leaf := q_mt m 0 V) (leaf' := fun S M a => q_u2 (fun p : (Nat → Bool) × (Nat → Bool) => q_sum V p.1 m) (fun p => q_val p.1 m) a (S, M)) (fun a b => b = (a.2.2.2.2.2.2.1, a.2.2.2.2.2.1)) (fun S' M' a b h => by rw [h]; rfl) m 0 (fun _ => false) F (16, 0, 0, -1, ms, rs, -1, 0) (-1, rs) rfl
  rw [q_go_lv] at r1 r2 r3
  generalize q_go (q_stp m C R) W (q_mt m 0 V) m 0 (fun _ => false) F (16, 0, 0, -1, ms, rs, -1, 0) = G at r1 r2 r3 ⊢
  have r1' : (q_lv (q_stp m C R) W m 0 (fun _ => false) F).foldl (fun (a : Int32) (_ : (Nat → Bool) × (Nat → Bool)) => a + 1) 0 = G.2.1 := r1
  have r2' : (q_lv (q_stp m C R) W m 0 (fun _ => false) F).foldl (q_u2 (fun p : (Nat → Bool) × (Nat → Bool) => q_cnt p.1 m) (fun p => q_val p.1 m)) (-1, ms) = (G.2.2.2.1, G.2.2.2.2.1) := r2
  have r3' : (q_lv (q_stp m C R) W m 0 (fun _ => false) F).foldl (q_u2 (fun p : (Nat → Bool) × (Nat → Bool) => q_sum V p.1 m) (fun p => q_val p.1 m)) (-1, rs) = (G.2.2.2.2.2.2.1, G.2.2.2.2.2.1) := r3
  rw [q_fold1, Int32.zero_add] at r1'
  have hlen := q_lv_len (st := q_stp m C R) (W := W) m 0 (fun _ => false) F
  have h16 : 2 ^ m ≤ 2 ^ 16 := Nat.pow_le_pow_right (by decide) hm
  have hin := fun p hp => q_lv_in (m := m) (F := F) (C := C) (R := R) sy (W := W) m 0 (fun _ => false) F (by omega) (q_ok_0 sy) p hp
  have hex := fun T (hT : q_law m F C R T) (hW : ∀ j, j < m → W j = true → T j = true) => q_lv_all sy (W := W) hT m 0 (fun _ => false) F (by omega) (q_ok_0 sy) (fun _ _ => rfl) (fun j hj => by omega) (fun j _ h h2 => hW j h h2)
  generalize q_lv (q_stp m C R) W m 0 (fun _ => false) F = l at r1' r2' r3' hlen hin hex
  by_cases hl : q_law m F C R W
  · right
    obtain ⟨p0, hp0, -⟩ := hex W hl (fun _ _ h => h)
    have hpos : 0 < l.length := List.length_pos_of_mem hp0
    have hg : ∀ e : (Nat → Bool) × (Nat → Bool), q_val e.1 m < 2 ^ 31 := fun e => Nat.lt_of_lt_of_le (q_val_lt e.1 m) (Nat.le_trans h16 (by decide))
    have hg2 : ∀ T : Nat → Bool, q_val T m < 65536 := fun T => Nat.lt_of_lt_of_le (q_val_lt T m) h16
    refine ⟨hl, by rw [← r1']; exact nI_ne0 hpos (by omega), fun T hT => ?_, fun T hT => ?_⟩
    · obtain ⟨e, he, h1, h2⟩ := q_f2s (fun p : (Nat → Bool) × (Nat → Bool) => q_cnt p.1 m) (fun p => q_val p.1 m) (fun e => by have := q_cnt_le e.1 m; show q_cnt e.1 m < 2 ^ 31; omega) hg hp0 ms
      rw [r2'] at h1
      obtain ⟨p, hp, hpT⟩ := hex T hT.2.1 hT.1
      have h3 : q_cnt p.1 m < q_cnt e.1 m ∨ (q_cnt p.1 m = q_cnt e.1 m ∧ q_val e.1 m ≤ q_val p.1 m) := h2 p hp
      rw [q_cnt_cg hpT, q_cg hpT] at h3
      have h4 := hT.2.2 e.1 (fun j hj hW => (hin e he).2.2 j (Nat.zero_le j) hj hW) (hin e he).1
      rw [q_w_sv, q_w_sv, q_sum_1 hV1, q_sum_1 hV1] at h4
      have h5 := hg2 T
      have h6 := hg2 e.1
      have h7 : q_cnt T m = q_cnt e.1 m ∧ q_val T m = q_val e.1 m := by omega
      rw [q_sum_1 hV1, h7.1, q_mk, h7.2]
      exact ⟨congrArg Prod.fst h1, congrArg Prod.snd h1⟩
    · obtain ⟨e, he, h1, h2⟩ := q_f2s (fun p : (Nat → Bool) × (Nat → Bool) => q_sum V p.1 m) (fun p => q_val p.1 m) (fun e => by have := q_sum_le (T := e.1) hV; show q_sum V e.1 m < 2 ^ 31; omega) hg hp0 rs
      rw [r3'] at h1
      obtain ⟨p, hp, hpT⟩ := hex T hT.2.1 hT.1
      have h3 : q_sum V p.1 m < q_sum V e.1 m ∨ (q_sum V p.1 m = q_sum V e.1 m ∧ q_val e.1 m ≤ q_val p.1 m) := h2 p hp
      rw [q_sum_cg hpT, q_cg hpT] at h3
      have h4 := hT.2.2 e.1 (fun j hj hW => (hin e he).2.2 j (Nat.zero_le j) hj hW) (hin e he).1
      rw [q_w_sv, q_w_sv] at h4
      have h5 := hg2 T
      have h6 := hg2 e.1
      have h7 : q_sum V T m = q_sum V e.1 m ∧ q_val T m = q_val e.1 m := by omega
      rw [h7.1, q_mk, h7.2]
      exact ⟨congrArg Prod.fst h1, congrArg Prod.snd h1⟩
  · left
    refine ⟨hl, ?_⟩
    cases l with
    | nil => rw [← r1']; rfl
    | cons p l =>
      have h1 := hin p (List.mem_cons_self ..)
      exact absurd (q_law_sub h1.1 (fun j hj hW => h1.2.2 j (Nat.zero_le j) hj hW)) hl
theorem q_tbm {z k : Nat} (hk : k ≤ 31) (hz : z < 2 ^ k) : nI z = q_mk (fun i => z.testBit i) k := by
  apply q_of (by omega)
  intro i hi
  rw [q_nIbt _ hi]
  by_cases c : i < k
  · rw [decide_eq_true c, Bool.true_and]
  · rw [decide_eq_false c, Bool.false_and]
    exact Nat.testBit_lt_two_pow (Nat.lt_of_lt_of_le hz (Nat.pow_le_pow_right (by decide) (by omega)))
