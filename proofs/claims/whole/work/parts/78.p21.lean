/-! The table of a law, the program's and the reference's -/
theorem nb0 {α : Type} (a b : α) : (if (if false = true then (1 : Int32) else 0) = 0 then a else b) = a := rfl
theorem nb1 {α : Type} (a b : α) : (if (if true = true then (1 : Int32) else 0) = 0 then a else b) = b := rfl
theorem nc0 {α : Type} (a b : α) : (if (if true = true then (0 : Int32) else 1) = 0 then a else b) = a := rfl
theorem nc1 {α : Type} (a b : α) : (if (if false = true then (0 : Int32) else 1) = 0 then a else b) = b := rfl
def q_F (L lo hi : Nat) (A : Nat → Nat) (j : Nat) : Bool := q_fit L lo hi (A j)
def q_C (L : Nat) (A : Nat → Nat) (i j : Nat) : Bool := A j != A i && !q_agr L (A i) (A j)
def q_R (L : Nat) (A : Nat → Nat) (i j : Nat) : Bool := L == 2 && q_nst (A i) (A j)
def q_ex (P : Nat → Bool) : Nat → Bool
  | 0 => false
  | m + 1 => q_ex P m || P m
theorem q_ex_iff (P : Nat → Bool) : ∀ m, q_ex P m = true ↔ ∃ i, i < m ∧ P i = true := by
  intro m
  induction m with
  | zero => exact ⟨fun h => (by cases h), fun ⟨i, h, _⟩ => absurd h (by omega)⟩
  | succ m ih =>
    rw [q_ex, Bool.or_eq_true, ih]
    constructor
    · rintro (⟨i, h1, h2⟩ | h)
      · exact ⟨i, by omega, h2⟩
      · exact ⟨m, by omega, h⟩
    · rintro ⟨i, h1, h2⟩
      rcases Nat.lt_or_ge i m with h | h
      · exact Or.inl ⟨i, h, h2⟩
      · have : i = m := by omega
        subst this; exact Or.inr h2
theorem q_ex_cg {P Q : Nat → Bool} : ∀ {m : Nat}, (∀ i, i < m → P i = Q i) → q_ex P m = q_ex Q m := by
  intro m
  induction m with
  | zero => intro _; rfl
  | succ m ih => intro h; rw [q_ex, q_ex, ih (fun i hi => h i (by omega)), h m (by omega)]
theorem q_collect {body : Int32 × Int32 → Option ((Int32 × Int32) ⊕ Int32)} (P : Nat → Bool) {m : Nat} (hm : m ≤ 16) (h : ∀ i x, i < m → body (x, nI i) = some (.inl (if P i = true then x ||| ((1 : Int32) <<< (nI i &&& 31)) else x, nI (i + 1)))) (hx : ∀ x, body (x, nI m) = some (.inr x)) : lpN body fuelK ((0 : Int32), (0 : Int32)) = some (q_mk P m) := by
  refine lp_runK (fun i => (q_mk P i, nI i)) m _ (by omega) (fun i hi => ?_) (hx _)
  rw [h i _ hi, q_step P (by omega)]
theorem q_clashC {L m a : Nat} (hL : L ≤ 4) (hm : m ≤ 16) {A : Nat → Nat} {f : Nat → Int32} (hA : ∀ j, j < m → A j < 256 ∧ f j = nI (A j)) (ha : a < 256) : M_X3_clashing (nI m) (nI L) f (nI a) = some (q_mk (fun j => A j != a && !q_agr L a (A j)) m) := by
  refine q_collect (fun j => A j != a && !q_agr L a (A j)) hm (fun i x hi => ?_) (fun x => ?_)
  · show L_X3_clashing_4 (nI a) (nI m) (nI L) f x (nI i) = _
    rw [L_X3_clashing_4, if_neg (nle hi (by omega)), ix_in (vp_in_nI (by omega) (by decide)), nI_clamp (by omega), (hA i hi).2, nI_1]
    have h256 := (hA i hi).1
    by_cases h : A i = a
    · rw [if_pos (by rw [h]), if_neg (by simp [h])]
    · rw [if_neg (fun c => h ((nI_eq (by omega) (by omega)).mp c)), ix_in (vp_in_nI (by omega) (by decide)), q_clC hL ha h256, ob]
      cases hq : q_agr L a (A i)
      · rw [nc1, if_pos (by simp [h])]
      · rw [nc0, if_neg (by simp)]
  · show L_X3_clashing_4 (nI a) (nI m) (nI L) f x (nI m) = _
    rw [L_X3_clashing_4, if_pos (nI_le (Nat.le_refl m) (by omega))]
    rfl
theorem q_nearC {L m a : Nat} (hL : L ≤ 4) (hm : m ≤ 16) {A : Nat → Nat} {f : Nat → Int32} (hA : ∀ j, j < m → A j < 256 ∧ f j = nI (A j)) (ha : a < 256) : M_X3_nearTo (nI m) (nI L) f (nI a) = some (q_mk (fun j => L == 2 && q_nst a (A j)) m) := by
  by_cases h2 : L = 2
  · subst h2
    refine q_collect (fun j => 2 == 2 && q_nst a (A j)) hm (fun i x hi => ?_) (fun x => ?_)
    · show L_X3_nearTo_4 (nI a) (nI m) (nI 2) f x (nI i) = _
      have h256 := (hA i hi).1
      have hin : vp_in (nI i) 16 := vp_in_nI (by omega) (by decide)
      rw [L_X3_nearTo_4, if_pos (show nI 2 = (2 : Int32) from rfl), if_neg (nle hi (by omega)), ix_in hin, nI_clamp (by omega), (hA i hi).2, nI_1, q_withC ha h256, ob]
      by_cases c1 : a ≠ A i ∧ (a &&& A i) = a
      · rw [if_pos c1, if_neg (by decide), B_X3_nearTo_46, nI_1, if_pos (by simp [q_nst, c1.1, c1.2])]
      · rw [if_neg c1, if_pos rfl, ix_in hin, q_withC h256 ha, ob]
        by_cases c2 : A i ≠ a ∧ (A i &&& a) = A i
        · rw [if_pos c2, if_neg (by decide), B_X3_nearTo_46, nI_1, if_pos (by rw [q_nst_comm]; simp [q_nst, c2.1, c2.2])]
        · rw [if_neg c2, if_pos rfl, if_neg]
          intro h
          simp only [q_nst, Bool.and_eq_true, bne_iff_ne, Bool.or_eq_true, beq_iff_eq] at h
          rcases h.2.2 with h2 | h2
          · exact c1 ⟨h.2.1, h2⟩
          · exact c2 ⟨Ne.symm h.2.1, by rw [Nat.and_comm]; exact h2⟩
    · show L_X3_nearTo_4 (nI a) (nI m) (nI 2) f x (nI m) = _
      rw [L_X3_nearTo_4, if_pos (show nI 2 = (2 : Int32) from rfl), if_pos (nI_le (Nat.le_refl m) (by omega))]
      rfl
  · have e : (fun j => L == 2 && q_nst a (A j)) = fun _ => false := by
      funext j
      rw [show (L == 2) = false from beq_eq_false_iff_ne.mpr h2, Bool.false_and]
    rw [e, q_0]
    refine lp_runK (fun _ => ((0 : Int32), (0 : Int32))) 0 _ (by omega) (fun i hi => by omega) ?_
    show L_X3_nearTo_4 (nI a) (nI m) (nI L) f 0 0 = _
    rw [L_X3_nearTo_4, if_neg (show ¬ nI L = (2 : Int32) from fun c => h2 ((nI_eq (a := L) (b := 2) (by omega) (by decide)).mp c))]
    rfl
theorem q_uu (f : Nat → Int32) (k : Nat) (x y : Int32) : upd (upd f k x) k y = upd f k y := by
  funext j
  by_cases h : j = k
  · subst h; rw [pk_us, pk_us]
  · rw [pk_un h, pk_un h, pk_un h]
theorem q_layC {L lo hi m : Nat} (hL : L ≤ 4) (hlo : lo ≤ 8) (hh : hi ≤ 8) (hm : m ≤ 16) {A : Nat → Nat} {f : Nat → Int32} (hA : ∀ j, j < m → A j < 256 ∧ f j = nI (A j)) (vb vf vh vl vw : Int32) (fc fn fs : Nat → Int32) :
    ∃ c n s, M_X3_lay 16 f vb vf vh vl vw fc fn fs (nI L) (nI lo) (nI hi) (nI m) = some (nI m, q_mk (q_F L lo hi A) m, nI hi, nI L, nI lo, c, n, s) ∧ (∀ j, j < m → c j = q_mk (q_C L A j) m) ∧ (∀ j, j < m → n j = q_mk (q_R L A j) m) ∧ ∀ j, j < m → s j = nI (A j) := by
  have e1 : (if (16 : Int32) < (Int32.ofNat 16) then (16 : Int32) else (Int32.ofNat 16)) = nI 16 := by decide
  have e2 : (if nI 16 < nI m then nI 16 else nI m) = nI m := if_neg (nI_nlt hm (by decide))
  have hs : ∀ j, j < m → va_cpy f fs 0 0 m j = nI (A j) := fun j hj => by
    rw [pk_cpy_in (Nat.zero_le j) (by omega), ← (hA j hj).2]
    congr 1; omega
  obtain ⟨t, et, c, n, rfl, h1, h2⟩ := lp_invK (body := fun z : Int32 × Int32 × (Nat → Int32) × (Nat → Int32) => L_X3_lay_55 16 f (nI m) (nI hi) (nI L) (nI lo) (va_cpy f fs 0 0 m) z.1 z.2.1 z.2.2.1 z.2.2.2)
    (fun i z => ∃ c n, z = (nI i, q_mk (q_F L lo hi A) i, c, n) ∧ (∀ j, j < i → c j = q_mk (q_C L A j) m) ∧ (∀ j, j < i → n j = q_mk (q_R L A j) m))
    (fun t => ∃ c n, t = (nI m, q_mk (q_F L lo hi A) m, nI hi, nI L, nI lo, c, n, va_cpy f fs 0 0 m) ∧ (∀ j, j < m → c j = q_mk (q_C L A j) m) ∧ (∀ j, j < m → n j = q_mk (q_R L A j) m)) m (by omega) (by
    rintro i z hx ⟨c, n, rfl, h1, h2⟩
    have hin : vp_in (nI i) 16 := vp_in_nI (by omega) (by decide)
    have hA' : ∀ j, j < m → A j < 256 ∧ va_cpy f fs 0 0 m j = nI (A j) := fun j hj => ⟨(hA j hj).1, hs j hj⟩
    refine Or.inl ⟨(nI (i + 1), q_mk (q_F L lo hi A) (i + 1), upd c i (q_mk (q_C L A i) m), upd n i (q_mk (q_R L A i) m)), ?_, _, _, rfl, ?_, ?_⟩
    · show L_X3_lay_55 16 f (nI m) (nI hi) (nI L) (nI lo) (va_cpy f fs 0 0 m) (nI i) (q_mk (q_F L lo hi A) i) c n = _
      rw [L_X3_lay_55, if_neg (nle hx (by omega)), ix_in hin, nI_clamp (by omega), hs i hx, q_fitC hL hlo hh (hA i hx).1, ob, q_step (q_F L lo hi A) (by omega)]
      have hB : ∀ x, B_X3_lay_91 16 (nI i) f (nI m) x (nI hi) (nI L) (nI lo) c n (va_cpy f fs 0 0 m) = some (Sum.inl (nI (i + 1), x, upd c i (q_mk (q_C L A i) m), upd n i (q_mk (q_R L A i) m))) := by
        intro x
        rw [B_X3_lay_91, ix_in hin, nI_clamp (by omega), hs i hx, q_clashC hL hm hA' (hA i hx).1, ob, ix_in hin, ix_in hin, q_nearC hL hm hA' (hA i hx).1, ob, ix_in hin, nI_1]
        rfl
      rw [hB, hB]
      show _ = some (Sum.inl (_, (if q_fit L lo hi (A i) = true then _ else _), _, _))
      cases q_fit L lo hi (A i) <;> rfl
    · intro j hj
      by_cases hji : j = i
      · subst hji; rw [pk_us]
      · rw [pk_un hji, h1 j (by omega)]
    · intro j hj
      by_cases hji : j = i
      · subst hji; rw [pk_us]
      · rw [pk_un hji, h2 j (by omega)]) (by
    rintro z ⟨c, n, rfl, h1, h2⟩
    refine ⟨_, ?_, c, n, rfl, h1, h2⟩
    show L_X3_lay_55 16 f (nI m) (nI hi) (nI L) (nI lo) (va_cpy f fs 0 0 m) (nI m) (q_mk (q_F L lo hi A) m) c n = _
    rw [L_X3_lay_55, if_pos (nI_le (Nat.le_refl m) (by omega))]
    rfl) ((0 : Int32), (0 : Int32), fc, fn) ⟨fc, fn, rfl, fun j hj => absurd hj (by omega), fun j hj => absurd hj (by omega)⟩
  refine ⟨c, n, _, ?_, h1, h2, hs⟩
  rw [M_X3_lay, e1, e2, nI_clamp (by omega), cpk, if_neg]
  · exact et
  · have h3 : ¬ nI m < 0 := nI_pos (by omega)
    have h4 : (0 : Int32).toNatClampNeg = 0 := rfl
    rw [h4]
    rintro (h | h | h | h | h)
    · exact absurd h (by decide)
    · exact absurd h (by decide)
    · exact h3 h
    · rw [nI_clamp (by omega)] at h; omega
    · rw [nI_clamp (by omega)] at h; omega
def q_Br (L : Nat) (A : Nat → Nat) (k u : Nat) : Bool := u == k || !q_agr L (A k) (A u)
def q_Nr (A : Nat → Nat) (k u : Nat) : Bool := q_nst (A k) (A u)
theorem q_layR1 {L m k : Nat} (hL : L ≤ 4) (hm : m ≤ 16) (hk : k < m) {A : Nat → Nat} (hA : ∀ j, j < m → A j < 256) {box : Nat → Int32} {p1 : Int32} (hit : ∀ j, j < m → M_X9_item box (nI j) p1 = some (nI (A j))) (p2 vb ft vh vl vn : Int32) (bars near : Nat → Int32) :
    lpN (fun z : Int32 × (Nat → Int32) × (Nat → Int32) => L_X9_lay_93 (nI L) p1 p2 (nI k) vb ft vh (nI m) vl vn box z.1 z.2.1 z.2.2) fuelK ((0 : Int32), upd bars k 0, upd near k 0) = some (Sum.inl (nI (k + 1), ft, upd bars k (q_mk (q_Br L A k) m), upd near k (q_mk (q_Nr A k) m))) := by
  have hin : vp_in (nI k) 16 := vp_in_nI (by omega) (by decide)
  refine lp_runK (fun j => (nI j, upd bars k (q_mk (q_Br L A k) j), upd near k (q_mk (q_Nr A k) j))) m _ (by omega) (fun j hj => ?_) ?_
  · show L_X9_lay_93 (nI L) p1 p2 (nI k) vb ft vh (nI m) vl vn box (nI j) (upd bars k (q_mk (q_Br L A k) j)) (upd near k (q_mk (q_Nr A k) j)) = _
    have h184 : ∀ s3 nr, B_X9_lay_184 (nI L) p1 p2 (nI k) (nI j) (nI k) (q_mk (q_Br L A k) j) s3 vb ft vh (nI m) vl vn (upd bars k (q_mk (q_Br L A k) j)) box nr = some (Sum.inl (nI (j + 1), upd bars k (q_mk (q_Br L A k) j ||| s3), nr)) := by
      intro s3 nr
      rw [B_X9_lay_184, ix_in hin, nI_1, nI_clamp (by omega), q_uu]
    have h138 : ∀ s3, B_X9_lay_138 (nI L) p1 p2 (nI k) (nI j) (nI k) (q_mk (q_Nr A k) j) s3 vb ft vh (nI m) vl vn (upd bars k (q_mk (q_Br L A k) j)) box (upd near k (q_mk (q_Nr A k) j)) = some (Sum.inl (nI (j + 1), upd bars k (q_mk (q_Br L A k) (j + 1)), upd near k (q_mk (q_Nr A k) j ||| s3))) := by
      intro s3
      rw [B_X9_lay_138, ix_in hin, ix_in hin, nI_clamp (by omega), pk_us, q_uu, q_step (q_Br L A k) (by omega)]
      by_cases hjk : j = k
      · subst hjk
        rw [if_pos rfl, B_X9_lay_176, h184, if_pos (by simp [q_Br])]
      · rw [if_neg (fun c => hjk ((nI_eq (by omega) (by omega)).mp c)), hit k hk, ob, hit j hj, ob, q_agR hL (hA k hk) (hA j hj), ob]
        unfold q_Br
        cases hq : q_agr L (A k) (A j)
        · rw [nb0, B_X9_lay_176]
          rw [show (fun u => u == k || !q_agr L (A k) (A u)) = q_Br L A k from rfl, h184, if_pos (by simp)]
        · rw [if_pos rfl, if_neg (by decide)]
          rw [show (fun u => u == k || !q_agr L (A k) (A u)) = q_Br L A k from rfl, h184, if_neg (by simp [hjk]), Int32.or_zero]
    rw [L_X9_lay_93, if_neg (nle hj (by omega)), ix_in hin, hit k hk, ob, hit j hj, ob, q_nsR (hA k hk) (hA j hj), ob, nI_clamp (by omega), pk_us, h138, h138, q_step (q_Nr A k) (by omega)]
    show _ = some (Sum.inl (_, _, upd near k (if q_nst (A k) (A j) = true then _ else _)))
    cases q_nst (A k) (A j)
    · rw [nb0, if_neg (by decide), Int32.or_zero]
    · rw [nb1, if_pos rfl]
  · show L_X9_lay_93 (nI L) p1 p2 (nI k) vb ft vh (nI m) vl vn box (nI m) (upd bars k (q_mk (q_Br L A k) m)) (upd near k (q_mk (q_Nr A k) m)) = _
    rw [L_X9_lay_93, if_pos (nI_le (Nat.le_refl m) (by omega)), nI_1]
    rfl
def q_F2 (p2 : Int32) (L lo hi : Nat) (A : Nat → Nat) (j : Nat) : Bool := p2 == 0 || q_fit L lo hi (A j)
theorem q_layR {L lo hi m : Nat} (hL : L ≤ 4) (hlo : lo ≤ 8) (hh : hi ≤ 8) (hm : m ≤ 16) {A : Nat → Nat} (hA : ∀ j, j < m → A j < 256) {box : Nat → Int32} {p1 p2 : Int32} (hit : ∀ j, j < m → M_X9_item box (nI j) p1 = some (nI (A j))) (vb vf vi vn : Int32) (bars near : Nat → Int32) :
    ∃ b n, B_X9_lay_18 (nI L) p1 p2 (nI m) vb vf (nI hi) vi (nI lo) vn bars box near = some (q_mk (q_F2 p2 L lo hi A) m, nI m, b, n) ∧ (∀ j, j < m → b j = q_mk (q_Br L A j) m) ∧ ∀ j, j < m → n j = q_mk (q_Nr A j) m := by
  obtain ⟨t, et, c, n, rfl, h1, h2⟩ := lp_invK (body := fun z : Int32 × Int32 × (Nat → Int32) × (Nat → Int32) => L_X9_lay_29 (nI L) p1 p2 vb (nI hi) (nI m) (nI lo) vn box z.1 z.2.1 z.2.2.1 z.2.2.2)
    (fun i z => ∃ c n, z = (nI i, q_mk (q_F2 p2 L lo hi A) i, c, n) ∧ (∀ j, j < i → c j = q_mk (q_Br L A j) m) ∧ (∀ j, j < i → n j = q_mk (q_Nr A j) m))
    (fun t => ∃ c n, t = (q_mk (q_F2 p2 L lo hi A) m, nI m, c, n) ∧ (∀ j, j < m → c j = q_mk (q_Br L A j) m) ∧ (∀ j, j < m → n j = q_mk (q_Nr A j) m)) m (by omega) (by
    rintro i z hx ⟨c, n, rfl, h1, h2⟩
    have hin : vp_in (nI i) 16 := vp_in_nI (by omega) (by decide)
    refine Or.inl ⟨(nI (i + 1), q_mk (q_F2 p2 L lo hi A) (i + 1), upd c i (q_mk (q_Br L A i) m), upd n i (q_mk (q_Nr A i) m)), ?_, _, _, rfl, ?_, ?_⟩
    · show L_X9_lay_29 (nI L) p1 p2 vb (nI hi) (nI m) (nI lo) vn box (nI i) (q_mk (q_F2 p2 L lo hi A) i) c n = _
      have h70 : ∀ s1 s2 ft, B_X9_lay_70 (nI L) p1 p2 (nI i) s1 s2 vb ft (nI hi) (nI m) (nI lo) vn c box n = some (Sum.inl (nI (i + 1), s1 ||| s2, upd c i (q_mk (q_Br L A i) m), upd n i (q_mk (q_Nr A i) m))) := by
        intro s1 s2 ft
        rw [B_X9_lay_70, ix_in hin, ix_in hin, nI_clamp (by omega), q_layR1 hL hm hx hA hit]
      rw [L_X9_lay_29, if_neg (nle hx (by omega)), q_step (q_F2 p2 L lo hi A) (by omega)]
      by_cases hp : p2 = 0
      · rw [if_pos hp, B_X9_lay_62, h70, if_pos (by simp [q_F2, hp])]
      · rw [if_neg hp, hit i hx, ob, q_fitR hL hlo hh (hA i hx), ob, B_X9_lay_62, h70, h70, Int32.or_zero]
        have hp' : (p2 == 0) = false := beq_eq_false_iff_ne.mpr hp
        have hq : q_F2 p2 L lo hi A i = q_fit L lo hi (A i) := by rw [q_F2, hp', Bool.false_or]
        rw [hq]
        cases q_fit L lo hi (A i)
        · rw [nb0, if_neg (by decide)]
        · rw [nb1, if_pos rfl]
    · intro j hj
      by_cases hji : j = i
      · subst hji; rw [pk_us]
      · rw [pk_un hji, h1 j (by omega)]
    · intro j hj
      by_cases hji : j = i
      · subst hji; rw [pk_us]
      · rw [pk_un hji, h2 j (by omega)]) (by
    rintro z ⟨c, n, rfl, h1, h2⟩
    refine ⟨_, ?_, c, n, rfl, h1, h2⟩
    show L_X9_lay_29 (nI L) p1 p2 vb (nI hi) (nI m) (nI lo) vn box (nI m) (q_mk (q_F2 p2 L lo hi A) m) c n = _
    rw [L_X9_lay_29, if_pos (nI_le (Nat.le_refl m) (by omega))]
    rfl) ((0 : Int32), (0 : Int32), bars, near) ⟨bars, near, rfl, fun j hj => absurd hj (by omega), fun j hj => absurd hj (by omega)⟩
  exact ⟨c, n, et, h1, h2⟩
/-! what a box bars -/
def q_bb (m : Nat) (C R : Nat → Nat → Bool) (i : Nat) (S : Nat → Bool) (u : Nat) : Bool := C i u || (R i u && q_ex (fun t => S t && R i t && R t u) m)
theorem q_barC {m i : Nat} (hm : m ≤ 16) (hi : i < m) {C R : Nat → Nat → Bool} {c n : Nat → Int32} (hc : ∀ j, j < m → c j = q_mk (C j) m) (hn : ∀ j, j < m → n j = q_mk (R j) m) (S : Nat → Bool) : M_X3_barredBy (nI m) c n (nI i) (q_mk S m) = some (q_mk (q_bb m C R i S) m) := by
  have hin : vp_in (nI i) 16 := vp_in_nI (by omega) (by decide)
  rw [M_X3_barredBy, ix_in hin, ix_in hin, nI_clamp (by omega), hn i hi, hc i hi, q_and _ _ (by omega)]
  have e0 : q_mk (C i) m = q_mk (fun u => C i u || (R i u && q_ex (fun t => S t && R i t && R t u) 0)) m := by
    apply q_mkcg; intro u hu; simp [q_ex]
  rw [e0]
  refine lp_runK (fun j => (q_mk (fun u => C i u || (R i u && q_ex (fun t => S t && R i t && R t u) j)) m, nI j)) m _ (by omega) (fun j hj => ?_) ?_
  · show L_X3_barredBy_20 (nI i) (q_mk (fun j => R i j && S j) m) (nI m) c n (q_mk (fun u => C i u || (R i u && q_ex (fun t => S t && R i t && R t u) j)) m) (nI j) = _
    have hinj : vp_in (nI j) 16 := vp_in_nI (by omega) (by decide)
    rw [L_X3_barredBy_20, if_neg (nle hj (by omega)), q_has _ (by omega), ob, q_bt _ (by omega), decide_eq_true hj, Bool.true_and, nI_1]
    cases hb : (R i j && S j) with
    | false =>
      rw [nb0]
      have e : q_mk (fun u => C i u || (R i u && q_ex (fun t => S t && R i t && R t u) j)) m = q_mk (fun u => C i u || (R i u && q_ex (fun t => S t && R i t && R t u) (j + 1))) m := by
        apply q_mkcg; intro u hu
        rw [q_ex]
        have : (S j && R i j && R j u) = false := by rw [Bool.and_comm (S j), hb]; rfl
        rw [this, Bool.or_false]
      rw [e]
    | true =>
      rw [if_pos rfl, if_neg (by decide), ix_in hin, ix_in hinj, nI_clamp (by omega), nI_clamp (by omega), hn i hi, hn j hj, q_and _ _ (by omega), q_or _ _ (by omega)]
      have e : q_mk (fun u => (C i u || (R i u && q_ex (fun t => S t && R i t && R t u) j)) || (R i u && R j u)) m = q_mk (fun u => C i u || (R i u && q_ex (fun t => S t && R i t && R t u) (j + 1))) m := by
        apply q_mkcg; intro u hu
        rw [q_ex]
        have : (S j && R i j && R j u) = R j u := by rw [Bool.and_comm (S j), hb]; rfl
        rw [this]
        cases C i u <;> cases R i u <;> simp
      rw [e]
  · show L_X3_barredBy_20 (nI i) (q_mk (fun j => R i j && S j) m) (nI m) c n _ (nI m) = _
    rw [L_X3_barredBy_20, if_pos (nI_le (Nat.le_refl m) (by omega))]
    rfl
def q_stp (m : Nat) (C R : Nat → Nat → Bool) (k : Nat) (S M : Nat → Bool) (u : Nat) : Bool := M u && u != k && !q_bb m C R k S u
theorem q_stillR {L m k : Nat} (hL : L ≤ 4) (hm : m ≤ 16) (hk : k < m) {A : Nat → Nat} (hinj : ∀ i j, i < m → j < m → A i = A j → i = j) {b n : Nat → Int32} (hb : ∀ j, j < m → b j = q_mk (q_Br L A j) m) (hn : ∀ j, j < m → n j = q_mk (q_Nr A j) m) (S M : Nat → Bool) : M_X9_still (nI m) b n (nI L) (nI k) (q_mk S m) (q_mk M m) = some (q_mk (q_stp m (q_C L A) (q_R L A) k S M) m) := by
  have hin : vp_in (nI k) 16 := vp_in_nI (by omega) (by decide)
  have hC : ∀ u, u < m → (u == k || !q_agr L (A k) (A u)) = (u == k || q_C L A k u) := by
    intro u hu
    unfold q_C
    by_cases h : u = k
    · subst h; simp
    · have : (A u != A k) = true := bne_iff_ne.mpr (fun c => h (hinj u k hu hk c))
      rw [this, Bool.true_and]
  rw [M_X9_still, ix_in hin, nI_clamp (by omega), hb k hk, q_dif _ _ (by omega)]
  by_cases h2 : L = 2
  · have hR : ∀ a u, q_R L A a u = q_Nr A a u := by intro a u; subst h2; simp [q_R, q_Nr]
    have e0 : q_mk (fun j => M j && !q_Br L A k j) m = q_mk (fun u => M u && !q_Br L A k u && !(q_Nr A k u && q_ex (fun t => S t && q_Nr A k t && q_Nr A t u) 0)) m := by
      apply q_mkcg; intro u hu; simp [q_ex]
    rw [e0]
    refine lp_runK (fun j => (q_mk (fun u => M u && !q_Br L A k u && !(q_Nr A k u && q_ex (fun t => S t && q_Nr A k t && q_Nr A t u) j)) m, nI j)) m _ (by omega) (fun j hj => ?_) ?_
    · show L_X9_still_16 (nI L) (nI k) (q_mk S m) (nI m) b n _ (nI j) = _
      have hinj' : vp_in (nI j) 16 := vp_in_nI (by omega) (by decide)
      rw [L_X9_still_16, if_neg (nle hj (by omega)), if_pos (by rw [h2]; rfl), ix_in hin, nI_clamp (by omega), hn k hk, q_and _ _ (by omega)]
      have hz : (q_mk (fun j => S j && q_Nr A k j) m &&& ((1 : Int32) <<< (nI j &&& 31))) = 0 ↔ (S j && q_Nr A k j) = false := by
        constructor
        · intro h
          have h3 := congrArg (fun x => bt x j) h
          simp only [b_and, q_bt _ (show m ≤ 32 by omega), b_0] at h3
          rw [q_one (by omega) (by omega), decide_eq_true hj] at h3
          simpa using h3
        · intro h
          apply b_ext
          intro i hi
          rw [b_and, q_bt _ (by omega), q_one (by omega) hi, b_0]
          by_cases hij : i = j
          · subst hij; simp [h]
          · rw [decide_eq_false hij, Bool.and_false]
      cases hb2 : (S j && q_Nr A k j) with
      | false =>
        rw [if_pos (hz.mpr hb2), B_X9_still_68, nI_1]
        have e : q_mk (fun u => M u && !q_Br L A k u && !(q_Nr A k u && q_ex (fun t => S t && q_Nr A k t && q_Nr A t u) j)) m &&& (-1 : Int32) = q_mk (fun u => M u && !q_Br L A k u && !(q_Nr A k u && q_ex (fun t => S t && q_Nr A k t && q_Nr A t u) (j + 1))) m := by
          apply q_of (by omega)
          intro i hi
          rw [b_and, q_bt _ (by omega), b_m1 i hi, Bool.and_true, q_ex, hb2, Bool.false_and, Bool.or_false]
        rw [e]
      | true =>
        rw [if_neg (fun h => by rw [hz.mp h] at hb2; cases hb2), ix_in hin, ix_in hinj', nI_clamp (by omega), hn j hj, B_X9_still_68, nI_1, q_and _ _ (by omega), q_dif _ _ (by omega)]
        have e : q_mk (fun u => (M u && !q_Br L A k u && !(q_Nr A k u && q_ex (fun t => S t && q_Nr A k t && q_Nr A t u) j)) && !(q_Nr A k u && q_Nr A j u)) m = q_mk (fun u => M u && !q_Br L A k u && !(q_Nr A k u && q_ex (fun t => S t && q_Nr A k t && q_Nr A t u) (j + 1))) m := by
          apply q_mkcg; intro u hu
          rw [q_ex, hb2, Bool.true_and]
          generalize q_ex (fun t => S t && q_Nr A k t && q_Nr A t u) j = w
          cases M u <;> cases q_Br L A k u <;> cases q_Nr A k u <;> cases w <;> cases q_Nr A j u <;> rfl
        rw [e]
    · show L_X9_still_16 (nI L) (nI k) (q_mk S m) (nI m) b n _ (nI m) = _
      rw [L_X9_still_16, if_pos (nI_le (Nat.le_refl m) (by omega))]
      refine congrArg (fun x => some (Sum.inr x)) (q_mkcg ?_)
      intro u hu
      unfold q_stp q_bb
      rw [hR]
      have e3 : q_ex (fun t => S t && q_R L A k t && q_R L A t u) m = q_ex (fun t => S t && q_Nr A k t && q_Nr A t u) m := q_ex_cg (fun t ht => by rw [hR, hR])
      rw [e3, q_Br, hC u hu]
      generalize q_ex (fun t => S t && q_Nr A k t && q_Nr A t u) m = w
      rw [show (u != k) = !(u == k) from rfl]
      cases M u <;> cases (u == k) <;> cases q_C L A k u <;> cases q_Nr A k u <;> cases w <;> rfl
  · have hR : ∀ a u, q_R L A a u = false := by intro a u; rw [q_R, show (L == 2) = false from beq_eq_false_iff_ne.mpr h2, Bool.false_and]
    refine lp_runK (fun _ => (q_mk (fun j => M j && !q_Br L A k j) m, (0 : Int32))) 0 _ (by omega) (fun i hi => by omega) ?_
    show L_X9_still_16 (nI L) (nI k) (q_mk S m) (nI m) b n _ 0 = _
    have e : q_mk (fun j => M j && !q_Br L A k j) m = q_mk (q_stp m (q_C L A) (q_R L A) k S M) m := by
      apply q_mkcg; intro u hu
      unfold q_stp q_bb
      rw [hR, q_Br, hC u hu, show (u != k) = !(u == k) from rfl]
      cases M u <;> cases (u == k) <;> cases q_C L A k u <;> rfl
    rw [L_X9_still_16, e]
    by_cases hm0 : nI m ≤ 0
    · rw [if_pos hm0]; rfl
    · rw [if_neg hm0, if_neg (show ¬ nI L = (2 : Int32) from fun c => h2 ((nI_eq (a := L) (b := 2) (by omega) (by decide)).mp c))]; rfl
