/-! opens -/
def q_E (S : Nat → Nat) : Nat → Nat → Nat → Prop
  | 0, c, e => c = 0 ∧ e = 0
  | i + 1, c, e => q_E S i c e ∨ ∃ c' e', q_E S i c' e' ∧ c = c' ||| S i ∧ e = e' + (65536 + 2 ^ i)
def q_mi (a b : Nat) : Nat := a ^^^ (a &&& b)
theorem q_mi_tb (a b i : Nat) : (q_mi a b).testBit i = (a.testBit i && !b.testBit i) := by
  unfold q_mi
  rw [Nat.testBit_xor, Nat.testBit_and]
  cases a.testBit i <;> cases b.testBit i <;> rfl
theorem q_mi_I (a b : Nat) : nI a &&& (nI b ^^^ (-1 : Int32)) = nI (q_mi a b) := by
  apply b_ext
  intro i hi
  rw [b_and, b_not _ hi, q_nIbt _ hi, q_nIbt _ hi, q_nIbt _ hi, q_mi_tb]
theorem q_mi_le (a b : Nat) : q_mi a b ≤ a := by
  have h : q_mi a b = a &&& q_mi a b := by
    apply Nat.eq_of_testBit_eq
    intro i
    rw [Nat.testBit_and, q_mi_tb]
    cases a.testBit i <;> rfl
  rw [h]
  exact Nat.and_le_left
theorem q_mi_mi (a b : Nat) : q_mi (q_mi a b) b = q_mi a b := by
  apply Nat.eq_of_testBit_eq
  intro i
  rw [q_mi_tb, q_mi_tb]
  cases a.testBit i <;> cases b.testBit i <;> rfl
theorem q_sub_or {x c s : Nat} : (x &&& (c ||| s)) = x ↔ (q_mi x s &&& c) = q_mi x s := by
  constructor
  · intro h
    apply Nat.eq_of_testBit_eq
    intro i
    have h2 := congrArg (fun y => y.testBit i) h
    simp only [Nat.testBit_and, Nat.testBit_or] at h2
    rw [Nat.testBit_and, q_mi_tb]
    cases h3 : x.testBit i <;> cases h4 : c.testBit i <;> cases h5 : s.testBit i <;> simp [h3, h4, h5] at h2 ⊢
  · intro h
    apply Nat.eq_of_testBit_eq
    intro i
    have h2 := congrArg (fun y => y.testBit i) h
    simp only [Nat.testBit_and, q_mi_tb] at h2
    rw [Nat.testBit_and, Nat.testBit_or]
    cases h3 : x.testBit i <;> cases h4 : c.testBit i <;> cases h5 : s.testBit i <;> simp [h3, h4, h5] at h2 ⊢
theorem q_or_lt {a b : Nat} (ha : a < 256) (hb : b < 256) : a ||| b < 256 := Nat.or_lt_two_pow (n := 8) ha hb
section OP
variable {k : Nat} {S : Nat → Nat}
theorem q_E_b (hk : k ≤ 16) (hS : ∀ j, j < k → S j < 256) : ∀ i, i ≤ k → ∀ c e, q_E S i c e → c < 256 ∧ e / 65536 ≤ i ∧ e % 65536 < 2 ^ i := by
  intro i
  induction i with
  | zero =>
    intro hi c e h
    obtain ⟨rfl, rfl⟩ := h
    exact ⟨by decide, by decide, by decide⟩
  | succ i ih =>
    intro hi c e h
    have hp : 2 ^ (i + 1) = 2 * 2 ^ i := by rw [Nat.pow_succ, Nat.mul_comm]
    have hp2 : 2 ^ i ≤ 2 ^ 15 := Nat.pow_le_pow_right (by decide) (by omega)
    rcases h with h | ⟨c', e', h, rfl, rfl⟩
    · obtain ⟨h1, h2, h3⟩ := ih (by omega) c e h
      exact ⟨h1, by omega, by omega⟩
    · obtain ⟨h1, h2, h3⟩ := ih (by omega) c' e' h
      refine ⟨q_or_lt h1 (hS i (by omega)), ?_, ?_⟩
      · generalize 2 ^ i = p at hp2 h3 ⊢
        omega
      · rw [hp]
        generalize 2 ^ i = p at hp2 h3 ⊢
        omega
theorem q_E_0 : ∀ i, q_E S i 0 0 := by
  intro i
  induction i with
  | zero => exact ⟨rfl, rfl⟩
  | succ i ih => exact Or.inl ih
def q_PC (S : Nat → Nat) (i x e : Nat) : Prop := ∃ c, q_E S i c e ∧ (x &&& c) = x
def q_isC (P : Nat → Prop) (v : Int32) : Prop := (v = 1073741824 ∧ ∀ e, ¬ P e) ∨ ∃ e, P e ∧ v = nI e ∧ ∀ e', P e' → e ≤ e'
theorem q_PC_s {i x e : Nat} : q_PC S (i + 1) x e ↔ q_PC S i x e ∨ ∃ e', q_PC S i (q_mi x (S i)) e' ∧ e = e' + (65536 + 2 ^ i) := by
  constructor
  · rintro ⟨c, h | ⟨c', e', h, rfl, rfl⟩, hx⟩
    · exact Or.inl ⟨c, h, hx⟩
    · exact Or.inr ⟨e', ⟨c', h, q_sub_or.mp hx⟩, rfl⟩
  · rintro (⟨c, h, hx⟩ | ⟨e', ⟨c', h, hx⟩, rfl⟩)
    · exact ⟨c, Or.inl h, hx⟩
    · exact ⟨c' ||| S i, Or.inr ⟨c', e', h, rfl, rfl⟩, q_sub_or.mpr hx⟩
theorem q_isC_st {i y : Nat} (h : q_mi y (S i) = y) {v : Int32} : q_isC (q_PC S (i + 1) y) v ↔ q_isC (q_PC S i y) v := by
  have hP : ∀ e, q_PC S (i + 1) y e ↔ q_PC S i y e ∨ ∃ e', q_PC S i y e' ∧ e = e' + (65536 + 2 ^ i) := fun e => by
    rw [q_PC_s, h]
  constructor
  · rintro (⟨h1, h2⟩ | ⟨e, h1, h2, h3⟩)
    · exact Or.inl ⟨h1, fun e he => h2 e ((hP e).mpr (Or.inl he))⟩
    · refine Or.inr ⟨e, ?_, h2, fun e' he' => h3 e' ((hP e').mpr (Or.inl he'))⟩
      rcases (hP e).mp h1 with h4 | ⟨e', h4, h5⟩
      · exact h4
      · have := h3 e' ((hP e').mpr (Or.inl h4))
        have hpp := Nat.two_pow_pos i
        omega
  · rintro (⟨h1, h2⟩ | ⟨e, h1, h2, h3⟩)
    · refine Or.inl ⟨h1, fun e he => ?_⟩
      rcases (hP e).mp he with h4 | ⟨e', h4, h5⟩
      · exact h2 e h4
      · exact h2 e' h4
    · refine Or.inr ⟨e, (hP e).mpr (Or.inl h1), h2, fun e' he' => ?_⟩
      rcases (hP e').mp he' with h4 | ⟨e2, h4, h5⟩
      · exact h3 e' h4
      · have := h3 e2 h4
        have hpp := Nat.two_pow_pos i
        omega
theorem q_PC_b (hk : k ≤ 16) (hS : ∀ j, j < k → S j < 256) {i x e : Nat} (hi : i ≤ k) (h : q_PC S i x e) : e < 1114112 + 65536 := by
  obtain ⟨c, h1, -⟩ := h
  obtain ⟨h2, h3, h4⟩ := q_E_b hk hS i hi c e h1
  omega
theorem q_isC_up (hk : k ≤ 16) (hS : ∀ j, j < k → S j < 256) {i x : Nat} (hi : i < k) {a b : Int32} (ha : q_isC (q_PC S i x) a) (hb : q_isC (q_PC S i (q_mi x (S i))) b) : (b = 1073741824 → q_isC (q_PC S (i + 1) x) a) ∧ (¬ b = 1073741824 → (a ≤ b + nI (65536 + 2 ^ i) → q_isC (q_PC S (i + 1) x) a) ∧ (¬ a ≤ b + nI (65536 + 2 ^ i) → q_isC (q_PC S (i + 1) x) (b + nI (65536 + 2 ^ i)))) := by
  have hp2 : 2 ^ i ≤ 2 ^ 15 := Nat.pow_le_pow_right (by decide) (by omega)
  rcases hb with ⟨b1, b2⟩ | ⟨eb, b1, b2, b3⟩
  · refine ⟨fun _ => ?_, fun h => absurd b1 h⟩
    rcases ha with ⟨a1, a2⟩ | ⟨ea, a1, a2, a3⟩
    · refine Or.inl ⟨a1, fun e he => ?_⟩
      rcases q_PC_s.mp he with h | ⟨e', h, -⟩
      · exact a2 e h
      · exact b2 e' h
    · refine Or.inr ⟨ea, q_PC_s.mpr (Or.inl a1), a2, fun e he => ?_⟩
      rcases q_PC_s.mp he with h | ⟨e', h, -⟩
      · exact a3 e h
      · exact absurd h (b2 e')
  · have hbb := q_PC_b hk hS (by omega) b1
    have hne : ¬ b = 1073741824 := fun h => by
      rw [b2] at h
      have := (nI_eq (a := eb) (b := 1073741824) (by omega) (by decide)).mp h
      omega
    refine ⟨fun h => absurd h hne, fun _ => ?_⟩
    rw [b2, nI_add]
    rcases ha with ⟨a1, a2⟩ | ⟨ea, a1, a2, a3⟩
    · refine ⟨fun h => ?_, fun _ => Or.inr ⟨_, q_PC_s.mpr (Or.inr ⟨eb, b1, rfl⟩), rfl, fun e he => ?_⟩⟩
      · rw [a1] at h
        have := (nI_leI (a := 1073741824) (b := eb + (65536 + 2 ^ i)) (by decide) (by omega)).mp h
        omega
      · rcases q_PC_s.mp he with h | ⟨e', h, rfl⟩
        · exact absurd h (a2 e)
        · have := b3 e' h
          omega
    · have hab := q_PC_b hk hS (by omega) a1
      rw [a2, nI_leI (by omega) (by omega)]
      refine ⟨fun h => Or.inr ⟨ea, q_PC_s.mpr (Or.inl a1), rfl, fun e he => ?_⟩, fun h => Or.inr ⟨_, q_PC_s.mpr (Or.inr ⟨eb, b1, rfl⟩), rfl, fun e he => ?_⟩⟩
      · rcases q_PC_s.mp he with h2 | ⟨e', h2, rfl⟩
        · exact a3 e h2
        · have := b3 e' h2
          omega
      · rcases q_PC_s.mp he with h2 | ⟨e', h2, rfl⟩
        · have := a3 e h2
          omega
        · have := b3 e' h2
          omega
theorem q_fill32 {n : Nat} (hn : n ≤ 1024) (f : Nat → Int32) (v : Int32) : ∃ g, M_J7_fill_53178 n f v = some g ∧ ∀ q, q < n → g q = v := by
  obtain ⟨t, et, h⟩ := lp_invK (body := fun z : Int32 × (Nat → Int32) => L_J7_fill_53178_5 n v (Int32.ofNat n) z.1 z.2) (fun (i : Nat) (z : Int32 × (Nat → Int32)) => z.1 = nI i ∧ ∀ q, q < i → z.2 q = v) (fun g => ∀ q, q < n → g q = v) n (by omega) (by
    rintro i ⟨x, g⟩ hi ⟨rfl, h1⟩
    refine Or.inl ⟨(nI (i + 1), upd g i v), ?_, rfl, fun q hq => ?_⟩
    · show L_J7_fill_53178_5 n v (nI n) (nI i) g = _
      rw [L_J7_fill_53178_5, if_neg (nle hi (by omega)), ix_in (vp_in_nI hi (by omega)), nI_clamp (by omega), nI_1]
    · show upd g i v q = v
      by_cases hE : q = i
      · rw [hE, pk_us]
      · rw [pk_un hE]; exact h1 q (by omega)) (by
    rintro ⟨x, g⟩ ⟨rfl, h1⟩
    refine ⟨g, ?_, h1⟩
    show L_J7_fill_53178_5 n v (nI n) (nI n) g = _
    rw [L_J7_fill_53178_5, if_pos (nI_le (Nat.le_refl n) (by omega))]
    rfl) ((0 : Int32), f) ⟨rfl, fun q h => absurd h (by omega)⟩
  exact ⟨t, et, h⟩
theorem q_subs_mi {x z s : Nat} (h : (x &&& z) = x) : (q_mi x s &&& z) = q_mi x s := by
  apply Nat.eq_of_testBit_eq
  intro i
  have h2 := congrArg (fun y => y.testBit i) h
  simp only [Nat.testBit_and] at h2
  rw [Nat.testBit_and, q_mi_tb]
  cases h3 : x.testBit i <;> cases h4 : z.testBit i <;> simp [h3, h4] at h2 ⊢
theorem q_opC (hk : k ≤ 16) (hS : ∀ j, j < k → S j < 256) {sets : Nat → Int32} (hs : ∀ j, j < k → sets j = nI (S j)) {z : Nat} (hz : z < 256) (f0 : Nat → Int32) : ∃ v g, q_isC (q_PC S k z) v ∧ M_X8_fewestOpening f0 (nI k) sets (nI z) = some (if v = 1073741824 then (-1 : Int32) else v, g) := by
  have inner : ∀ i, i < k → ∀ f, (∀ x, x < 256 → (x &&& z) = x → q_isC (q_PC S i x) (f x)) → ∃ g, lpN (fun w : Int32 × (Nat → Int32) => L_X8_fewestOpening_41 (nI z) (nI i) (nI (65536 + 2 ^ i)) (nI k) sets w.1 w.2) fuelK ((1 : Int32), f) = some (Sum.inl (nI (i + 1), g)) ∧ ∀ x, x < 256 → (x &&& z) = x → q_isC (q_PC S (i + 1) x) (g x) := by
    intro i hi f hf
    have hin : vp_in (nI i) 16 := vp_in_nI (by omega) (by decide)
    obtain ⟨t, et, g, rfl, hg⟩ := lp_invK (body := fun w : Int32 × (Nat → Int32) => L_X8_fewestOpening_41 (nI z) (nI i) (nI (65536 + 2 ^ i)) (nI k) sets w.1 w.2)
      (fun j w => ∃ f, w = (nI (1 + j), f) ∧ ∀ x, x < 256 → (x &&& z) = x → (x < 1 + j → q_isC (q_PC S (i + 1) x) (f x)) ∧ (1 + j ≤ x → q_isC (q_PC S i x) (f x)))
      (fun t => ∃ g, t = Sum.inl (nI (i + 1), g) ∧ ∀ x, x < 256 → (x &&& z) = x → q_isC (q_PC S (i + 1) x) (g x)) z (by omega) (by
      rintro j w hj ⟨f, rfl, hf⟩
      obtain ⟨x, hx⟩ : ∃ x, x = 1 + j := ⟨_, rfl⟩
      have hx1 : 1 + (j + 1) = x + 1 := by omega
      rw [← hx] at hf ⊢
      rw [hx1]
      have hy := q_mi_le x (S i)
      have hxin : vp_in (nI x) 256 := vp_in_nI (by omega) (by decide)
      have hyin : vp_in (nI (q_mi x (S i))) 256 := vp_in_nI (by omega) (by decide)
      have keep : ∀ v, (∀ l, l < 256 → (l &&& z) = l → l = x → q_isC (q_PC S (i + 1) x) v) → ∃ w', some (Sum.inl (nI (x + 1), upd f x v)) = some (Sum.inl w' : (Int32 × (Nat → Int32)) ⊕ ((Int32 × (Nat → Int32)) ⊕ (Int32 × (Nat → Int32)))) ∧ ∃ f, w' = (nI (x + 1), f) ∧ ∀ l, l < 256 → (l &&& z) = l → (l < x + 1 → q_isC (q_PC S (i + 1) l) (f l)) ∧ (x + 1 ≤ l → q_isC (q_PC S i l) (f l)) := fun v hv => by
        refine ⟨_, rfl, _, rfl, fun l hl hlz => ⟨fun h => ?_, fun h => ?_⟩⟩
        · by_cases c : l = x
          · subst c; rw [pk_us]; exact hv l hl hlz rfl
          · rw [pk_un c]; exact (hf l hl hlz).1 (by omega)
        · rw [pk_un (by omega)]; exact (hf l hl hlz).2 (by omega)
      have same : upd f x (f x) = f := by
        funext l
        by_cases c : l = x
        · subst c; rw [pk_us]
        · rw [pk_un c]
      left
      show ∃ w', L_X8_fewestOpening_41 (nI z) (nI i) (nI (65536 + 2 ^ i)) (nI k) sets (nI x) f = some (Sum.inl w') ∧ _
      rw [L_X8_fewestOpening_41, if_neg (nI_nlt (by omega) (by omega)), ix_in hin, nI_clamp (by omega), hs i hi, q_mi_I, ix_in hyin, nI_clamp (by omega), nI_1]
      by_cases hxz : (x &&& z) = x
      · rw [if_pos ((q_sub (by omega)).mpr hxz)]
        have ha : q_isC (q_PC S i x) (f x) := (hf x (by omega) hxz).2 (Nat.le_refl x)
        have hb : q_isC (q_PC S i (q_mi x (S i))) (f (q_mi x (S i))) := by
          have h1 := hf (q_mi x (S i)) (by omega) (q_subs_mi hxz)
          rcases Nat.lt_or_ge (q_mi x (S i)) x with h2 | h2
          · exact (q_isC_st (q_mi_mi x (S i))).mp (h1.1 h2)
          · exact h1.2 h2
        obtain ⟨u1, u2⟩ := q_isC_up hk hS hi ha hb
        by_cases c1 : f (q_mi x (S i)) = 1073741824
        · rw [if_pos c1, ← same]
          exact keep (f x) (fun l hl hlz hlx => u1 c1)
        · rw [if_neg c1, ix_in hxin, nI_clamp (by omega)]
          by_cases c2 : f x ≤ f (q_mi x (S i)) + nI (65536 + 2 ^ i)
          · rw [if_pos c2, ← same]
            exact keep (f x) (fun l hl hlz hlx => (u2 c1).1 c2)
          · rw [if_neg c2, ix_in hxin]
            exact keep _ (fun l hl hlz hlx => (u2 c1).2 c2)
      · rw [if_neg (fun h => hxz ((q_sub (by omega)).mp h)), ← same]
        exact keep (f x) (fun l hl hlz hlx => absurd (by rw [← hlx]; exact hlz) hxz)) (by
      rintro w ⟨f, rfl, hf⟩
      refine ⟨_, ?_, f, rfl, fun x hx hxz => ?_⟩
      · show L_X8_fewestOpening_41 (nI z) (nI i) (nI (65536 + 2 ^ i)) (nI k) sets (nI (1 + z)) f = _
        rw [L_X8_fewestOpening_41, if_pos (nI_lt (by omega) (by omega)), nI_1]
        rfl
      · have : x ≤ z := by rw [← hxz]; exact Nat.and_le_right
        exact (hf x hx hxz).1 (by omega)) ((1 : Int32), f) ⟨f, rfl, fun x hx hxz => ⟨fun h => by
        have : x = 0 := by omega
        subst this
        refine (q_isC_st ?_).mpr (hf 0 hx hxz)
        have := q_mi_le 0 (S i)
        omega, fun _ => hf x hx hxz⟩⟩
    exact ⟨g, et, hg⟩
  obtain ⟨f1, ef1, hf1⟩ := q_fill32 (n := 256) (by decide) f0 1073741824
  obtain ⟨t, et, v, g, hv, rfl⟩ := lp_invK (body := fun w : Int32 × (Nat → Int32) => L_X8_fewestOpening_19 (nI z) (nI k) sets w.1 w.2)
    (fun i w => ∃ f, w = (nI i, f) ∧ ∀ x, x < 256 → (x &&& z) = x → q_isC (q_PC S i x) (f x)) (fun t => ∃ v g, q_isC (q_PC S k z) v ∧ t = (if v = 1073741824 then (-1 : Int32) else v, g)) k (by omega) (by
    rintro i w hi ⟨f, rfl, hf⟩
    obtain ⟨g, eg, hg⟩ := inner i hi f hf
    refine Or.inl ⟨(nI (i + 1), g), ?_, g, rfl, hg⟩
    show L_X8_fewestOpening_19 (nI z) (nI k) sets (nI i) f = _
    rw [L_X8_fewestOpening_19, if_neg (nle hi (by omega)), pw1 i (by omega), show (65536 : Int32) = nI 65536 from rfl, nI_add]
    exact eg) (by
    rintro w ⟨f, rfl, hf⟩
    have hzin : vp_in (nI z) 256 := vp_in_nI (by omega) (by decide)
    refine ⟨_, ?_, f z, f, hf z hz (Nat.and_self z), rfl⟩
    show L_X8_fewestOpening_19 (nI z) (nI k) sets (nI k) f = _
    rw [L_X8_fewestOpening_19, if_pos (nI_le (Nat.le_refl k) (by omega)), ix_in hzin, nI_clamp (by omega), ix_in hzin]
    by_cases c : f z = 1073741824
    · rw [if_pos c, if_pos c]; rfl
    · rw [if_neg c, if_neg c]; rfl) ((0 : Int32), upd f1 0 0) ⟨upd f1 0 0, rfl, fun x hx hxz => by
      by_cases c : x = 0
      · subst c
        rw [pk_us]
        exact Or.inr ⟨0, ⟨0, ⟨rfl, rfl⟩, rfl⟩, rfl, fun e' _ => Nat.zero_le e'⟩
      · rw [pk_un c, hf1 x hx]
        refine Or.inl ⟨rfl, fun e he => ?_⟩
        obtain ⟨d, ⟨hd, -⟩, h2⟩ := he
        rw [hd, Nat.and_zero] at h2
        exact c h2.symm⟩
  refine ⟨v, g, hv, ?_⟩
  rw [M_X8_fewestOpening, ef1, ob, ix_in (show vp_in (0 : Int32) 256 from vp_in_nI (n := 0) (by decide) (by decide))]
  exact et
/-! the reference -/
def q_isR (P : Nat → Prop) (a b : Int32) : Prop := (a = -1 ∧ ∀ e, ¬ P e) ∨ ∃ e, P e ∧ a = nI (e / 65536) ∧ b = nI (e % 65536) ∧ ∀ e', P e' → e ≤ e'
def q_Pt (S : Nat → Nat) (i y t e : Nat) : Prop := q_E S i t e ∨ ∃ c' e', y ≤ c' ∧ q_E S i c' e' ∧ t = c' ||| S i ∧ e = e' + (65536 + 2 ^ i)
theorem q_isR_cg {P Q : Nat → Prop} {a b : Int32} (h : q_isR P a b) (hq : ∀ e, P e ↔ Q e) : q_isR Q a b := by
  rcases h with ⟨h1, h2⟩ | ⟨e, h1, h2, h3, h4⟩
  · exact Or.inl ⟨h1, fun e he => h2 e ((hq e).mpr he)⟩
  · exact Or.inr ⟨e, (hq e).mp h1, h2, h3, fun e' he' => h4 e' ((hq e').mpr he')⟩
theorem q_or_ge (a b : Nat) : a ≤ a ||| b := Nat.left_le_or
theorem q_cvR1 (hk : k ≤ 16) (hS : ∀ j, j < k → S j < 256) {box : Nat → Int32} (hs : ∀ j, j < k → box j = nI (S j)) {i : Nat} (hi : i < k) {x : Nat} (hx : x < 256) {f g : Nat → Int32} (hfg : ∀ t, t < 256 → q_isR (q_Pt S i (x + 1) t) (f t) (g t)) :
    ∃ f' g', L_X9_covers_51 (nI i) (nI k) box (nI x) f g = some (Sum.inl (nI x + (-1), f', g')) ∧ ∀ t, t < 256 → q_isR (q_Pt S i x t) (f' t) (g' t) := by
  have hin : vp_in (nI i) 16 := vp_in_nI (by omega) (by decide)
  have hxin : vp_in (nI x) 256 := vp_in_nI (by omega) (by decide)
  have hto : x ||| S i < 256 := q_or_lt hx (hS i hi)
  have htin : vp_in (nI (x ||| S i)) 256 := vp_in_nI (by omega) (by decide)
  have hp2 : 2 ^ i ≤ 2 ^ 15 := Nat.pow_le_pow_right (by decide) (by omega)
  have hPx : ∀ e, q_Pt S i (x + 1) x e ↔ q_E S i x e := fun e => by
    constructor
    · rintro (h | ⟨c', e', h1, h2, h3, h4⟩)
      · exact h
      · have := q_or_ge c' (S i)
        omega
    · exact Or.inl
  have hsrc := q_isR_cg (hfg x hx) hPx
  have hPo : ∀ t, t ≠ x ||| S i → ∀ e, q_Pt S i (x + 1) t e ↔ q_Pt S i x t e := fun t ht e => by
    constructor
    · rintro (h | ⟨c', e', h1, h2, h3, h4⟩)
      · exact Or.inl h
      · exact Or.inr ⟨c', e', by omega, h2, h3, h4⟩
    · rintro (h | ⟨c', e', h1, h2, h3, h4⟩)
      · exact Or.inl h
      · refine Or.inr ⟨c', e', ?_, h2, h3, h4⟩
        rcases Nat.lt_or_ge x c' with h5 | h5
        · exact h5
        · have : c' = x := by omega
          rw [this] at h3
          exact absurd h3 ht
  have hPt : ∀ e, q_Pt S i x (x ||| S i) e ↔ q_Pt S i (x + 1) (x ||| S i) e ∨ ∃ e', q_E S i x e' ∧ e = e' + (65536 + 2 ^ i) := fun e => by
    constructor
    · rintro (h | ⟨c', e', h1, h2, h3, h4⟩)
      · exact Or.inl (Or.inl h)
      · rcases Nat.lt_or_ge x c' with h5 | h5
        · exact Or.inl (Or.inr ⟨c', e', h5, h2, h3, h4⟩)
        · have : c' = x := by omega
          rw [this] at h2
          exact Or.inr ⟨e', h2, h4⟩
    · rintro ((h | ⟨c', e', h1, h2, h3, h4⟩) | ⟨e', h1, h2⟩)
      · exact Or.inl h
      · exact Or.inr ⟨c', e', by omega, h2, h3, h4⟩
      · exact Or.inr ⟨x, e', Nat.le_refl x, h1, rfl, h2⟩
  have he1 : nI x ||| nI (S i) = nI (x ||| S i) := by
    apply b_ext
    intro j hj
    rw [b_or, q_nIbt _ hj, q_nIbt _ hj, q_nIbt _ hj, Nat.testBit_or]
  rw [L_X9_covers_51, if_neg (nI_pos (by omega)), ix_in hin, ix_in hxin, ix_in hxin, ix_in hxin, nI_clamp (by omega), nI_clamp (by omega), hs i hi, he1]
  rcases hsrc with ⟨s1, s2⟩ | ⟨es, s1, s2, s3, s4⟩
  · rw [if_pos s1]
    refine ⟨f, g, rfl, fun t ht => ?_⟩
    by_cases c : t = x ||| S i
    · subst c
      refine q_isR_cg (hfg _ ht) (fun e => ?_)
      rw [hPt]
      constructor
      · exact Or.inl
      · rintro (h | ⟨e', h, -⟩)
        · exact h
        · exact absurd h (s2 e')
    · exact q_isR_cg (hfg t ht) (hPo t c)
  · obtain ⟨b1, b2, b3⟩ := q_E_b hk hS i (by omega) x es s1
    have hnm : ¬ f x = (-1 : Int32) := by rw [s2]; exact q_nm1 (by omega)
    rw [if_neg hnm, ix_in htin, nI_clamp (by omega), ix_in htin, ix_in htin, ix_in htin]
    have ew : f x + 1 = nI ((es + (65536 + 2 ^ i)) / 65536) := by
      rw [s2, nI_1]
      congr 1
      generalize 2 ^ i = p at hp2 b3 ⊢
      omega
    have es' : g x ||| ((1 : Int32) <<< (nI i &&& 31)) = nI ((es + (65536 + 2 ^ i)) % 65536) := by
      rw [s3, pw1 i (by omega)]
      have h1 : (es + (65536 + 2 ^ i)) % 65536 = 2 ^ i * 1 + es % 65536 := by
        generalize 2 ^ i = p at hp2 b3 ⊢
        omega
      rw [h1]
      apply b_ext
      intro j hj
      rw [b_or, q_nIbt _ hj, q_nIbt _ hj, q_nIbt _ hj, Nat.testBit_two_pow_mul_add 1 b3, Nat.testBit_two_pow]
      by_cases c1 : j < i
      · rw [if_pos c1, decide_eq_false (by omega), Bool.or_false]
      · rw [if_neg c1]
        have h2 : (es % 65536).testBit j = false := Nat.testBit_lt_two_pow (Nat.lt_of_lt_of_le b3 (Nat.pow_le_pow_right (by decide) (by omega)))
        rw [h2, Bool.false_or]
        by_cases c2 : i = j
        · subst c2; rw [Nat.sub_self]; simp
        · obtain ⟨u, hu⟩ : ∃ u, j - i = u + 1 := ⟨j - i - 1, by omega⟩
          rw [hu, Nat.testBit_succ, decide_eq_false c2]
          exact (Nat.zero_testBit u).symm
    rw [ew, es']
    have hB : ∀ f g, B_X9_covers_139 (nI i) (nI x) (nI (x ||| S i)) (nI ((es + (65536 + 2 ^ i)) / 65536)) (nI ((es + (65536 + 2 ^ i)) % 65536)) (nI k) box f g = some (Sum.inl (nI x + (-1), upd f (x ||| S i) (nI ((es + (65536 + 2 ^ i)) / 65536)), upd g (x ||| S i) (nI ((es + (65536 + 2 ^ i)) % 65536)))) := fun f g => by
      rw [B_X9_covers_139, ix_in htin, ix_in htin, nI_clamp (by omega)]
    rw [hB]
    have taken : (∀ e, q_Pt S i (x + 1) (x ||| S i) e → es + (65536 + 2 ^ i) ≤ e) → ∃ f' g', some (Sum.inl (nI x + (-1), upd f (x ||| S i) (nI ((es + (65536 + 2 ^ i)) / 65536)), upd g (x ||| S i) (nI ((es + (65536 + 2 ^ i)) % 65536)))) = some (Sum.inl (nI x + (-1), f', g') : (Int32 × (Nat → Int32) × (Nat → Int32)) ⊕ ((Int32 × (Nat → Int32) × (Nat → Int32)) ⊕ ((Nat → Int32) × (Nat → Int32)))) ∧ ∀ t, t < 256 → q_isR (q_Pt S i x t) (f' t) (g' t) := fun hle => by
      refine ⟨_, _, rfl, fun t ht => ?_⟩
      by_cases c : t = x ||| S i
      · subst c
        rw [pk_us, pk_us]
        refine Or.inr ⟨_, (hPt _).mpr (Or.inr ⟨es, s1, rfl⟩), rfl, rfl, fun e he => ?_⟩
        rcases (hPt e).mp he with h | ⟨e', h, rfl⟩
        · exact hle e h
        · have := s4 e' h
          omega
      · rw [pk_un c, pk_un c]; exact q_isR_cg (hfg t ht) (hPo t c)
    have kept : ∀ et, q_Pt S i (x + 1) (x ||| S i) et → f (x ||| S i) = nI (et / 65536) → g (x ||| S i) = nI (et % 65536) → (∀ e, q_Pt S i (x + 1) (x ||| S i) e → et ≤ e) → et ≤ es + (65536 + 2 ^ i) → ∃ f' g', some (Sum.inl (nI x + (-1), f, g)) = some (Sum.inl (nI x + (-1), f', g') : (Int32 × (Nat → Int32) × (Nat → Int32)) ⊕ ((Int32 × (Nat → Int32) × (Nat → Int32)) ⊕ ((Nat → Int32) × (Nat → Int32)))) ∧ ∀ t, t < 256 → q_isR (q_Pt S i x t) (f' t) (g' t) := fun et h1 h2 h3 h4 h5 => by
      refine ⟨f, g, rfl, fun t ht => ?_⟩
      by_cases c : t = x ||| S i
      · subst c
        refine Or.inr ⟨et, (hPt _).mpr (Or.inl h1), h2, h3, fun e he => ?_⟩
        rcases (hPt e).mp he with h | ⟨e', h, rfl⟩
        · exact h4 e h
        · have := s4 e' h
          omega
      · exact q_isR_cg (hfg t ht) (hPo t c)
    rcases hfg _ hto with ⟨t1, t2⟩ | ⟨et, t1, t2, t3, t4⟩
    · rw [if_pos t1]
      exact taken (fun e he => absurd he (t2 e))
    · have hb : et / 65536 ≤ 17 := by
        rcases t1 with h | ⟨c', e', h1, h2, h3, h4⟩
        · have := (q_E_b hk hS i (by omega) _ et h).2.1
          omega
        · obtain ⟨u1, u2, u3⟩ := q_E_b hk hS i (by omega) c' e' h2
          rw [h4]
          generalize 2 ^ i = p at hp2 u3 ⊢
          omega
      have hb2 : (es + (65536 + 2 ^ i)) / 65536 ≤ 18 := by
        generalize 2 ^ i = p at hp2 b3 ⊢
        omega
      generalize es + (65536 + 2 ^ i) = en at *
      rw [if_neg (by rw [t2]; exact q_nm1 (by omega)), t2, t3]
      by_cases c1 : en / 65536 < et / 65536
      · rw [if_pos (nI_lt c1 (by omega))]
        exact taken (fun e he => by have := t4 e he; omega)
      · rw [if_neg (nI_nlt (by omega) (by omega))]
        by_cases c2 : en / 65536 = et / 65536
        · rw [if_pos (by rw [c2])]
          by_cases c3 : et % 65536 ≤ en % 65536
          · rw [if_pos (nI_le c3 (by omega))]
            exact kept et t1 t2 t3 t4 (by omega)
          · rw [if_neg (nle (by omega) (by omega))]
            exact taken (fun e he => by have := t4 e he; omega)
        · rw [if_neg (fun h => c2 ((nI_eq (by omega) (by omega)).mp h))]
          exact kept et t1 t2 t3 t4 (by omega)
end OP
