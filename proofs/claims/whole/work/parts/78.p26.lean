/-! The reference's way through all sets -/
def q_ins (S : Nat → Bool) (k : Nat) (j : Nat) : Bool := S j || j == k
theorem q_insm (S : Nat → Bool) {m k : Nat} (hm : m ≤ 32) (hk : k < m) : q_mk S m ||| ((1 : Int32) <<< (nI k &&& 31)) = q_mk (q_ins S k) m := q_add S hm hk
theorem q_del (P : Nat → Bool) {m k : Nat} (hm : m ≤ 32) (hk : k < 32) : q_mk P m &&& (((1 : Int32) <<< (nI k &&& 31)) ^^^ (-1 : Int32)) = q_mk (fun j => P j && !(j == k)) m := by
  apply q_of hm
  intro j hj
  rw [b_and, b_not _ hj, q_bt P hm, q_one hk hj]
  by_cases c : j = k
  · subst c; simp
  · rw [decide_eq_false c, show (j == k) = false from beq_eq_false_iff_ne.mpr c]; simp
abbrev Q8 : Type := Int32 × Int32 × Int32 × Int32 × Int32 × Int32 × Int32 × Int32
abbrev Q12 : Type := Int32 × Int32 × Int32 × Int32 × Int32 × Int32 × Int32 × Int32 × Int32 × Int32 × (Nat → Int32) × (Nat → Int32)
def q_z (x k : Int32) (a : Q8) (may steps : Nat → Int32) : Q12 := (x, k, a.1, a.2.1, a.2.2.1, a.2.2.2.1, a.2.2.2.2.1, a.2.2.2.2.2.1, a.2.2.2.2.2.2.1, a.2.2.2.2.2.2.2, may, steps)
def q_go {α : Type} (st : Nat → (Nat → Bool) → (Nat → Bool) → Nat → Bool) (W : Nat → Bool) (leaf : (Nat → Bool) → (Nat → Bool) → α → α) : Nat → Nat → (Nat → Bool) → (Nat → Bool) → α → α
  | 0, _, S, M, a => leaf S M a
  | d + 1, k, S, M, a => if W k = true then (if M k = true then q_go st W leaf d (k + 1) (q_ins S k) (st k S M) a else a) else q_go st W leaf d (k + 1) S M (if M k = true then q_go st W leaf d (k + 1) (q_ins S k) (st k S M) a else a)
def q_rn {σ τ : Type} (body : σ → Option (σ ⊕ τ)) (t : Nat) (z z' : σ) : Prop := ∀ n, lpN body (n + t) z = lpN body n z'
theorem q_rn1 {σ τ : Type} {body : σ → Option (σ ⊕ τ)} {z z' : σ} (h : body z = some (.inl z')) : q_rn body 1 z z' := fun n => lpS n h
theorem q_rnt {σ τ : Type} {body : σ → Option (σ ⊕ τ)} {z z' z'' : σ} {t u : Nat} (h : q_rn body t z z') (g : q_rn body u z' z'') : q_rn body (t + u) z z'' := fun n => by
  rw [show n + (t + u) = n + u + t by omega, h, g]
section GO
variable {L m : Nat} {p2 ft : Int32} {bars near worth : Nat → Int32} {st : Nat → (Nat → Bool) → (Nat → Bool) → Nat → Bool} {W : Nat → Bool} {leaf : (Nat → Bool) → (Nat → Bool) → Q8 → Q8}
theorem q_g1 (hm : m ≤ 16) (hst : ∀ k S M, k < m → M_X9_still (nI m) bars near (nI L) (nI k) (q_mk S m) (q_mk M m) = some (q_mk (st k S M) m)) {k : Nat} (hk : k < m) {S M : Nat → Bool} {p1 : Int32} {a : Q8} {may steps : Nat → Int32} (hs : steps k = 0) (hM : may k = q_mk M m) (h : M k = true) :
    L_X9_goThrough_54 (nI L) p1 p2 ft (nI m) bars near worth (q_mk S m) (nI k) a.1 a.2.1 a.2.2.1 a.2.2.2.1 a.2.2.2.2.1 a.2.2.2.2.2.1 a.2.2.2.2.2.2.1 a.2.2.2.2.2.2.2 may steps = some (Sum.inl (q_z (q_mk (q_ins S k) m) (nI (k + 1)) a (upd may (k + 1) (q_mk (st k S M) m)) (upd (upd steps k 1) (k + 1) 0))) := by
  have h17 : vp_in (nI k) 17 := vp_in_nI (by omega) (by decide)
  have h17' : vp_in (nI (k + 1)) 17 := vp_in_nI (by omega) (by decide)
  rw [L_X9_goThrough_54, if_neg (nI_pos (by omega)), if_neg (fun c => absurd ((nI_eq (by omega) (by omega)).mp c) (by omega)), ix_in h17, ix_in h17, ix_in h17, nI_clamp (by omega), pk_us, hs, if_pos (show (0 : Int32) + 1 = 1 from rfl), ix_in h17, hM, if_pos ((q_hasR1 _ (by omega)).mpr (by rw [q_bt _ (by omega), decide_eq_true hk, h]; rfl)), ix_in h17, hst k S M hk, ob, nI_1, ix_in h17', B_X9_goThrough_223, if_neg (show ¬ (1 : Int32) = 0 by decide), nI_1, ix_in h17', nI_clamp (by omega), q_insm S (by omega) hk]
  rfl
theorem q_g0 (hm : m ≤ 16) {k : Nat} (hk : k < m) {x : Int32} {M : Nat → Bool} {p1 : Int32} {a : Q8} {may steps : Nat → Int32} (hs : steps k = 0) (hM : may k = q_mk M m) (h : M k = false) :
    L_X9_goThrough_54 (nI L) p1 p2 ft (nI m) bars near worth x (nI k) a.1 a.2.1 a.2.2.1 a.2.2.2.1 a.2.2.2.2.1 a.2.2.2.2.2.1 a.2.2.2.2.2.2.1 a.2.2.2.2.2.2.2 may steps = some (Sum.inl (q_z x (nI k) a may (upd steps k 1))) := by
  have h17 : vp_in (nI k) 17 := vp_in_nI (by omega) (by decide)
  rw [L_X9_goThrough_54, if_neg (nI_pos (by omega)), if_neg (fun c => absurd ((nI_eq (by omega) (by omega)).mp c) (by omega)), ix_in h17, ix_in h17, ix_in h17, nI_clamp (by omega), pk_us, hs, if_pos (show (0 : Int32) + 1 = 1 from rfl), ix_in h17, hM, if_neg (fun c => by
    have := (q_hasR1 _ (by omega)).mp c
    rw [q_bt _ (by omega), h, Bool.and_false] at this; cases this), B_X9_goThrough_169, ix_in h17, nI_clamp (by omega), pk_us, if_neg (show ¬ (0 : Int32) + 1 = 2 by decide), B_X9_goThrough_223, if_pos rfl, ix_in h17, nI_clamp (by omega), pk_us, if_pos (show (0 : Int32) + 1 ≤ 1 by decide)]
  rfl
theorem q_g2 (hm : m ≤ 16) {k : Nat} (hk : k < m) {P : Nat → Bool} {a : Q8} {may steps : Nat → Int32} (hs : steps k = 1) (h : W k = false) :
    L_X9_goThrough_54 (nI L) (q_mk W m) p2 ft (nI m) bars near worth (q_mk P m) (nI k) a.1 a.2.1 a.2.2.1 a.2.2.2.1 a.2.2.2.2.1 a.2.2.2.2.2.1 a.2.2.2.2.2.2.1 a.2.2.2.2.2.2.2 may steps = some (Sum.inl (q_z (q_mk (fun j => P j && !(j == k)) m) (nI (k + 1)) a (upd may (k + 1) (may k)) (upd (upd steps k 2) (k + 1) 0))) := by
  have h17 : vp_in (nI k) 17 := vp_in_nI (by omega) (by decide)
  have h17' : vp_in (nI (k + 1)) 17 := vp_in_nI (by omega) (by decide)
  rw [L_X9_goThrough_54, if_neg (nI_pos (by omega)), if_neg (fun c => absurd ((nI_eq (by omega) (by omega)).mp c) (by omega)), ix_in h17, ix_in h17, ix_in h17, nI_clamp (by omega), pk_us, hs, if_neg (show ¬ (1 : Int32) + 1 = 1 by decide), B_X9_goThrough_169, ix_in h17, nI_clamp (by omega), pk_us, if_pos (show (1 : Int32) + 1 = 2 from rfl), ix_in h17, nI_1, ix_in h17', if_pos ((q_hasR0 _ (by omega)).mpr (by rw [q_bt _ (by omega), h, Bool.and_false])), B_X9_goThrough_221, B_X9_goThrough_223, if_neg (show ¬ (1 : Int32) = 0 by decide), nI_1, ix_in h17', nI_clamp (by omega), q_del P (by omega) (by omega)]
  rfl
theorem q_g2w (hm : m ≤ 16) {k : Nat} (hk : k < m) {P : Nat → Bool} {a : Q8} {may steps : Nat → Int32} (hs : steps k = 1) (h : W k = true) :
    L_X9_goThrough_54 (nI L) (q_mk W m) p2 ft (nI m) bars near worth (q_mk P m) (nI k) a.1 a.2.1 a.2.2.1 a.2.2.2.1 a.2.2.2.2.1 a.2.2.2.2.2.1 a.2.2.2.2.2.2.1 a.2.2.2.2.2.2.2 may steps = some (Sum.inl (q_z (q_mk (fun j => P j && !(j == k)) m) (nI k + (-1)) a (upd may (k + 1) (may k)) (upd steps k 2))) := by
  have h17 : vp_in (nI k) 17 := vp_in_nI (by omega) (by decide)
  have h17' : vp_in (nI (k + 1)) 17 := vp_in_nI (by omega) (by decide)
  rw [L_X9_goThrough_54, if_neg (nI_pos (by omega)), if_neg (fun c => absurd ((nI_eq (by omega) (by omega)).mp c) (by omega)), ix_in h17, ix_in h17, ix_in h17, nI_clamp (by omega), pk_us, hs, if_neg (show ¬ (1 : Int32) + 1 = 1 by decide), B_X9_goThrough_169, ix_in h17, nI_clamp (by omega), pk_us, if_pos (show (1 : Int32) + 1 = 2 from rfl), ix_in h17, nI_1, ix_in h17', if_neg (fun c => by
    have := (q_hasR0 _ (by omega)).mp c
    rw [q_bt _ (by omega), decide_eq_true hk, h] at this; cases this), B_X9_goThrough_221, B_X9_goThrough_223, if_pos rfl, ix_in h17, nI_clamp (by omega), pk_us, if_neg (show ¬ (1 : Int32) + 1 ≤ 1 by decide), nI_clamp (by omega), q_del P (by omega) (by omega)]
  rfl
theorem q_g3 (hm : m ≤ 16) {k : Nat} (hk : k < m) {x p1 : Int32} {a : Q8} {may steps : Nat → Int32} (hs : steps k = 2) :
    L_X9_goThrough_54 (nI L) p1 p2 ft (nI m) bars near worth x (nI k) a.1 a.2.1 a.2.2.1 a.2.2.2.1 a.2.2.2.2.1 a.2.2.2.2.2.1 a.2.2.2.2.2.2.1 a.2.2.2.2.2.2.2 may steps = some (Sum.inl (q_z x (nI k + (-1)) a may (upd steps k 3))) := by
  have h17 : vp_in (nI k) 17 := vp_in_nI (by omega) (by decide)
  rw [L_X9_goThrough_54, if_neg (nI_pos (by omega)), if_neg (fun c => absurd ((nI_eq (by omega) (by omega)).mp c) (by omega)), ix_in h17, ix_in h17, ix_in h17, nI_clamp (by omega), pk_us, hs, if_neg (show ¬ (2 : Int32) + 1 = 1 by decide), B_X9_goThrough_169, ix_in h17, nI_clamp (by omega), pk_us, if_neg (show ¬ (2 : Int32) + 1 = 2 by decide), B_X9_goThrough_223, if_pos rfl, ix_in h17, nI_clamp (by omega), pk_us, if_neg (show ¬ (2 : Int32) + 1 ≤ 1 by decide)]
  rfl
theorem q_gm (hm : m ≤ 16) (hmt : ∀ (a : Q8) S M, M_X9_meets a.1 (nI m) a.2.1 a.2.2.1 a.2.2.2.1 a.2.2.2.2.1 a.2.2.2.2.2.1 a.2.2.2.2.2.2.1 a.2.2.2.2.2.2.2 worth (q_mk S m) (q_mk M m) p2 = some (leaf S M a)) {S M : Nat → Bool} {p1 : Int32} {a : Q8} {may steps : Nat → Int32} (hM : may m = q_mk M m) :
    L_X9_goThrough_54 (nI L) p1 p2 ft (nI m) bars near worth (q_mk S m) (nI m) a.1 a.2.1 a.2.2.1 a.2.2.2.1 a.2.2.2.2.1 a.2.2.2.2.2.1 a.2.2.2.2.2.2.1 a.2.2.2.2.2.2.2 may steps = some (Sum.inl (q_z (q_mk S m) (nI m + (-1)) (leaf S M a) may steps)) := by
  have h17 : vp_in (nI m) 17 := vp_in_nI (by omega) (by decide)
  rw [L_X9_goThrough_54, if_neg (nI_pos (by omega)), if_pos rfl, ix_in h17, nI_clamp (by omega), hM, hmt, ob]
  rfl
def q_bd (p0 p1 p2 ft items : Int32) (bars near worth : Nat → Int32) : Q12 → Option (Q12 ⊕ (Int32 × Int32 × Int32 × Int32 × Int32 × Int32 × Int32 × Int32 × (Nat → Int32) × (Nat → Int32))) :=
  fun z => L_X9_goThrough_54 p0 p1 p2 ft items bars near worth z.1 z.2.1 z.2.2.1 z.2.2.2.1 z.2.2.2.2.1 z.2.2.2.2.2.1 z.2.2.2.2.2.2.1 z.2.2.2.2.2.2.2.1 z.2.2.2.2.2.2.2.2.1 z.2.2.2.2.2.2.2.2.2.1 z.2.2.2.2.2.2.2.2.2.2.1 z.2.2.2.2.2.2.2.2.2.2.2
theorem q_goL (hm : m ≤ 16) (hst : ∀ k S M, k < m → M_X9_still (nI m) bars near (nI L) (nI k) (q_mk S m) (q_mk M m) = some (q_mk (st k S M) m)) (hmt : ∀ (a : Q8) S M, M_X9_meets a.1 (nI m) a.2.1 a.2.2.1 a.2.2.2.1 a.2.2.2.2.1 a.2.2.2.2.2.1 a.2.2.2.2.2.2.1 a.2.2.2.2.2.2.2 worth (q_mk S m) (q_mk M m) p2 = some (leaf S M a)) :
    ∀ (d k : Nat) (S M : Nat → Bool) (a : Q8) (may steps : Nat → Int32), k + d = m → (∀ j, k ≤ j → S j = false) → may k = q_mk M m → steps k = 0 →
    ∃ t may' steps', t + 3 ≤ 4 * 2 ^ d ∧ q_rn (q_bd (nI L) (q_mk W m) p2 ft (nI m) bars near worth) t (q_z (q_mk S m) (nI k) a may steps) (q_z (q_mk S m) (nI k + (-1)) (q_go st W leaf d k S M a) may' steps') ∧ ∀ j, j < k → may' j = may j ∧ steps' j = steps j := by
  intro d
  induction d with
  | zero =>
    intro k S M a may steps hkd hS hM hs
    have hk : k = m := by omega
    subst hk
    exact ⟨1, may, steps, by decide, q_rn1 (q_gm hm hmt hM), fun j _ => ⟨rfl, rfl⟩⟩
  | succ d ih =>
    intro k S M a may steps hkd hS hM hs
    have hk : k < m := by omega
    have hp : 2 ^ (d + 1) = 2 * 2 ^ d := by rw [Nat.pow_succ, Nat.mul_comm]
    have mid : ∃ t P may2 steps2, t + 2 ≤ 4 * 2 ^ d ∧ q_rn (q_bd (nI L) (q_mk W m) p2 ft (nI m) bars near worth) t (q_z (q_mk S m) (nI k) a may steps) (q_z (q_mk P m) (nI k) (if M k = true then q_go st W leaf d (k + 1) (q_ins S k) (st k S M) a else a) may2 steps2) ∧ may2 k = q_mk M m ∧ steps2 k = 1 ∧ (∀ j, j < k → may2 j = may j ∧ steps2 j = steps j) ∧ ∀ j, j < m → (P j && !(j == k)) = S j := by
      cases h : M k with
      | false =>
        rw [if_neg (by decide)]
        refine ⟨1, S, may, upd steps k 1, by have : 1 ≤ 2 ^ d := Nat.one_le_two_pow; omega, q_rn1 (q_g0 hm hk hs hM h), hM, pk_us, fun j hj => ⟨rfl, pk_un (by omega)⟩, fun j _ => ?_⟩
        by_cases c : j = k
        · subst c; rw [hS j (Nat.le_refl j)]; rfl
        · rw [show (j == k) = false from beq_eq_false_iff_ne.mpr c]; simp
      | true =>
        rw [if_pos rfl]
        obtain ⟨t, may2, steps2, ht, hr, hj⟩ := ih (k + 1) (q_ins S k) (st k S M) a (upd may (k + 1) (q_mk (st k S M) m)) (upd (upd steps k 1) (k + 1) 0) (by omega) (fun j hj => by
          rw [q_ins, hS j (by omega), show (j == k) = false from beq_eq_false_iff_ne.mpr (by omega)]; rfl) pk_us pk_us
        rw [pk_m1] at hr
        refine ⟨1 + t, q_ins S k, may2, steps2, by omega, q_rnt (q_rn1 (q_g1 hm hst hk hs hM h)) hr, ?_, ?_, fun j hj2 => ?_, fun j _ => ?_⟩
        · rw [(hj k (by omega)).1, pk_un (by omega)]; exact hM
        · rw [(hj k (by omega)).2, pk_un (by omega)]; exact pk_us
        · rw [(hj j (by omega)).1, (hj j (by omega)).2, pk_un (by omega), pk_un (by omega), pk_un (by omega)]
          exact ⟨rfl, rfl⟩
        · unfold q_ins
          by_cases c : j = k
          · subst c; rw [hS j (Nat.le_refl j)]; simp
          · rw [show (j == k) = false from beq_eq_false_iff_ne.mpr c]; simp
    obtain ⟨t, P, may2, steps2, ht, hr, hM2, hs2, hj2, hP⟩ := mid
    have eP : q_mk (fun j => P j && !(j == k)) m = q_mk S m := q_mkcg hP
    rw [q_go]
    generalize (if M k = true then q_go st W leaf d (k + 1) (q_ins S k) (st k S M) a else a) = a1 at hr
    cases hw : W k with
    | true =>
      rw [if_pos rfl]
      have g := q_g2w (L := L) (p2 := p2) (ft := ft) (bars := bars) (near := near) (worth := worth) (W := W) hm hk (P := P) (a := a1) (may := may2) hs2 hw
      rw [eP] at g
      refine ⟨t + 1, upd may2 (k + 1) (may2 k), upd steps2 k 2, by omega, q_rnt hr (q_rn1 g), fun j hj => ?_⟩
      rw [pk_un (by omega), pk_un (by omega)]
      exact hj2 j hj
    | false =>
      rw [if_neg (by decide)]
      have g := q_g2 (L := L) (p2 := p2) (ft := ft) (bars := bars) (near := near) (worth := worth) (W := W) hm hk (P := P) (a := a1) (may := may2) hs2 hw
      rw [eP] at g
      obtain ⟨u, may3, steps3, hu, hr3, hj3⟩ := ih (k + 1) S M a1 (upd may2 (k + 1) (may2 k)) (upd (upd steps2 k 2) (k + 1) 0) (by omega) (fun j hj => hS j (by omega)) (by rw [pk_us]; exact hM2) pk_us
      rw [pk_m1] at hr3
      have hs3 : steps3 k = 2 := by rw [(hj3 k (by omega)).2, pk_un (by omega)]; exact pk_us
      refine ⟨t + 1 + u + 1, may3, upd steps3 k 3, by omega, q_rnt (q_rnt (q_rnt hr (q_rn1 g)) hr3) (q_rn1 (q_g3 hm hk hs3)), fun j hj => ?_⟩
      rw [pk_un (by omega), (hj3 j (by omega)).1, (hj3 j (by omega)).2, pk_un (by omega), pk_un (by omega), pk_un (by omega)]
      exact hj2 j hj
theorem q_goR (hm : m ≤ 16) (hst : ∀ k S M, k < m → M_X9_still (nI m) bars near (nI L) (nI k) (q_mk S m) (q_mk M m) = some (q_mk (st k S M) m)) (hmt : ∀ (a : Q8) S M, M_X9_meets a.1 (nI m) a.2.1 a.2.2.1 a.2.2.2.1 a.2.2.2.2.1 a.2.2.2.2.2.1 a.2.2.2.2.2.2.1 a.2.2.2.2.2.2.2 worth (q_mk S m) (q_mk M m) p2 = some (leaf S M a)) (F : Nat → Bool) (v1 v2 v3 v4 ms rs v5 v6 : Int32) (may steps : Nat → Int32) :
    ∃ may' steps', M_X9_goThrough v1 (q_mk F m) (nI m) v2 v3 v4 ms rs v5 v6 bars may near steps worth (nI L) (q_mk W m) p2 = some ((q_go st W leaf m 0 (fun _ => false) F (16, 0, 0, -1, ms, rs, -1, 0)).1, (q_go st W leaf m 0 (fun _ => false) F (16, 0, 0, -1, ms, rs, -1, 0)).2.1, (q_go st W leaf m 0 (fun _ => false) F (16, 0, 0, -1, ms, rs, -1, 0)).2.2.1, (q_go st W leaf m 0 (fun _ => false) F (16, 0, 0, -1, ms, rs, -1, 0)).2.2.2.1, (q_go st W leaf m 0 (fun _ => false) F (16, 0, 0, -1, ms, rs, -1, 0)).2.2.2.2.1, (q_go st W leaf m 0 (fun _ => false) F (16, 0, 0, -1, ms, rs, -1, 0)).2.2.2.2.2.1, (q_go st W leaf m 0 (fun _ => false) F (16, 0, 0, -1, ms, rs, -1, 0)).2.2.2.2.2.2.1, (q_go st W leaf m 0 (fun _ => false) F (16, 0, 0, -1, ms, rs, -1, 0)).2.2.2.2.2.2.2, may', steps') := by
  obtain ⟨t, may', steps', ht, hr, -⟩ := q_goL (W := W) (ft := q_mk F m) hm hst hmt m 0 (fun _ => false) F (16, 0, 0, -1, ms, rs, -1, 0) (upd may 0 (q_mk F m)) (upd steps 0 0) (by omega) (fun _ _ => rfl) pk_us pk_us
  generalize q_go st W leaf m 0 (fun _ => false) F (16, 0, 0, -1, ms, rs, -1, 0) = A at hr ⊢
  refine ⟨may', steps', ?_⟩
  have h16 : 2 ^ m ≤ 2 ^ 16 := Nat.pow_le_pow_right (by decide) hm
  have h0 : vp_in (0 : Int32) 17 := vp_in_nI (n := 0) (by decide) (by decide)
  have e := hr (fuelK - t)
  rw [show fuelK - t + t = fuelK by unfold fuelK; omega, q_0] at e
  rw [M_X9_goThrough, ix_in h0, ix_in h0]
  refine Eq.trans (show _ = lpN (q_bd (nI L) (q_mk W m) p2 (q_mk F m) (nI m) bars near worth) fuelK (q_z 0 (nI 0) (16, 0, 0, -1, ms, rs, -1, 0) (upd may 0 (q_mk F m)) (upd steps 0 0)) from rfl) (e.trans ?_)
  obtain ⟨n, hn⟩ : ∃ n, fuelK - t = n + 1 := ⟨fuelK - t - 1, by unfold fuelK; omega⟩
  rw [hn]
  unfold lpN
  have ee : q_bd (nI L) (q_mk W m) p2 (q_mk F m) (nI m) bars near worth (q_z 0 (nI 0 + (-1)) A may' steps') = some (Sum.inr (A.1, A.2.1, A.2.2.1, A.2.2.2.1, A.2.2.2.2.1, A.2.2.2.2.2.1, A.2.2.2.2.2.2.1, A.2.2.2.2.2.2.2, may', steps')) := by
    show L_X9_goThrough_54 (nI L) (q_mk W m) p2 (q_mk F m) (nI m) bars near worth 0 (nI 0 + (-1)) A.1 A.2.1 A.2.2.1 A.2.2.2.1 A.2.2.2.2.1 A.2.2.2.2.2.1 A.2.2.2.2.2.2.1 A.2.2.2.2.2.2.2 may' steps' = _
    rw [L_X9_goThrough_54, if_pos (by decide)]
    rfl
  rw [ee]
end GO
