/-! read: the boxes are copied -/
def q_cp (F r : Nat → Int32) : Nat → (Nat → Int32)
  | 0 => F
  | i + 1 => upd (q_cp F r i) i (r i)
theorem q_cp_in (F r : Nat → Int32) : ∀ i j, j < i → q_cp F r i j = r j := by
  intro i
  induction i with
  | zero => intro j hj; omega
  | succ i ih =>
    intro j hj
    rw [q_cp]
    by_cases c : j = i
    · subst c; rw [pk_us]
    · rw [pk_un c, ih j (by omega)]
theorem q_rd {b : Nat} (hb : b ≤ 16) (a1 a2 a4 a5 a6 a7 a8 a9 a10 a11 a12 : Int32) (v : Int64) (rb rq g F W : Nat → Int32) : lpN (fun z : Int32 × (Nat → Int32) × (Nat → Int32) => L_X9_read_49 a1 a2 (nI b) a4 a5 a6 a7 a8 a9 a10 a11 a12 v rb rq g z.1 z.2.1 z.2.2) fuelK ((0 : Int32), F, W) = some (nI b, a1, a2, nI b, a4, a5, a6, a7, a8, a9, a10, a11, v, q_cp F rb b, rb, rq, q_cp W rq b) := by
  have h0 : ((0 : Int32), F, W) = (fun i => (nI i, q_cp F rb i, q_cp W rq i)) 0 := rfl
  rw [h0]
  refine lp_runK (fun i => (nI i, q_cp F rb i, q_cp W rq i)) b _ (by omega) (fun i hi => ?_) ?_
  · show L_X9_read_49 a1 a2 (nI b) a4 a5 a6 a7 a8 a9 a10 a11 a12 v rb rq g (nI i) (q_cp F rb i) (q_cp W rq i) = some (Sum.inl (nI (i + 1), q_cp F rb (i + 1), q_cp W rq (i + 1)))
    have hin : vp_in (nI i) 16 := vp_in_nI (by omega) (by decide)
    rw [L_X9_read_49, if_neg (nle hi (by omega)), ix_in hin, ix_in hin, ix_in hin, ix_in hin, nI_clamp (by omega), nI_1, q_cp, q_cp]
  · show L_X9_read_49 a1 a2 (nI b) a4 a5 a6 a7 a8 a9 a10 a11 a12 v rb rq g (nI b) (q_cp F rb b) (q_cp W rq b) = _
    rw [L_X9_read_49, if_pos (nI_le (Nat.le_refl b) (by omega))]
    rfl
