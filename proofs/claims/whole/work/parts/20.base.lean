/-! The shadow of a method: a function into Option; the loops of it; what a walk needs of it -/
def lpN {σ τ : Type} (body : σ → Option (σ ⊕ τ)) : Nat → σ → Option τ
  | 0, _ => none
  | n + 1, z => match body z with
    | none => none
    | some (.inl z') => lpN body n z'
    | some (.inr t) => some t
def fuelK : Nat := 4294967296
theorem lp_walk {σ τ : Type} {body : σ → Option (σ ⊕ τ)} {Wp : σ → Prop} {X : τ → Prop} (hs : ∀ (z : σ) (x : σ ⊕ τ), body z = some x → ((∀ z', x = .inl z' → Wp z') ∧ (∀ t, x = .inr t → X t)) → Wp z) : ∀ (n : Nat) (z : σ) (t : τ), lpN body n z = some t → X t → Wp z := by
  intro n
  induction n with
  | zero => intro z t h; simp [lpN] at h
  | succ n ih =>
    intro z t h hX
    unfold lpN at h
    split at h
    · cases h
    · rename_i z' hz
      exact hs z _ hz ⟨fun z2 e => (by cases e; exact ih _ _ h hX), fun t2 e => (by cases e)⟩
    · rename_i t' hz
      cases h
      exact hs z _ hz ⟨fun z2 e => (by cases e), fun t2 e => (by cases e; exact hX)⟩
theorem ifp {α : Type} {c : Prop} {inst : Decidable c} {a b : Option α} {x : α} (h : c) (hM : (if c then a else b) = some x) : a = some x := by rw [if_pos h] at hM; exact hM
theorem ifn {α : Type} {c : Prop} {inst : Decidable c} {a b : Option α} {x : α} (h : ¬ c) (hM : (if c then a else b) = some x) : b = some x := by rw [if_neg h] at hM; exact hM
theorem bd {α β : Type} {o : Option α} {f : α → Option β} {x : β} (h : o.bind f = some x) : ∃ y, o = some y ∧ f y = some x := by
  cases o with
  | none => cases h
  | some y => exact ⟨y, rfl, h⟩
theorem mpr {σ τ : Type} {o : Option τ} {x : σ ⊕ τ} (h : o.map Sum.inr = some x) : ∃ t, o = some t ∧ x = Sum.inr t := by
  cases o with
  | none => cases h
  | some y => exact ⟨y, rfl, (Option.some.inj h).symm⟩
/-- an index of an array of n -/
def ix {α : Type} (i : Int32) (n : Nat) (a : Option α) : Option α := if i < 0 ∨ n ≤ i.toNatClampNeg then none else a
theorem ixp {α : Type} {i : Int32} {n : Nat} {a : Option α} {x : α} (h : ix i n a = some x) : vp_in i n ∧ a = some x := by
  unfold ix at h
  split at h
  · cases h
  · rename_i c; exact ⟨c, h⟩
theorem ix_in {α : Type} {i : Int32} {n : Nat} {a : Option α} (h : vp_in i n) : ix i n a = a := by
  unfold ix; exact if_neg h
def dz {α : Type} (y : Int32) (a : Option α) : Option α := if y = 0 then none else a
theorem dzp {α : Type} {y : Int32} {a : Option α} {x : α} (h : dz y a = some x) : ¬ y = 0 ∧ a = some x := by
  unfold dz at h
  split at h
  · cases h
  · rename_i c; exact ⟨c, h⟩
def dzL {α : Type} (y : Int64) (a : Option α) : Option α := if y = 0 then none else a
theorem dzLp {α : Type} {y : Int64} {a : Option α} {x : α} (h : dzL y a = some x) : ¬ y = 0 ∧ a = some x := by
  unfold dzL at h
  split at h
  · cases h
  · rename_i c; exact ⟨c, h⟩
/-- a boolean answer is 0 or 1 -/
def bz {α : Type} (v : Int32) (a : Option α) : Option α := if v = 0 ∨ v = 1 then a else none
theorem bzp {α : Type} {v : Int32} {a : Option α} {x : α} (h : bz v a = some x) : narrow .boolean (.int v) = .int v ∧ a = some x := by
  unfold bz at h
  split at h
  · rename_i c
    refine ⟨?_, h⟩
    rcases c with rfl | rfl <;> rfl
  · cases h
/-- what an array copy wants -/
def cpk {α : Type} (sp dp n : Int32) (n0 n1 : Nat) (a : Option α) : Option α := if sp < 0 ∨ dp < 0 ∨ n < 0 ∨ n0 < sp.toNatClampNeg + n.toNatClampNeg ∨ n1 < dp.toNatClampNeg + n.toNatClampNeg then none else a
theorem cpkp {α : Type} {sp dp n : Int32} {n0 n1 : Nat} {a : Option α} {x : α} (h : cpk sp dp n n0 n1 a = some x) : (¬ sp < 0 ∧ ¬ dp < 0 ∧ ¬ n < 0 ∧ sp.toNatClampNeg + n.toNatClampNeg ≤ n0 ∧ dp.toNatClampNeg + n.toNatClampNeg ≤ n1) ∧ a = some x := by
  unfold cpk at h
  split at h
  · cases h
  · rename_i c
    simp only [not_or] at c
    exact ⟨⟨c.1, c.2.1, c.2.2.1, by omega, by omega⟩, h⟩
abbrev classes : List vw_C := [(RX0, TX0, 2), (RX1, TX1, 3), (RX2, TX2, 4), (RX3, TX3, 8), (RX4, TX4, 5), (RX5, TX5, 6), (RX6, TX6, 6), (RX7, TX7, 6), (RX8, TX8, 17), (RX9, TX9, 51)]
abbrev tysN (cI cJ cZ cQ : ClassId) : List (ClassId × FieldType) := [(cI, .int), (cJ, .long), (cZ, .boolean), (cQ, .object RX1)]
/-- the links to own methods of the nest's host -/
def GN (U : State) : Prop :=
  va_Nw (.methodLinkNest RX7 106 yX8_between RX8) U ∧ va_Nw (.methodLinkNest RX3 85 yX8_between RX8) U ∧ va_Nw (.methodLinkNest RX3 92 yX8_within RX8) U ∧ va_Nw (.methodLinkNest RX3 60 yX8_has RX8) U ∧
  va_Nw (.methodLinkNest RX2 26 yX8_between RX8) U ∧ va_Nw (.methodLinkNest RX2 54 yX8_has RX8) U ∧ va_Nw (.methodLinkNest RX4 66 yX8_has RX8) U ∧ va_Nw (.methodLinkNest RX5 66 yX8_has RX8) U
theorem GN.same {u U : State} (h : u.vm = U.vm) (g : GN u) : GN U := ⟨va_Nw.same rfl h g.1, va_Nw.same rfl h g.2.1, va_Nw.same rfl h g.2.2.1, va_Nw.same rfl h g.2.2.2.1, va_Nw.same rfl h g.2.2.2.2.1, va_Nw.same rfl h g.2.2.2.2.2.1, va_Nw.same rfl h g.2.2.2.2.2.2.1, va_Nw.same rfl h g.2.2.2.2.2.2.2⟩
theorem GN.warm {s U : State} (h : s.WarmedH U.vm) (g : GN s) : GN U := ⟨va_Nw.warmM h g.1, va_Nw.warmM h g.2.1, va_Nw.warmM h g.2.2.1, va_Nw.warmM h g.2.2.2.1, va_Nw.warmM h g.2.2.2.2.1, va_Nw.warmM h g.2.2.2.2.2.1, va_Nw.warmM h g.2.2.2.2.2.2.1, va_Nw.warmM h g.2.2.2.2.2.2.2⟩
/-- what lies still: the addresses of three texts, of their bytes, of the static row ALL -/
abbrev GX : Type := (Nat → Nat) × (Nat → Nat) × Nat
def gsL : List Nat := [5, 5, 3]
def gsB : List (List Int32) := [[115, 111, 114, 116, 115], [115, 105, 122, 101, 115], [98, 111, 120]]
def GS (gx : GX) (A : Nat → Prop) (U : State) (H : Heap) : Prop :=
  vk_S 3 gsL gsB gx.1 gx.2.1 A U H ∧ (vk_R RX7 51 "sorts" (gx.1 0) U ∧ vk_R RX7 72 "sizes" (gx.1 1) U ∧ vk_R RX7 77 "box" (gx.1 2) U) ∧ va_Z "java/lang/String" "COMPACT_STRINGS" "Z" (.int 1) A U H ∧ va_Z RX3 "ALL" "[I" (.ref gx.2.2) A U H ∧ va_T .int gx.2.2 16 (fun j => .int (nI j)) A U H ∧ va_Zq "jdk/internal/util/Preconditions" "SIOOBE_FORMATTER" "Ljava/util/function/BiFunction;" A U H ∧ va_AO RX1 U
theorem GS.kept {gx : GX} {A : Nat → Prop} {U : State} {H H1 : Heap} (g : GS gx A U H) (hq : ∀ a : Nat, a < H.size → ¬ A a → H1[a]? = H[a]?) : GS gx A U H1 := ⟨g.1.kept hq, g.2.1, g.2.2.1.kept hq, g.2.2.2.1.kept hq, g.2.2.2.2.1.kept hq, g.2.2.2.2.2.1.kept hq, g.2.2.2.2.2.2⟩
theorem GS.narrow {gx : GX} {A B : Nat → Prop} {U : State} {H : Heap} (g : GS gx A U H) (hAB : ∀ q, B q → A q) : GS gx B U H := ⟨g.1.narrow hAB, g.2.1, g.2.2.1.narrow hAB, g.2.2.2.1.narrow hAB, g.2.2.2.2.1.narrow hAB, g.2.2.2.2.2.1.narrow hAB, g.2.2.2.2.2.2⟩
theorem GS.warm {gx : GX} {A : Nat → Prop} {s U : State} {H : Heap} (hW : s.WarmedH U.vm) (g : GS gx A s H) : GS gx A U H := ⟨vk_S.moved hW.alike g.1, ⟨g.2.1.1.warm hW, g.2.1.2.1.warm hW, g.2.1.2.2.warm hW⟩, va_Z.moved hW.alike g.2.2.1, va_Z.moved hW.alike g.2.2.2.1, va_T.moved hW.alike g.2.2.2.2.1, va_Zq.moved hW.alike g.2.2.2.2.2.1, va_AO.moved hW.alike g.2.2.2.2.2.2⟩
theorem GS.same {gx : GX} {A : Nat → Prop} {u U : State} {H : Heap} (h : U.vm = u.vm) (g : GS gx A u H) : GS gx A U H := by
  have ha : u.vm.Alike U.vm := by rw [h]; exact Vm.Alike.refl u.vm
  exact ⟨vk_S.moved ha g.1, ⟨g.2.1.1.same h, g.2.1.2.1.same h, g.2.1.2.2.same h⟩, va_Z.moved ha g.2.2.1, va_Z.moved ha g.2.2.2.1, va_T.moved ha g.2.2.2.2.1, va_Zq.moved ha g.2.2.2.2.2.1, va_AO.moved ha g.2.2.2.2.2.2⟩
def kP (dC : Nat → ClassId) (dI : Nat → Nat → Nat) (cI cJ cZ cQ : ClassId) (gx : GX) (av : List Value) (sz : Nat) (ws : va_W) : Array Value → State → Prop := va_Pc av (fun U => U.heap.size = sz ∧ va_P (dC, dI) classes ws U.heap ∧ va_K (dC, dI) classes (tysN cI cJ cZ cQ) U ∧ va_D (fun _ => True) ws ∧ GN U ∧ GS gx (va_A ws sz) U U.heap)
def kB (dC : Nat → ClassId) (dI : Nat → Nat → Nat) (cI cJ cZ cQ : ClassId) (A : Nat → Prop) (ws : va_W) (t : State) : Prop := va_P (dC, dI) classes ws t.heap ∧ va_K (dC, dI) classes (tysN cI cJ cZ cQ) t ∧ va_D A ws
def kQi (dC : Nat → ClassId) (dI : Nat → Nat → Nat) (cI cJ cZ cQ : ClassId) (r0 : Int32) (ws : va_W) (A : Nat → Prop) : Array Value → State → Outcome → State → Prop := va_Qi (fun (r : Int32) (_ : Unit) => r = r0) (fun _ t => kB dC dI cI cJ cZ cQ A ws t) A
def kQl (dC : Nat → ClassId) (dI : Nat → Nat → Nat) (cI cJ cZ cQ : ClassId) (r0 : Int64) (ws : va_W) (A : Nat → Prop) : Array Value → State → Outcome → State → Prop := va_Ql (fun (r : Int64) (_ : Unit) => r = r0) (fun _ t => kB dC dI cI cJ cZ cQ A ws t) A
def kQv (dC : Nat → ClassId) (dI : Nat → Nat → Nat) (cI cJ cZ cQ : ClassId) (ws : va_W) (A : Nat → Prop) : Array Value → State → Outcome → State → Prop := va_Qv (fun (_ : Unit) => True) (fun _ t => kB dC dI cI cJ cZ cQ A ws t) A
theorem kP.blind {dC : Nat → ClassId} {dI : Nat → Nat → Nat} {cI cJ cZ cQ : ClassId} {gx : GX} {av : List Value} {sz : Nat} {ws : va_W} : FrameBlind (kP dC dI cI cJ cZ cQ gx av sz ws) := by
  intro a U g mk q
  obtain ⟨q0, q1, qP, qK, qD, qN, qG⟩ := q
  exact ⟨q0, q1, qP, va_K.moved (u := U) (U := U.calling g mk a) (Vm.Alike.refl U.vm) qK, qD, GN.same (u := U) (U := U.calling g mk a) rfl qN, GS.same (u := U) (U := U.calling g mk a) rfl qG⟩
/-- a contract's entry -/
theorem nw_entry {l : Launch} {y : MethodName} {ws ws' : List Cond} {rm : Room} {av : List Value} {sz : Nat} {wpre : va_W} {Qc : (Nat → Prop) → Array Value → State → Outcome → State → Prop} {mc ms maxL : Nat} {cc : ByteArray} {ret : Option FieldType} {dC : Nat → ClassId} {dI : Nat → Nat → Nat} {cI cJ cZ cQ : ClassId} {gx : GX} {own : String} (lv : List (Nat × Value))
    (hy : plainName y.cls = true) (hyo : y.cls = own) (hw : ws = Cond.code y cc maxL ret :: ws') (hlen : (lg_sl av).length ≤ maxL) (hlv : lv_args 0 av = lv)
    (body : ∀ (p : Program) (e : Env) (s : State) (m : MethodId) (below : List Frame) (meth : Method) (c : Code) (A : Nat → Prop) (ls : Array Slot) (H : Heap) (locs : List Loc), CallFix p m c cc maxL s av.toArray ws own → meth.sig.returnType = ret → meth.locks = false → meth.name = y.name → s.heap.size = sz →
      va_P (dC, dI) classes wpre H → va_K (dC, dI) classes (tysN cI cJ cZ cQ) s → va_D A wpre → (∀ q, s.heap.size ≤ q → A q) → va_S A s.heap H locs → GN s → GS gx A s s.heap → lv_has ls maxL lv → W p l e rm s m av.toArray below meth c H locs 0 0 (MQ below (Qc A) av.toArray s mc ms A) (F0 m 0 ls [])) :
    Met l y ws rm (kP dC dI cI cJ cZ cQ gx av sz wpre) (Qc (va_A wpre sz)) mc ms (va_A wpre sz) := by
  refine Met.ofW (cc := cc) (maxL := maxL) (ret := ret) hy hw ?_
  intro p e s m args below meth c s₁ B hml hv
  obtain ⟨rfl, hsz, hP, hK, hD0, hN, hG⟩ := hv
  have hts := atoms_spec (ws := ws) B.pre
  have hown : s.vm.findClass y.cls = some m.cls := findClass_of_methodNamed B.named
  have hin : meth.name = y.name := (name_of_methodNamed B.named B.method).1
  subst hsz
  have hD := hD0.self (sz := s.heap.size)
  rw [lg_entry_eq]
  subst hyo
  have hl := lv_entry av hlen
  rw [hlv] at hl
  exact body p e s m below meth c (va_A wpre s.heap.size) _ s.heap [] ⟨B.exec, B.bytes, hml, hown, hts⟩ B.returns B.notSynchronized hin rfl hP hK hD (fun q h => Or.inr h) va_S.rf hN hG hl
section NWR
variable {p : Program} {l : Launch} {e : Env} {R : Room} {s : State} {m : MethodId} {args : Array Value} {below : List Frame} {meth : Method} {c : Code} {H : Heap} {locs : List Loc}
variable {dC : Nat → ClassId} {dI : Nat → Nat → Nat} {cI cJ cZ cQ : ClassId} {A : Nat → Prop} {ws wpost : va_W} {cc : ByteArray} {pc : Nat} {ls : Array Slot} {cells slots : Nat}
theorem nw_iret {r0 v : Int32} (hv : v = r0) (hx : p.tables.exec = Jvm.exec) (hb : c.code = cc) (hr : meth.sig.returnType = some .int) (hlocks : meth.locks = false) (hK : va_K (dC, dI) classes (tysN cI cJ cZ cQ) s) (hP : va_P (dC, dI) classes wpost H) (hD : va_D A wpost) (hS : va_S A s.heap H locs) (hdg : decode cc pc = .ok (.ireturn, 1)) :
    W p l e R s m args below meth c H locs cells slots (MQ below (kQi dC dI cI cJ cZ cQ r0 wpost A) args s cells slots A) (F0 m pc ls [.int v]) :=
  W.iret (v := v) hx hb hr (fun t ht hW => ⟨⟨v, (), rfl, hv, by rw [ht]; exact hP, va_K.moved hW.alike hK, hD⟩, hS.F ht⟩) hS.2.2 hdg
theorem nw_zret {r0 v : Int32} {ty : FieldType} (hn : narrow ty (.int v) = .int v) (hv : v = r0) (hx : p.tables.exec = Jvm.exec) (hb : c.code = cc) (hr : meth.sig.returnType = some ty) (hlocks : meth.locks = false) (hK : va_K (dC, dI) classes (tysN cI cJ cZ cQ) s) (hP : va_P (dC, dI) classes wpost H) (hD : va_D A wpost) (hS : va_S A s.heap H locs) (hdg : decode cc pc = .ok (.ireturn, 1)) :
    W p l e R s m args below meth c H locs cells slots (MQ below (kQi dC dI cI cJ cZ cQ r0 wpost A) args s cells slots A) (F0 m pc ls [.int v]) :=
  W.zret (v := v) hx hb hr hn (fun t ht hW => ⟨⟨v, (), rfl, hv, by rw [ht]; exact hP, va_K.moved hW.alike hK, hD⟩, hS.F ht⟩) hS.2.2 hdg
theorem nw_lret {r0 v : Int64} (hv : v = r0) (hx : p.tables.exec = Jvm.exec) (hb : c.code = cc) (hr : meth.sig.returnType = some .long) (hlocks : meth.locks = false) (hK : va_K (dC, dI) classes (tysN cI cJ cZ cQ) s) (hP : va_P (dC, dI) classes wpost H) (hD : va_D A wpost) (hS : va_S A s.heap H locs) (hdg : decode cc pc = .ok (.lreturn, 1)) :
    W p l e R s m args below meth c H locs cells slots (MQ below (kQl dC dI cI cJ cZ cQ r0 wpost A) args s cells slots A) (F0 m pc ls [.long v]) :=
  W.lret (v := v) hx hb hr (fun t ht hW => ⟨⟨v, (), rfl, hv, by rw [ht]; exact hP, va_K.moved hW.alike hK, hD⟩, hS.F ht⟩) hS.2.2 hdg
theorem nw_vret (hx : p.tables.exec = Jvm.exec) (hb : c.code = cc) (hr : meth.sig.returnType = none) (hlocks : meth.locks = false) (hK : va_K (dC, dI) classes (tysN cI cJ cZ cQ) s) (hP : va_P (dC, dI) classes wpost H) (hD : va_D A wpost) (hS : va_S A s.heap H locs) (hdg : decode cc pc = .ok (.return_, 1)) :
    W p l e R s m args below meth c H locs cells slots (MQ below (kQv dC dI cI cJ cZ cQ wpost A) args s cells slots A) (F0 m pc ls []) :=
  W.vret hx hb hr (fun t ht hW => ⟨⟨(), rfl, trivial, by rw [ht]; exact hP, va_K.moved hW.alike hK, hD⟩, hS.F ht⟩) hS.2.2 hdg
end NWR
section NWC
variable {p : Program} {l : Launch} {e : Env} {R : Room} {s : State} {m : MethodId} {args : Array Value} {below : List Frame} {meth : Method} {c : Code} {H H0 : Heap} {locs : List Loc} {cells slots : Nat} {Q : State → Prop}
variable {dC : Nat → ClassId} {dI : Nat → Nat → Nat} {cI cJ cZ cQ : ClassId} {gx : GX} {A : Nat → Prop} {ws wc wr w1 wf : va_W} {cc bytes : ByteArray} {pc : Nat} {ls : Array Slot} {maxL nL mc ms n index : Nat} {y : MethodName} {ret : Option FieldType} {wsy Ts : List Cond} {rm : Room} {Qc : Array Value → State → Outcome → State → Prop} {own C host : String} {b : Addr} {As rest : List Value} {st0 : List Value} {a : Array Value}
/-- the world of a call, cut out of the caller's -/
theorem nw_preS (hP : va_P (dC, dI) classes ws H) (hD : va_D A ws) (hK : va_K (dC, dI) classes (tysN cI cJ cZ cQ) s) (hN : GN s) (hS : va_S A s.heap H locs) (hA : ∀ q, s.heap.size ≤ q → A q) (hG : GS gx A s s.heap) (isC : List Nat) (hn : va_nd isC = true) (hC : isC.map (fun i => ws[i]?) = wc.map some) : PreS s H (kP dC dI cI cJ cZ cQ gx As H.size wc) As := by
  have hs : isC.filterMap (fun i => ws[i]?) = wc := by
    have h := congrArg (fun l : List (Option (Nat × va_E)) => l.filterMap id) hC
    simpa [List.filterMap_map, Function.comp_def] using h
  exact ⟨kP.blind, fun U hU hW => ⟨rfl, by rw [hU], by rw [hU]; exact hP.sub isC hs, va_K.moved hW.alike hK, (hD.sub isC hn hC).weaken (fun _ _ _ _ => trivial), GN.warm hW hN, by rw [hU]; exact GS.warm hW ((hG.kept hS.2.1).narrow (va_free (wc := wc) hD hS hA isC hC))⟩⟩
theorem nw_preV (hP : va_P (dC, dI) classes ws H) (hD : va_D A ws) (hK : va_K (dC, dI) classes (tysN cI cJ cZ cQ) s) (hN : GN s) (hS : va_S A s.heap H locs) (hA : ∀ q, s.heap.size ≤ q → A q) (hG : GS gx A s s.heap) (isC : List Nat) (hn : va_nd isC = true) (hC : isC.map (fun i => ws[i]?) = wc.map some) {q0 ci : Nat} {q : vw_C} {fs : List Value} (hc : classes[ci]? = some q) (hCn : q.1 = C) (he : ws[q0]? = some (b, .inr (ci, fs))) : PreV s H C b (kP dC dI cI cJ cZ cQ gx (.ref b :: As) H.size wc) As := by
  obtain ⟨h1, h2⟩ := nw_preS (As := .ref b :: As) (wc := wc) hP hD hK hN hS hA hG isC hn hC
  subst hCn
  exact ⟨h1, va_recv hK hP (ci := ci) (q0 := q0) hc he, h2⟩
theorem nw_runV (S : CallFix p m c cc nL s args Ts own) (hM : Met l y wsy rm (kP dC dI cI cJ cZ cQ gx (.ref b :: As) H.size wc) Qc mc ms (va_A wc H.size)) (cw : CallW R s args own C index y bytes maxL ret wsy rm mc ms n)
    (hP : va_P (dC, dI) classes ws H) (hD : va_D A ws) (hK : va_K (dC, dI) classes (tysN cI cJ cZ cQ) s) (hN : GN s) (hS : va_S A s.heap H locs) (hA : ∀ q, s.heap.size ≤ q → A q) (hG : GS gx A s s.heap) (isC : List Nat) (hnd : va_nd isC = true) (hC : isC.map (fun i => ws[i]?) = wc.map some) (q0 ci : Nat) {q : vw_C} {fs : List Value} (hc : classes[ci]? = some q) (hCn : q.1 = C) (he : ws[q0]? = some (b, .inr (ci, fs)))
    (hl : ls.size = nL) (hn : As.length = n) (hstack : st0 = As.reverse ++ .ref b :: rest) (hW : (rest.map fun v => v.category).sum ≤ 8) (hdg : decode cc pc = .ok (.invokevirtual index, 3)) (hf : cells + mc ≤ R.cells ∧ slots + ms ≤ R.slots) :
    va_Run p l e R s m args below meth c H locs cells slots mc ms (F0 m pc ls st0) rest (Qc (Value.ref b :: As).toArray) (va_A wc H.size) :=
  va_runV S hM cw (nw_preV hP hD hK hN hS hA hG isC hnd hC hc hCn he) rfl hn hl hstack (lv_room hW) hdg hf
theorem nw_runS (S : CallFix p m c cc nL s args Ts own) (hM : Met l y wsy rm (kP dC dI cI cJ cZ cQ gx As H.size wc) Qc mc ms (va_A wc H.size)) (cw : CallB R s args own index y bytes maxL ret wsy rm mc ms n ∧ (Cond.static y).before args s = true)
    (hP : va_P (dC, dI) classes ws H) (hD : va_D A ws) (hK : va_K (dC, dI) classes (tysN cI cJ cZ cQ) s) (hN : GN s) (hS : va_S A s.heap H locs) (hA : ∀ q, s.heap.size ≤ q → A q) (hG : GS gx A s s.heap) (isC : List Nat) (hnd : va_nd isC = true) (hC : isC.map (fun i => ws[i]?) = wc.map some)
    (hl : ls.size = nL) (hn : As.length = n) (hstack : st0 = As.reverse ++ rest) (hW : (rest.map fun v => v.category).sum ≤ 8) (hdg : decode cc pc = .ok (.invokestatic index, 3)) (hf : cells + mc ≤ R.cells ∧ slots + ms ≤ R.slots) :
    va_Run p l e R s m args below meth c H locs cells slots mc ms (F0 m pc ls st0) rest (Qc As.toArray) (va_A wc H.size) :=
  va_runS S hM cw (nw_preS hP hD hK hN hS hA hG isC hnd hC) rfl hn hl hstack (lv_room hW) hdg hf
theorem nw_runSN (S : CallFix p m c cc nL s args Ts own) (hM : Met l y wsy rm (kP dC dI cI cJ cZ cQ gx As H.size wc) Qc mc ms (va_A wc H.size)) (cw : va_CN R s args own index y host bytes maxL ret wsy rm mc ms n ∧ (Cond.static y).before args s = true ∧ True)
    (hP : va_P (dC, dI) classes ws H) (hD : va_D A ws) (hK : va_K (dC, dI) classes (tysN cI cJ cZ cQ) s) (hN : GN s) (hS : va_S A s.heap H locs) (hA : ∀ q, s.heap.size ≤ q → A q) (hG : GS gx A s s.heap) (isC : List Nat) (hnd : va_nd isC = true) (hC : isC.map (fun i => ws[i]?) = wc.map some)
    (hl : ls.size = nL) (hn : As.length = n) (hstack : st0 = As.reverse ++ rest) (hW : (rest.map fun v => v.category).sum ≤ 8) (hdg : decode cc pc = .ok (.invokestatic index, 3)) (hf : cells + mc ≤ R.cells ∧ slots + ms ≤ R.slots) :
    va_Run p l e R s m args below meth c H locs cells slots mc ms (F0 m pc ls st0) rest (Qc As.toArray) (va_A wc H.size) :=
  va_runSN S hM cw (nw_preS hP hD hK hN hS hA hG isC hnd hC) rfl hn hl hstack (lv_room hW) hdg hf
/-- what comes back, put beside the rest, in the order of the caller's world -/
theorem nw_back (hP : va_P (dC, dI) classes ws H) (hD : va_D A ws) (hS : va_S A H0 H locs) (hA : ∀ q, H0.size ≤ q → A q) (isC isR is : List Nat) (hC : isC.map (fun i => ws[i]?) = wc.map some) (hR : isR.map (fun i => ws[i]?) = wr.map some) (hnR : va_nd isR = true) (hdis : ∀ i ∈ isR, i ∉ isC) (hnd : va_nd is = true) (hF : is.map (fun i => (wr ++ w1)[i]?) = wf.map some)
    {H1 : Heap} (hk : ∀ q : Nat, q < H.size → ¬ va_A wc H.size q → H1[q]? = H[q]?) (hP1 : va_P (dC, dI) classes w1 H1) (hD1 : va_D (va_A wc H.size) w1) : va_P (dC, dI) classes wf H1 ∧ va_D A wf := by
  have hFc := va_free (wc := wc) hD hS hA isC hC
  obtain ⟨hP2, hD2⟩ := va_join (wr := wr) (w1 := w1) hP hD isC isR hC hR hnR hdis hk hFc hP1 hD1
  have hs : is.filterMap (fun i => (wr ++ w1)[i]?) = wf := by
    have h := congrArg (fun l : List (Option (Nat × va_E)) => l.filterMap id) hF
    simpa [List.filterMap_map, Function.comp_def] using h
  exact ⟨hP2.sub is hs, hD2.sub is hnd hF⟩
theorem nw_i {r0 : Int32} (isC isR is : List Nat) (hP : va_P (dC, dI) classes ws H) (hD : va_D A ws) (hS : va_S A H0 H locs) (hA : ∀ q, H0.size ≤ q → A q) (hC : isC.map (fun i => ws[i]?) = wc.map some) (hR : isR.map (fun i => ws[i]?) = wr.map some) (hnR : va_nd isR = true) (hdis : ∀ i ∈ isR, i ∉ isC) (hnd : va_nd is = true) (hF : is.map (fun i => (wr ++ w1)[i]?) = wf.map some)
    (hr : va_Run p l e R s m args below meth c H locs cells slots 0 0 (F0 m pc ls st0) rest (kQi dC dI cI cJ cZ cQ r0 w1 (va_A wc H.size) a) (va_A wc H.size))
    (kk : ∀ (H1 : Heap) (locs1 : List Loc), va_P (dC, dI) classes wf H1 → va_D A wf → va_S A H0 H1 locs1 → W p l e R s m args below meth c H1 locs1 cells slots Q (F0 m (pc + 3) ls (.int r0 :: rest))) : W p l e R s m args below meth c H locs cells slots Q (F0 m pc ls st0) := by
  have hFc := va_free (wc := wc) hD hS hA isC hC
  refine va_calli hr hS (fun q _ h => hFc q h) hFc (fun r u t H1 locs1 ht hvm hw hB hz1 hk1 hS1 => ?_)
  obtain ⟨hP1, hK1, hD1⟩ := hB
  rw [ht] at hP1
  subst hw
  obtain ⟨h1, h2⟩ := nw_back hP hD hS hA isC isR is hC hR hnR hdis hnd hF hk1 hP1 hD1
  exact kk H1 locs1 h1 h2 hS1
theorem nw_l {r0 : Int64} (isC isR is : List Nat) (hP : va_P (dC, dI) classes ws H) (hD : va_D A ws) (hS : va_S A H0 H locs) (hA : ∀ q, H0.size ≤ q → A q) (hC : isC.map (fun i => ws[i]?) = wc.map some) (hR : isR.map (fun i => ws[i]?) = wr.map some) (hnR : va_nd isR = true) (hdis : ∀ i ∈ isR, i ∉ isC) (hnd : va_nd is = true) (hF : is.map (fun i => (wr ++ w1)[i]?) = wf.map some)
    (hr : va_Run p l e R s m args below meth c H locs cells slots 0 0 (F0 m pc ls st0) rest (kQl dC dI cI cJ cZ cQ r0 w1 (va_A wc H.size) a) (va_A wc H.size))
    (kk : ∀ (H1 : Heap) (locs1 : List Loc), va_P (dC, dI) classes wf H1 → va_D A wf → va_S A H0 H1 locs1 → W p l e R s m args below meth c H1 locs1 cells slots Q (F0 m (pc + 3) ls (.long r0 :: rest))) : W p l e R s m args below meth c H locs cells slots Q (F0 m pc ls st0) := by
  have hFc := va_free (wc := wc) hD hS hA isC hC
  refine va_calll hr hS (fun q _ h => hFc q h) hFc (fun r u t H1 locs1 ht hvm hw hB hz1 hk1 hS1 => ?_)
  obtain ⟨hP1, hK1, hD1⟩ := hB
  rw [ht] at hP1
  subst hw
  obtain ⟨h1, h2⟩ := nw_back hP hD hS hA isC isR is hC hR hnR hdis hnd hF hk1 hP1 hD1
  exact kk H1 locs1 h1 h2 hS1
theorem nw_v (isC isR is : List Nat) (hP : va_P (dC, dI) classes ws H) (hD : va_D A ws) (hS : va_S A H0 H locs) (hA : ∀ q, H0.size ≤ q → A q) (hC : isC.map (fun i => ws[i]?) = wc.map some) (hR : isR.map (fun i => ws[i]?) = wr.map some) (hnR : va_nd isR = true) (hdis : ∀ i ∈ isR, i ∉ isC) (hnd : va_nd is = true) (hF : is.map (fun i => (wr ++ w1)[i]?) = wf.map some)
    (hr : va_Run p l e R s m args below meth c H locs cells slots 0 0 (F0 m pc ls st0) rest (kQv dC dI cI cJ cZ cQ w1 (va_A wc H.size) a) (va_A wc H.size))
    (kk : ∀ (H1 : Heap) (locs1 : List Loc), va_P (dC, dI) classes wf H1 → va_D A wf → va_S A H0 H1 locs1 → W p l e R s m args below meth c H1 locs1 cells slots Q (F0 m (pc + 3) ls rest)) : W p l e R s m args below meth c H locs cells slots Q (F0 m pc ls st0) := by
  have hFc := va_free (wc := wc) hD hS hA isC hC
  refine va_callv hr hS (fun q _ h => hFc q h) hFc (fun u t H1 locs1 ht hvm hw hB hz1 hk1 hS1 => ?_)
  obtain ⟨hP1, hK1, hD1⟩ := hB
  rw [ht] at hP1
  obtain ⟨h1, h2⟩ := nw_back hP hD hS hA isC isR is hC hR hnR hdis hnd hF hk1 hP1 hD1
  exact kk H1 locs1 h1 h2 hS1
end NWC
/-- a switch from 0 on that is left -/
theorem sw_out {x : Int32} (lo hi : Int) (h : ∀ k : Int, lo ≤ k → k ≤ hi → ¬ x = Int32.ofInt k) : x.toInt < lo ∨ hi < x.toInt := by
  rcases Int.lt_or_le x.toInt lo with h1 | h1
  · exact Or.inl h1
  · rcases Int.lt_or_le hi x.toInt with h2 | h2
    · exact Or.inr h2
    · exact absurd (Int32.ofInt_toInt x).symm (h _ h1 h2)
