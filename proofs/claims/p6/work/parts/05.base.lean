/-! the statics' world, the contracts' form, calls and returns by one row -/
def tBIND : Nat → Int32 := fun j => ([0, 0, 5, 5, 6, 4, 4, 2, 3, 0, 0, 1] : List Int32).getD j 0
def tOPER : Nat → Int32 := fun j => ([0, 0, 2, 2, 2, 2, 2, 2, 1, 0, 0, 3] : List Int32).getD j 0
def EnvX (base bB bO : Nat) (U : State) : Prop := base ≤ U.heap.size ∧ True ∧ True ∧ va_Z RX6 "BINDING" "[I" (.ref bB) (fun q => base ≤ q) U U.heap ∧ va_Z RX6 "OPERANDS" "[I" (.ref bO) (fun q => base ≤ q) U U.heap ∧ va_T .int bB 12 (fun j => .int (tBIND j)) (fun q => base ≤ q) U U.heap ∧ va_T .int bO 12 (fun j => .int (tOPER j)) (fun q => base ≤ q) U U.heap ∧ ∀ w ∈ nestW, va_Nw w U
theorem EnvX.same {base bB bO : Nat} {U V : State} (h : EnvX base bB bO U) (hh : V.heap = U.heap) (hv : U.vm = V.vm) : EnvX base bB bO V := by
  obtain ⟨h1, h2, h3, h4, h5, h6, h7, h8⟩ := h
  have al : U.vm.Alike V.vm := by rw [← hv]; exact Vm.Alike.refl U.vm
  refine ⟨by rw [hh]; exact h1, h2, h3, by rw [hh]; exact h4.moved al, by rw [hh]; exact h5.moved al, by rw [hh]; exact h6.moved al, by rw [hh]; exact h7.moved al, fun w hw => ?_⟩
  obtain ⟨q, -, rfl⟩ := List.mem_map.mp hw
  exact va_Nw.same rfl hv (h8 _ hw)
theorem EnvX.at {base bB bO : Nat} {s U : State} {A : Nat → Prop} {H : Heap} {locs : List Loc} (h : EnvX base bB bO s) (hS : va_S A s.heap H locs) (hA : ∀ q, A q → base ≤ q) (hU : U.heap = H) (hW : s.WarmedH U.vm) : EnvX base bB bO U := by
  obtain ⟨h1, h2, h3, h4, h5, h6, h7, h8⟩ := h
  have keep : ∀ a : Nat, a < s.heap.size → ¬ base ≤ a → U.heap[a]? = s.heap[a]? := fun a ha hn => by rw [hU]; exact hS.2.1 a ha (fun z => hn (hA a z))
  refine ⟨by rw [hU]; exact Nat.le_trans h1 hS.1, h2, h3, (h4.kept keep).moved hW.alike, (h5.kept keep).moved hW.alike, (h6.kept keep).moved hW.alike, (h7.kept keep).moved hW.alike, fun w hw => ?_⟩
  obtain ⟨q, -, rfl⟩ := List.mem_map.mp hw
  exact va_Nw.warmM hW (h8 _ hw)
abbrev tysG (cI cJ : ClassId) : List (ClassId × FieldType) := [(cI, .int), (cJ, .long)]
def PreG (dC : Nat → ClassId) (dI : Nat → Nat → Nat) (cI cJ : ClassId) (base bB bO : Nat) (ws : va_W) (sz : Nat) (U : State) : Prop := U.heap.size = sz ∧ va_P (dC, dI) vwCl ws U.heap ∧ va_K (dC, dI) vwCl (tysG cI cJ) U ∧ va_D (fun q => base ≤ q) ws ∧ EnvX base bB bO U
def PosG (dC : Nat → ClassId) (dI : Nat → Nat → Nat) (ws : va_W) (sz : Nat) (ws1 : va_W) (t : State) : Prop := va_P (dC, dI) vwCl ws1 t.heap ∧ va_D (va_A ws sz) ws1
def CtI (l : Launch) (dC : Nat → ClassId) (dI : Nat → Nat → Nat) (cI cJ : ClassId) (base bB bO : Nat) (y : MethodName) (bytes : ByteArray) (maxL : Nat) (ret : FieldType) (fr lo : Nat) (args : List Value) (ws : va_W) (S : Type) (post : Int32 → S → Prop) (wo : S → va_W) : Prop := ∀ sz : Nat, Met l y (Cond.code y bytes maxL (some ret) :: gw) { frames := fr, cells := 0, slots := 0, locals := lo } (va_Pc args (PreG dC dI cI cJ base bB bO ws sz)) (va_Qi post (fun u t => PosG dC dI ws sz (wo u) t) (va_A ws sz)) 0 0 (va_A ws sz)
def CtL (l : Launch) (dC : Nat → ClassId) (dI : Nat → Nat → Nat) (cI cJ : ClassId) (base bB bO : Nat) (y : MethodName) (bytes : ByteArray) (maxL : Nat) (fr lo : Nat) (args : List Value) (ws : va_W) (S : Type) (post : Int64 → S → Prop) (wo : S → va_W) : Prop := ∀ sz : Nat, Met l y (Cond.code y bytes maxL (some .long) :: gw) { frames := fr, cells := 0, slots := 0, locals := lo } (va_Pc args (PreG dC dI cI cJ base bB bO ws sz)) (va_Ql post (fun u t => PosG dC dI ws sz (wo u) t) (va_A ws sz)) 0 0 (va_A ws sz)
def CtV (l : Launch) (dC : Nat → ClassId) (dI : Nat → Nat → Nat) (cI cJ : ClassId) (base bB bO : Nat) (y : MethodName) (bytes : ByteArray) (maxL : Nat) (mc ms fr lo : Nat) (args : List Value) (ws : va_W) (S : Type) (post : S → Prop) (wo : S → va_W) : Prop := ∀ sz : Nat, Met l y (Cond.code y bytes maxL none :: gw) { frames := fr, cells := mc, slots := ms, locals := lo } (va_Pc args (PreG dC dI cI cJ base bB bO ws sz)) (va_Qv post (fun u t => PosG dC dI ws sz (wo u) t) (va_A ws sz)) mc ms (va_A ws sz)
theorem PreG.blind {dC : Nat → ClassId} {dI : Nat → Nat → Nat} {cI cJ : ClassId} {base bB bO : Nat} {ws : va_W} {sz : Nat} {args : List Value} : FrameBlind (va_Pc args (PreG dC dI cI cJ base bB bO ws sz)) := by
  intro a U g mk q
  obtain ⟨q0, q1, qP, qK, qD, qE⟩ := q
  exact ⟨q0, q1, qP, va_K.moved (u := U) (U := U.calling g mk a) (Vm.Alike.refl U.vm) qK, qD, qE.same rfl rfl⟩
section EN
variable {l : Launch} {dC : Nat → ClassId} {dI : Nat → Nat → Nat} {cI cJ : ClassId} {base bB bO : Nat} {y : MethodName} {bytes : ByteArray} {maxL : Nat} {ret : FieldType} {mc ms fr lo : Nat} {args : List Value} {ws : va_W} {S : Type} {wo : S → va_W}
/-- what a body has at its start -/
def AtG (l : Launch) (dC : Nat → ClassId) (dI : Nat → Nat → Nat) (cI cJ : ClassId) (base bB bO : Nat) (y : MethodName) (bytes : ByteArray) (maxL : Nat) (args : List Value) (p : Program) (s : State) (m : MethodId) (meth : Method) (c : Code) (A : Nat → Prop) : Prop :=
  p.tables.exec = Jvm.exec ∧ c.code = bytes ∧ c.maxLocals = maxL ∧ s.vm.findClass y.cls = some m.cls ∧ (∀ w ∈ gw, w.before args.toArray s = true) ∧ (∀ q, s.heap.size ≤ q → A q) ∧ (∀ q, A q → base ≤ q) ∧ va_K (dC, dI) vwCl (tysG cI cJ) s ∧ EnvX base bB bO s ∧ meth.locks = false ∧ meth.name = y.name
theorem AtG.of {ret : Option FieldType} {rm : Room} {p : Program} {e : Env} {s : State} {m : MethodId} {below : List Frame} {meth : Method} {c : Code} {s₁ : State} {sz : Nat} (B : BodyLoose p l y (headSpec (Cond.code y bytes maxL ret :: gw) rm) bytes maxL ret e s m args.toArray below meth c s₁) (hml : c.maxLocals = maxL) (hv : PreG dC dI cI cJ base bB bO ws sz s) : AtG l dC dI cI cJ base bB bO y bytes maxL args p s m meth c (va_A ws sz) ∧ va_P (dC, dI) vwCl ws s.heap ∧ va_D (va_A ws sz) ws ∧ va_S (va_A ws sz) s.heap s.heap [] := by
  obtain ⟨hsz, hP, hK, hD0, hE⟩ := hv
  have hts := atoms_spec (ws := Cond.code y bytes maxL ret :: gw) B.pre
  refine ⟨⟨B.exec, B.bytes, hml, findClass_of_methodNamed B.named, fun w hw => hts w (List.mem_cons_of_mem _ hw), fun q h => Or.inr (by rw [← hsz]; exact h), fun q h => ?_, hK, hE, B.notSynchronized, (name_of_methodNamed B.named B.method).1⟩, hP, hD0.self, va_S.rf⟩
  rcases h with ⟨k, e, h⟩ | h
  · exact hD0.2 k _ h
  · exact Nat.le_trans (by rw [← hsz]; exact hE.1) h
theorem entI {post : Int32 → S → Prop} (hy : plainName y.cls = true) (hle : (lg_sl args).length ≤ maxL)
    (body : ∀ (p : Program) (e : Env) (s : State) (m : MethodId) (below : List Frame) (meth : Method) (c : Code) (A : Nat → Prop) (Q : State → Prop) (ls : Array Slot), AtG l dC dI cI cJ base bB bO y bytes maxL args p s m meth c A →
      (∀ (r : Int32) (u : S) (H : Heap) (locs : List Loc) (pc : Nat) (ls : Array Slot), narrow ret (.int r) = .int r → post r u → va_P (dC, dI) vwCl (wo u) H → va_D A (wo u) → va_S A s.heap H locs → decode bytes pc = .ok (.ireturn, 1) → W p l e { frames := fr, cells := 0, slots := 0, locals := lo } s m args.toArray below meth c H locs 0 0 Q (F0 m pc ls [.int r])) →
      va_P (dC, dI) vwCl ws s.heap → va_D A ws → va_S A s.heap s.heap [] → lv_has ls maxL (lv_args 0 args) → W p l e { frames := fr, cells := 0, slots := 0, locals := lo } s m args.toArray below meth c s.heap [] 0 0 Q (F0 m 0 ls [])) : CtI l dC dI cI cJ base bB bO y bytes maxL ret fr lo args ws S post wo := by
  intro sz
  refine Met.ofW (cc := bytes) (maxL := maxL) (ret := some ret) hy rfl ?_
  intro p e s m args' below meth c s₁ B hml hv
  obtain ⟨rfl, hv⟩ := hv
  obtain ⟨hG, hP, hD, hS⟩ := AtG.of B hml hv
  have hl := lv_entry args (n := maxL) hle
  rw [lg_entry_eq]
  have hr := B.returns
  have hlocks := B.notSynchronized
  exact body p e s m below meth c _ _ _ hG (fun r u H locs pc ls hn hp hP hD hS hd => W.zret hG.1 hG.2.1 hr hn (fun t ht hW => ⟨⟨r, u, rfl, hp, ⟨by rw [ht]; exact hP, hD⟩⟩, hS.F ht⟩) hS.2.2 hd) hP hD hS hl
theorem entL {post : Int64 → S → Prop} (hy : plainName y.cls = true) (hle : (lg_sl args).length ≤ maxL)
    (body : ∀ (p : Program) (e : Env) (s : State) (m : MethodId) (below : List Frame) (meth : Method) (c : Code) (A : Nat → Prop) (Q : State → Prop) (ls : Array Slot), AtG l dC dI cI cJ base bB bO y bytes maxL args p s m meth c A →
      (∀ (r : Int64) (u : S) (H : Heap) (locs : List Loc) (pc : Nat) (ls : Array Slot), post r u → va_P (dC, dI) vwCl (wo u) H → va_D A (wo u) → va_S A s.heap H locs → decode bytes pc = .ok (.lreturn, 1) → W p l e { frames := fr, cells := 0, slots := 0, locals := lo } s m args.toArray below meth c H locs 0 0 Q (F0 m pc ls [.long r])) →
      va_P (dC, dI) vwCl ws s.heap → va_D A ws → va_S A s.heap s.heap [] → lv_has ls maxL (lv_args 0 args) → W p l e { frames := fr, cells := 0, slots := 0, locals := lo } s m args.toArray below meth c s.heap [] 0 0 Q (F0 m 0 ls [])) : CtL l dC dI cI cJ base bB bO y bytes maxL fr lo args ws S post wo := by
  intro sz
  refine Met.ofW (cc := bytes) (maxL := maxL) (ret := some .long) hy rfl ?_
  intro p e s m args' below meth c s₁ B hml hv
  obtain ⟨rfl, hv⟩ := hv
  obtain ⟨hG, hP, hD, hS⟩ := AtG.of B hml hv
  have hl := lv_entry args (n := maxL) hle
  rw [lg_entry_eq]
  have hr := B.returns
  have hlocks := B.notSynchronized
  exact body p e s m below meth c _ _ _ hG (fun r u H locs pc ls hp hP hD hS hd => W.lret hG.1 hG.2.1 hr (fun t ht hW => ⟨⟨r, u, rfl, hp, ⟨by rw [ht]; exact hP, hD⟩⟩, hS.F ht⟩) hS.2.2 hd) hP hD hS hl
theorem entV {post : S → Prop} (hy : plainName y.cls = true) (hle : (lg_sl args).length ≤ maxL)
    (body : ∀ (p : Program) (e : Env) (s : State) (m : MethodId) (below : List Frame) (meth : Method) (c : Code) (A : Nat → Prop) (Q : State → Prop) (ls : Array Slot), AtG l dC dI cI cJ base bB bO y bytes maxL args p s m meth c A →
      (∀ (u : S) (H : Heap) (locs : List Loc) (pc : Nat) (ls : Array Slot), post u → va_P (dC, dI) vwCl (wo u) H → va_D A (wo u) → va_S A s.heap H locs → decode bytes pc = .ok (.return_, 1) → W p l e { frames := fr, cells := mc, slots := ms, locals := lo } s m args.toArray below meth c H locs mc ms Q (F0 m pc ls [])) →
      va_P (dC, dI) vwCl ws s.heap → va_D A ws → va_S A s.heap s.heap [] → lv_has ls maxL (lv_args 0 args) → W p l e { frames := fr, cells := mc, slots := ms, locals := lo } s m args.toArray below meth c s.heap [] 0 0 Q (F0 m 0 ls [])) : CtV l dC dI cI cJ base bB bO y bytes maxL mc ms fr lo args ws S post wo := by
  intro sz
  refine Met.ofW (cc := bytes) (maxL := maxL) (ret := none) hy rfl ?_
  intro p e s m args' below meth c s₁ B hml hv
  obtain ⟨rfl, hv⟩ := hv
  obtain ⟨hG, hP, hD, hS⟩ := AtG.of B hml hv
  have hl := lv_entry args (n := maxL) hle
  rw [lg_entry_eq]
  have hr := B.returns
  have hlocks := B.notSynchronized
  exact body p e s m below meth c _ _ _ hG (fun u H locs pc ls hp hP hD hS hd => W.vret hG.1 hG.2.1 hr (fun t ht hW => ⟨⟨u, rfl, hp, ⟨by rw [ht]; exact hP, hD⟩⟩, hS.F ht⟩) hS.2.2 hd) hP hD hS hl
end EN
section CALLS
variable {p : Program} {l : Launch} {e : Env} {R : Room} {s : State} {m : MethodId} {args : Array Value} {below : List Frame} {meth : Method} {c : Code} {H : Heap} {locs : List Loc} {cells slots : Nat} {Q : State → Prop}
variable {cc : ByteArray} {pc nL : Nat} {ls : Array Slot} {rest : List Value} {A : Nat → Prop}
variable {dC : Nat → ClassId} {dI : Nat → Nat → Nat} {cI cJ : ClassId} {base bB bO : Nat} {y : MethodName} {bytes : ByteArray} {maxL : Nat} {ret : FieldType} {fr lo n : Nat} {As : List Value} {S : Type} {wo : S → va_W} {ws wc wr : va_W} {own C : String} {index b : Nat}
/-- what a caller has at a call: the machine, its world, its statics -/
def CG (dC : Nat → ClassId) (dI : Nat → Nat → Nat) (cI cJ : ClassId) (base bB bO : Nat) (cc : ByteArray) (nL : Nat) (own : String) (p : Program) (s : State) (m : MethodId) (args : Array Value) (c : Code) (A : Nat → Prop) : Prop :=
  p.tables.exec = Jvm.exec ∧ c.code = cc ∧ c.maxLocals = nL ∧ s.vm.findClass own = some m.cls ∧ (∀ w ∈ gw, w.before args s = true) ∧ (∀ q, s.heap.size ≤ q → A q) ∧ (∀ q, A q → base ≤ q) ∧ va_K (dC, dI) vwCl (tysG cI cJ) s ∧ EnvX base bB bO s
theorem gw_wsV {rt : Option FieldType} (h1 : Cond.methodLink own index y ∈ gw) (h2 : Cond.instanceMethod y ∈ gw) (h3 : Cond.selects C y y ∈ gw) (h4 : Cond.initialized C ∈ gw) (h5 : Cond.code y bytes maxL rt ∈ gw) : GoodIn gw (wsV own index C y (Cond.code y bytes maxL rt :: gw)) := by
  refine gw_in (fun _ h => h) (fun w hw => ?_)
  simp only [wsV, List.cons_append, List.nil_append, List.mem_cons] at hw
  rcases hw with rfl | rfl | rfl | rfl | rfl | hw
  · exact h1
  · exact h2
  · exact h3
  · exact h4
  · exact h5
  · exact hw
theorem gw_wsS {rt : Option FieldType} (h1 : Cond.methodLink own index y ∈ gw) (h2 : Cond.static y ∈ gw) (h4 : Cond.initialized own ∈ gw) (h5 : Cond.code y bytes maxL rt ∈ gw) : GoodIn gw (wsS own index y (Cond.code y bytes maxL rt :: gw)) := by
  refine gw_in (fun _ h => h) (fun w hw => ?_)
  simp only [wsS, List.cons_append, List.nil_append, List.mem_cons] at hw
  rcases hw with rfl | rfl | rfl | rfl | hw
  · exact h1
  · exact h2
  · exact h4
  · exact h5
  · exact hw
theorem gw_cd {rt : Option FieldType} (h5 : Cond.code y bytes maxL rt ∈ gw) : GoodIn gw (Cond.code y bytes maxL rt :: gw) := gw_in (fun _ h => h) (fun w hw => by
  rcases List.mem_cons.mp hw with rfl | hw
  · exact h5
  · exact hw)
/-- the callee's start out of the caller's world -/
theorem pre_of (hG : CG dC dI cI cJ base bB bO cc nL own p s m args c A) (hP : va_P (dC, dI) vwCl ws H) (hD : va_D A ws) (hS : va_S A s.heap H locs) (isC : List Nat) (hC : isC.map (fun i => ws[i]?) = wc.map some) (hn : va_nd isC = true) (U : State) (hU : U.heap = H) (hW : s.WarmedH U.vm) : PreG dC dI cI cJ base bB bO wc H.size U := by
  obtain ⟨hx, hb, hml, hown, hts, hA, hAb, hK, hE⟩ := hG
  have hPc : va_P (dC, dI) vwCl wc H := hP.sub isC (by
    have h2 : (isC.map (fun i => ws[i]?)).filterMap id = (wc.map some).filterMap id := by rw [hC]
    simpa [List.filterMap_map, Function.comp_def] using h2)
  exact ⟨by rw [hU], by rw [hU]; exact hPc, va_K.moved hW.alike hK, (hD.sub isC hn hC).weaken (fun _ _ _ h => hAb _ h), hE.at hS hAb hU hW⟩
/-- invokevirtual, an int comes back -/
theorem calI {post : Int32 → S → Prop} (hG : CG dC dI cI cJ base bB bO cc nL own p s m args c A) (hM : CtI l dC dI cI cJ base bB bO y bytes maxL ret fr lo (.ref b :: As) wc S post wo) (w1 : Cond.methodLink own index y ∈ gw) (w2 : Cond.instanceMethod y ∈ gw) (w3 : Cond.selects C y y ∈ gw) (w4 : Cond.initialized C ∈ gw) (w5 : Cond.code y bytes maxL (some ret) ∈ gw)
    (hd : y.cls = C ∧ y.cls ≠ "java/lang/invoke/MethodHandle" ∧ y.cls ≠ "java/lang/invoke/VarHandle" ∧ (parseMethodDescriptor y.desc).map (fun d => d.parameters.length) = some As.length) (hR : fr + 1 ≤ R.frames ∧ 8 + (maxL + 11) + lo ≤ R.locals) (hc : cells ≤ R.cells) (hs : slots ≤ R.slots)
    (hP : va_P (dC, dI) vwCl ws H) (hD : va_D A ws) (hS : va_S A s.heap H locs) (isC isR : List Nat) (hC : isC.map (fun i => ws[i]?) = wc.map some) (hRr : isR.map (fun i => ws[i]?) = wr.map some) (hnC : va_nd isC = true) (hnR : va_nd isR = true) (hdis : ∀ i ∈ isR, i ∉ isC)
    (ci q0 : Nat) {fs : List Value} {T : u_T} {N : Nat} (hcl : vwCl[ci]? = some (C, T, N)) (he : ws[q0]? = some (b, .inr (ci, fs))) (hls : ls.size = nL) {st : List Value} (hst : st = As.reverse ++ .ref b :: rest) (hw8 : (rest.map fun v => v.category).sum ≤ 8) (hdg : decode cc pc = .ok (.invokevirtual index, 3))
    (kk : ∀ (r : Int32) (u : S) (H1 : Heap) (locs1 : List Loc), post r u → va_P (dC, dI) vwCl (wr ++ wo u) H1 → va_D A (wr ++ wo u) → va_S A s.heap H1 locs1 → W p l e R s m args below meth c H1 locs1 cells slots Q (F0 m (pc + 3) ls (.int r :: rest))) : W p l e R s m args below meth c H locs cells slots Q (F0 m pc ls st) := by
  subst hst
  have hpre := pre_of hG hP hD hS isC hC hnC
  obtain ⟨hx, hb, hml, hown, hts, hA, hAb, hK, hE⟩ := hG
  have hFc := va_free (wc := wc) hD hS hA isC hC
  refine va_calli (va_runV (As := As) (rest := rest) (n := As.length) ⟨hx, hb, hml, hown, hts⟩ (hM H.size) (cwV As.length hts (gw_wsV w1 w2 w3 w4 w5) rfl rfl rfl hd hR) ⟨PreG.blind, va_recv hK hP hcl he, fun U hU hW => ⟨rfl, hpre U hU hW⟩⟩ rfl rfl hls rfl (lv_room hw8) hdg ⟨hc, hs⟩) hS (fun q _ h => hFc q h) hFc (fun r u t H1 locs1 ht hvm hw hB hz1 hk1 hS1 => ?_)
  obtain ⟨hP1, hD1⟩ := hB
  rw [ht] at hP1
  obtain ⟨hP2, hD2⟩ := va_join (wr := wr) (w1 := wo u) hP hD isC isR hC hRr hnR hdis hk1 hFc hP1 hD1
  exact kk r u H1 locs1 hw hP2 hD2 hS1
theorem calL {post : Int64 → S → Prop} (hG : CG dC dI cI cJ base bB bO cc nL own p s m args c A) (hM : CtL l dC dI cI cJ base bB bO y bytes maxL fr lo (.ref b :: As) wc S post wo) (w1 : Cond.methodLink own index y ∈ gw) (w2 : Cond.instanceMethod y ∈ gw) (w3 : Cond.selects C y y ∈ gw) (w4 : Cond.initialized C ∈ gw) (w5 : Cond.code y bytes maxL (some .long) ∈ gw)
    (hd : y.cls = C ∧ y.cls ≠ "java/lang/invoke/MethodHandle" ∧ y.cls ≠ "java/lang/invoke/VarHandle" ∧ (parseMethodDescriptor y.desc).map (fun d => d.parameters.length) = some As.length) (hR : fr + 1 ≤ R.frames ∧ 8 + (maxL + 11) + lo ≤ R.locals) (hc : cells ≤ R.cells) (hs : slots ≤ R.slots)
    (hP : va_P (dC, dI) vwCl ws H) (hD : va_D A ws) (hS : va_S A s.heap H locs) (isC isR : List Nat) (hC : isC.map (fun i => ws[i]?) = wc.map some) (hRr : isR.map (fun i => ws[i]?) = wr.map some) (hnC : va_nd isC = true) (hnR : va_nd isR = true) (hdis : ∀ i ∈ isR, i ∉ isC)
    (ci q0 : Nat) {fs : List Value} {T : u_T} {N : Nat} (hcl : vwCl[ci]? = some (C, T, N)) (he : ws[q0]? = some (b, .inr (ci, fs))) (hls : ls.size = nL) {st : List Value} (hst : st = As.reverse ++ .ref b :: rest) (hw8 : (rest.map fun v => v.category).sum ≤ 8) (hdg : decode cc pc = .ok (.invokevirtual index, 3))
    (kk : ∀ (r : Int64) (u : S) (H1 : Heap) (locs1 : List Loc), post r u → va_P (dC, dI) vwCl (wr ++ wo u) H1 → va_D A (wr ++ wo u) → va_S A s.heap H1 locs1 → W p l e R s m args below meth c H1 locs1 cells slots Q (F0 m (pc + 3) ls (.long r :: rest))) : W p l e R s m args below meth c H locs cells slots Q (F0 m pc ls st) := by
  subst hst
  have hpre := pre_of hG hP hD hS isC hC hnC
  obtain ⟨hx, hb, hml, hown, hts, hA, hAb, hK, hE⟩ := hG
  have hFc := va_free (wc := wc) hD hS hA isC hC
  refine va_calll (va_runV (As := As) (rest := rest) (n := As.length) ⟨hx, hb, hml, hown, hts⟩ (hM H.size) (cwV As.length hts (gw_wsV w1 w2 w3 w4 w5) rfl rfl rfl hd hR) ⟨PreG.blind, va_recv hK hP hcl he, fun U hU hW => ⟨rfl, hpre U hU hW⟩⟩ rfl rfl hls rfl (lv_room hw8) hdg ⟨hc, hs⟩) hS (fun q _ h => hFc q h) hFc (fun r u t H1 locs1 ht hvm hw hB hz1 hk1 hS1 => ?_)
  obtain ⟨hP1, hD1⟩ := hB
  rw [ht] at hP1
  obtain ⟨hP2, hD2⟩ := va_join (wr := wr) (w1 := wo u) hP hD isC isR hC hRr hnR hdis hk1 hFc hP1 hD1
  exact kk r u H1 locs1 hw hP2 hD2 hS1
/-- invokevirtual, nothing comes back -/
theorem calV {post : S → Prop} {mc ms : Nat} (hG : CG dC dI cI cJ base bB bO cc nL own p s m args c A) (hM : CtV l dC dI cI cJ base bB bO y bytes maxL mc ms fr lo (.ref b :: As) wc S post wo) (w1 : Cond.methodLink own index y ∈ gw) (w2 : Cond.instanceMethod y ∈ gw) (w3 : Cond.selects C y y ∈ gw) (w4 : Cond.initialized C ∈ gw) (w5 : Cond.code y bytes maxL none ∈ gw)
    (hd : y.cls = C ∧ y.cls ≠ "java/lang/invoke/MethodHandle" ∧ y.cls ≠ "java/lang/invoke/VarHandle" ∧ (parseMethodDescriptor y.desc).map (fun d => d.parameters.length) = some As.length) (hR : fr + 1 ≤ R.frames ∧ 8 + (maxL + 11) + lo ≤ R.locals) (hc : cells + mc ≤ R.cells) (hs : slots + ms ≤ R.slots)
    (hP : va_P (dC, dI) vwCl ws H) (hD : va_D A ws) (hS : va_S A s.heap H locs) (isC isR : List Nat) (hC : isC.map (fun i => ws[i]?) = wc.map some) (hRr : isR.map (fun i => ws[i]?) = wr.map some) (hnC : va_nd isC = true) (hnR : va_nd isR = true) (hdis : ∀ i ∈ isR, i ∉ isC)
    (ci q0 : Nat) {fs : List Value} {T : u_T} {N : Nat} (hcl : vwCl[ci]? = some (C, T, N)) (he : ws[q0]? = some (b, .inr (ci, fs))) (hls : ls.size = nL) {st : List Value} (hst : st = As.reverse ++ .ref b :: rest) (hw8 : (rest.map fun v => v.category).sum ≤ 8) (hdg : decode cc pc = .ok (.invokevirtual index, 3))
    (kk : ∀ (u : S) (H1 : Heap) (locs1 : List Loc), post u → va_P (dC, dI) vwCl (wr ++ wo u) H1 → va_D A (wr ++ wo u) → va_S A s.heap H1 locs1 → W p l e R s m args below meth c H1 locs1 (cells + mc) (slots + ms) Q (F0 m (pc + 3) ls rest)) : W p l e R s m args below meth c H locs cells slots Q (F0 m pc ls st) := by
  subst hst
  have hpre := pre_of hG hP hD hS isC hC hnC
  obtain ⟨hx, hb, hml, hown, hts, hA, hAb, hK, hE⟩ := hG
  have hFc := va_free (wc := wc) hD hS hA isC hC
  refine va_callv (va_runV (As := As) (rest := rest) (n := As.length) ⟨hx, hb, hml, hown, hts⟩ (hM H.size) (cwV As.length hts (gw_wsV w1 w2 w3 w4 w5) rfl rfl rfl hd hR) ⟨PreG.blind, va_recv hK hP hcl he, fun U hU hW => ⟨rfl, hpre U hU hW⟩⟩ rfl rfl hls rfl (lv_room hw8) hdg ⟨hc, hs⟩) hS (fun q _ h => hFc q h) hFc (fun u t H1 locs1 ht hvm hw hB hz1 hk1 hS1 => ?_)
  obtain ⟨hP1, hD1⟩ := hB
  rw [ht] at hP1
  obtain ⟨hP2, hD2⟩ := va_join (wr := wr) (w1 := wo u) hP hD isC isR hC hRr hnR hdis hk1 hFc hP1 hD1
  exact kk u H1 locs1 hw hP2 hD2 hS1
/-- invokestatic, an int comes back -/
theorem calSI {post : Int32 → S → Prop} (hG : CG dC dI cI cJ base bB bO cc nL own p s m args c A) (hM : CtI l dC dI cI cJ base bB bO y bytes maxL ret fr lo As wc S post wo) (w1 : Cond.methodLink own index y ∈ gw) (w2 : Cond.static y ∈ gw) (w4 : Cond.initialized own ∈ gw) (w5 : Cond.code y bytes maxL (some ret) ∈ gw)
    (hd : y.cls = own ∧ y.cls ≠ "java/lang/invoke/MethodHandle" ∧ y.cls ≠ "java/lang/invoke/VarHandle" ∧ (parseMethodDescriptor y.desc).map (fun d => d.parameters.length) = some As.length) (hR : fr + 1 ≤ R.frames ∧ 8 + (maxL + 11) + lo ≤ R.locals) (hc : cells ≤ R.cells) (hs : slots ≤ R.slots)
    (hP : va_P (dC, dI) vwCl ws H) (hD : va_D A ws) (hS : va_S A s.heap H locs) (isC isR : List Nat) (hC : isC.map (fun i => ws[i]?) = wc.map some) (hRr : isR.map (fun i => ws[i]?) = wr.map some) (hnC : va_nd isC = true) (hnR : va_nd isR = true) (hdis : ∀ i ∈ isR, i ∉ isC)
    (hls : ls.size = nL) {st : List Value} (hst : st = As.reverse ++ rest) (hw8 : (rest.map fun v => v.category).sum ≤ 8) (hdg : decode cc pc = .ok (.invokestatic index, 3))
    (kk : ∀ (r : Int32) (u : S) (H1 : Heap) (locs1 : List Loc), post r u → va_P (dC, dI) vwCl (wr ++ wo u) H1 → va_D A (wr ++ wo u) → va_S A s.heap H1 locs1 → W p l e R s m args below meth c H1 locs1 cells slots Q (F0 m (pc + 3) ls (.int r :: rest))) : W p l e R s m args below meth c H locs cells slots Q (F0 m pc ls st) := by
  subst hst
  have hpre := pre_of hG hP hD hS isC hC hnC
  obtain ⟨hx, hb, hml, hown, hts, hA, hAb, hK, hE⟩ := hG
  have hFc := va_free (wc := wc) hD hS hA isC hC
  refine va_calli (va_runS (As := As) (rest := rest) (n := As.length) ⟨hx, hb, hml, hown, hts⟩ (hM H.size) (cwS As.length hts (gw_wsS w1 w2 w4 w5) rfl rfl rfl hd hR) ⟨PreG.blind, fun U hU hW => ⟨rfl, hpre U hU hW⟩⟩ rfl rfl hls rfl (lv_room hw8) hdg ⟨hc, hs⟩) hS (fun q _ h => hFc q h) hFc (fun r u t H1 locs1 ht hvm hw hB hz1 hk1 hS1 => ?_)
  obtain ⟨hP1, hD1⟩ := hB
  rw [ht] at hP1
  obtain ⟨hP2, hD2⟩ := va_join (wr := wr) (w1 := wo u) hP hD isC isR hC hRr hnR hdis hk1 hFc hP1 hD1
  exact kk r u H1 locs1 hw hP2 hD2 hS1
theorem calSL {post : Int64 → S → Prop} (hG : CG dC dI cI cJ base bB bO cc nL own p s m args c A) (hM : CtL l dC dI cI cJ base bB bO y bytes maxL fr lo As wc S post wo) (w1 : Cond.methodLink own index y ∈ gw) (w2 : Cond.static y ∈ gw) (w4 : Cond.initialized own ∈ gw) (w5 : Cond.code y bytes maxL (some .long) ∈ gw)
    (hd : y.cls = own ∧ y.cls ≠ "java/lang/invoke/MethodHandle" ∧ y.cls ≠ "java/lang/invoke/VarHandle" ∧ (parseMethodDescriptor y.desc).map (fun d => d.parameters.length) = some As.length) (hR : fr + 1 ≤ R.frames ∧ 8 + (maxL + 11) + lo ≤ R.locals) (hc : cells ≤ R.cells) (hs : slots ≤ R.slots)
    (hP : va_P (dC, dI) vwCl ws H) (hD : va_D A ws) (hS : va_S A s.heap H locs) (isC isR : List Nat) (hC : isC.map (fun i => ws[i]?) = wc.map some) (hRr : isR.map (fun i => ws[i]?) = wr.map some) (hnC : va_nd isC = true) (hnR : va_nd isR = true) (hdis : ∀ i ∈ isR, i ∉ isC)
    (hls : ls.size = nL) {st : List Value} (hst : st = As.reverse ++ rest) (hw8 : (rest.map fun v => v.category).sum ≤ 8) (hdg : decode cc pc = .ok (.invokestatic index, 3))
    (kk : ∀ (r : Int64) (u : S) (H1 : Heap) (locs1 : List Loc), post r u → va_P (dC, dI) vwCl (wr ++ wo u) H1 → va_D A (wr ++ wo u) → va_S A s.heap H1 locs1 → W p l e R s m args below meth c H1 locs1 cells slots Q (F0 m (pc + 3) ls (.long r :: rest))) : W p l e R s m args below meth c H locs cells slots Q (F0 m pc ls st) := by
  subst hst
  have hpre := pre_of hG hP hD hS isC hC hnC
  obtain ⟨hx, hb, hml, hown, hts, hA, hAb, hK, hE⟩ := hG
  have hFc := va_free (wc := wc) hD hS hA isC hC
  refine va_calll (va_runS (As := As) (rest := rest) (n := As.length) ⟨hx, hb, hml, hown, hts⟩ (hM H.size) (cwS As.length hts (gw_wsS w1 w2 w4 w5) rfl rfl rfl hd hR) ⟨PreG.blind, fun U hU hW => ⟨rfl, hpre U hU hW⟩⟩ rfl rfl hls rfl (lv_room hw8) hdg ⟨hc, hs⟩) hS (fun q _ h => hFc q h) hFc (fun r u t H1 locs1 ht hvm hw hB hz1 hk1 hS1 => ?_)
  obtain ⟨hP1, hD1⟩ := hB
  rw [ht] at hP1
  obtain ⟨hP2, hD2⟩ := va_join (wr := wr) (w1 := wo u) hP hD isC isR hC hRr hnR hdis hk1 hFc hP1 hD1
  exact kk r u H1 locs1 hw hP2 hD2 hS1
/-- invokestatic of a nest mate, an int comes back -/
theorem calNI {post : Int32 → S → Prop} (hG : CG dC dI cI cJ base bB bO cc nL own p s m args c A) (hM : CtI l dC dI cI cJ base bB bO y bytes maxL ret fr lo As wc S post wo) (w1 : Cond.methodLinkNest own index y RX8 ∈ nestW) (w2 : Cond.static y ∈ gw) (w4 : Cond.initialized y.cls ∈ gw) (w5 : Cond.code y bytes maxL (some ret) ∈ gw)
    (hd : y.cls ≠ "java/lang/invoke/MethodHandle" ∧ y.cls ≠ "java/lang/invoke/VarHandle" ∧ (parseMethodDescriptor y.desc).map (fun d => d.parameters.length) = some As.length) (hR : fr + 1 ≤ R.frames ∧ 8 + (maxL + 11) + lo ≤ R.locals) (hc : cells ≤ R.cells) (hs : slots ≤ R.slots)
    (hP : va_P (dC, dI) vwCl ws H) (hD : va_D A ws) (hS : va_S A s.heap H locs) (isC isR : List Nat) (hC : isC.map (fun i => ws[i]?) = wc.map some) (hRr : isR.map (fun i => ws[i]?) = wr.map some) (hnC : va_nd isC = true) (hnR : va_nd isR = true) (hdis : ∀ i ∈ isR, i ∉ isC)
    (hls : ls.size = nL) {st : List Value} (hst : st = As.reverse ++ rest) (hw8 : (rest.map fun v => v.category).sum ≤ 8) (hdg : decode cc pc = .ok (.invokestatic index, 3))
    (kk : ∀ (r : Int32) (u : S) (H1 : Heap) (locs1 : List Loc), post r u → va_P (dC, dI) vwCl (wr ++ wo u) H1 → va_D A (wr ++ wo u) → va_S A s.heap H1 locs1 → W p l e R s m args below meth c H1 locs1 cells slots Q (F0 m (pc + 3) ls (.int r :: rest))) : W p l e R s m args below meth c H locs cells slots Q (F0 m pc ls st) := by
  subst hst
  have hpre := pre_of hG hP hD hS isC hC hnC
  obtain ⟨hx, hb, hml, hown, hts, hA, hAb, hK, hE⟩ := hG
  have hFc := va_free (wc := wc) hD hS hA isC hC
  refine va_calli (va_runSN (As := As) (rest := rest) (n := As.length) ⟨hx, hb, hml, hown, hts⟩ (hM H.size) ⟨va_cnB (host := RX8) As.length hts (gw_cd w5) rfl rfl rfl (hE.2.2.2.2.2.2.2 _ w1) (hts _ w4) hd hR, hts _ w2, trivial⟩ ⟨PreG.blind, fun U hU hW => ⟨rfl, hpre U hU hW⟩⟩ rfl rfl hls rfl (lv_room hw8) hdg ⟨hc, hs⟩) hS (fun q _ h => hFc q h) hFc (fun r u t H1 locs1 ht hvm hw hB hz1 hk1 hS1 => ?_)
  obtain ⟨hP1, hD1⟩ := hB
  rw [ht] at hP1
  obtain ⟨hP2, hD2⟩ := va_join (wr := wr) (w1 := wo u) hP hD isC isR hC hRr hnR hdis hk1 hFc hP1 hD1
  exact kk r u H1 locs1 hw hP2 hD2 hS1
end CALLS
/-! numbers -/
theorem I_add (a b : Int32) : ∃ k : Int, (a + b).toInt = a.toInt + b.toInt + 4294967296 * k ∧ -2147483648 ≤ (a + b).toInt ∧ (a + b).toInt ≤ 2147483647 ∧ -1 ≤ k ∧ k ≤ 1 := by
  have h1 := Int32.le_toInt a; have h2 := Int32.toInt_lt a; have h3 := Int32.le_toInt b; have h4 := Int32.toInt_lt b
  have h5 := Int32.le_toInt (a + b); have h6 := Int32.toInt_lt (a + b)
  have h := Int32.toInt_add a b
  rw [Int.bmod_def] at h
  split at h
  · exact ⟨-((a.toInt + b.toInt) / 4294967296), by omega, by omega, by omega, by omega, by omega⟩
  · exact ⟨-((a.toInt + b.toInt) / 4294967296) - 1, by omega, by omega, by omega, by omega, by omega⟩
theorem I_sub (a b : Int32) : ∃ k : Int, (a - b).toInt = a.toInt - b.toInt + 4294967296 * k ∧ -2147483648 ≤ (a - b).toInt ∧ (a - b).toInt ≤ 2147483647 ∧ -1 ≤ k ∧ k ≤ 1 := by
  have h1 := Int32.le_toInt a; have h2 := Int32.toInt_lt a; have h3 := Int32.le_toInt b; have h4 := Int32.toInt_lt b
  have h5 := Int32.le_toInt (a - b); have h6 := Int32.toInt_lt (a - b)
  have h := Int32.toInt_sub a b
  rw [Int.bmod_def] at h
  split at h
  · exact ⟨-((a.toInt - b.toInt) / 4294967296), by omega, by omega, by omega, by omega, by omega⟩
  · exact ⟨-((a.toInt - b.toInt) / 4294967296) - 1, by omega, by omega, by omega, by omega, by omega⟩
theorem I_mulc (a b : Int32) (c : Int) (hc : b.toInt = c) : ∃ k : Int, (a * b).toInt = a.toInt * c + 4294967296 * k ∧ -2147483648 ≤ (a * b).toInt ∧ (a * b).toInt ≤ 2147483647 := by
  have h5 := Int32.le_toInt (a * b); have h6 := Int32.toInt_lt (a * b)
  have h := Int32.toInt_mul a b
  rw [hc, Int.bmod_def] at h
  split at h
  · exact ⟨-((a.toInt * c) / 4294967296), by omega, by omega, by omega⟩
  · exact ⟨-((a.toInt * c) / 4294967296) - 1, by omega, by omega, by omega⟩
theorem I_rng (a : Int32) : -2147483648 ≤ a.toInt ∧ a.toInt ≤ 2147483647 := ⟨Int32.le_toInt a, by have := Int32.toInt_lt a; omega⟩
theorem I_in {i : Int32} {n : Nat} (h0 : 0 ≤ i.toInt) (h1 : i.toInt < (n : Int)) : vp_in i n := by
  rintro (h | h)
  · have := Int32.lt_iff_toInt_lt.mp h
    simp at this
    omega
  · have e : i.toNatClampNeg = i.toInt.toNat := rfl
    rw [e] at h
    omega
theorem I_nat {i : Int32} : i.toNatClampNeg = i.toInt.toNat := rfl
theorem I_lt {a b : Int32} (h : a < b) : a.toInt < b.toInt := Int32.lt_iff_toInt_lt.mp h
theorem I_nlt {a b : Int32} (h : ¬ a < b) : b.toInt ≤ a.toInt := by
  have := mt Int32.lt_iff_toInt_lt.mpr h
  omega
theorem I_le {a b : Int32} (h : a ≤ b) : a.toInt ≤ b.toInt := Int32.le_iff_toInt_le.mp h
theorem I_nle {a b : Int32} (h : ¬ a ≤ b) : b.toInt < a.toInt := by
  have := mt Int32.le_iff_toInt_le.mpr h
  omega
theorem I_eq {a b : Int32} (h : a = b) : a.toInt = b.toInt := congrArg Int32.toInt h
theorem I_ne {a b : Int32} (h : ¬ a = b) : ¬ a.toInt = b.toInt := fun z => h (Int32.toInt_inj.mp z)
theorem upd_at {f : Nat → Int32} {k j : Nat} {x : Int32} : upd f k x j = if j = k then x else f j := rfl
theorem upd_all {P : Int32 → Prop} {f : Nat → Int32} (h : ∀ j, P (f j)) {x : Int32} (hx : P x) (k : Nat) : ∀ j, P (upd f k x j) := fun j => by
  rw [upd_at]; split
  · exact hx
  · exact h j
