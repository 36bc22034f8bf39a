section CALLS
variable {p : Program} {l : Launch} {e : Env} {R : Room} {s : State} {m : MethodId} {args : Array Value} {below : List Frame} {meth : Method} {c : Code} {H : Heap} {locs : List Loc} {cells slots : Nat} {Q : State → Prop}
variable {cc : ByteArray} {pc nL : Nat} {ls : Array Slot} {rest : List Value} {A : Nat → Prop}
variable {dC : Nat → ClassId} {dI : Nat → Nat → Nat} {cI cJ : ClassId} {base bB bO : Nat} {y : MethodName} {bytes : ByteArray} {maxL : Nat} {ret : FieldType} {fr lo n : Nat} {As : List Value} {S : Type} {wo : S → va_W} {ws wc wr : va_W} {own C : String} {index b : Nat}
theorem calOI {post : Int32 → S → Prop} (hG : CG dC dI cI cJ base bB bO cc nL own p s m args c A) (hM : CtI l dC dI cI cJ base bB bO y bytes maxL ret fr lo As wc S post wo) (w1 : Cond.methodLink own index y ∈ gw) (w2 : Cond.static y ∈ gw) (w4 : Cond.initialized y.cls ∈ gw) (w5 : Cond.code y bytes maxL (some ret) ∈ gw)
    (hd : y.cls ≠ "java/lang/invoke/MethodHandle" ∧ y.cls ≠ "java/lang/invoke/VarHandle" ∧ (parseMethodDescriptor y.desc).map (fun d => d.parameters.length) = some As.length) (hR : fr + 1 ≤ R.frames ∧ 8 + (maxL + 11) + lo ≤ R.locals) (hc : cells ≤ R.cells) (hs : slots ≤ R.slots)
    (hP : va_P (dC, dI) vwCl ws H) (hD : va_D A ws) (hS : va_S A s.heap H locs) (isC isR : List Nat) (hC : isC.map (fun i => ws[i]?) = wc.map some) (hRr : isR.map (fun i => ws[i]?) = wr.map some) (hnC : va_nd isC = true) (hnR : va_nd isR = true) (hdis : ∀ i ∈ isR, i ∉ isC)
    (hls : ls.size = nL) {st : List Value} (hst : st = As.reverse ++ rest) (hw8 : (rest.map fun v => v.category).sum ≤ 8) (hdg : decode cc pc = .ok (.invokestatic index, 3))
    (kk : ∀ (r : Int32) (u : S) (H1 : Heap) (locs1 : List Loc), post r u → va_P (dC, dI) vwCl (wr ++ wo u) H1 → va_D A (wr ++ wo u) → va_S A s.heap H1 locs1 → W p l e R s m args below meth c H1 locs1 cells slots Q (F0 m (pc + 3) ls (.int r :: rest))) : W p l e R s m args below meth c H locs cells slots Q (F0 m pc ls st) := by
  subst hst
  have hpre := pre_of hG hP hD hS isC hC hnC
  obtain ⟨hx, hb, hml, hown, hts, hA, hAb, hK, hE⟩ := hG
  have hFc := va_free (wc := wc) hD hS hA isC hC
  refine va_calli (va_runS (As := As) (rest := rest) (n := As.length) ⟨hx, hb, hml, hown, hts⟩ (hM H.size) ⟨callB_of As.length hts (gw_cd w5) rfl rfl rfl (hts _ w4) (hts _ w1) hd hR, hts _ w2⟩ ⟨PreG.blind, fun U hU hW => ⟨rfl, hpre U hU hW⟩⟩ rfl rfl hls rfl (lv_room hw8) hdg ⟨hc, hs⟩) hS (fun q _ h => hFc q h) hFc (fun r u t H1 locs1 ht hvm hw hB hz1 hk1 hS1 => ?_)
  obtain ⟨hP1, hD1⟩ := hB
  rw [ht] at hP1
  obtain ⟨hP2, hD2⟩ := va_join (wr := wr) (w1 := wo u) hP hD isC isR hC hRr hnR hdis hk1 hFc hP1 hD1
  exact kk r u H1 locs1 hw hP2 hD2 hS1
theorem calOL {post : Int64 → S → Prop} (hG : CG dC dI cI cJ base bB bO cc nL own p s m args c A) (hM : CtL l dC dI cI cJ base bB bO y bytes maxL fr lo As wc S post wo) (w1 : Cond.methodLink own index y ∈ gw) (w2 : Cond.static y ∈ gw) (w4 : Cond.initialized y.cls ∈ gw) (w5 : Cond.code y bytes maxL (some .long) ∈ gw)
    (hd : y.cls ≠ "java/lang/invoke/MethodHandle" ∧ y.cls ≠ "java/lang/invoke/VarHandle" ∧ (parseMethodDescriptor y.desc).map (fun d => d.parameters.length) = some As.length) (hR : fr + 1 ≤ R.frames ∧ 8 + (maxL + 11) + lo ≤ R.locals) (hc : cells ≤ R.cells) (hs : slots ≤ R.slots)
    (hP : va_P (dC, dI) vwCl ws H) (hD : va_D A ws) (hS : va_S A s.heap H locs) (isC isR : List Nat) (hC : isC.map (fun i => ws[i]?) = wc.map some) (hRr : isR.map (fun i => ws[i]?) = wr.map some) (hnC : va_nd isC = true) (hnR : va_nd isR = true) (hdis : ∀ i ∈ isR, i ∉ isC)
    (hls : ls.size = nL) {st : List Value} (hst : st = As.reverse ++ rest) (hw8 : (rest.map fun v => v.category).sum ≤ 8) (hdg : decode cc pc = .ok (.invokestatic index, 3))
    (kk : ∀ (r : Int64) (u : S) (H1 : Heap) (locs1 : List Loc), post r u → va_P (dC, dI) vwCl (wr ++ wo u) H1 → va_D A (wr ++ wo u) → va_S A s.heap H1 locs1 → W p l e R s m args below meth c H1 locs1 cells slots Q (F0 m (pc + 3) ls (.long r :: rest))) : W p l e R s m args below meth c H locs cells slots Q (F0 m pc ls st) := by
  subst hst
  have hpre := pre_of hG hP hD hS isC hC hnC
  obtain ⟨hx, hb, hml, hown, hts, hA, hAb, hK, hE⟩ := hG
  have hFc := va_free (wc := wc) hD hS hA isC hC
  refine va_calll (va_runS (As := As) (rest := rest) (n := As.length) ⟨hx, hb, hml, hown, hts⟩ (hM H.size) ⟨callB_of As.length hts (gw_cd w5) rfl rfl rfl (hts _ w4) (hts _ w1) hd hR, hts _ w2⟩ ⟨PreG.blind, fun U hU hW => ⟨rfl, hpre U hU hW⟩⟩ rfl rfl hls rfl (lv_room hw8) hdg ⟨hc, hs⟩) hS (fun q _ h => hFc q h) hFc (fun r u t H1 locs1 ht hvm hw hB hz1 hk1 hS1 => ?_)
  obtain ⟨hP1, hD1⟩ := hB
  rw [ht] at hP1
  obtain ⟨hP2, hD2⟩ := va_join (wr := wr) (w1 := wo u) hP hD isC isR hC hRr hnR hdis hk1 hFc hP1 hD1
  exact kk r u H1 locs1 hw hP2 hD2 hS1
end CALLS
