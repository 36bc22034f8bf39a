set_option maxHeartbeats 4000000 in
set_option maxRecDepth 100000 in
theorem c_X2_size (l : Launch) (dC : Nat → ClassId) (dI : Nat → Nat → Nat) (cI cJ : ClassId) (base bB bO : Nat) (g : Nat) (gh : Nat) (gr : Nat) (gl : Nat) (gk : Nat) (gd : Nat) (gm : Nat) (gsz : Int32) (gcn : Int32) (gov : Int32)  : CtI l dC dI cI cJ base bB bO yX2_size cX2_size 1 .int 0 0 [.ref g] [(g, .inr (2, [.ref gh, .ref gr, .ref gl, .ref gk, .ref gd, .ref gm, .int gsz, .int gcn, .int gov]))] (Unit) (fun (res : Int32) (u : Unit) => (res = gsz) ∧ True) (fun (u : Unit) => [(g, .inr (2, [.ref gh, .ref gr, .ref gl, .ref gk, .ref gd, .ref gm, .int gsz, .int gcn, .int gov]))]) := by
  refine entI (by decide) (Nat.le_of_ble_eq_true rfl) ?_
  intro p e s m below meth c A Q ls hAt hret hP hD hS hl
  obtain ⟨hx, hb, hml, hown, hts, hA, hAb, hK, hE, hlocks, hin⟩ := hAt
  have hG : CG dC dI cI cJ base bB bO cX2_size 1 RX2 p s m (List.toArray [.ref g]) c A := ⟨hx, hb, hml, hown, hts, hA, hAb, hK, hE⟩
  have hl : lv_has ls 1 [(0, .ref g)] := hl
  have c_0 : (0 : Int32).toInt = 0 := by decide
  have c_1 : (1 : Int32).toInt = 1 := by decide
  obtain ⟨H, hHe⟩ : ∃ H : Heap, H = s.heap := ⟨_, rfl⟩
  obtain ⟨locs, hle⟩ : ∃ z : List Loc, z = [] := ⟨_, rfl⟩
  rw [← hHe] at hP
  have hS : va_S A s.heap H locs := by rw [hHe, hle]; exact hS
  suffices hgo : W p l e { frames := 0, cells := 0, slots := 0, locals := 0 } s m (List.toArray [.ref g]) below meth c H locs 0 0 Q (F0 m 0 ls []) by rw [hHe, hle] at hgo; exact hgo
  refine lv_aload_n hx hb dX2_size_0 rfl (lv_at hl 0 rfl) ?_
  refine va_get (D := (dC, dI)) (ci := 2) (v := .int gsz) (C := RX2) (T := TX2) (N := 9) hx hb hts inG_X2 hown hK hP 0 rfl rfl 6 (by decide) (hts _ fl_X2_35) (fun _ h9 => h9) rfl dX2_size_1 ?_
  exact hret gsz () H locs 4 ls rfl ⟨(show gsz = gsz from by first | rfl | assumption | omega), trivial⟩ hP hD hS dX2_size_4
set_option maxHeartbeats 4000000 in
set_option maxRecDepth 100000 in
theorem c_X2_has (l : Launch) (dC : Nat → ClassId) (dI : Nat → Nat → Nat) (cI cJ : ClassId) (base bB bO : Nat) (g : Nat) (gh : Nat) (gr : Nat) (gl : Nat) (gk : Nat) (gd : Nat) (gm : Nat) (gsz : Int32) (gcn : Int32) (gov : Int32) (i : Int32)  : CtI l dC dI cI cJ base bB bO yX2_has cX2_has 2 .boolean 0 0 [.ref g, .int i] [(g, .inr (2, [.ref gh, .ref gr, .ref gl, .ref gk, .ref gd, .ref gm, .int gsz, .int gcn, .int gov]))] (Unit) (fun (res : Int32) (u : Unit) => ((res.toInt = 1 ∧ 0 ≤ i.toInt ∧ i.toInt < gsz.toInt) ∨ (res.toInt = 0 ∧ (i.toInt < 0 ∨ gsz.toInt ≤ i.toInt))) ∧ True) (fun (u : Unit) => [(g, .inr (2, [.ref gh, .ref gr, .ref gl, .ref gk, .ref gd, .ref gm, .int gsz, .int gcn, .int gov]))]) := by
  refine entI (by decide) (Nat.le_of_ble_eq_true rfl) ?_
  intro p e s m below meth c A Q ls hAt hret hP hD hS hl
  obtain ⟨hx, hb, hml, hown, hts, hA, hAb, hK, hE, hlocks, hin⟩ := hAt
  have hG : CG dC dI cI cJ base bB bO cX2_has 2 RX2 p s m (List.toArray [.ref g, .int i]) c A := ⟨hx, hb, hml, hown, hts, hA, hAb, hK, hE⟩
  have hl : lv_has ls 2 [(0, .ref g), (1, .int i)] := hl
  have c_0 : (0 : Int32).toInt = 0 := by decide
  have c_1 : (1 : Int32).toInt = 1 := by decide
  obtain ⟨H, hHe⟩ : ∃ H : Heap, H = s.heap := ⟨_, rfl⟩
  obtain ⟨locs, hle⟩ : ∃ z : List Loc, z = [] := ⟨_, rfl⟩
  rw [← hHe] at hP
  have hS : va_S A s.heap H locs := by rw [hHe, hle]; exact hS
  suffices hgo : W p l e { frames := 0, cells := 0, slots := 0, locals := 0 } s m (List.toArray [.ref g, .int i]) below meth c H locs 0 0 Q (F0 m 0 ls []) by rw [hHe, hle] at hgo; exact hgo
  refine lv_iload_n hx hb dX2_has_0 rfl (lv_at hl 1 rfl) ?_
  refine lv_if_lt (tgt := 16) hx hb dX2_has_1 (by decide) (fun c1 => ?_) (fun c1 => ?_)
  · have c1' := I_lt c1
    refine lv_iconst (v := 0) hx hb dX2_has_16 (by decide) ?_
    exact hret 0 () H locs 17 ls (by first | rfl | exact I_narz (by omega)) ⟨(show ((0 : Int32).toInt = 1 ∧ 0 ≤ i.toInt ∧ i.toInt < gsz.toInt) ∨ ((0 : Int32).toInt = 0 ∧ (i.toInt < 0 ∨ gsz.toInt ≤ i.toInt)) from by first | rfl | assumption | omega), trivial⟩ hP hD hS dX2_has_17
  · have c1' := I_nlt c1
    refine lv_iload_n hx hb dX2_has_4 rfl (lv_at hl 1 rfl) ?_
    refine lv_aload_n hx hb dX2_has_5 rfl (lv_at hl 0 rfl) ?_
    refine va_get (D := (dC, dI)) (ci := 2) (v := .int gsz) (C := RX2) (T := TX2) (N := 9) hx hb hts inG_X2 hown hK hP 0 rfl rfl 6 (by decide) (hts _ fl_X2_35) (fun _ h9 => h9) rfl dX2_has_6 ?_
    refine lv_icmp_ge (tgt := 16) hx hb dX2_has_9 (by decide) (fun c2 => ?_) (fun c2 => ?_)
    · have c2' := I_le c2
      refine lv_iconst (v := 0) hx hb dX2_has_16 (by decide) ?_
      exact hret 0 () H locs 17 ls (by first | rfl | exact I_narz (by omega)) ⟨(show ((0 : Int32).toInt = 1 ∧ 0 ≤ i.toInt ∧ i.toInt < gsz.toInt) ∨ ((0 : Int32).toInt = 0 ∧ (i.toInt < 0 ∨ gsz.toInt ≤ i.toInt)) from by first | rfl | assumption | omega), trivial⟩ hP hD hS dX2_has_17
    · have c2' := I_nle c2
      refine lv_iconst (v := 1) hx hb dX2_has_12 (by decide) ?_
      refine lv_goto (tgt := 17) hx hb dX2_has_13 (by decide) ?_
      exact hret 1 () H locs 17 ls (by first | rfl | exact I_narz (by omega)) ⟨(show ((1 : Int32).toInt = 1 ∧ 0 ≤ i.toInt ∧ i.toInt < gsz.toInt) ∨ ((1 : Int32).toInt = 0 ∧ (i.toInt < 0 ∨ gsz.toInt ≤ i.toInt)) from by first | rfl | assumption | omega), trivial⟩ hP hD hS dX2_has_17
set_option maxHeartbeats 4000000 in
set_option maxRecDepth 100000 in
theorem c_X2_isOverfull (l : Launch) (dC : Nat → ClassId) (dI : Nat → Nat → Nat) (cI cJ : ClassId) (base bB bO : Nat) (g : Nat) (gh : Nat) (gr : Nat) (gl : Nat) (gk : Nat) (gd : Nat) (gm : Nat) (gsz : Int32) (gcn : Int32) (gov : Int32) (hq0 : gov.toInt = 0 ∨ gov.toInt = 1) : CtI l dC dI cI cJ base bB bO yX2_isOverfull cX2_isOverfull 1 .boolean 0 0 [.ref g] [(g, .inr (2, [.ref gh, .ref gr, .ref gl, .ref gk, .ref gd, .ref gm, .int gsz, .int gcn, .int gov]))] (Unit) (fun (res : Int32) (u : Unit) => (res = gov) ∧ True) (fun (u : Unit) => [(g, .inr (2, [.ref gh, .ref gr, .ref gl, .ref gk, .ref gd, .ref gm, .int gsz, .int gcn, .int gov]))]) := by
  refine entI (by decide) (Nat.le_of_ble_eq_true rfl) ?_
  intro p e s m below meth c A Q ls hAt hret hP hD hS hl
  obtain ⟨hx, hb, hml, hown, hts, hA, hAb, hK, hE, hlocks, hin⟩ := hAt
  have hG : CG dC dI cI cJ base bB bO cX2_isOverfull 1 RX2 p s m (List.toArray [.ref g]) c A := ⟨hx, hb, hml, hown, hts, hA, hAb, hK, hE⟩
  have hl : lv_has ls 1 [(0, .ref g)] := hl
  have c_0 : (0 : Int32).toInt = 0 := by decide
  have c_1 : (1 : Int32).toInt = 1 := by decide
  obtain ⟨H, hHe⟩ : ∃ H : Heap, H = s.heap := ⟨_, rfl⟩
  obtain ⟨locs, hle⟩ : ∃ z : List Loc, z = [] := ⟨_, rfl⟩
  rw [← hHe] at hP
  have hS : va_S A s.heap H locs := by rw [hHe, hle]; exact hS
  suffices hgo : W p l e { frames := 0, cells := 0, slots := 0, locals := 0 } s m (List.toArray [.ref g]) below meth c H locs 0 0 Q (F0 m 0 ls []) by rw [hHe, hle] at hgo; exact hgo
  refine lv_aload_n hx hb dX2_isOverfull_0 rfl (lv_at hl 0 rfl) ?_
  refine va_get (D := (dC, dI)) (ci := 2) (v := .int gov) (C := RX2) (T := TX2) (N := 9) hx hb hts inG_X2 hown hK hP 0 rfl rfl 8 (by decide) (hts _ fl_X2_42) (fun _ h9 => h9) rfl dX2_isOverfull_1 ?_
  exact hret gov () H locs 4 ls (by first | rfl | exact I_narz (by omega)) ⟨(show gov = gov from by first | rfl | assumption | omega), trivial⟩ hP hD hS dX2_isOverfull_4
set_option maxHeartbeats 4000000 in
set_option maxRecDepth 100000 in
theorem c_X2_changesNeeded (l : Launch) (dC : Nat → ClassId) (dI : Nat → Nat → Nat) (cI cJ : ClassId) (base bB bO : Nat) (g : Nat) (gh : Nat) (gr : Nat) (gl : Nat) (gk : Nat) (gd : Nat) (gm : Nat) (gsz : Int32) (gcn : Int32) (gov : Int32)  : CtI l dC dI cI cJ base bB bO yX2_changesNeeded cX2_changesNeeded 1 .int 0 0 [.ref g] [(g, .inr (2, [.ref gh, .ref gr, .ref gl, .ref gk, .ref gd, .ref gm, .int gsz, .int gcn, .int gov]))] (Unit) (fun (res : Int32) (u : Unit) => True) (fun (u : Unit) => [(g, .inr (2, [.ref gh, .ref gr, .ref gl, .ref gk, .ref gd, .ref gm, .int gsz, .int gcn, .int gov]))]) := by
  refine entI (by decide) (Nat.le_of_ble_eq_true rfl) ?_
  intro p e s m below meth c A Q ls hAt hret hP hD hS hl
  obtain ⟨hx, hb, hml, hown, hts, hA, hAb, hK, hE, hlocks, hin⟩ := hAt
  have hG : CG dC dI cI cJ base bB bO cX2_changesNeeded 1 RX2 p s m (List.toArray [.ref g]) c A := ⟨hx, hb, hml, hown, hts, hA, hAb, hK, hE⟩
  have hl : lv_has ls 1 [(0, .ref g)] := hl
  have c_0 : (0 : Int32).toInt = 0 := by decide
  have c_1 : (1 : Int32).toInt = 1 := by decide
  obtain ⟨H, hHe⟩ : ∃ H : Heap, H = s.heap := ⟨_, rfl⟩
  obtain ⟨locs, hle⟩ : ∃ z : List Loc, z = [] := ⟨_, rfl⟩
  rw [← hHe] at hP
  have hS : va_S A s.heap H locs := by rw [hHe, hle]; exact hS
  suffices hgo : W p l e { frames := 0, cells := 0, slots := 0, locals := 0 } s m (List.toArray [.ref g]) below meth c H locs 0 0 Q (F0 m 0 ls []) by rw [hHe, hle] at hgo; exact hgo
  refine lv_aload_n hx hb dX2_changesNeeded_0 rfl (lv_at hl 0 rfl) ?_
  refine va_get (D := (dC, dI)) (ci := 2) (v := .int gcn) (C := RX2) (T := TX2) (N := 9) hx hb hts inG_X2 hown hK hP 0 rfl rfl 7 (by decide) (hts _ fl_X2_39) (fun _ h9 => h9) rfl dX2_changesNeeded_1 ?_
  exact hret gcn () H locs 4 ls rfl trivial hP hD hS dX2_changesNeeded_4
set_option maxHeartbeats 4000000 in
set_option maxRecDepth 100000 in
theorem c_X2_needChanges (l : Launch) (dC : Nat → ClassId) (dI : Nat → Nat → Nat) (cI cJ : ClassId) (base bB bO : Nat) (g : Nat) (gh : Nat) (gr : Nat) (gl : Nat) (gk : Nat) (gd : Nat) (gm : Nat) (gsz : Int32) (gcn : Int32) (gov : Int32) (x : Int32)  : CtV l dC dI cI cJ base bB bO yX2_needChanges cX2_needChanges 2 0 0 0 0 [.ref g, .int x] [(g, .inr (2, [.ref gh, .ref gr, .ref gl, .ref gk, .ref gd, .ref gm, .int gsz, .int gcn, .int gov]))] ((Int32)) (fun (u : (Int32)) => True) (fun (u : (Int32)) => [(g, .inr (2, [.ref gh, .ref gr, .ref gl, .ref gk, .ref gd, .ref gm, .int gsz, .int u, .int gov]))]) := by
  refine entV (by decide) (Nat.le_of_ble_eq_true rfl) ?_
  intro p e s m below meth c A Q ls hAt hret hP hD hS hl
  obtain ⟨hx, hb, hml, hown, hts, hA, hAb, hK, hE, hlocks, hin⟩ := hAt
  have hG : CG dC dI cI cJ base bB bO cX2_needChanges 2 RX2 p s m (List.toArray [.ref g, .int x]) c A := ⟨hx, hb, hml, hown, hts, hA, hAb, hK, hE⟩
  have hl : lv_has ls 2 [(0, .ref g), (1, .int x)] := hl
  have c_0 : (0 : Int32).toInt = 0 := by decide
  have c_1 : (1 : Int32).toInt = 1 := by decide
  obtain ⟨H, hHe⟩ : ∃ H : Heap, H = s.heap := ⟨_, rfl⟩
  obtain ⟨locs, hle⟩ : ∃ z : List Loc, z = [] := ⟨_, rfl⟩
  rw [← hHe] at hP
  have hS : va_S A s.heap H locs := by rw [hHe, hle]; exact hS
  suffices hgo : W p l e { frames := 0, cells := 0, slots := 0, locals := 0 } s m (List.toArray [.ref g, .int x]) below meth c H locs 0 0 Q (F0 m 0 ls []) by rw [hHe, hle] at hgo; exact hgo
  refine lv_aload_n hx hb dX2_needChanges_0 rfl (lv_at hl 0 rfl) ?_
  refine lv_iload_n hx hb dX2_needChanges_1 rfl (lv_at hl 1 rfl) ?_
  refine va_put (D := (dC, dI)) (ci := 2) (v := .int x) (ty := .int) (C := RX2) (T := TX2) (N := 9) hx hb hts inG_X2 tyX2 tyX2_ok nmX2 hown hK hP hD hS 0 rfl rfl 7 (by decide) (hts _ fl_X2_39) (fun _ h9 => h9) rfl (by decide +kernel) rfl rfl (Nat.le_of_ble_eq_true rfl) dX2_needChanges_2 (fun H locs hP hD hS => ?_)
  have hP : va_P (dC, dI) vwCl [(g, .inr (2, [.ref gh, .ref gr, .ref gl, .ref gk, .ref gd, .ref gm, .int gsz, .int x, .int gov]))] H := hP
  have hD : va_D A [(g, .inr (2, [.ref gh, .ref gr, .ref gl, .ref gk, .ref gd, .ref gm, .int gsz, .int x, .int gov]))] := hD
  exact hret x H locs 5 ls trivial hP hD hS dX2_needChanges_5
set_option maxHeartbeats 4000000 in
set_option maxRecDepth 100000 in
theorem c_X2_lengthOf (l : Launch) (dC : Nat → ClassId) (dI : Nat → Nat → Nat) (cI cJ : ClassId) (base bB bO : Nat) (g : Nat) (gh : Nat) (gr : Nat) (gl : Nat) (gk : Nat) (gd : Nat) (gm : Nat) (gsz : Int32) (gcn : Int32) (gov : Int32) (glf : Nat → Int32) (i : Int32) (hq0 : 0 ≤ gsz.toInt ∧ gsz.toInt ≤ 300) : CtI l dC dI cI cJ base bB bO yX2_lengthOf cX2_lengthOf 2 .int 1 21 [.ref g, .int i] [(g, .inr (2, [.ref gh, .ref gr, .ref gl, .ref gk, .ref gd, .ref gm, .int gsz, .int gcn, .int gov])), (gl, .inl (cI, 300, .inl glf))] (Unit) (fun (res : Int32) (u : Unit) => (res = atf glf gsz i) ∧ True) (fun (u : Unit) => [(g, .inr (2, [.ref gh, .ref gr, .ref gl, .ref gk, .ref gd, .ref gm, .int gsz, .int gcn, .int gov])), (gl, .inl (cI, 300, .inl glf))]) := by
  refine entI (by decide) (Nat.le_of_ble_eq_true rfl) ?_
  intro p e s m below meth c A Q ls hAt hret hP hD hS hl
  obtain ⟨hx, hb, hml, hown, hts, hA, hAb, hK, hE, hlocks, hin⟩ := hAt
  have hG : CG dC dI cI cJ base bB bO cX2_lengthOf 2 RX2 p s m (List.toArray [.ref g, .int i]) c A := ⟨hx, hb, hml, hown, hts, hA, hAb, hK, hE⟩
  have hl : lv_has ls 2 [(0, .ref g), (1, .int i)] := hl
  have c_m1 : (-1 : Int32).toInt = -1 := by decide
  have c_0 : (0 : Int32).toInt = 0 := by decide
  have c_1 : (1 : Int32).toInt = 1 := by decide
  obtain ⟨H, hHe⟩ : ∃ H : Heap, H = s.heap := ⟨_, rfl⟩
  obtain ⟨locs, hle⟩ : ∃ z : List Loc, z = [] := ⟨_, rfl⟩
  rw [← hHe] at hP
  have hS : va_S A s.heap H locs := by rw [hHe, hle]; exact hS
  suffices hgo : W p l e { frames := 1, cells := 0, slots := 0, locals := 21 } s m (List.toArray [.ref g, .int i]) below meth c H locs 0 0 Q (F0 m 0 ls []) by rw [hHe, hle] at hgo; exact hgo
  refine lv_aload_n hx hb dX2_lengthOf_0 rfl (lv_at hl 0 rfl) ?_
  refine lv_iload_n hx hb dX2_lengthOf_1 rfl (lv_at hl 1 rfl) ?_
  refine calI (rest := []) (wr := [(gl, .inl (cI, 300, .inl glf))]) hG (c_X2_has l dC dI cI cJ base bB bO g gh gr gl gk gd gm gsz gcn gov i ) ml_X2_46 im_X2_has se_X2_has ini_X2 cd_X2_has hd_X2_has ⟨(Nat.le_of_ble_eq_true rfl), (Nat.le_of_ble_eq_true rfl)⟩ (Nat.le_of_ble_eq_true rfl) (Nat.le_of_ble_eq_true rfl) hP hD hS [0] [1] rfl rfl rfl rfl (by decide) 2 0 rfl rfl hl.1 rfl (Nat.le_of_ble_eq_true rfl) dX2_lengthOf_2 (fun r1 u H locs hw2 hP hD hS => ?_)
  have hw2 : ((r1.toInt = 1 ∧ 0 ≤ i.toInt ∧ i.toInt < gsz.toInt) ∨ (r1.toInt = 0 ∧ (i.toInt < 0 ∨ gsz.toInt ≤ i.toInt))) ∧ True := hw2
  obtain ⟨hp3, -⟩ := hw2
  have hP : va_P (dC, dI) vwCl [(gl, .inl (cI, 300, .inl glf)), (g, .inr (2, [.ref gh, .ref gr, .ref gl, .ref gk, .ref gd, .ref gm, .int gsz, .int gcn, .int gov]))] H := hP
  have hD : va_D A [(gl, .inl (cI, 300, .inl glf)), (g, .inr (2, [.ref gh, .ref gr, .ref gl, .ref gk, .ref gd, .ref gm, .int gsz, .int gcn, .int gov]))] := hD
  refine lv_if_eq (tgt := 17) hx hb dX2_lengthOf_5 (by decide) (fun c4 => ?_) (fun c4 => ?_)
  · have c4' := I_eq c4
    refine lv_iconst (v := (-1)) hx hb dX2_lengthOf_17 (by decide) ?_
    exact hret (-1) () H locs 18 ls rfl ⟨(show (-1 : Int32) = atf glf gsz i from by first | exact atf_in (by omega) (by omega) (by assumption) | exact atf_out (by omega)), trivial⟩ (hP.sub (ws' := [(g, .inr (2, [.ref gh, .ref gr, .ref gl, .ref gk, .ref gd, .ref gm, .int gsz, .int gcn, .int gov])), (gl, .inl (cI, 300, .inl glf))]) [1, 0] rfl) (hD.sub (ws' := [(g, .inr (2, [.ref gh, .ref gr, .ref gl, .ref gk, .ref gd, .ref gm, .int gsz, .int gcn, .int gov])), (gl, .inl (cI, 300, .inl glf))]) [1, 0] (by decide) rfl) hS dX2_lengthOf_18
  · have c4' := I_ne c4
    refine lv_aload_n hx hb dX2_lengthOf_8 rfl (lv_at hl 0 rfl) ?_
    refine va_get (D := (dC, dI)) (ci := 2) (v := .ref gl) (C := RX2) (T := TX2) (N := 9) hx hb hts inG_X2 hown hK hP 1 rfl rfl 2 (by decide) (hts _ fl_X2_22) (fun _ h9 => h9) rfl dX2_lengthOf_9 ?_
    refine lv_iload_n hx hb dX2_lengthOf_12 rfl (lv_at hl 1 rfl) ?_
    refine va_iald (t0 := 0) hx hb hK hP 0 (ha := rfl) (ht := rfl) (I_in (by omega) (by omega)) dX2_lengthOf_13 ?_
    refine lv_topi (fun v5 ev5 => ?_)
    refine lv_goto (tgt := 18) hx hb dX2_lengthOf_14 (by decide) ?_
    exact hret v5 () H locs 18 ls rfl ⟨(show v5 = atf glf gsz i from by first | exact atf_in (by omega) (by omega) (by assumption) | exact atf_out (by omega)), trivial⟩ (hP.sub (ws' := [(g, .inr (2, [.ref gh, .ref gr, .ref gl, .ref gk, .ref gd, .ref gm, .int gsz, .int gcn, .int gov])), (gl, .inl (cI, 300, .inl glf))]) [1, 0] rfl) (hD.sub (ws' := [(g, .inr (2, [.ref gh, .ref gr, .ref gl, .ref gk, .ref gd, .ref gm, .int gsz, .int gcn, .int gov])), (gl, .inl (cI, 300, .inl glf))]) [1, 0] (by decide) rfl) hS dX2_lengthOf_18
set_option maxHeartbeats 4000000 in
set_option maxRecDepth 100000 in
theorem c_X2_rankOf (l : Launch) (dC : Nat → ClassId) (dI : Nat → Nat → Nat) (cI cJ : ClassId) (base bB bO : Nat) (g : Nat) (gh : Nat) (gr : Nat) (gl : Nat) (gk : Nat) (gd : Nat) (gm : Nat) (gsz : Int32) (gcn : Int32) (gov : Int32) (gkf : Nat → Int32) (i : Int32) (hq0 : 0 ≤ gsz.toInt ∧ gsz.toInt ≤ 300) : CtI l dC dI cI cJ base bB bO yX2_rankOf cX2_rankOf 2 .int 1 21 [.ref g, .int i] [(g, .inr (2, [.ref gh, .ref gr, .ref gl, .ref gk, .ref gd, .ref gm, .int gsz, .int gcn, .int gov])), (gk, .inl (cI, 300, .inl gkf))] (Unit) (fun (res : Int32) (u : Unit) => True) (fun (u : Unit) => [(g, .inr (2, [.ref gh, .ref gr, .ref gl, .ref gk, .ref gd, .ref gm, .int gsz, .int gcn, .int gov])), (gk, .inl (cI, 300, .inl gkf))]) := by
  refine entI (by decide) (Nat.le_of_ble_eq_true rfl) ?_
  intro p e s m below meth c A Q ls hAt hret hP hD hS hl
  obtain ⟨hx, hb, hml, hown, hts, hA, hAb, hK, hE, hlocks, hin⟩ := hAt
  have hG : CG dC dI cI cJ base bB bO cX2_rankOf 2 RX2 p s m (List.toArray [.ref g, .int i]) c A := ⟨hx, hb, hml, hown, hts, hA, hAb, hK, hE⟩
  have hl : lv_has ls 2 [(0, .ref g), (1, .int i)] := hl
  have c_m1 : (-1 : Int32).toInt = -1 := by decide
  have c_0 : (0 : Int32).toInt = 0 := by decide
  have c_1 : (1 : Int32).toInt = 1 := by decide
  obtain ⟨H, hHe⟩ : ∃ H : Heap, H = s.heap := ⟨_, rfl⟩
  obtain ⟨locs, hle⟩ : ∃ z : List Loc, z = [] := ⟨_, rfl⟩
  rw [← hHe] at hP
  have hS : va_S A s.heap H locs := by rw [hHe, hle]; exact hS
  suffices hgo : W p l e { frames := 1, cells := 0, slots := 0, locals := 21 } s m (List.toArray [.ref g, .int i]) below meth c H locs 0 0 Q (F0 m 0 ls []) by rw [hHe, hle] at hgo; exact hgo
  refine lv_aload_n hx hb dX2_rankOf_0 rfl (lv_at hl 0 rfl) ?_
  refine lv_iload_n hx hb dX2_rankOf_1 rfl (lv_at hl 1 rfl) ?_
  refine calI (rest := []) (wr := [(gk, .inl (cI, 300, .inl gkf))]) hG (c_X2_has l dC dI cI cJ base bB bO g gh gr gl gk gd gm gsz gcn gov i ) ml_X2_46 im_X2_has se_X2_has ini_X2 cd_X2_has hd_X2_has ⟨(Nat.le_of_ble_eq_true rfl), (Nat.le_of_ble_eq_true rfl)⟩ (Nat.le_of_ble_eq_true rfl) (Nat.le_of_ble_eq_true rfl) hP hD hS [0] [1] rfl rfl rfl rfl (by decide) 2 0 rfl rfl hl.1 rfl (Nat.le_of_ble_eq_true rfl) dX2_rankOf_2 (fun r1 u H locs hw2 hP hD hS => ?_)
  have hw2 : ((r1.toInt = 1 ∧ 0 ≤ i.toInt ∧ i.toInt < gsz.toInt) ∨ (r1.toInt = 0 ∧ (i.toInt < 0 ∨ gsz.toInt ≤ i.toInt))) ∧ True := hw2
  obtain ⟨hp3, -⟩ := hw2
  have hP : va_P (dC, dI) vwCl [(gk, .inl (cI, 300, .inl gkf)), (g, .inr (2, [.ref gh, .ref gr, .ref gl, .ref gk, .ref gd, .ref gm, .int gsz, .int gcn, .int gov]))] H := hP
  have hD : va_D A [(gk, .inl (cI, 300, .inl gkf)), (g, .inr (2, [.ref gh, .ref gr, .ref gl, .ref gk, .ref gd, .ref gm, .int gsz, .int gcn, .int gov]))] := hD
  refine lv_if_eq (tgt := 17) hx hb dX2_rankOf_5 (by decide) (fun c4 => ?_) (fun c4 => ?_)
  · have c4' := I_eq c4
    refine lv_iconst (v := (-1)) hx hb dX2_rankOf_17 (by decide) ?_
    exact hret (-1) () H locs 18 ls rfl trivial (hP.sub (ws' := [(g, .inr (2, [.ref gh, .ref gr, .ref gl, .ref gk, .ref gd, .ref gm, .int gsz, .int gcn, .int gov])), (gk, .inl (cI, 300, .inl gkf))]) [1, 0] rfl) (hD.sub (ws' := [(g, .inr (2, [.ref gh, .ref gr, .ref gl, .ref gk, .ref gd, .ref gm, .int gsz, .int gcn, .int gov])), (gk, .inl (cI, 300, .inl gkf))]) [1, 0] (by decide) rfl) hS dX2_rankOf_18
  · have c4' := I_ne c4
    refine lv_aload_n hx hb dX2_rankOf_8 rfl (lv_at hl 0 rfl) ?_
    refine va_get (D := (dC, dI)) (ci := 2) (v := .ref gk) (C := RX2) (T := TX2) (N := 9) hx hb hts inG_X2 hown hK hP 1 rfl rfl 3 (by decide) (hts _ fl_X2_26) (fun _ h9 => h9) rfl dX2_rankOf_9 ?_
    refine lv_iload_n hx hb dX2_rankOf_12 rfl (lv_at hl 1 rfl) ?_
    refine va_iald (t0 := 0) hx hb hK hP 0 (ha := rfl) (ht := rfl) (I_in (by omega) (by omega)) dX2_rankOf_13 ?_
    refine lv_topi (fun v5 ev5 => ?_)
    refine lv_goto (tgt := 18) hx hb dX2_rankOf_14 (by decide) ?_
    exact hret v5 () H locs 18 ls rfl trivial (hP.sub (ws' := [(g, .inr (2, [.ref gh, .ref gr, .ref gl, .ref gk, .ref gd, .ref gm, .int gsz, .int gcn, .int gov])), (gk, .inl (cI, 300, .inl gkf))]) [1, 0] rfl) (hD.sub (ws' := [(g, .inr (2, [.ref gh, .ref gr, .ref gl, .ref gk, .ref gd, .ref gm, .int gsz, .int gcn, .int gov])), (gk, .inl (cI, 300, .inl gkf))]) [1, 0] (by decide) rfl) hS dX2_rankOf_18
set_option maxHeartbeats 4000000 in
set_option maxRecDepth 100000 in
theorem c_X2_tokenOf (l : Launch) (dC : Nat → ClassId) (dI : Nat → Nat → Nat) (cI cJ : ClassId) (base bB bO : Nat) (g : Nat) (gh : Nat) (gr : Nat) (gl : Nat) (gk : Nat) (gd : Nat) (gm : Nat) (gsz : Int32) (gcn : Int32) (gov : Int32) (grf : Nat → Int64) (glf : Nat → Int32) (i : Int32) (x : Int32) (hq0 : 0 ≤ gsz.toInt ∧ gsz.toInt ≤ 300) : CtI l dC dI cI cJ base bB bO yX2_tokenOf cX2_tokenOf 3 .int 1 21 [.ref g, .int i, .int x] [(g, .inr (2, [.ref gh, .ref gr, .ref gl, .ref gk, .ref gd, .ref gm, .int gsz, .int gcn, .int gov])), (gr, .inl (cJ, 300, .inr (.inl grf))), (gl, .inl (cI, 300, .inl glf))] (Unit) (fun (res : Int32) (u : Unit) => (-1 ≤ res.toInt ∧ res.toInt ≤ 31) ∧ True) (fun (u : Unit) => [(g, .inr (2, [.ref gh, .ref gr, .ref gl, .ref gk, .ref gd, .ref gm, .int gsz, .int gcn, .int gov])), (gr, .inl (cJ, 300, .inr (.inl grf))), (gl, .inl (cI, 300, .inl glf))]) := by
  refine entI (by decide) (Nat.le_of_ble_eq_true rfl) ?_
  intro p e s m below meth c A Q ls hAt hret hP hD hS hl
  obtain ⟨hx, hb, hml, hown, hts, hA, hAb, hK, hE, hlocks, hin⟩ := hAt
  have hG : CG dC dI cI cJ base bB bO cX2_tokenOf 3 RX2 p s m (List.toArray [.ref g, .int i, .int x]) c A := ⟨hx, hb, hml, hown, hts, hA, hAb, hK, hE⟩
  have hl : lv_has ls 3 [(0, .ref g), (1, .int i), (2, .int x)] := hl
  have c_m1 : (-1 : Int32).toInt = -1 := by decide
  have c_0 : (0 : Int32).toInt = 0 := by decide
  have c_1 : (1 : Int32).toInt = 1 := by decide
  have c_5 : (5 : Int32).toInt = 5 := by decide
  have cl_31 : (31 : Int64).toInt = 31 := by decide
  obtain ⟨H, hHe⟩ : ∃ H : Heap, H = s.heap := ⟨_, rfl⟩
  obtain ⟨locs, hle⟩ : ∃ z : List Loc, z = [] := ⟨_, rfl⟩
  rw [← hHe] at hP
  have hS : va_S A s.heap H locs := by rw [hHe, hle]; exact hS
  suffices hgo : W p l e { frames := 1, cells := 0, slots := 0, locals := 21 } s m (List.toArray [.ref g, .int i, .int x]) below meth c H locs 0 0 Q (F0 m 0 ls []) by rw [hHe, hle] at hgo; exact hgo
  refine lv_aload_n hx hb dX2_tokenOf_0 rfl (lv_at hl 0 rfl) ?_
  refine lv_iload_n hx hb dX2_tokenOf_1 rfl (lv_at hl 1 rfl) ?_
  refine calI (rest := []) (wr := [(gr, .inl (cJ, 300, .inr (.inl grf))), (gl, .inl (cI, 300, .inl glf))]) hG (c_X2_has l dC dI cI cJ base bB bO g gh gr gl gk gd gm gsz gcn gov i ) ml_X2_46 im_X2_has se_X2_has ini_X2 cd_X2_has hd_X2_has ⟨(Nat.le_of_ble_eq_true rfl), (Nat.le_of_ble_eq_true rfl)⟩ (Nat.le_of_ble_eq_true rfl) (Nat.le_of_ble_eq_true rfl) hP hD hS [0] [1, 2] rfl rfl rfl rfl (by decide) 2 0 rfl rfl hl.1 rfl (Nat.le_of_ble_eq_true rfl) dX2_tokenOf_2 (fun r1 u H locs hw2 hP hD hS => ?_)
  have hw2 : ((r1.toInt = 1 ∧ 0 ≤ i.toInt ∧ i.toInt < gsz.toInt) ∨ (r1.toInt = 0 ∧ (i.toInt < 0 ∨ gsz.toInt ≤ i.toInt))) ∧ True := hw2
  obtain ⟨hp3, -⟩ := hw2
  have hP : va_P (dC, dI) vwCl [(gr, .inl (cJ, 300, .inr (.inl grf))), (gl, .inl (cI, 300, .inl glf)), (g, .inr (2, [.ref gh, .ref gr, .ref gl, .ref gk, .ref gd, .ref gm, .int gsz, .int gcn, .int gov]))] H := hP
  have hD : va_D A [(gr, .inl (cJ, 300, .inr (.inl grf))), (gl, .inl (cI, 300, .inl glf)), (g, .inr (2, [.ref gh, .ref gr, .ref gl, .ref gk, .ref gd, .ref gm, .int gsz, .int gcn, .int gov]))] := hD
  refine lv_if_eq (tgt := 22) hx hb dX2_tokenOf_5 (by decide) (fun c4 => ?_) (fun c4 => ?_)
  · have c4' := I_eq c4
    refine lv_iconst (v := (-1)) hx hb dX2_tokenOf_22 (by decide) ?_
    exact hret (-1) () H locs 23 ls rfl ⟨(show -1 ≤ (-1 : Int32).toInt ∧ (-1 : Int32).toInt ≤ 31 from by first | rfl | assumption | omega), trivial⟩ (hP.sub (ws' := [(g, .inr (2, [.ref gh, .ref gr, .ref gl, .ref gk, .ref gd, .ref gm, .int gsz, .int gcn, .int gov])), (gr, .inl (cJ, 300, .inr (.inl grf))), (gl, .inl (cI, 300, .inl glf))]) [2, 0, 1] rfl) (hD.sub (ws' := [(g, .inr (2, [.ref gh, .ref gr, .ref gl, .ref gk, .ref gd, .ref gm, .int gsz, .int gcn, .int gov])), (gr, .inl (cJ, 300, .inr (.inl grf))), (gl, .inl (cI, 300, .inl glf))]) [2, 0, 1] (by decide) rfl) hS dX2_tokenOf_23
  · have c4' := I_ne c4
    refine lv_iload_n hx hb dX2_tokenOf_8 rfl (lv_at hl 2 rfl) ?_
    refine lv_if_lt (tgt := 22) hx hb dX2_tokenOf_9 (by decide) (fun c5 => ?_) (fun c5 => ?_)
    · have c5' := I_lt c5
      refine lv_iconst (v := (-1)) hx hb dX2_tokenOf_22 (by decide) ?_
      exact hret (-1) () H locs 23 ls rfl ⟨(show -1 ≤ (-1 : Int32).toInt ∧ (-1 : Int32).toInt ≤ 31 from by first | rfl | assumption | omega), trivial⟩ (hP.sub (ws' := [(g, .inr (2, [.ref gh, .ref gr, .ref gl, .ref gk, .ref gd, .ref gm, .int gsz, .int gcn, .int gov])), (gr, .inl (cJ, 300, .inr (.inl grf))), (gl, .inl (cI, 300, .inl glf))]) [2, 0, 1] rfl) (hD.sub (ws' := [(g, .inr (2, [.ref gh, .ref gr, .ref gl, .ref gk, .ref gd, .ref gm, .int gsz, .int gcn, .int gov])), (gr, .inl (cJ, 300, .inr (.inl grf))), (gl, .inl (cI, 300, .inl glf))]) [2, 0, 1] (by decide) rfl) hS dX2_tokenOf_23
    · have c5' := I_nlt c5
      refine lv_iload_n hx hb dX2_tokenOf_12 rfl (lv_at hl 2 rfl) ?_
      refine lv_aload_n hx hb dX2_tokenOf_13 rfl (lv_at hl 0 rfl) ?_
      refine va_get (D := (dC, dI)) (ci := 2) (v := .ref gl) (C := RX2) (T := TX2) (N := 9) hx hb hts inG_X2 hown hK hP 2 rfl rfl 2 (by decide) (hts _ fl_X2_22) (fun _ h9 => h9) rfl dX2_tokenOf_14 ?_
      refine lv_iload_n hx hb dX2_tokenOf_17 rfl (lv_at hl 1 rfl) ?_
      refine va_iald (t0 := 0) hx hb hK hP 1 (ha := rfl) (ht := rfl) (I_in (by omega) (by omega)) dX2_tokenOf_18 ?_
      refine lv_topi (fun v6 ev6 => ?_)
      refine lv_icmp_lt (tgt := 24) hx hb dX2_tokenOf_19 (by decide) (fun c7 => ?_) (fun c7 => ?_)
      · have c7' := I_lt c7
        refine lv_aload_n hx hb dX2_tokenOf_24 rfl (lv_at hl 0 rfl) ?_
        refine va_get (D := (dC, dI)) (ci := 2) (v := .ref gr) (C := RX2) (T := TX2) (N := 9) hx hb hts inG_X2 hown hK hP 2 rfl rfl 1 (by decide) (hts _ fl_X2_18) (fun _ h9 => h9) rfl dX2_tokenOf_25 ?_
        refine lv_iload_n hx hb dX2_tokenOf_28 rfl (lv_at hl 1 rfl) ?_
        refine va_lald (t0 := 1) hx hb hK hP 0 (ha := rfl) (ht := rfl) (I_in (by omega) (by omega)) dX2_tokenOf_29 ?_
        refine lv_topl (fun w8 ew8 => ?_)
        refine lv_iconst (v := 5) hx hb dX2_tokenOf_30 (by decide) ?_
        refine lv_aload_n hx hb dX2_tokenOf_31 rfl (lv_at hl 0 rfl) ?_
        refine va_get (D := (dC, dI)) (ci := 2) (v := .ref gl) (C := RX2) (T := TX2) (N := 9) hx hb hts inG_X2 hown hK hP 2 rfl rfl 2 (by decide) (hts _ fl_X2_22) (fun _ h9 => h9) rfl dX2_tokenOf_32 ?_
        refine lv_iload_n hx hb dX2_tokenOf_35 rfl (lv_at hl 1 rfl) ?_
        refine va_iald (t0 := 0) hx hb hK hP 1 (ha := rfl) (ht := rfl) (I_in (by omega) (by omega)) dX2_tokenOf_36 ?_
        refine lv_topi (fun v9 ev9 => ?_)
        refine lv_iconst (v := 1) hx hb dX2_tokenOf_37 (by decide) ?_
        refine lv_isub hx hb dX2_tokenOf_38 ?_
        refine lv_topi (fun v10 ev10 => ?_)
        try have hv10 : v10.toInt = v9.toInt - (1 : Int32).toInt := I_subx ev10 (by omega)
        refine lv_iload_n hx hb dX2_tokenOf_39 rfl (lv_at hl 2 rfl) ?_
        refine lv_isub hx hb dX2_tokenOf_40 ?_
        refine lv_topi (fun v11 ev11 => ?_)
        try have hv11 : v11.toInt = v10.toInt - x.toInt := I_subx ev11 (by omega)
        refine lv_imul hx hb dX2_tokenOf_41 ?_
        refine lv_topi (fun v12 ev12 => ?_)
        try have hv12 := I_mulxl (5) ev12 (by decide) (by omega)
        obtain ⟨w13, ew13⟩ : ∃ z : Int64, w8 >>> (Int32.toInt64 v12 &&& 63) = z := ⟨_, rfl⟩
        refine lv_lshr (v := w13) hx hb dX2_tokenOf_42 ew13 ?_
        refine lv_ldc2 (v := 31) hx hb hown (hts _ k_X2_50) dX2_tokenOf_43 ?_
        refine lv_land hx hb dX2_tokenOf_46 ?_
        refine lv_topl (fun w14 ew14 => ?_)
        obtain ⟨v15, ev15⟩ : ∃ z : Int32, Int64.toInt32 w14 = z := ⟨_, rfl⟩
        refine lv_l2i (v := v15) hx hb dX2_tokenOf_47 ev15 ?_
        have h31 : 0 ≤ v15.toInt ∧ v15.toInt ≤ 31 := by rw [← ev15, ew14]; exact J_and31 _
        exact hret v15 () H locs 48 ls rfl ⟨(show -1 ≤ v15.toInt ∧ v15.toInt ≤ 31 from by first | rfl | assumption | omega), trivial⟩ (hP.sub (ws' := [(g, .inr (2, [.ref gh, .ref gr, .ref gl, .ref gk, .ref gd, .ref gm, .int gsz, .int gcn, .int gov])), (gr, .inl (cJ, 300, .inr (.inl grf))), (gl, .inl (cI, 300, .inl glf))]) [2, 0, 1] rfl) (hD.sub (ws' := [(g, .inr (2, [.ref gh, .ref gr, .ref gl, .ref gk, .ref gd, .ref gm, .int gsz, .int gcn, .int gov])), (gr, .inl (cJ, 300, .inr (.inl grf))), (gl, .inl (cI, 300, .inl glf))]) [2, 0, 1] (by decide) rfl) hS dX2_tokenOf_48
      · have c7' := I_nlt c7
        refine lv_iconst (v := (-1)) hx hb dX2_tokenOf_22 (by decide) ?_
        exact hret (-1) () H locs 23 ls rfl ⟨(show -1 ≤ (-1 : Int32).toInt ∧ (-1 : Int32).toInt ≤ 31 from by first | rfl | assumption | omega), trivial⟩ (hP.sub (ws' := [(g, .inr (2, [.ref gh, .ref gr, .ref gl, .ref gk, .ref gd, .ref gm, .int gsz, .int gcn, .int gov])), (gr, .inl (cJ, 300, .inr (.inl grf))), (gl, .inl (cI, 300, .inl glf))]) [2, 0, 1] rfl) (hD.sub (ws' := [(g, .inr (2, [.ref gh, .ref gr, .ref gl, .ref gk, .ref gd, .ref gm, .int gsz, .int gcn, .int gov])), (gr, .inl (cJ, 300, .inr (.inl grf))), (gl, .inl (cI, 300, .inl glf))]) [2, 0, 1] (by decide) rfl) hS dX2_tokenOf_23
set_option maxHeartbeats 4000000 in
set_option maxRecDepth 100000 in
theorem c_X2_copyTo (l : Launch) (dC : Nat → ClassId) (dI : Nat → Nat → Nat) (cI cJ : ClassId) (base bB bO : Nat) (g : Nat) (gh : Nat) (gr : Nat) (gl : Nat) (gk : Nat) (gd : Nat) (gm : Nat) (gsz : Int32) (gcn : Int32) (gov : Int32) (grf : Nat → Int64) (glf : Nat → Int32) (r : Nat) (rt : Nat) (rsz : Int32) (rf : Nat → Int32) (i : Int32) (hq0 : 0 ≤ gsz.toInt ∧ gsz.toInt ≤ 300) (hq1 : 0 ≤ rsz.toInt ∧ rsz.toInt ≤ 12) (hq2 : ∀ j : Nat, -1 ≤ (rf j).toInt ∧ (rf j).toInt ≤ 31) : CtV l dC dI cI cJ base bB bO yX2_copyTo cX2_copyTo 4 0 0 2 43 [.ref g, .int i, .ref r] [(g, .inr (2, [.ref gh, .ref gr, .ref gl, .ref gk, .ref gd, .ref gm, .int gsz, .int gcn, .int gov])), (gr, .inl (cJ, 300, .inr (.inl grf))), (gl, .inl (cI, 300, .inl glf)), (r, .inr (3, [.ref rt, .int rsz])), (rt, .inl (cI, 12, .inl rf))] ((Int32) × (Nat → Int32)) (fun (u : (Int32) × (Nat → Int32)) => (0 ≤ u.1.toInt ∧ u.1.toInt ≤ 12) ∧ (∀ j : Nat, -1 ≤ (u.2 j).toInt ∧ (u.2 j).toInt ≤ 31) ∧ True) (fun (u : (Int32) × (Nat → Int32)) => [(g, .inr (2, [.ref gh, .ref gr, .ref gl, .ref gk, .ref gd, .ref gm, .int gsz, .int gcn, .int gov])), (gr, .inl (cJ, 300, .inr (.inl grf))), (gl, .inl (cI, 300, .inl glf)), (r, .inr (3, [.ref rt, .int u.1])), (rt, .inl (cI, 12, .inl u.2))]) := by
  refine entV (by decide) (Nat.le_of_ble_eq_true rfl) ?_
  intro p e s m below meth c A Q ls hAt hret hP hD hS hl
  obtain ⟨hx, hb, hml, hown, hts, hA, hAb, hK, hE, hlocks, hin⟩ := hAt
  have hG : CG dC dI cI cJ base bB bO cX2_copyTo 4 RX2 p s m (List.toArray [.ref g, .int i, .ref r]) c A := ⟨hx, hb, hml, hown, hts, hA, hAb, hK, hE⟩
  have hl : lv_has ls 4 [(0, .ref g), (1, .int i), (2, .ref r)] := hl
  have c_0 : (0 : Int32).toInt = 0 := by decide
  have c_1 : (1 : Int32).toInt = 1 := by decide
  obtain ⟨H, hHe⟩ : ∃ H : Heap, H = s.heap := ⟨_, rfl⟩
  obtain ⟨locs, hle⟩ : ∃ z : List Loc, z = [] := ⟨_, rfl⟩
  rw [← hHe] at hP
  have hS : va_S A s.heap H locs := by rw [hHe, hle]; exact hS
  suffices hgo : W p l e { frames := 2, cells := 0, slots := 0, locals := 43 } s m (List.toArray [.ref g, .int i, .ref r]) below meth c H locs 0 0 Q (F0 m 0 ls []) by rw [hHe, hle] at hgo; exact hgo
  refine lv_aload_n hx hb dX2_copyTo_0 rfl (lv_at hl 2 rfl) ?_
  refine lv_iconst (v := 0) hx hb dX2_copyTo_1 (by decide) ?_
  refine calV (rest := []) (wr := [(g, .inr (2, [.ref gh, .ref gr, .ref gl, .ref gk, .ref gd, .ref gm, .int gsz, .int gcn, .int gov])), (gr, .inl (cJ, 300, .inr (.inl grf))), (gl, .inl (cI, 300, .inl glf))]) hG (c_X4_shorten l dC dI cI cJ base bB bO r rt rsz rf 0 (by first | assumption | omega)) ml_X2_52 im_X4_shorten se_X4_shorten ini_X4 cd_X4_shorten hd_X4_shorten ⟨(Nat.le_of_ble_eq_true rfl), (Nat.le_of_ble_eq_true rfl)⟩ (Nat.le_of_ble_eq_true rfl) (Nat.le_of_ble_eq_true rfl) hP hD hS [3, 4] [0, 1, 2] rfl rfl rfl rfl (by decide) 3 3 rfl rfl hl.1 rfl (Nat.le_of_ble_eq_true rfl) dX2_copyTo_2 (fun u H locs hw1 hP hD hS => ?_)
  obtain ⟨rsz_2, rfl⟩ : ∃ z, z = u := ⟨_, rfl⟩
  have hw1 : (0 ≤ rsz_2.toInt ∧ rsz_2.toInt ≤ 12) ∧ ((rsz_2.toInt = (0 : Int32).toInt ∧ 0 ≤ (0 : Int32).toInt ∧ (0 : Int32).toInt < rsz.toInt) ∨ (rsz_2.toInt = rsz.toInt ∧ ((0 : Int32).toInt < 0 ∨ rsz.toInt ≤ (0 : Int32).toInt))) ∧ True := hw1
  obtain ⟨hp3, hp4, -⟩ := hw1
  have hP : va_P (dC, dI) vwCl [(g, .inr (2, [.ref gh, .ref gr, .ref gl, .ref gk, .ref gd, .ref gm, .int gsz, .int gcn, .int gov])), (gr, .inl (cJ, 300, .inr (.inl grf))), (gl, .inl (cI, 300, .inl glf)), (r, .inr (3, [.ref rt, .int rsz_2])), (rt, .inl (cI, 12, .inl rf))] H := hP
  have hD : va_D A [(g, .inr (2, [.ref gh, .ref gr, .ref gl, .ref gk, .ref gd, .ref gm, .int gsz, .int gcn, .int gov])), (gr, .inl (cJ, 300, .inr (.inl grf))), (gl, .inl (cI, 300, .inl glf)), (r, .inr (3, [.ref rt, .int rsz_2])), (rt, .inl (cI, 12, .inl rf))] := hD
  refine lv_iconst (v := 0) hx hb dX2_copyTo_5 (by decide) ?_
  refine lv_istore_n (lv' := [(3, .int 0), (0, .ref g), (1, .int i), (2, .ref r)]) hx hb dX2_copyTo_6 rfl hl (by decide) rfl (fun ls hl => ?_)
  have J7 : ∀ (n : Nat) (L3_7 : Int32) (rsz_7 : Int32) (rf_7 : Nat → Int32), (0 ≤ L3_7.toInt ∧ L3_7.toInt ≤ 2147483647) → (0 ≤ rsz_7.toInt ∧ rsz_7.toInt ≤ 12) → (∀ j : Nat, -1 ≤ (rf_7 j).toInt ∧ (rf_7 j).toInt ≤ 31) → (2147483648 - L3_7.toInt) < (n : Int) → ∀ (H : Heap) (locs : List Loc) (ls : Array Slot), va_P (dC, dI) vwCl [(g, .inr (2, [.ref gh, .ref gr, .ref gl, .ref gk, .ref gd, .ref gm, .int gsz, .int gcn, .int gov])), (gr, .inl (cJ, 300, .inr (.inl grf))), (gl, .inl (cI, 300, .inl glf)), (r, .inr (3, [.ref rt, .int rsz_7])), (rt, .inl (cI, 12, .inl rf_7))] H → va_D A [(g, .inr (2, [.ref gh, .ref gr, .ref gl, .ref gk, .ref gd, .ref gm, .int gsz, .int gcn, .int gov])), (gr, .inl (cJ, 300, .inr (.inl grf))), (gl, .inl (cI, 300, .inl glf)), (r, .inr (3, [.ref rt, .int rsz_7])), (rt, .inl (cI, 12, .inl rf_7))] → va_S A s.heap H locs → lv_has ls 4 [(3, .int L3_7), (0, .ref g), (1, .int i), (2, .ref r)] → W p l e { frames := 2, cells := 0, slots := 0, locals := 43 } s m (List.toArray [.ref g, .int i, .ref r]) below meth c H locs 0 0 Q (F0 m 7 ls []) := by
    intro n
    induction n with
    | zero =>
      intro L3_7 rsz_7 rf_7 hi0_7 hi1_7 hi2_7 hm
      exact absurd hm (by omega)
    | succ n ih7 =>
      intro L3_7 rsz_7 rf_7 hi0_7 hi1_7 hi2_7 hm7 H locs ls hP hD hS hl
      have hrg := I_rng L3_7
      have hrg2 := I_rng (atf glf gsz i)
      refine lv_iload_n hx hb dX2_copyTo_7 rfl (lv_at hl 0 rfl) ?_
      refine lv_aload_n hx hb dX2_copyTo_8 rfl (lv_at hl 1 rfl) ?_
      refine lv_iload_n hx hb dX2_copyTo_9 rfl (lv_at hl 2 rfl) ?_
      refine calI (rest := [.int L3_7]) (wr := [(gr, .inl (cJ, 300, .inr (.inl grf))), (r, .inr (3, [.ref rt, .int rsz_7])), (rt, .inl (cI, 12, .inl rf_7))]) hG (c_X2_lengthOf l dC dI cI cJ base bB bO g gh gr gl gk gd gm gsz gcn gov glf i (by first | assumption | omega)) ml_X2_58 im_X2_lengthOf se_X2_lengthOf ini_X2 cd_X2_lengthOf hd_X2_lengthOf ⟨(Nat.le_of_ble_eq_true rfl), (Nat.le_of_ble_eq_true rfl)⟩ (Nat.le_of_ble_eq_true rfl) (Nat.le_of_ble_eq_true rfl) hP hD hS [0, 2] [1, 3, 4] rfl rfl rfl rfl (by decide) 2 0 rfl rfl hl.1 rfl (Nat.le_of_ble_eq_true rfl) dX2_copyTo_10 (fun r5 u H locs hw6 hP hD hS => ?_)
      have hw6 : (r5 = atf glf gsz i) ∧ True := hw6
      obtain ⟨hp7, -⟩ := hw6
      have hp7t := I_eq hp7
      have hP : va_P (dC, dI) vwCl [(gr, .inl (cJ, 300, .inr (.inl grf))), (r, .inr (3, [.ref rt, .int rsz_7])), (rt, .inl (cI, 12, .inl rf_7)), (g, .inr (2, [.ref gh, .ref gr, .ref gl, .ref gk, .ref gd, .ref gm, .int gsz, .int gcn, .int gov])), (gl, .inl (cI, 300, .inl glf))] H := hP
      have hD : va_D A [(gr, .inl (cJ, 300, .inr (.inl grf))), (r, .inr (3, [.ref rt, .int rsz_7])), (rt, .inl (cI, 12, .inl rf_7)), (g, .inr (2, [.ref gh, .ref gr, .ref gl, .ref gk, .ref gd, .ref gm, .int gsz, .int gcn, .int gov])), (gl, .inl (cI, 300, .inl glf))] := hD
      refine lv_icmp_ge (tgt := 32) hx hb dX2_copyTo_13 (by decide) (fun c8 => ?_) (fun c8 => ?_)
      · have c8' := I_le c8
        exact hret (rsz_7, rf_7) H locs 32 ls ⟨(show 0 ≤ rsz_7.toInt ∧ rsz_7.toInt ≤ 12 from by first | rfl | assumption | omega), (show ∀ j : Nat, -1 ≤ (rf_7 j).toInt ∧ (rf_7 j).toInt ≤ 31 from by first | rfl | assumption | omega), trivial⟩ (hP.sub (ws' := [(g, .inr (2, [.ref gh, .ref gr, .ref gl, .ref gk, .ref gd, .ref gm, .int gsz, .int gcn, .int gov])), (gr, .inl (cJ, 300, .inr (.inl grf))), (gl, .inl (cI, 300, .inl glf)), (r, .inr (3, [.ref rt, .int rsz_7])), (rt, .inl (cI, 12, .inl rf_7))]) [3, 0, 4, 1, 2] rfl) (hD.sub (ws' := [(g, .inr (2, [.ref gh, .ref gr, .ref gl, .ref gk, .ref gd, .ref gm, .int gsz, .int gcn, .int gov])), (gr, .inl (cJ, 300, .inr (.inl grf))), (gl, .inl (cI, 300, .inl glf)), (r, .inr (3, [.ref rt, .int rsz_7])), (rt, .inl (cI, 12, .inl rf_7))]) [3, 0, 4, 1, 2] (by decide) rfl) hS dX2_copyTo_32
      · have c8' := I_nle c8
        refine lv_aload_n hx hb dX2_copyTo_16 rfl (lv_at hl 3 rfl) ?_
        refine lv_aload_n hx hb dX2_copyTo_17 rfl (lv_at hl 1 rfl) ?_
        refine lv_iload_n hx hb dX2_copyTo_18 rfl (lv_at hl 2 rfl) ?_
        refine lv_iload_n hx hb dX2_copyTo_19 rfl (lv_at hl 0 rfl) ?_
        refine calI (rest := [.ref r]) (wr := [(r, .inr (3, [.ref rt, .int rsz_7])), (rt, .inl (cI, 12, .inl rf_7))]) hG (c_X2_tokenOf l dC dI cI cJ base bB bO g gh gr gl gk gd gm gsz gcn gov grf glf i L3_7 (by first | assumption | omega)) ml_X2_62 im_X2_tokenOf se_X2_tokenOf ini_X2 cd_X2_tokenOf hd_X2_tokenOf ⟨(Nat.le_of_ble_eq_true rfl), (Nat.le_of_ble_eq_true rfl)⟩ (Nat.le_of_ble_eq_true rfl) (Nat.le_of_ble_eq_true rfl) hP hD hS [3, 0, 4] [1, 2] rfl rfl rfl rfl (by decide) 2 3 rfl rfl hl.1 rfl (Nat.le_of_ble_eq_true rfl) dX2_copyTo_20 (fun r9 u H locs hw10 hP hD hS => ?_)
        have hw10 : (-1 ≤ r9.toInt ∧ r9.toInt ≤ 31) ∧ True := hw10
        obtain ⟨hp11, -⟩ := hw10
        have hP : va_P (dC, dI) vwCl [(r, .inr (3, [.ref rt, .int rsz_7])), (rt, .inl (cI, 12, .inl rf_7)), (g, .inr (2, [.ref gh, .ref gr, .ref gl, .ref gk, .ref gd, .ref gm, .int gsz, .int gcn, .int gov])), (gr, .inl (cJ, 300, .inr (.inl grf))), (gl, .inl (cI, 300, .inl glf))] H := hP
        have hD : va_D A [(r, .inr (3, [.ref rt, .int rsz_7])), (rt, .inl (cI, 12, .inl rf_7)), (g, .inr (2, [.ref gh, .ref gr, .ref gl, .ref gk, .ref gd, .ref gm, .int gsz, .int gcn, .int gov])), (gr, .inl (cJ, 300, .inr (.inl grf))), (gl, .inl (cI, 300, .inl glf))] := hD
        refine calV (rest := []) (wr := [(g, .inr (2, [.ref gh, .ref gr, .ref gl, .ref gk, .ref gd, .ref gm, .int gsz, .int gcn, .int gov])), (gr, .inl (cJ, 300, .inr (.inl grf))), (gl, .inl (cI, 300, .inl glf))]) hG (c_X4_add l dC dI cI cJ base bB bO r rt rsz_7 rf_7 r9 (by first | assumption | omega) (by first | assumption | omega) (by first | assumption | omega)) ml_X2_66 im_X4_add se_X4_add ini_X4 cd_X4_add hd_X4_add ⟨(Nat.le_of_ble_eq_true rfl), (Nat.le_of_ble_eq_true rfl)⟩ (Nat.le_of_ble_eq_true rfl) (Nat.le_of_ble_eq_true rfl) hP hD hS [0, 1] [2, 3, 4] rfl rfl rfl rfl (by decide) 3 0 rfl rfl hl.1 rfl (Nat.le_of_ble_eq_true rfl) dX2_copyTo_23 (fun u H locs hw12 hP hD hS => ?_)
        obtain ⟨rsz_13, rf_14⟩ := u
        have hw12 : (0 ≤ rsz_13.toInt ∧ rsz_13.toInt ≤ 12) ∧ (∀ j : Nat, -1 ≤ (rf_14 j).toInt ∧ (rf_14 j).toInt ≤ 31) ∧ ((rsz_7.toInt < 12 ∧ rsz_13.toInt = rsz_7.toInt + 1) ∨ (12 ≤ rsz_7.toInt ∧ rsz_13.toInt = rsz_7.toInt)) ∧ True := hw12
        obtain ⟨hp15, hp16, hp17, -⟩ := hw12
        have hP : va_P (dC, dI) vwCl [(g, .inr (2, [.ref gh, .ref gr, .ref gl, .ref gk, .ref gd, .ref gm, .int gsz, .int gcn, .int gov])), (gr, .inl (cJ, 300, .inr (.inl grf))), (gl, .inl (cI, 300, .inl glf)), (r, .inr (3, [.ref rt, .int rsz_13])), (rt, .inl (cI, 12, .inl rf_14))] H := hP
        have hD : va_D A [(g, .inr (2, [.ref gh, .ref gr, .ref gl, .ref gk, .ref gd, .ref gm, .int gsz, .int gcn, .int gov])), (gr, .inl (cJ, 300, .inr (.inl grf))), (gl, .inl (cI, 300, .inl glf)), (r, .inr (3, [.ref rt, .int rsz_13])), (rt, .inl (cI, 12, .inl rf_14))] := hD
        obtain ⟨v18, ev18⟩ : ∃ y : Int32, y = L3_7 + 1 := ⟨_, rfl⟩
        try have hv18 : v18.toInt = L3_7.toInt + (1 : Int32).toInt := I_addx ev18 (by omega)
        refine lv_iinc (v := v18) (lv' := [(3, .int v18), (0, .ref g), (1, .int i), (2, .ref r)]) hx hb dX2_copyTo_26 hl (k := 0) rfl (by rw [ev18]; rfl) (by decide) rfl (fun ls hl => ?_)
        refine lv_goto (tgt := 7) hx hb dX2_copyTo_29 (by decide) ?_
        exact ih7 v18 rsz_13 rf_14 (by first | assumption | omega) (by first | assumption | omega) (by first | assumption | omega) (by omega) H locs ls hP hD hS hl
  exact J7 ((2147483648 - (0 : Int32).toInt).toNat + 1) 0 rsz_2 rf (by first | assumption | omega) (by first | assumption | omega) (by first | assumption | omega) (by omega) H locs ls hP hD hS hl
set_option maxHeartbeats 4000000 in
set_option maxRecDepth 100000 in
theorem c_X2_forgetAll (l : Launch) (dC : Nat → ClassId) (dI : Nat → Nat → Nat) (cI cJ : ClassId) (base bB bO : Nat) (g : Nat) (gh : Nat) (gr : Nat) (gl : Nat) (gk : Nat) (gd : Nat) (gm : Nat) (gsz : Int32) (gcn : Int32) (gov : Int32)  : CtV l dC dI cI cJ base bB bO yX2_forgetAll cX2_forgetAll 1 0 0 0 0 [.ref g] [(g, .inr (2, [.ref gh, .ref gr, .ref gl, .ref gk, .ref gd, .ref gm, .int gsz, .int gcn, .int gov]))] ((Int32) × (Int32)) (fun (u : (Int32) × (Int32)) => (u.1.toInt = 0) ∧ (u.2.toInt = 0) ∧ True) (fun (u : (Int32) × (Int32)) => [(g, .inr (2, [.ref gh, .ref gr, .ref gl, .ref gk, .ref gd, .ref gm, .int u.1, .int gcn, .int u.2]))]) := by
  refine entV (by decide) (Nat.le_of_ble_eq_true rfl) ?_
  intro p e s m below meth c A Q ls hAt hret hP hD hS hl
  obtain ⟨hx, hb, hml, hown, hts, hA, hAb, hK, hE, hlocks, hin⟩ := hAt
  have hG : CG dC dI cI cJ base bB bO cX2_forgetAll 1 RX2 p s m (List.toArray [.ref g]) c A := ⟨hx, hb, hml, hown, hts, hA, hAb, hK, hE⟩
  have hl : lv_has ls 1 [(0, .ref g)] := hl
  have c_0 : (0 : Int32).toInt = 0 := by decide
  have c_1 : (1 : Int32).toInt = 1 := by decide
  obtain ⟨H, hHe⟩ : ∃ H : Heap, H = s.heap := ⟨_, rfl⟩
  obtain ⟨locs, hle⟩ : ∃ z : List Loc, z = [] := ⟨_, rfl⟩
  rw [← hHe] at hP
  have hS : va_S A s.heap H locs := by rw [hHe, hle]; exact hS
  suffices hgo : W p l e { frames := 0, cells := 0, slots := 0, locals := 0 } s m (List.toArray [.ref g]) below meth c H locs 0 0 Q (F0 m 0 ls []) by rw [hHe, hle] at hgo; exact hgo
  refine lv_aload_n hx hb dX2_forgetAll_0 rfl (lv_at hl 0 rfl) ?_
  refine lv_iconst (v := 0) hx hb dX2_forgetAll_1 (by decide) ?_
  refine va_put (D := (dC, dI)) (ci := 2) (v := .int 0) (ty := .int) (C := RX2) (T := TX2) (N := 9) hx hb hts inG_X2 tyX2 tyX2_ok nmX2 hown hK hP hD hS 0 rfl rfl 6 (by decide) (hts _ fl_X2_35) (fun _ h9 => h9) rfl (by decide +kernel) rfl rfl (Nat.le_of_ble_eq_true rfl) dX2_forgetAll_2 (fun H locs hP hD hS => ?_)
  have hP : va_P (dC, dI) vwCl [(g, .inr (2, [.ref gh, .ref gr, .ref gl, .ref gk, .ref gd, .ref gm, .int 0, .int gcn, .int gov]))] H := hP
  have hD : va_D A [(g, .inr (2, [.ref gh, .ref gr, .ref gl, .ref gk, .ref gd, .ref gm, .int 0, .int gcn, .int gov]))] := hD
  refine lv_aload_n hx hb dX2_forgetAll_5 rfl (lv_at hl 0 rfl) ?_
  refine lv_iconst (v := 0) hx hb dX2_forgetAll_6 (by decide) ?_
  refine va_put (D := (dC, dI)) (ci := 2) (v := .int 0) (ty := .boolean) (C := RX2) (T := TX2) (N := 9) hx hb hts inG_X2 tyX2 tyX2_ok nmX2 hown hK hP hD hS 0 rfl rfl 8 (by decide) (hts _ fl_X2_42) (fun _ h9 => h9) rfl (by decide +kernel) (by first | rfl | exact I_narz (by omega)) rfl (Nat.le_of_ble_eq_true rfl) dX2_forgetAll_7 (fun H locs hP hD hS => ?_)
  have hP : va_P (dC, dI) vwCl [(g, .inr (2, [.ref gh, .ref gr, .ref gl, .ref gk, .ref gd, .ref gm, .int 0, .int gcn, .int 0]))] H := hP
  have hD : va_D A [(g, .inr (2, [.ref gh, .ref gr, .ref gl, .ref gk, .ref gd, .ref gm, .int 0, .int gcn, .int 0]))] := hD
  exact hret (0, 0) H locs 10 ls ⟨(show (0 : Int32).toInt = 0 from by first | rfl | assumption | omega), (show (0 : Int32).toInt = 0 from by first | rfl | assumption | omega), trivial⟩ hP hD hS dX2_forgetAll_10
set_option maxHeartbeats 4000000 in
set_option maxRecDepth 100000 in
theorem c_X2_begin (l : Launch) (dC : Nat → ClassId) (dI : Nat → Nat → Nat) (cI cJ : ClassId) (base bB bO : Nat) (g : Nat) (gh : Nat) (gr : Nat) (gl : Nat) (gk : Nat) (gd : Nat) (gm : Nat) (gsz : Int32) (gcn : Int32) (gov : Int32) (gdf : Nat → Int32) (r : Nat) (rt : Nat) (rsz : Int32) (rf : Nat → Int32) (hq0 : 0 ≤ rsz.toInt ∧ rsz.toInt ≤ 12) (hq1 : ∀ j : Nat, -1 ≤ (rf j).toInt ∧ (rf j).toInt ≤ 31) : CtV l dC dI cI cJ base bB bO yX2_begin cX2_begin 3 0 0 1 21 [.ref g, .ref r] [(g, .inr (2, [.ref gh, .ref gr, .ref gl, .ref gk, .ref gd, .ref gm, .int gsz, .int gcn, .int gov])), (gd, .inl (cI, 28, .inl gdf)), (r, .inr (3, [.ref rt, .int rsz])), (rt, .inl (cI, 12, .inl rf))] ((Int32) × (Int32) × (Nat → Int32)) (fun (u : (Int32) × (Int32) × (Nat → Int32)) => (u.1.toInt = 0) ∧ (u.2.1.toInt = 0) ∧ True) (fun (u : (Int32) × (Int32) × (Nat → Int32)) => [(g, .inr (2, [.ref gh, .ref gr, .ref gl, .ref gk, .ref gd, .ref gm, .int u.1, .int gcn, .int u.2.1])), (gd, .inl (cI, 28, .inl u.2.2)), (r, .inr (3, [.ref rt, .int rsz])), (rt, .inl (cI, 12, .inl rf))]) := by
  refine entV (by decide) (Nat.le_of_ble_eq_true rfl) ?_
  intro p e s m below meth c A Q ls hAt hret hP hD hS hl
  obtain ⟨hx, hb, hml, hown, hts, hA, hAb, hK, hE, hlocks, hin⟩ := hAt
  have hG : CG dC dI cI cJ base bB bO cX2_begin 3 RX2 p s m (List.toArray [.ref g, .ref r]) c A := ⟨hx, hb, hml, hown, hts, hA, hAb, hK, hE⟩
  have hl : lv_has ls 3 [(0, .ref g), (1, .ref r)] := hl
  have c_0 : (0 : Int32).toInt = 0 := by decide
  have c_1 : (1 : Int32).toInt = 1 := by decide
  have c_28 : (28 : Int32).toInt = 28 := by decide
  obtain ⟨H, hHe⟩ : ∃ H : Heap, H = s.heap := ⟨_, rfl⟩
  obtain ⟨locs, hle⟩ : ∃ z : List Loc, z = [] := ⟨_, rfl⟩
  rw [← hHe] at hP
  have hS : va_S A s.heap H locs := by rw [hHe, hle]; exact hS
  suffices hgo : W p l e { frames := 1, cells := 0, slots := 0, locals := 21 } s m (List.toArray [.ref g, .ref r]) below meth c H locs 0 0 Q (F0 m 0 ls []) by rw [hHe, hle] at hgo; exact hgo
  refine lv_aload_n hx hb dX2_begin_0 rfl (lv_at hl 0 rfl) ?_
  refine calV (rest := []) (wr := [(gd, .inl (cI, 28, .inl gdf)), (r, .inr (3, [.ref rt, .int rsz])), (rt, .inl (cI, 12, .inl rf))]) hG (c_X2_forgetAll l dC dI cI cJ base bB bO g gh gr gl gk gd gm gsz gcn gov ) ml_X2_69 im_X2_forgetAll se_X2_forgetAll ini_X2 cd_X2_forgetAll hd_X2_forgetAll ⟨(Nat.le_of_ble_eq_true rfl), (Nat.le_of_ble_eq_true rfl)⟩ (Nat.le_of_ble_eq_true rfl) (Nat.le_of_ble_eq_true rfl) hP hD hS [0] [1, 2, 3] rfl rfl rfl rfl (by decide) 2 0 rfl rfl hl.1 rfl (Nat.le_of_ble_eq_true rfl) dX2_begin_1 (fun u H locs hw1 hP hD hS => ?_)
  obtain ⟨gsz_2, gov_3⟩ := u
  have hw1 : (gsz_2.toInt = 0) ∧ (gov_3.toInt = 0) ∧ True := hw1
  obtain ⟨hp4, hp5, -⟩ := hw1
  have hP : va_P (dC, dI) vwCl [(gd, .inl (cI, 28, .inl gdf)), (r, .inr (3, [.ref rt, .int rsz])), (rt, .inl (cI, 12, .inl rf)), (g, .inr (2, [.ref gh, .ref gr, .ref gl, .ref gk, .ref gd, .ref gm, .int gsz_2, .int gcn, .int gov_3]))] H := hP
  have hD : va_D A [(gd, .inl (cI, 28, .inl gdf)), (r, .inr (3, [.ref rt, .int rsz])), (rt, .inl (cI, 12, .inl rf)), (g, .inr (2, [.ref gh, .ref gr, .ref gl, .ref gk, .ref gd, .ref gm, .int gsz_2, .int gcn, .int gov_3]))] := hD
  refine lv_iconst (v := 0) hx hb dX2_begin_4 (by decide) ?_
  refine lv_istore_n (lv' := [(2, .int 0), (0, .ref g), (1, .ref r)]) hx hb dX2_begin_5 rfl hl (by decide) rfl (fun ls hl => ?_)
  have J6 : ∀ (n : Nat) (L2_6 : Int32) (gdf_6 : Nat → Int32), (0 ≤ L2_6.toInt ∧ L2_6.toInt ≤ 28) → (28 - L2_6.toInt) < (n : Int) → ∀ (H : Heap) (locs : List Loc) (ls : Array Slot), va_P (dC, dI) vwCl [(gd, .inl (cI, 28, .inl gdf_6)), (r, .inr (3, [.ref rt, .int rsz])), (rt, .inl (cI, 12, .inl rf)), (g, .inr (2, [.ref gh, .ref gr, .ref gl, .ref gk, .ref gd, .ref gm, .int gsz_2, .int gcn, .int gov_3]))] H → va_D A [(gd, .inl (cI, 28, .inl gdf_6)), (r, .inr (3, [.ref rt, .int rsz])), (rt, .inl (cI, 12, .inl rf)), (g, .inr (2, [.ref gh, .ref gr, .ref gl, .ref gk, .ref gd, .ref gm, .int gsz_2, .int gcn, .int gov_3]))] → va_S A s.heap H locs → lv_has ls 3 [(2, .int L2_6), (0, .ref g), (1, .ref r)] → W p l e { frames := 1, cells := 0, slots := 0, locals := 21 } s m (List.toArray [.ref g, .ref r]) below meth c H locs 0 0 Q (F0 m 6 ls []) := by
    intro n
    induction n with
    | zero =>
      intro L2_6 gdf_6 hi0_6 hm
      exact absurd hm (by omega)
    | succ n ih6 =>
      intro L2_6 gdf_6 hi0_6 hm6 H locs ls hP hD hS hl
      refine lv_iload_n hx hb dX2_begin_6 rfl (lv_at hl 0 rfl) ?_
      refine lv_bipush (v := 28) hx hb dX2_begin_7 (by decide) ?_
      refine lv_icmp_ge (tgt := 25) hx hb dX2_begin_9 (by decide) (fun c6 => ?_) (fun c6 => ?_)
      · have c6' := I_le c6
        refine lv_iconst (v := 0) hx hb dX2_begin_25 (by decide) ?_
        refine lv_istore_n (lv' := [(2, .int 0), (0, .ref g), (1, .ref r)]) hx hb dX2_begin_26 rfl hl (by decide) rfl (fun ls hl => ?_)
        have J27 : ∀ (n : Nat) (L2_27 : Int32) (gdf_27 : Nat → Int32), (0 ≤ L2_27.toInt ∧ L2_27.toInt ≤ 12) → (12 - L2_27.toInt) < (n : Int) → ∀ (H : Heap) (locs : List Loc) (ls : Array Slot), va_P (dC, dI) vwCl [(gd, .inl (cI, 28, .inl gdf_27)), (r, .inr (3, [.ref rt, .int rsz])), (rt, .inl (cI, 12, .inl rf)), (g, .inr (2, [.ref gh, .ref gr, .ref gl, .ref gk, .ref gd, .ref gm, .int gsz_2, .int gcn, .int gov_3]))] H → va_D A [(gd, .inl (cI, 28, .inl gdf_27)), (r, .inr (3, [.ref rt, .int rsz])), (rt, .inl (cI, 12, .inl rf)), (g, .inr (2, [.ref gh, .ref gr, .ref gl, .ref gk, .ref gd, .ref gm, .int gsz_2, .int gcn, .int gov_3]))] → va_S A s.heap H locs → lv_has ls 3 [(2, .int L2_27), (0, .ref g), (1, .ref r)] → W p l e { frames := 1, cells := 0, slots := 0, locals := 21 } s m (List.toArray [.ref g, .ref r]) below meth c H locs 0 0 Q (F0 m 27 ls []) := by
          intro n
          induction n with
          | zero =>
            intro L2_27 gdf_27 hi0_27 hm
            exact absurd hm (by omega)
          | succ n ih27 =>
            intro L2_27 gdf_27 hi0_27 hm27 H locs ls hP hD hS hl
            refine lv_iload_n hx hb dX2_begin_27 rfl (lv_at hl 0 rfl) ?_
            refine lv_aload_n hx hb dX2_begin_28 rfl (lv_at hl 2 rfl) ?_
            refine calI (rest := [.int L2_27]) (wr := [(gd, .inl (cI, 28, .inl gdf_27)), (g, .inr (2, [.ref gh, .ref gr, .ref gl, .ref gk, .ref gd, .ref gm, .int gsz_2, .int gcn, .int gov_3]))]) hG (c_X4_size l dC dI cI cJ base bB bO r rt rsz rf ) ml_X2_72 im_X4_size se_X4_size ini_X4 cd_X4_size hd_X4_size ⟨(Nat.le_of_ble_eq_true rfl), (Nat.le_of_ble_eq_true rfl)⟩ (Nat.le_of_ble_eq_true rfl) (Nat.le_of_ble_eq_true rfl) hP hD hS [1, 2] [0, 3] rfl rfl rfl rfl (by decide) 3 1 rfl rfl hl.1 rfl (Nat.le_of_ble_eq_true rfl) dX2_begin_29 (fun r7 u H locs hw8 hP hD hS => ?_)
            have hw8 : (r7 = rsz) ∧ True := hw8
            obtain ⟨hp9, -⟩ := hw8
            have hp9t := I_eq hp9
            have hP : va_P (dC, dI) vwCl [(gd, .inl (cI, 28, .inl gdf_27)), (g, .inr (2, [.ref gh, .ref gr, .ref gl, .ref gk, .ref gd, .ref gm, .int gsz_2, .int gcn, .int gov_3])), (r, .inr (3, [.ref rt, .int rsz])), (rt, .inl (cI, 12, .inl rf))] H := hP
            have hD : va_D A [(gd, .inl (cI, 28, .inl gdf_27)), (g, .inr (2, [.ref gh, .ref gr, .ref gl, .ref gk, .ref gd, .ref gm, .int gsz_2, .int gcn, .int gov_3])), (r, .inr (3, [.ref rt, .int rsz])), (rt, .inl (cI, 12, .inl rf))] := hD
            refine lv_icmp_ge (tgt := 66) hx hb dX2_begin_32 (by decide) (fun c10 => ?_) (fun c10 => ?_)
            · have c10' := I_le c10
              exact hret (gsz_2, gov_3, gdf_27) H locs 66 ls ⟨(show gsz_2.toInt = 0 from by first | rfl | assumption | omega), (show gov_3.toInt = 0 from by first | rfl | assumption | omega), trivial⟩ (hP.sub (ws' := [(g, .inr (2, [.ref gh, .ref gr, .ref gl, .ref gk, .ref gd, .ref gm, .int gsz_2, .int gcn, .int gov_3])), (gd, .inl (cI, 28, .inl gdf_27)), (r, .inr (3, [.ref rt, .int rsz])), (rt, .inl (cI, 12, .inl rf))]) [1, 0, 2, 3] rfl) (hD.sub (ws' := [(g, .inr (2, [.ref gh, .ref gr, .ref gl, .ref gk, .ref gd, .ref gm, .int gsz_2, .int gcn, .int gov_3])), (gd, .inl (cI, 28, .inl gdf_27)), (r, .inr (3, [.ref rt, .int rsz])), (rt, .inl (cI, 12, .inl rf))]) [1, 0, 2, 3] (by decide) rfl) hS dX2_begin_66
            · have c10' := I_nle c10
              refine lv_aload_n hx hb dX2_begin_35 rfl (lv_at hl 2 rfl) ?_
              refine lv_iload_n hx hb dX2_begin_36 rfl (lv_at hl 0 rfl) ?_
              refine calI (rest := []) (wr := [(gd, .inl (cI, 28, .inl gdf_27)), (g, .inr (2, [.ref gh, .ref gr, .ref gl, .ref gk, .ref gd, .ref gm, .int gsz_2, .int gcn, .int gov_3]))]) hG (c_X4_at l dC dI cI cJ base bB bO r rt rsz rf L2_27 (by first | assumption | omega) (by first | assumption | omega)) ml_X2_75 im_X4_at se_X4_at ini_X4 cd_X4_at hd_X4_at ⟨(Nat.le_of_ble_eq_true rfl), (Nat.le_of_ble_eq_true rfl)⟩ (Nat.le_of_ble_eq_true rfl) (Nat.le_of_ble_eq_true rfl) hP hD hS [2, 3] [0, 1] rfl rfl rfl rfl (by decide) 3 2 rfl rfl hl.1 rfl (Nat.le_of_ble_eq_true rfl) dX2_begin_37 (fun r11 u H locs hw12 hP hD hS => ?_)
              have hw12 : (r11 = atf rf rsz L2_27) ∧ (-1 ≤ r11.toInt ∧ r11.toInt ≤ 31) ∧ True := hw12
              obtain ⟨hp13, hp14, -⟩ := hw12
              have hp13t := I_eq hp13
              have hP : va_P (dC, dI) vwCl [(gd, .inl (cI, 28, .inl gdf_27)), (g, .inr (2, [.ref gh, .ref gr, .ref gl, .ref gk, .ref gd, .ref gm, .int gsz_2, .int gcn, .int gov_3])), (r, .inr (3, [.ref rt, .int rsz])), (rt, .inl (cI, 12, .inl rf))] H := hP
              have hD : va_D A [(gd, .inl (cI, 28, .inl gdf_27)), (g, .inr (2, [.ref gh, .ref gr, .ref gl, .ref gk, .ref gd, .ref gm, .int gsz_2, .int gcn, .int gov_3])), (r, .inr (3, [.ref rt, .int rsz])), (rt, .inl (cI, 12, .inl rf))] := hD
              refine calNI (rest := []) (wr := [(gd, .inl (cI, 28, .inl gdf_27)), (g, .inr (2, [.ref gh, .ref gr, .ref gl, .ref gk, .ref gd, .ref gm, .int gsz_2, .int gcn, .int gov_3])), (r, .inr (3, [.ref rt, .int rsz])), (rt, .inl (cI, 12, .inl rf))]) hG (c_X8_isToken l dC dI cI cJ base bB bO r11 ) nl_X2_78 st_X8_isToken ini_X8 cd_X8_isToken hd_X8_isToken.2 ⟨(Nat.le_of_ble_eq_true rfl), (Nat.le_of_ble_eq_true rfl)⟩ (Nat.le_of_ble_eq_true rfl) (Nat.le_of_ble_eq_true rfl) hP hD hS [] [0, 1, 2, 3] rfl rfl rfl rfl (by decide) hl.1 rfl (Nat.le_of_ble_eq_true rfl) dX2_begin_40 (fun r15 u H locs hw16 hP hD hS => ?_)
              have hw16 : ((r15.toInt = 1 ∧ 0 ≤ r11.toInt ∧ r11.toInt ≤ 27) ∨ (r15.toInt = 0 ∧ (r11.toInt < 0 ∨ 27 < r11.toInt))) ∧ True := hw16
              obtain ⟨hp17, -⟩ := hw16
              have hP : va_P (dC, dI) vwCl [(gd, .inl (cI, 28, .inl gdf_27)), (g, .inr (2, [.ref gh, .ref gr, .ref gl, .ref gk, .ref gd, .ref gm, .int gsz_2, .int gcn, .int gov_3])), (r, .inr (3, [.ref rt, .int rsz])), (rt, .inl (cI, 12, .inl rf))] H := hP
              have hD : va_D A [(gd, .inl (cI, 28, .inl gdf_27)), (g, .inr (2, [.ref gh, .ref gr, .ref gl, .ref gk, .ref gd, .ref gm, .int gsz_2, .int gcn, .int gov_3])), (r, .inr (3, [.ref rt, .int rsz])), (rt, .inl (cI, 12, .inl rf))] := hD
              refine lv_if_eq (tgt := 60) hx hb dX2_begin_43 (by decide) (fun c18 => ?_) (fun c18 => ?_)
              · have c18' := I_eq c18
                obtain ⟨v19, ev19⟩ : ∃ y : Int32, y = L2_27 + 1 := ⟨_, rfl⟩
                try have hv19 : v19.toInt = L2_27.toInt + (1 : Int32).toInt := I_addx ev19 (by omega)
                refine lv_iinc (v := v19) (lv' := [(2, .int v19), (0, .ref g), (1, .ref r)]) hx hb dX2_begin_60 hl (k := 0) rfl (by rw [ev19]; rfl) (by decide) rfl (fun ls hl => ?_)
                refine lv_goto (tgt := 27) hx hb dX2_begin_63 (by decide) ?_
                exact ih27 v19 gdf_27 (by first | assumption | omega) (by omega) H locs ls (hP.sub (ws' := [(gd, .inl (cI, 28, .inl gdf_27)), (r, .inr (3, [.ref rt, .int rsz])), (rt, .inl (cI, 12, .inl rf)), (g, .inr (2, [.ref gh, .ref gr, .ref gl, .ref gk, .ref gd, .ref gm, .int gsz_2, .int gcn, .int gov_3]))]) [0, 2, 3, 1] rfl) (hD.sub (ws' := [(gd, .inl (cI, 28, .inl gdf_27)), (r, .inr (3, [.ref rt, .int rsz])), (rt, .inl (cI, 12, .inl rf)), (g, .inr (2, [.ref gh, .ref gr, .ref gl, .ref gk, .ref gd, .ref gm, .int gsz_2, .int gcn, .int gov_3]))]) [0, 2, 3, 1] (by decide) rfl) hS hl
              · have c18' := I_ne c18
                refine lv_aload_n hx hb dX2_begin_46 rfl (lv_at hl 1 rfl) ?_
                refine va_get (D := (dC, dI)) (ci := 2) (v := .ref gd) (C := RX2) (T := TX2) (N := 9) hx hb hts inG_X2 hown hK hP 1 rfl rfl 4 (by decide) (hts _ fl_X2_29) (fun _ h9 => h9) rfl dX2_begin_47 ?_
                refine lv_aload_n hx hb dX2_begin_50 rfl (lv_at hl 2 rfl) ?_
                refine lv_iload_n hx hb dX2_begin_51 rfl (lv_at hl 0 rfl) ?_
                refine calI (rest := [.ref gd]) (wr := [(gd, .inl (cI, 28, .inl gdf_27)), (g, .inr (2, [.ref gh, .ref gr, .ref gl, .ref gk, .ref gd, .ref gm, .int gsz_2, .int gcn, .int gov_3]))]) hG (c_X4_at l dC dI cI cJ base bB bO r rt rsz rf L2_27 (by first | assumption | omega) (by first | assumption | omega)) ml_X2_75 im_X4_at se_X4_at ini_X4 cd_X4_at hd_X4_at ⟨(Nat.le_of_ble_eq_true rfl), (Nat.le_of_ble_eq_true rfl)⟩ (Nat.le_of_ble_eq_true rfl) (Nat.le_of_ble_eq_true rfl) hP hD hS [2, 3] [0, 1] rfl rfl rfl rfl (by decide) 3 2 rfl rfl hl.1 rfl (Nat.le_of_ble_eq_true rfl) dX2_begin_52 (fun r20 u H locs hw21 hP hD hS => ?_)
                have hw21 : (r20 = atf rf rsz L2_27) ∧ (-1 ≤ r20.toInt ∧ r20.toInt ≤ 31) ∧ True := hw21
                obtain ⟨hp22, hp23, -⟩ := hw21
                have hp22t := I_eq hp22
                have hP : va_P (dC, dI) vwCl [(gd, .inl (cI, 28, .inl gdf_27)), (g, .inr (2, [.ref gh, .ref gr, .ref gl, .ref gk, .ref gd, .ref gm, .int gsz_2, .int gcn, .int gov_3])), (r, .inr (3, [.ref rt, .int rsz])), (rt, .inl (cI, 12, .inl rf))] H := hP
                have hD : va_D A [(gd, .inl (cI, 28, .inl gdf_27)), (g, .inr (2, [.ref gh, .ref gr, .ref gl, .ref gk, .ref gd, .ref gm, .int gsz_2, .int gcn, .int gov_3])), (r, .inr (3, [.ref rt, .int rsz])), (rt, .inl (cI, 12, .inl rf))] := hD
                refine lv_dup2_11 hx hb dX2_begin_55 rfl rfl ?_
                refine va_iald (t0 := 0) hx hb hK hP 0 (ha := rfl) (ht := rfl) (I_in (by omega) (by omega)) dX2_begin_56 ?_
                refine lv_topi (fun v24 ev24 => ?_)
                refine lv_iconst (v := 1) hx hb dX2_begin_57 (by decide) ?_
                refine lv_iadd hx hb dX2_begin_58 ?_
                refine lv_topi (fun v25 ev25 => ?_)
                try have hv25 : v25.toInt = v24.toInt + (1 : Int32).toInt := I_addx ev25 (by omega)
                refine va_iast (t0 := 0) hx hb hK hP hD hS 0 (ha := rfl) (ht := rfl) (I_in (by omega) (by omega)) dX2_begin_59 (fun H locs hP hD hS => ?_)
                have hP : va_P (dC, dI) vwCl [(gd, .inl (cI, 28, .inl (upd gdf_27 r20.toNatClampNeg v25))), (g, .inr (2, [.ref gh, .ref gr, .ref gl, .ref gk, .ref gd, .ref gm, .int gsz_2, .int gcn, .int gov_3])), (r, .inr (3, [.ref rt, .int rsz])), (rt, .inl (cI, 12, .inl rf))] H := hP
                have hD : va_D A [(gd, .inl (cI, 28, .inl (upd gdf_27 r20.toNatClampNeg v25))), (g, .inr (2, [.ref gh, .ref gr, .ref gl, .ref gk, .ref gd, .ref gm, .int gsz_2, .int gcn, .int gov_3])), (r, .inr (3, [.ref rt, .int rsz])), (rt, .inl (cI, 12, .inl rf))] := hD
                generalize ef26 : upd gdf_27 r20.toNatClampNeg v25 = f26 at hP hD
                obtain ⟨v27, ev27⟩ : ∃ y : Int32, y = L2_27 + 1 := ⟨_, rfl⟩
                try have hv27 : v27.toInt = L2_27.toInt + (1 : Int32).toInt := I_addx ev27 (by omega)
                refine lv_iinc (v := v27) (lv' := [(2, .int v27), (0, .ref g), (1, .ref r)]) hx hb dX2_begin_60 hl (k := 0) rfl (by rw [ev27]; rfl) (by decide) rfl (fun ls hl => ?_)
                refine lv_goto (tgt := 27) hx hb dX2_begin_63 (by decide) ?_
                exact ih27 v27 f26 (by first | assumption | omega) (by omega) H locs ls (hP.sub (ws' := [(gd, .inl (cI, 28, .inl f26)), (r, .inr (3, [.ref rt, .int rsz])), (rt, .inl (cI, 12, .inl rf)), (g, .inr (2, [.ref gh, .ref gr, .ref gl, .ref gk, .ref gd, .ref gm, .int gsz_2, .int gcn, .int gov_3]))]) [0, 2, 3, 1] rfl) (hD.sub (ws' := [(gd, .inl (cI, 28, .inl f26)), (r, .inr (3, [.ref rt, .int rsz])), (rt, .inl (cI, 12, .inl rf)), (g, .inr (2, [.ref gh, .ref gr, .ref gl, .ref gk, .ref gd, .ref gm, .int gsz_2, .int gcn, .int gov_3]))]) [0, 2, 3, 1] (by decide) rfl) hS hl
        exact J27 ((12 - (0 : Int32).toInt).toNat + 1) 0 gdf_6 (by first | assumption | omega) (by omega) H locs ls hP hD hS hl
      · have c6' := I_nle c6
        refine lv_aload_n hx hb dX2_begin_12 rfl (lv_at hl 1 rfl) ?_
        refine va_get (D := (dC, dI)) (ci := 2) (v := .ref gd) (C := RX2) (T := TX2) (N := 9) hx hb hts inG_X2 hown hK hP 3 rfl rfl 4 (by decide) (hts _ fl_X2_29) (fun _ h9 => h9) rfl dX2_begin_13 ?_
        refine lv_iload_n hx hb dX2_begin_16 rfl (lv_at hl 0 rfl) ?_
        refine lv_iconst (v := 0) hx hb dX2_begin_17 (by decide) ?_
        refine va_iast (t0 := 0) hx hb hK hP hD hS 0 (ha := rfl) (ht := rfl) (I_in (by omega) (by omega)) dX2_begin_18 (fun H locs hP hD hS => ?_)
        have hP : va_P (dC, dI) vwCl [(gd, .inl (cI, 28, .inl (upd gdf_6 L2_6.toNatClampNeg 0))), (r, .inr (3, [.ref rt, .int rsz])), (rt, .inl (cI, 12, .inl rf)), (g, .inr (2, [.ref gh, .ref gr, .ref gl, .ref gk, .ref gd, .ref gm, .int gsz_2, .int gcn, .int gov_3]))] H := hP
        have hD : va_D A [(gd, .inl (cI, 28, .inl (upd gdf_6 L2_6.toNatClampNeg 0))), (r, .inr (3, [.ref rt, .int rsz])), (rt, .inl (cI, 12, .inl rf)), (g, .inr (2, [.ref gh, .ref gr, .ref gl, .ref gk, .ref gd, .ref gm, .int gsz_2, .int gcn, .int gov_3]))] := hD
        generalize ef28 : upd gdf_6 L2_6.toNatClampNeg 0 = f28 at hP hD
        obtain ⟨v29, ev29⟩ : ∃ y : Int32, y = L2_6 + 1 := ⟨_, rfl⟩
        try have hv29 : v29.toInt = L2_6.toInt + (1 : Int32).toInt := I_addx ev29 (by omega)
        refine lv_iinc (v := v29) (lv' := [(2, .int v29), (0, .ref g), (1, .ref r)]) hx hb dX2_begin_19 hl (k := 0) rfl (by rw [ev29]; rfl) (by decide) rfl (fun ls hl => ?_)
        refine lv_goto (tgt := 6) hx hb dX2_begin_22 (by decide) ?_
        exact ih6 v29 f28 (by first | assumption | omega) (by omega) H locs ls hP hD hS hl
  exact J6 ((28 - (0 : Int32).toInt).toNat + 1) 0 gdf (by first | assumption | omega) (by omega) H locs ls hP hD hS hl
set_option maxHeartbeats 4000000 in
set_option maxRecDepth 100000 in
theorem c_X2_compare (l : Launch) (dC : Nat → ClassId) (dI : Nat → Nat → Nat) (cI cJ : ClassId) (base bB bO : Nat) (g : Nat) (gh : Nat) (gr : Nat) (gl : Nat) (gk : Nat) (gd : Nat) (gm : Nat) (gsz : Int32) (gcn : Int32) (gov : Int32) (gdf : Nat → Int32) (gmf : Nat → Int32) (r : Nat) (rt : Nat) (rsz : Int32) (rf : Nat → Int32) (hq0 : 0 ≤ rsz.toInt ∧ rsz.toInt ≤ 12) (hq1 : ∀ j : Nat, -1 ≤ (rf j).toInt ∧ (rf j).toInt ≤ 31) : CtV l dC dI cI cJ base bB bO yX2_compare cX2_compare 3 0 0 1 21 [.ref g, .ref r] [(g, .inr (2, [.ref gh, .ref gr, .ref gl, .ref gk, .ref gd, .ref gm, .int gsz, .int gcn, .int gov])), (gd, .inl (cI, 28, .inl gdf)), (gm, .inl (cI, 28, .inl gmf)), (r, .inr (3, [.ref rt, .int rsz])), (rt, .inl (cI, 12, .inl rf))] ((Nat → Int32)) (fun (u : (Nat → Int32)) => True) (fun (u : (Nat → Int32)) => [(g, .inr (2, [.ref gh, .ref gr, .ref gl, .ref gk, .ref gd, .ref gm, .int gsz, .int gcn, .int gov])), (gd, .inl (cI, 28, .inl gdf)), (gm, .inl (cI, 28, .inl u)), (r, .inr (3, [.ref rt, .int rsz])), (rt, .inl (cI, 12, .inl rf))]) := by
  refine entV (by decide) (Nat.le_of_ble_eq_true rfl) ?_
  intro p e s m below meth c A Q ls hAt hret hP hD hS hl
  obtain ⟨hx, hb, hml, hown, hts, hA, hAb, hK, hE, hlocks, hin⟩ := hAt
  have hG : CG dC dI cI cJ base bB bO cX2_compare 3 RX2 p s m (List.toArray [.ref g, .ref r]) c A := ⟨hx, hb, hml, hown, hts, hA, hAb, hK, hE⟩
  have hl : lv_has ls 3 [(0, .ref g), (1, .ref r)] := hl
  have c_0 : (0 : Int32).toInt = 0 := by decide
  have c_1 : (1 : Int32).toInt = 1 := by decide
  have c_28 : (28 : Int32).toInt = 28 := by decide
  obtain ⟨H, hHe⟩ : ∃ H : Heap, H = s.heap := ⟨_, rfl⟩
  obtain ⟨locs, hle⟩ : ∃ z : List Loc, z = [] := ⟨_, rfl⟩
  rw [← hHe] at hP
  have hS : va_S A s.heap H locs := by rw [hHe, hle]; exact hS
  suffices hgo : W p l e { frames := 1, cells := 0, slots := 0, locals := 21 } s m (List.toArray [.ref g, .ref r]) below meth c H locs 0 0 Q (F0 m 0 ls []) by rw [hHe, hle] at hgo; exact hgo
  refine lv_iconst (v := 0) hx hb dX2_compare_0 (by decide) ?_
  refine lv_istore_n (lv' := [(2, .int 0), (0, .ref g), (1, .ref r)]) hx hb dX2_compare_1 rfl hl (by decide) rfl (fun ls hl => ?_)
  have J2 : ∀ (n : Nat) (L2_2 : Int32) (gmf_2 : Nat → Int32), (0 ≤ L2_2.toInt ∧ L2_2.toInt ≤ 28) → (28 - L2_2.toInt) < (n : Int) → ∀ (H : Heap) (locs : List Loc) (ls : Array Slot), va_P (dC, dI) vwCl [(g, .inr (2, [.ref gh, .ref gr, .ref gl, .ref gk, .ref gd, .ref gm, .int gsz, .int gcn, .int gov])), (gd, .inl (cI, 28, .inl gdf)), (gm, .inl (cI, 28, .inl gmf_2)), (r, .inr (3, [.ref rt, .int rsz])), (rt, .inl (cI, 12, .inl rf))] H → va_D A [(g, .inr (2, [.ref gh, .ref gr, .ref gl, .ref gk, .ref gd, .ref gm, .int gsz, .int gcn, .int gov])), (gd, .inl (cI, 28, .inl gdf)), (gm, .inl (cI, 28, .inl gmf_2)), (r, .inr (3, [.ref rt, .int rsz])), (rt, .inl (cI, 12, .inl rf))] → va_S A s.heap H locs → lv_has ls 3 [(2, .int L2_2), (0, .ref g), (1, .ref r)] → W p l e { frames := 1, cells := 0, slots := 0, locals := 21 } s m (List.toArray [.ref g, .ref r]) below meth c H locs 0 0 Q (F0 m 2 ls []) := by
    intro n
    induction n with
    | zero =>
      intro L2_2 gmf_2 hi0_2 hm
      exact absurd hm (by omega)
    | succ n ih2 =>
      intro L2_2 gmf_2 hi0_2 hm2 H locs ls hP hD hS hl
      refine lv_iload_n hx hb dX2_compare_2 rfl (lv_at hl 0 rfl) ?_
      refine lv_bipush (v := 28) hx hb dX2_compare_3 (by decide) ?_
      refine lv_icmp_ge (tgt := 27) hx hb dX2_compare_5 (by decide) (fun c1 => ?_) (fun c1 => ?_)
      · have c1' := I_le c1
        refine lv_iconst (v := 0) hx hb dX2_compare_27 (by decide) ?_
        refine lv_istore_n (lv' := [(2, .int 0), (0, .ref g), (1, .ref r)]) hx hb dX2_compare_28 rfl hl (by decide) rfl (fun ls hl => ?_)
        have J29 : ∀ (n : Nat) (L2_29 : Int32) (gmf_29 : Nat → Int32), (0 ≤ L2_29.toInt ∧ L2_29.toInt ≤ 12) → (12 - L2_29.toInt) < (n : Int) → ∀ (H : Heap) (locs : List Loc) (ls : Array Slot), va_P (dC, dI) vwCl [(g, .inr (2, [.ref gh, .ref gr, .ref gl, .ref gk, .ref gd, .ref gm, .int gsz, .int gcn, .int gov])), (gd, .inl (cI, 28, .inl gdf)), (gm, .inl (cI, 28, .inl gmf_29)), (r, .inr (3, [.ref rt, .int rsz])), (rt, .inl (cI, 12, .inl rf))] H → va_D A [(g, .inr (2, [.ref gh, .ref gr, .ref gl, .ref gk, .ref gd, .ref gm, .int gsz, .int gcn, .int gov])), (gd, .inl (cI, 28, .inl gdf)), (gm, .inl (cI, 28, .inl gmf_29)), (r, .inr (3, [.ref rt, .int rsz])), (rt, .inl (cI, 12, .inl rf))] → va_S A s.heap H locs → lv_has ls 3 [(2, .int L2_29), (0, .ref g), (1, .ref r)] → W p l e { frames := 1, cells := 0, slots := 0, locals := 21 } s m (List.toArray [.ref g, .ref r]) below meth c H locs 0 0 Q (F0 m 29 ls []) := by
          intro n
          induction n with
          | zero =>
            intro L2_29 gmf_29 hi0_29 hm
            exact absurd hm (by omega)
          | succ n ih29 =>
            intro L2_29 gmf_29 hi0_29 hm29 H locs ls hP hD hS hl
            refine lv_iload_n hx hb dX2_compare_29 rfl (lv_at hl 0 rfl) ?_
            refine lv_aload_n hx hb dX2_compare_30 rfl (lv_at hl 2 rfl) ?_
            refine calI (rest := [.int L2_29]) (wr := [(g, .inr (2, [.ref gh, .ref gr, .ref gl, .ref gk, .ref gd, .ref gm, .int gsz, .int gcn, .int gov])), (gd, .inl (cI, 28, .inl gdf)), (gm, .inl (cI, 28, .inl gmf_29))]) hG (c_X4_size l dC dI cI cJ base bB bO r rt rsz rf ) ml_X2_72 im_X4_size se_X4_size ini_X4 cd_X4_size hd_X4_size ⟨(Nat.le_of_ble_eq_true rfl), (Nat.le_of_ble_eq_true rfl)⟩ (Nat.le_of_ble_eq_true rfl) (Nat.le_of_ble_eq_true rfl) hP hD hS [3, 4] [0, 1, 2] rfl rfl rfl rfl (by decide) 3 3 rfl rfl hl.1 rfl (Nat.le_of_ble_eq_true rfl) dX2_compare_31 (fun r2 u H locs hw3 hP hD hS => ?_)
            have hw3 : (r2 = rsz) ∧ True := hw3
            obtain ⟨hp4, -⟩ := hw3
            have hp4t := I_eq hp4
            have hP : va_P (dC, dI) vwCl [(g, .inr (2, [.ref gh, .ref gr, .ref gl, .ref gk, .ref gd, .ref gm, .int gsz, .int gcn, .int gov])), (gd, .inl (cI, 28, .inl gdf)), (gm, .inl (cI, 28, .inl gmf_29)), (r, .inr (3, [.ref rt, .int rsz])), (rt, .inl (cI, 12, .inl rf))] H := hP
            have hD : va_D A [(g, .inr (2, [.ref gh, .ref gr, .ref gl, .ref gk, .ref gd, .ref gm, .int gsz, .int gcn, .int gov])), (gd, .inl (cI, 28, .inl gdf)), (gm, .inl (cI, 28, .inl gmf_29)), (r, .inr (3, [.ref rt, .int rsz])), (rt, .inl (cI, 12, .inl rf))] := hD
            refine lv_icmp_ge (tgt := 68) hx hb dX2_compare_34 (by decide) (fun c5 => ?_) (fun c5 => ?_)
            · have c5' := I_le c5
              exact hret gmf_29 H locs 68 ls trivial hP hD hS dX2_compare_68
            · have c5' := I_nle c5
              refine lv_aload_n hx hb dX2_compare_37 rfl (lv_at hl 2 rfl) ?_
              refine lv_iload_n hx hb dX2_compare_38 rfl (lv_at hl 0 rfl) ?_
              refine calI (rest := []) (wr := [(g, .inr (2, [.ref gh, .ref gr, .ref gl, .ref gk, .ref gd, .ref gm, .int gsz, .int gcn, .int gov])), (gd, .inl (cI, 28, .inl gdf)), (gm, .inl (cI, 28, .inl gmf_29))]) hG (c_X4_at l dC dI cI cJ base bB bO r rt rsz rf L2_29 (by first | assumption | omega) (by first | assumption | omega)) ml_X2_75 im_X4_at se_X4_at ini_X4 cd_X4_at hd_X4_at ⟨(Nat.le_of_ble_eq_true rfl), (Nat.le_of_ble_eq_true rfl)⟩ (Nat.le_of_ble_eq_true rfl) (Nat.le_of_ble_eq_true rfl) hP hD hS [3, 4] [0, 1, 2] rfl rfl rfl rfl (by decide) 3 3 rfl rfl hl.1 rfl (Nat.le_of_ble_eq_true rfl) dX2_compare_39 (fun r6 u H locs hw7 hP hD hS => ?_)
              have hw7 : (r6 = atf rf rsz L2_29) ∧ (-1 ≤ r6.toInt ∧ r6.toInt ≤ 31) ∧ True := hw7
              obtain ⟨hp8, hp9, -⟩ := hw7
              have hp8t := I_eq hp8
              have hP : va_P (dC, dI) vwCl [(g, .inr (2, [.ref gh, .ref gr, .ref gl, .ref gk, .ref gd, .ref gm, .int gsz, .int gcn, .int gov])), (gd, .inl (cI, 28, .inl gdf)), (gm, .inl (cI, 28, .inl gmf_29)), (r, .inr (3, [.ref rt, .int rsz])), (rt, .inl (cI, 12, .inl rf))] H := hP
              have hD : va_D A [(g, .inr (2, [.ref gh, .ref gr, .ref gl, .ref gk, .ref gd, .ref gm, .int gsz, .int gcn, .int gov])), (gd, .inl (cI, 28, .inl gdf)), (gm, .inl (cI, 28, .inl gmf_29)), (r, .inr (3, [.ref rt, .int rsz])), (rt, .inl (cI, 12, .inl rf))] := hD
              refine calNI (rest := []) (wr := [(g, .inr (2, [.ref gh, .ref gr, .ref gl, .ref gk, .ref gd, .ref gm, .int gsz, .int gcn, .int gov])), (gd, .inl (cI, 28, .inl gdf)), (gm, .inl (cI, 28, .inl gmf_29)), (r, .inr (3, [.ref rt, .int rsz])), (rt, .inl (cI, 12, .inl rf))]) hG (c_X8_isToken l dC dI cI cJ base bB bO r6 ) nl_X2_78 st_X8_isToken ini_X8 cd_X8_isToken hd_X8_isToken.2 ⟨(Nat.le_of_ble_eq_true rfl), (Nat.le_of_ble_eq_true rfl)⟩ (Nat.le_of_ble_eq_true rfl) (Nat.le_of_ble_eq_true rfl) hP hD hS [] [0, 1, 2, 3, 4] rfl rfl rfl rfl (by decide) hl.1 rfl (Nat.le_of_ble_eq_true rfl) dX2_compare_42 (fun r10 u H locs hw11 hP hD hS => ?_)
              have hw11 : ((r10.toInt = 1 ∧ 0 ≤ r6.toInt ∧ r6.toInt ≤ 27) ∨ (r10.toInt = 0 ∧ (r6.toInt < 0 ∨ 27 < r6.toInt))) ∧ True := hw11
              obtain ⟨hp12, -⟩ := hw11
              have hP : va_P (dC, dI) vwCl [(g, .inr (2, [.ref gh, .ref gr, .ref gl, .ref gk, .ref gd, .ref gm, .int gsz, .int gcn, .int gov])), (gd, .inl (cI, 28, .inl gdf)), (gm, .inl (cI, 28, .inl gmf_29)), (r, .inr (3, [.ref rt, .int rsz])), (rt, .inl (cI, 12, .inl rf))] H := hP
              have hD : va_D A [(g, .inr (2, [.ref gh, .ref gr, .ref gl, .ref gk, .ref gd, .ref gm, .int gsz, .int gcn, .int gov])), (gd, .inl (cI, 28, .inl gdf)), (gm, .inl (cI, 28, .inl gmf_29)), (r, .inr (3, [.ref rt, .int rsz])), (rt, .inl (cI, 12, .inl rf))] := hD
              refine lv_if_eq (tgt := 62) hx hb dX2_compare_45 (by decide) (fun c13 => ?_) (fun c13 => ?_)
              · have c13' := I_eq c13
                obtain ⟨v14, ev14⟩ : ∃ y : Int32, y = L2_29 + 1 := ⟨_, rfl⟩
                try have hv14 : v14.toInt = L2_29.toInt + (1 : Int32).toInt := I_addx ev14 (by omega)
                refine lv_iinc (v := v14) (lv' := [(2, .int v14), (0, .ref g), (1, .ref r)]) hx hb dX2_compare_62 hl (k := 0) rfl (by rw [ev14]; rfl) (by decide) rfl (fun ls hl => ?_)
                refine lv_goto (tgt := 29) hx hb dX2_compare_65 (by decide) ?_
                exact ih29 v14 gmf_29 (by first | assumption | omega) (by omega) H locs ls hP hD hS hl
              · have c13' := I_ne c13
                refine lv_aload_n hx hb dX2_compare_48 rfl (lv_at hl 1 rfl) ?_
                refine va_get (D := (dC, dI)) (ci := 2) (v := .ref gm) (C := RX2) (T := TX2) (N := 9) hx hb hts inG_X2 hown hK hP 0 rfl rfl 5 (by decide) (hts _ fl_X2_32) (fun _ h9 => h9) rfl dX2_compare_49 ?_
                refine lv_aload_n hx hb dX2_compare_52 rfl (lv_at hl 2 rfl) ?_
                refine lv_iload_n hx hb dX2_compare_53 rfl (lv_at hl 0 rfl) ?_
                refine calI (rest := [.ref gm]) (wr := [(g, .inr (2, [.ref gh, .ref gr, .ref gl, .ref gk, .ref gd, .ref gm, .int gsz, .int gcn, .int gov])), (gd, .inl (cI, 28, .inl gdf)), (gm, .inl (cI, 28, .inl gmf_29))]) hG (c_X4_at l dC dI cI cJ base bB bO r rt rsz rf L2_29 (by first | assumption | omega) (by first | assumption | omega)) ml_X2_75 im_X4_at se_X4_at ini_X4 cd_X4_at hd_X4_at ⟨(Nat.le_of_ble_eq_true rfl), (Nat.le_of_ble_eq_true rfl)⟩ (Nat.le_of_ble_eq_true rfl) (Nat.le_of_ble_eq_true rfl) hP hD hS [3, 4] [0, 1, 2] rfl rfl rfl rfl (by decide) 3 3 rfl rfl hl.1 rfl (Nat.le_of_ble_eq_true rfl) dX2_compare_54 (fun r15 u H locs hw16 hP hD hS => ?_)
                have hw16 : (r15 = atf rf rsz L2_29) ∧ (-1 ≤ r15.toInt ∧ r15.toInt ≤ 31) ∧ True := hw16
                obtain ⟨hp17, hp18, -⟩ := hw16
                have hp17t := I_eq hp17
                have hP : va_P (dC, dI) vwCl [(g, .inr (2, [.ref gh, .ref gr, .ref gl, .ref gk, .ref gd, .ref gm, .int gsz, .int gcn, .int gov])), (gd, .inl (cI, 28, .inl gdf)), (gm, .inl (cI, 28, .inl gmf_29)), (r, .inr (3, [.ref rt, .int rsz])), (rt, .inl (cI, 12, .inl rf))] H := hP
                have hD : va_D A [(g, .inr (2, [.ref gh, .ref gr, .ref gl, .ref gk, .ref gd, .ref gm, .int gsz, .int gcn, .int gov])), (gd, .inl (cI, 28, .inl gdf)), (gm, .inl (cI, 28, .inl gmf_29)), (r, .inr (3, [.ref rt, .int rsz])), (rt, .inl (cI, 12, .inl rf))] := hD
                refine lv_dup2_11 hx hb dX2_compare_57 rfl rfl ?_
                refine va_iald (t0 := 0) hx hb hK hP 2 (ha := rfl) (ht := rfl) (I_in (by omega) (by omega)) dX2_compare_58 ?_
                refine lv_topi (fun v19 ev19 => ?_)
                refine lv_iconst (v := 1) hx hb dX2_compare_59 (by decide) ?_
                refine lv_iadd hx hb dX2_compare_60 ?_
                refine lv_topi (fun v20 ev20 => ?_)
                try have hv20 : v20.toInt = v19.toInt + (1 : Int32).toInt := I_addx ev20 (by omega)
                refine va_iast (t0 := 0) hx hb hK hP hD hS 2 (ha := rfl) (ht := rfl) (I_in (by omega) (by omega)) dX2_compare_61 (fun H locs hP hD hS => ?_)
                have hP : va_P (dC, dI) vwCl [(g, .inr (2, [.ref gh, .ref gr, .ref gl, .ref gk, .ref gd, .ref gm, .int gsz, .int gcn, .int gov])), (gd, .inl (cI, 28, .inl gdf)), (gm, .inl (cI, 28, .inl (upd gmf_29 r15.toNatClampNeg v20))), (r, .inr (3, [.ref rt, .int rsz])), (rt, .inl (cI, 12, .inl rf))] H := hP
                have hD : va_D A [(g, .inr (2, [.ref gh, .ref gr, .ref gl, .ref gk, .ref gd, .ref gm, .int gsz, .int gcn, .int gov])), (gd, .inl (cI, 28, .inl gdf)), (gm, .inl (cI, 28, .inl (upd gmf_29 r15.toNatClampNeg v20))), (r, .inr (3, [.ref rt, .int rsz])), (rt, .inl (cI, 12, .inl rf))] := hD
                generalize ef21 : upd gmf_29 r15.toNatClampNeg v20 = f21 at hP hD
                obtain ⟨v22, ev22⟩ : ∃ y : Int32, y = L2_29 + 1 := ⟨_, rfl⟩
                try have hv22 : v22.toInt = L2_29.toInt + (1 : Int32).toInt := I_addx ev22 (by omega)
                refine lv_iinc (v := v22) (lv' := [(2, .int v22), (0, .ref g), (1, .ref r)]) hx hb dX2_compare_62 hl (k := 0) rfl (by rw [ev22]; rfl) (by decide) rfl (fun ls hl => ?_)
                refine lv_goto (tgt := 29) hx hb dX2_compare_65 (by decide) ?_
                exact ih29 v22 f21 (by first | assumption | omega) (by omega) H locs ls hP hD hS hl
        exact J29 ((12 - (0 : Int32).toInt).toNat + 1) 0 gmf_2 (by first | assumption | omega) (by omega) H locs ls hP hD hS hl
      · have c1' := I_nle c1
        refine lv_aload_n hx hb dX2_compare_8 rfl (lv_at hl 1 rfl) ?_
        refine va_get (D := (dC, dI)) (ci := 2) (v := .ref gm) (C := RX2) (T := TX2) (N := 9) hx hb hts inG_X2 hown hK hP 0 rfl rfl 5 (by decide) (hts _ fl_X2_32) (fun _ h9 => h9) rfl dX2_compare_9 ?_
        refine lv_iload_n hx hb dX2_compare_12 rfl (lv_at hl 0 rfl) ?_
        refine lv_aload_n hx hb dX2_compare_13 rfl (lv_at hl 1 rfl) ?_
        refine va_get (D := (dC, dI)) (ci := 2) (v := .ref gd) (C := RX2) (T := TX2) (N := 9) hx hb hts inG_X2 hown hK hP 0 rfl rfl 4 (by decide) (hts _ fl_X2_29) (fun _ h9 => h9) rfl dX2_compare_14 ?_
        refine lv_iload_n hx hb dX2_compare_17 rfl (lv_at hl 0 rfl) ?_
        refine va_iald (t0 := 0) hx hb hK hP 1 (ha := rfl) (ht := rfl) (I_in (by omega) (by omega)) dX2_compare_18 ?_
        refine lv_topi (fun v23 ev23 => ?_)
        refine lv_ineg hx hb dX2_compare_19 ?_
        refine lv_topi (fun v24 ev24 => ?_)
        refine va_iast (t0 := 0) hx hb hK hP hD hS 2 (ha := rfl) (ht := rfl) (I_in (by omega) (by omega)) dX2_compare_20 (fun H locs hP hD hS => ?_)
        have hP : va_P (dC, dI) vwCl [(g, .inr (2, [.ref gh, .ref gr, .ref gl, .ref gk, .ref gd, .ref gm, .int gsz, .int gcn, .int gov])), (gd, .inl (cI, 28, .inl gdf)), (gm, .inl (cI, 28, .inl (upd gmf_2 L2_2.toNatClampNeg v24))), (r, .inr (3, [.ref rt, .int rsz])), (rt, .inl (cI, 12, .inl rf))] H := hP
        have hD : va_D A [(g, .inr (2, [.ref gh, .ref gr, .ref gl, .ref gk, .ref gd, .ref gm, .int gsz, .int gcn, .int gov])), (gd, .inl (cI, 28, .inl gdf)), (gm, .inl (cI, 28, .inl (upd gmf_2 L2_2.toNatClampNeg v24))), (r, .inr (3, [.ref rt, .int rsz])), (rt, .inl (cI, 12, .inl rf))] := hD
        generalize ef25 : upd gmf_2 L2_2.toNatClampNeg v24 = f25 at hP hD
        obtain ⟨v26, ev26⟩ : ∃ y : Int32, y = L2_2 + 1 := ⟨_, rfl⟩
        try have hv26 : v26.toInt = L2_2.toInt + (1 : Int32).toInt := I_addx ev26 (by omega)
        refine lv_iinc (v := v26) (lv' := [(2, .int v26), (0, .ref g), (1, .ref r)]) hx hb dX2_compare_21 hl (k := 0) rfl (by rw [ev26]; rfl) (by decide) rfl (fun ls hl => ?_)
        refine lv_goto (tgt := 2) hx hb dX2_compare_24 (by decide) ?_
        exact ih2 v26 f25 (by first | assumption | omega) (by omega) H locs ls hP hD hS hl
  exact J2 ((28 - (0 : Int32).toInt).toNat + 1) 0 gmf (by first | assumption | omega) (by omega) H locs ls hP hD hS hl
set_option maxHeartbeats 4000000 in
set_option maxRecDepth 100000 in
theorem c_X2_learnFrom (l : Launch) (dC : Nat → ClassId) (dI : Nat → Nat → Nat) (cI cJ : ClassId) (base bB bO : Nat) (g : Nat) (gh : Nat) (gr : Nat) (gl : Nat) (gk : Nat) (gd : Nat) (gm : Nat) (gsz : Int32) (gcn : Int32) (gov : Int32) (gha : Nat) (ghb : Nat) (ghaf : Nat → Int32) (ghbf : Nat → Int32) (gdf : Nat → Int32) (gmf : Nat → Int32) (r : Nat) (rt : Nat) (rsz : Int32) (rf : Nat → Int32) (hq0 : 0 ≤ rsz.toInt ∧ rsz.toInt ≤ 12) (hq1 : ∀ j : Nat, -1 ≤ (rf j).toInt ∧ (rf j).toInt ≤ 31) : CtV l dC dI cI cJ base bB bO yX2_learnFrom cX2_learnFrom 2 0 0 2 62 [.ref g, .ref r] [(g, .inr (2, [.ref gh, .ref gr, .ref gl, .ref gk, .ref gd, .ref gm, .int gsz, .int gcn, .int gov])), (gh, .inr (0, [.ref gha, .ref ghb])), (gha, .inl (cI, 28, .inl ghaf)), (ghb, .inl (cI, 28, .inl ghbf)), (gd, .inl (cI, 28, .inl gdf)), (gm, .inl (cI, 28, .inl gmf)), (r, .inr (3, [.ref rt, .int rsz])), (rt, .inl (cI, 12, .inl rf))] ((Nat → Int32) × (Nat → Int32) × (Nat → Int32)) (fun (u : (Nat → Int32) × (Nat → Int32) × (Nat → Int32)) => True) (fun (u : (Nat → Int32) × (Nat → Int32) × (Nat → Int32)) => [(g, .inr (2, [.ref gh, .ref gr, .ref gl, .ref gk, .ref gd, .ref gm, .int gsz, .int gcn, .int gov])), (gh, .inr (0, [.ref gha, .ref ghb])), (gha, .inl (cI, 28, .inl u.1)), (ghb, .inl (cI, 28, .inl u.2.1)), (gd, .inl (cI, 28, .inl gdf)), (gm, .inl (cI, 28, .inl u.2.2)), (r, .inr (3, [.ref rt, .int rsz])), (rt, .inl (cI, 12, .inl rf))]) := by
  refine entV (by decide) (Nat.le_of_ble_eq_true rfl) ?_
  intro p e s m below meth c A Q ls hAt hret hP hD hS hl
  obtain ⟨hx, hb, hml, hown, hts, hA, hAb, hK, hE, hlocks, hin⟩ := hAt
  have hG : CG dC dI cI cJ base bB bO cX2_learnFrom 2 RX2 p s m (List.toArray [.ref g, .ref r]) c A := ⟨hx, hb, hml, hown, hts, hA, hAb, hK, hE⟩
  have hl : lv_has ls 2 [(0, .ref g), (1, .ref r)] := hl
  have c_0 : (0 : Int32).toInt = 0 := by decide
  have c_1 : (1 : Int32).toInt = 1 := by decide
  obtain ⟨H, hHe⟩ : ∃ H : Heap, H = s.heap := ⟨_, rfl⟩
  obtain ⟨locs, hle⟩ : ∃ z : List Loc, z = [] := ⟨_, rfl⟩
  rw [← hHe] at hP
  have hS : va_S A s.heap H locs := by rw [hHe, hle]; exact hS
  suffices hgo : W p l e { frames := 2, cells := 0, slots := 0, locals := 62 } s m (List.toArray [.ref g, .ref r]) below meth c H locs 0 0 Q (F0 m 0 ls []) by rw [hHe, hle] at hgo; exact hgo
  refine lv_aload_n hx hb dX2_learnFrom_0 rfl (lv_at hl 0 rfl) ?_
  refine lv_aload_n hx hb dX2_learnFrom_1 rfl (lv_at hl 1 rfl) ?_
  refine calV (rest := []) (wr := [(gh, .inr (0, [.ref gha, .ref ghb])), (gha, .inl (cI, 28, .inl ghaf)), (ghb, .inl (cI, 28, .inl ghbf))]) hG (c_X2_compare l dC dI cI cJ base bB bO g gh gr gl gk gd gm gsz gcn gov gdf gmf r rt rsz rf (by first | assumption | omega) (by first | assumption | omega)) ml_X2_81 im_X2_compare se_X2_compare ini_X2 cd_X2_compare hd_X2_compare ⟨(Nat.le_of_ble_eq_true rfl), (Nat.le_of_ble_eq_true rfl)⟩ (Nat.le_of_ble_eq_true rfl) (Nat.le_of_ble_eq_true rfl) hP hD hS [0, 4, 5, 6, 7] [1, 2, 3] rfl rfl rfl rfl (by decide) 2 0 rfl rfl hl.1 rfl (Nat.le_of_ble_eq_true rfl) dX2_learnFrom_2 (fun u H locs hw1 hP hD hS => ?_)
  obtain ⟨gmf_2, rfl⟩ : ∃ z, z = u := ⟨_, rfl⟩
  have hP : va_P (dC, dI) vwCl [(gh, .inr (0, [.ref gha, .ref ghb])), (gha, .inl (cI, 28, .inl ghaf)), (ghb, .inl (cI, 28, .inl ghbf)), (g, .inr (2, [.ref gh, .ref gr, .ref gl, .ref gk, .ref gd, .ref gm, .int gsz, .int gcn, .int gov])), (gd, .inl (cI, 28, .inl gdf)), (gm, .inl (cI, 28, .inl gmf_2)), (r, .inr (3, [.ref rt, .int rsz])), (rt, .inl (cI, 12, .inl rf))] H := hP
  have hD : va_D A [(gh, .inr (0, [.ref gha, .ref ghb])), (gha, .inl (cI, 28, .inl ghaf)), (ghb, .inl (cI, 28, .inl ghbf)), (g, .inr (2, [.ref gh, .ref gr, .ref gl, .ref gk, .ref gd, .ref gm, .int gsz, .int gcn, .int gov])), (gd, .inl (cI, 28, .inl gdf)), (gm, .inl (cI, 28, .inl gmf_2)), (r, .inr (3, [.ref rt, .int rsz])), (rt, .inl (cI, 12, .inl rf))] := hD
  refine lv_aload_n hx hb dX2_learnFrom_5 rfl (lv_at hl 0 rfl) ?_
  refine va_get (D := (dC, dI)) (ci := 2) (v := .ref gh) (C := RX2) (T := TX2) (N := 9) hx hb hts inG_X2 hown hK hP 3 rfl rfl 0 (by decide) (hts _ fl_X2_12) (fun _ h9 => h9) rfl dX2_learnFrom_6 ?_
  refine lv_aload_n hx hb dX2_learnFrom_9 rfl (lv_at hl 0 rfl) ?_
  refine va_get (D := (dC, dI)) (ci := 2) (v := .ref gm) (C := RX2) (T := TX2) (N := 9) hx hb hts inG_X2 hown hK hP 3 rfl rfl 5 (by decide) (hts _ fl_X2_32) (fun _ h9 => h9) rfl dX2_learnFrom_10 ?_
  refine calV (rest := []) (wr := [(g, .inr (2, [.ref gh, .ref gr, .ref gl, .ref gk, .ref gd, .ref gm, .int gsz, .int gcn, .int gov])), (gd, .inl (cI, 28, .inl gdf)), (r, .inr (3, [.ref rt, .int rsz])), (rt, .inl (cI, 12, .inl rf))]) hG (c_X0_grow l dC dI cI cJ base bB bO gh gha ghb ghaf ghbf gm gmf_2 ) ml_X2_85 im_X0_grow se_X0_grow ini_X0 cd_X0_grow hd_X0_grow ⟨(Nat.le_of_ble_eq_true rfl), (Nat.le_of_ble_eq_true rfl)⟩ (Nat.le_of_ble_eq_true rfl) (Nat.le_of_ble_eq_true rfl) hP hD hS [0, 1, 2, 5] [3, 4, 6, 7] rfl rfl rfl rfl (by decide) 0 0 rfl rfl hl.1 rfl (Nat.le_of_ble_eq_true rfl) dX2_learnFrom_13 (fun u H locs hw3 hP hD hS => ?_)
  obtain ⟨oaf_4, obf_5⟩ := u
  have hP : va_P (dC, dI) vwCl [(g, .inr (2, [.ref gh, .ref gr, .ref gl, .ref gk, .ref gd, .ref gm, .int gsz, .int gcn, .int gov])), (gd, .inl (cI, 28, .inl gdf)), (r, .inr (3, [.ref rt, .int rsz])), (rt, .inl (cI, 12, .inl rf)), (gh, .inr (0, [.ref gha, .ref ghb])), (gha, .inl (cI, 28, .inl oaf_4)), (ghb, .inl (cI, 28, .inl obf_5)), (gm, .inl (cI, 28, .inl gmf_2))] H := hP
  have hD : va_D A [(g, .inr (2, [.ref gh, .ref gr, .ref gl, .ref gk, .ref gd, .ref gm, .int gsz, .int gcn, .int gov])), (gd, .inl (cI, 28, .inl gdf)), (r, .inr (3, [.ref rt, .int rsz])), (rt, .inl (cI, 12, .inl rf)), (gh, .inr (0, [.ref gha, .ref ghb])), (gha, .inl (cI, 28, .inl oaf_4)), (ghb, .inl (cI, 28, .inl obf_5)), (gm, .inl (cI, 28, .inl gmf_2))] := hD
  exact hret (oaf_4, obf_5, gmf_2) H locs 16 ls trivial (hP.sub (ws' := [(g, .inr (2, [.ref gh, .ref gr, .ref gl, .ref gk, .ref gd, .ref gm, .int gsz, .int gcn, .int gov])), (gh, .inr (0, [.ref gha, .ref ghb])), (gha, .inl (cI, 28, .inl oaf_4)), (ghb, .inl (cI, 28, .inl obf_5)), (gd, .inl (cI, 28, .inl gdf)), (gm, .inl (cI, 28, .inl gmf_2)), (r, .inr (3, [.ref rt, .int rsz])), (rt, .inl (cI, 12, .inl rf))]) [0, 4, 5, 6, 1, 7, 2, 3] rfl) (hD.sub (ws' := [(g, .inr (2, [.ref gh, .ref gr, .ref gl, .ref gk, .ref gd, .ref gm, .int gsz, .int gcn, .int gov])), (gh, .inr (0, [.ref gha, .ref ghb])), (gha, .inl (cI, 28, .inl oaf_4)), (ghb, .inl (cI, 28, .inl obf_5)), (gd, .inl (cI, 28, .inl gdf)), (gm, .inl (cI, 28, .inl gmf_2)), (r, .inr (3, [.ref rt, .int rsz])), (rt, .inl (cI, 12, .inl rf))]) [0, 4, 5, 6, 1, 7, 2, 3] (by decide) rfl) hS dX2_learnFrom_16
set_option maxHeartbeats 4000000 in
set_option maxRecDepth 100000 in
theorem c_X2_isBefore (l : Launch) (dC : Nat → ClassId) (dI : Nat → Nat → Nat) (cI cJ : ClassId) (base bB bO : Nat) (g : Nat) (gh : Nat) (gr : Nat) (gl : Nat) (gk : Nat) (gd : Nat) (gm : Nat) (gsz : Int32) (gcn : Int32) (gov : Int32) (grf : Nat → Int64) (glf : Nat → Int32) (gkf : Nat → Int32) (i : Int32) (w : Int64) (x : Int32) (y : Int32) (hx0 : 0 ≤ i.toInt ∧ i.toInt < 300) : CtI l dC dI cI cJ base bB bO yX2_isBefore cX2_isBefore 6 .boolean 0 0 [.ref g, .int i, .long w, .int x, .int y] [(g, .inr (2, [.ref gh, .ref gr, .ref gl, .ref gk, .ref gd, .ref gm, .int gsz, .int gcn, .int gov])), (gr, .inl (cJ, 300, .inr (.inl grf))), (gl, .inl (cI, 300, .inl glf)), (gk, .inl (cI, 300, .inl gkf))] (Unit) (fun (res : Int32) (u : Unit) => (res.toInt = 0 ∨ res.toInt = 1) ∧ True) (fun (u : Unit) => [(g, .inr (2, [.ref gh, .ref gr, .ref gl, .ref gk, .ref gd, .ref gm, .int gsz, .int gcn, .int gov])), (gr, .inl (cJ, 300, .inr (.inl grf))), (gl, .inl (cI, 300, .inl glf)), (gk, .inl (cI, 300, .inl gkf))]) := by
  refine entI (by decide) (Nat.le_of_ble_eq_true rfl) ?_
  intro p e s m below meth c A Q ls hAt hret hP hD hS hl
  obtain ⟨hx, hb, hml, hown, hts, hA, hAb, hK, hE, hlocks, hin⟩ := hAt
  have hG : CG dC dI cI cJ base bB bO cX2_isBefore 6 RX2 p s m (List.toArray [.ref g, .int i, .long w, .int x, .int y]) c A := ⟨hx, hb, hml, hown, hts, hA, hAb, hK, hE⟩
  have hl : lv_has ls 6 [(0, .ref g), (1, .int i), (2, .long w), (4, .int x), (5, .int y)] := hl
  have c_0 : (0 : Int32).toInt = 0 := by decide
  have c_1 : (1 : Int32).toInt = 1 := by decide
  obtain ⟨H, hHe⟩ : ∃ H : Heap, H = s.heap := ⟨_, rfl⟩
  obtain ⟨locs, hle⟩ : ∃ z : List Loc, z = [] := ⟨_, rfl⟩
  rw [← hHe] at hP
  have hS : va_S A s.heap H locs := by rw [hHe, hle]; exact hS
  suffices hgo : W p l e { frames := 0, cells := 0, slots := 0, locals := 0 } s m (List.toArray [.ref g, .int i, .long w, .int x, .int y]) below meth c H locs 0 0 Q (F0 m 0 ls []) by rw [hHe, hle] at hgo; exact hgo
  refine lv_aload_n hx hb dX2_isBefore_0 rfl (lv_at hl 0 rfl) ?_
  refine va_get (D := (dC, dI)) (ci := 2) (v := .ref gk) (C := RX2) (T := TX2) (N := 9) hx hb hts inG_X2 hown hK hP 0 rfl rfl 3 (by decide) (hts _ fl_X2_26) (fun _ h9 => h9) rfl dX2_isBefore_1 ?_
  refine lv_iload_n hx hb dX2_isBefore_4 rfl (lv_at hl 1 rfl) ?_
  refine va_iald (t0 := 0) hx hb hK hP 3 (ha := rfl) (ht := rfl) (I_in (by omega) (by omega)) dX2_isBefore_5 ?_
  refine lv_topi (fun v1 ev1 => ?_)
  refine lv_iload hx hb dX2_isBefore_6 (lv_at hl 4 rfl) ?_
  refine lv_icmp_eq (tgt := 28) hx hb dX2_isBefore_8 (by decide) (fun c2 => ?_) (fun c2 => ?_)
  · have c2' := I_eq c2
    refine lv_aload_n hx hb dX2_isBefore_28 rfl (lv_at hl 0 rfl) ?_
    refine va_get (D := (dC, dI)) (ci := 2) (v := .ref gl) (C := RX2) (T := TX2) (N := 9) hx hb hts inG_X2 hown hK hP 0 rfl rfl 2 (by decide) (hts _ fl_X2_22) (fun _ h9 => h9) rfl dX2_isBefore_29 ?_
    refine lv_iload_n hx hb dX2_isBefore_32 rfl (lv_at hl 1 rfl) ?_
    refine va_iald (t0 := 0) hx hb hK hP 2 (ha := rfl) (ht := rfl) (I_in (by omega) (by omega)) dX2_isBefore_33 ?_
    refine lv_topi (fun v3 ev3 => ?_)
    refine lv_iload hx hb dX2_isBefore_34 (lv_at hl 3 rfl) ?_
    refine lv_icmp_eq (tgt := 58) hx hb dX2_isBefore_36 (by decide) (fun c4 => ?_) (fun c4 => ?_)
    · have c4' := I_eq c4
      refine lv_aload_n hx hb dX2_isBefore_58 rfl (lv_at hl 0 rfl) ?_
      refine va_get (D := (dC, dI)) (ci := 2) (v := .ref gr) (C := RX2) (T := TX2) (N := 9) hx hb hts inG_X2 hown hK hP 0 rfl rfl 1 (by decide) (hts _ fl_X2_18) (fun _ h9 => h9) rfl dX2_isBefore_59 ?_
      refine lv_iload_n hx hb dX2_isBefore_62 rfl (lv_at hl 1 rfl) ?_
      refine va_lald (t0 := 1) hx hb hK hP 1 (ha := rfl) (ht := rfl) (I_in (by omega) (by omega)) dX2_isBefore_63 ?_
      refine lv_topl (fun w5 ew5 => ?_)
      refine lv_lload_n hx hb dX2_isBefore_64 rfl (lv_at hl 2 rfl) ?_
      refine W.lcmp hx hb dX2_isBefore_65 ?_
      refine lv_topi (fun v6 ev6 => ?_)
      have hv6 := J_cmp w5 w
      rw [← ev6] at hv6
      refine lv_if_ge (tgt := 73) hx hb dX2_isBefore_66 (by decide) (fun c7 => ?_) (fun c7 => ?_)
      · have c7' := I_le c7
        refine lv_iconst (v := 0) hx hb dX2_isBefore_73 (by decide) ?_
        exact hret 0 () H locs 74 ls (by first | rfl | exact I_narz (by omega)) ⟨(show (0 : Int32).toInt = 0 ∨ (0 : Int32).toInt = 1 from by first | rfl | assumption | omega), trivial⟩ hP hD hS dX2_isBefore_74
      · have c7' := I_nle c7
        refine lv_iconst (v := 1) hx hb dX2_isBefore_69 (by decide) ?_
        refine lv_goto (tgt := 74) hx hb dX2_isBefore_70 (by decide) ?_
        exact hret 1 () H locs 74 ls (by first | rfl | exact I_narz (by omega)) ⟨(show (1 : Int32).toInt = 0 ∨ (1 : Int32).toInt = 1 from by first | rfl | assumption | omega), trivial⟩ hP hD hS dX2_isBefore_74
    · have c4' := I_ne c4
      refine lv_aload_n hx hb dX2_isBefore_39 rfl (lv_at hl 0 rfl) ?_
      refine va_get (D := (dC, dI)) (ci := 2) (v := .ref gl) (C := RX2) (T := TX2) (N := 9) hx hb hts inG_X2 hown hK hP 0 rfl rfl 2 (by decide) (hts _ fl_X2_22) (fun _ h9 => h9) rfl dX2_isBefore_40 ?_
      refine lv_iload_n hx hb dX2_isBefore_43 rfl (lv_at hl 1 rfl) ?_
      refine va_iald (t0 := 0) hx hb hK hP 2 (ha := rfl) (ht := rfl) (I_in (by omega) (by omega)) dX2_isBefore_44 ?_
      refine lv_topi (fun v8 ev8 => ?_)
      refine lv_iload hx hb dX2_isBefore_45 (lv_at hl 3 rfl) ?_
      refine lv_icmp_ge (tgt := 54) hx hb dX2_isBefore_47 (by decide) (fun c9 => ?_) (fun c9 => ?_)
      · have c9' := I_le c9
        refine lv_iconst (v := 0) hx hb dX2_isBefore_54 (by decide) ?_
        refine lv_goto (tgt := 74) hx hb dX2_isBefore_55 (by decide) ?_
        exact hret 0 () H locs 74 ls (by first | rfl | exact I_narz (by omega)) ⟨(show (0 : Int32).toInt = 0 ∨ (0 : Int32).toInt = 1 from by first | rfl | assumption | omega), trivial⟩ hP hD hS dX2_isBefore_74
      · have c9' := I_nle c9
        refine lv_iconst (v := 1) hx hb dX2_isBefore_50 (by decide) ?_
        refine lv_goto (tgt := 74) hx hb dX2_isBefore_51 (by decide) ?_
        exact hret 1 () H locs 74 ls (by first | rfl | exact I_narz (by omega)) ⟨(show (1 : Int32).toInt = 0 ∨ (1 : Int32).toInt = 1 from by first | rfl | assumption | omega), trivial⟩ hP hD hS dX2_isBefore_74
  · have c2' := I_ne c2
    refine lv_aload_n hx hb dX2_isBefore_11 rfl (lv_at hl 0 rfl) ?_
    refine va_get (D := (dC, dI)) (ci := 2) (v := .ref gk) (C := RX2) (T := TX2) (N := 9) hx hb hts inG_X2 hown hK hP 0 rfl rfl 3 (by decide) (hts _ fl_X2_26) (fun _ h9 => h9) rfl dX2_isBefore_12 ?_
    refine lv_iload_n hx hb dX2_isBefore_15 rfl (lv_at hl 1 rfl) ?_
    refine va_iald (t0 := 0) hx hb hK hP 3 (ha := rfl) (ht := rfl) (I_in (by omega) (by omega)) dX2_isBefore_16 ?_
    refine lv_topi (fun v10 ev10 => ?_)
    refine lv_iload hx hb dX2_isBefore_17 (lv_at hl 4 rfl) ?_
    refine lv_icmp_le (tgt := 26) hx hb dX2_isBefore_19 (by decide) (fun c11 => ?_) (fun c11 => ?_)
    · have c11' := I_le c11
      refine lv_iconst (v := 0) hx hb dX2_isBefore_26 (by decide) ?_
      exact hret 0 () H locs 27 ls (by first | rfl | exact I_narz (by omega)) ⟨(show (0 : Int32).toInt = 0 ∨ (0 : Int32).toInt = 1 from by first | rfl | assumption | omega), trivial⟩ hP hD hS dX2_isBefore_27
    · have c11' := I_nle c11
      refine lv_iconst (v := 1) hx hb dX2_isBefore_22 (by decide) ?_
      refine lv_goto (tgt := 27) hx hb dX2_isBefore_23 (by decide) ?_
      exact hret 1 () H locs 27 ls (by first | rfl | exact I_narz (by omega)) ⟨(show (1 : Int32).toInt = 0 ∨ (1 : Int32).toInt = 1 from by first | rfl | assumption | omega), trivial⟩ hP hD hS dX2_isBefore_27
set_option maxHeartbeats 4000000 in
set_option maxRecDepth 100000 in
theorem c_X2_add (l : Launch) (dC : Nat → ClassId) (dI : Nat → Nat → Nat) (cI cJ : ClassId) (base bB bO : Nat) (g : Nat) (gh : Nat) (gr : Nat) (gl : Nat) (gk : Nat) (gd : Nat) (gm : Nat) (gsz : Int32) (gcn : Int32) (gov : Int32) (gha : Nat) (ghb : Nat) (ghaf : Nat → Int32) (ghbf : Nat → Int32) (grf : Nat → Int64) (glf : Nat → Int32) (gkf : Nat → Int32) (gdf : Nat → Int32) (gmf : Nat → Int32) (r : Nat) (rt : Nat) (rsz : Int32) (rf : Nat → Int32) (hq0 : 0 ≤ gsz.toInt ∧ gsz.toInt ≤ 300) (hq1 : gov.toInt = 0 ∨ gov.toInt = 1) (hq2 : 0 ≤ rsz.toInt ∧ rsz.toInt ≤ 12) (hq3 : ∀ j : Nat, -1 ≤ (rf j).toInt ∧ (rf j).toInt ≤ 31) : CtV l dC dI cI cJ base bB bO yX2_add cX2_add 6 0 0 2 43 [.ref g, .ref r] [(g, .inr (2, [.ref gh, .ref gr, .ref gl, .ref gk, .ref gd, .ref gm, .int gsz, .int gcn, .int gov])), (gh, .inr (0, [.ref gha, .ref ghb])), (gha, .inl (cI, 28, .inl ghaf)), (ghb, .inl (cI, 28, .inl ghbf)), (gr, .inl (cJ, 300, .inr (.inl grf))), (gl, .inl (cI, 300, .inl glf)), (gk, .inl (cI, 300, .inl gkf)), (gd, .inl (cI, 28, .inl gdf)), (gm, .inl (cI, 28, .inl gmf)), (r, .inr (3, [.ref rt, .int rsz])), (rt, .inl (cI, 12, .inl rf))] ((Int32) × (Int32) × (Nat → Int64) × (Nat → Int32) × (Nat → Int32) × (Nat → Int32)) (fun (u : (Int32) × (Int32) × (Nat → Int64) × (Nat → Int32) × (Nat → Int32) × (Nat → Int32)) => (0 ≤ u.1.toInt ∧ u.1.toInt ≤ 300) ∧ (u.2.1.toInt = 0 ∨ u.2.1.toInt = 1) ∧ True) (fun (u : (Int32) × (Int32) × (Nat → Int64) × (Nat → Int32) × (Nat → Int32) × (Nat → Int32)) => [(g, .inr (2, [.ref gh, .ref gr, .ref gl, .ref gk, .ref gd, .ref gm, .int u.1, .int gcn, .int u.2.1])), (gh, .inr (0, [.ref gha, .ref ghb])), (gha, .inl (cI, 28, .inl ghaf)), (ghb, .inl (cI, 28, .inl ghbf)), (gr, .inl (cJ, 300, .inr (.inl u.2.2.1))), (gl, .inl (cI, 300, .inl u.2.2.2.1)), (gk, .inl (cI, 300, .inl u.2.2.2.2.1)), (gd, .inl (cI, 28, .inl gdf)), (gm, .inl (cI, 28, .inl u.2.2.2.2.2)), (r, .inr (3, [.ref rt, .int rsz])), (rt, .inl (cI, 12, .inl rf))]) := by
  refine entV (by decide) (Nat.le_of_ble_eq_true rfl) ?_
  intro p e s m below meth c A Q ls hAt hret hP hD hS hl
  obtain ⟨hx, hb, hml, hown, hts, hA, hAb, hK, hE, hlocks, hin⟩ := hAt
  have hG : CG dC dI cI cJ base bB bO cX2_add 6 RX2 p s m (List.toArray [.ref g, .ref r]) c A := ⟨hx, hb, hml, hown, hts, hA, hAb, hK, hE⟩
  have hl : lv_has ls 6 [(0, .ref g), (1, .ref r)] := hl
  have c_m1 : (-1 : Int32).toInt = -1 := by decide
  have c_0 : (0 : Int32).toInt = 0 := by decide
  have c_1 : (1 : Int32).toInt = 1 := by decide
  have c_5 : (5 : Int32).toInt = 5 := by decide
  have c_300 : (300 : Int32).toInt = 300 := by decide
  have cl_0 : (0 : Int64).toInt = 0 := by decide
  obtain ⟨H, hHe⟩ : ∃ H : Heap, H = s.heap := ⟨_, rfl⟩
  obtain ⟨locs, hle⟩ : ∃ z : List Loc, z = [] := ⟨_, rfl⟩
  rw [← hHe] at hP
  have hS : va_S A s.heap H locs := by rw [hHe, hle]; exact hS
  suffices hgo : W p l e { frames := 2, cells := 0, slots := 0, locals := 43 } s m (List.toArray [.ref g, .ref r]) below meth c H locs 0 0 Q (F0 m 0 ls []) by rw [hHe, hle] at hgo; exact hgo
  refine lv_aload_n hx hb dX2_add_0 rfl (lv_at hl 0 rfl) ?_
  refine va_get (D := (dC, dI)) (ci := 2) (v := .int gsz) (C := RX2) (T := TX2) (N := 9) hx hb hts inG_X2 hown hK hP 0 rfl rfl 6 (by decide) (hts _ fl_X2_35) (fun _ h9 => h9) rfl dX2_add_1 ?_
  refine lv_sipush (v := 300) hx hb dX2_add_4 (by decide) ?_
  refine lv_icmp_lt (tgt := 16) hx hb dX2_add_7 (by decide) (fun c1 => ?_) (fun c1 => ?_)
  · have c1' := I_lt c1
    refine lv_aload_n hx hb dX2_add_16 rfl (lv_at hl 0 rfl) ?_
    refine lv_aload_n hx hb dX2_add_17 rfl (lv_at hl 1 rfl) ?_
    refine calV (rest := []) (wr := [(gh, .inr (0, [.ref gha, .ref ghb])), (gha, .inl (cI, 28, .inl ghaf)), (ghb, .inl (cI, 28, .inl ghbf)), (gr, .inl (cJ, 300, .inr (.inl grf))), (gl, .inl (cI, 300, .inl glf)), (gk, .inl (cI, 300, .inl gkf))]) hG (c_X2_compare l dC dI cI cJ base bB bO g gh gr gl gk gd gm gsz gcn gov gdf gmf r rt rsz rf (by first | assumption | omega) (by first | assumption | omega)) ml_X2_81 im_X2_compare se_X2_compare ini_X2 cd_X2_compare hd_X2_compare ⟨(Nat.le_of_ble_eq_true rfl), (Nat.le_of_ble_eq_true rfl)⟩ (Nat.le_of_ble_eq_true rfl) (Nat.le_of_ble_eq_true rfl) hP hD hS [0, 7, 8, 9, 10] [1, 2, 3, 4, 5, 6] rfl rfl rfl rfl (by decide) 2 0 rfl rfl hl.1 rfl (Nat.le_of_ble_eq_true rfl) dX2_add_18 (fun u H locs hw2 hP hD hS => ?_)
    obtain ⟨gmf_3, rfl⟩ : ∃ z, z = u := ⟨_, rfl⟩
    have hP : va_P (dC, dI) vwCl [(gh, .inr (0, [.ref gha, .ref ghb])), (gha, .inl (cI, 28, .inl ghaf)), (ghb, .inl (cI, 28, .inl ghbf)), (gr, .inl (cJ, 300, .inr (.inl grf))), (gl, .inl (cI, 300, .inl glf)), (gk, .inl (cI, 300, .inl gkf)), (g, .inr (2, [.ref gh, .ref gr, .ref gl, .ref gk, .ref gd, .ref gm, .int gsz, .int gcn, .int gov])), (gd, .inl (cI, 28, .inl gdf)), (gm, .inl (cI, 28, .inl gmf_3)), (r, .inr (3, [.ref rt, .int rsz])), (rt, .inl (cI, 12, .inl rf))] H := hP
    have hD : va_D A [(gh, .inr (0, [.ref gha, .ref ghb])), (gha, .inl (cI, 28, .inl ghaf)), (ghb, .inl (cI, 28, .inl ghbf)), (gr, .inl (cJ, 300, .inr (.inl grf))), (gl, .inl (cI, 300, .inl glf)), (gk, .inl (cI, 300, .inl gkf)), (g, .inr (2, [.ref gh, .ref gr, .ref gl, .ref gk, .ref gd, .ref gm, .int gsz, .int gcn, .int gov])), (gd, .inl (cI, 28, .inl gdf)), (gm, .inl (cI, 28, .inl gmf_3)), (r, .inr (3, [.ref rt, .int rsz])), (rt, .inl (cI, 12, .inl rf))] := hD
    refine lv_aload_n hx hb dX2_add_21 rfl (lv_at hl 0 rfl) ?_
    refine va_get (D := (dC, dI)) (ci := 2) (v := .ref gh) (C := RX2) (T := TX2) (N := 9) hx hb hts inG_X2 hown hK hP 6 rfl rfl 0 (by decide) (hts _ fl_X2_12) (fun _ h9 => h9) rfl dX2_add_22 ?_
    refine lv_aload_n hx hb dX2_add_25 rfl (lv_at hl 0 rfl) ?_
    refine va_get (D := (dC, dI)) (ci := 2) (v := .ref gm) (C := RX2) (T := TX2) (N := 9) hx hb hts inG_X2 hown hK hP 6 rfl rfl 5 (by decide) (hts _ fl_X2_32) (fun _ h9 => h9) rfl dX2_add_26 ?_
    refine calI (rest := []) (wr := [(gr, .inl (cJ, 300, .inr (.inl grf))), (gl, .inl (cI, 300, .inl glf)), (gk, .inl (cI, 300, .inl gkf)), (g, .inr (2, [.ref gh, .ref gr, .ref gl, .ref gk, .ref gd, .ref gm, .int gsz, .int gcn, .int gov])), (gd, .inl (cI, 28, .inl gdf)), (r, .inr (3, [.ref rt, .int rsz])), (rt, .inl (cI, 12, .inl rf))]) hG (c_X0_rankOf l dC dI cI cJ base bB bO gh gha ghb ghaf ghbf gm gmf_3 ) ml_X2_89 im_X0_rankOf se_X0_rankOf ini_X0 cd_X0_rankOf hd_X0_rankOf ⟨(Nat.le_of_ble_eq_true rfl), (Nat.le_of_ble_eq_true rfl)⟩ (Nat.le_of_ble_eq_true rfl) (Nat.le_of_ble_eq_true rfl) hP hD hS [0, 1, 2, 8] [3, 4, 5, 6, 7, 9, 10] rfl rfl rfl rfl (by decide) 0 0 rfl rfl hl.1 rfl (Nat.le_of_ble_eq_true rfl) dX2_add_29 (fun r4 u H locs hw5 hP hD hS => ?_)
    have hP : va_P (dC, dI) vwCl [(gr, .inl (cJ, 300, .inr (.inl grf))), (gl, .inl (cI, 300, .inl glf)), (gk, .inl (cI, 300, .inl gkf)), (g, .inr (2, [.ref gh, .ref gr, .ref gl, .ref gk, .ref gd, .ref gm, .int gsz, .int gcn, .int gov])), (gd, .inl (cI, 28, .inl gdf)), (r, .inr (3, [.ref rt, .int rsz])), (rt, .inl (cI, 12, .inl rf)), (gh, .inr (0, [.ref gha, .ref ghb])), (gha, .inl (cI, 28, .inl ghaf)), (ghb, .inl (cI, 28, .inl ghbf)), (gm, .inl (cI, 28, .inl gmf_3))] H := hP
    have hD : va_D A [(gr, .inl (cJ, 300, .inr (.inl grf))), (gl, .inl (cI, 300, .inl glf)), (gk, .inl (cI, 300, .inl gkf)), (g, .inr (2, [.ref gh, .ref gr, .ref gl, .ref gk, .ref gd, .ref gm, .int gsz, .int gcn, .int gov])), (gd, .inl (cI, 28, .inl gdf)), (r, .inr (3, [.ref rt, .int rsz])), (rt, .inl (cI, 12, .inl rf)), (gh, .inr (0, [.ref gha, .ref ghb])), (gha, .inl (cI, 28, .inl ghaf)), (ghb, .inl (cI, 28, .inl ghbf)), (gm, .inl (cI, 28, .inl gmf_3))] := hD
    refine lv_istore_n (lv' := [(2, .int r4), (0, .ref g), (1, .ref r)]) hx hb dX2_add_32 rfl hl (by decide) rfl (fun ls hl => ?_)
    refine lv_lconst (v := 0) hx hb dX2_add_33 (by decide) ?_
    refine lv_lstore_n (lv' := [(3, .long 0), (2, .int r4), (0, .ref g), (1, .ref r)]) hx hb dX2_add_34 rfl hl (by decide) rfl (fun ls hl => ?_)
    refine lv_iconst (v := 0) hx hb dX2_add_35 (by decide) ?_
    refine lv_istore (lv' := [(5, .int 0), (3, .long 0), (2, .int r4), (0, .ref g), (1, .ref r)]) hx hb dX2_add_36 hl (by decide) rfl (fun ls hl => ?_)
    have J38 : ∀ (n : Nat) (L5_38 : Int32) (L3_38 : Int64), (0 ≤ L5_38.toInt ∧ L5_38.toInt ≤ 12) → (12 - L5_38.toInt) < (n : Int) → ∀ (H : Heap) (locs : List Loc) (ls : Array Slot), va_P (dC, dI) vwCl [(gr, .inl (cJ, 300, .inr (.inl grf))), (gl, .inl (cI, 300, .inl glf)), (gk, .inl (cI, 300, .inl gkf)), (g, .inr (2, [.ref gh, .ref gr, .ref gl, .ref gk, .ref gd, .ref gm, .int gsz, .int gcn, .int gov])), (gd, .inl (cI, 28, .inl gdf)), (r, .inr (3, [.ref rt, .int rsz])), (rt, .inl (cI, 12, .inl rf)), (gh, .inr (0, [.ref gha, .ref ghb])), (gha, .inl (cI, 28, .inl ghaf)), (ghb, .inl (cI, 28, .inl ghbf)), (gm, .inl (cI, 28, .inl gmf_3))] H → va_D A [(gr, .inl (cJ, 300, .inr (.inl grf))), (gl, .inl (cI, 300, .inl glf)), (gk, .inl (cI, 300, .inl gkf)), (g, .inr (2, [.ref gh, .ref gr, .ref gl, .ref gk, .ref gd, .ref gm, .int gsz, .int gcn, .int gov])), (gd, .inl (cI, 28, .inl gdf)), (r, .inr (3, [.ref rt, .int rsz])), (rt, .inl (cI, 12, .inl rf)), (gh, .inr (0, [.ref gha, .ref ghb])), (gha, .inl (cI, 28, .inl ghaf)), (ghb, .inl (cI, 28, .inl ghbf)), (gm, .inl (cI, 28, .inl gmf_3))] → va_S A s.heap H locs → lv_has ls 6 [(5, .int L5_38), (3, .long L3_38), (2, .int r4), (0, .ref g), (1, .ref r)] → W p l e { frames := 2, cells := 0, slots := 0, locals := 43 } s m (List.toArray [.ref g, .ref r]) below meth c H locs 0 0 Q (F0 m 38 ls []) := by
      intro n
      induction n with
      | zero =>
        intro L5_38 L3_38 hi0_38 hm
        exact absurd hm (by omega)
      | succ n ih38 =>
        intro L5_38 L3_38 hi0_38 hm38 H locs ls hP hD hS hl
        refine lv_iload hx hb dX2_add_38 (lv_at hl 0 rfl) ?_
        refine lv_aload_n hx hb dX2_add_40 rfl (lv_at hl 4 rfl) ?_
        refine calI (rest := [.int L5_38]) (wr := [(gr, .inl (cJ, 300, .inr (.inl grf))), (gl, .inl (cI, 300, .inl glf)), (gk, .inl (cI, 300, .inl gkf)), (g, .inr (2, [.ref gh, .ref gr, .ref gl, .ref gk, .ref gd, .ref gm, .int gsz, .int gcn, .int gov])), (gd, .inl (cI, 28, .inl gdf)), (gh, .inr (0, [.ref gha, .ref ghb])), (gha, .inl (cI, 28, .inl ghaf)), (ghb, .inl (cI, 28, .inl ghbf)), (gm, .inl (cI, 28, .inl gmf_3))]) hG (c_X4_size l dC dI cI cJ base bB bO r rt rsz rf ) ml_X2_72 im_X4_size se_X4_size ini_X4 cd_X4_size hd_X4_size ⟨(Nat.le_of_ble_eq_true rfl), (Nat.le_of_ble_eq_true rfl)⟩ (Nat.le_of_ble_eq_true rfl) (Nat.le_of_ble_eq_true rfl) hP hD hS [5, 6] [0, 1, 2, 3, 4, 7, 8, 9, 10] rfl rfl rfl rfl (by decide) 3 5 rfl rfl hl.1 rfl (Nat.le_of_ble_eq_true rfl) dX2_add_41 (fun r6 u H locs hw7 hP hD hS => ?_)
        have hw7 : (r6 = rsz) ∧ True := hw7
        obtain ⟨hp8, -⟩ := hw7
        have hp8t := I_eq hp8
        have hP : va_P (dC, dI) vwCl [(gr, .inl (cJ, 300, .inr (.inl grf))), (gl, .inl (cI, 300, .inl glf)), (gk, .inl (cI, 300, .inl gkf)), (g, .inr (2, [.ref gh, .ref gr, .ref gl, .ref gk, .ref gd, .ref gm, .int gsz, .int gcn, .int gov])), (gd, .inl (cI, 28, .inl gdf)), (gh, .inr (0, [.ref gha, .ref ghb])), (gha, .inl (cI, 28, .inl ghaf)), (ghb, .inl (cI, 28, .inl ghbf)), (gm, .inl (cI, 28, .inl gmf_3)), (r, .inr (3, [.ref rt, .int rsz])), (rt, .inl (cI, 12, .inl rf))] H := hP
        have hD : va_D A [(gr, .inl (cJ, 300, .inr (.inl grf))), (gl, .inl (cI, 300, .inl glf)), (gk, .inl (cI, 300, .inl gkf)), (g, .inr (2, [.ref gh, .ref gr, .ref gl, .ref gk, .ref gd, .ref gm, .int gsz, .int gcn, .int gov])), (gd, .inl (cI, 28, .inl gdf)), (gh, .inr (0, [.ref gha, .ref ghb])), (gha, .inl (cI, 28, .inl ghaf)), (ghb, .inl (cI, 28, .inl ghbf)), (gm, .inl (cI, 28, .inl gmf_3)), (r, .inr (3, [.ref rt, .int rsz])), (rt, .inl (cI, 12, .inl rf))] := hD
        refine lv_icmp_ge (tgt := 65) hx hb dX2_add_44 (by decide) (fun c9 => ?_) (fun c9 => ?_)
        · have c9' := I_le c9
          refine lv_aload_n hx hb dX2_add_65 rfl (lv_at hl 3 rfl) ?_
          refine va_get (D := (dC, dI)) (ci := 2) (v := .int gsz) (C := RX2) (T := TX2) (N := 9) hx hb hts inG_X2 hown hK hP 3 rfl rfl 6 (by decide) (hts _ fl_X2_35) (fun _ h9 => h9) rfl dX2_add_66 ?_
          refine lv_istore (lv' := [(5, .int gsz), (3, .long L3_38), (2, .int r4), (0, .ref g), (1, .ref r)]) hx hb dX2_add_69 hl (by decide) rfl (fun ls hl => ?_)
          have J71 : ∀ (n : Nat) (L5_71 : Int32) (grf_71 : Nat → Int64) (glf_71 : Nat → Int32) (gkf_71 : Nat → Int32), (0 ≤ L5_71.toInt ∧ L5_71.toInt ≤ 299) → (L5_71.toInt) < (n : Int) → ∀ (H : Heap) (locs : List Loc) (ls : Array Slot), va_P (dC, dI) vwCl [(gr, .inl (cJ, 300, .inr (.inl grf_71))), (gl, .inl (cI, 300, .inl glf_71)), (gk, .inl (cI, 300, .inl gkf_71)), (g, .inr (2, [.ref gh, .ref gr, .ref gl, .ref gk, .ref gd, .ref gm, .int gsz, .int gcn, .int gov])), (gd, .inl (cI, 28, .inl gdf)), (gh, .inr (0, [.ref gha, .ref ghb])), (gha, .inl (cI, 28, .inl ghaf)), (ghb, .inl (cI, 28, .inl ghbf)), (gm, .inl (cI, 28, .inl gmf_3)), (r, .inr (3, [.ref rt, .int rsz])), (rt, .inl (cI, 12, .inl rf))] H → va_D A [(gr, .inl (cJ, 300, .inr (.inl grf_71))), (gl, .inl (cI, 300, .inl glf_71)), (gk, .inl (cI, 300, .inl gkf_71)), (g, .inr (2, [.ref gh, .ref gr, .ref gl, .ref gk, .ref gd, .ref gm, .int gsz, .int gcn, .int gov])), (gd, .inl (cI, 28, .inl gdf)), (gh, .inr (0, [.ref gha, .ref ghb])), (gha, .inl (cI, 28, .inl ghaf)), (ghb, .inl (cI, 28, .inl ghbf)), (gm, .inl (cI, 28, .inl gmf_3)), (r, .inr (3, [.ref rt, .int rsz])), (rt, .inl (cI, 12, .inl rf))] → va_S A s.heap H locs → lv_has ls 6 [(5, .int L5_71), (3, .long L3_38), (2, .int r4), (0, .ref g), (1, .ref r)] → W p l e { frames := 2, cells := 0, slots := 0, locals := 43 } s m (List.toArray [.ref g, .ref r]) below meth c H locs 0 0 Q (F0 m 71 ls []) := by
            intro n
            induction n with
            | zero =>
              intro L5_71 grf_71 glf_71 gkf_71 hi0_71 hm
              exact absurd hm (by omega)
            | succ n ih71 =>
              intro L5_71 grf_71 glf_71 gkf_71 hi0_71 hm71 H locs ls hP hD hS hl
              refine lv_iload hx hb dX2_add_71 (lv_at hl 0 rfl) ?_
              refine lv_if_le (tgt := 147) hx hb dX2_add_73 (by decide) (fun c10 => ?_) (fun c10 => ?_)
              · have c10' := I_le c10
                refine lv_aload_n hx hb dX2_add_147 rfl (lv_at hl 3 rfl) ?_
                refine va_get (D := (dC, dI)) (ci := 2) (v := .ref gr) (C := RX2) (T := TX2) (N := 9) hx hb hts inG_X2 hown hK hP 3 rfl rfl 1 (by decide) (hts _ fl_X2_18) (fun _ h9 => h9) rfl dX2_add_148 ?_
                refine lv_iload hx hb dX2_add_151 (lv_at hl 0 rfl) ?_
                refine lv_lload_n hx hb dX2_add_153 rfl (lv_at hl 1 rfl) ?_
                refine va_last (t0 := 1) hx hb hK hP hD hS 0 (ha := rfl) (ht := rfl) (I_in (by omega) (by omega)) dX2_add_154 (fun H locs hP hD hS => ?_)
                have hP : va_P (dC, dI) vwCl [(gr, .inl (cJ, 300, .inr (.inl (vp_updL grf_71 L5_71.toNatClampNeg L3_38)))), (gl, .inl (cI, 300, .inl glf_71)), (gk, .inl (cI, 300, .inl gkf_71)), (g, .inr (2, [.ref gh, .ref gr, .ref gl, .ref gk, .ref gd, .ref gm, .int gsz, .int gcn, .int gov])), (gd, .inl (cI, 28, .inl gdf)), (gh, .inr (0, [.ref gha, .ref ghb])), (gha, .inl (cI, 28, .inl ghaf)), (ghb, .inl (cI, 28, .inl ghbf)), (gm, .inl (cI, 28, .inl gmf_3)), (r, .inr (3, [.ref rt, .int rsz])), (rt, .inl (cI, 12, .inl rf))] H := hP
                have hD : va_D A [(gr, .inl (cJ, 300, .inr (.inl (vp_updL grf_71 L5_71.toNatClampNeg L3_38)))), (gl, .inl (cI, 300, .inl glf_71)), (gk, .inl (cI, 300, .inl gkf_71)), (g, .inr (2, [.ref gh, .ref gr, .ref gl, .ref gk, .ref gd, .ref gm, .int gsz, .int gcn, .int gov])), (gd, .inl (cI, 28, .inl gdf)), (gh, .inr (0, [.ref gha, .ref ghb])), (gha, .inl (cI, 28, .inl ghaf)), (ghb, .inl (cI, 28, .inl ghbf)), (gm, .inl (cI, 28, .inl gmf_3)), (r, .inr (3, [.ref rt, .int rsz])), (rt, .inl (cI, 12, .inl rf))] := hD
                generalize ef11 : vp_updL grf_71 L5_71.toNatClampNeg L3_38 = f11 at hP hD
                refine lv_aload_n hx hb dX2_add_155 rfl (lv_at hl 3 rfl) ?_
                refine va_get (D := (dC, dI)) (ci := 2) (v := .ref gl) (C := RX2) (T := TX2) (N := 9) hx hb hts inG_X2 hown hK hP 3 rfl rfl 2 (by decide) (hts _ fl_X2_22) (fun _ h9 => h9) rfl dX2_add_156 ?_
                refine lv_iload hx hb dX2_add_159 (lv_at hl 0 rfl) ?_
                refine lv_aload_n hx hb dX2_add_161 rfl (lv_at hl 4 rfl) ?_
                refine calI (rest := [.int L5_71, .ref gl]) (wr := [(gr, .inl (cJ, 300, .inr (.inl f11))), (gl, .inl (cI, 300, .inl glf_71)), (gk, .inl (cI, 300, .inl gkf_71)), (g, .inr (2, [.ref gh, .ref gr, .ref gl, .ref gk, .ref gd, .ref gm, .int gsz, .int gcn, .int gov])), (gd, .inl (cI, 28, .inl gdf)), (gh, .inr (0, [.ref gha, .ref ghb])), (gha, .inl (cI, 28, .inl ghaf)), (ghb, .inl (cI, 28, .inl ghbf)), (gm, .inl (cI, 28, .inl gmf_3))]) hG (c_X4_size l dC dI cI cJ base bB bO r rt rsz rf ) ml_X2_72 im_X4_size se_X4_size ini_X4 cd_X4_size hd_X4_size ⟨(Nat.le_of_ble_eq_true rfl), (Nat.le_of_ble_eq_true rfl)⟩ (Nat.le_of_ble_eq_true rfl) (Nat.le_of_ble_eq_true rfl) hP hD hS [9, 10] [0, 1, 2, 3, 4, 5, 6, 7, 8] rfl rfl rfl rfl (by decide) 3 9 rfl rfl hl.1 rfl (Nat.le_of_ble_eq_true rfl) dX2_add_162 (fun r12 u H locs hw13 hP hD hS => ?_)
                have hw13 : (r12 = rsz) ∧ True := hw13
                obtain ⟨hp14, -⟩ := hw13
                have hp14t := I_eq hp14
                have hP : va_P (dC, dI) vwCl [(gr, .inl (cJ, 300, .inr (.inl f11))), (gl, .inl (cI, 300, .inl glf_71)), (gk, .inl (cI, 300, .inl gkf_71)), (g, .inr (2, [.ref gh, .ref gr, .ref gl, .ref gk, .ref gd, .ref gm, .int gsz, .int gcn, .int gov])), (gd, .inl (cI, 28, .inl gdf)), (gh, .inr (0, [.ref gha, .ref ghb])), (gha, .inl (cI, 28, .inl ghaf)), (ghb, .inl (cI, 28, .inl ghbf)), (gm, .inl (cI, 28, .inl gmf_3)), (r, .inr (3, [.ref rt, .int rsz])), (rt, .inl (cI, 12, .inl rf))] H := hP
                have hD : va_D A [(gr, .inl (cJ, 300, .inr (.inl f11))), (gl, .inl (cI, 300, .inl glf_71)), (gk, .inl (cI, 300, .inl gkf_71)), (g, .inr (2, [.ref gh, .ref gr, .ref gl, .ref gk, .ref gd, .ref gm, .int gsz, .int gcn, .int gov])), (gd, .inl (cI, 28, .inl gdf)), (gh, .inr (0, [.ref gha, .ref ghb])), (gha, .inl (cI, 28, .inl ghaf)), (ghb, .inl (cI, 28, .inl ghbf)), (gm, .inl (cI, 28, .inl gmf_3)), (r, .inr (3, [.ref rt, .int rsz])), (rt, .inl (cI, 12, .inl rf))] := hD
                refine va_iast (t0 := 0) hx hb hK hP hD hS 1 (ha := rfl) (ht := rfl) (I_in (by omega) (by omega)) dX2_add_165 (fun H locs hP hD hS => ?_)
                have hP : va_P (dC, dI) vwCl [(gr, .inl (cJ, 300, .inr (.inl f11))), (gl, .inl (cI, 300, .inl (upd glf_71 L5_71.toNatClampNeg r12))), (gk, .inl (cI, 300, .inl gkf_71)), (g, .inr (2, [.ref gh, .ref gr, .ref gl, .ref gk, .ref gd, .ref gm, .int gsz, .int gcn, .int gov])), (gd, .inl (cI, 28, .inl gdf)), (gh, .inr (0, [.ref gha, .ref ghb])), (gha, .inl (cI, 28, .inl ghaf)), (ghb, .inl (cI, 28, .inl ghbf)), (gm, .inl (cI, 28, .inl gmf_3)), (r, .inr (3, [.ref rt, .int rsz])), (rt, .inl (cI, 12, .inl rf))] H := hP
                have hD : va_D A [(gr, .inl (cJ, 300, .inr (.inl f11))), (gl, .inl (cI, 300, .inl (upd glf_71 L5_71.toNatClampNeg r12))), (gk, .inl (cI, 300, .inl gkf_71)), (g, .inr (2, [.ref gh, .ref gr, .ref gl, .ref gk, .ref gd, .ref gm, .int gsz, .int gcn, .int gov])), (gd, .inl (cI, 28, .inl gdf)), (gh, .inr (0, [.ref gha, .ref ghb])), (gha, .inl (cI, 28, .inl ghaf)), (ghb, .inl (cI, 28, .inl ghbf)), (gm, .inl (cI, 28, .inl gmf_3)), (r, .inr (3, [.ref rt, .int rsz])), (rt, .inl (cI, 12, .inl rf))] := hD
                generalize ef15 : upd glf_71 L5_71.toNatClampNeg r12 = f15 at hP hD
                refine lv_aload_n hx hb dX2_add_166 rfl (lv_at hl 3 rfl) ?_
                refine va_get (D := (dC, dI)) (ci := 2) (v := .ref gk) (C := RX2) (T := TX2) (N := 9) hx hb hts inG_X2 hown hK hP 3 rfl rfl 3 (by decide) (hts _ fl_X2_26) (fun _ h9 => h9) rfl dX2_add_167 ?_
                refine lv_iload hx hb dX2_add_170 (lv_at hl 0 rfl) ?_
                refine lv_iload_n hx hb dX2_add_172 rfl (lv_at hl 2 rfl) ?_
                refine va_iast (t0 := 0) hx hb hK hP hD hS 2 (ha := rfl) (ht := rfl) (I_in (by omega) (by omega)) dX2_add_173 (fun H locs hP hD hS => ?_)
                have hP : va_P (dC, dI) vwCl [(gr, .inl (cJ, 300, .inr (.inl f11))), (gl, .inl (cI, 300, .inl f15)), (gk, .inl (cI, 300, .inl (upd gkf_71 L5_71.toNatClampNeg r4))), (g, .inr (2, [.ref gh, .ref gr, .ref gl, .ref gk, .ref gd, .ref gm, .int gsz, .int gcn, .int gov])), (gd, .inl (cI, 28, .inl gdf)), (gh, .inr (0, [.ref gha, .ref ghb])), (gha, .inl (cI, 28, .inl ghaf)), (ghb, .inl (cI, 28, .inl ghbf)), (gm, .inl (cI, 28, .inl gmf_3)), (r, .inr (3, [.ref rt, .int rsz])), (rt, .inl (cI, 12, .inl rf))] H := hP
                have hD : va_D A [(gr, .inl (cJ, 300, .inr (.inl f11))), (gl, .inl (cI, 300, .inl f15)), (gk, .inl (cI, 300, .inl (upd gkf_71 L5_71.toNatClampNeg r4))), (g, .inr (2, [.ref gh, .ref gr, .ref gl, .ref gk, .ref gd, .ref gm, .int gsz, .int gcn, .int gov])), (gd, .inl (cI, 28, .inl gdf)), (gh, .inr (0, [.ref gha, .ref ghb])), (gha, .inl (cI, 28, .inl ghaf)), (ghb, .inl (cI, 28, .inl ghbf)), (gm, .inl (cI, 28, .inl gmf_3)), (r, .inr (3, [.ref rt, .int rsz])), (rt, .inl (cI, 12, .inl rf))] := hD
                generalize ef16 : upd gkf_71 L5_71.toNatClampNeg r4 = f16 at hP hD
                refine lv_aload_n hx hb dX2_add_174 rfl (lv_at hl 3 rfl) ?_
                refine lv_dup hx hb dX2_add_175 rfl ?_
                refine va_get (D := (dC, dI)) (ci := 2) (v := .int gsz) (C := RX2) (T := TX2) (N := 9) hx hb hts inG_X2 hown hK hP 3 rfl rfl 6 (by decide) (hts _ fl_X2_35) (fun _ h9 => h9) rfl dX2_add_176 ?_
                refine lv_iconst (v := 1) hx hb dX2_add_179 (by decide) ?_
                refine lv_iadd hx hb dX2_add_180 ?_
                refine lv_topi (fun v17 ev17 => ?_)
                try have hv17 : v17.toInt = gsz.toInt + (1 : Int32).toInt := I_addx ev17 (by omega)
                refine va_put (D := (dC, dI)) (ci := 2) (v := .int v17) (ty := .int) (C := RX2) (T := TX2) (N := 9) hx hb hts inG_X2 tyX2 tyX2_ok nmX2 hown hK hP hD hS 3 rfl rfl 6 (by decide) (hts _ fl_X2_35) (fun _ h9 => h9) rfl (by decide +kernel) rfl rfl (Nat.le_of_ble_eq_true rfl) dX2_add_181 (fun H locs hP hD hS => ?_)
                have hP : va_P (dC, dI) vwCl [(gr, .inl (cJ, 300, .inr (.inl f11))), (gl, .inl (cI, 300, .inl f15)), (gk, .inl (cI, 300, .inl f16)), (g, .inr (2, [.ref gh, .ref gr, .ref gl, .ref gk, .ref gd, .ref gm, .int v17, .int gcn, .int gov])), (gd, .inl (cI, 28, .inl gdf)), (gh, .inr (0, [.ref gha, .ref ghb])), (gha, .inl (cI, 28, .inl ghaf)), (ghb, .inl (cI, 28, .inl ghbf)), (gm, .inl (cI, 28, .inl gmf_3)), (r, .inr (3, [.ref rt, .int rsz])), (rt, .inl (cI, 12, .inl rf))] H := hP
                have hD : va_D A [(gr, .inl (cJ, 300, .inr (.inl f11))), (gl, .inl (cI, 300, .inl f15)), (gk, .inl (cI, 300, .inl f16)), (g, .inr (2, [.ref gh, .ref gr, .ref gl, .ref gk, .ref gd, .ref gm, .int v17, .int gcn, .int gov])), (gd, .inl (cI, 28, .inl gdf)), (gh, .inr (0, [.ref gha, .ref ghb])), (gha, .inl (cI, 28, .inl ghaf)), (ghb, .inl (cI, 28, .inl ghbf)), (gm, .inl (cI, 28, .inl gmf_3)), (r, .inr (3, [.ref rt, .int rsz])), (rt, .inl (cI, 12, .inl rf))] := hD
                exact hret (v17, gov, f11, f15, f16, gmf_3) H locs 184 ls ⟨(show 0 ≤ v17.toInt ∧ v17.toInt ≤ 300 from by first | rfl | assumption | omega), (show gov.toInt = 0 ∨ gov.toInt = 1 from by first | rfl | assumption | omega), trivial⟩ (hP.sub (ws' := [(g, .inr (2, [.ref gh, .ref gr, .ref gl, .ref gk, .ref gd, .ref gm, .int v17, .int gcn, .int gov])), (gh, .inr (0, [.ref gha, .ref ghb])), (gha, .inl (cI, 28, .inl ghaf)), (ghb, .inl (cI, 28, .inl ghbf)), (gr, .inl (cJ, 300, .inr (.inl f11))), (gl, .inl (cI, 300, .inl f15)), (gk, .inl (cI, 300, .inl f16)), (gd, .inl (cI, 28, .inl gdf)), (gm, .inl (cI, 28, .inl gmf_3)), (r, .inr (3, [.ref rt, .int rsz])), (rt, .inl (cI, 12, .inl rf))]) [3, 5, 6, 7, 0, 1, 2, 4, 8, 9, 10] rfl) (hD.sub (ws' := [(g, .inr (2, [.ref gh, .ref gr, .ref gl, .ref gk, .ref gd, .ref gm, .int v17, .int gcn, .int gov])), (gh, .inr (0, [.ref gha, .ref ghb])), (gha, .inl (cI, 28, .inl ghaf)), (ghb, .inl (cI, 28, .inl ghbf)), (gr, .inl (cJ, 300, .inr (.inl f11))), (gl, .inl (cI, 300, .inl f15)), (gk, .inl (cI, 300, .inl f16)), (gd, .inl (cI, 28, .inl gdf)), (gm, .inl (cI, 28, .inl gmf_3)), (r, .inr (3, [.ref rt, .int rsz])), (rt, .inl (cI, 12, .inl rf))]) [3, 5, 6, 7, 0, 1, 2, 4, 8, 9, 10] (by decide) rfl) hS dX2_add_184
              · have c10' := I_nle c10
                refine lv_aload_n hx hb dX2_add_76 rfl (lv_at hl 3 rfl) ?_
                refine lv_iload hx hb dX2_add_77 (lv_at hl 0 rfl) ?_
                refine lv_iconst (v := 1) hx hb dX2_add_79 (by decide) ?_
                refine lv_isub hx hb dX2_add_80 ?_
                refine lv_topi (fun v18 ev18 => ?_)
                try have hv18 : v18.toInt = L5_71.toInt - (1 : Int32).toInt := I_subx ev18 (by omega)
                refine lv_lload_n hx hb dX2_add_81 rfl (lv_at hl 1 rfl) ?_
                refine lv_aload_n hx hb dX2_add_82 rfl (lv_at hl 4 rfl) ?_
                refine calI (rest := [.long L3_38, .int v18, .ref g]) (wr := [(gr, .inl (cJ, 300, .inr (.inl grf_71))), (gl, .inl (cI, 300, .inl glf_71)), (gk, .inl (cI, 300, .inl gkf_71)), (g, .inr (2, [.ref gh, .ref gr, .ref gl, .ref gk, .ref gd, .ref gm, .int gsz, .int gcn, .int gov])), (gd, .inl (cI, 28, .inl gdf)), (gh, .inr (0, [.ref gha, .ref ghb])), (gha, .inl (cI, 28, .inl ghaf)), (ghb, .inl (cI, 28, .inl ghbf)), (gm, .inl (cI, 28, .inl gmf_3))]) hG (c_X4_size l dC dI cI cJ base bB bO r rt rsz rf ) ml_X2_72 im_X4_size se_X4_size ini_X4 cd_X4_size hd_X4_size ⟨(Nat.le_of_ble_eq_true rfl), (Nat.le_of_ble_eq_true rfl)⟩ (Nat.le_of_ble_eq_true rfl) (Nat.le_of_ble_eq_true rfl) hP hD hS [9, 10] [0, 1, 2, 3, 4, 5, 6, 7, 8] rfl rfl rfl rfl (by decide) 3 9 rfl rfl hl.1 rfl (Nat.le_of_ble_eq_true rfl) dX2_add_83 (fun r19 u H locs hw20 hP hD hS => ?_)
                have hw20 : (r19 = rsz) ∧ True := hw20
                obtain ⟨hp21, -⟩ := hw20
                have hp21t := I_eq hp21
                have hP : va_P (dC, dI) vwCl [(gr, .inl (cJ, 300, .inr (.inl grf_71))), (gl, .inl (cI, 300, .inl glf_71)), (gk, .inl (cI, 300, .inl gkf_71)), (g, .inr (2, [.ref gh, .ref gr, .ref gl, .ref gk, .ref gd, .ref gm, .int gsz, .int gcn, .int gov])), (gd, .inl (cI, 28, .inl gdf)), (gh, .inr (0, [.ref gha, .ref ghb])), (gha, .inl (cI, 28, .inl ghaf)), (ghb, .inl (cI, 28, .inl ghbf)), (gm, .inl (cI, 28, .inl gmf_3)), (r, .inr (3, [.ref rt, .int rsz])), (rt, .inl (cI, 12, .inl rf))] H := hP
                have hD : va_D A [(gr, .inl (cJ, 300, .inr (.inl grf_71))), (gl, .inl (cI, 300, .inl glf_71)), (gk, .inl (cI, 300, .inl gkf_71)), (g, .inr (2, [.ref gh, .ref gr, .ref gl, .ref gk, .ref gd, .ref gm, .int gsz, .int gcn, .int gov])), (gd, .inl (cI, 28, .inl gdf)), (gh, .inr (0, [.ref gha, .ref ghb])), (gha, .inl (cI, 28, .inl ghaf)), (ghb, .inl (cI, 28, .inl ghbf)), (gm, .inl (cI, 28, .inl gmf_3)), (r, .inr (3, [.ref rt, .int rsz])), (rt, .inl (cI, 12, .inl rf))] := hD
                refine lv_iload_n hx hb dX2_add_86 rfl (lv_at hl 2 rfl) ?_
                refine calI (rest := []) (wr := [(gd, .inl (cI, 28, .inl gdf)), (gh, .inr (0, [.ref gha, .ref ghb])), (gha, .inl (cI, 28, .inl ghaf)), (ghb, .inl (cI, 28, .inl ghbf)), (gm, .inl (cI, 28, .inl gmf_3)), (r, .inr (3, [.ref rt, .int rsz])), (rt, .inl (cI, 12, .inl rf))]) hG (c_X2_isBefore l dC dI cI cJ base bB bO g gh gr gl gk gd gm gsz gcn gov grf_71 glf_71 gkf_71 v18 L3_38 r19 r4 (by first | assumption | omega)) ml_X2_93 im_X2_isBefore se_X2_isBefore ini_X2 cd_X2_isBefore hd_X2_isBefore ⟨(Nat.le_of_ble_eq_true rfl), (Nat.le_of_ble_eq_true rfl)⟩ (Nat.le_of_ble_eq_true rfl) (Nat.le_of_ble_eq_true rfl) hP hD hS [3, 0, 1, 2] [4, 5, 6, 7, 8, 9, 10] rfl rfl rfl rfl (by decide) 2 3 rfl rfl hl.1 rfl (Nat.le_of_ble_eq_true rfl) dX2_add_87 (fun r22 u H locs hw23 hP hD hS => ?_)
                have hw23 : (r22.toInt = 0 ∨ r22.toInt = 1) ∧ True := hw23
                obtain ⟨hp24, -⟩ := hw23
                have hP : va_P (dC, dI) vwCl [(gd, .inl (cI, 28, .inl gdf)), (gh, .inr (0, [.ref gha, .ref ghb])), (gha, .inl (cI, 28, .inl ghaf)), (ghb, .inl (cI, 28, .inl ghbf)), (gm, .inl (cI, 28, .inl gmf_3)), (r, .inr (3, [.ref rt, .int rsz])), (rt, .inl (cI, 12, .inl rf)), (g, .inr (2, [.ref gh, .ref gr, .ref gl, .ref gk, .ref gd, .ref gm, .int gsz, .int gcn, .int gov])), (gr, .inl (cJ, 300, .inr (.inl grf_71))), (gl, .inl (cI, 300, .inl glf_71)), (gk, .inl (cI, 300, .inl gkf_71))] H := hP
                have hD : va_D A [(gd, .inl (cI, 28, .inl gdf)), (gh, .inr (0, [.ref gha, .ref ghb])), (gha, .inl (cI, 28, .inl ghaf)), (ghb, .inl (cI, 28, .inl ghbf)), (gm, .inl (cI, 28, .inl gmf_3)), (r, .inr (3, [.ref rt, .int rsz])), (rt, .inl (cI, 12, .inl rf)), (g, .inr (2, [.ref gh, .ref gr, .ref gl, .ref gk, .ref gd, .ref gm, .int gsz, .int gcn, .int gov])), (gr, .inl (cJ, 300, .inr (.inl grf_71))), (gl, .inl (cI, 300, .inl glf_71)), (gk, .inl (cI, 300, .inl gkf_71))] := hD
                refine lv_if_ne (tgt := 147) hx hb dX2_add_90 (by decide) (fun c25 => ?_) (fun c25 => ?_)
                · have c25' := I_ne c25
                  refine lv_aload_n hx hb dX2_add_147 rfl (lv_at hl 3 rfl) ?_
                  refine va_get (D := (dC, dI)) (ci := 2) (v := .ref gr) (C := RX2) (T := TX2) (N := 9) hx hb hts inG_X2 hown hK hP 7 rfl rfl 1 (by decide) (hts _ fl_X2_18) (fun _ h9 => h9) rfl dX2_add_148 ?_
                  refine lv_iload hx hb dX2_add_151 (lv_at hl 0 rfl) ?_
                  refine lv_lload_n hx hb dX2_add_153 rfl (lv_at hl 1 rfl) ?_
                  refine va_last (t0 := 1) hx hb hK hP hD hS 8 (ha := rfl) (ht := rfl) (I_in (by omega) (by omega)) dX2_add_154 (fun H locs hP hD hS => ?_)
                  have hP : va_P (dC, dI) vwCl [(gd, .inl (cI, 28, .inl gdf)), (gh, .inr (0, [.ref gha, .ref ghb])), (gha, .inl (cI, 28, .inl ghaf)), (ghb, .inl (cI, 28, .inl ghbf)), (gm, .inl (cI, 28, .inl gmf_3)), (r, .inr (3, [.ref rt, .int rsz])), (rt, .inl (cI, 12, .inl rf)), (g, .inr (2, [.ref gh, .ref gr, .ref gl, .ref gk, .ref gd, .ref gm, .int gsz, .int gcn, .int gov])), (gr, .inl (cJ, 300, .inr (.inl (vp_updL grf_71 L5_71.toNatClampNeg L3_38)))), (gl, .inl (cI, 300, .inl glf_71)), (gk, .inl (cI, 300, .inl gkf_71))] H := hP
                  have hD : va_D A [(gd, .inl (cI, 28, .inl gdf)), (gh, .inr (0, [.ref gha, .ref ghb])), (gha, .inl (cI, 28, .inl ghaf)), (ghb, .inl (cI, 28, .inl ghbf)), (gm, .inl (cI, 28, .inl gmf_3)), (r, .inr (3, [.ref rt, .int rsz])), (rt, .inl (cI, 12, .inl rf)), (g, .inr (2, [.ref gh, .ref gr, .ref gl, .ref gk, .ref gd, .ref gm, .int gsz, .int gcn, .int gov])), (gr, .inl (cJ, 300, .inr (.inl (vp_updL grf_71 L5_71.toNatClampNeg L3_38)))), (gl, .inl (cI, 300, .inl glf_71)), (gk, .inl (cI, 300, .inl gkf_71))] := hD
                  generalize ef26 : vp_updL grf_71 L5_71.toNatClampNeg L3_38 = f26 at hP hD
                  refine lv_aload_n hx hb dX2_add_155 rfl (lv_at hl 3 rfl) ?_
                  refine va_get (D := (dC, dI)) (ci := 2) (v := .ref gl) (C := RX2) (T := TX2) (N := 9) hx hb hts inG_X2 hown hK hP 7 rfl rfl 2 (by decide) (hts _ fl_X2_22) (fun _ h9 => h9) rfl dX2_add_156 ?_
                  refine lv_iload hx hb dX2_add_159 (lv_at hl 0 rfl) ?_
                  refine lv_aload_n hx hb dX2_add_161 rfl (lv_at hl 4 rfl) ?_
                  refine calI (rest := [.int L5_71, .ref gl]) (wr := [(gd, .inl (cI, 28, .inl gdf)), (gh, .inr (0, [.ref gha, .ref ghb])), (gha, .inl (cI, 28, .inl ghaf)), (ghb, .inl (cI, 28, .inl ghbf)), (gm, .inl (cI, 28, .inl gmf_3)), (g, .inr (2, [.ref gh, .ref gr, .ref gl, .ref gk, .ref gd, .ref gm, .int gsz, .int gcn, .int gov])), (gr, .inl (cJ, 300, .inr (.inl f26))), (gl, .inl (cI, 300, .inl glf_71)), (gk, .inl (cI, 300, .inl gkf_71))]) hG (c_X4_size l dC dI cI cJ base bB bO r rt rsz rf ) ml_X2_72 im_X4_size se_X4_size ini_X4 cd_X4_size hd_X4_size ⟨(Nat.le_of_ble_eq_true rfl), (Nat.le_of_ble_eq_true rfl)⟩ (Nat.le_of_ble_eq_true rfl) (Nat.le_of_ble_eq_true rfl) hP hD hS [5, 6] [0, 1, 2, 3, 4, 7, 8, 9, 10] rfl rfl rfl rfl (by decide) 3 5 rfl rfl hl.1 rfl (Nat.le_of_ble_eq_true rfl) dX2_add_162 (fun r27 u H locs hw28 hP hD hS => ?_)
                  have hw28 : (r27 = rsz) ∧ True := hw28
                  obtain ⟨hp29, -⟩ := hw28
                  have hp29t := I_eq hp29
                  have hP : va_P (dC, dI) vwCl [(gd, .inl (cI, 28, .inl gdf)), (gh, .inr (0, [.ref gha, .ref ghb])), (gha, .inl (cI, 28, .inl ghaf)), (ghb, .inl (cI, 28, .inl ghbf)), (gm, .inl (cI, 28, .inl gmf_3)), (g, .inr (2, [.ref gh, .ref gr, .ref gl, .ref gk, .ref gd, .ref gm, .int gsz, .int gcn, .int gov])), (gr, .inl (cJ, 300, .inr (.inl f26))), (gl, .inl (cI, 300, .inl glf_71)), (gk, .inl (cI, 300, .inl gkf_71)), (r, .inr (3, [.ref rt, .int rsz])), (rt, .inl (cI, 12, .inl rf))] H := hP
                  have hD : va_D A [(gd, .inl (cI, 28, .inl gdf)), (gh, .inr (0, [.ref gha, .ref ghb])), (gha, .inl (cI, 28, .inl ghaf)), (ghb, .inl (cI, 28, .inl ghbf)), (gm, .inl (cI, 28, .inl gmf_3)), (g, .inr (2, [.ref gh, .ref gr, .ref gl, .ref gk, .ref gd, .ref gm, .int gsz, .int gcn, .int gov])), (gr, .inl (cJ, 300, .inr (.inl f26))), (gl, .inl (cI, 300, .inl glf_71)), (gk, .inl (cI, 300, .inl gkf_71)), (r, .inr (3, [.ref rt, .int rsz])), (rt, .inl (cI, 12, .inl rf))] := hD
                  refine va_iast (t0 := 0) hx hb hK hP hD hS 7 (ha := rfl) (ht := rfl) (I_in (by omega) (by omega)) dX2_add_165 (fun H locs hP hD hS => ?_)
                  have hP : va_P (dC, dI) vwCl [(gd, .inl (cI, 28, .inl gdf)), (gh, .inr (0, [.ref gha, .ref ghb])), (gha, .inl (cI, 28, .inl ghaf)), (ghb, .inl (cI, 28, .inl ghbf)), (gm, .inl (cI, 28, .inl gmf_3)), (g, .inr (2, [.ref gh, .ref gr, .ref gl, .ref gk, .ref gd, .ref gm, .int gsz, .int gcn, .int gov])), (gr, .inl (cJ, 300, .inr (.inl f26))), (gl, .inl (cI, 300, .inl (upd glf_71 L5_71.toNatClampNeg r27))), (gk, .inl (cI, 300, .inl gkf_71)), (r, .inr (3, [.ref rt, .int rsz])), (rt, .inl (cI, 12, .inl rf))] H := hP
                  have hD : va_D A [(gd, .inl (cI, 28, .inl gdf)), (gh, .inr (0, [.ref gha, .ref ghb])), (gha, .inl (cI, 28, .inl ghaf)), (ghb, .inl (cI, 28, .inl ghbf)), (gm, .inl (cI, 28, .inl gmf_3)), (g, .inr (2, [.ref gh, .ref gr, .ref gl, .ref gk, .ref gd, .ref gm, .int gsz, .int gcn, .int gov])), (gr, .inl (cJ, 300, .inr (.inl f26))), (gl, .inl (cI, 300, .inl (upd glf_71 L5_71.toNatClampNeg r27))), (gk, .inl (cI, 300, .inl gkf_71)), (r, .inr (3, [.ref rt, .int rsz])), (rt, .inl (cI, 12, .inl rf))] := hD
                  generalize ef30 : upd glf_71 L5_71.toNatClampNeg r27 = f30 at hP hD
                  refine lv_aload_n hx hb dX2_add_166 rfl (lv_at hl 3 rfl) ?_
                  refine va_get (D := (dC, dI)) (ci := 2) (v := .ref gk) (C := RX2) (T := TX2) (N := 9) hx hb hts inG_X2 hown hK hP 5 rfl rfl 3 (by decide) (hts _ fl_X2_26) (fun _ h9 => h9) rfl dX2_add_167 ?_
                  refine lv_iload hx hb dX2_add_170 (lv_at hl 0 rfl) ?_
                  refine lv_iload_n hx hb dX2_add_172 rfl (lv_at hl 2 rfl) ?_
                  refine va_iast (t0 := 0) hx hb hK hP hD hS 8 (ha := rfl) (ht := rfl) (I_in (by omega) (by omega)) dX2_add_173 (fun H locs hP hD hS => ?_)
                  have hP : va_P (dC, dI) vwCl [(gd, .inl (cI, 28, .inl gdf)), (gh, .inr (0, [.ref gha, .ref ghb])), (gha, .inl (cI, 28, .inl ghaf)), (ghb, .inl (cI, 28, .inl ghbf)), (gm, .inl (cI, 28, .inl gmf_3)), (g, .inr (2, [.ref gh, .ref gr, .ref gl, .ref gk, .ref gd, .ref gm, .int gsz, .int gcn, .int gov])), (gr, .inl (cJ, 300, .inr (.inl f26))), (gl, .inl (cI, 300, .inl f30)), (gk, .inl (cI, 300, .inl (upd gkf_71 L5_71.toNatClampNeg r4))), (r, .inr (3, [.ref rt, .int rsz])), (rt, .inl (cI, 12, .inl rf))] H := hP
                  have hD : va_D A [(gd, .inl (cI, 28, .inl gdf)), (gh, .inr (0, [.ref gha, .ref ghb])), (gha, .inl (cI, 28, .inl ghaf)), (ghb, .inl (cI, 28, .inl ghbf)), (gm, .inl (cI, 28, .inl gmf_3)), (g, .inr (2, [.ref gh, .ref gr, .ref gl, .ref gk, .ref gd, .ref gm, .int gsz, .int gcn, .int gov])), (gr, .inl (cJ, 300, .inr (.inl f26))), (gl, .inl (cI, 300, .inl f30)), (gk, .inl (cI, 300, .inl (upd gkf_71 L5_71.toNatClampNeg r4))), (r, .inr (3, [.ref rt, .int rsz])), (rt, .inl (cI, 12, .inl rf))] := hD
                  generalize ef31 : upd gkf_71 L5_71.toNatClampNeg r4 = f31 at hP hD
                  refine lv_aload_n hx hb dX2_add_174 rfl (lv_at hl 3 rfl) ?_
                  refine lv_dup hx hb dX2_add_175 rfl ?_
                  refine va_get (D := (dC, dI)) (ci := 2) (v := .int gsz) (C := RX2) (T := TX2) (N := 9) hx hb hts inG_X2 hown hK hP 5 rfl rfl 6 (by decide) (hts _ fl_X2_35) (fun _ h9 => h9) rfl dX2_add_176 ?_
                  refine lv_iconst (v := 1) hx hb dX2_add_179 (by decide) ?_
                  refine lv_iadd hx hb dX2_add_180 ?_
                  refine lv_topi (fun v32 ev32 => ?_)
                  try have hv32 : v32.toInt = gsz.toInt + (1 : Int32).toInt := I_addx ev32 (by omega)
                  refine va_put (D := (dC, dI)) (ci := 2) (v := .int v32) (ty := .int) (C := RX2) (T := TX2) (N := 9) hx hb hts inG_X2 tyX2 tyX2_ok nmX2 hown hK hP hD hS 5 rfl rfl 6 (by decide) (hts _ fl_X2_35) (fun _ h9 => h9) rfl (by decide +kernel) rfl rfl (Nat.le_of_ble_eq_true rfl) dX2_add_181 (fun H locs hP hD hS => ?_)
                  have hP : va_P (dC, dI) vwCl [(gd, .inl (cI, 28, .inl gdf)), (gh, .inr (0, [.ref gha, .ref ghb])), (gha, .inl (cI, 28, .inl ghaf)), (ghb, .inl (cI, 28, .inl ghbf)), (gm, .inl (cI, 28, .inl gmf_3)), (g, .inr (2, [.ref gh, .ref gr, .ref gl, .ref gk, .ref gd, .ref gm, .int v32, .int gcn, .int gov])), (gr, .inl (cJ, 300, .inr (.inl f26))), (gl, .inl (cI, 300, .inl f30)), (gk, .inl (cI, 300, .inl f31)), (r, .inr (3, [.ref rt, .int rsz])), (rt, .inl (cI, 12, .inl rf))] H := hP
                  have hD : va_D A [(gd, .inl (cI, 28, .inl gdf)), (gh, .inr (0, [.ref gha, .ref ghb])), (gha, .inl (cI, 28, .inl ghaf)), (ghb, .inl (cI, 28, .inl ghbf)), (gm, .inl (cI, 28, .inl gmf_3)), (g, .inr (2, [.ref gh, .ref gr, .ref gl, .ref gk, .ref gd, .ref gm, .int v32, .int gcn, .int gov])), (gr, .inl (cJ, 300, .inr (.inl f26))), (gl, .inl (cI, 300, .inl f30)), (gk, .inl (cI, 300, .inl f31)), (r, .inr (3, [.ref rt, .int rsz])), (rt, .inl (cI, 12, .inl rf))] := hD
                  exact hret (v32, gov, f26, f30, f31, gmf_3) H locs 184 ls ⟨(show 0 ≤ v32.toInt ∧ v32.toInt ≤ 300 from by first | rfl | assumption | omega), (show gov.toInt = 0 ∨ gov.toInt = 1 from by first | rfl | assumption | omega), trivial⟩ (hP.sub (ws' := [(g, .inr (2, [.ref gh, .ref gr, .ref gl, .ref gk, .ref gd, .ref gm, .int v32, .int gcn, .int gov])), (gh, .inr (0, [.ref gha, .ref ghb])), (gha, .inl (cI, 28, .inl ghaf)), (ghb, .inl (cI, 28, .inl ghbf)), (gr, .inl (cJ, 300, .inr (.inl f26))), (gl, .inl (cI, 300, .inl f30)), (gk, .inl (cI, 300, .inl f31)), (gd, .inl (cI, 28, .inl gdf)), (gm, .inl (cI, 28, .inl gmf_3)), (r, .inr (3, [.ref rt, .int rsz])), (rt, .inl (cI, 12, .inl rf))]) [5, 1, 2, 3, 6, 7, 8, 0, 4, 9, 10] rfl) (hD.sub (ws' := [(g, .inr (2, [.ref gh, .ref gr, .ref gl, .ref gk, .ref gd, .ref gm, .int v32, .int gcn, .int gov])), (gh, .inr (0, [.ref gha, .ref ghb])), (gha, .inl (cI, 28, .inl ghaf)), (ghb, .inl (cI, 28, .inl ghbf)), (gr, .inl (cJ, 300, .inr (.inl f26))), (gl, .inl (cI, 300, .inl f30)), (gk, .inl (cI, 300, .inl f31)), (gd, .inl (cI, 28, .inl gdf)), (gm, .inl (cI, 28, .inl gmf_3)), (r, .inr (3, [.ref rt, .int rsz])), (rt, .inl (cI, 12, .inl rf))]) [5, 1, 2, 3, 6, 7, 8, 0, 4, 9, 10] (by decide) rfl) hS dX2_add_184
                · have c25' := I_eq c25
                  refine lv_aload_n hx hb dX2_add_93 rfl (lv_at hl 3 rfl) ?_
                  refine va_get (D := (dC, dI)) (ci := 2) (v := .ref gr) (C := RX2) (T := TX2) (N := 9) hx hb hts inG_X2 hown hK hP 7 rfl rfl 1 (by decide) (hts _ fl_X2_18) (fun _ h9 => h9) rfl dX2_add_94 ?_
                  refine lv_iload hx hb dX2_add_97 (lv_at hl 0 rfl) ?_
                  refine lv_aload_n hx hb dX2_add_99 rfl (lv_at hl 3 rfl) ?_
                  refine va_get (D := (dC, dI)) (ci := 2) (v := .ref gr) (C := RX2) (T := TX2) (N := 9) hx hb hts inG_X2 hown hK hP 7 rfl rfl 1 (by decide) (hts _ fl_X2_18) (fun _ h9 => h9) rfl dX2_add_100 ?_
                  refine lv_iload hx hb dX2_add_103 (lv_at hl 0 rfl) ?_
                  refine lv_iconst (v := 1) hx hb dX2_add_105 (by decide) ?_
                  refine lv_isub hx hb dX2_add_106 ?_
                  refine lv_topi (fun v33 ev33 => ?_)
                  try have hv33 : v33.toInt = L5_71.toInt - (1 : Int32).toInt := I_subx ev33 (by omega)
                  refine va_lald (t0 := 1) hx hb hK hP 8 (ha := rfl) (ht := rfl) (I_in (by omega) (by omega)) dX2_add_107 ?_
                  refine lv_topl (fun w34 ew34 => ?_)
                  refine va_last (t0 := 1) hx hb hK hP hD hS 8 (ha := rfl) (ht := rfl) (I_in (by omega) (by omega)) dX2_add_108 (fun H locs hP hD hS => ?_)
                  have hP : va_P (dC, dI) vwCl [(gd, .inl (cI, 28, .inl gdf)), (gh, .inr (0, [.ref gha, .ref ghb])), (gha, .inl (cI, 28, .inl ghaf)), (ghb, .inl (cI, 28, .inl ghbf)), (gm, .inl (cI, 28, .inl gmf_3)), (r, .inr (3, [.ref rt, .int rsz])), (rt, .inl (cI, 12, .inl rf)), (g, .inr (2, [.ref gh, .ref gr, .ref gl, .ref gk, .ref gd, .ref gm, .int gsz, .int gcn, .int gov])), (gr, .inl (cJ, 300, .inr (.inl (vp_updL grf_71 L5_71.toNatClampNeg w34)))), (gl, .inl (cI, 300, .inl glf_71)), (gk, .inl (cI, 300, .inl gkf_71))] H := hP
                  have hD : va_D A [(gd, .inl (cI, 28, .inl gdf)), (gh, .inr (0, [.ref gha, .ref ghb])), (gha, .inl (cI, 28, .inl ghaf)), (ghb, .inl (cI, 28, .inl ghbf)), (gm, .inl (cI, 28, .inl gmf_3)), (r, .inr (3, [.ref rt, .int rsz])), (rt, .inl (cI, 12, .inl rf)), (g, .inr (2, [.ref gh, .ref gr, .ref gl, .ref gk, .ref gd, .ref gm, .int gsz, .int gcn, .int gov])), (gr, .inl (cJ, 300, .inr (.inl (vp_updL grf_71 L5_71.toNatClampNeg w34)))), (gl, .inl (cI, 300, .inl glf_71)), (gk, .inl (cI, 300, .inl gkf_71))] := hD
                  generalize ef35 : vp_updL grf_71 L5_71.toNatClampNeg w34 = f35 at hP hD
                  refine lv_aload_n hx hb dX2_add_109 rfl (lv_at hl 3 rfl) ?_
                  refine va_get (D := (dC, dI)) (ci := 2) (v := .ref gl) (C := RX2) (T := TX2) (N := 9) hx hb hts inG_X2 hown hK hP 7 rfl rfl 2 (by decide) (hts _ fl_X2_22) (fun _ h9 => h9) rfl dX2_add_110 ?_
                  refine lv_iload hx hb dX2_add_113 (lv_at hl 0 rfl) ?_
                  refine lv_aload_n hx hb dX2_add_115 rfl (lv_at hl 3 rfl) ?_
                  refine va_get (D := (dC, dI)) (ci := 2) (v := .ref gl) (C := RX2) (T := TX2) (N := 9) hx hb hts inG_X2 hown hK hP 7 rfl rfl 2 (by decide) (hts _ fl_X2_22) (fun _ h9 => h9) rfl dX2_add_116 ?_
                  refine lv_iload hx hb dX2_add_119 (lv_at hl 0 rfl) ?_
                  refine lv_iconst (v := 1) hx hb dX2_add_121 (by decide) ?_
                  refine lv_isub hx hb dX2_add_122 ?_
                  refine lv_topi (fun v36 ev36 => ?_)
                  try have hv36 : v36.toInt = L5_71.toInt - (1 : Int32).toInt := I_subx ev36 (by omega)
                  refine va_iald (t0 := 0) hx hb hK hP 9 (ha := rfl) (ht := rfl) (I_in (by omega) (by omega)) dX2_add_123 ?_
                  refine lv_topi (fun v37 ev37 => ?_)
                  refine va_iast (t0 := 0) hx hb hK hP hD hS 9 (ha := rfl) (ht := rfl) (I_in (by omega) (by omega)) dX2_add_124 (fun H locs hP hD hS => ?_)
                  have hP : va_P (dC, dI) vwCl [(gd, .inl (cI, 28, .inl gdf)), (gh, .inr (0, [.ref gha, .ref ghb])), (gha, .inl (cI, 28, .inl ghaf)), (ghb, .inl (cI, 28, .inl ghbf)), (gm, .inl (cI, 28, .inl gmf_3)), (r, .inr (3, [.ref rt, .int rsz])), (rt, .inl (cI, 12, .inl rf)), (g, .inr (2, [.ref gh, .ref gr, .ref gl, .ref gk, .ref gd, .ref gm, .int gsz, .int gcn, .int gov])), (gr, .inl (cJ, 300, .inr (.inl f35))), (gl, .inl (cI, 300, .inl (upd glf_71 L5_71.toNatClampNeg v37))), (gk, .inl (cI, 300, .inl gkf_71))] H := hP
                  have hD : va_D A [(gd, .inl (cI, 28, .inl gdf)), (gh, .inr (0, [.ref gha, .ref ghb])), (gha, .inl (cI, 28, .inl ghaf)), (ghb, .inl (cI, 28, .inl ghbf)), (gm, .inl (cI, 28, .inl gmf_3)), (r, .inr (3, [.ref rt, .int rsz])), (rt, .inl (cI, 12, .inl rf)), (g, .inr (2, [.ref gh, .ref gr, .ref gl, .ref gk, .ref gd, .ref gm, .int gsz, .int gcn, .int gov])), (gr, .inl (cJ, 300, .inr (.inl f35))), (gl, .inl (cI, 300, .inl (upd glf_71 L5_71.toNatClampNeg v37))), (gk, .inl (cI, 300, .inl gkf_71))] := hD
                  generalize ef38 : upd glf_71 L5_71.toNatClampNeg v37 = f38 at hP hD
                  refine lv_aload_n hx hb dX2_add_125 rfl (lv_at hl 3 rfl) ?_
                  refine va_get (D := (dC, dI)) (ci := 2) (v := .ref gk) (C := RX2) (T := TX2) (N := 9) hx hb hts inG_X2 hown hK hP 7 rfl rfl 3 (by decide) (hts _ fl_X2_26) (fun _ h9 => h9) rfl dX2_add_126 ?_
                  refine lv_iload hx hb dX2_add_129 (lv_at hl 0 rfl) ?_
                  refine lv_aload_n hx hb dX2_add_131 rfl (lv_at hl 3 rfl) ?_
                  refine va_get (D := (dC, dI)) (ci := 2) (v := .ref gk) (C := RX2) (T := TX2) (N := 9) hx hb hts inG_X2 hown hK hP 7 rfl rfl 3 (by decide) (hts _ fl_X2_26) (fun _ h9 => h9) rfl dX2_add_132 ?_
                  refine lv_iload hx hb dX2_add_135 (lv_at hl 0 rfl) ?_
                  refine lv_iconst (v := 1) hx hb dX2_add_137 (by decide) ?_
                  refine lv_isub hx hb dX2_add_138 ?_
                  refine lv_topi (fun v39 ev39 => ?_)
                  try have hv39 : v39.toInt = L5_71.toInt - (1 : Int32).toInt := I_subx ev39 (by omega)
                  refine va_iald (t0 := 0) hx hb hK hP 10 (ha := rfl) (ht := rfl) (I_in (by omega) (by omega)) dX2_add_139 ?_
                  refine lv_topi (fun v40 ev40 => ?_)
                  refine va_iast (t0 := 0) hx hb hK hP hD hS 10 (ha := rfl) (ht := rfl) (I_in (by omega) (by omega)) dX2_add_140 (fun H locs hP hD hS => ?_)
                  have hP : va_P (dC, dI) vwCl [(gd, .inl (cI, 28, .inl gdf)), (gh, .inr (0, [.ref gha, .ref ghb])), (gha, .inl (cI, 28, .inl ghaf)), (ghb, .inl (cI, 28, .inl ghbf)), (gm, .inl (cI, 28, .inl gmf_3)), (r, .inr (3, [.ref rt, .int rsz])), (rt, .inl (cI, 12, .inl rf)), (g, .inr (2, [.ref gh, .ref gr, .ref gl, .ref gk, .ref gd, .ref gm, .int gsz, .int gcn, .int gov])), (gr, .inl (cJ, 300, .inr (.inl f35))), (gl, .inl (cI, 300, .inl f38)), (gk, .inl (cI, 300, .inl (upd gkf_71 L5_71.toNatClampNeg v40)))] H := hP
                  have hD : va_D A [(gd, .inl (cI, 28, .inl gdf)), (gh, .inr (0, [.ref gha, .ref ghb])), (gha, .inl (cI, 28, .inl ghaf)), (ghb, .inl (cI, 28, .inl ghbf)), (gm, .inl (cI, 28, .inl gmf_3)), (r, .inr (3, [.ref rt, .int rsz])), (rt, .inl (cI, 12, .inl rf)), (g, .inr (2, [.ref gh, .ref gr, .ref gl, .ref gk, .ref gd, .ref gm, .int gsz, .int gcn, .int gov])), (gr, .inl (cJ, 300, .inr (.inl f35))), (gl, .inl (cI, 300, .inl f38)), (gk, .inl (cI, 300, .inl (upd gkf_71 L5_71.toNatClampNeg v40)))] := hD
                  generalize ef41 : upd gkf_71 L5_71.toNatClampNeg v40 = f41 at hP hD
                  obtain ⟨v42, ev42⟩ : ∃ y : Int32, y = L5_71 + (-1) := ⟨_, rfl⟩
                  try have hv42 : v42.toInt = L5_71.toInt + (-1 : Int32).toInt := I_addx ev42 (by omega)
                  refine lv_iinc (v := v42) (lv' := [(5, .int v42), (3, .long L3_38), (2, .int r4), (0, .ref g), (1, .ref r)]) hx hb dX2_add_141 hl (k := 0) rfl (by rw [ev42]; rfl) (by decide) rfl (fun ls hl => ?_)
                  refine lv_goto (tgt := 71) hx hb dX2_add_144 (by decide) ?_
                  exact ih71 v42 f35 f38 f41 (by first | assumption | omega) (by omega) H locs ls (hP.sub (ws' := [(gr, .inl (cJ, 300, .inr (.inl f35))), (gl, .inl (cI, 300, .inl f38)), (gk, .inl (cI, 300, .inl f41)), (g, .inr (2, [.ref gh, .ref gr, .ref gl, .ref gk, .ref gd, .ref gm, .int gsz, .int gcn, .int gov])), (gd, .inl (cI, 28, .inl gdf)), (gh, .inr (0, [.ref gha, .ref ghb])), (gha, .inl (cI, 28, .inl ghaf)), (ghb, .inl (cI, 28, .inl ghbf)), (gm, .inl (cI, 28, .inl gmf_3)), (r, .inr (3, [.ref rt, .int rsz])), (rt, .inl (cI, 12, .inl rf))]) [8, 9, 10, 7, 0, 1, 2, 3, 4, 5, 6] rfl) (hD.sub (ws' := [(gr, .inl (cJ, 300, .inr (.inl f35))), (gl, .inl (cI, 300, .inl f38)), (gk, .inl (cI, 300, .inl f41)), (g, .inr (2, [.ref gh, .ref gr, .ref gl, .ref gk, .ref gd, .ref gm, .int gsz, .int gcn, .int gov])), (gd, .inl (cI, 28, .inl gdf)), (gh, .inr (0, [.ref gha, .ref ghb])), (gha, .inl (cI, 28, .inl ghaf)), (ghb, .inl (cI, 28, .inl ghbf)), (gm, .inl (cI, 28, .inl gmf_3)), (r, .inr (3, [.ref rt, .int rsz])), (rt, .inl (cI, 12, .inl rf))]) [8, 9, 10, 7, 0, 1, 2, 3, 4, 5, 6] (by decide) rfl) hS hl
          exact J71 ((gsz.toInt).toNat + 1) gsz grf glf gkf (by first | assumption | omega) (by omega) H locs ls hP hD hS hl
        · have c9' := I_nle c9
          refine lv_lload_n hx hb dX2_add_47 rfl (lv_at hl 1 rfl) ?_
          refine lv_iconst (v := 5) hx hb dX2_add_48 (by decide) ?_
          obtain ⟨w43, ew43⟩ : ∃ z : Int64, L3_38 <<< (Int32.toInt64 5 &&& 63) = z := ⟨_, rfl⟩
          refine lv_lshl (v := w43) hx hb dX2_add_49 ew43 ?_
          refine lv_aload_n hx hb dX2_add_50 rfl (lv_at hl 4 rfl) ?_
          refine lv_iload hx hb dX2_add_51 (lv_at hl 0 rfl) ?_
          refine calI (rest := [.long w43]) (wr := [(gr, .inl (cJ, 300, .inr (.inl grf))), (gl, .inl (cI, 300, .inl glf)), (gk, .inl (cI, 300, .inl gkf)), (g, .inr (2, [.ref gh, .ref gr, .ref gl, .ref gk, .ref gd, .ref gm, .int gsz, .int gcn, .int gov])), (gd, .inl (cI, 28, .inl gdf)), (gh, .inr (0, [.ref gha, .ref ghb])), (gha, .inl (cI, 28, .inl ghaf)), (ghb, .inl (cI, 28, .inl ghbf)), (gm, .inl (cI, 28, .inl gmf_3))]) hG (c_X4_at l dC dI cI cJ base bB bO r rt rsz rf L5_38 (by first | assumption | omega) (by first | assumption | omega)) ml_X2_75 im_X4_at se_X4_at ini_X4 cd_X4_at hd_X4_at ⟨(Nat.le_of_ble_eq_true rfl), (Nat.le_of_ble_eq_true rfl)⟩ (Nat.le_of_ble_eq_true rfl) (Nat.le_of_ble_eq_true rfl) hP hD hS [9, 10] [0, 1, 2, 3, 4, 5, 6, 7, 8] rfl rfl rfl rfl (by decide) 3 9 rfl rfl hl.1 rfl (Nat.le_of_ble_eq_true rfl) dX2_add_53 (fun r44 u H locs hw45 hP hD hS => ?_)
          have hw45 : (r44 = atf rf rsz L5_38) ∧ (-1 ≤ r44.toInt ∧ r44.toInt ≤ 31) ∧ True := hw45
          obtain ⟨hp46, hp47, -⟩ := hw45
          have hp46t := I_eq hp46
          have hP : va_P (dC, dI) vwCl [(gr, .inl (cJ, 300, .inr (.inl grf))), (gl, .inl (cI, 300, .inl glf)), (gk, .inl (cI, 300, .inl gkf)), (g, .inr (2, [.ref gh, .ref gr, .ref gl, .ref gk, .ref gd, .ref gm, .int gsz, .int gcn, .int gov])), (gd, .inl (cI, 28, .inl gdf)), (gh, .inr (0, [.ref gha, .ref ghb])), (gha, .inl (cI, 28, .inl ghaf)), (ghb, .inl (cI, 28, .inl ghbf)), (gm, .inl (cI, 28, .inl gmf_3)), (r, .inr (3, [.ref rt, .int rsz])), (rt, .inl (cI, 12, .inl rf))] H := hP
          have hD : va_D A [(gr, .inl (cJ, 300, .inr (.inl grf))), (gl, .inl (cI, 300, .inl glf)), (gk, .inl (cI, 300, .inl gkf)), (g, .inr (2, [.ref gh, .ref gr, .ref gl, .ref gk, .ref gd, .ref gm, .int gsz, .int gcn, .int gov])), (gd, .inl (cI, 28, .inl gdf)), (gh, .inr (0, [.ref gha, .ref ghb])), (gha, .inl (cI, 28, .inl ghaf)), (ghb, .inl (cI, 28, .inl ghbf)), (gm, .inl (cI, 28, .inl gmf_3)), (r, .inr (3, [.ref rt, .int rsz])), (rt, .inl (cI, 12, .inl rf))] := hD
          obtain ⟨w48, ew48⟩ : ∃ z : Int64, Int32.toInt64 r44 = z := ⟨_, rfl⟩
          have hw48 := J_of r44
          rw [ew48] at hw48
          refine lv_i2l (v := w48) hx hb dX2_add_56 ew48 ?_
          refine lv_lor hx hb dX2_add_57 ?_
          refine lv_topl (fun w49 ew49 => ?_)
          refine lv_lstore_n (lv' := [(3, .long w49), (5, .int L5_38), (2, .int r4), (0, .ref g), (1, .ref r)]) hx hb dX2_add_58 rfl hl (by decide) rfl (fun ls hl => ?_)
          obtain ⟨v50, ev50⟩ : ∃ y : Int32, y = L5_38 + 1 := ⟨_, rfl⟩
          try have hv50 : v50.toInt = L5_38.toInt + (1 : Int32).toInt := I_addx ev50 (by omega)
          refine lv_iinc (v := v50) (lv' := [(5, .int v50), (3, .long w49), (2, .int r4), (0, .ref g), (1, .ref r)]) hx hb dX2_add_59 hl (k := 1) rfl (by rw [ev50]; rfl) (by decide) rfl (fun ls hl => ?_)
          refine lv_goto (tgt := 38) hx hb dX2_add_62 (by decide) ?_
          exact ih38 v50 w49 (by first | assumption | omega) (by omega) H locs ls (hP.sub (ws' := [(gr, .inl (cJ, 300, .inr (.inl grf))), (gl, .inl (cI, 300, .inl glf)), (gk, .inl (cI, 300, .inl gkf)), (g, .inr (2, [.ref gh, .ref gr, .ref gl, .ref gk, .ref gd, .ref gm, .int gsz, .int gcn, .int gov])), (gd, .inl (cI, 28, .inl gdf)), (r, .inr (3, [.ref rt, .int rsz])), (rt, .inl (cI, 12, .inl rf)), (gh, .inr (0, [.ref gha, .ref ghb])), (gha, .inl (cI, 28, .inl ghaf)), (ghb, .inl (cI, 28, .inl ghbf)), (gm, .inl (cI, 28, .inl gmf_3))]) [0, 1, 2, 3, 4, 9, 10, 5, 6, 7, 8] rfl) (hD.sub (ws' := [(gr, .inl (cJ, 300, .inr (.inl grf))), (gl, .inl (cI, 300, .inl glf)), (gk, .inl (cI, 300, .inl gkf)), (g, .inr (2, [.ref gh, .ref gr, .ref gl, .ref gk, .ref gd, .ref gm, .int gsz, .int gcn, .int gov])), (gd, .inl (cI, 28, .inl gdf)), (r, .inr (3, [.ref rt, .int rsz])), (rt, .inl (cI, 12, .inl rf)), (gh, .inr (0, [.ref gha, .ref ghb])), (gha, .inl (cI, 28, .inl ghaf)), (ghb, .inl (cI, 28, .inl ghbf)), (gm, .inl (cI, 28, .inl gmf_3))]) [0, 1, 2, 3, 4, 9, 10, 5, 6, 7, 8] (by decide) rfl) hS hl
    exact J38 ((12 - (0 : Int32).toInt).toNat + 1) 0 0 (by first | assumption | omega) (by omega) H locs ls hP hD hS hl
  · have c1' := I_nlt c1
    refine lv_aload_n hx hb dX2_add_10 rfl (lv_at hl 0 rfl) ?_
    refine lv_iconst (v := 1) hx hb dX2_add_11 (by decide) ?_
    refine va_put (D := (dC, dI)) (ci := 2) (v := .int 1) (ty := .boolean) (C := RX2) (T := TX2) (N := 9) hx hb hts inG_X2 tyX2 tyX2_ok nmX2 hown hK hP hD hS 0 rfl rfl 8 (by decide) (hts _ fl_X2_42) (fun _ h9 => h9) rfl (by decide +kernel) (by first | rfl | exact I_narz (by omega)) rfl (Nat.le_of_ble_eq_true rfl) dX2_add_12 (fun H locs hP hD hS => ?_)
    have hP : va_P (dC, dI) vwCl [(g, .inr (2, [.ref gh, .ref gr, .ref gl, .ref gk, .ref gd, .ref gm, .int gsz, .int gcn, .int 1])), (gh, .inr (0, [.ref gha, .ref ghb])), (gha, .inl (cI, 28, .inl ghaf)), (ghb, .inl (cI, 28, .inl ghbf)), (gr, .inl (cJ, 300, .inr (.inl grf))), (gl, .inl (cI, 300, .inl glf)), (gk, .inl (cI, 300, .inl gkf)), (gd, .inl (cI, 28, .inl gdf)), (gm, .inl (cI, 28, .inl gmf)), (r, .inr (3, [.ref rt, .int rsz])), (rt, .inl (cI, 12, .inl rf))] H := hP
    have hD : va_D A [(g, .inr (2, [.ref gh, .ref gr, .ref gl, .ref gk, .ref gd, .ref gm, .int gsz, .int gcn, .int 1])), (gh, .inr (0, [.ref gha, .ref ghb])), (gha, .inl (cI, 28, .inl ghaf)), (ghb, .inl (cI, 28, .inl ghbf)), (gr, .inl (cJ, 300, .inr (.inl grf))), (gl, .inl (cI, 300, .inl glf)), (gk, .inl (cI, 300, .inl gkf)), (gd, .inl (cI, 28, .inl gdf)), (gm, .inl (cI, 28, .inl gmf)), (r, .inr (3, [.ref rt, .int rsz])), (rt, .inl (cI, 12, .inl rf))] := hD
    exact hret (gsz, 1, grf, glf, gkf, gmf) H locs 15 ls ⟨(show 0 ≤ gsz.toInt ∧ gsz.toInt ≤ 300 from by first | rfl | assumption | omega), (show (1 : Int32).toInt = 0 ∨ (1 : Int32).toInt = 1 from by first | rfl | assumption | omega), trivial⟩ hP hD hS dX2_add_15
