set_option maxHeartbeats 4000000 in
set_option maxRecDepth 100000 in
theorem c_X8_refuse (l : Launch) (dC : Nat → ClassId) (dI : Nat → Nat → Nat) (cI cJ : ClassId) (base bB bO : Nat) (x0 : Nat) (pg : Nat) (sr : Nat) (inp : Nat) (se : Nat) (so : Nat) (j0 : Nat) (g : Nat) (q0 : Nat) (xr : Int32) (x : Int32)  : CtI l dC dI cI cJ base bB bO yX8_refuse cX8_refuse 2 .int 0 0 [.ref x0, .int x] [(x0, .inr (7, [.ref pg, .ref sr, .ref inp, .ref se, .ref so, .ref j0, .ref g, .ref q0, .int xr]))] ((Int32)) (fun (res : Int32) (u : (Int32)) => (res = x) ∧ (u = x) ∧ True) (fun (u : (Int32)) => [(x0, .inr (7, [.ref pg, .ref sr, .ref inp, .ref se, .ref so, .ref j0, .ref g, .ref q0, .int u]))]) := by
  refine entI (by decide) (Nat.le_of_ble_eq_true rfl) ?_
  intro p e s m below meth c A Q ls hAt hret hP hD hS hl
  obtain ⟨hx, hb, hml, hown, hts, hA, hAb, hK, hE, hlocks, hin⟩ := hAt
  have hG : CG dC dI cI cJ base bB bO cX8_refuse 2 RX8 p s m (List.toArray [.ref x0, .int x]) c A := ⟨hx, hb, hml, hown, hts, hA, hAb, hK, hE⟩
  have hl : lv_has ls 2 [(0, .ref x0), (1, .int x)] := hl
  have c_0 : (0 : Int32).toInt = 0 := by decide
  have c_1 : (1 : Int32).toInt = 1 := by decide
  obtain ⟨H, hHe⟩ : ∃ H : Heap, H = s.heap := ⟨_, rfl⟩
  obtain ⟨locs, hle⟩ : ∃ z : List Loc, z = [] := ⟨_, rfl⟩
  rw [← hHe] at hP
  have hS : va_S A s.heap H locs := by rw [hHe, hle]; exact hS
  suffices hgo : W p l e { frames := 0, cells := 0, slots := 0, locals := 0 } s m (List.toArray [.ref x0, .int x]) below meth c H locs 0 0 Q (F0 m 0 ls []) by rw [hHe, hle] at hgo; exact hgo
  refine lv_aload_n hx hb dX8_refuse_0 rfl (lv_at hl 0 rfl) ?_
  refine lv_iload_n hx hb dX8_refuse_1 rfl (lv_at hl 1 rfl) ?_
  refine va_put (D := (dC, dI)) (ci := 7) (v := .int x) (ty := .int) (C := RX8) (T := TX8) (N := 9) hx hb hts inG_X8 tyX8 tyX8_ok nmX8 hown hK hP hD hS 0 rfl rfl 8 (by decide) (hts _ fl_X8_54) (fun _ h9 => h9) rfl (by decide +kernel) rfl rfl (Nat.le_of_ble_eq_true rfl) dX8_refuse_2 (fun H locs hP hD hS => ?_)
  have hP : va_P (dC, dI) vwCl [(x0, .inr (7, [.ref pg, .ref sr, .ref inp, .ref se, .ref so, .ref j0, .ref g, .ref q0, .int x]))] H := hP
  have hD : va_D A [(x0, .inr (7, [.ref pg, .ref sr, .ref inp, .ref se, .ref so, .ref j0, .ref g, .ref q0, .int x]))] := hD
  refine lv_iload_n hx hb dX8_refuse_5 rfl (lv_at hl 1 rfl) ?_
  exact hret x x H locs 6 ls rfl ⟨(show x = x from by first | rfl | assumption | omega), (show x = x from by first | rfl | assumption | omega), trivial⟩ hP hD hS dX8_refuse_6
set_option maxHeartbeats 4000000 in
set_option maxRecDepth 100000 in
theorem c_X8_accept (l : Launch) (dC : Nat → ClassId) (dI : Nat → Nat → Nat) (cI cJ : ClassId) (base bB bO : Nat) (x0 : Nat) (pg : Nat) (sr : Nat) (inp : Nat) (se : Nat) (so : Nat) (j0 : Nat) (g : Nat) (q0 : Nat) (xr : Int32) (x : Int32)  : CtI l dC dI cI cJ base bB bO yX8_accept cX8_accept 2 .int 0 0 [.ref x0, .int x] [(x0, .inr (7, [.ref pg, .ref sr, .ref inp, .ref se, .ref so, .ref j0, .ref g, .ref q0, .int xr]))] ((Int32)) (fun (res : Int32) (u : (Int32)) => (res = x) ∧ (u.toInt = 0) ∧ True) (fun (u : (Int32)) => [(x0, .inr (7, [.ref pg, .ref sr, .ref inp, .ref se, .ref so, .ref j0, .ref g, .ref q0, .int u]))]) := by
  refine entI (by decide) (Nat.le_of_ble_eq_true rfl) ?_
  intro p e s m below meth c A Q ls hAt hret hP hD hS hl
  obtain ⟨hx, hb, hml, hown, hts, hA, hAb, hK, hE, hlocks, hin⟩ := hAt
  have hG : CG dC dI cI cJ base bB bO cX8_accept 2 RX8 p s m (List.toArray [.ref x0, .int x]) c A := ⟨hx, hb, hml, hown, hts, hA, hAb, hK, hE⟩
  have hl : lv_has ls 2 [(0, .ref x0), (1, .int x)] := hl
  have c_0 : (0 : Int32).toInt = 0 := by decide
  have c_1 : (1 : Int32).toInt = 1 := by decide
  obtain ⟨H, hHe⟩ : ∃ H : Heap, H = s.heap := ⟨_, rfl⟩
  obtain ⟨locs, hle⟩ : ∃ z : List Loc, z = [] := ⟨_, rfl⟩
  rw [← hHe] at hP
  have hS : va_S A s.heap H locs := by rw [hHe, hle]; exact hS
  suffices hgo : W p l e { frames := 0, cells := 0, slots := 0, locals := 0 } s m (List.toArray [.ref x0, .int x]) below meth c H locs 0 0 Q (F0 m 0 ls []) by rw [hHe, hle] at hgo; exact hgo
  refine lv_aload_n hx hb dX8_accept_0 rfl (lv_at hl 0 rfl) ?_
  refine lv_iconst (v := 0) hx hb dX8_accept_1 (by decide) ?_
  refine va_put (D := (dC, dI)) (ci := 7) (v := .int 0) (ty := .int) (C := RX8) (T := TX8) (N := 9) hx hb hts inG_X8 tyX8 tyX8_ok nmX8 hown hK hP hD hS 0 rfl rfl 8 (by decide) (hts _ fl_X8_54) (fun _ h9 => h9) rfl (by decide +kernel) rfl rfl (Nat.le_of_ble_eq_true rfl) dX8_accept_2 (fun H locs hP hD hS => ?_)
  have hP : va_P (dC, dI) vwCl [(x0, .inr (7, [.ref pg, .ref sr, .ref inp, .ref se, .ref so, .ref j0, .ref g, .ref q0, .int 0]))] H := hP
  have hD : va_D A [(x0, .inr (7, [.ref pg, .ref sr, .ref inp, .ref se, .ref so, .ref j0, .ref g, .ref q0, .int 0]))] := hD
  refine lv_iload_n hx hb dX8_accept_5 rfl (lv_at hl 1 rfl) ?_
  exact hret x 0 H locs 6 ls rfl ⟨(show x = x from by first | rfl | assumption | omega), (show (0 : Int32).toInt = 0 from by first | rfl | assumption | omega), trivial⟩ hP hD hS dX8_accept_6
set_option maxHeartbeats 4000000 in
set_option maxRecDepth 100000 in
theorem c_X8_isKind (l : Launch) (dC : Nat → ClassId) (dI : Nat → Nat → Nat) (cI cJ : ClassId) (base bB bO : Nat) (x : Int32)  : CtI l dC dI cI cJ base bB bO yX8_isKind cX8_isKind 1 .boolean 0 0 [.int x] [] (Unit) (fun (res : Int32) (u : Unit) => ((res.toInt = 1 ∧ 0 ≤ x.toInt ∧ x.toInt ≤ 1) ∨ (res.toInt = 0 ∧ (x.toInt < 0 ∨ 1 < x.toInt))) ∧ True) (fun (u : Unit) => []) := by
  refine entI (by decide) (Nat.le_of_ble_eq_true rfl) ?_
  intro p e s m below meth c A Q ls hAt hret hP hD hS hl
  obtain ⟨hx, hb, hml, hown, hts, hA, hAb, hK, hE, hlocks, hin⟩ := hAt
  have hG : CG dC dI cI cJ base bB bO cX8_isKind 1 RX8 p s m (List.toArray [.int x]) c A := ⟨hx, hb, hml, hown, hts, hA, hAb, hK, hE⟩
  have hl : lv_has ls 1 [(0, .int x)] := hl
  have c_0 : (0 : Int32).toInt = 0 := by decide
  have c_1 : (1 : Int32).toInt = 1 := by decide
  obtain ⟨H, hHe⟩ : ∃ H : Heap, H = s.heap := ⟨_, rfl⟩
  obtain ⟨locs, hle⟩ : ∃ z : List Loc, z = [] := ⟨_, rfl⟩
  rw [← hHe] at hP
  have hS : va_S A s.heap H locs := by rw [hHe, hle]; exact hS
  suffices hgo : W p l e { frames := 0, cells := 0, slots := 0, locals := 0 } s m (List.toArray [.int x]) below meth c H locs 0 0 Q (F0 m 0 ls []) by rw [hHe, hle] at hgo; exact hgo
  refine lv_iload_n hx hb dX8_isKind_0 rfl (lv_at hl 0 rfl) ?_
  refine lv_if_eq (tgt := 9) hx hb dX8_isKind_1 (by decide) (fun c1 => ?_) (fun c1 => ?_)
  · have c1' := I_eq c1
    refine lv_iconst (v := 1) hx hb dX8_isKind_9 (by decide) ?_
    refine lv_goto (tgt := 14) hx hb dX8_isKind_10 (by decide) ?_
    exact hret 1 () H locs 14 ls (by first | rfl | exact I_narz (by omega)) ⟨(show ((1 : Int32).toInt = 1 ∧ 0 ≤ x.toInt ∧ x.toInt ≤ 1) ∨ ((1 : Int32).toInt = 0 ∧ (x.toInt < 0 ∨ 1 < x.toInt)) from by first | rfl | assumption | omega), trivial⟩ hP hD hS dX8_isKind_14
  · have c1' := I_ne c1
    refine lv_iload_n hx hb dX8_isKind_4 rfl (lv_at hl 0 rfl) ?_
    refine lv_iconst (v := 1) hx hb dX8_isKind_5 (by decide) ?_
    refine lv_icmp_ne (tgt := 13) hx hb dX8_isKind_6 (by decide) (fun c2 => ?_) (fun c2 => ?_)
    · have c2' := I_ne c2
      refine lv_iconst (v := 0) hx hb dX8_isKind_13 (by decide) ?_
      exact hret 0 () H locs 14 ls (by first | rfl | exact I_narz (by omega)) ⟨(show ((0 : Int32).toInt = 1 ∧ 0 ≤ x.toInt ∧ x.toInt ≤ 1) ∨ ((0 : Int32).toInt = 0 ∧ (x.toInt < 0 ∨ 1 < x.toInt)) from by first | rfl | assumption | omega), trivial⟩ hP hD hS dX8_isKind_14
    · have c2' := I_eq c2
      refine lv_iconst (v := 1) hx hb dX8_isKind_9 (by decide) ?_
      refine lv_goto (tgt := 14) hx hb dX8_isKind_10 (by decide) ?_
      exact hret 1 () H locs 14 ls (by first | rfl | exact I_narz (by omega)) ⟨(show ((1 : Int32).toInt = 1 ∧ 0 ≤ x.toInt ∧ x.toInt ≤ 1) ∨ ((1 : Int32).toInt = 0 ∧ (x.toInt < 0 ∨ 1 < x.toInt)) from by first | rfl | assumption | omega), trivial⟩ hP hD hS dX8_isKind_14
set_option maxHeartbeats 4000000 in
set_option maxRecDepth 100000 in
theorem c_X8_isInput (l : Launch) (dC : Nat → ClassId) (dI : Nat → Nat → Nat) (cI cJ : ClassId) (base bB bO : Nat) (x : Int32)  : CtI l dC dI cI cJ base bB bO yX8_isInput cX8_isInput 1 .boolean 0 0 [.int x] [] (Unit) (fun (res : Int32) (u : Unit) => ((res.toInt = 1 ∧ -100 ≤ x.toInt ∧ x.toInt ≤ 100) ∨ (res.toInt = 0 ∧ (x.toInt < -100 ∨ 100 < x.toInt))) ∧ True) (fun (u : Unit) => []) := by
  refine entI (by decide) (Nat.le_of_ble_eq_true rfl) ?_
  intro p e s m below meth c A Q ls hAt hret hP hD hS hl
  obtain ⟨hx, hb, hml, hown, hts, hA, hAb, hK, hE, hlocks, hin⟩ := hAt
  have hG : CG dC dI cI cJ base bB bO cX8_isInput 1 RX8 p s m (List.toArray [.int x]) c A := ⟨hx, hb, hml, hown, hts, hA, hAb, hK, hE⟩
  have hl : lv_has ls 1 [(0, .int x)] := hl
  have c_m100 : (-100 : Int32).toInt = -100 := by decide
  have c_0 : (0 : Int32).toInt = 0 := by decide
  have c_1 : (1 : Int32).toInt = 1 := by decide
  have c_100 : (100 : Int32).toInt = 100 := by decide
  obtain ⟨H, hHe⟩ : ∃ H : Heap, H = s.heap := ⟨_, rfl⟩
  obtain ⟨locs, hle⟩ : ∃ z : List Loc, z = [] := ⟨_, rfl⟩
  rw [← hHe] at hP
  have hS : va_S A s.heap H locs := by rw [hHe, hle]; exact hS
  suffices hgo : W p l e { frames := 0, cells := 0, slots := 0, locals := 0 } s m (List.toArray [.int x]) below meth c H locs 0 0 Q (F0 m 0 ls []) by rw [hHe, hle] at hgo; exact hgo
  refine lv_iload_n hx hb dX8_isInput_0 rfl (lv_at hl 0 rfl) ?_
  refine lv_bipush (v := (-100)) hx hb dX8_isInput_1 (by decide) ?_
  refine lv_icmp_lt (tgt := 16) hx hb dX8_isInput_3 (by decide) (fun c1 => ?_) (fun c1 => ?_)
  · have c1' := I_lt c1
    refine lv_iconst (v := 0) hx hb dX8_isInput_16 (by decide) ?_
    exact hret 0 () H locs 17 ls (by first | rfl | exact I_narz (by omega)) ⟨(show ((0 : Int32).toInt = 1 ∧ -100 ≤ x.toInt ∧ x.toInt ≤ 100) ∨ ((0 : Int32).toInt = 0 ∧ (x.toInt < -100 ∨ 100 < x.toInt)) from by first | rfl | assumption | omega), trivial⟩ hP hD hS dX8_isInput_17
  · have c1' := I_nlt c1
    refine lv_iload_n hx hb dX8_isInput_6 rfl (lv_at hl 0 rfl) ?_
    refine lv_bipush (v := 100) hx hb dX8_isInput_7 (by decide) ?_
    refine lv_icmp_gt (tgt := 16) hx hb dX8_isInput_9 (by decide) (fun c2 => ?_) (fun c2 => ?_)
    · have c2' := I_lt c2
      refine lv_iconst (v := 0) hx hb dX8_isInput_16 (by decide) ?_
      exact hret 0 () H locs 17 ls (by first | rfl | exact I_narz (by omega)) ⟨(show ((0 : Int32).toInt = 1 ∧ -100 ≤ x.toInt ∧ x.toInt ≤ 100) ∨ ((0 : Int32).toInt = 0 ∧ (x.toInt < -100 ∨ 100 < x.toInt)) from by first | rfl | assumption | omega), trivial⟩ hP hD hS dX8_isInput_17
    · have c2' := I_nlt c2
      refine lv_iconst (v := 1) hx hb dX8_isInput_12 (by decide) ?_
      refine lv_goto (tgt := 17) hx hb dX8_isInput_13 (by decide) ?_
      exact hret 1 () H locs 17 ls (by first | rfl | exact I_narz (by omega)) ⟨(show ((1 : Int32).toInt = 1 ∧ -100 ≤ x.toInt ∧ x.toInt ≤ 100) ∨ ((1 : Int32).toInt = 0 ∧ (x.toInt < -100 ∨ 100 < x.toInt)) from by first | rfl | assumption | omega), trivial⟩ hP hD hS dX8_isInput_17
set_option maxHeartbeats 4000000 in
set_option maxRecDepth 100000 in
theorem c_X8_setInputs (l : Launch) (dC : Nat → ClassId) (dI : Nat → Nat → Nat) (cI cJ : ClassId) (base bB bO : Nat) (x0 : Nat) (pg : Nat) (sr : Nat) (inp : Nat) (se : Nat) (so : Nat) (j0 : Nat) (g : Nat) (q0 : Nat) (xr : Int32) (inpf : Nat → Int32) (i1 : Int32) (i2 : Int32) (i3 : Int32) (i4 : Int32)  : CtV l dC dI cI cJ base bB bO yX8_setInputs cX8_setInputs 5 0 0 0 0 [.ref x0, .int i1, .int i2, .int i3, .int i4] [(x0, .inr (7, [.ref pg, .ref sr, .ref inp, .ref se, .ref so, .ref j0, .ref g, .ref q0, .int xr])), (inp, .inl (cI, 4, .inl inpf))] ((Nat → Int32)) (fun (u : (Nat → Int32)) => True) (fun (u : (Nat → Int32)) => [(x0, .inr (7, [.ref pg, .ref sr, .ref inp, .ref se, .ref so, .ref j0, .ref g, .ref q0, .int xr])), (inp, .inl (cI, 4, .inl u))]) := by
  refine entV (by decide) (Nat.le_of_ble_eq_true rfl) ?_
  intro p e s m below meth c A Q ls hAt hret hP hD hS hl
  obtain ⟨hx, hb, hml, hown, hts, hA, hAb, hK, hE, hlocks, hin⟩ := hAt
  have hG : CG dC dI cI cJ base bB bO cX8_setInputs 5 RX8 p s m (List.toArray [.ref x0, .int i1, .int i2, .int i3, .int i4]) c A := ⟨hx, hb, hml, hown, hts, hA, hAb, hK, hE⟩
  have hl : lv_has ls 5 [(0, .ref x0), (1, .int i1), (2, .int i2), (3, .int i3), (4, .int i4)] := hl
  have c_0 : (0 : Int32).toInt = 0 := by decide
  have c_1 : (1 : Int32).toInt = 1 := by decide
  have c_2 : (2 : Int32).toInt = 2 := by decide
  have c_3 : (3 : Int32).toInt = 3 := by decide
  obtain ⟨H, hHe⟩ : ∃ H : Heap, H = s.heap := ⟨_, rfl⟩
  obtain ⟨locs, hle⟩ : ∃ z : List Loc, z = [] := ⟨_, rfl⟩
  rw [← hHe] at hP
  have hS : va_S A s.heap H locs := by rw [hHe, hle]; exact hS
  suffices hgo : W p l e { frames := 0, cells := 0, slots := 0, locals := 0 } s m (List.toArray [.ref x0, .int i1, .int i2, .int i3, .int i4]) below meth c H locs 0 0 Q (F0 m 0 ls []) by rw [hHe, hle] at hgo; exact hgo
  refine lv_aload_n hx hb dX8_setInputs_0 rfl (lv_at hl 0 rfl) ?_
  refine va_get (D := (dC, dI)) (ci := 7) (v := .ref inp) (C := RX8) (T := TX8) (N := 9) hx hb hts inG_X8 hown hK hP 0 rfl rfl 2 (by decide) (hts _ fl_X8_19) (fun _ h9 => h9) rfl dX8_setInputs_1 ?_
  refine lv_iconst (v := 0) hx hb dX8_setInputs_4 (by decide) ?_
  refine lv_iload_n hx hb dX8_setInputs_5 rfl (lv_at hl 1 rfl) ?_
  refine va_iast (t0 := 0) hx hb hK hP hD hS 1 (ha := rfl) (ht := rfl) (I_in (by omega) (by omega)) dX8_setInputs_6 (fun H locs hP hD hS => ?_)
  have hP : va_P (dC, dI) vwCl [(x0, .inr (7, [.ref pg, .ref sr, .ref inp, .ref se, .ref so, .ref j0, .ref g, .ref q0, .int xr])), (inp, .inl (cI, 4, .inl (upd inpf (0 : Int32).toNatClampNeg i1)))] H := hP
  have hD : va_D A [(x0, .inr (7, [.ref pg, .ref sr, .ref inp, .ref se, .ref so, .ref j0, .ref g, .ref q0, .int xr])), (inp, .inl (cI, 4, .inl (upd inpf (0 : Int32).toNatClampNeg i1)))] := hD
  generalize ef1 : upd inpf (0 : Int32).toNatClampNeg i1 = f1 at hP hD
  refine lv_aload_n hx hb dX8_setInputs_7 rfl (lv_at hl 0 rfl) ?_
  refine va_get (D := (dC, dI)) (ci := 7) (v := .ref inp) (C := RX8) (T := TX8) (N := 9) hx hb hts inG_X8 hown hK hP 0 rfl rfl 2 (by decide) (hts _ fl_X8_19) (fun _ h9 => h9) rfl dX8_setInputs_8 ?_
  refine lv_iconst (v := 1) hx hb dX8_setInputs_11 (by decide) ?_
  refine lv_iload_n hx hb dX8_setInputs_12 rfl (lv_at hl 2 rfl) ?_
  refine va_iast (t0 := 0) hx hb hK hP hD hS 1 (ha := rfl) (ht := rfl) (I_in (by omega) (by omega)) dX8_setInputs_13 (fun H locs hP hD hS => ?_)
  have hP : va_P (dC, dI) vwCl [(x0, .inr (7, [.ref pg, .ref sr, .ref inp, .ref se, .ref so, .ref j0, .ref g, .ref q0, .int xr])), (inp, .inl (cI, 4, .inl (upd f1 (1 : Int32).toNatClampNeg i2)))] H := hP
  have hD : va_D A [(x0, .inr (7, [.ref pg, .ref sr, .ref inp, .ref se, .ref so, .ref j0, .ref g, .ref q0, .int xr])), (inp, .inl (cI, 4, .inl (upd f1 (1 : Int32).toNatClampNeg i2)))] := hD
  generalize ef2 : upd f1 (1 : Int32).toNatClampNeg i2 = f2 at hP hD
  refine lv_aload_n hx hb dX8_setInputs_14 rfl (lv_at hl 0 rfl) ?_
  refine va_get (D := (dC, dI)) (ci := 7) (v := .ref inp) (C := RX8) (T := TX8) (N := 9) hx hb hts inG_X8 hown hK hP 0 rfl rfl 2 (by decide) (hts _ fl_X8_19) (fun _ h9 => h9) rfl dX8_setInputs_15 ?_
  refine lv_iconst (v := 2) hx hb dX8_setInputs_18 (by decide) ?_
  refine lv_iload_n hx hb dX8_setInputs_19 rfl (lv_at hl 3 rfl) ?_
  refine va_iast (t0 := 0) hx hb hK hP hD hS 1 (ha := rfl) (ht := rfl) (I_in (by omega) (by omega)) dX8_setInputs_20 (fun H locs hP hD hS => ?_)
  have hP : va_P (dC, dI) vwCl [(x0, .inr (7, [.ref pg, .ref sr, .ref inp, .ref se, .ref so, .ref j0, .ref g, .ref q0, .int xr])), (inp, .inl (cI, 4, .inl (upd f2 (2 : Int32).toNatClampNeg i3)))] H := hP
  have hD : va_D A [(x0, .inr (7, [.ref pg, .ref sr, .ref inp, .ref se, .ref so, .ref j0, .ref g, .ref q0, .int xr])), (inp, .inl (cI, 4, .inl (upd f2 (2 : Int32).toNatClampNeg i3)))] := hD
  generalize ef3 : upd f2 (2 : Int32).toNatClampNeg i3 = f3 at hP hD
  refine lv_aload_n hx hb dX8_setInputs_21 rfl (lv_at hl 0 rfl) ?_
  refine va_get (D := (dC, dI)) (ci := 7) (v := .ref inp) (C := RX8) (T := TX8) (N := 9) hx hb hts inG_X8 hown hK hP 0 rfl rfl 2 (by decide) (hts _ fl_X8_19) (fun _ h9 => h9) rfl dX8_setInputs_22 ?_
  refine lv_iconst (v := 3) hx hb dX8_setInputs_25 (by decide) ?_
  refine lv_iload hx hb dX8_setInputs_26 (lv_at hl 4 rfl) ?_
  refine va_iast (t0 := 0) hx hb hK hP hD hS 1 (ha := rfl) (ht := rfl) (I_in (by omega) (by omega)) dX8_setInputs_28 (fun H locs hP hD hS => ?_)
  have hP : va_P (dC, dI) vwCl [(x0, .inr (7, [.ref pg, .ref sr, .ref inp, .ref se, .ref so, .ref j0, .ref g, .ref q0, .int xr])), (inp, .inl (cI, 4, .inl (upd f3 (3 : Int32).toNatClampNeg i4)))] H := hP
  have hD : va_D A [(x0, .inr (7, [.ref pg, .ref sr, .ref inp, .ref se, .ref so, .ref j0, .ref g, .ref q0, .int xr])), (inp, .inl (cI, 4, .inl (upd f3 (3 : Int32).toNatClampNeg i4)))] := hD
  generalize ef4 : upd f3 (3 : Int32).toNatClampNeg i4 = f4 at hP hD
  exact hret f4 H locs 29 ls trivial hP hD hS dX8_setInputs_29
set_option maxHeartbeats 4000000 in
set_option maxRecDepth 100000 in
theorem c_X8_put (l : Launch) (dC : Nat → ClassId) (dI : Nat → Nat → Nat) (cI cJ : ClassId) (base bB bO : Nat) (x0 : Nat) (pg : Nat) (sr : Nat) (inp : Nat) (se : Nat) (so : Nat) (j0 : Nat) (g : Nat) (q0 : Nat) (xr : Int32) (pgt : Nat) (pgsz : Int32) (pgf : Nat → Int32) (x : Int32) (hq0 : 0 ≤ pgsz.toInt ∧ pgsz.toInt ≤ 12) (hq1 : ∀ j : Nat, -1 ≤ (pgf j).toInt ∧ (pgf j).toInt ≤ 31) : CtI l dC dI cI cJ base bB bO yX8_put cX8_put 2 .int 1 21 [.ref x0, .int x] [(x0, .inr (7, [.ref pg, .ref sr, .ref inp, .ref se, .ref so, .ref j0, .ref g, .ref q0, .int xr])), (pg, .inr (3, [.ref pgt, .int pgsz])), (pgt, .inl (cI, 12, .inl pgf))] ((Int32) × (Nat → Int32) × (Int32)) (fun (res : Int32) (u : (Int32) × (Nat → Int32) × (Int32)) => (0 ≤ u.1.toInt ∧ u.1.toInt ≤ 12) ∧ (∀ j : Nat, -1 ≤ (u.2.1 j).toInt ∧ (u.2.1 j).toInt ≤ 31) ∧ True) (fun (u : (Int32) × (Nat → Int32) × (Int32)) => [(x0, .inr (7, [.ref pg, .ref sr, .ref inp, .ref se, .ref so, .ref j0, .ref g, .ref q0, .int u.2.2])), (pg, .inr (3, [.ref pgt, .int u.1])), (pgt, .inl (cI, 12, .inl u.2.1))]) := by
  refine entI (by decide) (Nat.le_of_ble_eq_true rfl) ?_
  intro p e s m below meth c A Q ls hAt hret hP hD hS hl
  obtain ⟨hx, hb, hml, hown, hts, hA, hAb, hK, hE, hlocks, hin⟩ := hAt
  have hG : CG dC dI cI cJ base bB bO cX8_put 2 RX8 p s m (List.toArray [.ref x0, .int x]) c A := ⟨hx, hb, hml, hown, hts, hA, hAb, hK, hE⟩
  have hl : lv_has ls 2 [(0, .ref x0), (1, .int x)] := hl
  have c_m5 : (-5 : Int32).toInt = -5 := by decide
  have c_m1 : (-1 : Int32).toInt = -1 := by decide
  have c_0 : (0 : Int32).toInt = 0 := by decide
  have c_1 : (1 : Int32).toInt = 1 := by decide
  have c_10 : (10 : Int32).toInt = 10 := by decide
  obtain ⟨H, hHe⟩ : ∃ H : Heap, H = s.heap := ⟨_, rfl⟩
  obtain ⟨locs, hle⟩ : ∃ z : List Loc, z = [] := ⟨_, rfl⟩
  rw [← hHe] at hP
  have hS : va_S A s.heap H locs := by rw [hHe, hle]; exact hS
  suffices hgo : W p l e { frames := 1, cells := 0, slots := 0, locals := 21 } s m (List.toArray [.ref x0, .int x]) below meth c H locs 0 0 Q (F0 m 0 ls []) by rw [hHe, hle] at hgo; exact hgo
  refine lv_iload_n hx hb dX8_put_0 rfl (lv_at hl 1 rfl) ?_
  refine calOI (rest := []) (wr := [(x0, .inr (7, [.ref pg, .ref sr, .ref inp, .ref se, .ref so, .ref j0, .ref g, .ref q0, .int xr])), (pg, .inr (3, [.ref pgt, .int pgsz])), (pgt, .inl (cI, 12, .inl pgf))]) hG (c_X8_isToken l dC dI cI cJ base bB bO x ) ml_X8_58 st_X8_isToken ini_X8 cd_X8_isToken hd_X8_isToken.2 ⟨(Nat.le_of_ble_eq_true rfl), (Nat.le_of_ble_eq_true rfl)⟩ (Nat.le_of_ble_eq_true rfl) (Nat.le_of_ble_eq_true rfl) hP hD hS [] [0, 1, 2] rfl rfl rfl rfl (by decide) hl.1 rfl (Nat.le_of_ble_eq_true rfl) dX8_put_1 (fun r1 u H locs hw2 hP hD hS => ?_)
  have hw2 : ((r1.toInt = 1 ∧ 0 ≤ x.toInt ∧ x.toInt ≤ 27) ∨ (r1.toInt = 0 ∧ (x.toInt < 0 ∨ 27 < x.toInt))) ∧ True := hw2
  obtain ⟨hp3, -⟩ := hw2
  have hP : va_P (dC, dI) vwCl [(x0, .inr (7, [.ref pg, .ref sr, .ref inp, .ref se, .ref so, .ref j0, .ref g, .ref q0, .int xr])), (pg, .inr (3, [.ref pgt, .int pgsz])), (pgt, .inl (cI, 12, .inl pgf))] H := hP
  have hD : va_D A [(x0, .inr (7, [.ref pg, .ref sr, .ref inp, .ref se, .ref so, .ref j0, .ref g, .ref q0, .int xr])), (pg, .inr (3, [.ref pgt, .int pgsz])), (pgt, .inl (cI, 12, .inl pgf))] := hD
  refine lv_if_ne (tgt := 13) hx hb dX8_put_4 (by decide) (fun c4 => ?_) (fun c4 => ?_)
  · have c4' := I_ne c4
    refine lv_aload_n hx hb dX8_put_13 rfl (lv_at hl 0 rfl) ?_
    refine va_get (D := (dC, dI)) (ci := 7) (v := .ref pg) (C := RX8) (T := TX8) (N := 9) hx hb hts inG_X8 hown hK hP 0 rfl rfl 0 (by decide) (hts _ fl_X8_10) (fun _ h9 => h9) rfl dX8_put_14 ?_
    refine calI (rest := []) (wr := [(x0, .inr (7, [.ref pg, .ref sr, .ref inp, .ref se, .ref so, .ref j0, .ref g, .ref q0, .int xr]))]) hG (c_X4_size l dC dI cI cJ base bB bO pg pgt pgsz pgf ) ml_X8_66 im_X4_size se_X4_size ini_X4 cd_X4_size hd_X4_size ⟨(Nat.le_of_ble_eq_true rfl), (Nat.le_of_ble_eq_true rfl)⟩ (Nat.le_of_ble_eq_true rfl) (Nat.le_of_ble_eq_true rfl) hP hD hS [1, 2] [0] rfl rfl rfl rfl (by decide) 3 1 rfl rfl hl.1 rfl (Nat.le_of_ble_eq_true rfl) dX8_put_17 (fun r5 u H locs hw6 hP hD hS => ?_)
    have hw6 : (r5 = pgsz) ∧ True := hw6
    obtain ⟨hp7, -⟩ := hw6
    have hp7t := I_eq hp7
    have hP : va_P (dC, dI) vwCl [(x0, .inr (7, [.ref pg, .ref sr, .ref inp, .ref se, .ref so, .ref j0, .ref g, .ref q0, .int xr])), (pg, .inr (3, [.ref pgt, .int pgsz])), (pgt, .inl (cI, 12, .inl pgf))] H := hP
    have hD : va_D A [(x0, .inr (7, [.ref pg, .ref sr, .ref inp, .ref se, .ref so, .ref j0, .ref g, .ref q0, .int xr])), (pg, .inr (3, [.ref pgt, .int pgsz])), (pgt, .inl (cI, 12, .inl pgf))] := hD
    refine lv_bipush (v := 10) hx hb dX8_put_20 (by decide) ?_
    refine lv_icmp_lt (tgt := 32) hx hb dX8_put_22 (by decide) (fun c8 => ?_) (fun c8 => ?_)
    · have c8' := I_lt c8
      refine lv_aload_n hx hb dX8_put_32 rfl (lv_at hl 0 rfl) ?_
      refine va_get (D := (dC, dI)) (ci := 7) (v := .ref pg) (C := RX8) (T := TX8) (N := 9) hx hb hts inG_X8 hown hK hP 0 rfl rfl 0 (by decide) (hts _ fl_X8_10) (fun _ h9 => h9) rfl dX8_put_33 ?_
      refine lv_iload_n hx hb dX8_put_36 rfl (lv_at hl 1 rfl) ?_
      refine calV (rest := []) (wr := [(x0, .inr (7, [.ref pg, .ref sr, .ref inp, .ref se, .ref so, .ref j0, .ref g, .ref q0, .int xr]))]) hG (c_X4_add l dC dI cI cJ base bB bO pg pgt pgsz pgf x (by first | assumption | omega) (by first | assumption | omega) (by first | assumption | omega)) ml_X8_70 im_X4_add se_X4_add ini_X4 cd_X4_add hd_X4_add ⟨(Nat.le_of_ble_eq_true rfl), (Nat.le_of_ble_eq_true rfl)⟩ (Nat.le_of_ble_eq_true rfl) (Nat.le_of_ble_eq_true rfl) hP hD hS [1, 2] [0] rfl rfl rfl rfl (by decide) 3 1 rfl rfl hl.1 rfl (Nat.le_of_ble_eq_true rfl) dX8_put_37 (fun u H locs hw9 hP hD hS => ?_)
      obtain ⟨rsz_10, rf_11⟩ := u
      have hw9 : (0 ≤ rsz_10.toInt ∧ rsz_10.toInt ≤ 12) ∧ (∀ j : Nat, -1 ≤ (rf_11 j).toInt ∧ (rf_11 j).toInt ≤ 31) ∧ ((pgsz.toInt < 12 ∧ rsz_10.toInt = pgsz.toInt + 1) ∨ (12 ≤ pgsz.toInt ∧ rsz_10.toInt = pgsz.toInt)) ∧ True := hw9
      obtain ⟨hp12, hp13, hp14, -⟩ := hw9
      have hP : va_P (dC, dI) vwCl [(x0, .inr (7, [.ref pg, .ref sr, .ref inp, .ref se, .ref so, .ref j0, .ref g, .ref q0, .int xr])), (pg, .inr (3, [.ref pgt, .int rsz_10])), (pgt, .inl (cI, 12, .inl rf_11))] H := hP
      have hD : va_D A [(x0, .inr (7, [.ref pg, .ref sr, .ref inp, .ref se, .ref so, .ref j0, .ref g, .ref q0, .int xr])), (pg, .inr (3, [.ref pgt, .int rsz_10])), (pgt, .inl (cI, 12, .inl rf_11))] := hD
      refine lv_aload_n hx hb dX8_put_40 rfl (lv_at hl 0 rfl) ?_
      refine lv_aload_n hx hb dX8_put_41 rfl (lv_at hl 0 rfl) ?_
      refine va_get (D := (dC, dI)) (ci := 7) (v := .ref pg) (C := RX8) (T := TX8) (N := 9) hx hb hts inG_X8 hown hK hP 0 rfl rfl 0 (by decide) (hts _ fl_X8_10) (fun _ h9 => h9) rfl dX8_put_42 ?_
      refine calI (rest := [.ref x0]) (wr := [(x0, .inr (7, [.ref pg, .ref sr, .ref inp, .ref se, .ref so, .ref j0, .ref g, .ref q0, .int xr]))]) hG (c_X4_size l dC dI cI cJ base bB bO pg pgt rsz_10 rf_11 ) ml_X8_66 im_X4_size se_X4_size ini_X4 cd_X4_size hd_X4_size ⟨(Nat.le_of_ble_eq_true rfl), (Nat.le_of_ble_eq_true rfl)⟩ (Nat.le_of_ble_eq_true rfl) (Nat.le_of_ble_eq_true rfl) hP hD hS [1, 2] [0] rfl rfl rfl rfl (by decide) 3 1 rfl rfl hl.1 rfl (Nat.le_of_ble_eq_true rfl) dX8_put_45 (fun r15 u H locs hw16 hP hD hS => ?_)
      have hw16 : (r15 = rsz_10) ∧ True := hw16
      obtain ⟨hp17, -⟩ := hw16
      have hp17t := I_eq hp17
      have hP : va_P (dC, dI) vwCl [(x0, .inr (7, [.ref pg, .ref sr, .ref inp, .ref se, .ref so, .ref j0, .ref g, .ref q0, .int xr])), (pg, .inr (3, [.ref pgt, .int rsz_10])), (pgt, .inl (cI, 12, .inl rf_11))] H := hP
      have hD : va_D A [(x0, .inr (7, [.ref pg, .ref sr, .ref inp, .ref se, .ref so, .ref j0, .ref g, .ref q0, .int xr])), (pg, .inr (3, [.ref pgt, .int rsz_10])), (pgt, .inl (cI, 12, .inl rf_11))] := hD
      refine calI (rest := []) (wr := [(pg, .inr (3, [.ref pgt, .int rsz_10])), (pgt, .inl (cI, 12, .inl rf_11))]) hG (c_X8_accept l dC dI cI cJ base bB bO x0 pg sr inp se so j0 g q0 xr r15 ) ml_X8_74 im_X8_accept se_X8_accept ini_X8 cd_X8_accept hd_X8_accept ⟨(Nat.le_of_ble_eq_true rfl), (Nat.le_of_ble_eq_true rfl)⟩ (Nat.le_of_ble_eq_true rfl) (Nat.le_of_ble_eq_true rfl) hP hD hS [0] [1, 2] rfl rfl rfl rfl (by decide) 7 0 rfl rfl hl.1 rfl (Nat.le_of_ble_eq_true rfl) dX8_put_48 (fun r18 u H locs hw19 hP hD hS => ?_)
      obtain ⟨xr_20, rfl⟩ : ∃ z, z = u := ⟨_, rfl⟩
      have hw19 : (r18 = r15) ∧ (xr_20.toInt = 0) ∧ True := hw19
      obtain ⟨hp21, hp22, -⟩ := hw19
      have hp21t := I_eq hp21
      have hP : va_P (dC, dI) vwCl [(pg, .inr (3, [.ref pgt, .int rsz_10])), (pgt, .inl (cI, 12, .inl rf_11)), (x0, .inr (7, [.ref pg, .ref sr, .ref inp, .ref se, .ref so, .ref j0, .ref g, .ref q0, .int xr_20]))] H := hP
      have hD : va_D A [(pg, .inr (3, [.ref pgt, .int rsz_10])), (pgt, .inl (cI, 12, .inl rf_11)), (x0, .inr (7, [.ref pg, .ref sr, .ref inp, .ref se, .ref so, .ref j0, .ref g, .ref q0, .int xr_20]))] := hD
      exact hret r18 (rsz_10, rf_11, xr_20) H locs 51 ls rfl ⟨(show 0 ≤ rsz_10.toInt ∧ rsz_10.toInt ≤ 12 from by first | rfl | assumption | omega), (show ∀ j : Nat, -1 ≤ (rf_11 j).toInt ∧ (rf_11 j).toInt ≤ 31 from by first | rfl | assumption | omega), trivial⟩ (hP.sub (ws' := [(x0, .inr (7, [.ref pg, .ref sr, .ref inp, .ref se, .ref so, .ref j0, .ref g, .ref q0, .int xr_20])), (pg, .inr (3, [.ref pgt, .int rsz_10])), (pgt, .inl (cI, 12, .inl rf_11))]) [2, 0, 1] rfl) (hD.sub (ws' := [(x0, .inr (7, [.ref pg, .ref sr, .ref inp, .ref se, .ref so, .ref j0, .ref g, .ref q0, .int xr_20])), (pg, .inr (3, [.ref pgt, .int rsz_10])), (pgt, .inl (cI, 12, .inl rf_11))]) [2, 0, 1] (by decide) rfl) hS dX8_put_51
    · have c8' := I_nlt c8
      refine lv_aload_n hx hb dX8_put_25 rfl (lv_at hl 0 rfl) ?_
      refine lv_bipush (v := (-5)) hx hb dX8_put_26 (by decide) ?_
      refine calI (rest := []) (wr := [(pg, .inr (3, [.ref pgt, .int pgsz])), (pgt, .inl (cI, 12, .inl pgf))]) hG (c_X8_refuse l dC dI cI cJ base bB bO x0 pg sr inp se so j0 g q0 xr (-5) ) ml_X8_62 im_X8_refuse se_X8_refuse ini_X8 cd_X8_refuse hd_X8_refuse ⟨(Nat.le_of_ble_eq_true rfl), (Nat.le_of_ble_eq_true rfl)⟩ (Nat.le_of_ble_eq_true rfl) (Nat.le_of_ble_eq_true rfl) hP hD hS [0] [1, 2] rfl rfl rfl rfl (by decide) 7 0 rfl rfl hl.1 rfl (Nat.le_of_ble_eq_true rfl) dX8_put_28 (fun r23 u H locs hw24 hP hD hS => ?_)
      obtain ⟨xr_25, rfl⟩ : ∃ z, z = u := ⟨_, rfl⟩
      have hw24 : (r23 = (-5 : Int32)) ∧ (xr_25 = (-5 : Int32)) ∧ True := hw24
      obtain ⟨hp26, hp27, -⟩ := hw24
      have hp26t := I_eq hp26
      have hP : va_P (dC, dI) vwCl [(pg, .inr (3, [.ref pgt, .int pgsz])), (pgt, .inl (cI, 12, .inl pgf)), (x0, .inr (7, [.ref pg, .ref sr, .ref inp, .ref se, .ref so, .ref j0, .ref g, .ref q0, .int xr_25]))] H := hP
      have hD : va_D A [(pg, .inr (3, [.ref pgt, .int pgsz])), (pgt, .inl (cI, 12, .inl pgf)), (x0, .inr (7, [.ref pg, .ref sr, .ref inp, .ref se, .ref so, .ref j0, .ref g, .ref q0, .int xr_25]))] := hD
      exact hret r23 (pgsz, pgf, xr_25) H locs 31 ls rfl ⟨(show 0 ≤ pgsz.toInt ∧ pgsz.toInt ≤ 12 from by first | rfl | assumption | omega), (show ∀ j : Nat, -1 ≤ (pgf j).toInt ∧ (pgf j).toInt ≤ 31 from by first | rfl | assumption | omega), trivial⟩ (hP.sub (ws' := [(x0, .inr (7, [.ref pg, .ref sr, .ref inp, .ref se, .ref so, .ref j0, .ref g, .ref q0, .int xr_25])), (pg, .inr (3, [.ref pgt, .int pgsz])), (pgt, .inl (cI, 12, .inl pgf))]) [2, 0, 1] rfl) (hD.sub (ws' := [(x0, .inr (7, [.ref pg, .ref sr, .ref inp, .ref se, .ref so, .ref j0, .ref g, .ref q0, .int xr_25])), (pg, .inr (3, [.ref pgt, .int pgsz])), (pgt, .inl (cI, 12, .inl pgf))]) [2, 0, 1] (by decide) rfl) hS dX8_put_31
  · have c4' := I_eq c4
    refine lv_aload_n hx hb dX8_put_7 rfl (lv_at hl 0 rfl) ?_
    refine lv_iconst (v := (-1)) hx hb dX8_put_8 (by decide) ?_
    refine calI (rest := []) (wr := [(pg, .inr (3, [.ref pgt, .int pgsz])), (pgt, .inl (cI, 12, .inl pgf))]) hG (c_X8_refuse l dC dI cI cJ base bB bO x0 pg sr inp se so j0 g q0 xr (-1) ) ml_X8_62 im_X8_refuse se_X8_refuse ini_X8 cd_X8_refuse hd_X8_refuse ⟨(Nat.le_of_ble_eq_true rfl), (Nat.le_of_ble_eq_true rfl)⟩ (Nat.le_of_ble_eq_true rfl) (Nat.le_of_ble_eq_true rfl) hP hD hS [0] [1, 2] rfl rfl rfl rfl (by decide) 7 0 rfl rfl hl.1 rfl (Nat.le_of_ble_eq_true rfl) dX8_put_9 (fun r28 u H locs hw29 hP hD hS => ?_)
    obtain ⟨xr_30, rfl⟩ : ∃ z, z = u := ⟨_, rfl⟩
    have hw29 : (r28 = (-1 : Int32)) ∧ (xr_30 = (-1 : Int32)) ∧ True := hw29
    obtain ⟨hp31, hp32, -⟩ := hw29
    have hp31t := I_eq hp31
    have hP : va_P (dC, dI) vwCl [(pg, .inr (3, [.ref pgt, .int pgsz])), (pgt, .inl (cI, 12, .inl pgf)), (x0, .inr (7, [.ref pg, .ref sr, .ref inp, .ref se, .ref so, .ref j0, .ref g, .ref q0, .int xr_30]))] H := hP
    have hD : va_D A [(pg, .inr (3, [.ref pgt, .int pgsz])), (pgt, .inl (cI, 12, .inl pgf)), (x0, .inr (7, [.ref pg, .ref sr, .ref inp, .ref se, .ref so, .ref j0, .ref g, .ref q0, .int xr_30]))] := hD
    exact hret r28 (pgsz, pgf, xr_30) H locs 12 ls rfl ⟨(show 0 ≤ pgsz.toInt ∧ pgsz.toInt ≤ 12 from by first | rfl | assumption | omega), (show ∀ j : Nat, -1 ≤ (pgf j).toInt ∧ (pgf j).toInt ≤ 31 from by first | rfl | assumption | omega), trivial⟩ (hP.sub (ws' := [(x0, .inr (7, [.ref pg, .ref sr, .ref inp, .ref se, .ref so, .ref j0, .ref g, .ref q0, .int xr_30])), (pg, .inr (3, [.ref pgt, .int pgsz])), (pgt, .inl (cI, 12, .inl pgf))]) [2, 0, 1] rfl) (hD.sub (ws' := [(x0, .inr (7, [.ref pg, .ref sr, .ref inp, .ref se, .ref so, .ref j0, .ref g, .ref q0, .int xr_30])), (pg, .inr (3, [.ref pgt, .int pgsz])), (pgt, .inl (cI, 12, .inl pgf))]) [2, 0, 1] (by decide) rfl) hS dX8_put_12
set_option maxHeartbeats 4000000 in
set_option maxRecDepth 100000 in
theorem c_X8_set (l : Launch) (dC : Nat → ClassId) (dI : Nat → Nat → Nat) (cI cJ : ClassId) (base bB bO : Nat) (x0 : Nat) (pg : Nat) (sr : Nat) (inp : Nat) (se : Nat) (so : Nat) (j0 : Nat) (g : Nat) (q0 : Nat) (xr : Int32) (pgt : Nat) (pgsz : Int32) (pgf : Nat → Int32) (i : Int32) (x : Int32) (hq0 : 0 ≤ pgsz.toInt ∧ pgsz.toInt ≤ 12) (hq1 : ∀ j : Nat, -1 ≤ (pgf j).toInt ∧ (pgf j).toInt ≤ 31) : CtI l dC dI cI cJ base bB bO yX8_set cX8_set 3 .int 1 22 [.ref x0, .int i, .int x] [(x0, .inr (7, [.ref pg, .ref sr, .ref inp, .ref se, .ref so, .ref j0, .ref g, .ref q0, .int xr])), (pg, .inr (3, [.ref pgt, .int pgsz])), (pgt, .inl (cI, 12, .inl pgf))] ((Int32) × (Nat → Int32) × (Int32)) (fun (res : Int32) (u : (Int32) × (Nat → Int32) × (Int32)) => (0 ≤ u.1.toInt ∧ u.1.toInt ≤ 12) ∧ (∀ j : Nat, -1 ≤ (u.2.1 j).toInt ∧ (u.2.1 j).toInt ≤ 31) ∧ True) (fun (u : (Int32) × (Nat → Int32) × (Int32)) => [(x0, .inr (7, [.ref pg, .ref sr, .ref inp, .ref se, .ref so, .ref j0, .ref g, .ref q0, .int u.2.2])), (pg, .inr (3, [.ref pgt, .int u.1])), (pgt, .inl (cI, 12, .inl u.2.1))]) := by
  refine entI (by decide) (Nat.le_of_ble_eq_true rfl) ?_
  intro p e s m below meth c A Q ls hAt hret hP hD hS hl
  obtain ⟨hx, hb, hml, hown, hts, hA, hAb, hK, hE, hlocks, hin⟩ := hAt
  have hG : CG dC dI cI cJ base bB bO cX8_set 3 RX8 p s m (List.toArray [.ref x0, .int i, .int x]) c A := ⟨hx, hb, hml, hown, hts, hA, hAb, hK, hE⟩
  have hl : lv_has ls 3 [(0, .ref x0), (1, .int i), (2, .int x)] := hl
  have c_m2 : (-2 : Int32).toInt = -2 := by decide
  have c_m1 : (-1 : Int32).toInt = -1 := by decide
  have c_0 : (0 : Int32).toInt = 0 := by decide
  have c_1 : (1 : Int32).toInt = 1 := by decide
  obtain ⟨H, hHe⟩ : ∃ H : Heap, H = s.heap := ⟨_, rfl⟩
  obtain ⟨locs, hle⟩ : ∃ z : List Loc, z = [] := ⟨_, rfl⟩
  rw [← hHe] at hP
  have hS : va_S A s.heap H locs := by rw [hHe, hle]; exact hS
  suffices hgo : W p l e { frames := 1, cells := 0, slots := 0, locals := 22 } s m (List.toArray [.ref x0, .int i, .int x]) below meth c H locs 0 0 Q (F0 m 0 ls []) by rw [hHe, hle] at hgo; exact hgo
  refine lv_iload_n hx hb dX8_set_0 rfl (lv_at hl 2 rfl) ?_
  refine lv_iconst (v := (-1)) hx hb dX8_set_1 (by decide) ?_
  refine lv_icmp_eq (tgt := 18) hx hb dX8_set_2 (by decide) (fun c1 => ?_) (fun c1 => ?_)
  · have c1' := I_eq c1
    refine lv_iload_n hx hb dX8_set_18 rfl (lv_at hl 1 rfl) ?_
    refine lv_if_lt (tgt := 33) hx hb dX8_set_19 (by decide) (fun c2 => ?_) (fun c2 => ?_)
    · have c2' := I_lt c2
      refine lv_aload_n hx hb dX8_set_33 rfl (lv_at hl 0 rfl) ?_
      refine lv_bipush (v := (-2)) hx hb dX8_set_34 (by decide) ?_
      refine calI (rest := []) (wr := [(pg, .inr (3, [.ref pgt, .int pgsz])), (pgt, .inl (cI, 12, .inl pgf))]) hG (c_X8_refuse l dC dI cI cJ base bB bO x0 pg sr inp se so j0 g q0 xr (-2) ) ml_X8_62 im_X8_refuse se_X8_refuse ini_X8 cd_X8_refuse hd_X8_refuse ⟨(Nat.le_of_ble_eq_true rfl), (Nat.le_of_ble_eq_true rfl)⟩ (Nat.le_of_ble_eq_true rfl) (Nat.le_of_ble_eq_true rfl) hP hD hS [0] [1, 2] rfl rfl rfl rfl (by decide) 7 0 rfl rfl hl.1 rfl (Nat.le_of_ble_eq_true rfl) dX8_set_36 (fun r3 u H locs hw4 hP hD hS => ?_)
      obtain ⟨xr_5, rfl⟩ : ∃ z, z = u := ⟨_, rfl⟩
      have hw4 : (r3 = (-2 : Int32)) ∧ (xr_5 = (-2 : Int32)) ∧ True := hw4
      obtain ⟨hp6, hp7, -⟩ := hw4
      have hp6t := I_eq hp6
      have hP : va_P (dC, dI) vwCl [(pg, .inr (3, [.ref pgt, .int pgsz])), (pgt, .inl (cI, 12, .inl pgf)), (x0, .inr (7, [.ref pg, .ref sr, .ref inp, .ref se, .ref so, .ref j0, .ref g, .ref q0, .int xr_5]))] H := hP
      have hD : va_D A [(pg, .inr (3, [.ref pgt, .int pgsz])), (pgt, .inl (cI, 12, .inl pgf)), (x0, .inr (7, [.ref pg, .ref sr, .ref inp, .ref se, .ref so, .ref j0, .ref g, .ref q0, .int xr_5]))] := hD
      exact hret r3 (pgsz, pgf, xr_5) H locs 39 ls rfl ⟨(show 0 ≤ pgsz.toInt ∧ pgsz.toInt ≤ 12 from by first | rfl | assumption | omega), (show ∀ j : Nat, -1 ≤ (pgf j).toInt ∧ (pgf j).toInt ≤ 31 from by first | rfl | assumption | omega), trivial⟩ (hP.sub (ws' := [(x0, .inr (7, [.ref pg, .ref sr, .ref inp, .ref se, .ref so, .ref j0, .ref g, .ref q0, .int xr_5])), (pg, .inr (3, [.ref pgt, .int pgsz])), (pgt, .inl (cI, 12, .inl pgf))]) [2, 0, 1] rfl) (hD.sub (ws' := [(x0, .inr (7, [.ref pg, .ref sr, .ref inp, .ref se, .ref so, .ref j0, .ref g, .ref q0, .int xr_5])), (pg, .inr (3, [.ref pgt, .int pgsz])), (pgt, .inl (cI, 12, .inl pgf))]) [2, 0, 1] (by decide) rfl) hS dX8_set_39
    · have c2' := I_nlt c2
      refine lv_iload_n hx hb dX8_set_22 rfl (lv_at hl 1 rfl) ?_
      refine lv_aload_n hx hb dX8_set_23 rfl (lv_at hl 0 rfl) ?_
      refine va_get (D := (dC, dI)) (ci := 7) (v := .ref pg) (C := RX8) (T := TX8) (N := 9) hx hb hts inG_X8 hown hK hP 0 rfl rfl 0 (by decide) (hts _ fl_X8_10) (fun _ h9 => h9) rfl dX8_set_24 ?_
      refine calI (rest := [.int i]) (wr := [(x0, .inr (7, [.ref pg, .ref sr, .ref inp, .ref se, .ref so, .ref j0, .ref g, .ref q0, .int xr]))]) hG (c_X4_size l dC dI cI cJ base bB bO pg pgt pgsz pgf ) ml_X8_66 im_X4_size se_X4_size ini_X4 cd_X4_size hd_X4_size ⟨(Nat.le_of_ble_eq_true rfl), (Nat.le_of_ble_eq_true rfl)⟩ (Nat.le_of_ble_eq_true rfl) (Nat.le_of_ble_eq_true rfl) hP hD hS [1, 2] [0] rfl rfl rfl rfl (by decide) 3 1 rfl rfl hl.1 rfl (Nat.le_of_ble_eq_true rfl) dX8_set_27 (fun r8 u H locs hw9 hP hD hS => ?_)
      have hw9 : (r8 = pgsz) ∧ True := hw9
      obtain ⟨hp10, -⟩ := hw9
      have hp10t := I_eq hp10
      have hP : va_P (dC, dI) vwCl [(x0, .inr (7, [.ref pg, .ref sr, .ref inp, .ref se, .ref so, .ref j0, .ref g, .ref q0, .int xr])), (pg, .inr (3, [.ref pgt, .int pgsz])), (pgt, .inl (cI, 12, .inl pgf))] H := hP
      have hD : va_D A [(x0, .inr (7, [.ref pg, .ref sr, .ref inp, .ref se, .ref so, .ref j0, .ref g, .ref q0, .int xr])), (pg, .inr (3, [.ref pgt, .int pgsz])), (pgt, .inl (cI, 12, .inl pgf))] := hD
      refine lv_icmp_lt (tgt := 40) hx hb dX8_set_30 (by decide) (fun c11 => ?_) (fun c11 => ?_)
      · have c11' := I_lt c11
        refine lv_iload_n hx hb dX8_set_40 rfl (lv_at hl 2 rfl) ?_
        refine lv_iconst (v := (-1)) hx hb dX8_set_41 (by decide) ?_
        refine lv_icmp_ne (tgt := 56) hx hb dX8_set_42 (by decide) (fun c12 => ?_) (fun c12 => ?_)
        · have c12' := I_ne c12
          refine lv_aload_n hx hb dX8_set_56 rfl (lv_at hl 0 rfl) ?_
          refine va_get (D := (dC, dI)) (ci := 7) (v := .ref pg) (C := RX8) (T := TX8) (N := 9) hx hb hts inG_X8 hown hK hP 0 rfl rfl 0 (by decide) (hts _ fl_X8_10) (fun _ h9 => h9) rfl dX8_set_57 ?_
          refine lv_iload_n hx hb dX8_set_60 rfl (lv_at hl 1 rfl) ?_
          refine lv_iload_n hx hb dX8_set_61 rfl (lv_at hl 2 rfl) ?_
          refine calV (rest := []) (wr := [(x0, .inr (7, [.ref pg, .ref sr, .ref inp, .ref se, .ref so, .ref j0, .ref g, .ref q0, .int xr]))]) hG (c_X4_replace l dC dI cI cJ base bB bO pg pgt pgsz pgf i x (by first | assumption | omega) (by first | assumption | omega) (by first | assumption | omega)) ml_X8_80 im_X4_replace se_X4_replace ini_X4 cd_X4_replace hd_X4_replace ⟨(Nat.le_of_ble_eq_true rfl), (Nat.le_of_ble_eq_true rfl)⟩ (Nat.le_of_ble_eq_true rfl) (Nat.le_of_ble_eq_true rfl) hP hD hS [1, 2] [0] rfl rfl rfl rfl (by decide) 3 1 rfl rfl hl.1 rfl (Nat.le_of_ble_eq_true rfl) dX8_set_62 (fun u H locs hw13 hP hD hS => ?_)
          obtain ⟨rf_14, rfl⟩ : ∃ z, z = u := ⟨_, rfl⟩
          have hw13 : (∀ j : Nat, -1 ≤ (rf_14 j).toInt ∧ (rf_14 j).toInt ≤ 31) ∧ True := hw13
          obtain ⟨hp15, -⟩ := hw13
          have hP : va_P (dC, dI) vwCl [(x0, .inr (7, [.ref pg, .ref sr, .ref inp, .ref se, .ref so, .ref j0, .ref g, .ref q0, .int xr])), (pg, .inr (3, [.ref pgt, .int pgsz])), (pgt, .inl (cI, 12, .inl rf_14))] H := hP
          have hD : va_D A [(x0, .inr (7, [.ref pg, .ref sr, .ref inp, .ref se, .ref so, .ref j0, .ref g, .ref q0, .int xr])), (pg, .inr (3, [.ref pgt, .int pgsz])), (pgt, .inl (cI, 12, .inl rf_14))] := hD
          refine lv_aload_n hx hb dX8_set_65 rfl (lv_at hl 0 rfl) ?_
          refine lv_aload_n hx hb dX8_set_66 rfl (lv_at hl 0 rfl) ?_
          refine va_get (D := (dC, dI)) (ci := 7) (v := .ref pg) (C := RX8) (T := TX8) (N := 9) hx hb hts inG_X8 hown hK hP 0 rfl rfl 0 (by decide) (hts _ fl_X8_10) (fun _ h9 => h9) rfl dX8_set_67 ?_
          refine calI (rest := [.ref x0]) (wr := [(x0, .inr (7, [.ref pg, .ref sr, .ref inp, .ref se, .ref so, .ref j0, .ref g, .ref q0, .int xr]))]) hG (c_X4_size l dC dI cI cJ base bB bO pg pgt pgsz rf_14 ) ml_X8_66 im_X4_size se_X4_size ini_X4 cd_X4_size hd_X4_size ⟨(Nat.le_of_ble_eq_true rfl), (Nat.le_of_ble_eq_true rfl)⟩ (Nat.le_of_ble_eq_true rfl) (Nat.le_of_ble_eq_true rfl) hP hD hS [1, 2] [0] rfl rfl rfl rfl (by decide) 3 1 rfl rfl hl.1 rfl (Nat.le_of_ble_eq_true rfl) dX8_set_70 (fun r16 u H locs hw17 hP hD hS => ?_)
          have hw17 : (r16 = pgsz) ∧ True := hw17
          obtain ⟨hp18, -⟩ := hw17
          have hp18t := I_eq hp18
          have hP : va_P (dC, dI) vwCl [(x0, .inr (7, [.ref pg, .ref sr, .ref inp, .ref se, .ref so, .ref j0, .ref g, .ref q0, .int xr])), (pg, .inr (3, [.ref pgt, .int pgsz])), (pgt, .inl (cI, 12, .inl rf_14))] H := hP
          have hD : va_D A [(x0, .inr (7, [.ref pg, .ref sr, .ref inp, .ref se, .ref so, .ref j0, .ref g, .ref q0, .int xr])), (pg, .inr (3, [.ref pgt, .int pgsz])), (pgt, .inl (cI, 12, .inl rf_14))] := hD
          refine calI (rest := []) (wr := [(pg, .inr (3, [.ref pgt, .int pgsz])), (pgt, .inl (cI, 12, .inl rf_14))]) hG (c_X8_accept l dC dI cI cJ base bB bO x0 pg sr inp se so j0 g q0 xr r16 ) ml_X8_74 im_X8_accept se_X8_accept ini_X8 cd_X8_accept hd_X8_accept ⟨(Nat.le_of_ble_eq_true rfl), (Nat.le_of_ble_eq_true rfl)⟩ (Nat.le_of_ble_eq_true rfl) (Nat.le_of_ble_eq_true rfl) hP hD hS [0] [1, 2] rfl rfl rfl rfl (by decide) 7 0 rfl rfl hl.1 rfl (Nat.le_of_ble_eq_true rfl) dX8_set_73 (fun r19 u H locs hw20 hP hD hS => ?_)
          obtain ⟨xr_21, rfl⟩ : ∃ z, z = u := ⟨_, rfl⟩
          have hw20 : (r19 = r16) ∧ (xr_21.toInt = 0) ∧ True := hw20
          obtain ⟨hp22, hp23, -⟩ := hw20
          have hp22t := I_eq hp22
          have hP : va_P (dC, dI) vwCl [(pg, .inr (3, [.ref pgt, .int pgsz])), (pgt, .inl (cI, 12, .inl rf_14)), (x0, .inr (7, [.ref pg, .ref sr, .ref inp, .ref se, .ref so, .ref j0, .ref g, .ref q0, .int xr_21]))] H := hP
          have hD : va_D A [(pg, .inr (3, [.ref pgt, .int pgsz])), (pgt, .inl (cI, 12, .inl rf_14)), (x0, .inr (7, [.ref pg, .ref sr, .ref inp, .ref se, .ref so, .ref j0, .ref g, .ref q0, .int xr_21]))] := hD
          exact hret r19 (pgsz, rf_14, xr_21) H locs 76 ls rfl ⟨(show 0 ≤ pgsz.toInt ∧ pgsz.toInt ≤ 12 from by first | rfl | assumption | omega), (show ∀ j : Nat, -1 ≤ (rf_14 j).toInt ∧ (rf_14 j).toInt ≤ 31 from by first | rfl | assumption | omega), trivial⟩ (hP.sub (ws' := [(x0, .inr (7, [.ref pg, .ref sr, .ref inp, .ref se, .ref so, .ref j0, .ref g, .ref q0, .int xr_21])), (pg, .inr (3, [.ref pgt, .int pgsz])), (pgt, .inl (cI, 12, .inl rf_14))]) [2, 0, 1] rfl) (hD.sub (ws' := [(x0, .inr (7, [.ref pg, .ref sr, .ref inp, .ref se, .ref so, .ref j0, .ref g, .ref q0, .int xr_21])), (pg, .inr (3, [.ref pgt, .int pgsz])), (pgt, .inl (cI, 12, .inl rf_14))]) [2, 0, 1] (by decide) rfl) hS dX8_set_76
        · have c12' := I_eq c12
          refine lv_aload_n hx hb dX8_set_45 rfl (lv_at hl 0 rfl) ?_
          refine va_get (D := (dC, dI)) (ci := 7) (v := .ref pg) (C := RX8) (T := TX8) (N := 9) hx hb hts inG_X8 hown hK hP 0 rfl rfl 0 (by decide) (hts _ fl_X8_10) (fun _ h9 => h9) rfl dX8_set_46 ?_
          refine lv_iload_n hx hb dX8_set_49 rfl (lv_at hl 1 rfl) ?_
          refine calV (rest := []) (wr := [(x0, .inr (7, [.ref pg, .ref sr, .ref inp, .ref se, .ref so, .ref j0, .ref g, .ref q0, .int xr]))]) hG (c_X4_removeAt l dC dI cI cJ base bB bO pg pgt pgsz pgf i (by first | assumption | omega) (by first | assumption | omega)) ml_X8_77 im_X4_removeAt se_X4_removeAt ini_X4 cd_X4_removeAt hd_X4_removeAt ⟨(Nat.le_of_ble_eq_true rfl), (Nat.le_of_ble_eq_true rfl)⟩ (Nat.le_of_ble_eq_true rfl) (Nat.le_of_ble_eq_true rfl) hP hD hS [1, 2] [0] rfl rfl rfl rfl (by decide) 3 1 rfl rfl hl.1 rfl (Nat.le_of_ble_eq_true rfl) dX8_set_50 (fun u H locs hw24 hP hD hS => ?_)
          obtain ⟨rsz_25, rf_26⟩ := u
          have hw24 : (0 ≤ rsz_25.toInt ∧ rsz_25.toInt ≤ 12) ∧ (∀ j : Nat, -1 ≤ (rf_26 j).toInt ∧ (rf_26 j).toInt ≤ 31) ∧ True := hw24
          obtain ⟨hp27, hp28, -⟩ := hw24
          have hP : va_P (dC, dI) vwCl [(x0, .inr (7, [.ref pg, .ref sr, .ref inp, .ref se, .ref so, .ref j0, .ref g, .ref q0, .int xr])), (pg, .inr (3, [.ref pgt, .int rsz_25])), (pgt, .inl (cI, 12, .inl rf_26))] H := hP
          have hD : va_D A [(x0, .inr (7, [.ref pg, .ref sr, .ref inp, .ref se, .ref so, .ref j0, .ref g, .ref q0, .int xr])), (pg, .inr (3, [.ref pgt, .int rsz_25])), (pgt, .inl (cI, 12, .inl rf_26))] := hD
          refine lv_goto (tgt := 65) hx hb dX8_set_53 (by decide) ?_
          refine lv_aload_n hx hb dX8_set_65 rfl (lv_at hl 0 rfl) ?_
          refine lv_aload_n hx hb dX8_set_66 rfl (lv_at hl 0 rfl) ?_
          refine va_get (D := (dC, dI)) (ci := 7) (v := .ref pg) (C := RX8) (T := TX8) (N := 9) hx hb hts inG_X8 hown hK hP 0 rfl rfl 0 (by decide) (hts _ fl_X8_10) (fun _ h9 => h9) rfl dX8_set_67 ?_
          refine calI (rest := [.ref x0]) (wr := [(x0, .inr (7, [.ref pg, .ref sr, .ref inp, .ref se, .ref so, .ref j0, .ref g, .ref q0, .int xr]))]) hG (c_X4_size l dC dI cI cJ base bB bO pg pgt rsz_25 rf_26 ) ml_X8_66 im_X4_size se_X4_size ini_X4 cd_X4_size hd_X4_size ⟨(Nat.le_of_ble_eq_true rfl), (Nat.le_of_ble_eq_true rfl)⟩ (Nat.le_of_ble_eq_true rfl) (Nat.le_of_ble_eq_true rfl) hP hD hS [1, 2] [0] rfl rfl rfl rfl (by decide) 3 1 rfl rfl hl.1 rfl (Nat.le_of_ble_eq_true rfl) dX8_set_70 (fun r29 u H locs hw30 hP hD hS => ?_)
          have hw30 : (r29 = rsz_25) ∧ True := hw30
          obtain ⟨hp31, -⟩ := hw30
          have hp31t := I_eq hp31
          have hP : va_P (dC, dI) vwCl [(x0, .inr (7, [.ref pg, .ref sr, .ref inp, .ref se, .ref so, .ref j0, .ref g, .ref q0, .int xr])), (pg, .inr (3, [.ref pgt, .int rsz_25])), (pgt, .inl (cI, 12, .inl rf_26))] H := hP
          have hD : va_D A [(x0, .inr (7, [.ref pg, .ref sr, .ref inp, .ref se, .ref so, .ref j0, .ref g, .ref q0, .int xr])), (pg, .inr (3, [.ref pgt, .int rsz_25])), (pgt, .inl (cI, 12, .inl rf_26))] := hD
          refine calI (rest := []) (wr := [(pg, .inr (3, [.ref pgt, .int rsz_25])), (pgt, .inl (cI, 12, .inl rf_26))]) hG (c_X8_accept l dC dI cI cJ base bB bO x0 pg sr inp se so j0 g q0 xr r29 ) ml_X8_74 im_X8_accept se_X8_accept ini_X8 cd_X8_accept hd_X8_accept ⟨(Nat.le_of_ble_eq_true rfl), (Nat.le_of_ble_eq_true rfl)⟩ (Nat.le_of_ble_eq_true rfl) (Nat.le_of_ble_eq_true rfl) hP hD hS [0] [1, 2] rfl rfl rfl rfl (by decide) 7 0 rfl rfl hl.1 rfl (Nat.le_of_ble_eq_true rfl) dX8_set_73 (fun r32 u H locs hw33 hP hD hS => ?_)
          obtain ⟨xr_34, rfl⟩ : ∃ z, z = u := ⟨_, rfl⟩
          have hw33 : (r32 = r29) ∧ (xr_34.toInt = 0) ∧ True := hw33
          obtain ⟨hp35, hp36, -⟩ := hw33
          have hp35t := I_eq hp35
          have hP : va_P (dC, dI) vwCl [(pg, .inr (3, [.ref pgt, .int rsz_25])), (pgt, .inl (cI, 12, .inl rf_26)), (x0, .inr (7, [.ref pg, .ref sr, .ref inp, .ref se, .ref so, .ref j0, .ref g, .ref q0, .int xr_34]))] H := hP
          have hD : va_D A [(pg, .inr (3, [.ref pgt, .int rsz_25])), (pgt, .inl (cI, 12, .inl rf_26)), (x0, .inr (7, [.ref pg, .ref sr, .ref inp, .ref se, .ref so, .ref j0, .ref g, .ref q0, .int xr_34]))] := hD
          exact hret r32 (rsz_25, rf_26, xr_34) H locs 76 ls rfl ⟨(show 0 ≤ rsz_25.toInt ∧ rsz_25.toInt ≤ 12 from by first | rfl | assumption | omega), (show ∀ j : Nat, -1 ≤ (rf_26 j).toInt ∧ (rf_26 j).toInt ≤ 31 from by first | rfl | assumption | omega), trivial⟩ (hP.sub (ws' := [(x0, .inr (7, [.ref pg, .ref sr, .ref inp, .ref se, .ref so, .ref j0, .ref g, .ref q0, .int xr_34])), (pg, .inr (3, [.ref pgt, .int rsz_25])), (pgt, .inl (cI, 12, .inl rf_26))]) [2, 0, 1] rfl) (hD.sub (ws' := [(x0, .inr (7, [.ref pg, .ref sr, .ref inp, .ref se, .ref so, .ref j0, .ref g, .ref q0, .int xr_34])), (pg, .inr (3, [.ref pgt, .int rsz_25])), (pgt, .inl (cI, 12, .inl rf_26))]) [2, 0, 1] (by decide) rfl) hS dX8_set_76
      · have c11' := I_nlt c11
        refine lv_aload_n hx hb dX8_set_33 rfl (lv_at hl 0 rfl) ?_
        refine lv_bipush (v := (-2)) hx hb dX8_set_34 (by decide) ?_
        refine calI (rest := []) (wr := [(pg, .inr (3, [.ref pgt, .int pgsz])), (pgt, .inl (cI, 12, .inl pgf))]) hG (c_X8_refuse l dC dI cI cJ base bB bO x0 pg sr inp se so j0 g q0 xr (-2) ) ml_X8_62 im_X8_refuse se_X8_refuse ini_X8 cd_X8_refuse hd_X8_refuse ⟨(Nat.le_of_ble_eq_true rfl), (Nat.le_of_ble_eq_true rfl)⟩ (Nat.le_of_ble_eq_true rfl) (Nat.le_of_ble_eq_true rfl) hP hD hS [0] [1, 2] rfl rfl rfl rfl (by decide) 7 0 rfl rfl hl.1 rfl (Nat.le_of_ble_eq_true rfl) dX8_set_36 (fun r37 u H locs hw38 hP hD hS => ?_)
        obtain ⟨xr_39, rfl⟩ : ∃ z, z = u := ⟨_, rfl⟩
        have hw38 : (r37 = (-2 : Int32)) ∧ (xr_39 = (-2 : Int32)) ∧ True := hw38
        obtain ⟨hp40, hp41, -⟩ := hw38
        have hp40t := I_eq hp40
        have hP : va_P (dC, dI) vwCl [(pg, .inr (3, [.ref pgt, .int pgsz])), (pgt, .inl (cI, 12, .inl pgf)), (x0, .inr (7, [.ref pg, .ref sr, .ref inp, .ref se, .ref so, .ref j0, .ref g, .ref q0, .int xr_39]))] H := hP
        have hD : va_D A [(pg, .inr (3, [.ref pgt, .int pgsz])), (pgt, .inl (cI, 12, .inl pgf)), (x0, .inr (7, [.ref pg, .ref sr, .ref inp, .ref se, .ref so, .ref j0, .ref g, .ref q0, .int xr_39]))] := hD
        exact hret r37 (pgsz, pgf, xr_39) H locs 39 ls rfl ⟨(show 0 ≤ pgsz.toInt ∧ pgsz.toInt ≤ 12 from by first | rfl | assumption | omega), (show ∀ j : Nat, -1 ≤ (pgf j).toInt ∧ (pgf j).toInt ≤ 31 from by first | rfl | assumption | omega), trivial⟩ (hP.sub (ws' := [(x0, .inr (7, [.ref pg, .ref sr, .ref inp, .ref se, .ref so, .ref j0, .ref g, .ref q0, .int xr_39])), (pg, .inr (3, [.ref pgt, .int pgsz])), (pgt, .inl (cI, 12, .inl pgf))]) [2, 0, 1] rfl) (hD.sub (ws' := [(x0, .inr (7, [.ref pg, .ref sr, .ref inp, .ref se, .ref so, .ref j0, .ref g, .ref q0, .int xr_39])), (pg, .inr (3, [.ref pgt, .int pgsz])), (pgt, .inl (cI, 12, .inl pgf))]) [2, 0, 1] (by decide) rfl) hS dX8_set_39
  · have c1' := I_ne c1
    refine lv_iload_n hx hb dX8_set_5 rfl (lv_at hl 2 rfl) ?_
    refine calOI (rest := []) (wr := [(x0, .inr (7, [.ref pg, .ref sr, .ref inp, .ref se, .ref so, .ref j0, .ref g, .ref q0, .int xr])), (pg, .inr (3, [.ref pgt, .int pgsz])), (pgt, .inl (cI, 12, .inl pgf))]) hG (c_X8_isToken l dC dI cI cJ base bB bO x ) ml_X8_58 st_X8_isToken ini_X8 cd_X8_isToken hd_X8_isToken.2 ⟨(Nat.le_of_ble_eq_true rfl), (Nat.le_of_ble_eq_true rfl)⟩ (Nat.le_of_ble_eq_true rfl) (Nat.le_of_ble_eq_true rfl) hP hD hS [] [0, 1, 2] rfl rfl rfl rfl (by decide) hl.1 rfl (Nat.le_of_ble_eq_true rfl) dX8_set_6 (fun r42 u H locs hw43 hP hD hS => ?_)
    have hw43 : ((r42.toInt = 1 ∧ 0 ≤ x.toInt ∧ x.toInt ≤ 27) ∨ (r42.toInt = 0 ∧ (x.toInt < 0 ∨ 27 < x.toInt))) ∧ True := hw43
    obtain ⟨hp44, -⟩ := hw43
    have hP : va_P (dC, dI) vwCl [(x0, .inr (7, [.ref pg, .ref sr, .ref inp, .ref se, .ref so, .ref j0, .ref g, .ref q0, .int xr])), (pg, .inr (3, [.ref pgt, .int pgsz])), (pgt, .inl (cI, 12, .inl pgf))] H := hP
    have hD : va_D A [(x0, .inr (7, [.ref pg, .ref sr, .ref inp, .ref se, .ref so, .ref j0, .ref g, .ref q0, .int xr])), (pg, .inr (3, [.ref pgt, .int pgsz])), (pgt, .inl (cI, 12, .inl pgf))] := hD
    refine lv_if_ne (tgt := 18) hx hb dX8_set_9 (by decide) (fun c45 => ?_) (fun c45 => ?_)
    · have c45' := I_ne c45
      refine lv_iload_n hx hb dX8_set_18 rfl (lv_at hl 1 rfl) ?_
      refine lv_if_lt (tgt := 33) hx hb dX8_set_19 (by decide) (fun c46 => ?_) (fun c46 => ?_)
      · have c46' := I_lt c46
        refine lv_aload_n hx hb dX8_set_33 rfl (lv_at hl 0 rfl) ?_
        refine lv_bipush (v := (-2)) hx hb dX8_set_34 (by decide) ?_
        refine calI (rest := []) (wr := [(pg, .inr (3, [.ref pgt, .int pgsz])), (pgt, .inl (cI, 12, .inl pgf))]) hG (c_X8_refuse l dC dI cI cJ base bB bO x0 pg sr inp se so j0 g q0 xr (-2) ) ml_X8_62 im_X8_refuse se_X8_refuse ini_X8 cd_X8_refuse hd_X8_refuse ⟨(Nat.le_of_ble_eq_true rfl), (Nat.le_of_ble_eq_true rfl)⟩ (Nat.le_of_ble_eq_true rfl) (Nat.le_of_ble_eq_true rfl) hP hD hS [0] [1, 2] rfl rfl rfl rfl (by decide) 7 0 rfl rfl hl.1 rfl (Nat.le_of_ble_eq_true rfl) dX8_set_36 (fun r47 u H locs hw48 hP hD hS => ?_)
        obtain ⟨xr_49, rfl⟩ : ∃ z, z = u := ⟨_, rfl⟩
        have hw48 : (r47 = (-2 : Int32)) ∧ (xr_49 = (-2 : Int32)) ∧ True := hw48
        obtain ⟨hp50, hp51, -⟩ := hw48
        have hp50t := I_eq hp50
        have hP : va_P (dC, dI) vwCl [(pg, .inr (3, [.ref pgt, .int pgsz])), (pgt, .inl (cI, 12, .inl pgf)), (x0, .inr (7, [.ref pg, .ref sr, .ref inp, .ref se, .ref so, .ref j0, .ref g, .ref q0, .int xr_49]))] H := hP
        have hD : va_D A [(pg, .inr (3, [.ref pgt, .int pgsz])), (pgt, .inl (cI, 12, .inl pgf)), (x0, .inr (7, [.ref pg, .ref sr, .ref inp, .ref se, .ref so, .ref j0, .ref g, .ref q0, .int xr_49]))] := hD
        exact hret r47 (pgsz, pgf, xr_49) H locs 39 ls rfl ⟨(show 0 ≤ pgsz.toInt ∧ pgsz.toInt ≤ 12 from by first | rfl | assumption | omega), (show ∀ j : Nat, -1 ≤ (pgf j).toInt ∧ (pgf j).toInt ≤ 31 from by first | rfl | assumption | omega), trivial⟩ (hP.sub (ws' := [(x0, .inr (7, [.ref pg, .ref sr, .ref inp, .ref se, .ref so, .ref j0, .ref g, .ref q0, .int xr_49])), (pg, .inr (3, [.ref pgt, .int pgsz])), (pgt, .inl (cI, 12, .inl pgf))]) [2, 0, 1] rfl) (hD.sub (ws' := [(x0, .inr (7, [.ref pg, .ref sr, .ref inp, .ref se, .ref so, .ref j0, .ref g, .ref q0, .int xr_49])), (pg, .inr (3, [.ref pgt, .int pgsz])), (pgt, .inl (cI, 12, .inl pgf))]) [2, 0, 1] (by decide) rfl) hS dX8_set_39
      · have c46' := I_nlt c46
        refine lv_iload_n hx hb dX8_set_22 rfl (lv_at hl 1 rfl) ?_
        refine lv_aload_n hx hb dX8_set_23 rfl (lv_at hl 0 rfl) ?_
        refine va_get (D := (dC, dI)) (ci := 7) (v := .ref pg) (C := RX8) (T := TX8) (N := 9) hx hb hts inG_X8 hown hK hP 0 rfl rfl 0 (by decide) (hts _ fl_X8_10) (fun _ h9 => h9) rfl dX8_set_24 ?_
        refine calI (rest := [.int i]) (wr := [(x0, .inr (7, [.ref pg, .ref sr, .ref inp, .ref se, .ref so, .ref j0, .ref g, .ref q0, .int xr]))]) hG (c_X4_size l dC dI cI cJ base bB bO pg pgt pgsz pgf ) ml_X8_66 im_X4_size se_X4_size ini_X4 cd_X4_size hd_X4_size ⟨(Nat.le_of_ble_eq_true rfl), (Nat.le_of_ble_eq_true rfl)⟩ (Nat.le_of_ble_eq_true rfl) (Nat.le_of_ble_eq_true rfl) hP hD hS [1, 2] [0] rfl rfl rfl rfl (by decide) 3 1 rfl rfl hl.1 rfl (Nat.le_of_ble_eq_true rfl) dX8_set_27 (fun r52 u H locs hw53 hP hD hS => ?_)
        have hw53 : (r52 = pgsz) ∧ True := hw53
        obtain ⟨hp54, -⟩ := hw53
        have hp54t := I_eq hp54
        have hP : va_P (dC, dI) vwCl [(x0, .inr (7, [.ref pg, .ref sr, .ref inp, .ref se, .ref so, .ref j0, .ref g, .ref q0, .int xr])), (pg, .inr (3, [.ref pgt, .int pgsz])), (pgt, .inl (cI, 12, .inl pgf))] H := hP
        have hD : va_D A [(x0, .inr (7, [.ref pg, .ref sr, .ref inp, .ref se, .ref so, .ref j0, .ref g, .ref q0, .int xr])), (pg, .inr (3, [.ref pgt, .int pgsz])), (pgt, .inl (cI, 12, .inl pgf))] := hD
        refine lv_icmp_lt (tgt := 40) hx hb dX8_set_30 (by decide) (fun c55 => ?_) (fun c55 => ?_)
        · have c55' := I_lt c55
          refine lv_iload_n hx hb dX8_set_40 rfl (lv_at hl 2 rfl) ?_
          refine lv_iconst (v := (-1)) hx hb dX8_set_41 (by decide) ?_
          refine lv_icmp_ne (tgt := 56) hx hb dX8_set_42 (by decide) (fun c56 => ?_) (fun c56 => ?_)
          · have c56' := I_ne c56
            refine lv_aload_n hx hb dX8_set_56 rfl (lv_at hl 0 rfl) ?_
            refine va_get (D := (dC, dI)) (ci := 7) (v := .ref pg) (C := RX8) (T := TX8) (N := 9) hx hb hts inG_X8 hown hK hP 0 rfl rfl 0 (by decide) (hts _ fl_X8_10) (fun _ h9 => h9) rfl dX8_set_57 ?_
            refine lv_iload_n hx hb dX8_set_60 rfl (lv_at hl 1 rfl) ?_
            refine lv_iload_n hx hb dX8_set_61 rfl (lv_at hl 2 rfl) ?_
            refine calV (rest := []) (wr := [(x0, .inr (7, [.ref pg, .ref sr, .ref inp, .ref se, .ref so, .ref j0, .ref g, .ref q0, .int xr]))]) hG (c_X4_replace l dC dI cI cJ base bB bO pg pgt pgsz pgf i x (by first | assumption | omega) (by first | assumption | omega) (by first | assumption | omega)) ml_X8_80 im_X4_replace se_X4_replace ini_X4 cd_X4_replace hd_X4_replace ⟨(Nat.le_of_ble_eq_true rfl), (Nat.le_of_ble_eq_true rfl)⟩ (Nat.le_of_ble_eq_true rfl) (Nat.le_of_ble_eq_true rfl) hP hD hS [1, 2] [0] rfl rfl rfl rfl (by decide) 3 1 rfl rfl hl.1 rfl (Nat.le_of_ble_eq_true rfl) dX8_set_62 (fun u H locs hw57 hP hD hS => ?_)
            obtain ⟨rf_58, rfl⟩ : ∃ z, z = u := ⟨_, rfl⟩
            have hw57 : (∀ j : Nat, -1 ≤ (rf_58 j).toInt ∧ (rf_58 j).toInt ≤ 31) ∧ True := hw57
            obtain ⟨hp59, -⟩ := hw57
            have hP : va_P (dC, dI) vwCl [(x0, .inr (7, [.ref pg, .ref sr, .ref inp, .ref se, .ref so, .ref j0, .ref g, .ref q0, .int xr])), (pg, .inr (3, [.ref pgt, .int pgsz])), (pgt, .inl (cI, 12, .inl rf_58))] H := hP
            have hD : va_D A [(x0, .inr (7, [.ref pg, .ref sr, .ref inp, .ref se, .ref so, .ref j0, .ref g, .ref q0, .int xr])), (pg, .inr (3, [.ref pgt, .int pgsz])), (pgt, .inl (cI, 12, .inl rf_58))] := hD
            refine lv_aload_n hx hb dX8_set_65 rfl (lv_at hl 0 rfl) ?_
            refine lv_aload_n hx hb dX8_set_66 rfl (lv_at hl 0 rfl) ?_
            refine va_get (D := (dC, dI)) (ci := 7) (v := .ref pg) (C := RX8) (T := TX8) (N := 9) hx hb hts inG_X8 hown hK hP 0 rfl rfl 0 (by decide) (hts _ fl_X8_10) (fun _ h9 => h9) rfl dX8_set_67 ?_
            refine calI (rest := [.ref x0]) (wr := [(x0, .inr (7, [.ref pg, .ref sr, .ref inp, .ref se, .ref so, .ref j0, .ref g, .ref q0, .int xr]))]) hG (c_X4_size l dC dI cI cJ base bB bO pg pgt pgsz rf_58 ) ml_X8_66 im_X4_size se_X4_size ini_X4 cd_X4_size hd_X4_size ⟨(Nat.le_of_ble_eq_true rfl), (Nat.le_of_ble_eq_true rfl)⟩ (Nat.le_of_ble_eq_true rfl) (Nat.le_of_ble_eq_true rfl) hP hD hS [1, 2] [0] rfl rfl rfl rfl (by decide) 3 1 rfl rfl hl.1 rfl (Nat.le_of_ble_eq_true rfl) dX8_set_70 (fun r60 u H locs hw61 hP hD hS => ?_)
            have hw61 : (r60 = pgsz) ∧ True := hw61
            obtain ⟨hp62, -⟩ := hw61
            have hp62t := I_eq hp62
            have hP : va_P (dC, dI) vwCl [(x0, .inr (7, [.ref pg, .ref sr, .ref inp, .ref se, .ref so, .ref j0, .ref g, .ref q0, .int xr])), (pg, .inr (3, [.ref pgt, .int pgsz])), (pgt, .inl (cI, 12, .inl rf_58))] H := hP
            have hD : va_D A [(x0, .inr (7, [.ref pg, .ref sr, .ref inp, .ref se, .ref so, .ref j0, .ref g, .ref q0, .int xr])), (pg, .inr (3, [.ref pgt, .int pgsz])), (pgt, .inl (cI, 12, .inl rf_58))] := hD
            refine calI (rest := []) (wr := [(pg, .inr (3, [.ref pgt, .int pgsz])), (pgt, .inl (cI, 12, .inl rf_58))]) hG (c_X8_accept l dC dI cI cJ base bB bO x0 pg sr inp se so j0 g q0 xr r60 ) ml_X8_74 im_X8_accept se_X8_accept ini_X8 cd_X8_accept hd_X8_accept ⟨(Nat.le_of_ble_eq_true rfl), (Nat.le_of_ble_eq_true rfl)⟩ (Nat.le_of_ble_eq_true rfl) (Nat.le_of_ble_eq_true rfl) hP hD hS [0] [1, 2] rfl rfl rfl rfl (by decide) 7 0 rfl rfl hl.1 rfl (Nat.le_of_ble_eq_true rfl) dX8_set_73 (fun r63 u H locs hw64 hP hD hS => ?_)
            obtain ⟨xr_65, rfl⟩ : ∃ z, z = u := ⟨_, rfl⟩
            have hw64 : (r63 = r60) ∧ (xr_65.toInt = 0) ∧ True := hw64
            obtain ⟨hp66, hp67, -⟩ := hw64
            have hp66t := I_eq hp66
            have hP : va_P (dC, dI) vwCl [(pg, .inr (3, [.ref pgt, .int pgsz])), (pgt, .inl (cI, 12, .inl rf_58)), (x0, .inr (7, [.ref pg, .ref sr, .ref inp, .ref se, .ref so, .ref j0, .ref g, .ref q0, .int xr_65]))] H := hP
            have hD : va_D A [(pg, .inr (3, [.ref pgt, .int pgsz])), (pgt, .inl (cI, 12, .inl rf_58)), (x0, .inr (7, [.ref pg, .ref sr, .ref inp, .ref se, .ref so, .ref j0, .ref g, .ref q0, .int xr_65]))] := hD
            exact hret r63 (pgsz, rf_58, xr_65) H locs 76 ls rfl ⟨(show 0 ≤ pgsz.toInt ∧ pgsz.toInt ≤ 12 from by first | rfl | assumption | omega), (show ∀ j : Nat, -1 ≤ (rf_58 j).toInt ∧ (rf_58 j).toInt ≤ 31 from by first | rfl | assumption | omega), trivial⟩ (hP.sub (ws' := [(x0, .inr (7, [.ref pg, .ref sr, .ref inp, .ref se, .ref so, .ref j0, .ref g, .ref q0, .int xr_65])), (pg, .inr (3, [.ref pgt, .int pgsz])), (pgt, .inl (cI, 12, .inl rf_58))]) [2, 0, 1] rfl) (hD.sub (ws' := [(x0, .inr (7, [.ref pg, .ref sr, .ref inp, .ref se, .ref so, .ref j0, .ref g, .ref q0, .int xr_65])), (pg, .inr (3, [.ref pgt, .int pgsz])), (pgt, .inl (cI, 12, .inl rf_58))]) [2, 0, 1] (by decide) rfl) hS dX8_set_76
          · have c56' := I_eq c56
            refine lv_aload_n hx hb dX8_set_45 rfl (lv_at hl 0 rfl) ?_
            refine va_get (D := (dC, dI)) (ci := 7) (v := .ref pg) (C := RX8) (T := TX8) (N := 9) hx hb hts inG_X8 hown hK hP 0 rfl rfl 0 (by decide) (hts _ fl_X8_10) (fun _ h9 => h9) rfl dX8_set_46 ?_
            refine lv_iload_n hx hb dX8_set_49 rfl (lv_at hl 1 rfl) ?_
            refine calV (rest := []) (wr := [(x0, .inr (7, [.ref pg, .ref sr, .ref inp, .ref se, .ref so, .ref j0, .ref g, .ref q0, .int xr]))]) hG (c_X4_removeAt l dC dI cI cJ base bB bO pg pgt pgsz pgf i (by first | assumption | omega) (by first | assumption | omega)) ml_X8_77 im_X4_removeAt se_X4_removeAt ini_X4 cd_X4_removeAt hd_X4_removeAt ⟨(Nat.le_of_ble_eq_true rfl), (Nat.le_of_ble_eq_true rfl)⟩ (Nat.le_of_ble_eq_true rfl) (Nat.le_of_ble_eq_true rfl) hP hD hS [1, 2] [0] rfl rfl rfl rfl (by decide) 3 1 rfl rfl hl.1 rfl (Nat.le_of_ble_eq_true rfl) dX8_set_50 (fun u H locs hw68 hP hD hS => ?_)
            obtain ⟨rsz_69, rf_70⟩ := u
            have hw68 : (0 ≤ rsz_69.toInt ∧ rsz_69.toInt ≤ 12) ∧ (∀ j : Nat, -1 ≤ (rf_70 j).toInt ∧ (rf_70 j).toInt ≤ 31) ∧ True := hw68
            obtain ⟨hp71, hp72, -⟩ := hw68
            have hP : va_P (dC, dI) vwCl [(x0, .inr (7, [.ref pg, .ref sr, .ref inp, .ref se, .ref so, .ref j0, .ref g, .ref q0, .int xr])), (pg, .inr (3, [.ref pgt, .int rsz_69])), (pgt, .inl (cI, 12, .inl rf_70))] H := hP
            have hD : va_D A [(x0, .inr (7, [.ref pg, .ref sr, .ref inp, .ref se, .ref so, .ref j0, .ref g, .ref q0, .int xr])), (pg, .inr (3, [.ref pgt, .int rsz_69])), (pgt, .inl (cI, 12, .inl rf_70))] := hD
            refine lv_goto (tgt := 65) hx hb dX8_set_53 (by decide) ?_
            refine lv_aload_n hx hb dX8_set_65 rfl (lv_at hl 0 rfl) ?_
            refine lv_aload_n hx hb dX8_set_66 rfl (lv_at hl 0 rfl) ?_
            refine va_get (D := (dC, dI)) (ci := 7) (v := .ref pg) (C := RX8) (T := TX8) (N := 9) hx hb hts inG_X8 hown hK hP 0 rfl rfl 0 (by decide) (hts _ fl_X8_10) (fun _ h9 => h9) rfl dX8_set_67 ?_
            refine calI (rest := [.ref x0]) (wr := [(x0, .inr (7, [.ref pg, .ref sr, .ref inp, .ref se, .ref so, .ref j0, .ref g, .ref q0, .int xr]))]) hG (c_X4_size l dC dI cI cJ base bB bO pg pgt rsz_69 rf_70 ) ml_X8_66 im_X4_size se_X4_size ini_X4 cd_X4_size hd_X4_size ⟨(Nat.le_of_ble_eq_true rfl), (Nat.le_of_ble_eq_true rfl)⟩ (Nat.le_of_ble_eq_true rfl) (Nat.le_of_ble_eq_true rfl) hP hD hS [1, 2] [0] rfl rfl rfl rfl (by decide) 3 1 rfl rfl hl.1 rfl (Nat.le_of_ble_eq_true rfl) dX8_set_70 (fun r73 u H locs hw74 hP hD hS => ?_)
            have hw74 : (r73 = rsz_69) ∧ True := hw74
            obtain ⟨hp75, -⟩ := hw74
            have hp75t := I_eq hp75
            have hP : va_P (dC, dI) vwCl [(x0, .inr (7, [.ref pg, .ref sr, .ref inp, .ref se, .ref so, .ref j0, .ref g, .ref q0, .int xr])), (pg, .inr (3, [.ref pgt, .int rsz_69])), (pgt, .inl (cI, 12, .inl rf_70))] H := hP
            have hD : va_D A [(x0, .inr (7, [.ref pg, .ref sr, .ref inp, .ref se, .ref so, .ref j0, .ref g, .ref q0, .int xr])), (pg, .inr (3, [.ref pgt, .int rsz_69])), (pgt, .inl (cI, 12, .inl rf_70))] := hD
            refine calI (rest := []) (wr := [(pg, .inr (3, [.ref pgt, .int rsz_69])), (pgt, .inl (cI, 12, .inl rf_70))]) hG (c_X8_accept l dC dI cI cJ base bB bO x0 pg sr inp se so j0 g q0 xr r73 ) ml_X8_74 im_X8_accept se_X8_accept ini_X8 cd_X8_accept hd_X8_accept ⟨(Nat.le_of_ble_eq_true rfl), (Nat.le_of_ble_eq_true rfl)⟩ (Nat.le_of_ble_eq_true rfl) (Nat.le_of_ble_eq_true rfl) hP hD hS [0] [1, 2] rfl rfl rfl rfl (by decide) 7 0 rfl rfl hl.1 rfl (Nat.le_of_ble_eq_true rfl) dX8_set_73 (fun r76 u H locs hw77 hP hD hS => ?_)
            obtain ⟨xr_78, rfl⟩ : ∃ z, z = u := ⟨_, rfl⟩
            have hw77 : (r76 = r73) ∧ (xr_78.toInt = 0) ∧ True := hw77
            obtain ⟨hp79, hp80, -⟩ := hw77
            have hp79t := I_eq hp79
            have hP : va_P (dC, dI) vwCl [(pg, .inr (3, [.ref pgt, .int rsz_69])), (pgt, .inl (cI, 12, .inl rf_70)), (x0, .inr (7, [.ref pg, .ref sr, .ref inp, .ref se, .ref so, .ref j0, .ref g, .ref q0, .int xr_78]))] H := hP
            have hD : va_D A [(pg, .inr (3, [.ref pgt, .int rsz_69])), (pgt, .inl (cI, 12, .inl rf_70)), (x0, .inr (7, [.ref pg, .ref sr, .ref inp, .ref se, .ref so, .ref j0, .ref g, .ref q0, .int xr_78]))] := hD
            exact hret r76 (rsz_69, rf_70, xr_78) H locs 76 ls rfl ⟨(show 0 ≤ rsz_69.toInt ∧ rsz_69.toInt ≤ 12 from by first | rfl | assumption | omega), (show ∀ j : Nat, -1 ≤ (rf_70 j).toInt ∧ (rf_70 j).toInt ≤ 31 from by first | rfl | assumption | omega), trivial⟩ (hP.sub (ws' := [(x0, .inr (7, [.ref pg, .ref sr, .ref inp, .ref se, .ref so, .ref j0, .ref g, .ref q0, .int xr_78])), (pg, .inr (3, [.ref pgt, .int rsz_69])), (pgt, .inl (cI, 12, .inl rf_70))]) [2, 0, 1] rfl) (hD.sub (ws' := [(x0, .inr (7, [.ref pg, .ref sr, .ref inp, .ref se, .ref so, .ref j0, .ref g, .ref q0, .int xr_78])), (pg, .inr (3, [.ref pgt, .int rsz_69])), (pgt, .inl (cI, 12, .inl rf_70))]) [2, 0, 1] (by decide) rfl) hS dX8_set_76
        · have c55' := I_nlt c55
          refine lv_aload_n hx hb dX8_set_33 rfl (lv_at hl 0 rfl) ?_
          refine lv_bipush (v := (-2)) hx hb dX8_set_34 (by decide) ?_
          refine calI (rest := []) (wr := [(pg, .inr (3, [.ref pgt, .int pgsz])), (pgt, .inl (cI, 12, .inl pgf))]) hG (c_X8_refuse l dC dI cI cJ base bB bO x0 pg sr inp se so j0 g q0 xr (-2) ) ml_X8_62 im_X8_refuse se_X8_refuse ini_X8 cd_X8_refuse hd_X8_refuse ⟨(Nat.le_of_ble_eq_true rfl), (Nat.le_of_ble_eq_true rfl)⟩ (Nat.le_of_ble_eq_true rfl) (Nat.le_of_ble_eq_true rfl) hP hD hS [0] [1, 2] rfl rfl rfl rfl (by decide) 7 0 rfl rfl hl.1 rfl (Nat.le_of_ble_eq_true rfl) dX8_set_36 (fun r81 u H locs hw82 hP hD hS => ?_)
          obtain ⟨xr_83, rfl⟩ : ∃ z, z = u := ⟨_, rfl⟩
          have hw82 : (r81 = (-2 : Int32)) ∧ (xr_83 = (-2 : Int32)) ∧ True := hw82
          obtain ⟨hp84, hp85, -⟩ := hw82
          have hp84t := I_eq hp84
          have hP : va_P (dC, dI) vwCl [(pg, .inr (3, [.ref pgt, .int pgsz])), (pgt, .inl (cI, 12, .inl pgf)), (x0, .inr (7, [.ref pg, .ref sr, .ref inp, .ref se, .ref so, .ref j0, .ref g, .ref q0, .int xr_83]))] H := hP
          have hD : va_D A [(pg, .inr (3, [.ref pgt, .int pgsz])), (pgt, .inl (cI, 12, .inl pgf)), (x0, .inr (7, [.ref pg, .ref sr, .ref inp, .ref se, .ref so, .ref j0, .ref g, .ref q0, .int xr_83]))] := hD
          exact hret r81 (pgsz, pgf, xr_83) H locs 39 ls rfl ⟨(show 0 ≤ pgsz.toInt ∧ pgsz.toInt ≤ 12 from by first | rfl | assumption | omega), (show ∀ j : Nat, -1 ≤ (pgf j).toInt ∧ (pgf j).toInt ≤ 31 from by first | rfl | assumption | omega), trivial⟩ (hP.sub (ws' := [(x0, .inr (7, [.ref pg, .ref sr, .ref inp, .ref se, .ref so, .ref j0, .ref g, .ref q0, .int xr_83])), (pg, .inr (3, [.ref pgt, .int pgsz])), (pgt, .inl (cI, 12, .inl pgf))]) [2, 0, 1] rfl) (hD.sub (ws' := [(x0, .inr (7, [.ref pg, .ref sr, .ref inp, .ref se, .ref so, .ref j0, .ref g, .ref q0, .int xr_83])), (pg, .inr (3, [.ref pgt, .int pgsz])), (pgt, .inl (cI, 12, .inl pgf))]) [2, 0, 1] (by decide) rfl) hS dX8_set_39
    · have c45' := I_eq c45
      refine lv_aload_n hx hb dX8_set_12 rfl (lv_at hl 0 rfl) ?_
      refine lv_iconst (v := (-1)) hx hb dX8_set_13 (by decide) ?_
      refine calI (rest := []) (wr := [(pg, .inr (3, [.ref pgt, .int pgsz])), (pgt, .inl (cI, 12, .inl pgf))]) hG (c_X8_refuse l dC dI cI cJ base bB bO x0 pg sr inp se so j0 g q0 xr (-1) ) ml_X8_62 im_X8_refuse se_X8_refuse ini_X8 cd_X8_refuse hd_X8_refuse ⟨(Nat.le_of_ble_eq_true rfl), (Nat.le_of_ble_eq_true rfl)⟩ (Nat.le_of_ble_eq_true rfl) (Nat.le_of_ble_eq_true rfl) hP hD hS [0] [1, 2] rfl rfl rfl rfl (by decide) 7 0 rfl rfl hl.1 rfl (Nat.le_of_ble_eq_true rfl) dX8_set_14 (fun r86 u H locs hw87 hP hD hS => ?_)
      obtain ⟨xr_88, rfl⟩ : ∃ z, z = u := ⟨_, rfl⟩
      have hw87 : (r86 = (-1 : Int32)) ∧ (xr_88 = (-1 : Int32)) ∧ True := hw87
      obtain ⟨hp89, hp90, -⟩ := hw87
      have hp89t := I_eq hp89
      have hP : va_P (dC, dI) vwCl [(pg, .inr (3, [.ref pgt, .int pgsz])), (pgt, .inl (cI, 12, .inl pgf)), (x0, .inr (7, [.ref pg, .ref sr, .ref inp, .ref se, .ref so, .ref j0, .ref g, .ref q0, .int xr_88]))] H := hP
      have hD : va_D A [(pg, .inr (3, [.ref pgt, .int pgsz])), (pgt, .inl (cI, 12, .inl pgf)), (x0, .inr (7, [.ref pg, .ref sr, .ref inp, .ref se, .ref so, .ref j0, .ref g, .ref q0, .int xr_88]))] := hD
      exact hret r86 (pgsz, pgf, xr_88) H locs 17 ls rfl ⟨(show 0 ≤ pgsz.toInt ∧ pgsz.toInt ≤ 12 from by first | rfl | assumption | omega), (show ∀ j : Nat, -1 ≤ (pgf j).toInt ∧ (pgf j).toInt ≤ 31 from by first | rfl | assumption | omega), trivial⟩ (hP.sub (ws' := [(x0, .inr (7, [.ref pg, .ref sr, .ref inp, .ref se, .ref so, .ref j0, .ref g, .ref q0, .int xr_88])), (pg, .inr (3, [.ref pgt, .int pgsz])), (pgt, .inl (cI, 12, .inl pgf))]) [2, 0, 1] rfl) (hD.sub (ws' := [(x0, .inr (7, [.ref pg, .ref sr, .ref inp, .ref se, .ref so, .ref j0, .ref g, .ref q0, .int xr_88])), (pg, .inr (3, [.ref pgt, .int pgsz])), (pgt, .inl (cI, 12, .inl pgf))]) [2, 0, 1] (by decide) rfl) hS dX8_set_17
set_option maxHeartbeats 4000000 in
set_option maxRecDepth 100000 in
theorem c_X8_clear (l : Launch) (dC : Nat → ClassId) (dI : Nat → Nat → Nat) (cI cJ : ClassId) (base bB bO : Nat) (x0 : Nat) (pg : Nat) (sr : Nat) (inp : Nat) (se : Nat) (so : Nat) (j0 : Nat) (g : Nat) (q0 : Nat) (xr : Int32) (pgt : Nat) (pgsz : Int32) (pgf : Nat → Int32) (hq0 : 0 ≤ pgsz.toInt ∧ pgsz.toInt ≤ 12) (hq1 : ∀ j : Nat, -1 ≤ (pgf j).toInt ∧ (pgf j).toInt ≤ 31) : CtI l dC dI cI cJ base bB bO yX8_clear cX8_clear 2 .int 1 21 [.ref x0] [(x0, .inr (7, [.ref pg, .ref sr, .ref inp, .ref se, .ref so, .ref j0, .ref g, .ref q0, .int xr])), (pg, .inr (3, [.ref pgt, .int pgsz])), (pgt, .inl (cI, 12, .inl pgf))] ((Int32)) (fun (res : Int32) (u : (Int32)) => (0 ≤ u.toInt ∧ u.toInt ≤ 12) ∧ True) (fun (u : (Int32)) => [(x0, .inr (7, [.ref pg, .ref sr, .ref inp, .ref se, .ref so, .ref j0, .ref g, .ref q0, .int xr])), (pg, .inr (3, [.ref pgt, .int u])), (pgt, .inl (cI, 12, .inl pgf))]) := by
  refine entI (by decide) (Nat.le_of_ble_eq_true rfl) ?_
  intro p e s m below meth c A Q ls hAt hret hP hD hS hl
  obtain ⟨hx, hb, hml, hown, hts, hA, hAb, hK, hE, hlocks, hin⟩ := hAt
  have hG : CG dC dI cI cJ base bB bO cX8_clear 2 RX8 p s m (List.toArray [.ref x0]) c A := ⟨hx, hb, hml, hown, hts, hA, hAb, hK, hE⟩
  have hl : lv_has ls 2 [(0, .ref x0)] := hl
  have c_0 : (0 : Int32).toInt = 0 := by decide
  have c_1 : (1 : Int32).toInt = 1 := by decide
  obtain ⟨H, hHe⟩ : ∃ H : Heap, H = s.heap := ⟨_, rfl⟩
  obtain ⟨locs, hle⟩ : ∃ z : List Loc, z = [] := ⟨_, rfl⟩
  rw [← hHe] at hP
  have hS : va_S A s.heap H locs := by rw [hHe, hle]; exact hS
  suffices hgo : W p l e { frames := 1, cells := 0, slots := 0, locals := 21 } s m (List.toArray [.ref x0]) below meth c H locs 0 0 Q (F0 m 0 ls []) by rw [hHe, hle] at hgo; exact hgo
  refine lv_aload_n hx hb dX8_clear_0 rfl (lv_at hl 0 rfl) ?_
  refine va_get (D := (dC, dI)) (ci := 7) (v := .ref pg) (C := RX8) (T := TX8) (N := 9) hx hb hts inG_X8 hown hK hP 0 rfl rfl 0 (by decide) (hts _ fl_X8_10) (fun _ h9 => h9) rfl dX8_clear_1 ?_
  refine calI (rest := []) (wr := [(x0, .inr (7, [.ref pg, .ref sr, .ref inp, .ref se, .ref so, .ref j0, .ref g, .ref q0, .int xr]))]) hG (c_X4_size l dC dI cI cJ base bB bO pg pgt pgsz pgf ) ml_X8_66 im_X4_size se_X4_size ini_X4 cd_X4_size hd_X4_size ⟨(Nat.le_of_ble_eq_true rfl), (Nat.le_of_ble_eq_true rfl)⟩ (Nat.le_of_ble_eq_true rfl) (Nat.le_of_ble_eq_true rfl) hP hD hS [1, 2] [0] rfl rfl rfl rfl (by decide) 3 1 rfl rfl hl.1 rfl (Nat.le_of_ble_eq_true rfl) dX8_clear_4 (fun r1 u H locs hw2 hP hD hS => ?_)
  have hw2 : (r1 = pgsz) ∧ True := hw2
  obtain ⟨hp3, -⟩ := hw2
  have hp3t := I_eq hp3
  have hP : va_P (dC, dI) vwCl [(x0, .inr (7, [.ref pg, .ref sr, .ref inp, .ref se, .ref so, .ref j0, .ref g, .ref q0, .int xr])), (pg, .inr (3, [.ref pgt, .int pgsz])), (pgt, .inl (cI, 12, .inl pgf))] H := hP
  have hD : va_D A [(x0, .inr (7, [.ref pg, .ref sr, .ref inp, .ref se, .ref so, .ref j0, .ref g, .ref q0, .int xr])), (pg, .inr (3, [.ref pgt, .int pgsz])), (pgt, .inl (cI, 12, .inl pgf))] := hD
  refine lv_istore_n (lv' := [(1, .int r1), (0, .ref x0)]) hx hb dX8_clear_7 rfl hl (by decide) rfl (fun ls hl => ?_)
  refine lv_aload_n hx hb dX8_clear_8 rfl (lv_at hl 1 rfl) ?_
  refine va_get (D := (dC, dI)) (ci := 7) (v := .ref pg) (C := RX8) (T := TX8) (N := 9) hx hb hts inG_X8 hown hK hP 0 rfl rfl 0 (by decide) (hts _ fl_X8_10) (fun _ h9 => h9) rfl dX8_clear_9 ?_
  refine lv_iconst (v := 0) hx hb dX8_clear_12 (by decide) ?_
  refine calV (rest := []) (wr := [(x0, .inr (7, [.ref pg, .ref sr, .ref inp, .ref se, .ref so, .ref j0, .ref g, .ref q0, .int xr]))]) hG (c_X4_shorten l dC dI cI cJ base bB bO pg pgt pgsz pgf 0 (by first | assumption | omega)) ml_X8_84 im_X4_shorten se_X4_shorten ini_X4 cd_X4_shorten hd_X4_shorten ⟨(Nat.le_of_ble_eq_true rfl), (Nat.le_of_ble_eq_true rfl)⟩ (Nat.le_of_ble_eq_true rfl) (Nat.le_of_ble_eq_true rfl) hP hD hS [1, 2] [0] rfl rfl rfl rfl (by decide) 3 1 rfl rfl hl.1 rfl (Nat.le_of_ble_eq_true rfl) dX8_clear_13 (fun u H locs hw4 hP hD hS => ?_)
  obtain ⟨rsz_5, rfl⟩ : ∃ z, z = u := ⟨_, rfl⟩
  have hw4 : (0 ≤ rsz_5.toInt ∧ rsz_5.toInt ≤ 12) ∧ ((rsz_5.toInt = (0 : Int32).toInt ∧ 0 ≤ (0 : Int32).toInt ∧ (0 : Int32).toInt < pgsz.toInt) ∨ (rsz_5.toInt = pgsz.toInt ∧ ((0 : Int32).toInt < 0 ∨ pgsz.toInt ≤ (0 : Int32).toInt))) ∧ True := hw4
  obtain ⟨hp6, hp7, -⟩ := hw4
  have hP : va_P (dC, dI) vwCl [(x0, .inr (7, [.ref pg, .ref sr, .ref inp, .ref se, .ref so, .ref j0, .ref g, .ref q0, .int xr])), (pg, .inr (3, [.ref pgt, .int rsz_5])), (pgt, .inl (cI, 12, .inl pgf))] H := hP
  have hD : va_D A [(x0, .inr (7, [.ref pg, .ref sr, .ref inp, .ref se, .ref so, .ref j0, .ref g, .ref q0, .int xr])), (pg, .inr (3, [.ref pgt, .int rsz_5])), (pgt, .inl (cI, 12, .inl pgf))] := hD
  refine lv_iload_n hx hb dX8_clear_16 rfl (lv_at hl 0 rfl) ?_
  exact hret r1 rsz_5 H locs 17 ls rfl ⟨(show 0 ≤ rsz_5.toInt ∧ rsz_5.toInt ≤ 12 from by first | rfl | assumption | omega), trivial⟩ hP hD hS dX8_clear_17
set_option maxHeartbeats 4000000 in
set_option maxRecDepth 100000 in
theorem c_X8_token (l : Launch) (dC : Nat → ClassId) (dI : Nat → Nat → Nat) (cI cJ : ClassId) (base bB bO : Nat) (x0 : Nat) (pg : Nat) (sr : Nat) (inp : Nat) (se : Nat) (so : Nat) (j0 : Nat) (g : Nat) (q0 : Nat) (xr : Int32) (pgt : Nat) (pgsz : Int32) (pgf : Nat → Int32) (i : Int32) (hq0 : 0 ≤ pgsz.toInt ∧ pgsz.toInt ≤ 12) (hq1 : ∀ j : Nat, -1 ≤ (pgf j).toInt ∧ (pgf j).toInt ≤ 31) : CtI l dC dI cI cJ base bB bO yX8_token cX8_token 2 .int 1 21 [.ref x0, .int i] [(x0, .inr (7, [.ref pg, .ref sr, .ref inp, .ref se, .ref so, .ref j0, .ref g, .ref q0, .int xr])), (pg, .inr (3, [.ref pgt, .int pgsz])), (pgt, .inl (cI, 12, .inl pgf))] (Unit) (fun (res : Int32) (u : Unit) => True) (fun (u : Unit) => [(x0, .inr (7, [.ref pg, .ref sr, .ref inp, .ref se, .ref so, .ref j0, .ref g, .ref q0, .int xr])), (pg, .inr (3, [.ref pgt, .int pgsz])), (pgt, .inl (cI, 12, .inl pgf))]) := by
  refine entI (by decide) (Nat.le_of_ble_eq_true rfl) ?_
  intro p e s m below meth c A Q ls hAt hret hP hD hS hl
  obtain ⟨hx, hb, hml, hown, hts, hA, hAb, hK, hE, hlocks, hin⟩ := hAt
  have hG : CG dC dI cI cJ base bB bO cX8_token 2 RX8 p s m (List.toArray [.ref x0, .int i]) c A := ⟨hx, hb, hml, hown, hts, hA, hAb, hK, hE⟩
  have hl : lv_has ls 2 [(0, .ref x0), (1, .int i)] := hl
  have c_m1 : (-1 : Int32).toInt = -1 := by decide
  have c_0 : (0 : Int32).toInt = 0 := by decide
  have c_1 : (1 : Int32).toInt = 1 := by decide
  obtain ⟨H, hHe⟩ : ∃ H : Heap, H = s.heap := ⟨_, rfl⟩
  obtain ⟨locs, hle⟩ : ∃ z : List Loc, z = [] := ⟨_, rfl⟩
  rw [← hHe] at hP
  have hS : va_S A s.heap H locs := by rw [hHe, hle]; exact hS
  suffices hgo : W p l e { frames := 1, cells := 0, slots := 0, locals := 21 } s m (List.toArray [.ref x0, .int i]) below meth c H locs 0 0 Q (F0 m 0 ls []) by rw [hHe, hle] at hgo; exact hgo
  refine lv_iload_n hx hb dX8_token_0 rfl (lv_at hl 1 rfl) ?_
  refine lv_iconst (v := (-1)) hx hb dX8_token_1 (by decide) ?_
  refine lv_icmp_ne (tgt := 15) hx hb dX8_token_2 (by decide) (fun c1 => ?_) (fun c1 => ?_)
  · have c1' := I_ne c1
    refine lv_aload_n hx hb dX8_token_15 rfl (lv_at hl 0 rfl) ?_
    refine va_get (D := (dC, dI)) (ci := 7) (v := .ref pg) (C := RX8) (T := TX8) (N := 9) hx hb hts inG_X8 hown hK hP 0 rfl rfl 0 (by decide) (hts _ fl_X8_10) (fun _ h9 => h9) rfl dX8_token_16 ?_
    refine lv_iload_n hx hb dX8_token_19 rfl (lv_at hl 1 rfl) ?_
    refine calI (rest := []) (wr := [(x0, .inr (7, [.ref pg, .ref sr, .ref inp, .ref se, .ref so, .ref j0, .ref g, .ref q0, .int xr]))]) hG (c_X4_at l dC dI cI cJ base bB bO pg pgt pgsz pgf i (by first | assumption | omega) (by first | assumption | omega)) ml_X8_87 im_X4_at se_X4_at ini_X4 cd_X4_at hd_X4_at ⟨(Nat.le_of_ble_eq_true rfl), (Nat.le_of_ble_eq_true rfl)⟩ (Nat.le_of_ble_eq_true rfl) (Nat.le_of_ble_eq_true rfl) hP hD hS [1, 2] [0] rfl rfl rfl rfl (by decide) 3 1 rfl rfl hl.1 rfl (Nat.le_of_ble_eq_true rfl) dX8_token_20 (fun r2 u H locs hw3 hP hD hS => ?_)
    have hw3 : (r2 = atf pgf pgsz i) ∧ (-1 ≤ r2.toInt ∧ r2.toInt ≤ 31) ∧ True := hw3
    obtain ⟨hp4, hp5, -⟩ := hw3
    have hp4t := I_eq hp4
    have hP : va_P (dC, dI) vwCl [(x0, .inr (7, [.ref pg, .ref sr, .ref inp, .ref se, .ref so, .ref j0, .ref g, .ref q0, .int xr])), (pg, .inr (3, [.ref pgt, .int pgsz])), (pgt, .inl (cI, 12, .inl pgf))] H := hP
    have hD : va_D A [(x0, .inr (7, [.ref pg, .ref sr, .ref inp, .ref se, .ref so, .ref j0, .ref g, .ref q0, .int xr])), (pg, .inr (3, [.ref pgt, .int pgsz])), (pgt, .inl (cI, 12, .inl pgf))] := hD
    exact hret r2 () H locs 23 ls rfl trivial hP hD hS dX8_token_23
  · have c1' := I_eq c1
    refine lv_aload_n hx hb dX8_token_5 rfl (lv_at hl 0 rfl) ?_
    refine va_get (D := (dC, dI)) (ci := 7) (v := .ref pg) (C := RX8) (T := TX8) (N := 9) hx hb hts inG_X8 hown hK hP 0 rfl rfl 0 (by decide) (hts _ fl_X8_10) (fun _ h9 => h9) rfl dX8_token_6 ?_
    refine calI (rest := []) (wr := [(x0, .inr (7, [.ref pg, .ref sr, .ref inp, .ref se, .ref so, .ref j0, .ref g, .ref q0, .int xr]))]) hG (c_X4_size l dC dI cI cJ base bB bO pg pgt pgsz pgf ) ml_X8_66 im_X4_size se_X4_size ini_X4 cd_X4_size hd_X4_size ⟨(Nat.le_of_ble_eq_true rfl), (Nat.le_of_ble_eq_true rfl)⟩ (Nat.le_of_ble_eq_true rfl) (Nat.le_of_ble_eq_true rfl) hP hD hS [1, 2] [0] rfl rfl rfl rfl (by decide) 3 1 rfl rfl hl.1 rfl (Nat.le_of_ble_eq_true rfl) dX8_token_9 (fun r6 u H locs hw7 hP hD hS => ?_)
    have hw7 : (r6 = pgsz) ∧ True := hw7
    obtain ⟨hp8, -⟩ := hw7
    have hp8t := I_eq hp8
    have hP : va_P (dC, dI) vwCl [(x0, .inr (7, [.ref pg, .ref sr, .ref inp, .ref se, .ref so, .ref j0, .ref g, .ref q0, .int xr])), (pg, .inr (3, [.ref pgt, .int pgsz])), (pgt, .inl (cI, 12, .inl pgf))] H := hP
    have hD : va_D A [(x0, .inr (7, [.ref pg, .ref sr, .ref inp, .ref se, .ref so, .ref j0, .ref g, .ref q0, .int xr])), (pg, .inr (3, [.ref pgt, .int pgsz])), (pgt, .inl (cI, 12, .inl pgf))] := hD
    refine lv_goto (tgt := 23) hx hb dX8_token_12 (by decide) ?_
    exact hret r6 () H locs 23 ls rfl trivial hP hD hS dX8_token_23
set_option maxHeartbeats 4000000 in
set_option maxRecDepth 100000 in
theorem c_X8_kind (l : Launch) (dC : Nat → ClassId) (dI : Nat → Nat → Nat) (cI cJ : ClassId) (base bB bO : Nat) (x0 : Nat) (pg : Nat) (sr : Nat) (inp : Nat) (se : Nat) (so : Nat) (j0 : Nat) (g : Nat) (q0 : Nat) (xr : Int32) (jk : Nat) (z : Nat) (a : Nat) (jg : Int32) (jw : Int32) (jkf : Nat → Int32) (x : Int32) (y : Int32)  : CtI l dC dI cI cJ base bB bO yX8_kind cX8_kind 4 .int 1 21 [.ref x0, .int x, .int y] [(x0, .inr (7, [.ref pg, .ref sr, .ref inp, .ref se, .ref so, .ref j0, .ref g, .ref q0, .int xr])), (j0, .inr (1, [.ref jk, .ref z, .ref a, .int jg, .int jw])), (jk, .inl (cI, 4, .inl jkf))] ((Nat → Int32) × (Int32)) (fun (res : Int32) (u : (Nat → Int32) × (Int32)) => (res = kindRes jkf x y) ∧ (u.1 = kindNew jkf x y) ∧ True) (fun (u : (Nat → Int32) × (Int32)) => [(x0, .inr (7, [.ref pg, .ref sr, .ref inp, .ref se, .ref so, .ref j0, .ref g, .ref q0, .int u.2])), (j0, .inr (1, [.ref jk, .ref z, .ref a, .int jg, .int jw])), (jk, .inl (cI, 4, .inl u.1))]) := by
  refine entI (by decide) (Nat.le_of_ble_eq_true rfl) ?_
  intro p e s m below meth c A Q ls hAt hret hP hD hS hl
  obtain ⟨hx, hb, hml, hown, hts, hA, hAb, hK, hE, hlocks, hin⟩ := hAt
  have hG : CG dC dI cI cJ base bB bO cX8_kind 4 RX8 p s m (List.toArray [.ref x0, .int x, .int y]) c A := ⟨hx, hb, hml, hown, hts, hA, hAb, hK, hE⟩
  have hl : lv_has ls 4 [(0, .ref x0), (1, .int x), (2, .int y)] := hl
  have c_m1 : (-1 : Int32).toInt = -1 := by decide
  have c_0 : (0 : Int32).toInt = 0 := by decide
  have c_1 : (1 : Int32).toInt = 1 := by decide
  have c_4 : (4 : Int32).toInt = 4 := by decide
  obtain ⟨H, hHe⟩ : ∃ H : Heap, H = s.heap := ⟨_, rfl⟩
  obtain ⟨locs, hle⟩ : ∃ z : List Loc, z = [] := ⟨_, rfl⟩
  rw [← hHe] at hP
  have hS : va_S A s.heap H locs := by rw [hHe, hle]; exact hS
  suffices hgo : W p l e { frames := 1, cells := 0, slots := 0, locals := 21 } s m (List.toArray [.ref x0, .int x, .int y]) below meth c H locs 0 0 Q (F0 m 0 ls []) by rw [hHe, hle] at hgo; exact hgo
  refine lv_iload_n hx hb dX8_kind_0 rfl (lv_at hl 1 rfl) ?_
  refine lv_if_lt (tgt := 16) hx hb dX8_kind_1 (by decide) (fun c1 => ?_) (fun c1 => ?_)
  · have c1' := I_lt c1
    refine lv_aload_n hx hb dX8_kind_16 rfl (lv_at hl 0 rfl) ?_
    refine lv_iconst (v := (-1)) hx hb dX8_kind_17 (by decide) ?_
    refine calI (rest := []) (wr := [(j0, .inr (1, [.ref jk, .ref z, .ref a, .int jg, .int jw])), (jk, .inl (cI, 4, .inl jkf))]) hG (c_X8_refuse l dC dI cI cJ base bB bO x0 pg sr inp se so j0 g q0 xr (-1) ) ml_X8_62 im_X8_refuse se_X8_refuse ini_X8 cd_X8_refuse hd_X8_refuse ⟨(Nat.le_of_ble_eq_true rfl), (Nat.le_of_ble_eq_true rfl)⟩ (Nat.le_of_ble_eq_true rfl) (Nat.le_of_ble_eq_true rfl) hP hD hS [0] [1, 2] rfl rfl rfl rfl (by decide) 7 0 rfl rfl hl.1 rfl (Nat.le_of_ble_eq_true rfl) dX8_kind_18 (fun r2 u H locs hw3 hP hD hS => ?_)
    obtain ⟨xr_4, rfl⟩ : ∃ z, z = u := ⟨_, rfl⟩
    have hw3 : (r2 = (-1 : Int32)) ∧ (xr_4 = (-1 : Int32)) ∧ True := hw3
    obtain ⟨hp5, hp6, -⟩ := hw3
    have hp5t := I_eq hp5
    have hP : va_P (dC, dI) vwCl [(j0, .inr (1, [.ref jk, .ref z, .ref a, .int jg, .int jw])), (jk, .inl (cI, 4, .inl jkf)), (x0, .inr (7, [.ref pg, .ref sr, .ref inp, .ref se, .ref so, .ref j0, .ref g, .ref q0, .int xr_4]))] H := hP
    have hD : va_D A [(j0, .inr (1, [.ref jk, .ref z, .ref a, .int jg, .int jw])), (jk, .inl (cI, 4, .inl jkf)), (x0, .inr (7, [.ref pg, .ref sr, .ref inp, .ref se, .ref so, .ref j0, .ref g, .ref q0, .int xr_4]))] := hD
    exact hret r2 (jkf, xr_4) H locs 21 ls rfl ⟨(show r2 = kindRes jkf x y from by first | exact kindRes_no (by omega) (by assumption) | exact kindRes_yes (by omega) (by assumption) e_), (show jkf = kindNew jkf x y from by first | exact kindNew_no (by omega) | exact kindNew_yes (by omega) ejkf), trivial⟩ (hP.sub (ws' := [(x0, .inr (7, [.ref pg, .ref sr, .ref inp, .ref se, .ref so, .ref j0, .ref g, .ref q0, .int xr_4])), (j0, .inr (1, [.ref jk, .ref z, .ref a, .int jg, .int jw])), (jk, .inl (cI, 4, .inl jkf))]) [2, 0, 1] rfl) (hD.sub (ws' := [(x0, .inr (7, [.ref pg, .ref sr, .ref inp, .ref se, .ref so, .ref j0, .ref g, .ref q0, .int xr_4])), (j0, .inr (1, [.ref jk, .ref z, .ref a, .int jg, .int jw])), (jk, .inl (cI, 4, .inl jkf))]) [2, 0, 1] (by decide) rfl) hS dX8_kind_21
  · have c1' := I_nlt c1
    refine lv_iload_n hx hb dX8_kind_4 rfl (lv_at hl 1 rfl) ?_
    refine lv_iconst (v := 4) hx hb dX8_kind_5 (by decide) ?_
    refine lv_icmp_ge (tgt := 16) hx hb dX8_kind_6 (by decide) (fun c7 => ?_) (fun c7 => ?_)
    · have c7' := I_le c7
      refine lv_aload_n hx hb dX8_kind_16 rfl (lv_at hl 0 rfl) ?_
      refine lv_iconst (v := (-1)) hx hb dX8_kind_17 (by decide) ?_
      refine calI (rest := []) (wr := [(j0, .inr (1, [.ref jk, .ref z, .ref a, .int jg, .int jw])), (jk, .inl (cI, 4, .inl jkf))]) hG (c_X8_refuse l dC dI cI cJ base bB bO x0 pg sr inp se so j0 g q0 xr (-1) ) ml_X8_62 im_X8_refuse se_X8_refuse ini_X8 cd_X8_refuse hd_X8_refuse ⟨(Nat.le_of_ble_eq_true rfl), (Nat.le_of_ble_eq_true rfl)⟩ (Nat.le_of_ble_eq_true rfl) (Nat.le_of_ble_eq_true rfl) hP hD hS [0] [1, 2] rfl rfl rfl rfl (by decide) 7 0 rfl rfl hl.1 rfl (Nat.le_of_ble_eq_true rfl) dX8_kind_18 (fun r8 u H locs hw9 hP hD hS => ?_)
      obtain ⟨xr_10, rfl⟩ : ∃ z, z = u := ⟨_, rfl⟩
      have hw9 : (r8 = (-1 : Int32)) ∧ (xr_10 = (-1 : Int32)) ∧ True := hw9
      obtain ⟨hp11, hp12, -⟩ := hw9
      have hp11t := I_eq hp11
      have hP : va_P (dC, dI) vwCl [(j0, .inr (1, [.ref jk, .ref z, .ref a, .int jg, .int jw])), (jk, .inl (cI, 4, .inl jkf)), (x0, .inr (7, [.ref pg, .ref sr, .ref inp, .ref se, .ref so, .ref j0, .ref g, .ref q0, .int xr_10]))] H := hP
      have hD : va_D A [(j0, .inr (1, [.ref jk, .ref z, .ref a, .int jg, .int jw])), (jk, .inl (cI, 4, .inl jkf)), (x0, .inr (7, [.ref pg, .ref sr, .ref inp, .ref se, .ref so, .ref j0, .ref g, .ref q0, .int xr_10]))] := hD
      exact hret r8 (jkf, xr_10) H locs 21 ls rfl ⟨(show r8 = kindRes jkf x y from by first | exact kindRes_no (by omega) (by assumption) | exact kindRes_yes (by omega) (by assumption) e_), (show jkf = kindNew jkf x y from by first | exact kindNew_no (by omega) | exact kindNew_yes (by omega) ejkf), trivial⟩ (hP.sub (ws' := [(x0, .inr (7, [.ref pg, .ref sr, .ref inp, .ref se, .ref so, .ref j0, .ref g, .ref q0, .int xr_10])), (j0, .inr (1, [.ref jk, .ref z, .ref a, .int jg, .int jw])), (jk, .inl (cI, 4, .inl jkf))]) [2, 0, 1] rfl) (hD.sub (ws' := [(x0, .inr (7, [.ref pg, .ref sr, .ref inp, .ref se, .ref so, .ref j0, .ref g, .ref q0, .int xr_10])), (j0, .inr (1, [.ref jk, .ref z, .ref a, .int jg, .int jw])), (jk, .inl (cI, 4, .inl jkf))]) [2, 0, 1] (by decide) rfl) hS dX8_kind_21
    · have c7' := I_nle c7
      refine lv_iload_n hx hb dX8_kind_9 rfl (lv_at hl 2 rfl) ?_
      refine calOI (rest := []) (wr := [(x0, .inr (7, [.ref pg, .ref sr, .ref inp, .ref se, .ref so, .ref j0, .ref g, .ref q0, .int xr])), (j0, .inr (1, [.ref jk, .ref z, .ref a, .int jg, .int jw])), (jk, .inl (cI, 4, .inl jkf))]) hG (c_X8_isKind l dC dI cI cJ base bB bO y ) ml_X8_90 st_X8_isKind ini_X8 cd_X8_isKind hd_X8_isKind.2 ⟨(Nat.le_of_ble_eq_true rfl), (Nat.le_of_ble_eq_true rfl)⟩ (Nat.le_of_ble_eq_true rfl) (Nat.le_of_ble_eq_true rfl) hP hD hS [] [0, 1, 2] rfl rfl rfl rfl (by decide) hl.1 rfl (Nat.le_of_ble_eq_true rfl) dX8_kind_10 (fun r13 u H locs hw14 hP hD hS => ?_)
      have hw14 : ((r13.toInt = 1 ∧ 0 ≤ y.toInt ∧ y.toInt ≤ 1) ∨ (r13.toInt = 0 ∧ (y.toInt < 0 ∨ 1 < y.toInt))) ∧ True := hw14
      obtain ⟨hp15, -⟩ := hw14
      have hP : va_P (dC, dI) vwCl [(x0, .inr (7, [.ref pg, .ref sr, .ref inp, .ref se, .ref so, .ref j0, .ref g, .ref q0, .int xr])), (j0, .inr (1, [.ref jk, .ref z, .ref a, .int jg, .int jw])), (jk, .inl (cI, 4, .inl jkf))] H := hP
      have hD : va_D A [(x0, .inr (7, [.ref pg, .ref sr, .ref inp, .ref se, .ref so, .ref j0, .ref g, .ref q0, .int xr])), (j0, .inr (1, [.ref jk, .ref z, .ref a, .int jg, .int jw])), (jk, .inl (cI, 4, .inl jkf))] := hD
      refine lv_if_ne (tgt := 22) hx hb dX8_kind_13 (by decide) (fun c16 => ?_) (fun c16 => ?_)
      · have c16' := I_ne c16
        refine lv_aload_n hx hb dX8_kind_22 rfl (lv_at hl 0 rfl) ?_
        refine va_get (D := (dC, dI)) (ci := 7) (v := .ref j0) (C := RX8) (T := TX8) (N := 9) hx hb hts inG_X8 hown hK hP 0 rfl rfl 5 (by decide) (hts _ fl_X8_36) (fun _ h9 => h9) rfl dX8_kind_23 ?_
        refine va_get (D := (dC, dI)) (ci := 1) (v := .ref jk) (C := RX1) (T := TX1) (N := 5) hx hb hts inG_X1 hown hK hP 1 rfl rfl 0 (by decide) (hts _ fl_X8_93) (fun _ h9 => h9) rfl dX8_kind_26 ?_
        refine lv_iload_n hx hb dX8_kind_29 rfl (lv_at hl 1 rfl) ?_
        refine va_iald (t0 := 0) hx hb hK hP 2 (ha := rfl) (ht := rfl) (I_in (by omega) (by omega)) dX8_kind_30 ?_
        refine lv_topi (fun v17 ev17 => ?_)
        refine lv_istore_n (lv' := [(3, .int v17), (0, .ref x0), (1, .int x), (2, .int y)]) hx hb dX8_kind_31 rfl hl (by decide) rfl (fun ls hl => ?_)
        refine lv_aload_n hx hb dX8_kind_32 rfl (lv_at hl 1 rfl) ?_
        refine va_get (D := (dC, dI)) (ci := 7) (v := .ref j0) (C := RX8) (T := TX8) (N := 9) hx hb hts inG_X8 hown hK hP 0 rfl rfl 5 (by decide) (hts _ fl_X8_36) (fun _ h9 => h9) rfl dX8_kind_33 ?_
        refine va_get (D := (dC, dI)) (ci := 1) (v := .ref jk) (C := RX1) (T := TX1) (N := 5) hx hb hts inG_X1 hown hK hP 1 rfl rfl 0 (by decide) (hts _ fl_X8_93) (fun _ h9 => h9) rfl dX8_kind_36 ?_
        refine lv_iload_n hx hb dX8_kind_39 rfl (lv_at hl 2 rfl) ?_
        refine lv_iload_n hx hb dX8_kind_40 rfl (lv_at hl 3 rfl) ?_
        refine va_iast (t0 := 0) hx hb hK hP hD hS 2 (ha := rfl) (ht := rfl) (I_in (by omega) (by omega)) dX8_kind_41 (fun H locs hP hD hS => ?_)
        have hP : va_P (dC, dI) vwCl [(x0, .inr (7, [.ref pg, .ref sr, .ref inp, .ref se, .ref so, .ref j0, .ref g, .ref q0, .int xr])), (j0, .inr (1, [.ref jk, .ref z, .ref a, .int jg, .int jw])), (jk, .inl (cI, 4, .inl (upd jkf x.toNatClampNeg y)))] H := hP
        have hD : va_D A [(x0, .inr (7, [.ref pg, .ref sr, .ref inp, .ref se, .ref so, .ref j0, .ref g, .ref q0, .int xr])), (j0, .inr (1, [.ref jk, .ref z, .ref a, .int jg, .int jw])), (jk, .inl (cI, 4, .inl (upd jkf x.toNatClampNeg y)))] := hD
        generalize ef18 : upd jkf x.toNatClampNeg y = f18 at hP hD
        refine lv_aload_n hx hb dX8_kind_42 rfl (lv_at hl 1 rfl) ?_
        refine lv_iload_n hx hb dX8_kind_43 rfl (lv_at hl 0 rfl) ?_
        refine calI (rest := []) (wr := [(j0, .inr (1, [.ref jk, .ref z, .ref a, .int jg, .int jw])), (jk, .inl (cI, 4, .inl f18))]) hG (c_X8_accept l dC dI cI cJ base bB bO x0 pg sr inp se so j0 g q0 xr v17 ) ml_X8_74 im_X8_accept se_X8_accept ini_X8 cd_X8_accept hd_X8_accept ⟨(Nat.le_of_ble_eq_true rfl), (Nat.le_of_ble_eq_true rfl)⟩ (Nat.le_of_ble_eq_true rfl) (Nat.le_of_ble_eq_true rfl) hP hD hS [0] [1, 2] rfl rfl rfl rfl (by decide) 7 0 rfl rfl hl.1 rfl (Nat.le_of_ble_eq_true rfl) dX8_kind_44 (fun r19 u H locs hw20 hP hD hS => ?_)
        obtain ⟨xr_21, rfl⟩ : ∃ z, z = u := ⟨_, rfl⟩
        have hw20 : (r19 = v17) ∧ (xr_21.toInt = 0) ∧ True := hw20
        obtain ⟨hp22, hp23, -⟩ := hw20
        have hp22t := I_eq hp22
        have hP : va_P (dC, dI) vwCl [(j0, .inr (1, [.ref jk, .ref z, .ref a, .int jg, .int jw])), (jk, .inl (cI, 4, .inl f18)), (x0, .inr (7, [.ref pg, .ref sr, .ref inp, .ref se, .ref so, .ref j0, .ref g, .ref q0, .int xr_21]))] H := hP
        have hD : va_D A [(j0, .inr (1, [.ref jk, .ref z, .ref a, .int jg, .int jw])), (jk, .inl (cI, 4, .inl f18)), (x0, .inr (7, [.ref pg, .ref sr, .ref inp, .ref se, .ref so, .ref j0, .ref g, .ref q0, .int xr_21]))] := hD
        exact hret r19 (f18, xr_21) H locs 47 ls rfl ⟨(show r19 = kindRes jkf x y from by first | exact kindRes_no (by omega) (by assumption) | exact kindRes_yes (by omega) (by assumption) ev17), (show f18 = kindNew jkf x y from by first | exact kindNew_no (by omega) | exact kindNew_yes (by omega) ef18), trivial⟩ (hP.sub (ws' := [(x0, .inr (7, [.ref pg, .ref sr, .ref inp, .ref se, .ref so, .ref j0, .ref g, .ref q0, .int xr_21])), (j0, .inr (1, [.ref jk, .ref z, .ref a, .int jg, .int jw])), (jk, .inl (cI, 4, .inl f18))]) [2, 0, 1] rfl) (hD.sub (ws' := [(x0, .inr (7, [.ref pg, .ref sr, .ref inp, .ref se, .ref so, .ref j0, .ref g, .ref q0, .int xr_21])), (j0, .inr (1, [.ref jk, .ref z, .ref a, .int jg, .int jw])), (jk, .inl (cI, 4, .inl f18))]) [2, 0, 1] (by decide) rfl) hS dX8_kind_47
      · have c16' := I_eq c16
        refine lv_aload_n hx hb dX8_kind_16 rfl (lv_at hl 0 rfl) ?_
        refine lv_iconst (v := (-1)) hx hb dX8_kind_17 (by decide) ?_
        refine calI (rest := []) (wr := [(j0, .inr (1, [.ref jk, .ref z, .ref a, .int jg, .int jw])), (jk, .inl (cI, 4, .inl jkf))]) hG (c_X8_refuse l dC dI cI cJ base bB bO x0 pg sr inp se so j0 g q0 xr (-1) ) ml_X8_62 im_X8_refuse se_X8_refuse ini_X8 cd_X8_refuse hd_X8_refuse ⟨(Nat.le_of_ble_eq_true rfl), (Nat.le_of_ble_eq_true rfl)⟩ (Nat.le_of_ble_eq_true rfl) (Nat.le_of_ble_eq_true rfl) hP hD hS [0] [1, 2] rfl rfl rfl rfl (by decide) 7 0 rfl rfl hl.1 rfl (Nat.le_of_ble_eq_true rfl) dX8_kind_18 (fun r24 u H locs hw25 hP hD hS => ?_)
        obtain ⟨xr_26, rfl⟩ : ∃ z, z = u := ⟨_, rfl⟩
        have hw25 : (r24 = (-1 : Int32)) ∧ (xr_26 = (-1 : Int32)) ∧ True := hw25
        obtain ⟨hp27, hp28, -⟩ := hw25
        have hp27t := I_eq hp27
        have hP : va_P (dC, dI) vwCl [(j0, .inr (1, [.ref jk, .ref z, .ref a, .int jg, .int jw])), (jk, .inl (cI, 4, .inl jkf)), (x0, .inr (7, [.ref pg, .ref sr, .ref inp, .ref se, .ref so, .ref j0, .ref g, .ref q0, .int xr_26]))] H := hP
        have hD : va_D A [(j0, .inr (1, [.ref jk, .ref z, .ref a, .int jg, .int jw])), (jk, .inl (cI, 4, .inl jkf)), (x0, .inr (7, [.ref pg, .ref sr, .ref inp, .ref se, .ref so, .ref j0, .ref g, .ref q0, .int xr_26]))] := hD
        exact hret r24 (jkf, xr_26) H locs 21 ls rfl ⟨(show r24 = kindRes jkf x y from by first | exact kindRes_no (by omega) (by assumption) | exact kindRes_yes (by omega) (by assumption) ev17), (show jkf = kindNew jkf x y from by first | exact kindNew_no (by omega) | exact kindNew_yes (by omega) ejkf), trivial⟩ (hP.sub (ws' := [(x0, .inr (7, [.ref pg, .ref sr, .ref inp, .ref se, .ref so, .ref j0, .ref g, .ref q0, .int xr_26])), (j0, .inr (1, [.ref jk, .ref z, .ref a, .int jg, .int jw])), (jk, .inl (cI, 4, .inl jkf))]) [2, 0, 1] rfl) (hD.sub (ws' := [(x0, .inr (7, [.ref pg, .ref sr, .ref inp, .ref se, .ref so, .ref j0, .ref g, .ref q0, .int xr_26])), (j0, .inr (1, [.ref jk, .ref z, .ref a, .int jg, .int jw])), (jk, .inl (cI, 4, .inl jkf))]) [2, 0, 1] (by decide) rfl) hS dX8_kind_21
set_option maxHeartbeats 4000000 in
set_option maxRecDepth 100000 in
theorem c_X8_fault (l : Launch) (dC : Nat → ClassId) (dI : Nat → Nat → Nat) (cI cJ : ClassId) (base bB bO : Nat) (x0 : Nat) (pg : Nat) (sr : Nat) (inp : Nat) (se : Nat) (so : Nat) (j0 : Nat) (g : Nat) (q0 : Nat) (xr : Int32) (pgt : Nat) (pgsz : Int32) (pgf : Nat → Int32) (hq0 : 0 ≤ pgsz.toInt ∧ pgsz.toInt ≤ 12) (hq1 : ∀ j : Nat, -1 ≤ (pgf j).toInt ∧ (pgf j).toInt ≤ 31) : CtI l dC dI cI cJ base bB bO yX8_fault cX8_fault 1 .int 5 108 [.ref x0] [(x0, .inr (7, [.ref pg, .ref sr, .ref inp, .ref se, .ref so, .ref j0, .ref g, .ref q0, .int xr])), (pg, .inr (3, [.ref pgt, .int pgsz])), (pgt, .inl (cI, 12, .inl pgf))] (Unit) (fun (res : Int32) (u : Unit) => True) (fun (u : Unit) => [(x0, .inr (7, [.ref pg, .ref sr, .ref inp, .ref se, .ref so, .ref j0, .ref g, .ref q0, .int xr])), (pg, .inr (3, [.ref pgt, .int pgsz])), (pgt, .inl (cI, 12, .inl pgf))]) := by
  refine entI (by decide) (Nat.le_of_ble_eq_true rfl) ?_
  intro p e s m below meth c A Q ls hAt hret hP hD hS hl
  obtain ⟨hx, hb, hml, hown, hts, hA, hAb, hK, hE, hlocks, hin⟩ := hAt
  have hG : CG dC dI cI cJ base bB bO cX8_fault 1 RX8 p s m (List.toArray [.ref x0]) c A := ⟨hx, hb, hml, hown, hts, hA, hAb, hK, hE⟩
  have hl : lv_has ls 1 [(0, .ref x0)] := hl
  have c_0 : (0 : Int32).toInt = 0 := by decide
  have c_1 : (1 : Int32).toInt = 1 := by decide
  obtain ⟨H, hHe⟩ : ∃ H : Heap, H = s.heap := ⟨_, rfl⟩
  obtain ⟨locs, hle⟩ : ∃ z : List Loc, z = [] := ⟨_, rfl⟩
  rw [← hHe] at hP
  have hS : va_S A s.heap H locs := by rw [hHe, hle]; exact hS
  suffices hgo : W p l e { frames := 5, cells := 0, slots := 0, locals := 108 } s m (List.toArray [.ref x0]) below meth c H locs 0 0 Q (F0 m 0 ls []) by rw [hHe, hle] at hgo; exact hgo
  refine lv_aload_n hx hb dX8_fault_0 rfl (lv_at hl 0 rfl) ?_
  refine va_get (D := (dC, dI)) (ci := 7) (v := .ref pg) (C := RX8) (T := TX8) (N := 9) hx hb hts inG_X8 hown hK hP 0 rfl rfl 0 (by decide) (hts _ fl_X8_10) (fun _ h9 => h9) rfl dX8_fault_1 ?_
  refine calOI (rest := []) (wr := [(x0, .inr (7, [.ref pg, .ref sr, .ref inp, .ref se, .ref so, .ref j0, .ref g, .ref q0, .int xr]))]) hG (c_X3_faultOf l dC dI cI cJ base bB bO pg pgt pgsz pgf (by first | assumption | omega) (by first | assumption | omega)) ml_X8_96 st_X3_faultOf ini_X3 cd_X3_faultOf hd_X3_faultOf.2 ⟨(Nat.le_of_ble_eq_true rfl), (Nat.le_of_ble_eq_true rfl)⟩ (Nat.le_of_ble_eq_true rfl) (Nat.le_of_ble_eq_true rfl) hP hD hS [1, 2] [0] rfl rfl rfl rfl (by decide) hl.1 rfl (Nat.le_of_ble_eq_true rfl) dX8_fault_4 (fun r1 u H locs hw2 hP hD hS => ?_)
  have hP : va_P (dC, dI) vwCl [(x0, .inr (7, [.ref pg, .ref sr, .ref inp, .ref se, .ref so, .ref j0, .ref g, .ref q0, .int xr])), (pg, .inr (3, [.ref pgt, .int pgsz])), (pgt, .inl (cI, 12, .inl pgf))] H := hP
  have hD : va_D A [(x0, .inr (7, [.ref pg, .ref sr, .ref inp, .ref se, .ref so, .ref j0, .ref g, .ref q0, .int xr])), (pg, .inr (3, [.ref pgt, .int pgsz])), (pgt, .inl (cI, 12, .inl pgf))] := hD
  exact hret r1 () H locs 7 ls rfl trivial hP hD hS dX8_fault_7
set_option maxHeartbeats 4000000 in
set_option maxRecDepth 100000 in
theorem c_X8_understood (l : Launch) (dC : Nat → ClassId) (dI : Nat → Nat → Nat) (cI cJ : ClassId) (base bB bO : Nat) (x0 : Nat) (xp : Nat) (xs : Nat) (inp : Nat) (xe : Nat) (xo : Nat) (j0 : Nat) (g : Nat) (q0 : Nat) (xr : Int32) (jk : Nat) (z : Nat) (ja : Nat) (jg : Int32) (jw : Int32) (jkf : Nat → Int32) (r : Nat) (rt : Nat) (rsz : Int32) (rf : Nat → Int32) (a : Nat) (as : Nat) (aw : Nat) (ak : Nat) (asc : Int32) (awc : Int32) (aht : Int32) (afi : Int32) (amd : Int32) (asf : Nat → Int32) (awf : Nat → Int32) (akf : Nat → Int32) (hq0 : 0 ≤ rsz.toInt ∧ rsz.toInt ≤ 12) (hq1 : ∀ j : Nat, -1 ≤ (rf j).toInt ∧ (rf j).toInt ≤ 31) (hq2 : 0 ≤ asc.toInt ∧ asc.toInt ≤ 12) (hq3 : 0 ≤ awc.toInt ∧ awc.toInt ≤ 12) (hq4 : 0 ≤ aht.toInt ∧ aht.toInt ≤ 12) (hq5 : afi.toInt = 0 ∨ afi.toInt = 1) (hq6 : ∀ j : Nat, 0 ≤ (awf j).toInt ∧ (awf j).toInt < 12) (hq7 : stOK asf asc) : CtI l dC dI cI cJ base bB bO yX8_understood cX8_understood 3 .boolean 5 108 [.ref x0, .ref r, .ref a] [(x0, .inr (7, [.ref xp, .ref xs, .ref inp, .ref xe, .ref xo, .ref j0, .ref g, .ref q0, .int xr])), (j0, .inr (1, [.ref jk, .ref z, .ref ja, .int jg, .int jw])), (jk, .inl (cI, 4, .inl jkf)), (r, .inr (3, [.ref rt, .int rsz])), (rt, .inl (cI, 12, .inl rf)), (a, .inr (5, [.ref as, .ref aw, .ref ak, .int asc, .int awc, .int aht, .int afi, .int amd])), (as, .inl (cI, 12, .inl asf)), (aw, .inl (cI, 12, .inl awf)), (ak, .inl (cI, 12, .inl akf))] ((Int32) × (Int32) × (Int32) × (Int32) × (Int32) × (Nat → Int32) × (Nat → Int32) × (Nat → Int32)) (fun (res : Int32) (u : (Int32) × (Int32) × (Int32) × (Int32) × (Int32) × (Nat → Int32) × (Nat → Int32) × (Nat → Int32)) => (res.toInt = 0 ∨ res.toInt = 1) ∧ (0 ≤ u.1.toInt ∧ u.1.toInt ≤ 12) ∧ (0 ≤ u.2.1.toInt ∧ u.2.1.toInt ≤ 12) ∧ (0 ≤ u.2.2.1.toInt ∧ u.2.2.1.toInt ≤ 12) ∧ (u.2.2.2.1.toInt = 0 ∨ u.2.2.2.1.toInt = 1) ∧ (∀ j : Nat, 0 ≤ (u.2.2.2.2.2.2.1 j).toInt ∧ (u.2.2.2.2.2.2.1 j).toInt < 12) ∧ (stOK u.2.2.2.2.2.1 u.1) ∧ True) (fun (u : (Int32) × (Int32) × (Int32) × (Int32) × (Int32) × (Nat → Int32) × (Nat → Int32) × (Nat → Int32)) => [(x0, .inr (7, [.ref xp, .ref xs, .ref inp, .ref xe, .ref xo, .ref j0, .ref g, .ref q0, .int xr])), (j0, .inr (1, [.ref jk, .ref z, .ref ja, .int jg, .int jw])), (jk, .inl (cI, 4, .inl jkf)), (r, .inr (3, [.ref rt, .int rsz])), (rt, .inl (cI, 12, .inl rf)), (a, .inr (5, [.ref as, .ref aw, .ref ak, .int u.1, .int u.2.1, .int u.2.2.1, .int u.2.2.2.1, .int u.2.2.2.2.1])), (as, .inl (cI, 12, .inl u.2.2.2.2.2.1)), (aw, .inl (cI, 12, .inl u.2.2.2.2.2.2.1)), (ak, .inl (cI, 12, .inl u.2.2.2.2.2.2.2))]) := by
  refine entI (by decide) (Nat.le_of_ble_eq_true rfl) ?_
  intro p e s m below meth c A Q ls hAt hret hP hD hS hl
  obtain ⟨hx, hb, hml, hown, hts, hA, hAb, hK, hE, hlocks, hin⟩ := hAt
  have hG : CG dC dI cI cJ base bB bO cX8_understood 3 RX8 p s m (List.toArray [.ref x0, .ref r, .ref a]) c A := ⟨hx, hb, hml, hown, hts, hA, hAb, hK, hE⟩
  have hl : lv_has ls 3 [(0, .ref x0), (1, .ref r), (2, .ref a)] := hl
  have c_m1 : (-1 : Int32).toInt = -1 := by decide
  have c_0 : (0 : Int32).toInt = 0 := by decide
  have c_1 : (1 : Int32).toInt = 1 := by decide
  obtain ⟨H, hHe⟩ : ∃ H : Heap, H = s.heap := ⟨_, rfl⟩
  obtain ⟨locs, hle⟩ : ∃ z : List Loc, z = [] := ⟨_, rfl⟩
  rw [← hHe] at hP
  have hS : va_S A s.heap H locs := by rw [hHe, hle]; exact hS
  suffices hgo : W p l e { frames := 5, cells := 0, slots := 0, locals := 108 } s m (List.toArray [.ref x0, .ref r, .ref a]) below meth c H locs 0 0 Q (F0 m 0 ls []) by rw [hHe, hle] at hgo; exact hgo
  refine lv_aload_n hx hb dX8_understood_0 rfl (lv_at hl 1 rfl) ?_
  refine calOI (rest := []) (wr := [(x0, .inr (7, [.ref xp, .ref xs, .ref inp, .ref xe, .ref xo, .ref j0, .ref g, .ref q0, .int xr])), (j0, .inr (1, [.ref jk, .ref z, .ref ja, .int jg, .int jw])), (jk, .inl (cI, 4, .inl jkf)), (a, .inr (5, [.ref as, .ref aw, .ref ak, .int asc, .int awc, .int aht, .int afi, .int amd])), (as, .inl (cI, 12, .inl asf)), (aw, .inl (cI, 12, .inl awf)), (ak, .inl (cI, 12, .inl akf))]) hG (c_X3_faultOf l dC dI cI cJ base bB bO r rt rsz rf (by first | assumption | omega) (by first | assumption | omega)) ml_X8_96 st_X3_faultOf ini_X3 cd_X3_faultOf hd_X3_faultOf.2 ⟨(Nat.le_of_ble_eq_true rfl), (Nat.le_of_ble_eq_true rfl)⟩ (Nat.le_of_ble_eq_true rfl) (Nat.le_of_ble_eq_true rfl) hP hD hS [3, 4] [0, 1, 2, 5, 6, 7, 8] rfl rfl rfl rfl (by decide) hl.1 rfl (Nat.le_of_ble_eq_true rfl) dX8_understood_1 (fun r1 u H locs hw2 hP hD hS => ?_)
  have hP : va_P (dC, dI) vwCl [(x0, .inr (7, [.ref xp, .ref xs, .ref inp, .ref xe, .ref xo, .ref j0, .ref g, .ref q0, .int xr])), (j0, .inr (1, [.ref jk, .ref z, .ref ja, .int jg, .int jw])), (jk, .inl (cI, 4, .inl jkf)), (a, .inr (5, [.ref as, .ref aw, .ref ak, .int asc, .int awc, .int aht, .int afi, .int amd])), (as, .inl (cI, 12, .inl asf)), (aw, .inl (cI, 12, .inl awf)), (ak, .inl (cI, 12, .inl akf)), (r, .inr (3, [.ref rt, .int rsz])), (rt, .inl (cI, 12, .inl rf))] H := hP
  have hD : va_D A [(x0, .inr (7, [.ref xp, .ref xs, .ref inp, .ref xe, .ref xo, .ref j0, .ref g, .ref q0, .int xr])), (j0, .inr (1, [.ref jk, .ref z, .ref ja, .int jg, .int jw])), (jk, .inl (cI, 4, .inl jkf)), (a, .inr (5, [.ref as, .ref aw, .ref ak, .int asc, .int awc, .int aht, .int afi, .int amd])), (as, .inl (cI, 12, .inl asf)), (aw, .inl (cI, 12, .inl awf)), (ak, .inl (cI, 12, .inl akf)), (r, .inr (3, [.ref rt, .int rsz])), (rt, .inl (cI, 12, .inl rf))] := hD
  refine lv_iconst (v := (-1)) hx hb dX8_understood_4 (by decide) ?_
  refine lv_icmp_ne (tgt := 28) hx hb dX8_understood_5 (by decide) (fun c3 => ?_) (fun c3 => ?_)
  · have c3' := I_ne c3
    refine lv_iconst (v := 0) hx hb dX8_understood_28 (by decide) ?_
    exact hret 0 (asc, awc, aht, afi, amd, asf, awf, akf) H locs 29 ls (by first | rfl | exact I_narz (by omega)) ⟨(show (0 : Int32).toInt = 0 ∨ (0 : Int32).toInt = 1 from by first | rfl | assumption | omega), (show 0 ≤ asc.toInt ∧ asc.toInt ≤ 12 from by first | rfl | assumption | omega), (show 0 ≤ awc.toInt ∧ awc.toInt ≤ 12 from by first | rfl | assumption | omega), (show 0 ≤ aht.toInt ∧ aht.toInt ≤ 12 from by first | rfl | assumption | omega), (show afi.toInt = 0 ∨ afi.toInt = 1 from by first | rfl | assumption | omega), (show ∀ j : Nat, 0 ≤ (awf j).toInt ∧ (awf j).toInt < 12 from by first | rfl | assumption | omega), (show stOK asf asc from by first | rfl | assumption | omega), trivial⟩ (hP.sub (ws' := [(x0, .inr (7, [.ref xp, .ref xs, .ref inp, .ref xe, .ref xo, .ref j0, .ref g, .ref q0, .int xr])), (j0, .inr (1, [.ref jk, .ref z, .ref ja, .int jg, .int jw])), (jk, .inl (cI, 4, .inl jkf)), (r, .inr (3, [.ref rt, .int rsz])), (rt, .inl (cI, 12, .inl rf)), (a, .inr (5, [.ref as, .ref aw, .ref ak, .int asc, .int awc, .int aht, .int afi, .int amd])), (as, .inl (cI, 12, .inl asf)), (aw, .inl (cI, 12, .inl awf)), (ak, .inl (cI, 12, .inl akf))]) [0, 1, 2, 7, 8, 3, 4, 5, 6] rfl) (hD.sub (ws' := [(x0, .inr (7, [.ref xp, .ref xs, .ref inp, .ref xe, .ref xo, .ref j0, .ref g, .ref q0, .int xr])), (j0, .inr (1, [.ref jk, .ref z, .ref ja, .int jg, .int jw])), (jk, .inl (cI, 4, .inl jkf)), (r, .inr (3, [.ref rt, .int rsz])), (rt, .inl (cI, 12, .inl rf)), (a, .inr (5, [.ref as, .ref aw, .ref ak, .int asc, .int awc, .int aht, .int afi, .int amd])), (as, .inl (cI, 12, .inl asf)), (aw, .inl (cI, 12, .inl awf)), (ak, .inl (cI, 12, .inl akf))]) [0, 1, 2, 7, 8, 3, 4, 5, 6] (by decide) rfl) hS dX8_understood_29
  · have c3' := I_eq c3
    refine lv_aload_n hx hb dX8_understood_8 rfl (lv_at hl 2 rfl) ?_
    refine lv_aload_n hx hb dX8_understood_9 rfl (lv_at hl 1 rfl) ?_
    refine lv_aload_n hx hb dX8_understood_10 rfl (lv_at hl 0 rfl) ?_
    refine va_get (D := (dC, dI)) (ci := 7) (v := .ref j0) (C := RX8) (T := TX8) (N := 9) hx hb hts inG_X8 hown hK hP 0 rfl rfl 5 (by decide) (hts _ fl_X8_36) (fun _ h9 => h9) rfl dX8_understood_11 ?_
    refine va_get (D := (dC, dI)) (ci := 1) (v := .ref jk) (C := RX1) (T := TX1) (N := 5) hx hb hts inG_X1 hown hK hP 1 rfl rfl 0 (by decide) (hts _ fl_X8_93) (fun _ h9 => h9) rfl dX8_understood_14 ?_
    refine calI (rest := []) (wr := [(x0, .inr (7, [.ref xp, .ref xs, .ref inp, .ref xe, .ref xo, .ref j0, .ref g, .ref q0, .int xr])), (j0, .inr (1, [.ref jk, .ref z, .ref ja, .int jg, .int jw]))]) hG (c_X6_understand l dC dI cI cJ base bB bO a as aw ak asc awc aht afi amd asf awf akf r rt rsz rf jk jkf (by first | assumption | omega) (by first | assumption | omega) (by first | assumption | omega) (by first | assumption | omega) (by first | assumption | omega) (by first | assumption | omega) (by first | assumption | omega) (by first | assumption | omega)) ml_X8_102 im_X6_understand se_X6_understand ini_X6 cd_X6_understand hd_X6_understand ⟨(Nat.le_of_ble_eq_true rfl), (Nat.le_of_ble_eq_true rfl)⟩ (Nat.le_of_ble_eq_true rfl) (Nat.le_of_ble_eq_true rfl) hP hD hS [3, 4, 5, 6, 7, 8, 2] [0, 1] rfl rfl rfl rfl (by decide) 5 3 rfl rfl hl.1 rfl (Nat.le_of_ble_eq_true rfl) dX8_understood_17 (fun r4 u H locs hw5 hP hD hS => ?_)
    obtain ⟨asc_6, awc_7, aht_8, afi_9, amd_10, asf_11, awf_12, akf_13⟩ := u
    have hw5 : (0 ≤ asc_6.toInt ∧ asc_6.toInt ≤ 12) ∧ (0 ≤ awc_7.toInt ∧ awc_7.toInt ≤ 12) ∧ (0 ≤ aht_8.toInt ∧ aht_8.toInt ≤ 12) ∧ (afi_9.toInt = 0 ∨ afi_9.toInt = 1) ∧ (∀ j : Nat, 0 ≤ (awf_12 j).toInt ∧ (awf_12 j).toInt < 12) ∧ (stOK asf_11 asc_6) ∧ True := hw5
    obtain ⟨hp14, hp15, hp16, hp17, hp18, hp19, -⟩ := hw5
    have hP : va_P (dC, dI) vwCl [(x0, .inr (7, [.ref xp, .ref xs, .ref inp, .ref xe, .ref xo, .ref j0, .ref g, .ref q0, .int xr])), (j0, .inr (1, [.ref jk, .ref z, .ref ja, .int jg, .int jw])), (a, .inr (5, [.ref as, .ref aw, .ref ak, .int asc_6, .int awc_7, .int aht_8, .int afi_9, .int amd_10])), (as, .inl (cI, 12, .inl asf_11)), (aw, .inl (cI, 12, .inl awf_12)), (ak, .inl (cI, 12, .inl akf_13)), (r, .inr (3, [.ref rt, .int rsz])), (rt, .inl (cI, 12, .inl rf)), (jk, .inl (cI, 4, .inl jkf))] H := hP
    have hD : va_D A [(x0, .inr (7, [.ref xp, .ref xs, .ref inp, .ref xe, .ref xo, .ref j0, .ref g, .ref q0, .int xr])), (j0, .inr (1, [.ref jk, .ref z, .ref ja, .int jg, .int jw])), (a, .inr (5, [.ref as, .ref aw, .ref ak, .int asc_6, .int awc_7, .int aht_8, .int afi_9, .int amd_10])), (as, .inl (cI, 12, .inl asf_11)), (aw, .inl (cI, 12, .inl awf_12)), (ak, .inl (cI, 12, .inl akf_13)), (r, .inr (3, [.ref rt, .int rsz])), (rt, .inl (cI, 12, .inl rf)), (jk, .inl (cI, 4, .inl jkf))] := hD
    refine lv_iconst (v := (-1)) hx hb dX8_understood_20 (by decide) ?_
    refine lv_icmp_eq (tgt := 28) hx hb dX8_understood_21 (by decide) (fun c20 => ?_) (fun c20 => ?_)
    · have c20' := I_eq c20
      refine lv_iconst (v := 0) hx hb dX8_understood_28 (by decide) ?_
      exact hret 0 (asc_6, awc_7, aht_8, afi_9, amd_10, asf_11, awf_12, akf_13) H locs 29 ls (by first | rfl | exact I_narz (by omega)) ⟨(show (0 : Int32).toInt = 0 ∨ (0 : Int32).toInt = 1 from by first | rfl | assumption | omega), (show 0 ≤ asc_6.toInt ∧ asc_6.toInt ≤ 12 from by first | rfl | assumption | omega), (show 0 ≤ awc_7.toInt ∧ awc_7.toInt ≤ 12 from by first | rfl | assumption | omega), (show 0 ≤ aht_8.toInt ∧ aht_8.toInt ≤ 12 from by first | rfl | assumption | omega), (show afi_9.toInt = 0 ∨ afi_9.toInt = 1 from by first | rfl | assumption | omega), (show ∀ j : Nat, 0 ≤ (awf_12 j).toInt ∧ (awf_12 j).toInt < 12 from by first | rfl | assumption | omega), (show stOK asf_11 asc_6 from by first | rfl | assumption | omega), trivial⟩ (hP.sub (ws' := [(x0, .inr (7, [.ref xp, .ref xs, .ref inp, .ref xe, .ref xo, .ref j0, .ref g, .ref q0, .int xr])), (j0, .inr (1, [.ref jk, .ref z, .ref ja, .int jg, .int jw])), (jk, .inl (cI, 4, .inl jkf)), (r, .inr (3, [.ref rt, .int rsz])), (rt, .inl (cI, 12, .inl rf)), (a, .inr (5, [.ref as, .ref aw, .ref ak, .int asc_6, .int awc_7, .int aht_8, .int afi_9, .int amd_10])), (as, .inl (cI, 12, .inl asf_11)), (aw, .inl (cI, 12, .inl awf_12)), (ak, .inl (cI, 12, .inl akf_13))]) [0, 1, 8, 6, 7, 2, 3, 4, 5] rfl) (hD.sub (ws' := [(x0, .inr (7, [.ref xp, .ref xs, .ref inp, .ref xe, .ref xo, .ref j0, .ref g, .ref q0, .int xr])), (j0, .inr (1, [.ref jk, .ref z, .ref ja, .int jg, .int jw])), (jk, .inl (cI, 4, .inl jkf)), (r, .inr (3, [.ref rt, .int rsz])), (rt, .inl (cI, 12, .inl rf)), (a, .inr (5, [.ref as, .ref aw, .ref ak, .int asc_6, .int awc_7, .int aht_8, .int afi_9, .int amd_10])), (as, .inl (cI, 12, .inl asf_11)), (aw, .inl (cI, 12, .inl awf_12)), (ak, .inl (cI, 12, .inl akf_13))]) [0, 1, 8, 6, 7, 2, 3, 4, 5] (by decide) rfl) hS dX8_understood_29
    · have c20' := I_ne c20
      refine lv_iconst (v := 1) hx hb dX8_understood_24 (by decide) ?_
      refine lv_goto (tgt := 29) hx hb dX8_understood_25 (by decide) ?_
      exact hret 1 (asc_6, awc_7, aht_8, afi_9, amd_10, asf_11, awf_12, akf_13) H locs 29 ls (by first | rfl | exact I_narz (by omega)) ⟨(show (1 : Int32).toInt = 0 ∨ (1 : Int32).toInt = 1 from by first | rfl | assumption | omega), (show 0 ≤ asc_6.toInt ∧ asc_6.toInt ≤ 12 from by first | rfl | assumption | omega), (show 0 ≤ awc_7.toInt ∧ awc_7.toInt ≤ 12 from by first | rfl | assumption | omega), (show 0 ≤ aht_8.toInt ∧ aht_8.toInt ≤ 12 from by first | rfl | assumption | omega), (show afi_9.toInt = 0 ∨ afi_9.toInt = 1 from by first | rfl | assumption | omega), (show ∀ j : Nat, 0 ≤ (awf_12 j).toInt ∧ (awf_12 j).toInt < 12 from by first | rfl | assumption | omega), (show stOK asf_11 asc_6 from by first | rfl | assumption | omega), trivial⟩ (hP.sub (ws' := [(x0, .inr (7, [.ref xp, .ref xs, .ref inp, .ref xe, .ref xo, .ref j0, .ref g, .ref q0, .int xr])), (j0, .inr (1, [.ref jk, .ref z, .ref ja, .int jg, .int jw])), (jk, .inl (cI, 4, .inl jkf)), (r, .inr (3, [.ref rt, .int rsz])), (rt, .inl (cI, 12, .inl rf)), (a, .inr (5, [.ref as, .ref aw, .ref ak, .int asc_6, .int awc_7, .int aht_8, .int afi_9, .int amd_10])), (as, .inl (cI, 12, .inl asf_11)), (aw, .inl (cI, 12, .inl awf_12)), (ak, .inl (cI, 12, .inl akf_13))]) [0, 1, 8, 6, 7, 2, 3, 4, 5] rfl) (hD.sub (ws' := [(x0, .inr (7, [.ref xp, .ref xs, .ref inp, .ref xe, .ref xo, .ref j0, .ref g, .ref q0, .int xr])), (j0, .inr (1, [.ref jk, .ref z, .ref ja, .int jg, .int jw])), (jk, .inl (cI, 4, .inl jkf)), (r, .inr (3, [.ref rt, .int rsz])), (rt, .inl (cI, 12, .inl rf)), (a, .inr (5, [.ref as, .ref aw, .ref ak, .int asc_6, .int awc_7, .int aht_8, .int afi_9, .int amd_10])), (as, .inl (cI, 12, .inl asf_11)), (aw, .inl (cI, 12, .inl awf_12)), (ak, .inl (cI, 12, .inl akf_13))]) [0, 1, 8, 6, 7, 2, 3, 4, 5] (by decide) rfl) hS dX8_understood_29
set_option maxHeartbeats 4000000 in
set_option maxRecDepth 100000 in
theorem c_X8_fits (l : Launch) (dC : Nat → ClassId) (dI : Nat → Nat → Nat) (cI cJ : ClassId) (base bB bO : Nat) (x0 : Nat) (pg : Nat) (sr : Nat) (inp : Nat) (se : Nat) (so : Nat) (j0 : Nat) (g : Nat) (q0 : Nat) (xr : Int32) (jk : Nat) (z : Nat) (ja : Nat) (jg : Int32) (jw : Int32) (jkf : Nat → Int32) (pgt : Nat) (pgsz : Int32) (pgf : Nat → Int32) (ses : Nat) (sew : Nat) (sek : Nat) (sesc : Int32) (sewc : Int32) (seht : Int32) (sefi : Int32) (semd : Int32) (sesf : Nat → Int32) (sewf : Nat → Int32) (sekf : Nat → Int32) (hq0 : 0 ≤ pgsz.toInt ∧ pgsz.toInt ≤ 12) (hq1 : ∀ j : Nat, -1 ≤ (pgf j).toInt ∧ (pgf j).toInt ≤ 31) (hq2 : 0 ≤ sesc.toInt ∧ sesc.toInt ≤ 12) (hq3 : 0 ≤ sewc.toInt ∧ sewc.toInt ≤ 12) (hq4 : 0 ≤ seht.toInt ∧ seht.toInt ≤ 12) (hq5 : sefi.toInt = 0 ∨ sefi.toInt = 1) (hq6 : ∀ j : Nat, 0 ≤ (sewf j).toInt ∧ (sewf j).toInt < 12) (hq7 : stOK sesf sesc) : CtI l dC dI cI cJ base bB bO yX8_fits cX8_fits 2 .int 5 108 [.ref x0] [(x0, .inr (7, [.ref pg, .ref sr, .ref inp, .ref se, .ref so, .ref j0, .ref g, .ref q0, .int xr])), (j0, .inr (1, [.ref jk, .ref z, .ref ja, .int jg, .int jw])), (jk, .inl (cI, 4, .inl jkf)), (pg, .inr (3, [.ref pgt, .int pgsz])), (pgt, .inl (cI, 12, .inl pgf)), (se, .inr (5, [.ref ses, .ref sew, .ref sek, .int sesc, .int sewc, .int seht, .int sefi, .int semd])), (ses, .inl (cI, 12, .inl sesf)), (sew, .inl (cI, 12, .inl sewf)), (sek, .inl (cI, 12, .inl sekf))] ((Int32) × (Int32) × (Int32) × (Int32) × (Int32) × (Nat → Int32) × (Nat → Int32) × (Nat → Int32)) (fun (res : Int32) (u : (Int32) × (Int32) × (Int32) × (Int32) × (Int32) × (Nat → Int32) × (Nat → Int32) × (Nat → Int32)) => (0 ≤ u.1.toInt ∧ u.1.toInt ≤ 12) ∧ (0 ≤ u.2.1.toInt ∧ u.2.1.toInt ≤ 12) ∧ (0 ≤ u.2.2.1.toInt ∧ u.2.2.1.toInt ≤ 12) ∧ (u.2.2.2.1.toInt = 0 ∨ u.2.2.2.1.toInt = 1) ∧ (∀ j : Nat, 0 ≤ (u.2.2.2.2.2.2.1 j).toInt ∧ (u.2.2.2.2.2.2.1 j).toInt < 12) ∧ (stOK u.2.2.2.2.2.1 u.1) ∧ True) (fun (u : (Int32) × (Int32) × (Int32) × (Int32) × (Int32) × (Nat → Int32) × (Nat → Int32) × (Nat → Int32)) => [(x0, .inr (7, [.ref pg, .ref sr, .ref inp, .ref se, .ref so, .ref j0, .ref g, .ref q0, .int xr])), (j0, .inr (1, [.ref jk, .ref z, .ref ja, .int jg, .int jw])), (jk, .inl (cI, 4, .inl jkf)), (pg, .inr (3, [.ref pgt, .int pgsz])), (pgt, .inl (cI, 12, .inl pgf)), (se, .inr (5, [.ref ses, .ref sew, .ref sek, .int u.1, .int u.2.1, .int u.2.2.1, .int u.2.2.2.1, .int u.2.2.2.2.1])), (ses, .inl (cI, 12, .inl u.2.2.2.2.2.1)), (sew, .inl (cI, 12, .inl u.2.2.2.2.2.2.1)), (sek, .inl (cI, 12, .inl u.2.2.2.2.2.2.2))]) := by
  refine entI (by decide) (Nat.le_of_ble_eq_true rfl) ?_
  intro p e s m below meth c A Q ls hAt hret hP hD hS hl
  obtain ⟨hx, hb, hml, hown, hts, hA, hAb, hK, hE, hlocks, hin⟩ := hAt
  have hG : CG dC dI cI cJ base bB bO cX8_fits 2 RX8 p s m (List.toArray [.ref x0]) c A := ⟨hx, hb, hml, hown, hts, hA, hAb, hK, hE⟩
  have hl : lv_has ls 2 [(0, .ref x0)] := hl
  have c_m6 : (-6 : Int32).toInt = -6 := by decide
  have c_m5 : (-5 : Int32).toInt = -5 := by decide
  have c_m1 : (-1 : Int32).toInt = -1 := by decide
  have c_0 : (0 : Int32).toInt = 0 := by decide
  have c_1 : (1 : Int32).toInt = 1 := by decide
  obtain ⟨H, hHe⟩ : ∃ H : Heap, H = s.heap := ⟨_, rfl⟩
  obtain ⟨locs, hle⟩ : ∃ z : List Loc, z = [] := ⟨_, rfl⟩
  rw [← hHe] at hP
  have hS : va_S A s.heap H locs := by rw [hHe, hle]; exact hS
  suffices hgo : W p l e { frames := 5, cells := 0, slots := 0, locals := 108 } s m (List.toArray [.ref x0]) below meth c H locs 0 0 Q (F0 m 0 ls []) by rw [hHe, hle] at hgo; exact hgo
  refine lv_aload_n hx hb dX8_fits_0 rfl (lv_at hl 0 rfl) ?_
  refine va_get (D := (dC, dI)) (ci := 7) (v := .ref pg) (C := RX8) (T := TX8) (N := 9) hx hb hts inG_X8 hown hK hP 0 rfl rfl 0 (by decide) (hts _ fl_X8_10) (fun _ h9 => h9) rfl dX8_fits_1 ?_
  refine calOI (rest := []) (wr := [(x0, .inr (7, [.ref pg, .ref sr, .ref inp, .ref se, .ref so, .ref j0, .ref g, .ref q0, .int xr])), (j0, .inr (1, [.ref jk, .ref z, .ref ja, .int jg, .int jw])), (jk, .inl (cI, 4, .inl jkf)), (se, .inr (5, [.ref ses, .ref sew, .ref sek, .int sesc, .int sewc, .int seht, .int sefi, .int semd])), (ses, .inl (cI, 12, .inl sesf)), (sew, .inl (cI, 12, .inl sewf)), (sek, .inl (cI, 12, .inl sekf))]) hG (c_X3_faultOf l dC dI cI cJ base bB bO pg pgt pgsz pgf (by first | assumption | omega) (by first | assumption | omega)) ml_X8_96 st_X3_faultOf ini_X3 cd_X3_faultOf hd_X3_faultOf.2 ⟨(Nat.le_of_ble_eq_true rfl), (Nat.le_of_ble_eq_true rfl)⟩ (Nat.le_of_ble_eq_true rfl) (Nat.le_of_ble_eq_true rfl) hP hD hS [3, 4] [0, 1, 2, 5, 6, 7, 8] rfl rfl rfl rfl (by decide) hl.1 rfl (Nat.le_of_ble_eq_true rfl) dX8_fits_4 (fun r1 u H locs hw2 hP hD hS => ?_)
  have hP : va_P (dC, dI) vwCl [(x0, .inr (7, [.ref pg, .ref sr, .ref inp, .ref se, .ref so, .ref j0, .ref g, .ref q0, .int xr])), (j0, .inr (1, [.ref jk, .ref z, .ref ja, .int jg, .int jw])), (jk, .inl (cI, 4, .inl jkf)), (se, .inr (5, [.ref ses, .ref sew, .ref sek, .int sesc, .int sewc, .int seht, .int sefi, .int semd])), (ses, .inl (cI, 12, .inl sesf)), (sew, .inl (cI, 12, .inl sewf)), (sek, .inl (cI, 12, .inl sekf)), (pg, .inr (3, [.ref pgt, .int pgsz])), (pgt, .inl (cI, 12, .inl pgf))] H := hP
  have hD : va_D A [(x0, .inr (7, [.ref pg, .ref sr, .ref inp, .ref se, .ref so, .ref j0, .ref g, .ref q0, .int xr])), (j0, .inr (1, [.ref jk, .ref z, .ref ja, .int jg, .int jw])), (jk, .inl (cI, 4, .inl jkf)), (se, .inr (5, [.ref ses, .ref sew, .ref sek, .int sesc, .int sewc, .int seht, .int sefi, .int semd])), (ses, .inl (cI, 12, .inl sesf)), (sew, .inl (cI, 12, .inl sewf)), (sek, .inl (cI, 12, .inl sekf)), (pg, .inr (3, [.ref pgt, .int pgsz])), (pgt, .inl (cI, 12, .inl pgf))] := hD
  refine lv_iconst (v := (-1)) hx hb dX8_fits_7 (by decide) ?_
  refine lv_icmp_eq (tgt := 14) hx hb dX8_fits_8 (by decide) (fun c3 => ?_) (fun c3 => ?_)
  · have c3' := I_eq c3
    refine lv_aload_n hx hb dX8_fits_14 rfl (lv_at hl 0 rfl) ?_
    refine va_get (D := (dC, dI)) (ci := 7) (v := .ref se) (C := RX8) (T := TX8) (N := 9) hx hb hts inG_X8 hown hK hP 0 rfl rfl 3 (by decide) (hts _ fl_X8_26) (fun _ h9 => h9) rfl dX8_fits_15 ?_
    refine lv_aload_n hx hb dX8_fits_18 rfl (lv_at hl 0 rfl) ?_
    refine va_get (D := (dC, dI)) (ci := 7) (v := .ref pg) (C := RX8) (T := TX8) (N := 9) hx hb hts inG_X8 hown hK hP 0 rfl rfl 0 (by decide) (hts _ fl_X8_10) (fun _ h9 => h9) rfl dX8_fits_19 ?_
    refine lv_aload_n hx hb dX8_fits_22 rfl (lv_at hl 0 rfl) ?_
    refine va_get (D := (dC, dI)) (ci := 7) (v := .ref j0) (C := RX8) (T := TX8) (N := 9) hx hb hts inG_X8 hown hK hP 0 rfl rfl 5 (by decide) (hts _ fl_X8_36) (fun _ h9 => h9) rfl dX8_fits_23 ?_
    refine va_get (D := (dC, dI)) (ci := 1) (v := .ref jk) (C := RX1) (T := TX1) (N := 5) hx hb hts inG_X1 hown hK hP 1 rfl rfl 0 (by decide) (hts _ fl_X8_93) (fun _ h9 => h9) rfl dX8_fits_26 ?_
    refine calI (rest := []) (wr := [(x0, .inr (7, [.ref pg, .ref sr, .ref inp, .ref se, .ref so, .ref j0, .ref g, .ref q0, .int xr])), (j0, .inr (1, [.ref jk, .ref z, .ref ja, .int jg, .int jw]))]) hG (c_X6_understand l dC dI cI cJ base bB bO se ses sew sek sesc sewc seht sefi semd sesf sewf sekf pg pgt pgsz pgf jk jkf (by first | assumption | omega) (by first | assumption | omega) (by first | assumption | omega) (by first | assumption | omega) (by first | assumption | omega) (by first | assumption | omega) (by first | assumption | omega) (by first | assumption | omega)) ml_X8_102 im_X6_understand se_X6_understand ini_X6 cd_X6_understand hd_X6_understand ⟨(Nat.le_of_ble_eq_true rfl), (Nat.le_of_ble_eq_true rfl)⟩ (Nat.le_of_ble_eq_true rfl) (Nat.le_of_ble_eq_true rfl) hP hD hS [3, 4, 5, 6, 7, 8, 2] [0, 1] rfl rfl rfl rfl (by decide) 5 3 rfl rfl hl.1 rfl (Nat.le_of_ble_eq_true rfl) dX8_fits_29 (fun r4 u H locs hw5 hP hD hS => ?_)
    obtain ⟨asc_6, awc_7, aht_8, afi_9, amd_10, asf_11, awf_12, akf_13⟩ := u
    have hw5 : (0 ≤ asc_6.toInt ∧ asc_6.toInt ≤ 12) ∧ (0 ≤ awc_7.toInt ∧ awc_7.toInt ≤ 12) ∧ (0 ≤ aht_8.toInt ∧ aht_8.toInt ≤ 12) ∧ (afi_9.toInt = 0 ∨ afi_9.toInt = 1) ∧ (∀ j : Nat, 0 ≤ (awf_12 j).toInt ∧ (awf_12 j).toInt < 12) ∧ (stOK asf_11 asc_6) ∧ True := hw5
    obtain ⟨hp14, hp15, hp16, hp17, hp18, hp19, -⟩ := hw5
    have hP : va_P (dC, dI) vwCl [(x0, .inr (7, [.ref pg, .ref sr, .ref inp, .ref se, .ref so, .ref j0, .ref g, .ref q0, .int xr])), (j0, .inr (1, [.ref jk, .ref z, .ref ja, .int jg, .int jw])), (se, .inr (5, [.ref ses, .ref sew, .ref sek, .int asc_6, .int awc_7, .int aht_8, .int afi_9, .int amd_10])), (ses, .inl (cI, 12, .inl asf_11)), (sew, .inl (cI, 12, .inl awf_12)), (sek, .inl (cI, 12, .inl akf_13)), (pg, .inr (3, [.ref pgt, .int pgsz])), (pgt, .inl (cI, 12, .inl pgf)), (jk, .inl (cI, 4, .inl jkf))] H := hP
    have hD : va_D A [(x0, .inr (7, [.ref pg, .ref sr, .ref inp, .ref se, .ref so, .ref j0, .ref g, .ref q0, .int xr])), (j0, .inr (1, [.ref jk, .ref z, .ref ja, .int jg, .int jw])), (se, .inr (5, [.ref ses, .ref sew, .ref sek, .int asc_6, .int awc_7, .int aht_8, .int afi_9, .int amd_10])), (ses, .inl (cI, 12, .inl asf_11)), (sew, .inl (cI, 12, .inl awf_12)), (sek, .inl (cI, 12, .inl akf_13)), (pg, .inr (3, [.ref pgt, .int pgsz])), (pgt, .inl (cI, 12, .inl pgf)), (jk, .inl (cI, 4, .inl jkf))] := hD
    refine lv_istore_n (lv' := [(1, .int r4), (0, .ref x0)]) hx hb dX8_fits_32 rfl hl (by decide) rfl (fun ls hl => ?_)
    refine lv_iload_n hx hb dX8_fits_33 rfl (lv_at hl 0 rfl) ?_
    refine lv_iconst (v := (-1)) hx hb dX8_fits_34 (by decide) ?_
    refine lv_icmp_ne (tgt := 43) hx hb dX8_fits_35 (by decide) (fun c20 => ?_) (fun c20 => ?_)
    · have c20' := I_ne c20
      refine lv_iload_n hx hb dX8_fits_43 rfl (lv_at hl 0 rfl) ?_
      exact hret r4 (asc_6, awc_7, aht_8, afi_9, amd_10, asf_11, awf_12, akf_13) H locs 44 ls rfl ⟨(show 0 ≤ asc_6.toInt ∧ asc_6.toInt ≤ 12 from by first | rfl | assumption | omega), (show 0 ≤ awc_7.toInt ∧ awc_7.toInt ≤ 12 from by first | rfl | assumption | omega), (show 0 ≤ aht_8.toInt ∧ aht_8.toInt ≤ 12 from by first | rfl | assumption | omega), (show afi_9.toInt = 0 ∨ afi_9.toInt = 1 from by first | rfl | assumption | omega), (show ∀ j : Nat, 0 ≤ (awf_12 j).toInt ∧ (awf_12 j).toInt < 12 from by first | rfl | assumption | omega), (show stOK asf_11 asc_6 from by first | rfl | assumption | omega), trivial⟩ (hP.sub (ws' := [(x0, .inr (7, [.ref pg, .ref sr, .ref inp, .ref se, .ref so, .ref j0, .ref g, .ref q0, .int xr])), (j0, .inr (1, [.ref jk, .ref z, .ref ja, .int jg, .int jw])), (jk, .inl (cI, 4, .inl jkf)), (pg, .inr (3, [.ref pgt, .int pgsz])), (pgt, .inl (cI, 12, .inl pgf)), (se, .inr (5, [.ref ses, .ref sew, .ref sek, .int asc_6, .int awc_7, .int aht_8, .int afi_9, .int amd_10])), (ses, .inl (cI, 12, .inl asf_11)), (sew, .inl (cI, 12, .inl awf_12)), (sek, .inl (cI, 12, .inl akf_13))]) [0, 1, 8, 6, 7, 2, 3, 4, 5] rfl) (hD.sub (ws' := [(x0, .inr (7, [.ref pg, .ref sr, .ref inp, .ref se, .ref so, .ref j0, .ref g, .ref q0, .int xr])), (j0, .inr (1, [.ref jk, .ref z, .ref ja, .int jg, .int jw])), (jk, .inl (cI, 4, .inl jkf)), (pg, .inr (3, [.ref pgt, .int pgsz])), (pgt, .inl (cI, 12, .inl pgf)), (se, .inr (5, [.ref ses, .ref sew, .ref sek, .int asc_6, .int awc_7, .int aht_8, .int afi_9, .int amd_10])), (ses, .inl (cI, 12, .inl asf_11)), (sew, .inl (cI, 12, .inl awf_12)), (sek, .inl (cI, 12, .inl akf_13))]) [0, 1, 8, 6, 7, 2, 3, 4, 5] (by decide) rfl) hS dX8_fits_44
    · have c20' := I_eq c20
      refine lv_bipush (v := (-6)) hx hb dX8_fits_38 (by decide) ?_
      refine lv_goto (tgt := 44) hx hb dX8_fits_40 (by decide) ?_
      exact hret (-6) (asc_6, awc_7, aht_8, afi_9, amd_10, asf_11, awf_12, akf_13) H locs 44 ls rfl ⟨(show 0 ≤ asc_6.toInt ∧ asc_6.toInt ≤ 12 from by first | rfl | assumption | omega), (show 0 ≤ awc_7.toInt ∧ awc_7.toInt ≤ 12 from by first | rfl | assumption | omega), (show 0 ≤ aht_8.toInt ∧ aht_8.toInt ≤ 12 from by first | rfl | assumption | omega), (show afi_9.toInt = 0 ∨ afi_9.toInt = 1 from by first | rfl | assumption | omega), (show ∀ j : Nat, 0 ≤ (awf_12 j).toInt ∧ (awf_12 j).toInt < 12 from by first | rfl | assumption | omega), (show stOK asf_11 asc_6 from by first | rfl | assumption | omega), trivial⟩ (hP.sub (ws' := [(x0, .inr (7, [.ref pg, .ref sr, .ref inp, .ref se, .ref so, .ref j0, .ref g, .ref q0, .int xr])), (j0, .inr (1, [.ref jk, .ref z, .ref ja, .int jg, .int jw])), (jk, .inl (cI, 4, .inl jkf)), (pg, .inr (3, [.ref pgt, .int pgsz])), (pgt, .inl (cI, 12, .inl pgf)), (se, .inr (5, [.ref ses, .ref sew, .ref sek, .int asc_6, .int awc_7, .int aht_8, .int afi_9, .int amd_10])), (ses, .inl (cI, 12, .inl asf_11)), (sew, .inl (cI, 12, .inl awf_12)), (sek, .inl (cI, 12, .inl akf_13))]) [0, 1, 8, 6, 7, 2, 3, 4, 5] rfl) (hD.sub (ws' := [(x0, .inr (7, [.ref pg, .ref sr, .ref inp, .ref se, .ref so, .ref j0, .ref g, .ref q0, .int xr])), (j0, .inr (1, [.ref jk, .ref z, .ref ja, .int jg, .int jw])), (jk, .inl (cI, 4, .inl jkf)), (pg, .inr (3, [.ref pgt, .int pgsz])), (pgt, .inl (cI, 12, .inl pgf)), (se, .inr (5, [.ref ses, .ref sew, .ref sek, .int asc_6, .int awc_7, .int aht_8, .int afi_9, .int amd_10])), (ses, .inl (cI, 12, .inl asf_11)), (sew, .inl (cI, 12, .inl awf_12)), (sek, .inl (cI, 12, .inl akf_13))]) [0, 1, 8, 6, 7, 2, 3, 4, 5] (by decide) rfl) hS dX8_fits_44
  · have c3' := I_ne c3
    refine lv_bipush (v := (-5)) hx hb dX8_fits_11 (by decide) ?_
    exact hret (-5) (sesc, sewc, seht, sefi, semd, sesf, sewf, sekf) H locs 13 ls rfl ⟨(show 0 ≤ sesc.toInt ∧ sesc.toInt ≤ 12 from by first | rfl | assumption | omega), (show 0 ≤ sewc.toInt ∧ sewc.toInt ≤ 12 from by first | rfl | assumption | omega), (show 0 ≤ seht.toInt ∧ seht.toInt ≤ 12 from by first | rfl | assumption | omega), (show sefi.toInt = 0 ∨ sefi.toInt = 1 from by first | rfl | assumption | omega), (show ∀ j : Nat, 0 ≤ (sewf j).toInt ∧ (sewf j).toInt < 12 from by first | rfl | assumption | omega), (show stOK sesf sesc from by first | rfl | assumption | omega), trivial⟩ (hP.sub (ws' := [(x0, .inr (7, [.ref pg, .ref sr, .ref inp, .ref se, .ref so, .ref j0, .ref g, .ref q0, .int xr])), (j0, .inr (1, [.ref jk, .ref z, .ref ja, .int jg, .int jw])), (jk, .inl (cI, 4, .inl jkf)), (pg, .inr (3, [.ref pgt, .int pgsz])), (pgt, .inl (cI, 12, .inl pgf)), (se, .inr (5, [.ref ses, .ref sew, .ref sek, .int sesc, .int sewc, .int seht, .int sefi, .int semd])), (ses, .inl (cI, 12, .inl sesf)), (sew, .inl (cI, 12, .inl sewf)), (sek, .inl (cI, 12, .inl sekf))]) [0, 1, 2, 7, 8, 3, 4, 5, 6] rfl) (hD.sub (ws' := [(x0, .inr (7, [.ref pg, .ref sr, .ref inp, .ref se, .ref so, .ref j0, .ref g, .ref q0, .int xr])), (j0, .inr (1, [.ref jk, .ref z, .ref ja, .int jg, .int jw])), (jk, .inl (cI, 4, .inl jkf)), (pg, .inr (3, [.ref pgt, .int pgsz])), (pgt, .inl (cI, 12, .inl pgf)), (se, .inr (5, [.ref ses, .ref sew, .ref sek, .int sesc, .int sewc, .int seht, .int sefi, .int semd])), (ses, .inl (cI, 12, .inl sesf)), (sew, .inl (cI, 12, .inl sewf)), (sek, .inl (cI, 12, .inl sekf))]) [0, 1, 2, 7, 8, 3, 4, 5, 6] (by decide) rfl) hS dX8_fits_13
set_option maxHeartbeats 4000000 in
set_option maxRecDepth 100000 in
theorem c_X8_value (l : Launch) (dC : Nat → ClassId) (dI : Nat → Nat → Nat) (cI cJ : ClassId) (base bB bO : Nat) (x0 : Nat) (pg : Nat) (sr : Nat) (inp : Nat) (se : Nat) (so : Nat) (j0 : Nat) (g : Nat) (q0 : Nat) (xr : Int32) (jk : Nat) (z : Nat) (ja : Nat) (jg : Int32) (jw : Int32) (jkf : Nat → Int32) (pgt : Nat) (pgsz : Int32) (pgf : Nat → Int32) (ses : Nat) (sew : Nat) (sek : Nat) (sesc : Int32) (sewc : Int32) (seht : Int32) (sefi : Int32) (semd : Int32) (sesf : Nat → Int32) (sewf : Nat → Int32) (sekf : Nat → Int32) (inpf : Nat → Int32) (i1 : Int32) (i2 : Int32) (i3 : Int32) (i4 : Int32) (hq0 : 0 ≤ pgsz.toInt ∧ pgsz.toInt ≤ 12) (hq1 : ∀ j : Nat, -1 ≤ (pgf j).toInt ∧ (pgf j).toInt ≤ 31) (hq2 : 0 ≤ sesc.toInt ∧ sesc.toInt ≤ 12) (hq3 : 0 ≤ sewc.toInt ∧ sewc.toInt ≤ 12) (hq4 : 0 ≤ seht.toInt ∧ seht.toInt ≤ 12) (hq5 : sefi.toInt = 0 ∨ sefi.toInt = 1) (hq6 : ∀ j : Nat, 0 ≤ (sewf j).toInt ∧ (sewf j).toInt < 12) (hq7 : stOK sesf sesc) : CtI l dC dI cI cJ base bB bO yX8_value cX8_value 5 .int 6 130 [.ref x0, .int i1, .int i2, .int i3, .int i4] [(x0, .inr (7, [.ref pg, .ref sr, .ref inp, .ref se, .ref so, .ref j0, .ref g, .ref q0, .int xr])), (j0, .inr (1, [.ref jk, .ref z, .ref ja, .int jg, .int jw])), (jk, .inl (cI, 4, .inl jkf)), (pg, .inr (3, [.ref pgt, .int pgsz])), (pgt, .inl (cI, 12, .inl pgf)), (se, .inr (5, [.ref ses, .ref sew, .ref sek, .int sesc, .int sewc, .int seht, .int sefi, .int semd])), (ses, .inl (cI, 12, .inl sesf)), (sew, .inl (cI, 12, .inl sewf)), (sek, .inl (cI, 12, .inl sekf)), (inp, .inl (cI, 4, .inl inpf))] ((Int32) × (Int32) × (Int32) × (Int32) × (Int32) × (Nat → Int32) × (Nat → Int32) × (Nat → Int32) × (Nat → Int32)) (fun (res : Int32) (u : (Int32) × (Int32) × (Int32) × (Int32) × (Int32) × (Nat → Int32) × (Nat → Int32) × (Nat → Int32) × (Nat → Int32)) => (0 ≤ u.1.toInt ∧ u.1.toInt ≤ 12) ∧ (0 ≤ u.2.1.toInt ∧ u.2.1.toInt ≤ 12) ∧ (0 ≤ u.2.2.1.toInt ∧ u.2.2.1.toInt ≤ 12) ∧ (u.2.2.2.1.toInt = 0 ∨ u.2.2.2.1.toInt = 1) ∧ (∀ j : Nat, 0 ≤ (u.2.2.2.2.2.2.1 j).toInt ∧ (u.2.2.2.2.2.2.1 j).toInt < 12) ∧ (stOK u.2.2.2.2.2.1 u.1) ∧ True) (fun (u : (Int32) × (Int32) × (Int32) × (Int32) × (Int32) × (Nat → Int32) × (Nat → Int32) × (Nat → Int32) × (Nat → Int32)) => [(x0, .inr (7, [.ref pg, .ref sr, .ref inp, .ref se, .ref so, .ref j0, .ref g, .ref q0, .int xr])), (j0, .inr (1, [.ref jk, .ref z, .ref ja, .int jg, .int jw])), (jk, .inl (cI, 4, .inl jkf)), (pg, .inr (3, [.ref pgt, .int pgsz])), (pgt, .inl (cI, 12, .inl pgf)), (se, .inr (5, [.ref ses, .ref sew, .ref sek, .int u.1, .int u.2.1, .int u.2.2.1, .int u.2.2.2.1, .int u.2.2.2.2.1])), (ses, .inl (cI, 12, .inl u.2.2.2.2.2.1)), (sew, .inl (cI, 12, .inl u.2.2.2.2.2.2.1)), (sek, .inl (cI, 12, .inl u.2.2.2.2.2.2.2.1)), (inp, .inl (cI, 4, .inl u.2.2.2.2.2.2.2.2))]) := by
  refine entI (by decide) (Nat.le_of_ble_eq_true rfl) ?_
  intro p e s m below meth c A Q ls hAt hret hP hD hS hl
  obtain ⟨hx, hb, hml, hown, hts, hA, hAb, hK, hE, hlocks, hin⟩ := hAt
  have hG : CG dC dI cI cJ base bB bO cX8_value 5 RX8 p s m (List.toArray [.ref x0, .int i1, .int i2, .int i3, .int i4]) c A := ⟨hx, hb, hml, hown, hts, hA, hAb, hK, hE⟩
  have hl : lv_has ls 5 [(0, .ref x0), (1, .int i1), (2, .int i2), (3, .int i3), (4, .int i4)] := hl
  have c_m2000000 : (-2000000 : Int32).toInt = -2000000 := by decide
  have c_0 : (0 : Int32).toInt = 0 := by decide
  have c_1 : (1 : Int32).toInt = 1 := by decide
  obtain ⟨H, hHe⟩ : ∃ H : Heap, H = s.heap := ⟨_, rfl⟩
  obtain ⟨locs, hle⟩ : ∃ z : List Loc, z = [] := ⟨_, rfl⟩
  rw [← hHe] at hP
  have hS : va_S A s.heap H locs := by rw [hHe, hle]; exact hS
  suffices hgo : W p l e { frames := 6, cells := 0, slots := 0, locals := 130 } s m (List.toArray [.ref x0, .int i1, .int i2, .int i3, .int i4]) below meth c H locs 0 0 Q (F0 m 0 ls []) by rw [hHe, hle] at hgo; exact hgo
  refine lv_aload_n hx hb dX8_value_0 rfl (lv_at hl 0 rfl) ?_
  refine lv_aload_n hx hb dX8_value_1 rfl (lv_at hl 0 rfl) ?_
  refine va_get (D := (dC, dI)) (ci := 7) (v := .ref pg) (C := RX8) (T := TX8) (N := 9) hx hb hts inG_X8 hown hK hP 0 rfl rfl 0 (by decide) (hts _ fl_X8_10) (fun _ h9 => h9) rfl dX8_value_2 ?_
  refine lv_aload_n hx hb dX8_value_5 rfl (lv_at hl 0 rfl) ?_
  refine va_get (D := (dC, dI)) (ci := 7) (v := .ref se) (C := RX8) (T := TX8) (N := 9) hx hb hts inG_X8 hown hK hP 0 rfl rfl 3 (by decide) (hts _ fl_X8_26) (fun _ h9 => h9) rfl dX8_value_6 ?_
  refine calI (rest := []) (wr := [(inp, .inl (cI, 4, .inl inpf))]) hG (c_X8_understood l dC dI cI cJ base bB bO x0 pg sr inp se so j0 g q0 xr jk z ja jg jw jkf pg pgt pgsz pgf se ses sew sek sesc sewc seht sefi semd sesf sewf sekf (by first | assumption | omega) (by first | assumption | omega) (by first | assumption | omega) (by first | assumption | omega) (by first | assumption | omega) (by first | assumption | omega) (by first | assumption | omega) (by first | assumption | omega)) ml_X8_106 im_X8_understood se_X8_understood ini_X8 cd_X8_understood hd_X8_understood ⟨(Nat.le_of_ble_eq_true rfl), (Nat.le_of_ble_eq_true rfl)⟩ (Nat.le_of_ble_eq_true rfl) (Nat.le_of_ble_eq_true rfl) hP hD hS [0, 1, 2, 3, 4, 5, 6, 7, 8] [9] rfl rfl rfl rfl (by decide) 7 0 rfl rfl hl.1 rfl (Nat.le_of_ble_eq_true rfl) dX8_value_9 (fun r1 u H locs hw2 hP hD hS => ?_)
  obtain ⟨asc_3, awc_4, aht_5, afi_6, amd_7, asf_8, awf_9, akf_10⟩ := u
  have hw2 : (r1.toInt = 0 ∨ r1.toInt = 1) ∧ (0 ≤ asc_3.toInt ∧ asc_3.toInt ≤ 12) ∧ (0 ≤ awc_4.toInt ∧ awc_4.toInt ≤ 12) ∧ (0 ≤ aht_5.toInt ∧ aht_5.toInt ≤ 12) ∧ (afi_6.toInt = 0 ∨ afi_6.toInt = 1) ∧ (∀ j : Nat, 0 ≤ (awf_9 j).toInt ∧ (awf_9 j).toInt < 12) ∧ (stOK asf_8 asc_3) ∧ True := hw2
  obtain ⟨hp11, hp12, hp13, hp14, hp15, hp16, hp17, -⟩ := hw2
  have hP : va_P (dC, dI) vwCl [(inp, .inl (cI, 4, .inl inpf)), (x0, .inr (7, [.ref pg, .ref sr, .ref inp, .ref se, .ref so, .ref j0, .ref g, .ref q0, .int xr])), (j0, .inr (1, [.ref jk, .ref z, .ref ja, .int jg, .int jw])), (jk, .inl (cI, 4, .inl jkf)), (pg, .inr (3, [.ref pgt, .int pgsz])), (pgt, .inl (cI, 12, .inl pgf)), (se, .inr (5, [.ref ses, .ref sew, .ref sek, .int asc_3, .int awc_4, .int aht_5, .int afi_6, .int amd_7])), (ses, .inl (cI, 12, .inl asf_8)), (sew, .inl (cI, 12, .inl awf_9)), (sek, .inl (cI, 12, .inl akf_10))] H := hP
  have hD : va_D A [(inp, .inl (cI, 4, .inl inpf)), (x0, .inr (7, [.ref pg, .ref sr, .ref inp, .ref se, .ref so, .ref j0, .ref g, .ref q0, .int xr])), (j0, .inr (1, [.ref jk, .ref z, .ref ja, .int jg, .int jw])), (jk, .inl (cI, 4, .inl jkf)), (pg, .inr (3, [.ref pgt, .int pgsz])), (pgt, .inl (cI, 12, .inl pgf)), (se, .inr (5, [.ref ses, .ref sew, .ref sek, .int asc_3, .int awc_4, .int aht_5, .int afi_6, .int amd_7])), (ses, .inl (cI, 12, .inl asf_8)), (sew, .inl (cI, 12, .inl awf_9)), (sek, .inl (cI, 12, .inl akf_10))] := hD
  refine lv_if_ne (tgt := 18) hx hb dX8_value_12 (by decide) (fun c18 => ?_) (fun c18 => ?_)
  · have c18' := I_ne c18
    refine lv_aload_n hx hb dX8_value_18 rfl (lv_at hl 0 rfl) ?_
    refine lv_iload_n hx hb dX8_value_19 rfl (lv_at hl 1 rfl) ?_
    refine lv_iload_n hx hb dX8_value_20 rfl (lv_at hl 2 rfl) ?_
    refine lv_iload_n hx hb dX8_value_21 rfl (lv_at hl 3 rfl) ?_
    refine lv_iload hx hb dX8_value_22 (lv_at hl 4 rfl) ?_
    refine calV (rest := []) (wr := [(j0, .inr (1, [.ref jk, .ref z, .ref ja, .int jg, .int jw])), (jk, .inl (cI, 4, .inl jkf)), (pg, .inr (3, [.ref pgt, .int pgsz])), (pgt, .inl (cI, 12, .inl pgf)), (se, .inr (5, [.ref ses, .ref sew, .ref sek, .int asc_3, .int awc_4, .int aht_5, .int afi_6, .int amd_7])), (ses, .inl (cI, 12, .inl asf_8)), (sew, .inl (cI, 12, .inl awf_9)), (sek, .inl (cI, 12, .inl akf_10))]) hG (c_X8_setInputs l dC dI cI cJ base bB bO x0 pg sr inp se so j0 g q0 xr inpf i1 i2 i3 i4 ) ml_X8_111 im_X8_setInputs se_X8_setInputs ini_X8 cd_X8_setInputs hd_X8_setInputs ⟨(Nat.le_of_ble_eq_true rfl), (Nat.le_of_ble_eq_true rfl)⟩ (Nat.le_of_ble_eq_true rfl) (Nat.le_of_ble_eq_true rfl) hP hD hS [1, 0] [2, 3, 4, 5, 6, 7, 8, 9] rfl rfl rfl rfl (by decide) 7 1 rfl rfl hl.1 rfl (Nat.le_of_ble_eq_true rfl) dX8_value_24 (fun u H locs hw19 hP hD hS => ?_)
    obtain ⟨inpf_20, rfl⟩ : ∃ z, z = u := ⟨_, rfl⟩
    have hP : va_P (dC, dI) vwCl [(j0, .inr (1, [.ref jk, .ref z, .ref ja, .int jg, .int jw])), (jk, .inl (cI, 4, .inl jkf)), (pg, .inr (3, [.ref pgt, .int pgsz])), (pgt, .inl (cI, 12, .inl pgf)), (se, .inr (5, [.ref ses, .ref sew, .ref sek, .int asc_3, .int awc_4, .int aht_5, .int afi_6, .int amd_7])), (ses, .inl (cI, 12, .inl asf_8)), (sew, .inl (cI, 12, .inl awf_9)), (sek, .inl (cI, 12, .inl akf_10)), (x0, .inr (7, [.ref pg, .ref sr, .ref inp, .ref se, .ref so, .ref j0, .ref g, .ref q0, .int xr])), (inp, .inl (cI, 4, .inl inpf_20))] H := hP
    have hD : va_D A [(j0, .inr (1, [.ref jk, .ref z, .ref ja, .int jg, .int jw])), (jk, .inl (cI, 4, .inl jkf)), (pg, .inr (3, [.ref pgt, .int pgsz])), (pgt, .inl (cI, 12, .inl pgf)), (se, .inr (5, [.ref ses, .ref sew, .ref sek, .int asc_3, .int awc_4, .int aht_5, .int afi_6, .int amd_7])), (ses, .inl (cI, 12, .inl asf_8)), (sew, .inl (cI, 12, .inl awf_9)), (sek, .inl (cI, 12, .inl akf_10)), (x0, .inr (7, [.ref pg, .ref sr, .ref inp, .ref se, .ref so, .ref j0, .ref g, .ref q0, .int xr])), (inp, .inl (cI, 4, .inl inpf_20))] := hD
    refine lv_aload_n hx hb dX8_value_27 rfl (lv_at hl 0 rfl) ?_
    refine va_get (D := (dC, dI)) (ci := 7) (v := .ref se) (C := RX8) (T := TX8) (N := 9) hx hb hts inG_X8 hown hK hP 8 rfl rfl 3 (by decide) (hts _ fl_X8_26) (fun _ h9 => h9) rfl dX8_value_28 ?_
    refine lv_aload_n hx hb dX8_value_31 rfl (lv_at hl 0 rfl) ?_
    refine va_get (D := (dC, dI)) (ci := 7) (v := .ref inp) (C := RX8) (T := TX8) (N := 9) hx hb hts inG_X8 hown hK hP 8 rfl rfl 2 (by decide) (hts _ fl_X8_19) (fun _ h9 => h9) rfl dX8_value_32 ?_
    refine lv_iconst (v := 0) hx hb dX8_value_35 (by decide) ?_
    refine calI (rest := []) (wr := [(j0, .inr (1, [.ref jk, .ref z, .ref ja, .int jg, .int jw])), (jk, .inl (cI, 4, .inl jkf)), (pg, .inr (3, [.ref pgt, .int pgsz])), (pgt, .inl (cI, 12, .inl pgf)), (sew, .inl (cI, 12, .inl awf_9)), (x0, .inr (7, [.ref pg, .ref sr, .ref inp, .ref se, .ref so, .ref j0, .ref g, .ref q0, .int xr]))]) hG (c_X6_work l dC dI cI cJ base bB bO se ses sew sek asc_3 awc_4 aht_5 afi_6 amd_7 asf_8 akf_10 inp inpf_20 0 (by first | assumption | omega) (by first | assumption | omega)) ml_X8_115 im_X6_work se_X6_work ini_X6 cd_X6_work hd_X6_work ⟨(Nat.le_of_ble_eq_true rfl), (Nat.le_of_ble_eq_true rfl)⟩ (Nat.le_of_ble_eq_true rfl) (Nat.le_of_ble_eq_true rfl) hP hD hS [4, 5, 7, 9] [0, 1, 2, 3, 6, 8] rfl rfl rfl rfl (by decide) 5 4 rfl rfl hl.1 rfl (Nat.le_of_ble_eq_true rfl) dX8_value_36 (fun r21 u H locs hw22 hP hD hS => ?_)
    obtain ⟨aht_23, akf_24⟩ := u
    have hw22 : (0 ≤ aht_23.toInt ∧ aht_23.toInt ≤ 12 ∨ aht_23.toInt = aht_5.toInt) ∧ True := hw22
    obtain ⟨hp25, -⟩ := hw22
    have hP : va_P (dC, dI) vwCl [(j0, .inr (1, [.ref jk, .ref z, .ref ja, .int jg, .int jw])), (jk, .inl (cI, 4, .inl jkf)), (pg, .inr (3, [.ref pgt, .int pgsz])), (pgt, .inl (cI, 12, .inl pgf)), (sew, .inl (cI, 12, .inl awf_9)), (x0, .inr (7, [.ref pg, .ref sr, .ref inp, .ref se, .ref so, .ref j0, .ref g, .ref q0, .int xr])), (se, .inr (5, [.ref ses, .ref sew, .ref sek, .int asc_3, .int awc_4, .int aht_23, .int afi_6, .int amd_7])), (ses, .inl (cI, 12, .inl asf_8)), (sek, .inl (cI, 12, .inl akf_24)), (inp, .inl (cI, 4, .inl inpf_20))] H := hP
    have hD : va_D A [(j0, .inr (1, [.ref jk, .ref z, .ref ja, .int jg, .int jw])), (jk, .inl (cI, 4, .inl jkf)), (pg, .inr (3, [.ref pgt, .int pgsz])), (pgt, .inl (cI, 12, .inl pgf)), (sew, .inl (cI, 12, .inl awf_9)), (x0, .inr (7, [.ref pg, .ref sr, .ref inp, .ref se, .ref so, .ref j0, .ref g, .ref q0, .int xr])), (se, .inr (5, [.ref ses, .ref sew, .ref sek, .int asc_3, .int awc_4, .int aht_23, .int afi_6, .int amd_7])), (ses, .inl (cI, 12, .inl asf_8)), (sek, .inl (cI, 12, .inl akf_24)), (inp, .inl (cI, 4, .inl inpf_20))] := hD
    exact hret r21 (asc_3, awc_4, aht_23, afi_6, amd_7, asf_8, awf_9, akf_24, inpf_20) H locs 39 ls rfl ⟨(show 0 ≤ asc_3.toInt ∧ asc_3.toInt ≤ 12 from by first | rfl | assumption | omega), (show 0 ≤ awc_4.toInt ∧ awc_4.toInt ≤ 12 from by first | rfl | assumption | omega), (show 0 ≤ aht_23.toInt ∧ aht_23.toInt ≤ 12 from by first | rfl | assumption | omega), (show afi_6.toInt = 0 ∨ afi_6.toInt = 1 from by first | rfl | assumption | omega), (show ∀ j : Nat, 0 ≤ (awf_9 j).toInt ∧ (awf_9 j).toInt < 12 from by first | rfl | assumption | omega), (show stOK asf_8 asc_3 from by first | rfl | assumption | omega), trivial⟩ (hP.sub (ws' := [(x0, .inr (7, [.ref pg, .ref sr, .ref inp, .ref se, .ref so, .ref j0, .ref g, .ref q0, .int xr])), (j0, .inr (1, [.ref jk, .ref z, .ref ja, .int jg, .int jw])), (jk, .inl (cI, 4, .inl jkf)), (pg, .inr (3, [.ref pgt, .int pgsz])), (pgt, .inl (cI, 12, .inl pgf)), (se, .inr (5, [.ref ses, .ref sew, .ref sek, .int asc_3, .int awc_4, .int aht_23, .int afi_6, .int amd_7])), (ses, .inl (cI, 12, .inl asf_8)), (sew, .inl (cI, 12, .inl awf_9)), (sek, .inl (cI, 12, .inl akf_24)), (inp, .inl (cI, 4, .inl inpf_20))]) [5, 0, 1, 2, 3, 6, 7, 4, 8, 9] rfl) (hD.sub (ws' := [(x0, .inr (7, [.ref pg, .ref sr, .ref inp, .ref se, .ref so, .ref j0, .ref g, .ref q0, .int xr])), (j0, .inr (1, [.ref jk, .ref z, .ref ja, .int jg, .int jw])), (jk, .inl (cI, 4, .inl jkf)), (pg, .inr (3, [.ref pgt, .int pgsz])), (pgt, .inl (cI, 12, .inl pgf)), (se, .inr (5, [.ref ses, .ref sew, .ref sek, .int asc_3, .int awc_4, .int aht_23, .int afi_6, .int amd_7])), (ses, .inl (cI, 12, .inl asf_8)), (sew, .inl (cI, 12, .inl awf_9)), (sek, .inl (cI, 12, .inl akf_24)), (inp, .inl (cI, 4, .inl inpf_20))]) [5, 0, 1, 2, 3, 6, 7, 4, 8, 9] (by decide) rfl) hS dX8_value_39
  · have c18' := I_eq c18
    refine lv_ldc (v := (-2000000)) hx hb hown (hts _ k_X8_110) dX8_value_15 ?_
    exact hret (-2000000) (asc_3, awc_4, aht_5, afi_6, amd_7, asf_8, awf_9, akf_10, inpf) H locs 17 ls rfl ⟨(show 0 ≤ asc_3.toInt ∧ asc_3.toInt ≤ 12 from by first | rfl | assumption | omega), (show 0 ≤ awc_4.toInt ∧ awc_4.toInt ≤ 12 from by first | rfl | assumption | omega), (show 0 ≤ aht_5.toInt ∧ aht_5.toInt ≤ 12 from by first | rfl | assumption | omega), (show afi_6.toInt = 0 ∨ afi_6.toInt = 1 from by first | rfl | assumption | omega), (show ∀ j : Nat, 0 ≤ (awf_9 j).toInt ∧ (awf_9 j).toInt < 12 from by first | rfl | assumption | omega), (show stOK asf_8 asc_3 from by first | rfl | assumption | omega), trivial⟩ (hP.sub (ws' := [(x0, .inr (7, [.ref pg, .ref sr, .ref inp, .ref se, .ref so, .ref j0, .ref g, .ref q0, .int xr])), (j0, .inr (1, [.ref jk, .ref z, .ref ja, .int jg, .int jw])), (jk, .inl (cI, 4, .inl jkf)), (pg, .inr (3, [.ref pgt, .int pgsz])), (pgt, .inl (cI, 12, .inl pgf)), (se, .inr (5, [.ref ses, .ref sew, .ref sek, .int asc_3, .int awc_4, .int aht_5, .int afi_6, .int amd_7])), (ses, .inl (cI, 12, .inl asf_8)), (sew, .inl (cI, 12, .inl awf_9)), (sek, .inl (cI, 12, .inl akf_10)), (inp, .inl (cI, 4, .inl inpf))]) [1, 2, 3, 4, 5, 6, 7, 8, 9, 0] rfl) (hD.sub (ws' := [(x0, .inr (7, [.ref pg, .ref sr, .ref inp, .ref se, .ref so, .ref j0, .ref g, .ref q0, .int xr])), (j0, .inr (1, [.ref jk, .ref z, .ref ja, .int jg, .int jw])), (jk, .inl (cI, 4, .inl jkf)), (pg, .inr (3, [.ref pgt, .int pgsz])), (pgt, .inl (cI, 12, .inl pgf)), (se, .inr (5, [.ref ses, .ref sew, .ref sek, .int asc_3, .int awc_4, .int aht_5, .int afi_6, .int amd_7])), (ses, .inl (cI, 12, .inl asf_8)), (sew, .inl (cI, 12, .inl awf_9)), (sek, .inl (cI, 12, .inl akf_10)), (inp, .inl (cI, 4, .inl inpf))]) [1, 2, 3, 4, 5, 6, 7, 8, 9, 0] (by decide) rfl) hS dX8_value_17
set_option maxHeartbeats 4000000 in
set_option maxRecDepth 100000 in
theorem c_X8_test (l : Launch) (dC : Nat → ClassId) (dI : Nat → Nat → Nat) (cI cJ : ClassId) (base bB bO : Nat) (x0 : Nat) (pg : Nat) (sr : Nat) (inp : Nat) (se : Nat) (so : Nat) (j0 : Nat) (g : Nat) (q0 : Nat) (xr : Int32) (jk : Nat) (z : Nat) (a : Nat) (jg : Int32) (jw : Int32) (inpf : Nat → Int32) (zc : Nat) (zs : Int32) (zcf : Nat → Int32) (i1 : Int32) (i2 : Int32) (i3 : Int32) (i4 : Int32) (y : Int32) (hq0 : 0 ≤ zs.toInt ∧ zs.toInt ≤ 8) : CtI l dC dI cI cJ base bB bO yX8_test cX8_test 6 .int 1 24 [.ref x0, .int i1, .int i2, .int i3, .int i4, .int y] [(x0, .inr (7, [.ref pg, .ref sr, .ref inp, .ref se, .ref so, .ref j0, .ref g, .ref q0, .int xr])), (j0, .inr (1, [.ref jk, .ref z, .ref a, .int jg, .int jw])), (inp, .inl (cI, 4, .inl inpf)), (z, .inr (6, [.ref zc, .int zs])), (zc, .inl (cI, 40, .inl zcf))] ((Int32) × (Nat → Int32) × (Int32) × (Nat → Int32)) (fun (res : Int32) (u : (Int32) × (Nat → Int32) × (Int32) × (Nat → Int32)) => (0 ≤ u.2.2.1.toInt ∧ u.2.2.1.toInt ≤ 8) ∧ (((-100 ≤ i1.toInt ∧ i1.toInt ≤ 100 ∧ -100 ≤ i2.toInt ∧ i2.toInt ≤ 100 ∧ -100 ≤ i3.toInt ∧ i3.toInt ≤ 100 ∧ -100 ≤ i4.toInt ∧ i4.toInt ≤ 100 ∧ -1000000 ≤ y.toInt ∧ y.toInt ≤ 1000000) ∧ zs.toInt < 8 ∧ res.toInt = zs.toInt ∧ u.2.2.1.toInt = zs.toInt + 1) ∨ ((-100 ≤ i1.toInt ∧ i1.toInt ≤ 100 ∧ -100 ≤ i2.toInt ∧ i2.toInt ≤ 100 ∧ -100 ≤ i3.toInt ∧ i3.toInt ≤ 100 ∧ -100 ≤ i4.toInt ∧ i4.toInt ≤ 100 ∧ -1000000 ≤ y.toInt ∧ y.toInt ≤ 1000000) ∧ zs.toInt = 8 ∧ res.toInt = -5 ∧ u.2.2.1.toInt = zs.toInt) ∨ (¬ (-100 ≤ i1.toInt ∧ i1.toInt ≤ 100 ∧ -100 ≤ i2.toInt ∧ i2.toInt ≤ 100 ∧ -100 ≤ i3.toInt ∧ i3.toInt ≤ 100 ∧ -100 ≤ i4.toInt ∧ i4.toInt ≤ 100 ∧ -1000000 ≤ y.toInt ∧ y.toInt ≤ 1000000) ∧ res.toInt = -1 ∧ u.2.2.1.toInt = zs.toInt)) ∧ True) (fun (u : (Int32) × (Nat → Int32) × (Int32) × (Nat → Int32)) => [(x0, .inr (7, [.ref pg, .ref sr, .ref inp, .ref se, .ref so, .ref j0, .ref g, .ref q0, .int u.1])), (j0, .inr (1, [.ref jk, .ref z, .ref a, .int jg, .int jw])), (inp, .inl (cI, 4, .inl u.2.1)), (z, .inr (6, [.ref zc, .int u.2.2.1])), (zc, .inl (cI, 40, .inl u.2.2.2))]) := by
  refine entI (by decide) (Nat.le_of_ble_eq_true rfl) ?_
  intro p e s m below meth c A Q ls hAt hret hP hD hS hl
  obtain ⟨hx, hb, hml, hown, hts, hA, hAb, hK, hE, hlocks, hin⟩ := hAt
  have hG : CG dC dI cI cJ base bB bO cX8_test 6 RX8 p s m (List.toArray [.ref x0, .int i1, .int i2, .int i3, .int i4, .int y]) c A := ⟨hx, hb, hml, hown, hts, hA, hAb, hK, hE⟩
  have hl : lv_has ls 6 [(0, .ref x0), (1, .int i1), (2, .int i2), (3, .int i3), (4, .int i4), (5, .int y)] := hl
  have c_m5 : (-5 : Int32).toInt = -5 := by decide
  have c_m1 : (-1 : Int32).toInt = -1 := by decide
  have c_0 : (0 : Int32).toInt = 0 := by decide
  have c_1 : (1 : Int32).toInt = 1 := by decide
  have c_8 : (8 : Int32).toInt = 8 := by decide
  obtain ⟨H, hHe⟩ : ∃ H : Heap, H = s.heap := ⟨_, rfl⟩
  obtain ⟨locs, hle⟩ : ∃ z : List Loc, z = [] := ⟨_, rfl⟩
  rw [← hHe] at hP
  have hS : va_S A s.heap H locs := by rw [hHe, hle]; exact hS
  suffices hgo : W p l e { frames := 1, cells := 0, slots := 0, locals := 24 } s m (List.toArray [.ref x0, .int i1, .int i2, .int i3, .int i4, .int y]) below meth c H locs 0 0 Q (F0 m 0 ls []) by rw [hHe, hle] at hgo; exact hgo
  refine lv_iload_n hx hb dX8_test_0 rfl (lv_at hl 1 rfl) ?_
  refine calOI (rest := []) (wr := [(x0, .inr (7, [.ref pg, .ref sr, .ref inp, .ref se, .ref so, .ref j0, .ref g, .ref q0, .int xr])), (j0, .inr (1, [.ref jk, .ref z, .ref a, .int jg, .int jw])), (inp, .inl (cI, 4, .inl inpf)), (z, .inr (6, [.ref zc, .int zs])), (zc, .inl (cI, 40, .inl zcf))]) hG (c_X8_isInput l dC dI cI cJ base bB bO i1 ) ml_X8_119 st_X8_isInput ini_X8 cd_X8_isInput hd_X8_isInput.2 ⟨(Nat.le_of_ble_eq_true rfl), (Nat.le_of_ble_eq_true rfl)⟩ (Nat.le_of_ble_eq_true rfl) (Nat.le_of_ble_eq_true rfl) hP hD hS [] [0, 1, 2, 3, 4] rfl rfl rfl rfl (by decide) hl.1 rfl (Nat.le_of_ble_eq_true rfl) dX8_test_1 (fun r1 u H locs hw2 hP hD hS => ?_)
  have hw2 : ((r1.toInt = 1 ∧ -100 ≤ i1.toInt ∧ i1.toInt ≤ 100) ∨ (r1.toInt = 0 ∧ (i1.toInt < -100 ∨ 100 < i1.toInt))) ∧ True := hw2
  obtain ⟨hp3, -⟩ := hw2
  have hP : va_P (dC, dI) vwCl [(x0, .inr (7, [.ref pg, .ref sr, .ref inp, .ref se, .ref so, .ref j0, .ref g, .ref q0, .int xr])), (j0, .inr (1, [.ref jk, .ref z, .ref a, .int jg, .int jw])), (inp, .inl (cI, 4, .inl inpf)), (z, .inr (6, [.ref zc, .int zs])), (zc, .inl (cI, 40, .inl zcf))] H := hP
  have hD : va_D A [(x0, .inr (7, [.ref pg, .ref sr, .ref inp, .ref se, .ref so, .ref j0, .ref g, .ref q0, .int xr])), (j0, .inr (1, [.ref jk, .ref z, .ref a, .int jg, .int jw])), (inp, .inl (cI, 4, .inl inpf)), (z, .inr (6, [.ref zc, .int zs])), (zc, .inl (cI, 40, .inl zcf))] := hD
  refine lv_if_eq (tgt := 38) hx hb dX8_test_4 (by decide) (fun c4 => ?_) (fun c4 => ?_)
  · have c4' := I_eq c4
    refine lv_aload_n hx hb dX8_test_38 rfl (lv_at hl 0 rfl) ?_
    refine lv_iconst (v := (-1)) hx hb dX8_test_39 (by decide) ?_
    refine calI (rest := []) (wr := [(j0, .inr (1, [.ref jk, .ref z, .ref a, .int jg, .int jw])), (inp, .inl (cI, 4, .inl inpf)), (z, .inr (6, [.ref zc, .int zs])), (zc, .inl (cI, 40, .inl zcf))]) hG (c_X8_refuse l dC dI cI cJ base bB bO x0 pg sr inp se so j0 g q0 xr (-1) ) ml_X8_62 im_X8_refuse se_X8_refuse ini_X8 cd_X8_refuse hd_X8_refuse ⟨(Nat.le_of_ble_eq_true rfl), (Nat.le_of_ble_eq_true rfl)⟩ (Nat.le_of_ble_eq_true rfl) (Nat.le_of_ble_eq_true rfl) hP hD hS [0] [1, 2, 3, 4] rfl rfl rfl rfl (by decide) 7 0 rfl rfl hl.1 rfl (Nat.le_of_ble_eq_true rfl) dX8_test_40 (fun r5 u H locs hw6 hP hD hS => ?_)
    obtain ⟨xr_7, rfl⟩ : ∃ z, z = u := ⟨_, rfl⟩
    have hw6 : (r5 = (-1 : Int32)) ∧ (xr_7 = (-1 : Int32)) ∧ True := hw6
    obtain ⟨hp8, hp9, -⟩ := hw6
    have hp8t := I_eq hp8
    have hP : va_P (dC, dI) vwCl [(j0, .inr (1, [.ref jk, .ref z, .ref a, .int jg, .int jw])), (inp, .inl (cI, 4, .inl inpf)), (z, .inr (6, [.ref zc, .int zs])), (zc, .inl (cI, 40, .inl zcf)), (x0, .inr (7, [.ref pg, .ref sr, .ref inp, .ref se, .ref so, .ref j0, .ref g, .ref q0, .int xr_7]))] H := hP
    have hD : va_D A [(j0, .inr (1, [.ref jk, .ref z, .ref a, .int jg, .int jw])), (inp, .inl (cI, 4, .inl inpf)), (z, .inr (6, [.ref zc, .int zs])), (zc, .inl (cI, 40, .inl zcf)), (x0, .inr (7, [.ref pg, .ref sr, .ref inp, .ref se, .ref so, .ref j0, .ref g, .ref q0, .int xr_7]))] := hD
    exact hret r5 (xr_7, inpf, zs, zcf) H locs 43 ls rfl ⟨(show 0 ≤ zs.toInt ∧ zs.toInt ≤ 8 from by first | rfl | assumption | omega), (show ((-100 ≤ i1.toInt ∧ i1.toInt ≤ 100 ∧ -100 ≤ i2.toInt ∧ i2.toInt ≤ 100 ∧ -100 ≤ i3.toInt ∧ i3.toInt ≤ 100 ∧ -100 ≤ i4.toInt ∧ i4.toInt ≤ 100 ∧ -1000000 ≤ y.toInt ∧ y.toInt ≤ 1000000) ∧ zs.toInt < 8 ∧ r5.toInt = zs.toInt ∧ zs.toInt = zs.toInt + 1) ∨ ((-100 ≤ i1.toInt ∧ i1.toInt ≤ 100 ∧ -100 ≤ i2.toInt ∧ i2.toInt ≤ 100 ∧ -100 ≤ i3.toInt ∧ i3.toInt ≤ 100 ∧ -100 ≤ i4.toInt ∧ i4.toInt ≤ 100 ∧ -1000000 ≤ y.toInt ∧ y.toInt ≤ 1000000) ∧ zs.toInt = 8 ∧ r5.toInt = -5 ∧ zs.toInt = zs.toInt) ∨ (¬ (-100 ≤ i1.toInt ∧ i1.toInt ≤ 100 ∧ -100 ≤ i2.toInt ∧ i2.toInt ≤ 100 ∧ -100 ≤ i3.toInt ∧ i3.toInt ≤ 100 ∧ -100 ≤ i4.toInt ∧ i4.toInt ≤ 100 ∧ -1000000 ≤ y.toInt ∧ y.toInt ≤ 1000000) ∧ r5.toInt = -1 ∧ zs.toInt = zs.toInt) from by first | rfl | assumption | omega), trivial⟩ (hP.sub (ws' := [(x0, .inr (7, [.ref pg, .ref sr, .ref inp, .ref se, .ref so, .ref j0, .ref g, .ref q0, .int xr_7])), (j0, .inr (1, [.ref jk, .ref z, .ref a, .int jg, .int jw])), (inp, .inl (cI, 4, .inl inpf)), (z, .inr (6, [.ref zc, .int zs])), (zc, .inl (cI, 40, .inl zcf))]) [4, 0, 1, 2, 3] rfl) (hD.sub (ws' := [(x0, .inr (7, [.ref pg, .ref sr, .ref inp, .ref se, .ref so, .ref j0, .ref g, .ref q0, .int xr_7])), (j0, .inr (1, [.ref jk, .ref z, .ref a, .int jg, .int jw])), (inp, .inl (cI, 4, .inl inpf)), (z, .inr (6, [.ref zc, .int zs])), (zc, .inl (cI, 40, .inl zcf))]) [4, 0, 1, 2, 3] (by decide) rfl) hS dX8_test_43
  · have c4' := I_ne c4
    refine lv_iload_n hx hb dX8_test_7 rfl (lv_at hl 2 rfl) ?_
    refine calOI (rest := []) (wr := [(x0, .inr (7, [.ref pg, .ref sr, .ref inp, .ref se, .ref so, .ref j0, .ref g, .ref q0, .int xr])), (j0, .inr (1, [.ref jk, .ref z, .ref a, .int jg, .int jw])), (inp, .inl (cI, 4, .inl inpf)), (z, .inr (6, [.ref zc, .int zs])), (zc, .inl (cI, 40, .inl zcf))]) hG (c_X8_isInput l dC dI cI cJ base bB bO i2 ) ml_X8_119 st_X8_isInput ini_X8 cd_X8_isInput hd_X8_isInput.2 ⟨(Nat.le_of_ble_eq_true rfl), (Nat.le_of_ble_eq_true rfl)⟩ (Nat.le_of_ble_eq_true rfl) (Nat.le_of_ble_eq_true rfl) hP hD hS [] [0, 1, 2, 3, 4] rfl rfl rfl rfl (by decide) hl.1 rfl (Nat.le_of_ble_eq_true rfl) dX8_test_8 (fun r10 u H locs hw11 hP hD hS => ?_)
    have hw11 : ((r10.toInt = 1 ∧ -100 ≤ i2.toInt ∧ i2.toInt ≤ 100) ∨ (r10.toInt = 0 ∧ (i2.toInt < -100 ∨ 100 < i2.toInt))) ∧ True := hw11
    obtain ⟨hp12, -⟩ := hw11
    have hP : va_P (dC, dI) vwCl [(x0, .inr (7, [.ref pg, .ref sr, .ref inp, .ref se, .ref so, .ref j0, .ref g, .ref q0, .int xr])), (j0, .inr (1, [.ref jk, .ref z, .ref a, .int jg, .int jw])), (inp, .inl (cI, 4, .inl inpf)), (z, .inr (6, [.ref zc, .int zs])), (zc, .inl (cI, 40, .inl zcf))] H := hP
    have hD : va_D A [(x0, .inr (7, [.ref pg, .ref sr, .ref inp, .ref se, .ref so, .ref j0, .ref g, .ref q0, .int xr])), (j0, .inr (1, [.ref jk, .ref z, .ref a, .int jg, .int jw])), (inp, .inl (cI, 4, .inl inpf)), (z, .inr (6, [.ref zc, .int zs])), (zc, .inl (cI, 40, .inl zcf))] := hD
    refine lv_if_eq (tgt := 38) hx hb dX8_test_11 (by decide) (fun c13 => ?_) (fun c13 => ?_)
    · have c13' := I_eq c13
      refine lv_aload_n hx hb dX8_test_38 rfl (lv_at hl 0 rfl) ?_
      refine lv_iconst (v := (-1)) hx hb dX8_test_39 (by decide) ?_
      refine calI (rest := []) (wr := [(j0, .inr (1, [.ref jk, .ref z, .ref a, .int jg, .int jw])), (inp, .inl (cI, 4, .inl inpf)), (z, .inr (6, [.ref zc, .int zs])), (zc, .inl (cI, 40, .inl zcf))]) hG (c_X8_refuse l dC dI cI cJ base bB bO x0 pg sr inp se so j0 g q0 xr (-1) ) ml_X8_62 im_X8_refuse se_X8_refuse ini_X8 cd_X8_refuse hd_X8_refuse ⟨(Nat.le_of_ble_eq_true rfl), (Nat.le_of_ble_eq_true rfl)⟩ (Nat.le_of_ble_eq_true rfl) (Nat.le_of_ble_eq_true rfl) hP hD hS [0] [1, 2, 3, 4] rfl rfl rfl rfl (by decide) 7 0 rfl rfl hl.1 rfl (Nat.le_of_ble_eq_true rfl) dX8_test_40 (fun r14 u H locs hw15 hP hD hS => ?_)
      obtain ⟨xr_16, rfl⟩ : ∃ z, z = u := ⟨_, rfl⟩
      have hw15 : (r14 = (-1 : Int32)) ∧ (xr_16 = (-1 : Int32)) ∧ True := hw15
      obtain ⟨hp17, hp18, -⟩ := hw15
      have hp17t := I_eq hp17
      have hP : va_P (dC, dI) vwCl [(j0, .inr (1, [.ref jk, .ref z, .ref a, .int jg, .int jw])), (inp, .inl (cI, 4, .inl inpf)), (z, .inr (6, [.ref zc, .int zs])), (zc, .inl (cI, 40, .inl zcf)), (x0, .inr (7, [.ref pg, .ref sr, .ref inp, .ref se, .ref so, .ref j0, .ref g, .ref q0, .int xr_16]))] H := hP
      have hD : va_D A [(j0, .inr (1, [.ref jk, .ref z, .ref a, .int jg, .int jw])), (inp, .inl (cI, 4, .inl inpf)), (z, .inr (6, [.ref zc, .int zs])), (zc, .inl (cI, 40, .inl zcf)), (x0, .inr (7, [.ref pg, .ref sr, .ref inp, .ref se, .ref so, .ref j0, .ref g, .ref q0, .int xr_16]))] := hD
      exact hret r14 (xr_16, inpf, zs, zcf) H locs 43 ls rfl ⟨(show 0 ≤ zs.toInt ∧ zs.toInt ≤ 8 from by first | rfl | assumption | omega), (show ((-100 ≤ i1.toInt ∧ i1.toInt ≤ 100 ∧ -100 ≤ i2.toInt ∧ i2.toInt ≤ 100 ∧ -100 ≤ i3.toInt ∧ i3.toInt ≤ 100 ∧ -100 ≤ i4.toInt ∧ i4.toInt ≤ 100 ∧ -1000000 ≤ y.toInt ∧ y.toInt ≤ 1000000) ∧ zs.toInt < 8 ∧ r14.toInt = zs.toInt ∧ zs.toInt = zs.toInt + 1) ∨ ((-100 ≤ i1.toInt ∧ i1.toInt ≤ 100 ∧ -100 ≤ i2.toInt ∧ i2.toInt ≤ 100 ∧ -100 ≤ i3.toInt ∧ i3.toInt ≤ 100 ∧ -100 ≤ i4.toInt ∧ i4.toInt ≤ 100 ∧ -1000000 ≤ y.toInt ∧ y.toInt ≤ 1000000) ∧ zs.toInt = 8 ∧ r14.toInt = -5 ∧ zs.toInt = zs.toInt) ∨ (¬ (-100 ≤ i1.toInt ∧ i1.toInt ≤ 100 ∧ -100 ≤ i2.toInt ∧ i2.toInt ≤ 100 ∧ -100 ≤ i3.toInt ∧ i3.toInt ≤ 100 ∧ -100 ≤ i4.toInt ∧ i4.toInt ≤ 100 ∧ -1000000 ≤ y.toInt ∧ y.toInt ≤ 1000000) ∧ r14.toInt = -1 ∧ zs.toInt = zs.toInt) from by first | rfl | assumption | omega), trivial⟩ (hP.sub (ws' := [(x0, .inr (7, [.ref pg, .ref sr, .ref inp, .ref se, .ref so, .ref j0, .ref g, .ref q0, .int xr_16])), (j0, .inr (1, [.ref jk, .ref z, .ref a, .int jg, .int jw])), (inp, .inl (cI, 4, .inl inpf)), (z, .inr (6, [.ref zc, .int zs])), (zc, .inl (cI, 40, .inl zcf))]) [4, 0, 1, 2, 3] rfl) (hD.sub (ws' := [(x0, .inr (7, [.ref pg, .ref sr, .ref inp, .ref se, .ref so, .ref j0, .ref g, .ref q0, .int xr_16])), (j0, .inr (1, [.ref jk, .ref z, .ref a, .int jg, .int jw])), (inp, .inl (cI, 4, .inl inpf)), (z, .inr (6, [.ref zc, .int zs])), (zc, .inl (cI, 40, .inl zcf))]) [4, 0, 1, 2, 3] (by decide) rfl) hS dX8_test_43
    · have c13' := I_ne c13
      refine lv_iload_n hx hb dX8_test_14 rfl (lv_at hl 3 rfl) ?_
      refine calOI (rest := []) (wr := [(x0, .inr (7, [.ref pg, .ref sr, .ref inp, .ref se, .ref so, .ref j0, .ref g, .ref q0, .int xr])), (j0, .inr (1, [.ref jk, .ref z, .ref a, .int jg, .int jw])), (inp, .inl (cI, 4, .inl inpf)), (z, .inr (6, [.ref zc, .int zs])), (zc, .inl (cI, 40, .inl zcf))]) hG (c_X8_isInput l dC dI cI cJ base bB bO i3 ) ml_X8_119 st_X8_isInput ini_X8 cd_X8_isInput hd_X8_isInput.2 ⟨(Nat.le_of_ble_eq_true rfl), (Nat.le_of_ble_eq_true rfl)⟩ (Nat.le_of_ble_eq_true rfl) (Nat.le_of_ble_eq_true rfl) hP hD hS [] [0, 1, 2, 3, 4] rfl rfl rfl rfl (by decide) hl.1 rfl (Nat.le_of_ble_eq_true rfl) dX8_test_15 (fun r19 u H locs hw20 hP hD hS => ?_)
      have hw20 : ((r19.toInt = 1 ∧ -100 ≤ i3.toInt ∧ i3.toInt ≤ 100) ∨ (r19.toInt = 0 ∧ (i3.toInt < -100 ∨ 100 < i3.toInt))) ∧ True := hw20
      obtain ⟨hp21, -⟩ := hw20
      have hP : va_P (dC, dI) vwCl [(x0, .inr (7, [.ref pg, .ref sr, .ref inp, .ref se, .ref so, .ref j0, .ref g, .ref q0, .int xr])), (j0, .inr (1, [.ref jk, .ref z, .ref a, .int jg, .int jw])), (inp, .inl (cI, 4, .inl inpf)), (z, .inr (6, [.ref zc, .int zs])), (zc, .inl (cI, 40, .inl zcf))] H := hP
      have hD : va_D A [(x0, .inr (7, [.ref pg, .ref sr, .ref inp, .ref se, .ref so, .ref j0, .ref g, .ref q0, .int xr])), (j0, .inr (1, [.ref jk, .ref z, .ref a, .int jg, .int jw])), (inp, .inl (cI, 4, .inl inpf)), (z, .inr (6, [.ref zc, .int zs])), (zc, .inl (cI, 40, .inl zcf))] := hD
      refine lv_if_eq (tgt := 38) hx hb dX8_test_18 (by decide) (fun c22 => ?_) (fun c22 => ?_)
      · have c22' := I_eq c22
        refine lv_aload_n hx hb dX8_test_38 rfl (lv_at hl 0 rfl) ?_
        refine lv_iconst (v := (-1)) hx hb dX8_test_39 (by decide) ?_
        refine calI (rest := []) (wr := [(j0, .inr (1, [.ref jk, .ref z, .ref a, .int jg, .int jw])), (inp, .inl (cI, 4, .inl inpf)), (z, .inr (6, [.ref zc, .int zs])), (zc, .inl (cI, 40, .inl zcf))]) hG (c_X8_refuse l dC dI cI cJ base bB bO x0 pg sr inp se so j0 g q0 xr (-1) ) ml_X8_62 im_X8_refuse se_X8_refuse ini_X8 cd_X8_refuse hd_X8_refuse ⟨(Nat.le_of_ble_eq_true rfl), (Nat.le_of_ble_eq_true rfl)⟩ (Nat.le_of_ble_eq_true rfl) (Nat.le_of_ble_eq_true rfl) hP hD hS [0] [1, 2, 3, 4] rfl rfl rfl rfl (by decide) 7 0 rfl rfl hl.1 rfl (Nat.le_of_ble_eq_true rfl) dX8_test_40 (fun r23 u H locs hw24 hP hD hS => ?_)
        obtain ⟨xr_25, rfl⟩ : ∃ z, z = u := ⟨_, rfl⟩
        have hw24 : (r23 = (-1 : Int32)) ∧ (xr_25 = (-1 : Int32)) ∧ True := hw24
        obtain ⟨hp26, hp27, -⟩ := hw24
        have hp26t := I_eq hp26
        have hP : va_P (dC, dI) vwCl [(j0, .inr (1, [.ref jk, .ref z, .ref a, .int jg, .int jw])), (inp, .inl (cI, 4, .inl inpf)), (z, .inr (6, [.ref zc, .int zs])), (zc, .inl (cI, 40, .inl zcf)), (x0, .inr (7, [.ref pg, .ref sr, .ref inp, .ref se, .ref so, .ref j0, .ref g, .ref q0, .int xr_25]))] H := hP
        have hD : va_D A [(j0, .inr (1, [.ref jk, .ref z, .ref a, .int jg, .int jw])), (inp, .inl (cI, 4, .inl inpf)), (z, .inr (6, [.ref zc, .int zs])), (zc, .inl (cI, 40, .inl zcf)), (x0, .inr (7, [.ref pg, .ref sr, .ref inp, .ref se, .ref so, .ref j0, .ref g, .ref q0, .int xr_25]))] := hD
        exact hret r23 (xr_25, inpf, zs, zcf) H locs 43 ls rfl ⟨(show 0 ≤ zs.toInt ∧ zs.toInt ≤ 8 from by first | rfl | assumption | omega), (show ((-100 ≤ i1.toInt ∧ i1.toInt ≤ 100 ∧ -100 ≤ i2.toInt ∧ i2.toInt ≤ 100 ∧ -100 ≤ i3.toInt ∧ i3.toInt ≤ 100 ∧ -100 ≤ i4.toInt ∧ i4.toInt ≤ 100 ∧ -1000000 ≤ y.toInt ∧ y.toInt ≤ 1000000) ∧ zs.toInt < 8 ∧ r23.toInt = zs.toInt ∧ zs.toInt = zs.toInt + 1) ∨ ((-100 ≤ i1.toInt ∧ i1.toInt ≤ 100 ∧ -100 ≤ i2.toInt ∧ i2.toInt ≤ 100 ∧ -100 ≤ i3.toInt ∧ i3.toInt ≤ 100 ∧ -100 ≤ i4.toInt ∧ i4.toInt ≤ 100 ∧ -1000000 ≤ y.toInt ∧ y.toInt ≤ 1000000) ∧ zs.toInt = 8 ∧ r23.toInt = -5 ∧ zs.toInt = zs.toInt) ∨ (¬ (-100 ≤ i1.toInt ∧ i1.toInt ≤ 100 ∧ -100 ≤ i2.toInt ∧ i2.toInt ≤ 100 ∧ -100 ≤ i3.toInt ∧ i3.toInt ≤ 100 ∧ -100 ≤ i4.toInt ∧ i4.toInt ≤ 100 ∧ -1000000 ≤ y.toInt ∧ y.toInt ≤ 1000000) ∧ r23.toInt = -1 ∧ zs.toInt = zs.toInt) from by first | rfl | assumption | omega), trivial⟩ (hP.sub (ws' := [(x0, .inr (7, [.ref pg, .ref sr, .ref inp, .ref se, .ref so, .ref j0, .ref g, .ref q0, .int xr_25])), (j0, .inr (1, [.ref jk, .ref z, .ref a, .int jg, .int jw])), (inp, .inl (cI, 4, .inl inpf)), (z, .inr (6, [.ref zc, .int zs])), (zc, .inl (cI, 40, .inl zcf))]) [4, 0, 1, 2, 3] rfl) (hD.sub (ws' := [(x0, .inr (7, [.ref pg, .ref sr, .ref inp, .ref se, .ref so, .ref j0, .ref g, .ref q0, .int xr_25])), (j0, .inr (1, [.ref jk, .ref z, .ref a, .int jg, .int jw])), (inp, .inl (cI, 4, .inl inpf)), (z, .inr (6, [.ref zc, .int zs])), (zc, .inl (cI, 40, .inl zcf))]) [4, 0, 1, 2, 3] (by decide) rfl) hS dX8_test_43
      · have c22' := I_ne c22
        refine lv_iload hx hb dX8_test_21 (lv_at hl 4 rfl) ?_
        refine calOI (rest := []) (wr := [(x0, .inr (7, [.ref pg, .ref sr, .ref inp, .ref se, .ref so, .ref j0, .ref g, .ref q0, .int xr])), (j0, .inr (1, [.ref jk, .ref z, .ref a, .int jg, .int jw])), (inp, .inl (cI, 4, .inl inpf)), (z, .inr (6, [.ref zc, .int zs])), (zc, .inl (cI, 40, .inl zcf))]) hG (c_X8_isInput l dC dI cI cJ base bB bO i4 ) ml_X8_119 st_X8_isInput ini_X8 cd_X8_isInput hd_X8_isInput.2 ⟨(Nat.le_of_ble_eq_true rfl), (Nat.le_of_ble_eq_true rfl)⟩ (Nat.le_of_ble_eq_true rfl) (Nat.le_of_ble_eq_true rfl) hP hD hS [] [0, 1, 2, 3, 4] rfl rfl rfl rfl (by decide) hl.1 rfl (Nat.le_of_ble_eq_true rfl) dX8_test_23 (fun r28 u H locs hw29 hP hD hS => ?_)
        have hw29 : ((r28.toInt = 1 ∧ -100 ≤ i4.toInt ∧ i4.toInt ≤ 100) ∨ (r28.toInt = 0 ∧ (i4.toInt < -100 ∨ 100 < i4.toInt))) ∧ True := hw29
        obtain ⟨hp30, -⟩ := hw29
        have hP : va_P (dC, dI) vwCl [(x0, .inr (7, [.ref pg, .ref sr, .ref inp, .ref se, .ref so, .ref j0, .ref g, .ref q0, .int xr])), (j0, .inr (1, [.ref jk, .ref z, .ref a, .int jg, .int jw])), (inp, .inl (cI, 4, .inl inpf)), (z, .inr (6, [.ref zc, .int zs])), (zc, .inl (cI, 40, .inl zcf))] H := hP
        have hD : va_D A [(x0, .inr (7, [.ref pg, .ref sr, .ref inp, .ref se, .ref so, .ref j0, .ref g, .ref q0, .int xr])), (j0, .inr (1, [.ref jk, .ref z, .ref a, .int jg, .int jw])), (inp, .inl (cI, 4, .inl inpf)), (z, .inr (6, [.ref zc, .int zs])), (zc, .inl (cI, 40, .inl zcf))] := hD
        refine lv_if_eq (tgt := 38) hx hb dX8_test_26 (by decide) (fun c31 => ?_) (fun c31 => ?_)
        · have c31' := I_eq c31
          refine lv_aload_n hx hb dX8_test_38 rfl (lv_at hl 0 rfl) ?_
          refine lv_iconst (v := (-1)) hx hb dX8_test_39 (by decide) ?_
          refine calI (rest := []) (wr := [(j0, .inr (1, [.ref jk, .ref z, .ref a, .int jg, .int jw])), (inp, .inl (cI, 4, .inl inpf)), (z, .inr (6, [.ref zc, .int zs])), (zc, .inl (cI, 40, .inl zcf))]) hG (c_X8_refuse l dC dI cI cJ base bB bO x0 pg sr inp se so j0 g q0 xr (-1) ) ml_X8_62 im_X8_refuse se_X8_refuse ini_X8 cd_X8_refuse hd_X8_refuse ⟨(Nat.le_of_ble_eq_true rfl), (Nat.le_of_ble_eq_true rfl)⟩ (Nat.le_of_ble_eq_true rfl) (Nat.le_of_ble_eq_true rfl) hP hD hS [0] [1, 2, 3, 4] rfl rfl rfl rfl (by decide) 7 0 rfl rfl hl.1 rfl (Nat.le_of_ble_eq_true rfl) dX8_test_40 (fun r32 u H locs hw33 hP hD hS => ?_)
          obtain ⟨xr_34, rfl⟩ : ∃ z, z = u := ⟨_, rfl⟩
          have hw33 : (r32 = (-1 : Int32)) ∧ (xr_34 = (-1 : Int32)) ∧ True := hw33
          obtain ⟨hp35, hp36, -⟩ := hw33
          have hp35t := I_eq hp35
          have hP : va_P (dC, dI) vwCl [(j0, .inr (1, [.ref jk, .ref z, .ref a, .int jg, .int jw])), (inp, .inl (cI, 4, .inl inpf)), (z, .inr (6, [.ref zc, .int zs])), (zc, .inl (cI, 40, .inl zcf)), (x0, .inr (7, [.ref pg, .ref sr, .ref inp, .ref se, .ref so, .ref j0, .ref g, .ref q0, .int xr_34]))] H := hP
          have hD : va_D A [(j0, .inr (1, [.ref jk, .ref z, .ref a, .int jg, .int jw])), (inp, .inl (cI, 4, .inl inpf)), (z, .inr (6, [.ref zc, .int zs])), (zc, .inl (cI, 40, .inl zcf)), (x0, .inr (7, [.ref pg, .ref sr, .ref inp, .ref se, .ref so, .ref j0, .ref g, .ref q0, .int xr_34]))] := hD
          exact hret r32 (xr_34, inpf, zs, zcf) H locs 43 ls rfl ⟨(show 0 ≤ zs.toInt ∧ zs.toInt ≤ 8 from by first | rfl | assumption | omega), (show ((-100 ≤ i1.toInt ∧ i1.toInt ≤ 100 ∧ -100 ≤ i2.toInt ∧ i2.toInt ≤ 100 ∧ -100 ≤ i3.toInt ∧ i3.toInt ≤ 100 ∧ -100 ≤ i4.toInt ∧ i4.toInt ≤ 100 ∧ -1000000 ≤ y.toInt ∧ y.toInt ≤ 1000000) ∧ zs.toInt < 8 ∧ r32.toInt = zs.toInt ∧ zs.toInt = zs.toInt + 1) ∨ ((-100 ≤ i1.toInt ∧ i1.toInt ≤ 100 ∧ -100 ≤ i2.toInt ∧ i2.toInt ≤ 100 ∧ -100 ≤ i3.toInt ∧ i3.toInt ≤ 100 ∧ -100 ≤ i4.toInt ∧ i4.toInt ≤ 100 ∧ -1000000 ≤ y.toInt ∧ y.toInt ≤ 1000000) ∧ zs.toInt = 8 ∧ r32.toInt = -5 ∧ zs.toInt = zs.toInt) ∨ (¬ (-100 ≤ i1.toInt ∧ i1.toInt ≤ 100 ∧ -100 ≤ i2.toInt ∧ i2.toInt ≤ 100 ∧ -100 ≤ i3.toInt ∧ i3.toInt ≤ 100 ∧ -100 ≤ i4.toInt ∧ i4.toInt ≤ 100 ∧ -1000000 ≤ y.toInt ∧ y.toInt ≤ 1000000) ∧ r32.toInt = -1 ∧ zs.toInt = zs.toInt) from by first | rfl | assumption | omega), trivial⟩ (hP.sub (ws' := [(x0, .inr (7, [.ref pg, .ref sr, .ref inp, .ref se, .ref so, .ref j0, .ref g, .ref q0, .int xr_34])), (j0, .inr (1, [.ref jk, .ref z, .ref a, .int jg, .int jw])), (inp, .inl (cI, 4, .inl inpf)), (z, .inr (6, [.ref zc, .int zs])), (zc, .inl (cI, 40, .inl zcf))]) [4, 0, 1, 2, 3] rfl) (hD.sub (ws' := [(x0, .inr (7, [.ref pg, .ref sr, .ref inp, .ref se, .ref so, .ref j0, .ref g, .ref q0, .int xr_34])), (j0, .inr (1, [.ref jk, .ref z, .ref a, .int jg, .int jw])), (inp, .inl (cI, 4, .inl inpf)), (z, .inr (6, [.ref zc, .int zs])), (zc, .inl (cI, 40, .inl zcf))]) [4, 0, 1, 2, 3] (by decide) rfl) hS dX8_test_43
        · have c31' := I_ne c31
          refine lv_iload hx hb dX8_test_29 (lv_at hl 5 rfl) ?_
          obtain ⟨w37, ew37⟩ : ∃ z : Int64, Int32.toInt64 y = z := ⟨_, rfl⟩
          have hw37 := J_of y
          rw [ew37] at hw37
          refine lv_i2l (v := w37) hx hb dX8_test_31 ew37 ?_
          refine calOI (rest := []) (wr := [(x0, .inr (7, [.ref pg, .ref sr, .ref inp, .ref se, .ref so, .ref j0, .ref g, .ref q0, .int xr])), (j0, .inr (1, [.ref jk, .ref z, .ref a, .int jg, .int jw])), (inp, .inl (cI, 4, .inl inpf)), (z, .inr (6, [.ref zc, .int zs])), (zc, .inl (cI, 40, .inl zcf))]) hG (c_X8_isTooFar l dC dI cI cJ base bB bO w37 ) ml_X8_122 st_X8_isTooFar ini_X8 cd_X8_isTooFar hd_X8_isTooFar.2 ⟨(Nat.le_of_ble_eq_true rfl), (Nat.le_of_ble_eq_true rfl)⟩ (Nat.le_of_ble_eq_true rfl) (Nat.le_of_ble_eq_true rfl) hP hD hS [] [0, 1, 2, 3, 4] rfl rfl rfl rfl (by decide) hl.1 rfl (Nat.le_of_ble_eq_true rfl) dX8_test_32 (fun r38 u H locs hw39 hP hD hS => ?_)
          have hw39 : ((r38.toInt = 1 ∧ (1000000 < w37.toInt ∨ w37.toInt < -1000000)) ∨ (r38.toInt = 0 ∧ -1000000 ≤ w37.toInt ∧ w37.toInt ≤ 1000000)) ∧ True := hw39
          obtain ⟨hp40, -⟩ := hw39
          have hP : va_P (dC, dI) vwCl [(x0, .inr (7, [.ref pg, .ref sr, .ref inp, .ref se, .ref so, .ref j0, .ref g, .ref q0, .int xr])), (j0, .inr (1, [.ref jk, .ref z, .ref a, .int jg, .int jw])), (inp, .inl (cI, 4, .inl inpf)), (z, .inr (6, [.ref zc, .int zs])), (zc, .inl (cI, 40, .inl zcf))] H := hP
          have hD : va_D A [(x0, .inr (7, [.ref pg, .ref sr, .ref inp, .ref se, .ref so, .ref j0, .ref g, .ref q0, .int xr])), (j0, .inr (1, [.ref jk, .ref z, .ref a, .int jg, .int jw])), (inp, .inl (cI, 4, .inl inpf)), (z, .inr (6, [.ref zc, .int zs])), (zc, .inl (cI, 40, .inl zcf))] := hD
          refine lv_if_eq (tgt := 44) hx hb dX8_test_35 (by decide) (fun c41 => ?_) (fun c41 => ?_)
          · have c41' := I_eq c41
            refine lv_aload_n hx hb dX8_test_44 rfl (lv_at hl 0 rfl) ?_
            refine va_get (D := (dC, dI)) (ci := 7) (v := .ref j0) (C := RX8) (T := TX8) (N := 9) hx hb hts inG_X8 hown hK hP 0 rfl rfl 5 (by decide) (hts _ fl_X8_36) (fun _ h9 => h9) rfl dX8_test_45 ?_
            refine va_get (D := (dC, dI)) (ci := 1) (v := .ref z) (C := RX1) (T := TX1) (N := 5) hx hb hts inG_X1 hown hK hP 1 rfl rfl 1 (by decide) (hts _ fl_X8_126) (fun _ h9 => h9) rfl dX8_test_48 ?_
            refine calI (rest := []) (wr := [(x0, .inr (7, [.ref pg, .ref sr, .ref inp, .ref se, .ref so, .ref j0, .ref g, .ref q0, .int xr])), (j0, .inr (1, [.ref jk, .ref z, .ref a, .int jg, .int jw])), (inp, .inl (cI, 4, .inl inpf))]) hG (c_X7_size l dC dI cI cJ base bB bO z zc zs zcf ) ml_X8_130 im_X7_size se_X7_size ini_X7 cd_X7_size hd_X7_size ⟨(Nat.le_of_ble_eq_true rfl), (Nat.le_of_ble_eq_true rfl)⟩ (Nat.le_of_ble_eq_true rfl) (Nat.le_of_ble_eq_true rfl) hP hD hS [3, 4] [0, 1, 2] rfl rfl rfl rfl (by decide) 6 3 rfl rfl hl.1 rfl (Nat.le_of_ble_eq_true rfl) dX8_test_51 (fun r42 u H locs hw43 hP hD hS => ?_)
            have hw43 : (r42 = zs) ∧ True := hw43
            obtain ⟨hp44, -⟩ := hw43
            have hp44t := I_eq hp44
            have hP : va_P (dC, dI) vwCl [(x0, .inr (7, [.ref pg, .ref sr, .ref inp, .ref se, .ref so, .ref j0, .ref g, .ref q0, .int xr])), (j0, .inr (1, [.ref jk, .ref z, .ref a, .int jg, .int jw])), (inp, .inl (cI, 4, .inl inpf)), (z, .inr (6, [.ref zc, .int zs])), (zc, .inl (cI, 40, .inl zcf))] H := hP
            have hD : va_D A [(x0, .inr (7, [.ref pg, .ref sr, .ref inp, .ref se, .ref so, .ref j0, .ref g, .ref q0, .int xr])), (j0, .inr (1, [.ref jk, .ref z, .ref a, .int jg, .int jw])), (inp, .inl (cI, 4, .inl inpf)), (z, .inr (6, [.ref zc, .int zs])), (zc, .inl (cI, 40, .inl zcf))] := hD
            refine lv_bipush (v := 8) hx hb dX8_test_54 (by decide) ?_
            refine lv_icmp_lt (tgt := 66) hx hb dX8_test_56 (by decide) (fun c45 => ?_) (fun c45 => ?_)
            · have c45' := I_lt c45
              refine lv_aload_n hx hb dX8_test_66 rfl (lv_at hl 0 rfl) ?_
              refine lv_iload_n hx hb dX8_test_67 rfl (lv_at hl 1 rfl) ?_
              refine lv_iload_n hx hb dX8_test_68 rfl (lv_at hl 2 rfl) ?_
              refine lv_iload_n hx hb dX8_test_69 rfl (lv_at hl 3 rfl) ?_
              refine lv_iload hx hb dX8_test_70 (lv_at hl 4 rfl) ?_
              refine calV (rest := []) (wr := [(j0, .inr (1, [.ref jk, .ref z, .ref a, .int jg, .int jw])), (z, .inr (6, [.ref zc, .int zs])), (zc, .inl (cI, 40, .inl zcf))]) hG (c_X8_setInputs l dC dI cI cJ base bB bO x0 pg sr inp se so j0 g q0 xr inpf i1 i2 i3 i4 ) ml_X8_111 im_X8_setInputs se_X8_setInputs ini_X8 cd_X8_setInputs hd_X8_setInputs ⟨(Nat.le_of_ble_eq_true rfl), (Nat.le_of_ble_eq_true rfl)⟩ (Nat.le_of_ble_eq_true rfl) (Nat.le_of_ble_eq_true rfl) hP hD hS [0, 2] [1, 3, 4] rfl rfl rfl rfl (by decide) 7 0 rfl rfl hl.1 rfl (Nat.le_of_ble_eq_true rfl) dX8_test_72 (fun u H locs hw46 hP hD hS => ?_)
              obtain ⟨inpf_47, rfl⟩ : ∃ z, z = u := ⟨_, rfl⟩
              have hP : va_P (dC, dI) vwCl [(j0, .inr (1, [.ref jk, .ref z, .ref a, .int jg, .int jw])), (z, .inr (6, [.ref zc, .int zs])), (zc, .inl (cI, 40, .inl zcf)), (x0, .inr (7, [.ref pg, .ref sr, .ref inp, .ref se, .ref so, .ref j0, .ref g, .ref q0, .int xr])), (inp, .inl (cI, 4, .inl inpf_47))] H := hP
              have hD : va_D A [(j0, .inr (1, [.ref jk, .ref z, .ref a, .int jg, .int jw])), (z, .inr (6, [.ref zc, .int zs])), (zc, .inl (cI, 40, .inl zcf)), (x0, .inr (7, [.ref pg, .ref sr, .ref inp, .ref se, .ref so, .ref j0, .ref g, .ref q0, .int xr])), (inp, .inl (cI, 4, .inl inpf_47))] := hD
              refine lv_aload_n hx hb dX8_test_75 rfl (lv_at hl 0 rfl) ?_
              refine va_get (D := (dC, dI)) (ci := 7) (v := .ref j0) (C := RX8) (T := TX8) (N := 9) hx hb hts inG_X8 hown hK hP 3 rfl rfl 5 (by decide) (hts _ fl_X8_36) (fun _ h9 => h9) rfl dX8_test_76 ?_
              refine va_get (D := (dC, dI)) (ci := 1) (v := .ref z) (C := RX1) (T := TX1) (N := 5) hx hb hts inG_X1 hown hK hP 0 rfl rfl 1 (by decide) (hts _ fl_X8_126) (fun _ h9 => h9) rfl dX8_test_79 ?_
              refine lv_aload_n hx hb dX8_test_82 rfl (lv_at hl 0 rfl) ?_
              refine va_get (D := (dC, dI)) (ci := 7) (v := .ref inp) (C := RX8) (T := TX8) (N := 9) hx hb hts inG_X8 hown hK hP 3 rfl rfl 2 (by decide) (hts _ fl_X8_19) (fun _ h9 => h9) rfl dX8_test_83 ?_
              refine lv_iload hx hb dX8_test_86 (lv_at hl 5 rfl) ?_
              refine calV (rest := []) (wr := [(j0, .inr (1, [.ref jk, .ref z, .ref a, .int jg, .int jw])), (x0, .inr (7, [.ref pg, .ref sr, .ref inp, .ref se, .ref so, .ref j0, .ref g, .ref q0, .int xr]))]) hG (c_X7_add l dC dI cI cJ base bB bO z zc zs zcf inp inpf_47 y (by first | assumption | omega)) ml_X8_133 im_X7_add se_X7_add ini_X7 cd_X7_add hd_X7_add ⟨(Nat.le_of_ble_eq_true rfl), (Nat.le_of_ble_eq_true rfl)⟩ (Nat.le_of_ble_eq_true rfl) (Nat.le_of_ble_eq_true rfl) hP hD hS [1, 2, 4] [0, 3] rfl rfl rfl rfl (by decide) 6 1 rfl rfl hl.1 rfl (Nat.le_of_ble_eq_true rfl) dX8_test_88 (fun u H locs hw48 hP hD hS => ?_)
              obtain ⟨zs_49, zcf_50⟩ := u
              have hw48 : (0 ≤ zs_49.toInt ∧ zs_49.toInt ≤ 8) ∧ ((zs.toInt < 8 ∧ zs_49.toInt = zs.toInt + 1) ∨ (8 ≤ zs.toInt ∧ zs_49.toInt = zs.toInt)) ∧ True := hw48
              obtain ⟨hp51, hp52, -⟩ := hw48
              have hP : va_P (dC, dI) vwCl [(j0, .inr (1, [.ref jk, .ref z, .ref a, .int jg, .int jw])), (x0, .inr (7, [.ref pg, .ref sr, .ref inp, .ref se, .ref so, .ref j0, .ref g, .ref q0, .int xr])), (z, .inr (6, [.ref zc, .int zs_49])), (zc, .inl (cI, 40, .inl zcf_50)), (inp, .inl (cI, 4, .inl inpf_47))] H := hP
              have hD : va_D A [(j0, .inr (1, [.ref jk, .ref z, .ref a, .int jg, .int jw])), (x0, .inr (7, [.ref pg, .ref sr, .ref inp, .ref se, .ref so, .ref j0, .ref g, .ref q0, .int xr])), (z, .inr (6, [.ref zc, .int zs_49])), (zc, .inl (cI, 40, .inl zcf_50)), (inp, .inl (cI, 4, .inl inpf_47))] := hD
              refine lv_aload_n hx hb dX8_test_91 rfl (lv_at hl 0 rfl) ?_
              refine lv_aload_n hx hb dX8_test_92 rfl (lv_at hl 0 rfl) ?_
              refine va_get (D := (dC, dI)) (ci := 7) (v := .ref j0) (C := RX8) (T := TX8) (N := 9) hx hb hts inG_X8 hown hK hP 1 rfl rfl 5 (by decide) (hts _ fl_X8_36) (fun _ h9 => h9) rfl dX8_test_93 ?_
              refine va_get (D := (dC, dI)) (ci := 1) (v := .ref z) (C := RX1) (T := TX1) (N := 5) hx hb hts inG_X1 hown hK hP 0 rfl rfl 1 (by decide) (hts _ fl_X8_126) (fun _ h9 => h9) rfl dX8_test_96 ?_
              refine calI (rest := [.ref x0]) (wr := [(j0, .inr (1, [.ref jk, .ref z, .ref a, .int jg, .int jw])), (x0, .inr (7, [.ref pg, .ref sr, .ref inp, .ref se, .ref so, .ref j0, .ref g, .ref q0, .int xr])), (inp, .inl (cI, 4, .inl inpf_47))]) hG (c_X7_size l dC dI cI cJ base bB bO z zc zs_49 zcf_50 ) ml_X8_130 im_X7_size se_X7_size ini_X7 cd_X7_size hd_X7_size ⟨(Nat.le_of_ble_eq_true rfl), (Nat.le_of_ble_eq_true rfl)⟩ (Nat.le_of_ble_eq_true rfl) (Nat.le_of_ble_eq_true rfl) hP hD hS [2, 3] [0, 1, 4] rfl rfl rfl rfl (by decide) 6 2 rfl rfl hl.1 rfl (Nat.le_of_ble_eq_true rfl) dX8_test_99 (fun r53 u H locs hw54 hP hD hS => ?_)
              have hw54 : (r53 = zs_49) ∧ True := hw54
              obtain ⟨hp55, -⟩ := hw54
              have hp55t := I_eq hp55
              have hP : va_P (dC, dI) vwCl [(j0, .inr (1, [.ref jk, .ref z, .ref a, .int jg, .int jw])), (x0, .inr (7, [.ref pg, .ref sr, .ref inp, .ref se, .ref so, .ref j0, .ref g, .ref q0, .int xr])), (inp, .inl (cI, 4, .inl inpf_47)), (z, .inr (6, [.ref zc, .int zs_49])), (zc, .inl (cI, 40, .inl zcf_50))] H := hP
              have hD : va_D A [(j0, .inr (1, [.ref jk, .ref z, .ref a, .int jg, .int jw])), (x0, .inr (7, [.ref pg, .ref sr, .ref inp, .ref se, .ref so, .ref j0, .ref g, .ref q0, .int xr])), (inp, .inl (cI, 4, .inl inpf_47)), (z, .inr (6, [.ref zc, .int zs_49])), (zc, .inl (cI, 40, .inl zcf_50))] := hD
              refine lv_iconst (v := 1) hx hb dX8_test_102 (by decide) ?_
              refine lv_isub hx hb dX8_test_103 ?_
              refine lv_topi (fun v56 ev56 => ?_)
              try have hv56 : v56.toInt = r53.toInt - (1 : Int32).toInt := I_subx ev56 (by omega)
              refine calI (rest := []) (wr := [(j0, .inr (1, [.ref jk, .ref z, .ref a, .int jg, .int jw])), (inp, .inl (cI, 4, .inl inpf_47)), (z, .inr (6, [.ref zc, .int zs_49])), (zc, .inl (cI, 40, .inl zcf_50))]) hG (c_X8_accept l dC dI cI cJ base bB bO x0 pg sr inp se so j0 g q0 xr v56 ) ml_X8_74 im_X8_accept se_X8_accept ini_X8 cd_X8_accept hd_X8_accept ⟨(Nat.le_of_ble_eq_true rfl), (Nat.le_of_ble_eq_true rfl)⟩ (Nat.le_of_ble_eq_true rfl) (Nat.le_of_ble_eq_true rfl) hP hD hS [1] [0, 2, 3, 4] rfl rfl rfl rfl (by decide) 7 1 rfl rfl hl.1 rfl (Nat.le_of_ble_eq_true rfl) dX8_test_104 (fun r57 u H locs hw58 hP hD hS => ?_)
              obtain ⟨xr_59, rfl⟩ : ∃ z, z = u := ⟨_, rfl⟩
              have hw58 : (r57 = v56) ∧ (xr_59.toInt = 0) ∧ True := hw58
              obtain ⟨hp60, hp61, -⟩ := hw58
              have hp60t := I_eq hp60
              have hP : va_P (dC, dI) vwCl [(j0, .inr (1, [.ref jk, .ref z, .ref a, .int jg, .int jw])), (inp, .inl (cI, 4, .inl inpf_47)), (z, .inr (6, [.ref zc, .int zs_49])), (zc, .inl (cI, 40, .inl zcf_50)), (x0, .inr (7, [.ref pg, .ref sr, .ref inp, .ref se, .ref so, .ref j0, .ref g, .ref q0, .int xr_59]))] H := hP
              have hD : va_D A [(j0, .inr (1, [.ref jk, .ref z, .ref a, .int jg, .int jw])), (inp, .inl (cI, 4, .inl inpf_47)), (z, .inr (6, [.ref zc, .int zs_49])), (zc, .inl (cI, 40, .inl zcf_50)), (x0, .inr (7, [.ref pg, .ref sr, .ref inp, .ref se, .ref so, .ref j0, .ref g, .ref q0, .int xr_59]))] := hD
              exact hret r57 (xr_59, inpf_47, zs_49, zcf_50) H locs 107 ls rfl ⟨(show 0 ≤ zs_49.toInt ∧ zs_49.toInt ≤ 8 from by first | rfl | assumption | omega), (show ((-100 ≤ i1.toInt ∧ i1.toInt ≤ 100 ∧ -100 ≤ i2.toInt ∧ i2.toInt ≤ 100 ∧ -100 ≤ i3.toInt ∧ i3.toInt ≤ 100 ∧ -100 ≤ i4.toInt ∧ i4.toInt ≤ 100 ∧ -1000000 ≤ y.toInt ∧ y.toInt ≤ 1000000) ∧ zs.toInt < 8 ∧ r57.toInt = zs.toInt ∧ zs_49.toInt = zs.toInt + 1) ∨ ((-100 ≤ i1.toInt ∧ i1.toInt ≤ 100 ∧ -100 ≤ i2.toInt ∧ i2.toInt ≤ 100 ∧ -100 ≤ i3.toInt ∧ i3.toInt ≤ 100 ∧ -100 ≤ i4.toInt ∧ i4.toInt ≤ 100 ∧ -1000000 ≤ y.toInt ∧ y.toInt ≤ 1000000) ∧ zs.toInt = 8 ∧ r57.toInt = -5 ∧ zs_49.toInt = zs.toInt) ∨ (¬ (-100 ≤ i1.toInt ∧ i1.toInt ≤ 100 ∧ -100 ≤ i2.toInt ∧ i2.toInt ≤ 100 ∧ -100 ≤ i3.toInt ∧ i3.toInt ≤ 100 ∧ -100 ≤ i4.toInt ∧ i4.toInt ≤ 100 ∧ -1000000 ≤ y.toInt ∧ y.toInt ≤ 1000000) ∧ r57.toInt = -1 ∧ zs_49.toInt = zs.toInt) from by first | rfl | assumption | omega), trivial⟩ (hP.sub (ws' := [(x0, .inr (7, [.ref pg, .ref sr, .ref inp, .ref se, .ref so, .ref j0, .ref g, .ref q0, .int xr_59])), (j0, .inr (1, [.ref jk, .ref z, .ref a, .int jg, .int jw])), (inp, .inl (cI, 4, .inl inpf_47)), (z, .inr (6, [.ref zc, .int zs_49])), (zc, .inl (cI, 40, .inl zcf_50))]) [4, 0, 1, 2, 3] rfl) (hD.sub (ws' := [(x0, .inr (7, [.ref pg, .ref sr, .ref inp, .ref se, .ref so, .ref j0, .ref g, .ref q0, .int xr_59])), (j0, .inr (1, [.ref jk, .ref z, .ref a, .int jg, .int jw])), (inp, .inl (cI, 4, .inl inpf_47)), (z, .inr (6, [.ref zc, .int zs_49])), (zc, .inl (cI, 40, .inl zcf_50))]) [4, 0, 1, 2, 3] (by decide) rfl) hS dX8_test_107
            · have c45' := I_nlt c45
              refine lv_aload_n hx hb dX8_test_59 rfl (lv_at hl 0 rfl) ?_
              refine lv_bipush (v := (-5)) hx hb dX8_test_60 (by decide) ?_
              refine calI (rest := []) (wr := [(j0, .inr (1, [.ref jk, .ref z, .ref a, .int jg, .int jw])), (inp, .inl (cI, 4, .inl inpf)), (z, .inr (6, [.ref zc, .int zs])), (zc, .inl (cI, 40, .inl zcf))]) hG (c_X8_refuse l dC dI cI cJ base bB bO x0 pg sr inp se so j0 g q0 xr (-5) ) ml_X8_62 im_X8_refuse se_X8_refuse ini_X8 cd_X8_refuse hd_X8_refuse ⟨(Nat.le_of_ble_eq_true rfl), (Nat.le_of_ble_eq_true rfl)⟩ (Nat.le_of_ble_eq_true rfl) (Nat.le_of_ble_eq_true rfl) hP hD hS [0] [1, 2, 3, 4] rfl rfl rfl rfl (by decide) 7 0 rfl rfl hl.1 rfl (Nat.le_of_ble_eq_true rfl) dX8_test_62 (fun r62 u H locs hw63 hP hD hS => ?_)
              obtain ⟨xr_64, rfl⟩ : ∃ z, z = u := ⟨_, rfl⟩
              have hw63 : (r62 = (-5 : Int32)) ∧ (xr_64 = (-5 : Int32)) ∧ True := hw63
              obtain ⟨hp65, hp66, -⟩ := hw63
              have hp65t := I_eq hp65
              have hP : va_P (dC, dI) vwCl [(j0, .inr (1, [.ref jk, .ref z, .ref a, .int jg, .int jw])), (inp, .inl (cI, 4, .inl inpf)), (z, .inr (6, [.ref zc, .int zs])), (zc, .inl (cI, 40, .inl zcf)), (x0, .inr (7, [.ref pg, .ref sr, .ref inp, .ref se, .ref so, .ref j0, .ref g, .ref q0, .int xr_64]))] H := hP
              have hD : va_D A [(j0, .inr (1, [.ref jk, .ref z, .ref a, .int jg, .int jw])), (inp, .inl (cI, 4, .inl inpf)), (z, .inr (6, [.ref zc, .int zs])), (zc, .inl (cI, 40, .inl zcf)), (x0, .inr (7, [.ref pg, .ref sr, .ref inp, .ref se, .ref so, .ref j0, .ref g, .ref q0, .int xr_64]))] := hD
              exact hret r62 (xr_64, inpf, zs, zcf) H locs 65 ls rfl ⟨(show 0 ≤ zs.toInt ∧ zs.toInt ≤ 8 from by first | rfl | assumption | omega), (show ((-100 ≤ i1.toInt ∧ i1.toInt ≤ 100 ∧ -100 ≤ i2.toInt ∧ i2.toInt ≤ 100 ∧ -100 ≤ i3.toInt ∧ i3.toInt ≤ 100 ∧ -100 ≤ i4.toInt ∧ i4.toInt ≤ 100 ∧ -1000000 ≤ y.toInt ∧ y.toInt ≤ 1000000) ∧ zs.toInt < 8 ∧ r62.toInt = zs.toInt ∧ zs.toInt = zs.toInt + 1) ∨ ((-100 ≤ i1.toInt ∧ i1.toInt ≤ 100 ∧ -100 ≤ i2.toInt ∧ i2.toInt ≤ 100 ∧ -100 ≤ i3.toInt ∧ i3.toInt ≤ 100 ∧ -100 ≤ i4.toInt ∧ i4.toInt ≤ 100 ∧ -1000000 ≤ y.toInt ∧ y.toInt ≤ 1000000) ∧ zs.toInt = 8 ∧ r62.toInt = -5 ∧ zs.toInt = zs.toInt) ∨ (¬ (-100 ≤ i1.toInt ∧ i1.toInt ≤ 100 ∧ -100 ≤ i2.toInt ∧ i2.toInt ≤ 100 ∧ -100 ≤ i3.toInt ∧ i3.toInt ≤ 100 ∧ -100 ≤ i4.toInt ∧ i4.toInt ≤ 100 ∧ -1000000 ≤ y.toInt ∧ y.toInt ≤ 1000000) ∧ r62.toInt = -1 ∧ zs.toInt = zs.toInt) from by first | rfl | assumption | omega), trivial⟩ (hP.sub (ws' := [(x0, .inr (7, [.ref pg, .ref sr, .ref inp, .ref se, .ref so, .ref j0, .ref g, .ref q0, .int xr_64])), (j0, .inr (1, [.ref jk, .ref z, .ref a, .int jg, .int jw])), (inp, .inl (cI, 4, .inl inpf)), (z, .inr (6, [.ref zc, .int zs])), (zc, .inl (cI, 40, .inl zcf))]) [4, 0, 1, 2, 3] rfl) (hD.sub (ws' := [(x0, .inr (7, [.ref pg, .ref sr, .ref inp, .ref se, .ref so, .ref j0, .ref g, .ref q0, .int xr_64])), (j0, .inr (1, [.ref jk, .ref z, .ref a, .int jg, .int jw])), (inp, .inl (cI, 4, .inl inpf)), (z, .inr (6, [.ref zc, .int zs])), (zc, .inl (cI, 40, .inl zcf))]) [4, 0, 1, 2, 3] (by decide) rfl) hS dX8_test_65
          · have c41' := I_ne c41
            refine lv_aload_n hx hb dX8_test_38 rfl (lv_at hl 0 rfl) ?_
            refine lv_iconst (v := (-1)) hx hb dX8_test_39 (by decide) ?_
            refine calI (rest := []) (wr := [(j0, .inr (1, [.ref jk, .ref z, .ref a, .int jg, .int jw])), (inp, .inl (cI, 4, .inl inpf)), (z, .inr (6, [.ref zc, .int zs])), (zc, .inl (cI, 40, .inl zcf))]) hG (c_X8_refuse l dC dI cI cJ base bB bO x0 pg sr inp se so j0 g q0 xr (-1) ) ml_X8_62 im_X8_refuse se_X8_refuse ini_X8 cd_X8_refuse hd_X8_refuse ⟨(Nat.le_of_ble_eq_true rfl), (Nat.le_of_ble_eq_true rfl)⟩ (Nat.le_of_ble_eq_true rfl) (Nat.le_of_ble_eq_true rfl) hP hD hS [0] [1, 2, 3, 4] rfl rfl rfl rfl (by decide) 7 0 rfl rfl hl.1 rfl (Nat.le_of_ble_eq_true rfl) dX8_test_40 (fun r67 u H locs hw68 hP hD hS => ?_)
            obtain ⟨xr_69, rfl⟩ : ∃ z, z = u := ⟨_, rfl⟩
            have hw68 : (r67 = (-1 : Int32)) ∧ (xr_69 = (-1 : Int32)) ∧ True := hw68
            obtain ⟨hp70, hp71, -⟩ := hw68
            have hp70t := I_eq hp70
            have hP : va_P (dC, dI) vwCl [(j0, .inr (1, [.ref jk, .ref z, .ref a, .int jg, .int jw])), (inp, .inl (cI, 4, .inl inpf)), (z, .inr (6, [.ref zc, .int zs])), (zc, .inl (cI, 40, .inl zcf)), (x0, .inr (7, [.ref pg, .ref sr, .ref inp, .ref se, .ref so, .ref j0, .ref g, .ref q0, .int xr_69]))] H := hP
            have hD : va_D A [(j0, .inr (1, [.ref jk, .ref z, .ref a, .int jg, .int jw])), (inp, .inl (cI, 4, .inl inpf)), (z, .inr (6, [.ref zc, .int zs])), (zc, .inl (cI, 40, .inl zcf)), (x0, .inr (7, [.ref pg, .ref sr, .ref inp, .ref se, .ref so, .ref j0, .ref g, .ref q0, .int xr_69]))] := hD
            exact hret r67 (xr_69, inpf, zs, zcf) H locs 43 ls rfl ⟨(show 0 ≤ zs.toInt ∧ zs.toInt ≤ 8 from by first | rfl | assumption | omega), (show ((-100 ≤ i1.toInt ∧ i1.toInt ≤ 100 ∧ -100 ≤ i2.toInt ∧ i2.toInt ≤ 100 ∧ -100 ≤ i3.toInt ∧ i3.toInt ≤ 100 ∧ -100 ≤ i4.toInt ∧ i4.toInt ≤ 100 ∧ -1000000 ≤ y.toInt ∧ y.toInt ≤ 1000000) ∧ zs.toInt < 8 ∧ r67.toInt = zs.toInt ∧ zs.toInt = zs.toInt + 1) ∨ ((-100 ≤ i1.toInt ∧ i1.toInt ≤ 100 ∧ -100 ≤ i2.toInt ∧ i2.toInt ≤ 100 ∧ -100 ≤ i3.toInt ∧ i3.toInt ≤ 100 ∧ -100 ≤ i4.toInt ∧ i4.toInt ≤ 100 ∧ -1000000 ≤ y.toInt ∧ y.toInt ≤ 1000000) ∧ zs.toInt = 8 ∧ r67.toInt = -5 ∧ zs.toInt = zs.toInt) ∨ (¬ (-100 ≤ i1.toInt ∧ i1.toInt ≤ 100 ∧ -100 ≤ i2.toInt ∧ i2.toInt ≤ 100 ∧ -100 ≤ i3.toInt ∧ i3.toInt ≤ 100 ∧ -100 ≤ i4.toInt ∧ i4.toInt ≤ 100 ∧ -1000000 ≤ y.toInt ∧ y.toInt ≤ 1000000) ∧ r67.toInt = -1 ∧ zs.toInt = zs.toInt) from by first | rfl | assumption | omega), trivial⟩ (hP.sub (ws' := [(x0, .inr (7, [.ref pg, .ref sr, .ref inp, .ref se, .ref so, .ref j0, .ref g, .ref q0, .int xr_69])), (j0, .inr (1, [.ref jk, .ref z, .ref a, .int jg, .int jw])), (inp, .inl (cI, 4, .inl inpf)), (z, .inr (6, [.ref zc, .int zs])), (zc, .inl (cI, 40, .inl zcf))]) [4, 0, 1, 2, 3] rfl) (hD.sub (ws' := [(x0, .inr (7, [.ref pg, .ref sr, .ref inp, .ref se, .ref so, .ref j0, .ref g, .ref q0, .int xr_69])), (j0, .inr (1, [.ref jk, .ref z, .ref a, .int jg, .int jw])), (inp, .inl (cI, 4, .inl inpf)), (z, .inr (6, [.ref zc, .int zs])), (zc, .inl (cI, 40, .inl zcf))]) [4, 0, 1, 2, 3] (by decide) rfl) hS dX8_test_43
set_option maxHeartbeats 4000000 in
set_option maxRecDepth 100000 in
theorem c_X8_drop (l : Launch) (dC : Nat → ClassId) (dI : Nat → Nat → Nat) (cI cJ : ClassId) (base bB bO : Nat) (x0 : Nat) (pg : Nat) (sr : Nat) (inp : Nat) (se : Nat) (so : Nat) (j0 : Nat) (g : Nat) (q0 : Nat) (xr : Int32) (jk : Nat) (z : Nat) (a : Nat) (jg : Int32) (jw : Int32) (zc : Nat) (zs : Int32) (zcf : Nat → Int32) (i : Int32) (hq0 : 0 ≤ zs.toInt ∧ zs.toInt ≤ 8) : CtI l dC dI cI cJ base bB bO yX8_drop cX8_drop 2 .int 1 22 [.ref x0, .int i] [(x0, .inr (7, [.ref pg, .ref sr, .ref inp, .ref se, .ref so, .ref j0, .ref g, .ref q0, .int xr])), (j0, .inr (1, [.ref jk, .ref z, .ref a, .int jg, .int jw])), (z, .inr (6, [.ref zc, .int zs])), (zc, .inl (cI, 40, .inl zcf))] ((Int32) × (Int32) × (Nat → Int32)) (fun (res : Int32) (u : (Int32) × (Int32) × (Nat → Int32)) => (0 ≤ u.2.1.toInt ∧ u.2.1.toInt ≤ 8) ∧ ((0 ≤ i.toInt ∧ i.toInt < zs.toInt ∧ res.toInt = zs.toInt - 1 ∧ u.2.1.toInt = zs.toInt - 1) ∨ ((i.toInt < 0 ∨ zs.toInt ≤ i.toInt) ∧ res.toInt = -2 ∧ u.2.1.toInt = zs.toInt)) ∧ True) (fun (u : (Int32) × (Int32) × (Nat → Int32)) => [(x0, .inr (7, [.ref pg, .ref sr, .ref inp, .ref se, .ref so, .ref j0, .ref g, .ref q0, .int u.1])), (j0, .inr (1, [.ref jk, .ref z, .ref a, .int jg, .int jw])), (z, .inr (6, [.ref zc, .int u.2.1])), (zc, .inl (cI, 40, .inl u.2.2))]) := by
  refine entI (by decide) (Nat.le_of_ble_eq_true rfl) ?_
  intro p e s m below meth c A Q ls hAt hret hP hD hS hl
  obtain ⟨hx, hb, hml, hown, hts, hA, hAb, hK, hE, hlocks, hin⟩ := hAt
  have hG : CG dC dI cI cJ base bB bO cX8_drop 2 RX8 p s m (List.toArray [.ref x0, .int i]) c A := ⟨hx, hb, hml, hown, hts, hA, hAb, hK, hE⟩
  have hl : lv_has ls 2 [(0, .ref x0), (1, .int i)] := hl
  have c_m2 : (-2 : Int32).toInt = -2 := by decide
  have c_0 : (0 : Int32).toInt = 0 := by decide
  have c_1 : (1 : Int32).toInt = 1 := by decide
  obtain ⟨H, hHe⟩ : ∃ H : Heap, H = s.heap := ⟨_, rfl⟩
  obtain ⟨locs, hle⟩ : ∃ z : List Loc, z = [] := ⟨_, rfl⟩
  rw [← hHe] at hP
  have hS : va_S A s.heap H locs := by rw [hHe, hle]; exact hS
  suffices hgo : W p l e { frames := 1, cells := 0, slots := 0, locals := 22 } s m (List.toArray [.ref x0, .int i]) below meth c H locs 0 0 Q (F0 m 0 ls []) by rw [hHe, hle] at hgo; exact hgo
  refine lv_iload_n hx hb dX8_drop_0 rfl (lv_at hl 1 rfl) ?_
  refine lv_if_lt (tgt := 18) hx hb dX8_drop_1 (by decide) (fun c1 => ?_) (fun c1 => ?_)
  · have c1' := I_lt c1
    refine lv_aload_n hx hb dX8_drop_18 rfl (lv_at hl 0 rfl) ?_
    refine lv_bipush (v := (-2)) hx hb dX8_drop_19 (by decide) ?_
    refine calI (rest := []) (wr := [(j0, .inr (1, [.ref jk, .ref z, .ref a, .int jg, .int jw])), (z, .inr (6, [.ref zc, .int zs])), (zc, .inl (cI, 40, .inl zcf))]) hG (c_X8_refuse l dC dI cI cJ base bB bO x0 pg sr inp se so j0 g q0 xr (-2) ) ml_X8_62 im_X8_refuse se_X8_refuse ini_X8 cd_X8_refuse hd_X8_refuse ⟨(Nat.le_of_ble_eq_true rfl), (Nat.le_of_ble_eq_true rfl)⟩ (Nat.le_of_ble_eq_true rfl) (Nat.le_of_ble_eq_true rfl) hP hD hS [0] [1, 2, 3] rfl rfl rfl rfl (by decide) 7 0 rfl rfl hl.1 rfl (Nat.le_of_ble_eq_true rfl) dX8_drop_21 (fun r2 u H locs hw3 hP hD hS => ?_)
    obtain ⟨xr_4, rfl⟩ : ∃ z, z = u := ⟨_, rfl⟩
    have hw3 : (r2 = (-2 : Int32)) ∧ (xr_4 = (-2 : Int32)) ∧ True := hw3
    obtain ⟨hp5, hp6, -⟩ := hw3
    have hp5t := I_eq hp5
    have hP : va_P (dC, dI) vwCl [(j0, .inr (1, [.ref jk, .ref z, .ref a, .int jg, .int jw])), (z, .inr (6, [.ref zc, .int zs])), (zc, .inl (cI, 40, .inl zcf)), (x0, .inr (7, [.ref pg, .ref sr, .ref inp, .ref se, .ref so, .ref j0, .ref g, .ref q0, .int xr_4]))] H := hP
    have hD : va_D A [(j0, .inr (1, [.ref jk, .ref z, .ref a, .int jg, .int jw])), (z, .inr (6, [.ref zc, .int zs])), (zc, .inl (cI, 40, .inl zcf)), (x0, .inr (7, [.ref pg, .ref sr, .ref inp, .ref se, .ref so, .ref j0, .ref g, .ref q0, .int xr_4]))] := hD
    exact hret r2 (xr_4, zs, zcf) H locs 24 ls rfl ⟨(show 0 ≤ zs.toInt ∧ zs.toInt ≤ 8 from by first | rfl | assumption | omega), (show (0 ≤ i.toInt ∧ i.toInt < zs.toInt ∧ r2.toInt = zs.toInt - 1 ∧ zs.toInt = zs.toInt - 1) ∨ ((i.toInt < 0 ∨ zs.toInt ≤ i.toInt) ∧ r2.toInt = -2 ∧ zs.toInt = zs.toInt) from by first | rfl | assumption | omega), trivial⟩ (hP.sub (ws' := [(x0, .inr (7, [.ref pg, .ref sr, .ref inp, .ref se, .ref so, .ref j0, .ref g, .ref q0, .int xr_4])), (j0, .inr (1, [.ref jk, .ref z, .ref a, .int jg, .int jw])), (z, .inr (6, [.ref zc, .int zs])), (zc, .inl (cI, 40, .inl zcf))]) [3, 0, 1, 2] rfl) (hD.sub (ws' := [(x0, .inr (7, [.ref pg, .ref sr, .ref inp, .ref se, .ref so, .ref j0, .ref g, .ref q0, .int xr_4])), (j0, .inr (1, [.ref jk, .ref z, .ref a, .int jg, .int jw])), (z, .inr (6, [.ref zc, .int zs])), (zc, .inl (cI, 40, .inl zcf))]) [3, 0, 1, 2] (by decide) rfl) hS dX8_drop_24
  · have c1' := I_nlt c1
    refine lv_iload_n hx hb dX8_drop_4 rfl (lv_at hl 1 rfl) ?_
    refine lv_aload_n hx hb dX8_drop_5 rfl (lv_at hl 0 rfl) ?_
    refine va_get (D := (dC, dI)) (ci := 7) (v := .ref j0) (C := RX8) (T := TX8) (N := 9) hx hb hts inG_X8 hown hK hP 0 rfl rfl 5 (by decide) (hts _ fl_X8_36) (fun _ h9 => h9) rfl dX8_drop_6 ?_
    refine va_get (D := (dC, dI)) (ci := 1) (v := .ref z) (C := RX1) (T := TX1) (N := 5) hx hb hts inG_X1 hown hK hP 1 rfl rfl 1 (by decide) (hts _ fl_X8_126) (fun _ h9 => h9) rfl dX8_drop_9 ?_
    refine calI (rest := [.int i]) (wr := [(x0, .inr (7, [.ref pg, .ref sr, .ref inp, .ref se, .ref so, .ref j0, .ref g, .ref q0, .int xr])), (j0, .inr (1, [.ref jk, .ref z, .ref a, .int jg, .int jw]))]) hG (c_X7_size l dC dI cI cJ base bB bO z zc zs zcf ) ml_X8_130 im_X7_size se_X7_size ini_X7 cd_X7_size hd_X7_size ⟨(Nat.le_of_ble_eq_true rfl), (Nat.le_of_ble_eq_true rfl)⟩ (Nat.le_of_ble_eq_true rfl) (Nat.le_of_ble_eq_true rfl) hP hD hS [2, 3] [0, 1] rfl rfl rfl rfl (by decide) 6 2 rfl rfl hl.1 rfl (Nat.le_of_ble_eq_true rfl) dX8_drop_12 (fun r7 u H locs hw8 hP hD hS => ?_)
    have hw8 : (r7 = zs) ∧ True := hw8
    obtain ⟨hp9, -⟩ := hw8
    have hp9t := I_eq hp9
    have hP : va_P (dC, dI) vwCl [(x0, .inr (7, [.ref pg, .ref sr, .ref inp, .ref se, .ref so, .ref j0, .ref g, .ref q0, .int xr])), (j0, .inr (1, [.ref jk, .ref z, .ref a, .int jg, .int jw])), (z, .inr (6, [.ref zc, .int zs])), (zc, .inl (cI, 40, .inl zcf))] H := hP
    have hD : va_D A [(x0, .inr (7, [.ref pg, .ref sr, .ref inp, .ref se, .ref so, .ref j0, .ref g, .ref q0, .int xr])), (j0, .inr (1, [.ref jk, .ref z, .ref a, .int jg, .int jw])), (z, .inr (6, [.ref zc, .int zs])), (zc, .inl (cI, 40, .inl zcf))] := hD
    refine lv_icmp_lt (tgt := 25) hx hb dX8_drop_15 (by decide) (fun c10 => ?_) (fun c10 => ?_)
    · have c10' := I_lt c10
      refine lv_aload_n hx hb dX8_drop_25 rfl (lv_at hl 0 rfl) ?_
      refine va_get (D := (dC, dI)) (ci := 7) (v := .ref j0) (C := RX8) (T := TX8) (N := 9) hx hb hts inG_X8 hown hK hP 0 rfl rfl 5 (by decide) (hts _ fl_X8_36) (fun _ h9 => h9) rfl dX8_drop_26 ?_
      refine va_get (D := (dC, dI)) (ci := 1) (v := .ref z) (C := RX1) (T := TX1) (N := 5) hx hb hts inG_X1 hown hK hP 1 rfl rfl 1 (by decide) (hts _ fl_X8_126) (fun _ h9 => h9) rfl dX8_drop_29 ?_
      refine lv_iload_n hx hb dX8_drop_32 rfl (lv_at hl 1 rfl) ?_
      refine calV (rest := []) (wr := [(x0, .inr (7, [.ref pg, .ref sr, .ref inp, .ref se, .ref so, .ref j0, .ref g, .ref q0, .int xr])), (j0, .inr (1, [.ref jk, .ref z, .ref a, .int jg, .int jw]))]) hG (c_X7_removeAt l dC dI cI cJ base bB bO z zc zs zcf i (by first | assumption | omega)) ml_X8_136 im_X7_removeAt se_X7_removeAt ini_X7 cd_X7_removeAt hd_X7_removeAt ⟨(Nat.le_of_ble_eq_true rfl), (Nat.le_of_ble_eq_true rfl)⟩ (Nat.le_of_ble_eq_true rfl) (Nat.le_of_ble_eq_true rfl) hP hD hS [2, 3] [0, 1] rfl rfl rfl rfl (by decide) 6 2 rfl rfl hl.1 rfl (Nat.le_of_ble_eq_true rfl) dX8_drop_33 (fun u H locs hw11 hP hD hS => ?_)
      obtain ⟨zs_12, zcf_13⟩ := u
      have hw11 : (0 ≤ zs_12.toInt ∧ zs_12.toInt ≤ 8) ∧ ((0 ≤ i.toInt ∧ i.toInt < zs.toInt ∧ zs_12.toInt = zs.toInt - 1) ∨ ((i.toInt < 0 ∨ zs.toInt ≤ i.toInt) ∧ zs_12.toInt = zs.toInt)) ∧ True := hw11
      obtain ⟨hp14, hp15, -⟩ := hw11
      have hP : va_P (dC, dI) vwCl [(x0, .inr (7, [.ref pg, .ref sr, .ref inp, .ref se, .ref so, .ref j0, .ref g, .ref q0, .int xr])), (j0, .inr (1, [.ref jk, .ref z, .ref a, .int jg, .int jw])), (z, .inr (6, [.ref zc, .int zs_12])), (zc, .inl (cI, 40, .inl zcf_13))] H := hP
      have hD : va_D A [(x0, .inr (7, [.ref pg, .ref sr, .ref inp, .ref se, .ref so, .ref j0, .ref g, .ref q0, .int xr])), (j0, .inr (1, [.ref jk, .ref z, .ref a, .int jg, .int jw])), (z, .inr (6, [.ref zc, .int zs_12])), (zc, .inl (cI, 40, .inl zcf_13))] := hD
      refine lv_aload_n hx hb dX8_drop_36 rfl (lv_at hl 0 rfl) ?_
      refine lv_aload_n hx hb dX8_drop_37 rfl (lv_at hl 0 rfl) ?_
      refine va_get (D := (dC, dI)) (ci := 7) (v := .ref j0) (C := RX8) (T := TX8) (N := 9) hx hb hts inG_X8 hown hK hP 0 rfl rfl 5 (by decide) (hts _ fl_X8_36) (fun _ h9 => h9) rfl dX8_drop_38 ?_
      refine va_get (D := (dC, dI)) (ci := 1) (v := .ref z) (C := RX1) (T := TX1) (N := 5) hx hb hts inG_X1 hown hK hP 1 rfl rfl 1 (by decide) (hts _ fl_X8_126) (fun _ h9 => h9) rfl dX8_drop_41 ?_
      refine calI (rest := [.ref x0]) (wr := [(x0, .inr (7, [.ref pg, .ref sr, .ref inp, .ref se, .ref so, .ref j0, .ref g, .ref q0, .int xr])), (j0, .inr (1, [.ref jk, .ref z, .ref a, .int jg, .int jw]))]) hG (c_X7_size l dC dI cI cJ base bB bO z zc zs_12 zcf_13 ) ml_X8_130 im_X7_size se_X7_size ini_X7 cd_X7_size hd_X7_size ⟨(Nat.le_of_ble_eq_true rfl), (Nat.le_of_ble_eq_true rfl)⟩ (Nat.le_of_ble_eq_true rfl) (Nat.le_of_ble_eq_true rfl) hP hD hS [2, 3] [0, 1] rfl rfl rfl rfl (by decide) 6 2 rfl rfl hl.1 rfl (Nat.le_of_ble_eq_true rfl) dX8_drop_44 (fun r16 u H locs hw17 hP hD hS => ?_)
      have hw17 : (r16 = zs_12) ∧ True := hw17
      obtain ⟨hp18, -⟩ := hw17
      have hp18t := I_eq hp18
      have hP : va_P (dC, dI) vwCl [(x0, .inr (7, [.ref pg, .ref sr, .ref inp, .ref se, .ref so, .ref j0, .ref g, .ref q0, .int xr])), (j0, .inr (1, [.ref jk, .ref z, .ref a, .int jg, .int jw])), (z, .inr (6, [.ref zc, .int zs_12])), (zc, .inl (cI, 40, .inl zcf_13))] H := hP
      have hD : va_D A [(x0, .inr (7, [.ref pg, .ref sr, .ref inp, .ref se, .ref so, .ref j0, .ref g, .ref q0, .int xr])), (j0, .inr (1, [.ref jk, .ref z, .ref a, .int jg, .int jw])), (z, .inr (6, [.ref zc, .int zs_12])), (zc, .inl (cI, 40, .inl zcf_13))] := hD
      refine calI (rest := []) (wr := [(j0, .inr (1, [.ref jk, .ref z, .ref a, .int jg, .int jw])), (z, .inr (6, [.ref zc, .int zs_12])), (zc, .inl (cI, 40, .inl zcf_13))]) hG (c_X8_accept l dC dI cI cJ base bB bO x0 pg sr inp se so j0 g q0 xr r16 ) ml_X8_74 im_X8_accept se_X8_accept ini_X8 cd_X8_accept hd_X8_accept ⟨(Nat.le_of_ble_eq_true rfl), (Nat.le_of_ble_eq_true rfl)⟩ (Nat.le_of_ble_eq_true rfl) (Nat.le_of_ble_eq_true rfl) hP hD hS [0] [1, 2, 3] rfl rfl rfl rfl (by decide) 7 0 rfl rfl hl.1 rfl (Nat.le_of_ble_eq_true rfl) dX8_drop_47 (fun r19 u H locs hw20 hP hD hS => ?_)
      obtain ⟨xr_21, rfl⟩ : ∃ z, z = u := ⟨_, rfl⟩
      have hw20 : (r19 = r16) ∧ (xr_21.toInt = 0) ∧ True := hw20
      obtain ⟨hp22, hp23, -⟩ := hw20
      have hp22t := I_eq hp22
      have hP : va_P (dC, dI) vwCl [(j0, .inr (1, [.ref jk, .ref z, .ref a, .int jg, .int jw])), (z, .inr (6, [.ref zc, .int zs_12])), (zc, .inl (cI, 40, .inl zcf_13)), (x0, .inr (7, [.ref pg, .ref sr, .ref inp, .ref se, .ref so, .ref j0, .ref g, .ref q0, .int xr_21]))] H := hP
      have hD : va_D A [(j0, .inr (1, [.ref jk, .ref z, .ref a, .int jg, .int jw])), (z, .inr (6, [.ref zc, .int zs_12])), (zc, .inl (cI, 40, .inl zcf_13)), (x0, .inr (7, [.ref pg, .ref sr, .ref inp, .ref se, .ref so, .ref j0, .ref g, .ref q0, .int xr_21]))] := hD
      exact hret r19 (xr_21, zs_12, zcf_13) H locs 50 ls rfl ⟨(show 0 ≤ zs_12.toInt ∧ zs_12.toInt ≤ 8 from by first | rfl | assumption | omega), (show (0 ≤ i.toInt ∧ i.toInt < zs.toInt ∧ r19.toInt = zs.toInt - 1 ∧ zs_12.toInt = zs.toInt - 1) ∨ ((i.toInt < 0 ∨ zs.toInt ≤ i.toInt) ∧ r19.toInt = -2 ∧ zs_12.toInt = zs.toInt) from by first | rfl | assumption | omega), trivial⟩ (hP.sub (ws' := [(x0, .inr (7, [.ref pg, .ref sr, .ref inp, .ref se, .ref so, .ref j0, .ref g, .ref q0, .int xr_21])), (j0, .inr (1, [.ref jk, .ref z, .ref a, .int jg, .int jw])), (z, .inr (6, [.ref zc, .int zs_12])), (zc, .inl (cI, 40, .inl zcf_13))]) [3, 0, 1, 2] rfl) (hD.sub (ws' := [(x0, .inr (7, [.ref pg, .ref sr, .ref inp, .ref se, .ref so, .ref j0, .ref g, .ref q0, .int xr_21])), (j0, .inr (1, [.ref jk, .ref z, .ref a, .int jg, .int jw])), (z, .inr (6, [.ref zc, .int zs_12])), (zc, .inl (cI, 40, .inl zcf_13))]) [3, 0, 1, 2] (by decide) rfl) hS dX8_drop_50
    · have c10' := I_nlt c10
      refine lv_aload_n hx hb dX8_drop_18 rfl (lv_at hl 0 rfl) ?_
      refine lv_bipush (v := (-2)) hx hb dX8_drop_19 (by decide) ?_
      refine calI (rest := []) (wr := [(j0, .inr (1, [.ref jk, .ref z, .ref a, .int jg, .int jw])), (z, .inr (6, [.ref zc, .int zs])), (zc, .inl (cI, 40, .inl zcf))]) hG (c_X8_refuse l dC dI cI cJ base bB bO x0 pg sr inp se so j0 g q0 xr (-2) ) ml_X8_62 im_X8_refuse se_X8_refuse ini_X8 cd_X8_refuse hd_X8_refuse ⟨(Nat.le_of_ble_eq_true rfl), (Nat.le_of_ble_eq_true rfl)⟩ (Nat.le_of_ble_eq_true rfl) (Nat.le_of_ble_eq_true rfl) hP hD hS [0] [1, 2, 3] rfl rfl rfl rfl (by decide) 7 0 rfl rfl hl.1 rfl (Nat.le_of_ble_eq_true rfl) dX8_drop_21 (fun r24 u H locs hw25 hP hD hS => ?_)
      obtain ⟨xr_26, rfl⟩ : ∃ z, z = u := ⟨_, rfl⟩
      have hw25 : (r24 = (-2 : Int32)) ∧ (xr_26 = (-2 : Int32)) ∧ True := hw25
      obtain ⟨hp27, hp28, -⟩ := hw25
      have hp27t := I_eq hp27
      have hP : va_P (dC, dI) vwCl [(j0, .inr (1, [.ref jk, .ref z, .ref a, .int jg, .int jw])), (z, .inr (6, [.ref zc, .int zs])), (zc, .inl (cI, 40, .inl zcf)), (x0, .inr (7, [.ref pg, .ref sr, .ref inp, .ref se, .ref so, .ref j0, .ref g, .ref q0, .int xr_26]))] H := hP
      have hD : va_D A [(j0, .inr (1, [.ref jk, .ref z, .ref a, .int jg, .int jw])), (z, .inr (6, [.ref zc, .int zs])), (zc, .inl (cI, 40, .inl zcf)), (x0, .inr (7, [.ref pg, .ref sr, .ref inp, .ref se, .ref so, .ref j0, .ref g, .ref q0, .int xr_26]))] := hD
      exact hret r24 (xr_26, zs, zcf) H locs 24 ls rfl ⟨(show 0 ≤ zs.toInt ∧ zs.toInt ≤ 8 from by first | rfl | assumption | omega), (show (0 ≤ i.toInt ∧ i.toInt < zs.toInt ∧ r24.toInt = zs.toInt - 1 ∧ zs.toInt = zs.toInt - 1) ∨ ((i.toInt < 0 ∨ zs.toInt ≤ i.toInt) ∧ r24.toInt = -2 ∧ zs.toInt = zs.toInt) from by first | rfl | assumption | omega), trivial⟩ (hP.sub (ws' := [(x0, .inr (7, [.ref pg, .ref sr, .ref inp, .ref se, .ref so, .ref j0, .ref g, .ref q0, .int xr_26])), (j0, .inr (1, [.ref jk, .ref z, .ref a, .int jg, .int jw])), (z, .inr (6, [.ref zc, .int zs])), (zc, .inl (cI, 40, .inl zcf))]) [3, 0, 1, 2] rfl) (hD.sub (ws' := [(x0, .inr (7, [.ref pg, .ref sr, .ref inp, .ref se, .ref so, .ref j0, .ref g, .ref q0, .int xr_26])), (j0, .inr (1, [.ref jk, .ref z, .ref a, .int jg, .int jw])), (z, .inr (6, [.ref zc, .int zs])), (zc, .inl (cI, 40, .inl zcf))]) [3, 0, 1, 2] (by decide) rfl) hS dX8_drop_24
set_option maxHeartbeats 4000000 in
set_option maxRecDepth 100000 in
theorem c_X8_keeps (l : Launch) (dC : Nat → ClassId) (dI : Nat → Nat → Nat) (cI cJ : ClassId) (base bB bO : Nat) (x0 : Nat) (pg : Nat) (sr : Nat) (inp : Nat) (se : Nat) (so : Nat) (j0 : Nat) (g : Nat) (q0 : Nat) (xr : Int32) (jk : Nat) (z : Nat) (ja : Nat) (jg : Int32) (jw : Int32) (jkf : Nat → Int32) (zc : Nat) (zs : Int32) (zcf : Nat → Int32) (pgt : Nat) (pgsz : Int32) (pgf : Nat → Int32) (ses : Nat) (sew : Nat) (sek : Nat) (sesc : Int32) (sewc : Int32) (seht : Int32) (sefi : Int32) (semd : Int32) (sesf : Nat → Int32) (sewf : Nat → Int32) (sekf : Nat → Int32) (hq0 : 0 ≤ zs.toInt ∧ zs.toInt ≤ 8) (hq1 : 0 ≤ pgsz.toInt ∧ pgsz.toInt ≤ 12) (hq2 : ∀ j : Nat, -1 ≤ (pgf j).toInt ∧ (pgf j).toInt ≤ 31) (hq3 : 0 ≤ sesc.toInt ∧ sesc.toInt ≤ 12) (hq4 : 0 ≤ sewc.toInt ∧ sewc.toInt ≤ 12) (hq5 : 0 ≤ seht.toInt ∧ seht.toInt ≤ 12) (hq6 : sefi.toInt = 0 ∨ sefi.toInt = 1) (hq7 : ∀ j : Nat, 0 ≤ (sewf j).toInt ∧ (sewf j).toInt < 12) (hq8 : stOK sesf sesc) : CtI l dC dI cI cJ base bB bO yX8_keeps cX8_keeps 1 .int 6 130 [.ref x0] [(x0, .inr (7, [.ref pg, .ref sr, .ref inp, .ref se, .ref so, .ref j0, .ref g, .ref q0, .int xr])), (j0, .inr (1, [.ref jk, .ref z, .ref ja, .int jg, .int jw])), (jk, .inl (cI, 4, .inl jkf)), (z, .inr (6, [.ref zc, .int zs])), (zc, .inl (cI, 40, .inl zcf)), (pg, .inr (3, [.ref pgt, .int pgsz])), (pgt, .inl (cI, 12, .inl pgf)), (se, .inr (5, [.ref ses, .ref sew, .ref sek, .int sesc, .int sewc, .int seht, .int sefi, .int semd])), (ses, .inl (cI, 12, .inl sesf)), (sew, .inl (cI, 12, .inl sewf)), (sek, .inl (cI, 12, .inl sekf))] ((Int32) × (Int32) × (Int32) × (Int32) × (Int32) × (Nat → Int32) × (Nat → Int32) × (Nat → Int32)) (fun (res : Int32) (u : (Int32) × (Int32) × (Int32) × (Int32) × (Int32) × (Nat → Int32) × (Nat → Int32) × (Nat → Int32)) => (0 ≤ u.1.toInt ∧ u.1.toInt ≤ 12) ∧ (0 ≤ u.2.1.toInt ∧ u.2.1.toInt ≤ 12) ∧ (0 ≤ u.2.2.1.toInt ∧ u.2.2.1.toInt ≤ 12) ∧ (u.2.2.2.1.toInt = 0 ∨ u.2.2.2.1.toInt = 1) ∧ (∀ j : Nat, 0 ≤ (u.2.2.2.2.2.2.1 j).toInt ∧ (u.2.2.2.2.2.2.1 j).toInt < 12) ∧ (stOK u.2.2.2.2.2.1 u.1) ∧ True) (fun (u : (Int32) × (Int32) × (Int32) × (Int32) × (Int32) × (Nat → Int32) × (Nat → Int32) × (Nat → Int32)) => [(x0, .inr (7, [.ref pg, .ref sr, .ref inp, .ref se, .ref so, .ref j0, .ref g, .ref q0, .int xr])), (j0, .inr (1, [.ref jk, .ref z, .ref ja, .int jg, .int jw])), (jk, .inl (cI, 4, .inl jkf)), (z, .inr (6, [.ref zc, .int zs])), (zc, .inl (cI, 40, .inl zcf)), (pg, .inr (3, [.ref pgt, .int pgsz])), (pgt, .inl (cI, 12, .inl pgf)), (se, .inr (5, [.ref ses, .ref sew, .ref sek, .int u.1, .int u.2.1, .int u.2.2.1, .int u.2.2.2.1, .int u.2.2.2.2.1])), (ses, .inl (cI, 12, .inl u.2.2.2.2.2.1)), (sew, .inl (cI, 12, .inl u.2.2.2.2.2.2.1)), (sek, .inl (cI, 12, .inl u.2.2.2.2.2.2.2))]) := by
  refine entI (by decide) (Nat.le_of_ble_eq_true rfl) ?_
  intro p e s m below meth c A Q ls hAt hret hP hD hS hl
  obtain ⟨hx, hb, hml, hown, hts, hA, hAb, hK, hE, hlocks, hin⟩ := hAt
  have hG : CG dC dI cI cJ base bB bO cX8_keeps 1 RX8 p s m (List.toArray [.ref x0]) c A := ⟨hx, hb, hml, hown, hts, hA, hAb, hK, hE⟩
  have hl : lv_has ls 1 [(0, .ref x0)] := hl
  have c_m6 : (-6 : Int32).toInt = -6 := by decide
  have c_0 : (0 : Int32).toInt = 0 := by decide
  have c_1 : (1 : Int32).toInt = 1 := by decide
  obtain ⟨H, hHe⟩ : ∃ H : Heap, H = s.heap := ⟨_, rfl⟩
  obtain ⟨locs, hle⟩ : ∃ z : List Loc, z = [] := ⟨_, rfl⟩
  rw [← hHe] at hP
  have hS : va_S A s.heap H locs := by rw [hHe, hle]; exact hS
  suffices hgo : W p l e { frames := 6, cells := 0, slots := 0, locals := 130 } s m (List.toArray [.ref x0]) below meth c H locs 0 0 Q (F0 m 0 ls []) by rw [hHe, hle] at hgo; exact hgo
  refine lv_aload_n hx hb dX8_keeps_0 rfl (lv_at hl 0 rfl) ?_
  refine lv_aload_n hx hb dX8_keeps_1 rfl (lv_at hl 0 rfl) ?_
  refine va_get (D := (dC, dI)) (ci := 7) (v := .ref pg) (C := RX8) (T := TX8) (N := 9) hx hb hts inG_X8 hown hK hP 0 rfl rfl 0 (by decide) (hts _ fl_X8_10) (fun _ h9 => h9) rfl dX8_keeps_2 ?_
  refine lv_aload_n hx hb dX8_keeps_5 rfl (lv_at hl 0 rfl) ?_
  refine va_get (D := (dC, dI)) (ci := 7) (v := .ref se) (C := RX8) (T := TX8) (N := 9) hx hb hts inG_X8 hown hK hP 0 rfl rfl 3 (by decide) (hts _ fl_X8_26) (fun _ h9 => h9) rfl dX8_keeps_6 ?_
  refine calI (rest := []) (wr := [(z, .inr (6, [.ref zc, .int zs])), (zc, .inl (cI, 40, .inl zcf))]) hG (c_X8_understood l dC dI cI cJ base bB bO x0 pg sr inp se so j0 g q0 xr jk z ja jg jw jkf pg pgt pgsz pgf se ses sew sek sesc sewc seht sefi semd sesf sewf sekf (by first | assumption | omega) (by first | assumption | omega) (by first | assumption | omega) (by first | assumption | omega) (by first | assumption | omega) (by first | assumption | omega) (by first | assumption | omega) (by first | assumption | omega)) ml_X8_106 im_X8_understood se_X8_understood ini_X8 cd_X8_understood hd_X8_understood ⟨(Nat.le_of_ble_eq_true rfl), (Nat.le_of_ble_eq_true rfl)⟩ (Nat.le_of_ble_eq_true rfl) (Nat.le_of_ble_eq_true rfl) hP hD hS [0, 1, 2, 5, 6, 7, 8, 9, 10] [3, 4] rfl rfl rfl rfl (by decide) 7 0 rfl rfl hl.1 rfl (Nat.le_of_ble_eq_true rfl) dX8_keeps_9 (fun r1 u H locs hw2 hP hD hS => ?_)
  obtain ⟨asc_3, awc_4, aht_5, afi_6, amd_7, asf_8, awf_9, akf_10⟩ := u
  have hw2 : (r1.toInt = 0 ∨ r1.toInt = 1) ∧ (0 ≤ asc_3.toInt ∧ asc_3.toInt ≤ 12) ∧ (0 ≤ awc_4.toInt ∧ awc_4.toInt ≤ 12) ∧ (0 ≤ aht_5.toInt ∧ aht_5.toInt ≤ 12) ∧ (afi_6.toInt = 0 ∨ afi_6.toInt = 1) ∧ (∀ j : Nat, 0 ≤ (awf_9 j).toInt ∧ (awf_9 j).toInt < 12) ∧ (stOK asf_8 asc_3) ∧ True := hw2
  obtain ⟨hp11, hp12, hp13, hp14, hp15, hp16, hp17, -⟩ := hw2
  have hP : va_P (dC, dI) vwCl [(z, .inr (6, [.ref zc, .int zs])), (zc, .inl (cI, 40, .inl zcf)), (x0, .inr (7, [.ref pg, .ref sr, .ref inp, .ref se, .ref so, .ref j0, .ref g, .ref q0, .int xr])), (j0, .inr (1, [.ref jk, .ref z, .ref ja, .int jg, .int jw])), (jk, .inl (cI, 4, .inl jkf)), (pg, .inr (3, [.ref pgt, .int pgsz])), (pgt, .inl (cI, 12, .inl pgf)), (se, .inr (5, [.ref ses, .ref sew, .ref sek, .int asc_3, .int awc_4, .int aht_5, .int afi_6, .int amd_7])), (ses, .inl (cI, 12, .inl asf_8)), (sew, .inl (cI, 12, .inl awf_9)), (sek, .inl (cI, 12, .inl akf_10))] H := hP
  have hD : va_D A [(z, .inr (6, [.ref zc, .int zs])), (zc, .inl (cI, 40, .inl zcf)), (x0, .inr (7, [.ref pg, .ref sr, .ref inp, .ref se, .ref so, .ref j0, .ref g, .ref q0, .int xr])), (j0, .inr (1, [.ref jk, .ref z, .ref ja, .int jg, .int jw])), (jk, .inl (cI, 4, .inl jkf)), (pg, .inr (3, [.ref pgt, .int pgsz])), (pgt, .inl (cI, 12, .inl pgf)), (se, .inr (5, [.ref ses, .ref sew, .ref sek, .int asc_3, .int awc_4, .int aht_5, .int afi_6, .int amd_7])), (ses, .inl (cI, 12, .inl asf_8)), (sew, .inl (cI, 12, .inl awf_9)), (sek, .inl (cI, 12, .inl akf_10))] := hD
  refine lv_if_eq (tgt := 32) hx hb dX8_keeps_12 (by decide) (fun c18 => ?_) (fun c18 => ?_)
  · have c18' := I_eq c18
    refine lv_bipush (v := (-6)) hx hb dX8_keeps_32 (by decide) ?_
    exact hret (-6) (asc_3, awc_4, aht_5, afi_6, amd_7, asf_8, awf_9, akf_10) H locs 34 ls rfl ⟨(show 0 ≤ asc_3.toInt ∧ asc_3.toInt ≤ 12 from by first | rfl | assumption | omega), (show 0 ≤ awc_4.toInt ∧ awc_4.toInt ≤ 12 from by first | rfl | assumption | omega), (show 0 ≤ aht_5.toInt ∧ aht_5.toInt ≤ 12 from by first | rfl | assumption | omega), (show afi_6.toInt = 0 ∨ afi_6.toInt = 1 from by first | rfl | assumption | omega), (show ∀ j : Nat, 0 ≤ (awf_9 j).toInt ∧ (awf_9 j).toInt < 12 from by first | rfl | assumption | omega), (show stOK asf_8 asc_3 from by first | rfl | assumption | omega), trivial⟩ (hP.sub (ws' := [(x0, .inr (7, [.ref pg, .ref sr, .ref inp, .ref se, .ref so, .ref j0, .ref g, .ref q0, .int xr])), (j0, .inr (1, [.ref jk, .ref z, .ref ja, .int jg, .int jw])), (jk, .inl (cI, 4, .inl jkf)), (z, .inr (6, [.ref zc, .int zs])), (zc, .inl (cI, 40, .inl zcf)), (pg, .inr (3, [.ref pgt, .int pgsz])), (pgt, .inl (cI, 12, .inl pgf)), (se, .inr (5, [.ref ses, .ref sew, .ref sek, .int asc_3, .int awc_4, .int aht_5, .int afi_6, .int amd_7])), (ses, .inl (cI, 12, .inl asf_8)), (sew, .inl (cI, 12, .inl awf_9)), (sek, .inl (cI, 12, .inl akf_10))]) [2, 3, 4, 0, 1, 5, 6, 7, 8, 9, 10] rfl) (hD.sub (ws' := [(x0, .inr (7, [.ref pg, .ref sr, .ref inp, .ref se, .ref so, .ref j0, .ref g, .ref q0, .int xr])), (j0, .inr (1, [.ref jk, .ref z, .ref ja, .int jg, .int jw])), (jk, .inl (cI, 4, .inl jkf)), (z, .inr (6, [.ref zc, .int zs])), (zc, .inl (cI, 40, .inl zcf)), (pg, .inr (3, [.ref pgt, .int pgsz])), (pgt, .inl (cI, 12, .inl pgf)), (se, .inr (5, [.ref ses, .ref sew, .ref sek, .int asc_3, .int awc_4, .int aht_5, .int afi_6, .int amd_7])), (ses, .inl (cI, 12, .inl asf_8)), (sew, .inl (cI, 12, .inl awf_9)), (sek, .inl (cI, 12, .inl akf_10))]) [2, 3, 4, 0, 1, 5, 6, 7, 8, 9, 10] (by decide) rfl) hS dX8_keeps_34
  · have c18' := I_ne c18
    refine lv_aload_n hx hb dX8_keeps_15 rfl (lv_at hl 0 rfl) ?_
    refine va_get (D := (dC, dI)) (ci := 7) (v := .ref j0) (C := RX8) (T := TX8) (N := 9) hx hb hts inG_X8 hown hK hP 2 rfl rfl 5 (by decide) (hts _ fl_X8_36) (fun _ h9 => h9) rfl dX8_keeps_16 ?_
    refine va_get (D := (dC, dI)) (ci := 1) (v := .ref z) (C := RX1) (T := TX1) (N := 5) hx hb hts inG_X1 hown hK hP 3 rfl rfl 1 (by decide) (hts _ fl_X8_126) (fun _ h9 => h9) rfl dX8_keeps_19 ?_
    refine lv_aload_n hx hb dX8_keeps_22 rfl (lv_at hl 0 rfl) ?_
    refine va_get (D := (dC, dI)) (ci := 7) (v := .ref se) (C := RX8) (T := TX8) (N := 9) hx hb hts inG_X8 hown hK hP 2 rfl rfl 3 (by decide) (hts _ fl_X8_26) (fun _ h9 => h9) rfl dX8_keeps_23 ?_
    refine calI (rest := []) (wr := [(x0, .inr (7, [.ref pg, .ref sr, .ref inp, .ref se, .ref so, .ref j0, .ref g, .ref q0, .int xr])), (j0, .inr (1, [.ref jk, .ref z, .ref ja, .int jg, .int jw])), (jk, .inl (cI, 4, .inl jkf)), (pg, .inr (3, [.ref pgt, .int pgsz])), (pgt, .inl (cI, 12, .inl pgf)), (sew, .inl (cI, 12, .inl awf_9))]) hG (c_X7_keptBy l dC dI cI cJ base bB bO z zc zs zcf se ses sew sek asc_3 awc_4 aht_5 afi_6 amd_7 asf_8 akf_10 (by first | assumption | omega) (by first | assumption | omega) (by first | assumption | omega)) ml_X8_137 im_X7_keptBy se_X7_keptBy ini_X7 cd_X7_keptBy hd_X7_keptBy ⟨(Nat.le_of_ble_eq_true rfl), (Nat.le_of_ble_eq_true rfl)⟩ (Nat.le_of_ble_eq_true rfl) (Nat.le_of_ble_eq_true rfl) hP hD hS [0, 1, 7, 8, 10] [2, 3, 4, 5, 6, 9] rfl rfl rfl rfl (by decide) 6 0 rfl rfl hl.1 rfl (Nat.le_of_ble_eq_true rfl) dX8_keeps_26 (fun r19 u H locs hw20 hP hD hS => ?_)
    obtain ⟨aht_21, akf_22⟩ := u
    have hw20 : (0 ≤ aht_21.toInt ∧ aht_21.toInt ≤ 12 ∨ aht_21.toInt = aht_5.toInt) ∧ True := hw20
    obtain ⟨hp23, -⟩ := hw20
    have hP : va_P (dC, dI) vwCl [(x0, .inr (7, [.ref pg, .ref sr, .ref inp, .ref se, .ref so, .ref j0, .ref g, .ref q0, .int xr])), (j0, .inr (1, [.ref jk, .ref z, .ref ja, .int jg, .int jw])), (jk, .inl (cI, 4, .inl jkf)), (pg, .inr (3, [.ref pgt, .int pgsz])), (pgt, .inl (cI, 12, .inl pgf)), (sew, .inl (cI, 12, .inl awf_9)), (z, .inr (6, [.ref zc, .int zs])), (zc, .inl (cI, 40, .inl zcf)), (se, .inr (5, [.ref ses, .ref sew, .ref sek, .int asc_3, .int awc_4, .int aht_21, .int afi_6, .int amd_7])), (ses, .inl (cI, 12, .inl asf_8)), (sek, .inl (cI, 12, .inl akf_22))] H := hP
    have hD : va_D A [(x0, .inr (7, [.ref pg, .ref sr, .ref inp, .ref se, .ref so, .ref j0, .ref g, .ref q0, .int xr])), (j0, .inr (1, [.ref jk, .ref z, .ref ja, .int jg, .int jw])), (jk, .inl (cI, 4, .inl jkf)), (pg, .inr (3, [.ref pgt, .int pgsz])), (pgt, .inl (cI, 12, .inl pgf)), (sew, .inl (cI, 12, .inl awf_9)), (z, .inr (6, [.ref zc, .int zs])), (zc, .inl (cI, 40, .inl zcf)), (se, .inr (5, [.ref ses, .ref sew, .ref sek, .int asc_3, .int awc_4, .int aht_21, .int afi_6, .int amd_7])), (ses, .inl (cI, 12, .inl asf_8)), (sek, .inl (cI, 12, .inl akf_22))] := hD
    refine lv_goto (tgt := 34) hx hb dX8_keeps_29 (by decide) ?_
    exact hret r19 (asc_3, awc_4, aht_21, afi_6, amd_7, asf_8, awf_9, akf_22) H locs 34 ls rfl ⟨(show 0 ≤ asc_3.toInt ∧ asc_3.toInt ≤ 12 from by first | rfl | assumption | omega), (show 0 ≤ awc_4.toInt ∧ awc_4.toInt ≤ 12 from by first | rfl | assumption | omega), (show 0 ≤ aht_21.toInt ∧ aht_21.toInt ≤ 12 from by first | rfl | assumption | omega), (show afi_6.toInt = 0 ∨ afi_6.toInt = 1 from by first | rfl | assumption | omega), (show ∀ j : Nat, 0 ≤ (awf_9 j).toInt ∧ (awf_9 j).toInt < 12 from by first | rfl | assumption | omega), (show stOK asf_8 asc_3 from by first | rfl | assumption | omega), trivial⟩ (hP.sub (ws' := [(x0, .inr (7, [.ref pg, .ref sr, .ref inp, .ref se, .ref so, .ref j0, .ref g, .ref q0, .int xr])), (j0, .inr (1, [.ref jk, .ref z, .ref ja, .int jg, .int jw])), (jk, .inl (cI, 4, .inl jkf)), (z, .inr (6, [.ref zc, .int zs])), (zc, .inl (cI, 40, .inl zcf)), (pg, .inr (3, [.ref pgt, .int pgsz])), (pgt, .inl (cI, 12, .inl pgf)), (se, .inr (5, [.ref ses, .ref sew, .ref sek, .int asc_3, .int awc_4, .int aht_21, .int afi_6, .int amd_7])), (ses, .inl (cI, 12, .inl asf_8)), (sew, .inl (cI, 12, .inl awf_9)), (sek, .inl (cI, 12, .inl akf_22))]) [0, 1, 2, 6, 7, 3, 4, 8, 9, 5, 10] rfl) (hD.sub (ws' := [(x0, .inr (7, [.ref pg, .ref sr, .ref inp, .ref se, .ref so, .ref j0, .ref g, .ref q0, .int xr])), (j0, .inr (1, [.ref jk, .ref z, .ref ja, .int jg, .int jw])), (jk, .inl (cI, 4, .inl jkf)), (z, .inr (6, [.ref zc, .int zs])), (zc, .inl (cI, 40, .inl zcf)), (pg, .inr (3, [.ref pgt, .int pgsz])), (pgt, .inl (cI, 12, .inl pgf)), (se, .inr (5, [.ref ses, .ref sew, .ref sek, .int asc_3, .int awc_4, .int aht_21, .int afi_6, .int amd_7])), (ses, .inl (cI, 12, .inl asf_8)), (sew, .inl (cI, 12, .inl awf_9)), (sek, .inl (cI, 12, .inl akf_22))]) [0, 1, 2, 6, 7, 3, 4, 8, 9, 5, 10] (by decide) rfl) hS dX8_keeps_34
set_option maxHeartbeats 4000000 in
set_option maxRecDepth 100000 in
theorem c_X8_changes (l : Launch) (dC : Nat → ClassId) (dI : Nat → Nat → Nat) (cI cJ : ClassId) (base bB bO : Nat) (x0 : Nat) (pg : Nat) (sr : Nat) (inp : Nat) (se : Nat) (so : Nat) (j0 : Nat) (g : Nat) (q0 : Nat) (xr : Int32) (gh : Nat) (gr : Nat) (gl : Nat) (gk : Nat) (gd : Nat) (gm : Nat) (gsz : Int32) (gcn : Int32) (gov : Int32)  : CtI l dC dI cI cJ base bB bO yX8_changes cX8_changes 1 .int 1 20 [.ref x0] [(x0, .inr (7, [.ref pg, .ref sr, .ref inp, .ref se, .ref so, .ref j0, .ref g, .ref q0, .int xr])), (g, .inr (2, [.ref gh, .ref gr, .ref gl, .ref gk, .ref gd, .ref gm, .int gsz, .int gcn, .int gov]))] (Unit) (fun (res : Int32) (u : Unit) => True) (fun (u : Unit) => [(x0, .inr (7, [.ref pg, .ref sr, .ref inp, .ref se, .ref so, .ref j0, .ref g, .ref q0, .int xr])), (g, .inr (2, [.ref gh, .ref gr, .ref gl, .ref gk, .ref gd, .ref gm, .int gsz, .int gcn, .int gov]))]) := by
  refine entI (by decide) (Nat.le_of_ble_eq_true rfl) ?_
  intro p e s m below meth c A Q ls hAt hret hP hD hS hl
  obtain ⟨hx, hb, hml, hown, hts, hA, hAb, hK, hE, hlocks, hin⟩ := hAt
  have hG : CG dC dI cI cJ base bB bO cX8_changes 1 RX8 p s m (List.toArray [.ref x0]) c A := ⟨hx, hb, hml, hown, hts, hA, hAb, hK, hE⟩
  have hl : lv_has ls 1 [(0, .ref x0)] := hl
  have c_m1 : (-1 : Int32).toInt = -1 := by decide
  have c_0 : (0 : Int32).toInt = 0 := by decide
  have c_1 : (1 : Int32).toInt = 1 := by decide
  obtain ⟨H, hHe⟩ : ∃ H : Heap, H = s.heap := ⟨_, rfl⟩
  obtain ⟨locs, hle⟩ : ∃ z : List Loc, z = [] := ⟨_, rfl⟩
  rw [← hHe] at hP
  have hS : va_S A s.heap H locs := by rw [hHe, hle]; exact hS
  suffices hgo : W p l e { frames := 1, cells := 0, slots := 0, locals := 20 } s m (List.toArray [.ref x0]) below meth c H locs 0 0 Q (F0 m 0 ls []) by rw [hHe, hle] at hgo; exact hgo
  refine lv_aload_n hx hb dX8_changes_0 rfl (lv_at hl 0 rfl) ?_
  refine va_get (D := (dC, dI)) (ci := 7) (v := .ref g) (C := RX8) (T := TX8) (N := 9) hx hb hts inG_X8 hown hK hP 0 rfl rfl 6 (by decide) (hts _ fl_X8_43) (fun _ h9 => h9) rfl dX8_changes_1 ?_
  refine calI (rest := []) (wr := [(x0, .inr (7, [.ref pg, .ref sr, .ref inp, .ref se, .ref so, .ref j0, .ref g, .ref q0, .int xr]))]) hG (c_X2_size l dC dI cI cJ base bB bO g gh gr gl gk gd gm gsz gcn gov ) ml_X8_148 im_X2_size se_X2_size ini_X2 cd_X2_size hd_X2_size ⟨(Nat.le_of_ble_eq_true rfl), (Nat.le_of_ble_eq_true rfl)⟩ (Nat.le_of_ble_eq_true rfl) (Nat.le_of_ble_eq_true rfl) hP hD hS [1] [0] rfl rfl rfl rfl (by decide) 2 1 rfl rfl hl.1 rfl (Nat.le_of_ble_eq_true rfl) dX8_changes_4 (fun r1 u H locs hw2 hP hD hS => ?_)
  have hw2 : (r1 = gsz) ∧ True := hw2
  obtain ⟨hp3, -⟩ := hw2
  have hp3t := I_eq hp3
  have hP : va_P (dC, dI) vwCl [(x0, .inr (7, [.ref pg, .ref sr, .ref inp, .ref se, .ref so, .ref j0, .ref g, .ref q0, .int xr])), (g, .inr (2, [.ref gh, .ref gr, .ref gl, .ref gk, .ref gd, .ref gm, .int gsz, .int gcn, .int gov]))] H := hP
  have hD : va_D A [(x0, .inr (7, [.ref pg, .ref sr, .ref inp, .ref se, .ref so, .ref j0, .ref g, .ref q0, .int xr])), (g, .inr (2, [.ref gh, .ref gr, .ref gl, .ref gk, .ref gd, .ref gm, .int gsz, .int gcn, .int gov]))] := hD
  refine lv_if_ne (tgt := 14) hx hb dX8_changes_7 (by decide) (fun c4 => ?_) (fun c4 => ?_)
  · have c4' := I_ne c4
    refine lv_aload_n hx hb dX8_changes_14 rfl (lv_at hl 0 rfl) ?_
    refine va_get (D := (dC, dI)) (ci := 7) (v := .ref g) (C := RX8) (T := TX8) (N := 9) hx hb hts inG_X8 hown hK hP 0 rfl rfl 6 (by decide) (hts _ fl_X8_43) (fun _ h9 => h9) rfl dX8_changes_15 ?_
    refine calI (rest := []) (wr := [(x0, .inr (7, [.ref pg, .ref sr, .ref inp, .ref se, .ref so, .ref j0, .ref g, .ref q0, .int xr]))]) hG (c_X2_changesNeeded l dC dI cI cJ base bB bO g gh gr gl gk gd gm gsz gcn gov ) ml_X8_163 im_X2_changesNeeded se_X2_changesNeeded ini_X2 cd_X2_changesNeeded hd_X2_changesNeeded ⟨(Nat.le_of_ble_eq_true rfl), (Nat.le_of_ble_eq_true rfl)⟩ (Nat.le_of_ble_eq_true rfl) (Nat.le_of_ble_eq_true rfl) hP hD hS [1] [0] rfl rfl rfl rfl (by decide) 2 1 rfl rfl hl.1 rfl (Nat.le_of_ble_eq_true rfl) dX8_changes_18 (fun r5 u H locs hw6 hP hD hS => ?_)
    have hP : va_P (dC, dI) vwCl [(x0, .inr (7, [.ref pg, .ref sr, .ref inp, .ref se, .ref so, .ref j0, .ref g, .ref q0, .int xr])), (g, .inr (2, [.ref gh, .ref gr, .ref gl, .ref gk, .ref gd, .ref gm, .int gsz, .int gcn, .int gov]))] H := hP
    have hD : va_D A [(x0, .inr (7, [.ref pg, .ref sr, .ref inp, .ref se, .ref so, .ref j0, .ref g, .ref q0, .int xr])), (g, .inr (2, [.ref gh, .ref gr, .ref gl, .ref gk, .ref gd, .ref gm, .int gsz, .int gcn, .int gov]))] := hD
    exact hret r5 () H locs 21 ls rfl trivial hP hD hS dX8_changes_21
  · have c4' := I_eq c4
    refine lv_iconst (v := (-1)) hx hb dX8_changes_10 (by decide) ?_
    refine lv_goto (tgt := 21) hx hb dX8_changes_11 (by decide) ?_
    exact hret (-1) () H locs 21 ls rfl trivial hP hD hS dX8_changes_21
set_option maxHeartbeats 4000000 in
set_option maxRecDepth 100000 in
theorem c_X8_mending (l : Launch) (dC : Nat → ClassId) (dI : Nat → Nat → Nat) (cI cJ : ClassId) (base bB bO : Nat) (x0 : Nat) (pg : Nat) (sr : Nat) (inp : Nat) (se : Nat) (so : Nat) (j0 : Nat) (g : Nat) (q0 : Nat) (xr : Int32) (gh : Nat) (gr : Nat) (gl : Nat) (gk : Nat) (gd : Nat) (gm : Nat) (gsz : Int32) (gcn : Int32) (gov : Int32) (grf : Nat → Int64) (glf : Nat → Int32) (i : Int32) (x : Int32) (hq0 : 0 ≤ gsz.toInt ∧ gsz.toInt ≤ 300) : CtI l dC dI cI cJ base bB bO yX8_mending cX8_mending 3 .int 2 43 [.ref x0, .int i, .int x] [(x0, .inr (7, [.ref pg, .ref sr, .ref inp, .ref se, .ref so, .ref j0, .ref g, .ref q0, .int xr])), (g, .inr (2, [.ref gh, .ref gr, .ref gl, .ref gk, .ref gd, .ref gm, .int gsz, .int gcn, .int gov])), (gr, .inl (cJ, 300, .inr (.inl grf))), (gl, .inl (cI, 300, .inl glf))] (Unit) (fun (res : Int32) (u : Unit) => True) (fun (u : Unit) => [(x0, .inr (7, [.ref pg, .ref sr, .ref inp, .ref se, .ref so, .ref j0, .ref g, .ref q0, .int xr])), (g, .inr (2, [.ref gh, .ref gr, .ref gl, .ref gk, .ref gd, .ref gm, .int gsz, .int gcn, .int gov])), (gr, .inl (cJ, 300, .inr (.inl grf))), (gl, .inl (cI, 300, .inl glf))]) := by
  refine entI (by decide) (Nat.le_of_ble_eq_true rfl) ?_
  intro p e s m below meth c A Q ls hAt hret hP hD hS hl
  obtain ⟨hx, hb, hml, hown, hts, hA, hAb, hK, hE, hlocks, hin⟩ := hAt
  have hG : CG dC dI cI cJ base bB bO cX8_mending 3 RX8 p s m (List.toArray [.ref x0, .int i, .int x]) c A := ⟨hx, hb, hml, hown, hts, hA, hAb, hK, hE⟩
  have hl : lv_has ls 3 [(0, .ref x0), (1, .int i), (2, .int x)] := hl
  have c_m1 : (-1 : Int32).toInt = -1 := by decide
  have c_0 : (0 : Int32).toInt = 0 := by decide
  have c_1 : (1 : Int32).toInt = 1 := by decide
  obtain ⟨H, hHe⟩ : ∃ H : Heap, H = s.heap := ⟨_, rfl⟩
  obtain ⟨locs, hle⟩ : ∃ z : List Loc, z = [] := ⟨_, rfl⟩
  rw [← hHe] at hP
  have hS : va_S A s.heap H locs := by rw [hHe, hle]; exact hS
  suffices hgo : W p l e { frames := 2, cells := 0, slots := 0, locals := 43 } s m (List.toArray [.ref x0, .int i, .int x]) below meth c H locs 0 0 Q (F0 m 0 ls []) by rw [hHe, hle] at hgo; exact hgo
  refine lv_aload_n hx hb dX8_mending_0 rfl (lv_at hl 0 rfl) ?_
  refine va_get (D := (dC, dI)) (ci := 7) (v := .ref g) (C := RX8) (T := TX8) (N := 9) hx hb hts inG_X8 hown hK hP 0 rfl rfl 6 (by decide) (hts _ fl_X8_43) (fun _ h9 => h9) rfl dX8_mending_1 ?_
  refine lv_iload_n hx hb dX8_mending_4 rfl (lv_at hl 1 rfl) ?_
  refine calI (rest := []) (wr := [(x0, .inr (7, [.ref pg, .ref sr, .ref inp, .ref se, .ref so, .ref j0, .ref g, .ref q0, .int xr])), (gr, .inl (cJ, 300, .inr (.inl grf))), (gl, .inl (cI, 300, .inl glf))]) hG (c_X2_has l dC dI cI cJ base bB bO g gh gr gl gk gd gm gsz gcn gov i ) ml_X8_166 im_X2_has se_X2_has ini_X2 cd_X2_has hd_X2_has ⟨(Nat.le_of_ble_eq_true rfl), (Nat.le_of_ble_eq_true rfl)⟩ (Nat.le_of_ble_eq_true rfl) (Nat.le_of_ble_eq_true rfl) hP hD hS [1] [0, 2, 3] rfl rfl rfl rfl (by decide) 2 1 rfl rfl hl.1 rfl (Nat.le_of_ble_eq_true rfl) dX8_mending_5 (fun r1 u H locs hw2 hP hD hS => ?_)
  have hw2 : ((r1.toInt = 1 ∧ 0 ≤ i.toInt ∧ i.toInt < gsz.toInt) ∨ (r1.toInt = 0 ∧ (i.toInt < 0 ∨ gsz.toInt ≤ i.toInt))) ∧ True := hw2
  obtain ⟨hp3, -⟩ := hw2
  have hP : va_P (dC, dI) vwCl [(x0, .inr (7, [.ref pg, .ref sr, .ref inp, .ref se, .ref so, .ref j0, .ref g, .ref q0, .int xr])), (gr, .inl (cJ, 300, .inr (.inl grf))), (gl, .inl (cI, 300, .inl glf)), (g, .inr (2, [.ref gh, .ref gr, .ref gl, .ref gk, .ref gd, .ref gm, .int gsz, .int gcn, .int gov]))] H := hP
  have hD : va_D A [(x0, .inr (7, [.ref pg, .ref sr, .ref inp, .ref se, .ref so, .ref j0, .ref g, .ref q0, .int xr])), (gr, .inl (cJ, 300, .inr (.inl grf))), (gl, .inl (cI, 300, .inl glf)), (g, .inr (2, [.ref gh, .ref gr, .ref gl, .ref gk, .ref gd, .ref gm, .int gsz, .int gcn, .int gov]))] := hD
  refine lv_if_ne (tgt := 13) hx hb dX8_mending_8 (by decide) (fun c4 => ?_) (fun c4 => ?_)
  · have c4' := I_ne c4
    refine lv_iload_n hx hb dX8_mending_13 rfl (lv_at hl 2 rfl) ?_
    refine lv_iconst (v := (-1)) hx hb dX8_mending_14 (by decide) ?_
    refine lv_icmp_ne (tgt := 29) hx hb dX8_mending_15 (by decide) (fun c5 => ?_) (fun c5 => ?_)
    · have c5' := I_ne c5
      refine lv_aload_n hx hb dX8_mending_29 rfl (lv_at hl 0 rfl) ?_
      refine va_get (D := (dC, dI)) (ci := 7) (v := .ref g) (C := RX8) (T := TX8) (N := 9) hx hb hts inG_X8 hown hK hP 0 rfl rfl 6 (by decide) (hts _ fl_X8_43) (fun _ h9 => h9) rfl dX8_mending_30 ?_
      refine lv_iload_n hx hb dX8_mending_33 rfl (lv_at hl 1 rfl) ?_
      refine lv_iload_n hx hb dX8_mending_34 rfl (lv_at hl 2 rfl) ?_
      refine calI (rest := []) (wr := [(x0, .inr (7, [.ref pg, .ref sr, .ref inp, .ref se, .ref so, .ref j0, .ref g, .ref q0, .int xr]))]) hG (c_X2_tokenOf l dC dI cI cJ base bB bO g gh gr gl gk gd gm gsz gcn gov grf glf i x (by first | assumption | omega)) ml_X8_172 im_X2_tokenOf se_X2_tokenOf ini_X2 cd_X2_tokenOf hd_X2_tokenOf ⟨(Nat.le_of_ble_eq_true rfl), (Nat.le_of_ble_eq_true rfl)⟩ (Nat.le_of_ble_eq_true rfl) (Nat.le_of_ble_eq_true rfl) hP hD hS [3, 1, 2] [0] rfl rfl rfl rfl (by decide) 2 3 rfl rfl hl.1 rfl (Nat.le_of_ble_eq_true rfl) dX8_mending_35 (fun r6 u H locs hw7 hP hD hS => ?_)
      have hw7 : (-1 ≤ r6.toInt ∧ r6.toInt ≤ 31) ∧ True := hw7
      obtain ⟨hp8, -⟩ := hw7
      have hP : va_P (dC, dI) vwCl [(x0, .inr (7, [.ref pg, .ref sr, .ref inp, .ref se, .ref so, .ref j0, .ref g, .ref q0, .int xr])), (g, .inr (2, [.ref gh, .ref gr, .ref gl, .ref gk, .ref gd, .ref gm, .int gsz, .int gcn, .int gov])), (gr, .inl (cJ, 300, .inr (.inl grf))), (gl, .inl (cI, 300, .inl glf))] H := hP
      have hD : va_D A [(x0, .inr (7, [.ref pg, .ref sr, .ref inp, .ref se, .ref so, .ref j0, .ref g, .ref q0, .int xr])), (g, .inr (2, [.ref gh, .ref gr, .ref gl, .ref gk, .ref gd, .ref gm, .int gsz, .int gcn, .int gov])), (gr, .inl (cJ, 300, .inr (.inl grf))), (gl, .inl (cI, 300, .inl glf))] := hD
      exact hret r6 () H locs 38 ls rfl trivial hP hD hS dX8_mending_38
    · have c5' := I_eq c5
      refine lv_aload_n hx hb dX8_mending_18 rfl (lv_at hl 0 rfl) ?_
      refine va_get (D := (dC, dI)) (ci := 7) (v := .ref g) (C := RX8) (T := TX8) (N := 9) hx hb hts inG_X8 hown hK hP 0 rfl rfl 6 (by decide) (hts _ fl_X8_43) (fun _ h9 => h9) rfl dX8_mending_19 ?_
      refine lv_iload_n hx hb dX8_mending_22 rfl (lv_at hl 1 rfl) ?_
      refine calI (rest := []) (wr := [(x0, .inr (7, [.ref pg, .ref sr, .ref inp, .ref se, .ref so, .ref j0, .ref g, .ref q0, .int xr])), (gr, .inl (cJ, 300, .inr (.inl grf)))]) hG (c_X2_lengthOf l dC dI cI cJ base bB bO g gh gr gl gk gd gm gsz gcn gov glf i (by first | assumption | omega)) ml_X8_169 im_X2_lengthOf se_X2_lengthOf ini_X2 cd_X2_lengthOf hd_X2_lengthOf ⟨(Nat.le_of_ble_eq_true rfl), (Nat.le_of_ble_eq_true rfl)⟩ (Nat.le_of_ble_eq_true rfl) (Nat.le_of_ble_eq_true rfl) hP hD hS [3, 2] [0, 1] rfl rfl rfl rfl (by decide) 2 3 rfl rfl hl.1 rfl (Nat.le_of_ble_eq_true rfl) dX8_mending_23 (fun r9 u H locs hw10 hP hD hS => ?_)
      have hw10 : (r9 = atf glf gsz i) ∧ True := hw10
      obtain ⟨hp11, -⟩ := hw10
      have hp11t := I_eq hp11
      have hP : va_P (dC, dI) vwCl [(x0, .inr (7, [.ref pg, .ref sr, .ref inp, .ref se, .ref so, .ref j0, .ref g, .ref q0, .int xr])), (gr, .inl (cJ, 300, .inr (.inl grf))), (g, .inr (2, [.ref gh, .ref gr, .ref gl, .ref gk, .ref gd, .ref gm, .int gsz, .int gcn, .int gov])), (gl, .inl (cI, 300, .inl glf))] H := hP
      have hD : va_D A [(x0, .inr (7, [.ref pg, .ref sr, .ref inp, .ref se, .ref so, .ref j0, .ref g, .ref q0, .int xr])), (gr, .inl (cJ, 300, .inr (.inl grf))), (g, .inr (2, [.ref gh, .ref gr, .ref gl, .ref gk, .ref gd, .ref gm, .int gsz, .int gcn, .int gov])), (gl, .inl (cI, 300, .inl glf))] := hD
      refine lv_goto (tgt := 38) hx hb dX8_mending_26 (by decide) ?_
      exact hret r9 () H locs 38 ls rfl trivial (hP.sub (ws' := [(x0, .inr (7, [.ref pg, .ref sr, .ref inp, .ref se, .ref so, .ref j0, .ref g, .ref q0, .int xr])), (g, .inr (2, [.ref gh, .ref gr, .ref gl, .ref gk, .ref gd, .ref gm, .int gsz, .int gcn, .int gov])), (gr, .inl (cJ, 300, .inr (.inl grf))), (gl, .inl (cI, 300, .inl glf))]) [0, 2, 1, 3] rfl) (hD.sub (ws' := [(x0, .inr (7, [.ref pg, .ref sr, .ref inp, .ref se, .ref so, .ref j0, .ref g, .ref q0, .int xr])), (g, .inr (2, [.ref gh, .ref gr, .ref gl, .ref gk, .ref gd, .ref gm, .int gsz, .int gcn, .int gov])), (gr, .inl (cJ, 300, .inr (.inl grf))), (gl, .inl (cI, 300, .inl glf))]) [0, 2, 1, 3] (by decide) rfl) hS dX8_mending_38
  · have c4' := I_eq c4
    refine lv_iconst (v := (-1)) hx hb dX8_mending_11 (by decide) ?_
    exact hret (-1) () H locs 12 ls rfl trivial (hP.sub (ws' := [(x0, .inr (7, [.ref pg, .ref sr, .ref inp, .ref se, .ref so, .ref j0, .ref g, .ref q0, .int xr])), (g, .inr (2, [.ref gh, .ref gr, .ref gl, .ref gk, .ref gd, .ref gm, .int gsz, .int gcn, .int gov])), (gr, .inl (cJ, 300, .inr (.inl grf))), (gl, .inl (cI, 300, .inl glf))]) [0, 3, 1, 2] rfl) (hD.sub (ws' := [(x0, .inr (7, [.ref pg, .ref sr, .ref inp, .ref se, .ref so, .ref j0, .ref g, .ref q0, .int xr])), (g, .inr (2, [.ref gh, .ref gr, .ref gl, .ref gk, .ref gd, .ref gm, .int gsz, .int gcn, .int gov])), (gr, .inl (cJ, 300, .inr (.inl grf))), (gl, .inl (cI, 300, .inl glf))]) [0, 3, 1, 2] (by decide) rfl) hS dX8_mending_12
set_option maxHeartbeats 4000000 in
set_option maxRecDepth 100000 in
theorem c_X8_rank (l : Launch) (dC : Nat → ClassId) (dI : Nat → Nat → Nat) (cI cJ : ClassId) (base bB bO : Nat) (x0 : Nat) (pg : Nat) (sr : Nat) (inp : Nat) (se : Nat) (so : Nat) (j0 : Nat) (g : Nat) (q0 : Nat) (xr : Int32) (gh : Nat) (gr : Nat) (gl : Nat) (gk : Nat) (gd : Nat) (gm : Nat) (gsz : Int32) (gcn : Int32) (gov : Int32) (gkf : Nat → Int32) (i : Int32) (hq0 : 0 ≤ gsz.toInt ∧ gsz.toInt ≤ 300) : CtI l dC dI cI cJ base bB bO yX8_rank cX8_rank 2 .int 2 42 [.ref x0, .int i] [(x0, .inr (7, [.ref pg, .ref sr, .ref inp, .ref se, .ref so, .ref j0, .ref g, .ref q0, .int xr])), (g, .inr (2, [.ref gh, .ref gr, .ref gl, .ref gk, .ref gd, .ref gm, .int gsz, .int gcn, .int gov])), (gk, .inl (cI, 300, .inl gkf))] (Unit) (fun (res : Int32) (u : Unit) => True) (fun (u : Unit) => [(x0, .inr (7, [.ref pg, .ref sr, .ref inp, .ref se, .ref so, .ref j0, .ref g, .ref q0, .int xr])), (g, .inr (2, [.ref gh, .ref gr, .ref gl, .ref gk, .ref gd, .ref gm, .int gsz, .int gcn, .int gov])), (gk, .inl (cI, 300, .inl gkf))]) := by
  refine entI (by decide) (Nat.le_of_ble_eq_true rfl) ?_
  intro p e s m below meth c A Q ls hAt hret hP hD hS hl
  obtain ⟨hx, hb, hml, hown, hts, hA, hAb, hK, hE, hlocks, hin⟩ := hAt
  have hG : CG dC dI cI cJ base bB bO cX8_rank 2 RX8 p s m (List.toArray [.ref x0, .int i]) c A := ⟨hx, hb, hml, hown, hts, hA, hAb, hK, hE⟩
  have hl : lv_has ls 2 [(0, .ref x0), (1, .int i)] := hl
  have c_0 : (0 : Int32).toInt = 0 := by decide
  have c_1 : (1 : Int32).toInt = 1 := by decide
  obtain ⟨H, hHe⟩ : ∃ H : Heap, H = s.heap := ⟨_, rfl⟩
  obtain ⟨locs, hle⟩ : ∃ z : List Loc, z = [] := ⟨_, rfl⟩
  rw [← hHe] at hP
  have hS : va_S A s.heap H locs := by rw [hHe, hle]; exact hS
  suffices hgo : W p l e { frames := 2, cells := 0, slots := 0, locals := 42 } s m (List.toArray [.ref x0, .int i]) below meth c H locs 0 0 Q (F0 m 0 ls []) by rw [hHe, hle] at hgo; exact hgo
  refine lv_aload_n hx hb dX8_rank_0 rfl (lv_at hl 0 rfl) ?_
  refine va_get (D := (dC, dI)) (ci := 7) (v := .ref g) (C := RX8) (T := TX8) (N := 9) hx hb hts inG_X8 hown hK hP 0 rfl rfl 6 (by decide) (hts _ fl_X8_43) (fun _ h9 => h9) rfl dX8_rank_1 ?_
  refine lv_iload_n hx hb dX8_rank_4 rfl (lv_at hl 1 rfl) ?_
  refine calI (rest := []) (wr := [(x0, .inr (7, [.ref pg, .ref sr, .ref inp, .ref se, .ref so, .ref j0, .ref g, .ref q0, .int xr]))]) hG (c_X2_rankOf l dC dI cI cJ base bB bO g gh gr gl gk gd gm gsz gcn gov gkf i (by first | assumption | omega)) ml_X8_176 im_X2_rankOf se_X2_rankOf ini_X2 cd_X2_rankOf hd_X2_rankOf ⟨(Nat.le_of_ble_eq_true rfl), (Nat.le_of_ble_eq_true rfl)⟩ (Nat.le_of_ble_eq_true rfl) (Nat.le_of_ble_eq_true rfl) hP hD hS [1, 2] [0] rfl rfl rfl rfl (by decide) 2 1 rfl rfl hl.1 rfl (Nat.le_of_ble_eq_true rfl) dX8_rank_5 (fun r1 u H locs hw2 hP hD hS => ?_)
  have hP : va_P (dC, dI) vwCl [(x0, .inr (7, [.ref pg, .ref sr, .ref inp, .ref se, .ref so, .ref j0, .ref g, .ref q0, .int xr])), (g, .inr (2, [.ref gh, .ref gr, .ref gl, .ref gk, .ref gd, .ref gm, .int gsz, .int gcn, .int gov])), (gk, .inl (cI, 300, .inl gkf))] H := hP
  have hD : va_D A [(x0, .inr (7, [.ref pg, .ref sr, .ref inp, .ref se, .ref so, .ref j0, .ref g, .ref q0, .int xr])), (g, .inr (2, [.ref gh, .ref gr, .ref gl, .ref gk, .ref gd, .ref gm, .int gsz, .int gcn, .int gov])), (gk, .inl (cI, 300, .inl gkf))] := hD
  exact hret r1 () H locs 8 ls rfl trivial hP hD hS dX8_rank_8
set_option maxHeartbeats 4000000 in
set_option maxRecDepth 100000 in
theorem c_X8_firstUnlikeInput (l : Launch) (dC : Nat → ClassId) (dI : Nat → Nat → Nat) (cI cJ : ClassId) (base bB bO : Nat) (x0 : Nat) (pg : Nat) (sr : Nat) (inp : Nat) (se : Nat) (so : Nat) (j0 : Nat) (g : Nat) (q0 : Nat) (xr : Int32) (inpf : Nat → Int32) (ses : Nat) (sew : Nat) (sek : Nat) (sesc : Int32) (sewc : Int32) (seht : Int32) (sefi : Int32) (semd : Int32) (sesf : Nat → Int32) (sekf : Nat → Int32) (sos : Nat) (sow : Nat) (sok : Nat) (sosc : Int32) (sowc : Int32) (soht : Int32) (sofi : Int32) (somd : Int32) (sosf : Nat → Int32) (sokf : Nat → Int32) (hq0 : 0 ≤ sesc.toInt ∧ sesc.toInt ≤ 12) (hq1 : stOK sesf sesc) (hq2 : 0 ≤ sosc.toInt ∧ sosc.toInt ≤ 12) (hq3 : stOK sosf sosc) : CtI l dC dI cI cJ base bB bO yX8_firstUnlikeInput cX8_firstUnlikeInput 2 .int 2 51 [.ref x0] [(x0, .inr (7, [.ref pg, .ref sr, .ref inp, .ref se, .ref so, .ref j0, .ref g, .ref q0, .int xr])), (inp, .inl (cI, 4, .inl inpf)), (se, .inr (5, [.ref ses, .ref sew, .ref sek, .int sesc, .int sewc, .int seht, .int sefi, .int semd])), (ses, .inl (cI, 12, .inl sesf)), (sek, .inl (cI, 12, .inl sekf)), (so, .inr (5, [.ref sos, .ref sow, .ref sok, .int sosc, .int sowc, .int soht, .int sofi, .int somd])), (sos, .inl (cI, 12, .inl sosf)), (sok, .inl (cI, 12, .inl sokf))] ((Nat → Int32) × (Int32) × (Nat → Int32) × (Int32) × (Nat → Int32)) (fun (res : Int32) (u : (Nat → Int32) × (Int32) × (Nat → Int32) × (Int32) × (Nat → Int32)) => (0 ≤ u.2.1.toInt ∧ u.2.1.toInt ≤ 12 ∨ u.2.1.toInt = seht.toInt) ∧ (0 ≤ u.2.2.2.1.toInt ∧ u.2.2.2.1.toInt ≤ 12 ∨ u.2.2.2.1.toInt = soht.toInt) ∧ True) (fun (u : (Nat → Int32) × (Int32) × (Nat → Int32) × (Int32) × (Nat → Int32)) => [(x0, .inr (7, [.ref pg, .ref sr, .ref inp, .ref se, .ref so, .ref j0, .ref g, .ref q0, .int xr])), (inp, .inl (cI, 4, .inl u.1)), (se, .inr (5, [.ref ses, .ref sew, .ref sek, .int sesc, .int sewc, .int u.2.1, .int sefi, .int semd])), (ses, .inl (cI, 12, .inl sesf)), (sek, .inl (cI, 12, .inl u.2.2.1)), (so, .inr (5, [.ref sos, .ref sow, .ref sok, .int sosc, .int sowc, .int u.2.2.2.1, .int sofi, .int somd])), (sos, .inl (cI, 12, .inl sosf)), (sok, .inl (cI, 12, .inl u.2.2.2.2))]) := by
  refine entI (by decide) (Nat.le_of_ble_eq_true rfl) ?_
  intro p e s m below meth c A Q ls hAt hret hP hD hS hl
  obtain ⟨hx, hb, hml, hown, hts, hA, hAb, hK, hE, hlocks, hin⟩ := hAt
  have hG : CG dC dI cI cJ base bB bO cX8_firstUnlikeInput 2 RX8 p s m (List.toArray [.ref x0]) c A := ⟨hx, hb, hml, hown, hts, hA, hAb, hK, hE⟩
  have hl : lv_has ls 2 [(0, .ref x0)] := hl
  have c_m1 : (-1 : Int32).toInt = -1 := by decide
  have c_0 : (0 : Int32).toInt = 0 := by decide
  have c_1 : (1 : Int32).toInt = 1 := by decide
  have c_2 : (2 : Int32).toInt = 2 := by decide
  have c_5 : (5 : Int32).toInt = 5 := by decide
  have c_25 : (25 : Int32).toInt = 25 := by decide
  have c_125 : (125 : Int32).toInt = 125 := by decide
  have c_625 : (625 : Int32).toInt = 625 := by decide
  obtain ⟨H, hHe⟩ : ∃ H : Heap, H = s.heap := ⟨_, rfl⟩
  obtain ⟨locs, hle⟩ : ∃ z : List Loc, z = [] := ⟨_, rfl⟩
  rw [← hHe] at hP
  have hS : va_S A s.heap H locs := by rw [hHe, hle]; exact hS
  suffices hgo : W p l e { frames := 2, cells := 0, slots := 0, locals := 51 } s m (List.toArray [.ref x0]) below meth c H locs 0 0 Q (F0 m 0 ls []) by rw [hHe, hle] at hgo; exact hgo
  refine lv_iconst (v := 0) hx hb dX8_firstUnlikeInput_0 (by decide) ?_
  refine lv_istore_n (lv' := [(1, .int 0), (0, .ref x0)]) hx hb dX8_firstUnlikeInput_1 rfl hl (by decide) rfl (fun ls hl => ?_)
  have J2 : ∀ (n : Nat) (L1_2 : Int32) (inpf_2 : Nat → Int32) (seht_2 : Int32) (sekf_2 : Nat → Int32) (soht_2 : Int32) (sokf_2 : Nat → Int32), (0 ≤ L1_2.toInt ∧ L1_2.toInt ≤ 625) → (0 ≤ seht_2.toInt ∧ seht_2.toInt ≤ 12 ∨ seht_2.toInt = seht.toInt) → (0 ≤ soht_2.toInt ∧ soht_2.toInt ≤ 12 ∨ soht_2.toInt = soht.toInt) → (625 - L1_2.toInt) < (n : Int) → ∀ (H : Heap) (locs : List Loc) (ls : Array Slot), va_P (dC, dI) vwCl [(x0, .inr (7, [.ref pg, .ref sr, .ref inp, .ref se, .ref so, .ref j0, .ref g, .ref q0, .int xr])), (inp, .inl (cI, 4, .inl inpf_2)), (se, .inr (5, [.ref ses, .ref sew, .ref sek, .int sesc, .int sewc, .int seht_2, .int sefi, .int semd])), (ses, .inl (cI, 12, .inl sesf)), (sek, .inl (cI, 12, .inl sekf_2)), (so, .inr (5, [.ref sos, .ref sow, .ref sok, .int sosc, .int sowc, .int soht_2, .int sofi, .int somd])), (sos, .inl (cI, 12, .inl sosf)), (sok, .inl (cI, 12, .inl sokf_2))] H → va_D A [(x0, .inr (7, [.ref pg, .ref sr, .ref inp, .ref se, .ref so, .ref j0, .ref g, .ref q0, .int xr])), (inp, .inl (cI, 4, .inl inpf_2)), (se, .inr (5, [.ref ses, .ref sew, .ref sek, .int sesc, .int sewc, .int seht_2, .int sefi, .int semd])), (ses, .inl (cI, 12, .inl sesf)), (sek, .inl (cI, 12, .inl sekf_2)), (so, .inr (5, [.ref sos, .ref sow, .ref sok, .int sosc, .int sowc, .int soht_2, .int sofi, .int somd])), (sos, .inl (cI, 12, .inl sosf)), (sok, .inl (cI, 12, .inl sokf_2))] → va_S A s.heap H locs → lv_has ls 2 [(1, .int L1_2), (0, .ref x0)] → W p l e { frames := 2, cells := 0, slots := 0, locals := 51 } s m (List.toArray [.ref x0]) below meth c H locs 0 0 Q (F0 m 2 ls []) := by
    intro n
    induction n with
    | zero =>
      intro L1_2 inpf_2 seht_2 sekf_2 soht_2 sokf_2 hi0_2 hi1_2 hi2_2 hm
      exact absurd hm (by omega)
    | succ n ih2 =>
      intro L1_2 inpf_2 seht_2 sekf_2 soht_2 sokf_2 hi0_2 hi1_2 hi2_2 hm2 H locs ls hP hD hS hl
      refine lv_iload_n hx hb dX8_firstUnlikeInput_2 rfl (lv_at hl 0 rfl) ?_
      refine lv_sipush (v := 625) hx hb dX8_firstUnlikeInput_3 (by decide) ?_
      refine lv_icmp_ge (tgt := 74) hx hb dX8_firstUnlikeInput_6 (by decide) (fun c1 => ?_) (fun c1 => ?_)
      · have c1' := I_le c1
        refine lv_iconst (v := (-1)) hx hb dX8_firstUnlikeInput_74 (by decide) ?_
        exact hret (-1) (inpf_2, seht_2, sekf_2, soht_2, sokf_2) H locs 75 ls rfl ⟨(show 0 ≤ seht_2.toInt ∧ seht_2.toInt ≤ 12 ∨ seht_2.toInt = seht.toInt from by first | rfl | assumption | omega), (show 0 ≤ soht_2.toInt ∧ soht_2.toInt ≤ 12 ∨ soht_2.toInt = soht.toInt from by first | rfl | assumption | omega), trivial⟩ hP hD hS dX8_firstUnlikeInput_75
      · have c1' := I_nle c1
        refine lv_aload_n hx hb dX8_firstUnlikeInput_9 rfl (lv_at hl 1 rfl) ?_
        refine lv_iload_n hx hb dX8_firstUnlikeInput_10 rfl (lv_at hl 0 rfl) ?_
        refine lv_bipush (v := 125) hx hb dX8_firstUnlikeInput_11 (by decide) ?_
        refine lv_idiv hx hb dX8_firstUnlikeInput_13 (by decide) ?_
        refine lv_topi (fun v2 ev2 => ?_)
        have hv2 := I_idiv L1_2 (125 : Int32) 125 (by decide) (by decide)
        rw [← ev2] at hv2
        try replace hv2 := hv2 (by omega)
        refine lv_iconst (v := 2) hx hb dX8_firstUnlikeInput_14 (by decide) ?_
        refine lv_isub hx hb dX8_firstUnlikeInput_15 ?_
        refine lv_topi (fun v3 ev3 => ?_)
        try have hv3 : v3.toInt = v2.toInt - (2 : Int32).toInt := I_subx ev3 (by omega)
        refine lv_iload_n hx hb dX8_firstUnlikeInput_16 rfl (lv_at hl 0 rfl) ?_
        refine lv_bipush (v := 25) hx hb dX8_firstUnlikeInput_17 (by decide) ?_
        refine lv_idiv hx hb dX8_firstUnlikeInput_19 (by decide) ?_
        refine lv_topi (fun v4 ev4 => ?_)
        have hv4 := I_idiv L1_2 (25 : Int32) 25 (by decide) (by decide)
        rw [← ev4] at hv4
        try replace hv4 := hv4 (by omega)
        refine lv_iconst (v := 5) hx hb dX8_firstUnlikeInput_20 (by decide) ?_
        refine lv_irem hx hb dX8_firstUnlikeInput_21 (by decide) ?_
        refine lv_topi (fun v5 ev5 => ?_)
        have hv5 := I_irem v4 (5 : Int32) 5 (by decide) (by decide)
        rw [← ev5] at hv5
        try replace hv5 := hv5 (by omega)
        refine lv_iconst (v := 2) hx hb dX8_firstUnlikeInput_22 (by decide) ?_
        refine lv_isub hx hb dX8_firstUnlikeInput_23 ?_
        refine lv_topi (fun v6 ev6 => ?_)
        try have hv6 : v6.toInt = v5.toInt - (2 : Int32).toInt := I_subx ev6 (by omega)
        refine lv_iload_n hx hb dX8_firstUnlikeInput_24 rfl (lv_at hl 0 rfl) ?_
        refine lv_iconst (v := 5) hx hb dX8_firstUnlikeInput_25 (by decide) ?_
        refine lv_idiv hx hb dX8_firstUnlikeInput_26 (by decide) ?_
        refine lv_topi (fun v7 ev7 => ?_)
        have hv7 := I_idiv L1_2 (5 : Int32) 5 (by decide) (by decide)
        rw [← ev7] at hv7
        try replace hv7 := hv7 (by omega)
        refine lv_iconst (v := 5) hx hb dX8_firstUnlikeInput_27 (by decide) ?_
        refine lv_irem hx hb dX8_firstUnlikeInput_28 (by decide) ?_
        refine lv_topi (fun v8 ev8 => ?_)
        have hv8 := I_irem v7 (5 : Int32) 5 (by decide) (by decide)
        rw [← ev8] at hv8
        try replace hv8 := hv8 (by omega)
        refine lv_iconst (v := 2) hx hb dX8_firstUnlikeInput_29 (by decide) ?_
        refine lv_isub hx hb dX8_firstUnlikeInput_30 ?_
        refine lv_topi (fun v9 ev9 => ?_)
        try have hv9 : v9.toInt = v8.toInt - (2 : Int32).toInt := I_subx ev9 (by omega)
        refine lv_iload_n hx hb dX8_firstUnlikeInput_31 rfl (lv_at hl 0 rfl) ?_
        refine lv_iconst (v := 5) hx hb dX8_firstUnlikeInput_32 (by decide) ?_
        refine lv_irem hx hb dX8_firstUnlikeInput_33 (by decide) ?_
        refine lv_topi (fun v10 ev10 => ?_)
        have hv10 := I_irem L1_2 (5 : Int32) 5 (by decide) (by decide)
        rw [← ev10] at hv10
        try replace hv10 := hv10 (by omega)
        refine lv_iconst (v := 2) hx hb dX8_firstUnlikeInput_34 (by decide) ?_
        refine lv_isub hx hb dX8_firstUnlikeInput_35 ?_
        refine lv_topi (fun v11 ev11 => ?_)
        try have hv11 : v11.toInt = v10.toInt - (2 : Int32).toInt := I_subx ev11 (by omega)
        refine calV (rest := []) (wr := [(se, .inr (5, [.ref ses, .ref sew, .ref sek, .int sesc, .int sewc, .int seht_2, .int sefi, .int semd])), (ses, .inl (cI, 12, .inl sesf)), (sek, .inl (cI, 12, .inl sekf_2)), (so, .inr (5, [.ref sos, .ref sow, .ref sok, .int sosc, .int sowc, .int soht_2, .int sofi, .int somd])), (sos, .inl (cI, 12, .inl sosf)), (sok, .inl (cI, 12, .inl sokf_2))]) hG (c_X8_setInputs l dC dI cI cJ base bB bO x0 pg sr inp se so j0 g q0 xr inpf_2 v3 v6 v9 v11 ) ml_X8_111 im_X8_setInputs se_X8_setInputs ini_X8 cd_X8_setInputs hd_X8_setInputs ⟨(Nat.le_of_ble_eq_true rfl), (Nat.le_of_ble_eq_true rfl)⟩ (Nat.le_of_ble_eq_true rfl) (Nat.le_of_ble_eq_true rfl) hP hD hS [0, 1] [2, 3, 4, 5, 6, 7] rfl rfl rfl rfl (by decide) 7 0 rfl rfl hl.1 rfl (Nat.le_of_ble_eq_true rfl) dX8_firstUnlikeInput_36 (fun u H locs hw12 hP hD hS => ?_)
        obtain ⟨inpf_13, rfl⟩ : ∃ z, z = u := ⟨_, rfl⟩
        have hP : va_P (dC, dI) vwCl [(se, .inr (5, [.ref ses, .ref sew, .ref sek, .int sesc, .int sewc, .int seht_2, .int sefi, .int semd])), (ses, .inl (cI, 12, .inl sesf)), (sek, .inl (cI, 12, .inl sekf_2)), (so, .inr (5, [.ref sos, .ref sow, .ref sok, .int sosc, .int sowc, .int soht_2, .int sofi, .int somd])), (sos, .inl (cI, 12, .inl sosf)), (sok, .inl (cI, 12, .inl sokf_2)), (x0, .inr (7, [.ref pg, .ref sr, .ref inp, .ref se, .ref so, .ref j0, .ref g, .ref q0, .int xr])), (inp, .inl (cI, 4, .inl inpf_13))] H := hP
        have hD : va_D A [(se, .inr (5, [.ref ses, .ref sew, .ref sek, .int sesc, .int sewc, .int seht_2, .int sefi, .int semd])), (ses, .inl (cI, 12, .inl sesf)), (sek, .inl (cI, 12, .inl sekf_2)), (so, .inr (5, [.ref sos, .ref sow, .ref sok, .int sosc, .int sowc, .int soht_2, .int sofi, .int somd])), (sos, .inl (cI, 12, .inl sosf)), (sok, .inl (cI, 12, .inl sokf_2)), (x0, .inr (7, [.ref pg, .ref sr, .ref inp, .ref se, .ref so, .ref j0, .ref g, .ref q0, .int xr])), (inp, .inl (cI, 4, .inl inpf_13))] := hD
        refine lv_aload_n hx hb dX8_firstUnlikeInput_39 rfl (lv_at hl 1 rfl) ?_
        refine va_get (D := (dC, dI)) (ci := 7) (v := .ref se) (C := RX8) (T := TX8) (N := 9) hx hb hts inG_X8 hown hK hP 6 rfl rfl 3 (by decide) (hts _ fl_X8_26) (fun _ h9 => h9) rfl dX8_firstUnlikeInput_40 ?_
        refine lv_aload_n hx hb dX8_firstUnlikeInput_43 rfl (lv_at hl 1 rfl) ?_
        refine va_get (D := (dC, dI)) (ci := 7) (v := .ref inp) (C := RX8) (T := TX8) (N := 9) hx hb hts inG_X8 hown hK hP 6 rfl rfl 2 (by decide) (hts _ fl_X8_19) (fun _ h9 => h9) rfl dX8_firstUnlikeInput_44 ?_
        refine lv_iconst (v := 0) hx hb dX8_firstUnlikeInput_47 (by decide) ?_
        refine calI (rest := []) (wr := [(so, .inr (5, [.ref sos, .ref sow, .ref sok, .int sosc, .int sowc, .int soht_2, .int sofi, .int somd])), (sos, .inl (cI, 12, .inl sosf)), (sok, .inl (cI, 12, .inl sokf_2)), (x0, .inr (7, [.ref pg, .ref sr, .ref inp, .ref se, .ref so, .ref j0, .ref g, .ref q0, .int xr]))]) hG (c_X6_work l dC dI cI cJ base bB bO se ses sew sek sesc sewc seht_2 sefi semd sesf sekf_2 inp inpf_13 0 (by first | assumption | omega) (by first | assumption | omega)) ml_X8_115 im_X6_work se_X6_work ini_X6 cd_X6_work hd_X6_work ⟨(Nat.le_of_ble_eq_true rfl), (Nat.le_of_ble_eq_true rfl)⟩ (Nat.le_of_ble_eq_true rfl) (Nat.le_of_ble_eq_true rfl) hP hD hS [0, 1, 2, 7] [3, 4, 5, 6] rfl rfl rfl rfl (by decide) 5 0 rfl rfl hl.1 rfl (Nat.le_of_ble_eq_true rfl) dX8_firstUnlikeInput_48 (fun r14 u H locs hw15 hP hD hS => ?_)
        obtain ⟨aht_16, akf_17⟩ := u
        have hw15 : (0 ≤ aht_16.toInt ∧ aht_16.toInt ≤ 12 ∨ aht_16.toInt = seht_2.toInt) ∧ True := hw15
        obtain ⟨hp18, -⟩ := hw15
        have hP : va_P (dC, dI) vwCl [(so, .inr (5, [.ref sos, .ref sow, .ref sok, .int sosc, .int sowc, .int soht_2, .int sofi, .int somd])), (sos, .inl (cI, 12, .inl sosf)), (sok, .inl (cI, 12, .inl sokf_2)), (x0, .inr (7, [.ref pg, .ref sr, .ref inp, .ref se, .ref so, .ref j0, .ref g, .ref q0, .int xr])), (se, .inr (5, [.ref ses, .ref sew, .ref sek, .int sesc, .int sewc, .int aht_16, .int sefi, .int semd])), (ses, .inl (cI, 12, .inl sesf)), (sek, .inl (cI, 12, .inl akf_17)), (inp, .inl (cI, 4, .inl inpf_13))] H := hP
        have hD : va_D A [(so, .inr (5, [.ref sos, .ref sow, .ref sok, .int sosc, .int sowc, .int soht_2, .int sofi, .int somd])), (sos, .inl (cI, 12, .inl sosf)), (sok, .inl (cI, 12, .inl sokf_2)), (x0, .inr (7, [.ref pg, .ref sr, .ref inp, .ref se, .ref so, .ref j0, .ref g, .ref q0, .int xr])), (se, .inr (5, [.ref ses, .ref sew, .ref sek, .int sesc, .int sewc, .int aht_16, .int sefi, .int semd])), (ses, .inl (cI, 12, .inl sesf)), (sek, .inl (cI, 12, .inl akf_17)), (inp, .inl (cI, 4, .inl inpf_13))] := hD
        refine lv_aload_n hx hb dX8_firstUnlikeInput_51 rfl (lv_at hl 1 rfl) ?_
        refine va_get (D := (dC, dI)) (ci := 7) (v := .ref so) (C := RX8) (T := TX8) (N := 9) hx hb hts inG_X8 hown hK hP 3 rfl rfl 4 (by decide) (hts _ fl_X8_30) (fun _ h9 => h9) rfl dX8_firstUnlikeInput_52 ?_
        refine lv_aload_n hx hb dX8_firstUnlikeInput_55 rfl (lv_at hl 1 rfl) ?_
        refine va_get (D := (dC, dI)) (ci := 7) (v := .ref inp) (C := RX8) (T := TX8) (N := 9) hx hb hts inG_X8 hown hK hP 3 rfl rfl 2 (by decide) (hts _ fl_X8_19) (fun _ h9 => h9) rfl dX8_firstUnlikeInput_56 ?_
        refine lv_iconst (v := 0) hx hb dX8_firstUnlikeInput_59 (by decide) ?_
        refine calI (rest := [.int r14]) (wr := [(x0, .inr (7, [.ref pg, .ref sr, .ref inp, .ref se, .ref so, .ref j0, .ref g, .ref q0, .int xr])), (se, .inr (5, [.ref ses, .ref sew, .ref sek, .int sesc, .int sewc, .int aht_16, .int sefi, .int semd])), (ses, .inl (cI, 12, .inl sesf)), (sek, .inl (cI, 12, .inl akf_17))]) hG (c_X6_work l dC dI cI cJ base bB bO so sos sow sok sosc sowc soht_2 sofi somd sosf sokf_2 inp inpf_13 0 (by first | assumption | omega) (by first | assumption | omega)) ml_X8_115 im_X6_work se_X6_work ini_X6 cd_X6_work hd_X6_work ⟨(Nat.le_of_ble_eq_true rfl), (Nat.le_of_ble_eq_true rfl)⟩ (Nat.le_of_ble_eq_true rfl) (Nat.le_of_ble_eq_true rfl) hP hD hS [0, 1, 2, 7] [3, 4, 5, 6] rfl rfl rfl rfl (by decide) 5 0 rfl rfl hl.1 rfl (Nat.le_of_ble_eq_true rfl) dX8_firstUnlikeInput_60 (fun r19 u H locs hw20 hP hD hS => ?_)
        obtain ⟨aht_21, akf_22⟩ := u
        have hw20 : (0 ≤ aht_21.toInt ∧ aht_21.toInt ≤ 12 ∨ aht_21.toInt = soht_2.toInt) ∧ True := hw20
        obtain ⟨hp23, -⟩ := hw20
        have hP : va_P (dC, dI) vwCl [(x0, .inr (7, [.ref pg, .ref sr, .ref inp, .ref se, .ref so, .ref j0, .ref g, .ref q0, .int xr])), (se, .inr (5, [.ref ses, .ref sew, .ref sek, .int sesc, .int sewc, .int aht_16, .int sefi, .int semd])), (ses, .inl (cI, 12, .inl sesf)), (sek, .inl (cI, 12, .inl akf_17)), (so, .inr (5, [.ref sos, .ref sow, .ref sok, .int sosc, .int sowc, .int aht_21, .int sofi, .int somd])), (sos, .inl (cI, 12, .inl sosf)), (sok, .inl (cI, 12, .inl akf_22)), (inp, .inl (cI, 4, .inl inpf_13))] H := hP
        have hD : va_D A [(x0, .inr (7, [.ref pg, .ref sr, .ref inp, .ref se, .ref so, .ref j0, .ref g, .ref q0, .int xr])), (se, .inr (5, [.ref ses, .ref sew, .ref sek, .int sesc, .int sewc, .int aht_16, .int sefi, .int semd])), (ses, .inl (cI, 12, .inl sesf)), (sek, .inl (cI, 12, .inl akf_17)), (so, .inr (5, [.ref sos, .ref sow, .ref sok, .int sosc, .int sowc, .int aht_21, .int sofi, .int somd])), (sos, .inl (cI, 12, .inl sosf)), (sok, .inl (cI, 12, .inl akf_22)), (inp, .inl (cI, 4, .inl inpf_13))] := hD
        refine lv_icmp_eq (tgt := 68) hx hb dX8_firstUnlikeInput_63 (by decide) (fun c24 => ?_) (fun c24 => ?_)
        · have c24' := I_eq c24
          obtain ⟨v25, ev25⟩ : ∃ y : Int32, y = L1_2 + 1 := ⟨_, rfl⟩
          try have hv25 : v25.toInt = L1_2.toInt + (1 : Int32).toInt := I_addx ev25 (by omega)
          refine lv_iinc (v := v25) (lv' := [(1, .int v25), (0, .ref x0)]) hx hb dX8_firstUnlikeInput_68 hl (k := 0) rfl (by rw [ev25]; rfl) (by decide) rfl (fun ls hl => ?_)
          refine lv_goto (tgt := 2) hx hb dX8_firstUnlikeInput_71 (by decide) ?_
          exact ih2 v25 inpf_13 aht_16 akf_17 aht_21 akf_22 (by first | assumption | omega) (by first | assumption | omega) (by first | assumption | omega) (by omega) H locs ls (hP.sub (ws' := [(x0, .inr (7, [.ref pg, .ref sr, .ref inp, .ref se, .ref so, .ref j0, .ref g, .ref q0, .int xr])), (inp, .inl (cI, 4, .inl inpf_13)), (se, .inr (5, [.ref ses, .ref sew, .ref sek, .int sesc, .int sewc, .int aht_16, .int sefi, .int semd])), (ses, .inl (cI, 12, .inl sesf)), (sek, .inl (cI, 12, .inl akf_17)), (so, .inr (5, [.ref sos, .ref sow, .ref sok, .int sosc, .int sowc, .int aht_21, .int sofi, .int somd])), (sos, .inl (cI, 12, .inl sosf)), (sok, .inl (cI, 12, .inl akf_22))]) [0, 7, 1, 2, 3, 4, 5, 6] rfl) (hD.sub (ws' := [(x0, .inr (7, [.ref pg, .ref sr, .ref inp, .ref se, .ref so, .ref j0, .ref g, .ref q0, .int xr])), (inp, .inl (cI, 4, .inl inpf_13)), (se, .inr (5, [.ref ses, .ref sew, .ref sek, .int sesc, .int sewc, .int aht_16, .int sefi, .int semd])), (ses, .inl (cI, 12, .inl sesf)), (sek, .inl (cI, 12, .inl akf_17)), (so, .inr (5, [.ref sos, .ref sow, .ref sok, .int sosc, .int sowc, .int aht_21, .int sofi, .int somd])), (sos, .inl (cI, 12, .inl sosf)), (sok, .inl (cI, 12, .inl akf_22))]) [0, 7, 1, 2, 3, 4, 5, 6] (by decide) rfl) hS hl
        · have c24' := I_ne c24
          refine lv_iload_n hx hb dX8_firstUnlikeInput_66 rfl (lv_at hl 0 rfl) ?_
          exact hret L1_2 (inpf_13, aht_16, akf_17, aht_21, akf_22) H locs 67 ls rfl ⟨(show 0 ≤ aht_16.toInt ∧ aht_16.toInt ≤ 12 ∨ aht_16.toInt = seht.toInt from by first | rfl | assumption | omega), (show 0 ≤ aht_21.toInt ∧ aht_21.toInt ≤ 12 ∨ aht_21.toInt = soht.toInt from by first | rfl | assumption | omega), trivial⟩ (hP.sub (ws' := [(x0, .inr (7, [.ref pg, .ref sr, .ref inp, .ref se, .ref so, .ref j0, .ref g, .ref q0, .int xr])), (inp, .inl (cI, 4, .inl inpf_13)), (se, .inr (5, [.ref ses, .ref sew, .ref sek, .int sesc, .int sewc, .int aht_16, .int sefi, .int semd])), (ses, .inl (cI, 12, .inl sesf)), (sek, .inl (cI, 12, .inl akf_17)), (so, .inr (5, [.ref sos, .ref sow, .ref sok, .int sosc, .int sowc, .int aht_21, .int sofi, .int somd])), (sos, .inl (cI, 12, .inl sosf)), (sok, .inl (cI, 12, .inl akf_22))]) [0, 7, 1, 2, 3, 4, 5, 6] rfl) (hD.sub (ws' := [(x0, .inr (7, [.ref pg, .ref sr, .ref inp, .ref se, .ref so, .ref j0, .ref g, .ref q0, .int xr])), (inp, .inl (cI, 4, .inl inpf_13)), (se, .inr (5, [.ref ses, .ref sew, .ref sek, .int sesc, .int sewc, .int aht_16, .int sefi, .int semd])), (ses, .inl (cI, 12, .inl sesf)), (sek, .inl (cI, 12, .inl akf_17)), (so, .inr (5, [.ref sos, .ref sow, .ref sok, .int sosc, .int sowc, .int aht_21, .int sofi, .int somd])), (sos, .inl (cI, 12, .inl sosf)), (sok, .inl (cI, 12, .inl akf_22))]) [0, 7, 1, 2, 3, 4, 5, 6] (by decide) rfl) hS dX8_firstUnlikeInput_67
  exact J2 ((625 - (0 : Int32).toInt).toNat + 1) 0 inpf seht sekf soht sokf (by first | assumption | omega) (by first | assumption | omega) (by first | assumption | omega) (by omega) H locs ls hP hD hS hl
set_option maxHeartbeats 4000000 in
set_option maxRecDepth 100000 in
theorem c_X8_habit (l : Launch) (dC : Nat → ClassId) (dI : Nat → Nat → Nat) (cI cJ : ClassId) (base bB bO : Nat) (x0 : Nat) (pg : Nat) (sr : Nat) (inp : Nat) (se : Nat) (so : Nat) (j0 : Nat) (g : Nat) (q0 : Nat) (xr : Int32) (gh : Nat) (gr : Nat) (gl : Nat) (gk : Nat) (gd : Nat) (gm : Nat) (gsz : Int32) (gcn : Int32) (gov : Int32) (gha : Nat) (ghb : Nat) (ghaf : Nat → Int32) (ghbf : Nat → Int32) (x : Int32) (y : Int32)  : CtI l dC dI cI cJ base bB bO yX8_habit cX8_habit 3 .int 2 41 [.ref x0, .int x, .int y] [(x0, .inr (7, [.ref pg, .ref sr, .ref inp, .ref se, .ref so, .ref j0, .ref g, .ref q0, .int xr])), (g, .inr (2, [.ref gh, .ref gr, .ref gl, .ref gk, .ref gd, .ref gm, .int gsz, .int gcn, .int gov])), (gh, .inr (0, [.ref gha, .ref ghb])), (gha, .inl (cI, 28, .inl ghaf)), (ghb, .inl (cI, 28, .inl ghbf))] (Unit) (fun (res : Int32) (u : Unit) => True) (fun (u : Unit) => [(x0, .inr (7, [.ref pg, .ref sr, .ref inp, .ref se, .ref so, .ref j0, .ref g, .ref q0, .int xr])), (g, .inr (2, [.ref gh, .ref gr, .ref gl, .ref gk, .ref gd, .ref gm, .int gsz, .int gcn, .int gov])), (gh, .inr (0, [.ref gha, .ref ghb])), (gha, .inl (cI, 28, .inl ghaf)), (ghb, .inl (cI, 28, .inl ghbf))]) := by
  refine entI (by decide) (Nat.le_of_ble_eq_true rfl) ?_
  intro p e s m below meth c A Q ls hAt hret hP hD hS hl
  obtain ⟨hx, hb, hml, hown, hts, hA, hAb, hK, hE, hlocks, hin⟩ := hAt
  have hG : CG dC dI cI cJ base bB bO cX8_habit 3 RX8 p s m (List.toArray [.ref x0, .int x, .int y]) c A := ⟨hx, hb, hml, hown, hts, hA, hAb, hK, hE⟩
  have hl : lv_has ls 3 [(0, .ref x0), (1, .int x), (2, .int y)] := hl
  have c_m1 : (-1 : Int32).toInt = -1 := by decide
  have c_0 : (0 : Int32).toInt = 0 := by decide
  have c_1 : (1 : Int32).toInt = 1 := by decide
  obtain ⟨H, hHe⟩ : ∃ H : Heap, H = s.heap := ⟨_, rfl⟩
  obtain ⟨locs, hle⟩ : ∃ z : List Loc, z = [] := ⟨_, rfl⟩
  rw [← hHe] at hP
  have hS : va_S A s.heap H locs := by rw [hHe, hle]; exact hS
  suffices hgo : W p l e { frames := 2, cells := 0, slots := 0, locals := 41 } s m (List.toArray [.ref x0, .int x, .int y]) below meth c H locs 0 0 Q (F0 m 0 ls []) by rw [hHe, hle] at hgo; exact hgo
  refine lv_iload_n hx hb dX8_habit_0 rfl (lv_at hl 1 rfl) ?_
  refine calOI (rest := []) (wr := [(x0, .inr (7, [.ref pg, .ref sr, .ref inp, .ref se, .ref so, .ref j0, .ref g, .ref q0, .int xr])), (g, .inr (2, [.ref gh, .ref gr, .ref gl, .ref gk, .ref gd, .ref gm, .int gsz, .int gcn, .int gov])), (gh, .inr (0, [.ref gha, .ref ghb])), (gha, .inl (cI, 28, .inl ghaf)), (ghb, .inl (cI, 28, .inl ghbf))]) hG (c_X8_isToken l dC dI cI cJ base bB bO x ) ml_X8_58 st_X8_isToken ini_X8 cd_X8_isToken hd_X8_isToken.2 ⟨(Nat.le_of_ble_eq_true rfl), (Nat.le_of_ble_eq_true rfl)⟩ (Nat.le_of_ble_eq_true rfl) (Nat.le_of_ble_eq_true rfl) hP hD hS [] [0, 1, 2, 3, 4] rfl rfl rfl rfl (by decide) hl.1 rfl (Nat.le_of_ble_eq_true rfl) dX8_habit_1 (fun r1 u H locs hw2 hP hD hS => ?_)
  have hw2 : ((r1.toInt = 1 ∧ 0 ≤ x.toInt ∧ x.toInt ≤ 27) ∨ (r1.toInt = 0 ∧ (x.toInt < 0 ∨ 27 < x.toInt))) ∧ True := hw2
  obtain ⟨hp3, -⟩ := hw2
  have hP : va_P (dC, dI) vwCl [(x0, .inr (7, [.ref pg, .ref sr, .ref inp, .ref se, .ref so, .ref j0, .ref g, .ref q0, .int xr])), (g, .inr (2, [.ref gh, .ref gr, .ref gl, .ref gk, .ref gd, .ref gm, .int gsz, .int gcn, .int gov])), (gh, .inr (0, [.ref gha, .ref ghb])), (gha, .inl (cI, 28, .inl ghaf)), (ghb, .inl (cI, 28, .inl ghbf))] H := hP
  have hD : va_D A [(x0, .inr (7, [.ref pg, .ref sr, .ref inp, .ref se, .ref so, .ref j0, .ref g, .ref q0, .int xr])), (g, .inr (2, [.ref gh, .ref gr, .ref gl, .ref gk, .ref gd, .ref gm, .int gsz, .int gcn, .int gov])), (gh, .inr (0, [.ref gha, .ref ghb])), (gha, .inl (cI, 28, .inl ghaf)), (ghb, .inl (cI, 28, .inl ghbf))] := hD
  refine lv_if_ne (tgt := 9) hx hb dX8_habit_4 (by decide) (fun c4 => ?_) (fun c4 => ?_)
  · have c4' := I_ne c4
    refine lv_iload_n hx hb dX8_habit_9 rfl (lv_at hl 2 rfl) ?_
    rcases (by omega : y.toInt = 0 ∨ y.toInt = 1 ∨ (¬ y.toInt = 0 ∧ ¬ y.toInt = 1)) with c5 | c5 | c5
    · refine lv_lookup (off := 26) (tgt := 36) hx hb dX8_habit_10 (by decide) (by rw [c5]; rfl) (by decide) ?_
      refine lv_aload_n hx hb dX8_habit_36 rfl (lv_at hl 0 rfl) ?_
      refine va_get (D := (dC, dI)) (ci := 7) (v := .ref g) (C := RX8) (T := TX8) (N := 9) hx hb hts inG_X8 hown hK hP 0 rfl rfl 6 (by decide) (hts _ fl_X8_43) (fun _ h9 => h9) rfl dX8_habit_37 ?_
      refine va_get (D := (dC, dI)) (ci := 2) (v := .ref gh) (C := RX2) (T := TX2) (N := 9) hx hb hts inG_X2 hown hK hP 1 rfl rfl 0 (by decide) (hts _ fl_X8_192) (fun _ h9 => h9) rfl dX8_habit_40 ?_
      refine lv_iload_n hx hb dX8_habit_43 rfl (lv_at hl 1 rfl) ?_
      refine calI (rest := []) (wr := [(x0, .inr (7, [.ref pg, .ref sr, .ref inp, .ref se, .ref so, .ref j0, .ref g, .ref q0, .int xr])), (g, .inr (2, [.ref gh, .ref gr, .ref gl, .ref gk, .ref gd, .ref gm, .int gsz, .int gcn, .int gov]))]) hG (c_X0_gainedOf l dC dI cI cJ base bB bO gh gha ghb ghaf ghbf x ) ml_X8_196 im_X0_gainedOf se_X0_gainedOf ini_X0 cd_X0_gainedOf hd_X0_gainedOf ⟨(Nat.le_of_ble_eq_true rfl), (Nat.le_of_ble_eq_true rfl)⟩ (Nat.le_of_ble_eq_true rfl) (Nat.le_of_ble_eq_true rfl) hP hD hS [2, 3, 4] [0, 1] rfl rfl rfl rfl (by decide) 0 2 rfl rfl hl.1 rfl (Nat.le_of_ble_eq_true rfl) dX8_habit_44 (fun r6 u H locs hw7 hP hD hS => ?_)
      have hP : va_P (dC, dI) vwCl [(x0, .inr (7, [.ref pg, .ref sr, .ref inp, .ref se, .ref so, .ref j0, .ref g, .ref q0, .int xr])), (g, .inr (2, [.ref gh, .ref gr, .ref gl, .ref gk, .ref gd, .ref gm, .int gsz, .int gcn, .int gov])), (gh, .inr (0, [.ref gha, .ref ghb])), (gha, .inl (cI, 28, .inl ghaf)), (ghb, .inl (cI, 28, .inl ghbf))] H := hP
      have hD : va_D A [(x0, .inr (7, [.ref pg, .ref sr, .ref inp, .ref se, .ref so, .ref j0, .ref g, .ref q0, .int xr])), (g, .inr (2, [.ref gh, .ref gr, .ref gl, .ref gk, .ref gd, .ref gm, .int gsz, .int gcn, .int gov])), (gh, .inr (0, [.ref gha, .ref ghb])), (gha, .inl (cI, 28, .inl ghaf)), (ghb, .inl (cI, 28, .inl ghbf))] := hD
      exact hret r6 () H locs 47 ls rfl trivial hP hD hS dX8_habit_47
    · refine lv_lookup (off := 38) (tgt := 48) hx hb dX8_habit_10 (by decide) (by rw [c5]; rfl) (by decide) ?_
      refine lv_aload_n hx hb dX8_habit_48 rfl (lv_at hl 0 rfl) ?_
      refine va_get (D := (dC, dI)) (ci := 7) (v := .ref g) (C := RX8) (T := TX8) (N := 9) hx hb hts inG_X8 hown hK hP 0 rfl rfl 6 (by decide) (hts _ fl_X8_43) (fun _ h9 => h9) rfl dX8_habit_49 ?_
      refine va_get (D := (dC, dI)) (ci := 2) (v := .ref gh) (C := RX2) (T := TX2) (N := 9) hx hb hts inG_X2 hown hK hP 1 rfl rfl 0 (by decide) (hts _ fl_X8_192) (fun _ h9 => h9) rfl dX8_habit_52 ?_
      refine lv_iload_n hx hb dX8_habit_55 rfl (lv_at hl 1 rfl) ?_
      refine calI (rest := []) (wr := [(x0, .inr (7, [.ref pg, .ref sr, .ref inp, .ref se, .ref so, .ref j0, .ref g, .ref q0, .int xr])), (g, .inr (2, [.ref gh, .ref gr, .ref gl, .ref gk, .ref gd, .ref gm, .int gsz, .int gcn, .int gov]))]) hG (c_X0_lostOf l dC dI cI cJ base bB bO gh gha ghb ghaf ghbf x ) ml_X8_201 im_X0_lostOf se_X0_lostOf ini_X0 cd_X0_lostOf hd_X0_lostOf ⟨(Nat.le_of_ble_eq_true rfl), (Nat.le_of_ble_eq_true rfl)⟩ (Nat.le_of_ble_eq_true rfl) (Nat.le_of_ble_eq_true rfl) hP hD hS [2, 3, 4] [0, 1] rfl rfl rfl rfl (by decide) 0 2 rfl rfl hl.1 rfl (Nat.le_of_ble_eq_true rfl) dX8_habit_56 (fun r8 u H locs hw9 hP hD hS => ?_)
      have hP : va_P (dC, dI) vwCl [(x0, .inr (7, [.ref pg, .ref sr, .ref inp, .ref se, .ref so, .ref j0, .ref g, .ref q0, .int xr])), (g, .inr (2, [.ref gh, .ref gr, .ref gl, .ref gk, .ref gd, .ref gm, .int gsz, .int gcn, .int gov])), (gh, .inr (0, [.ref gha, .ref ghb])), (gha, .inl (cI, 28, .inl ghaf)), (ghb, .inl (cI, 28, .inl ghbf))] H := hP
      have hD : va_D A [(x0, .inr (7, [.ref pg, .ref sr, .ref inp, .ref se, .ref so, .ref j0, .ref g, .ref q0, .int xr])), (g, .inr (2, [.ref gh, .ref gr, .ref gl, .ref gk, .ref gd, .ref gm, .int gsz, .int gcn, .int gov])), (gh, .inr (0, [.ref gha, .ref ghb])), (gha, .inl (cI, 28, .inl ghaf)), (ghb, .inl (cI, 28, .inl ghbf))] := hD
      exact hret r8 () H locs 59 ls rfl trivial hP hD hS dX8_habit_59
    · refine lv_lookup (off := 50) (tgt := 60) hx hb dX8_habit_10 (by decide) (by simp only [Op.lookupswitch.offset_cons, Op.lookupswitch.offset_nil]; rw [if_neg (by omega), if_neg (by omega)]) (by decide) ?_
      refine lv_iconst (v := (-1)) hx hb dX8_habit_60 (by decide) ?_
      exact hret (-1) () H locs 61 ls rfl trivial hP hD hS dX8_habit_61
  · have c4' := I_eq c4
    refine lv_iconst (v := (-1)) hx hb dX8_habit_7 (by decide) ?_
    exact hret (-1) () H locs 8 ls rfl trivial hP hD hS dX8_habit_8
set_option maxHeartbeats 4000000 in
set_option maxRecDepth 100000 in
theorem c_X8_forget (l : Launch) (dC : Nat → ClassId) (dI : Nat → Nat → Nat) (cI cJ : ClassId) (base bB bO : Nat) (x0 : Nat) (pg : Nat) (sr : Nat) (inp : Nat) (se : Nat) (so : Nat) (j0 : Nat) (g : Nat) (q0 : Nat) (xr : Int32) (gh : Nat) (gr : Nat) (gl : Nat) (gk : Nat) (gd : Nat) (gm : Nat) (gsz : Int32) (gcn : Int32) (gov : Int32) (gha : Nat) (ghb : Nat) (ghaf : Nat → Int32) (ghbf : Nat → Int32)  : CtI l dC dI cI cJ base bB bO yX8_forget cX8_forget 1 .int 1 21 [.ref x0] [(x0, .inr (7, [.ref pg, .ref sr, .ref inp, .ref se, .ref so, .ref j0, .ref g, .ref q0, .int xr])), (g, .inr (2, [.ref gh, .ref gr, .ref gl, .ref gk, .ref gd, .ref gm, .int gsz, .int gcn, .int gov])), (gh, .inr (0, [.ref gha, .ref ghb])), (gha, .inl (cI, 28, .inl ghaf)), (ghb, .inl (cI, 28, .inl ghbf))] ((Nat → Int32) × (Nat → Int32)) (fun (res : Int32) (u : (Nat → Int32) × (Nat → Int32)) => (res.toInt = 0) ∧ True) (fun (u : (Nat → Int32) × (Nat → Int32)) => [(x0, .inr (7, [.ref pg, .ref sr, .ref inp, .ref se, .ref so, .ref j0, .ref g, .ref q0, .int xr])), (g, .inr (2, [.ref gh, .ref gr, .ref gl, .ref gk, .ref gd, .ref gm, .int gsz, .int gcn, .int gov])), (gh, .inr (0, [.ref gha, .ref ghb])), (gha, .inl (cI, 28, .inl u.1)), (ghb, .inl (cI, 28, .inl u.2))]) := by
  refine entI (by decide) (Nat.le_of_ble_eq_true rfl) ?_
  intro p e s m below meth c A Q ls hAt hret hP hD hS hl
  obtain ⟨hx, hb, hml, hown, hts, hA, hAb, hK, hE, hlocks, hin⟩ := hAt
  have hG : CG dC dI cI cJ base bB bO cX8_forget 1 RX8 p s m (List.toArray [.ref x0]) c A := ⟨hx, hb, hml, hown, hts, hA, hAb, hK, hE⟩
  have hl : lv_has ls 1 [(0, .ref x0)] := hl
  have c_0 : (0 : Int32).toInt = 0 := by decide
  have c_1 : (1 : Int32).toInt = 1 := by decide
  obtain ⟨H, hHe⟩ : ∃ H : Heap, H = s.heap := ⟨_, rfl⟩
  obtain ⟨locs, hle⟩ : ∃ z : List Loc, z = [] := ⟨_, rfl⟩
  rw [← hHe] at hP
  have hS : va_S A s.heap H locs := by rw [hHe, hle]; exact hS
  suffices hgo : W p l e { frames := 1, cells := 0, slots := 0, locals := 21 } s m (List.toArray [.ref x0]) below meth c H locs 0 0 Q (F0 m 0 ls []) by rw [hHe, hle] at hgo; exact hgo
  refine lv_aload_n hx hb dX8_forget_0 rfl (lv_at hl 0 rfl) ?_
  refine va_get (D := (dC, dI)) (ci := 7) (v := .ref g) (C := RX8) (T := TX8) (N := 9) hx hb hts inG_X8 hown hK hP 0 rfl rfl 6 (by decide) (hts _ fl_X8_43) (fun _ h9 => h9) rfl dX8_forget_1 ?_
  refine va_get (D := (dC, dI)) (ci := 2) (v := .ref gh) (C := RX2) (T := TX2) (N := 9) hx hb hts inG_X2 hown hK hP 1 rfl rfl 0 (by decide) (hts _ fl_X8_192) (fun _ h9 => h9) rfl dX8_forget_4 ?_
  refine calV (rest := []) (wr := [(x0, .inr (7, [.ref pg, .ref sr, .ref inp, .ref se, .ref so, .ref j0, .ref g, .ref q0, .int xr])), (g, .inr (2, [.ref gh, .ref gr, .ref gl, .ref gk, .ref gd, .ref gm, .int gsz, .int gcn, .int gov]))]) hG (c_X0_forgetAll l dC dI cI cJ base bB bO gh gha ghb ghaf ghbf ) ml_X8_204 im_X0_forgetAll se_X0_forgetAll ini_X0 cd_X0_forgetAll hd_X0_forgetAll ⟨(Nat.le_of_ble_eq_true rfl), (Nat.le_of_ble_eq_true rfl)⟩ (Nat.le_of_ble_eq_true rfl) (Nat.le_of_ble_eq_true rfl) hP hD hS [2, 3, 4] [0, 1] rfl rfl rfl rfl (by decide) 0 2 rfl rfl hl.1 rfl (Nat.le_of_ble_eq_true rfl) dX8_forget_7 (fun u H locs hw1 hP hD hS => ?_)
  obtain ⟨oaf_2, obf_3⟩ := u
  have hP : va_P (dC, dI) vwCl [(x0, .inr (7, [.ref pg, .ref sr, .ref inp, .ref se, .ref so, .ref j0, .ref g, .ref q0, .int xr])), (g, .inr (2, [.ref gh, .ref gr, .ref gl, .ref gk, .ref gd, .ref gm, .int gsz, .int gcn, .int gov])), (gh, .inr (0, [.ref gha, .ref ghb])), (gha, .inl (cI, 28, .inl oaf_2)), (ghb, .inl (cI, 28, .inl obf_3))] H := hP
  have hD : va_D A [(x0, .inr (7, [.ref pg, .ref sr, .ref inp, .ref se, .ref so, .ref j0, .ref g, .ref q0, .int xr])), (g, .inr (2, [.ref gh, .ref gr, .ref gl, .ref gk, .ref gd, .ref gm, .int gsz, .int gcn, .int gov])), (gh, .inr (0, [.ref gha, .ref ghb])), (gha, .inl (cI, 28, .inl oaf_2)), (ghb, .inl (cI, 28, .inl obf_3))] := hD
  refine lv_iconst (v := 0) hx hb dX8_forget_10 (by decide) ?_
  exact hret 0 (oaf_2, obf_3) H locs 11 ls rfl ⟨(show (0 : Int32).toInt = 0 from by first | rfl | assumption | omega), trivial⟩ hP hD hS dX8_forget_11
set_option maxHeartbeats 4000000 in
set_option maxRecDepth 100000 in
theorem c_X8_count (l : Launch) (dC : Nat → ClassId) (dI : Nat → Nat → Nat) (cI cJ : ClassId) (base bB bO : Nat) (x0 : Nat) (pg : Nat) (sr : Nat) (inp : Nat) (se : Nat) (so : Nat) (j0 : Nat) (g : Nat) (q0 : Nat) (xr : Int32) (pgt : Nat) (pgsz : Int32) (pgf : Nat → Int32) (jk : Nat) (z : Nat) (a : Nat) (jg : Int32) (jw : Int32) (zc : Nat) (zs : Int32) (zcf : Nat → Int32) (gh : Nat) (gr : Nat) (gl : Nat) (gk : Nat) (gd : Nat) (gm : Nat) (gsz : Int32) (gcn : Int32) (gov : Int32) (x : Int32)  : CtI l dC dI cI cJ base bB bO yX8_count cX8_count 2 .int 1 20 [.ref x0, .int x] [(x0, .inr (7, [.ref pg, .ref sr, .ref inp, .ref se, .ref so, .ref j0, .ref g, .ref q0, .int xr])), (pg, .inr (3, [.ref pgt, .int pgsz])), (pgt, .inl (cI, 12, .inl pgf)), (j0, .inr (1, [.ref jk, .ref z, .ref a, .int jg, .int jw])), (z, .inr (6, [.ref zc, .int zs])), (zc, .inl (cI, 40, .inl zcf)), (g, .inr (2, [.ref gh, .ref gr, .ref gl, .ref gk, .ref gd, .ref gm, .int gsz, .int gcn, .int gov]))] (Unit) (fun (res : Int32) (u : Unit) => True) (fun (u : Unit) => [(x0, .inr (7, [.ref pg, .ref sr, .ref inp, .ref se, .ref so, .ref j0, .ref g, .ref q0, .int xr])), (pg, .inr (3, [.ref pgt, .int pgsz])), (pgt, .inl (cI, 12, .inl pgf)), (j0, .inr (1, [.ref jk, .ref z, .ref a, .int jg, .int jw])), (z, .inr (6, [.ref zc, .int zs])), (zc, .inl (cI, 40, .inl zcf)), (g, .inr (2, [.ref gh, .ref gr, .ref gl, .ref gk, .ref gd, .ref gm, .int gsz, .int gcn, .int gov]))]) := by
  refine entI (by decide) (Nat.le_of_ble_eq_true rfl) ?_
  intro p e s m below meth c A Q ls hAt hret hP hD hS hl
  obtain ⟨hx, hb, hml, hown, hts, hA, hAb, hK, hE, hlocks, hin⟩ := hAt
  have hG : CG dC dI cI cJ base bB bO cX8_count 2 RX8 p s m (List.toArray [.ref x0, .int x]) c A := ⟨hx, hb, hml, hown, hts, hA, hAb, hK, hE⟩
  have hl : lv_has ls 2 [(0, .ref x0), (1, .int x)] := hl
  have c_m1 : (-1 : Int32).toInt = -1 := by decide
  have c_0 : (0 : Int32).toInt = 0 := by decide
  have c_1 : (1 : Int32).toInt = 1 := by decide
  obtain ⟨H, hHe⟩ : ∃ H : Heap, H = s.heap := ⟨_, rfl⟩
  obtain ⟨locs, hle⟩ : ∃ z : List Loc, z = [] := ⟨_, rfl⟩
  rw [← hHe] at hP
  have hS : va_S A s.heap H locs := by rw [hHe, hle]; exact hS
  suffices hgo : W p l e { frames := 1, cells := 0, slots := 0, locals := 20 } s m (List.toArray [.ref x0, .int x]) below meth c H locs 0 0 Q (F0 m 0 ls []) by rw [hHe, hle] at hgo; exact hgo
  refine lv_iload_n hx hb dX8_count_0 rfl (lv_at hl 1 rfl) ?_
  rcases (by omega : x.toInt = 0 ∨ x.toInt = 1 ∨ x.toInt = 2 ∨ (x.toInt < 0 ∨ 2 < x.toInt)) with c1 | c1 | c1 | c1
  · refine lv_tableIn (off := 27) (tgt := 28) hx hb dX8_count_1 (by omega) (by omega) (by rw [c1]; rfl) (by decide) ?_
    refine lv_aload_n hx hb dX8_count_28 rfl (lv_at hl 0 rfl) ?_
    refine va_get (D := (dC, dI)) (ci := 7) (v := .ref pg) (C := RX8) (T := TX8) (N := 9) hx hb hts inG_X8 hown hK hP 0 rfl rfl 0 (by decide) (hts _ fl_X8_10) (fun _ h9 => h9) rfl dX8_count_29 ?_
    refine calI (rest := []) (wr := [(x0, .inr (7, [.ref pg, .ref sr, .ref inp, .ref se, .ref so, .ref j0, .ref g, .ref q0, .int xr])), (j0, .inr (1, [.ref jk, .ref z, .ref a, .int jg, .int jw])), (z, .inr (6, [.ref zc, .int zs])), (zc, .inl (cI, 40, .inl zcf)), (g, .inr (2, [.ref gh, .ref gr, .ref gl, .ref gk, .ref gd, .ref gm, .int gsz, .int gcn, .int gov]))]) hG (c_X4_size l dC dI cI cJ base bB bO pg pgt pgsz pgf ) ml_X8_66 im_X4_size se_X4_size ini_X4 cd_X4_size hd_X4_size ⟨(Nat.le_of_ble_eq_true rfl), (Nat.le_of_ble_eq_true rfl)⟩ (Nat.le_of_ble_eq_true rfl) (Nat.le_of_ble_eq_true rfl) hP hD hS [1, 2] [0, 3, 4, 5, 6] rfl rfl rfl rfl (by decide) 3 1 rfl rfl hl.1 rfl (Nat.le_of_ble_eq_true rfl) dX8_count_32 (fun r2 u H locs hw3 hP hD hS => ?_)
    have hw3 : (r2 = pgsz) ∧ True := hw3
    obtain ⟨hp4, -⟩ := hw3
    have hp4t := I_eq hp4
    have hP : va_P (dC, dI) vwCl [(x0, .inr (7, [.ref pg, .ref sr, .ref inp, .ref se, .ref so, .ref j0, .ref g, .ref q0, .int xr])), (j0, .inr (1, [.ref jk, .ref z, .ref a, .int jg, .int jw])), (z, .inr (6, [.ref zc, .int zs])), (zc, .inl (cI, 40, .inl zcf)), (g, .inr (2, [.ref gh, .ref gr, .ref gl, .ref gk, .ref gd, .ref gm, .int gsz, .int gcn, .int gov])), (pg, .inr (3, [.ref pgt, .int pgsz])), (pgt, .inl (cI, 12, .inl pgf))] H := hP
    have hD : va_D A [(x0, .inr (7, [.ref pg, .ref sr, .ref inp, .ref se, .ref so, .ref j0, .ref g, .ref q0, .int xr])), (j0, .inr (1, [.ref jk, .ref z, .ref a, .int jg, .int jw])), (z, .inr (6, [.ref zc, .int zs])), (zc, .inl (cI, 40, .inl zcf)), (g, .inr (2, [.ref gh, .ref gr, .ref gl, .ref gk, .ref gd, .ref gm, .int gsz, .int gcn, .int gov])), (pg, .inr (3, [.ref pgt, .int pgsz])), (pgt, .inl (cI, 12, .inl pgf))] := hD
    exact hret r2 () H locs 35 ls rfl trivial (hP.sub (ws' := [(x0, .inr (7, [.ref pg, .ref sr, .ref inp, .ref se, .ref so, .ref j0, .ref g, .ref q0, .int xr])), (pg, .inr (3, [.ref pgt, .int pgsz])), (pgt, .inl (cI, 12, .inl pgf)), (j0, .inr (1, [.ref jk, .ref z, .ref a, .int jg, .int jw])), (z, .inr (6, [.ref zc, .int zs])), (zc, .inl (cI, 40, .inl zcf)), (g, .inr (2, [.ref gh, .ref gr, .ref gl, .ref gk, .ref gd, .ref gm, .int gsz, .int gcn, .int gov]))]) [0, 5, 6, 1, 2, 3, 4] rfl) (hD.sub (ws' := [(x0, .inr (7, [.ref pg, .ref sr, .ref inp, .ref se, .ref so, .ref j0, .ref g, .ref q0, .int xr])), (pg, .inr (3, [.ref pgt, .int pgsz])), (pgt, .inl (cI, 12, .inl pgf)), (j0, .inr (1, [.ref jk, .ref z, .ref a, .int jg, .int jw])), (z, .inr (6, [.ref zc, .int zs])), (zc, .inl (cI, 40, .inl zcf)), (g, .inr (2, [.ref gh, .ref gr, .ref gl, .ref gk, .ref gd, .ref gm, .int gsz, .int gcn, .int gov]))]) [0, 5, 6, 1, 2, 3, 4] (by decide) rfl) hS dX8_count_35
  · refine lv_tableIn (off := 35) (tgt := 36) hx hb dX8_count_1 (by omega) (by omega) (by rw [c1]; rfl) (by decide) ?_
    refine lv_aload_n hx hb dX8_count_36 rfl (lv_at hl 0 rfl) ?_
    refine va_get (D := (dC, dI)) (ci := 7) (v := .ref j0) (C := RX8) (T := TX8) (N := 9) hx hb hts inG_X8 hown hK hP 0 rfl rfl 5 (by decide) (hts _ fl_X8_36) (fun _ h9 => h9) rfl dX8_count_37 ?_
    refine va_get (D := (dC, dI)) (ci := 1) (v := .ref z) (C := RX1) (T := TX1) (N := 5) hx hb hts inG_X1 hown hK hP 3 rfl rfl 1 (by decide) (hts _ fl_X8_126) (fun _ h9 => h9) rfl dX8_count_40 ?_
    refine calI (rest := []) (wr := [(x0, .inr (7, [.ref pg, .ref sr, .ref inp, .ref se, .ref so, .ref j0, .ref g, .ref q0, .int xr])), (pg, .inr (3, [.ref pgt, .int pgsz])), (pgt, .inl (cI, 12, .inl pgf)), (j0, .inr (1, [.ref jk, .ref z, .ref a, .int jg, .int jw])), (g, .inr (2, [.ref gh, .ref gr, .ref gl, .ref gk, .ref gd, .ref gm, .int gsz, .int gcn, .int gov]))]) hG (c_X7_size l dC dI cI cJ base bB bO z zc zs zcf ) ml_X8_130 im_X7_size se_X7_size ini_X7 cd_X7_size hd_X7_size ⟨(Nat.le_of_ble_eq_true rfl), (Nat.le_of_ble_eq_true rfl)⟩ (Nat.le_of_ble_eq_true rfl) (Nat.le_of_ble_eq_true rfl) hP hD hS [4, 5] [0, 1, 2, 3, 6] rfl rfl rfl rfl (by decide) 6 4 rfl rfl hl.1 rfl (Nat.le_of_ble_eq_true rfl) dX8_count_43 (fun r5 u H locs hw6 hP hD hS => ?_)
    have hw6 : (r5 = zs) ∧ True := hw6
    obtain ⟨hp7, -⟩ := hw6
    have hp7t := I_eq hp7
    have hP : va_P (dC, dI) vwCl [(x0, .inr (7, [.ref pg, .ref sr, .ref inp, .ref se, .ref so, .ref j0, .ref g, .ref q0, .int xr])), (pg, .inr (3, [.ref pgt, .int pgsz])), (pgt, .inl (cI, 12, .inl pgf)), (j0, .inr (1, [.ref jk, .ref z, .ref a, .int jg, .int jw])), (g, .inr (2, [.ref gh, .ref gr, .ref gl, .ref gk, .ref gd, .ref gm, .int gsz, .int gcn, .int gov])), (z, .inr (6, [.ref zc, .int zs])), (zc, .inl (cI, 40, .inl zcf))] H := hP
    have hD : va_D A [(x0, .inr (7, [.ref pg, .ref sr, .ref inp, .ref se, .ref so, .ref j0, .ref g, .ref q0, .int xr])), (pg, .inr (3, [.ref pgt, .int pgsz])), (pgt, .inl (cI, 12, .inl pgf)), (j0, .inr (1, [.ref jk, .ref z, .ref a, .int jg, .int jw])), (g, .inr (2, [.ref gh, .ref gr, .ref gl, .ref gk, .ref gd, .ref gm, .int gsz, .int gcn, .int gov])), (z, .inr (6, [.ref zc, .int zs])), (zc, .inl (cI, 40, .inl zcf))] := hD
    exact hret r5 () H locs 46 ls rfl trivial (hP.sub (ws' := [(x0, .inr (7, [.ref pg, .ref sr, .ref inp, .ref se, .ref so, .ref j0, .ref g, .ref q0, .int xr])), (pg, .inr (3, [.ref pgt, .int pgsz])), (pgt, .inl (cI, 12, .inl pgf)), (j0, .inr (1, [.ref jk, .ref z, .ref a, .int jg, .int jw])), (z, .inr (6, [.ref zc, .int zs])), (zc, .inl (cI, 40, .inl zcf)), (g, .inr (2, [.ref gh, .ref gr, .ref gl, .ref gk, .ref gd, .ref gm, .int gsz, .int gcn, .int gov]))]) [0, 1, 2, 3, 5, 6, 4] rfl) (hD.sub (ws' := [(x0, .inr (7, [.ref pg, .ref sr, .ref inp, .ref se, .ref so, .ref j0, .ref g, .ref q0, .int xr])), (pg, .inr (3, [.ref pgt, .int pgsz])), (pgt, .inl (cI, 12, .inl pgf)), (j0, .inr (1, [.ref jk, .ref z, .ref a, .int jg, .int jw])), (z, .inr (6, [.ref zc, .int zs])), (zc, .inl (cI, 40, .inl zcf)), (g, .inr (2, [.ref gh, .ref gr, .ref gl, .ref gk, .ref gd, .ref gm, .int gsz, .int gcn, .int gov]))]) [0, 1, 2, 3, 5, 6, 4] (by decide) rfl) hS dX8_count_46
  · refine lv_tableIn (off := 46) (tgt := 47) hx hb dX8_count_1 (by omega) (by omega) (by rw [c1]; rfl) (by decide) ?_
    refine lv_aload_n hx hb dX8_count_47 rfl (lv_at hl 0 rfl) ?_
    refine va_get (D := (dC, dI)) (ci := 7) (v := .ref g) (C := RX8) (T := TX8) (N := 9) hx hb hts inG_X8 hown hK hP 0 rfl rfl 6 (by decide) (hts _ fl_X8_43) (fun _ h9 => h9) rfl dX8_count_48 ?_
    refine calI (rest := []) (wr := [(x0, .inr (7, [.ref pg, .ref sr, .ref inp, .ref se, .ref so, .ref j0, .ref g, .ref q0, .int xr])), (pg, .inr (3, [.ref pgt, .int pgsz])), (pgt, .inl (cI, 12, .inl pgf)), (j0, .inr (1, [.ref jk, .ref z, .ref a, .int jg, .int jw])), (z, .inr (6, [.ref zc, .int zs])), (zc, .inl (cI, 40, .inl zcf))]) hG (c_X2_size l dC dI cI cJ base bB bO g gh gr gl gk gd gm gsz gcn gov ) ml_X8_148 im_X2_size se_X2_size ini_X2 cd_X2_size hd_X2_size ⟨(Nat.le_of_ble_eq_true rfl), (Nat.le_of_ble_eq_true rfl)⟩ (Nat.le_of_ble_eq_true rfl) (Nat.le_of_ble_eq_true rfl) hP hD hS [6] [0, 1, 2, 3, 4, 5] rfl rfl rfl rfl (by decide) 2 6 rfl rfl hl.1 rfl (Nat.le_of_ble_eq_true rfl) dX8_count_51 (fun r8 u H locs hw9 hP hD hS => ?_)
    have hw9 : (r8 = gsz) ∧ True := hw9
    obtain ⟨hp10, -⟩ := hw9
    have hp10t := I_eq hp10
    have hP : va_P (dC, dI) vwCl [(x0, .inr (7, [.ref pg, .ref sr, .ref inp, .ref se, .ref so, .ref j0, .ref g, .ref q0, .int xr])), (pg, .inr (3, [.ref pgt, .int pgsz])), (pgt, .inl (cI, 12, .inl pgf)), (j0, .inr (1, [.ref jk, .ref z, .ref a, .int jg, .int jw])), (z, .inr (6, [.ref zc, .int zs])), (zc, .inl (cI, 40, .inl zcf)), (g, .inr (2, [.ref gh, .ref gr, .ref gl, .ref gk, .ref gd, .ref gm, .int gsz, .int gcn, .int gov]))] H := hP
    have hD : va_D A [(x0, .inr (7, [.ref pg, .ref sr, .ref inp, .ref se, .ref so, .ref j0, .ref g, .ref q0, .int xr])), (pg, .inr (3, [.ref pgt, .int pgsz])), (pgt, .inl (cI, 12, .inl pgf)), (j0, .inr (1, [.ref jk, .ref z, .ref a, .int jg, .int jw])), (z, .inr (6, [.ref zc, .int zs])), (zc, .inl (cI, 40, .inl zcf)), (g, .inr (2, [.ref gh, .ref gr, .ref gl, .ref gk, .ref gd, .ref gm, .int gsz, .int gcn, .int gov]))] := hD
    exact hret r8 () H locs 54 ls rfl trivial hP hD hS dX8_count_54
  · refine lv_tableOut (tgt := 55) hx hb dX8_count_1 c1 (by decide) ?_
    refine lv_iconst (v := (-1)) hx hb dX8_count_55 (by decide) ?_
    exact hret (-1) () H locs 56 ls rfl trivial hP hD hS dX8_count_56
set_option maxHeartbeats 4000000 in
set_option maxRecDepth 100000 in
theorem c_X8_status (l : Launch) (dC : Nat → ClassId) (dI : Nat → Nat → Nat) (cI cJ : ClassId) (base bB bO : Nat) (x0 : Nat) (pg : Nat) (sr : Nat) (inp : Nat) (se : Nat) (so : Nat) (j0 : Nat) (g : Nat) (q0 : Nat) (xr : Int32)  : CtI l dC dI cI cJ base bB bO yX8_status cX8_status 1 .int 0 0 [.ref x0] [(x0, .inr (7, [.ref pg, .ref sr, .ref inp, .ref se, .ref so, .ref j0, .ref g, .ref q0, .int xr]))] (Unit) (fun (res : Int32) (u : Unit) => True) (fun (u : Unit) => [(x0, .inr (7, [.ref pg, .ref sr, .ref inp, .ref se, .ref so, .ref j0, .ref g, .ref q0, .int xr]))]) := by
  refine entI (by decide) (Nat.le_of_ble_eq_true rfl) ?_
  intro p e s m below meth c A Q ls hAt hret hP hD hS hl
  obtain ⟨hx, hb, hml, hown, hts, hA, hAb, hK, hE, hlocks, hin⟩ := hAt
  have hG : CG dC dI cI cJ base bB bO cX8_status 1 RX8 p s m (List.toArray [.ref x0]) c A := ⟨hx, hb, hml, hown, hts, hA, hAb, hK, hE⟩
  have hl : lv_has ls 1 [(0, .ref x0)] := hl
  have c_0 : (0 : Int32).toInt = 0 := by decide
  have c_1 : (1 : Int32).toInt = 1 := by decide
  obtain ⟨H, hHe⟩ : ∃ H : Heap, H = s.heap := ⟨_, rfl⟩
  obtain ⟨locs, hle⟩ : ∃ z : List Loc, z = [] := ⟨_, rfl⟩
  rw [← hHe] at hP
  have hS : va_S A s.heap H locs := by rw [hHe, hle]; exact hS
  suffices hgo : W p l e { frames := 0, cells := 0, slots := 0, locals := 0 } s m (List.toArray [.ref x0]) below meth c H locs 0 0 Q (F0 m 0 ls []) by rw [hHe, hle] at hgo; exact hgo
  refine lv_aload_n hx hb dX8_status_0 rfl (lv_at hl 0 rfl) ?_
  refine va_get (D := (dC, dI)) (ci := 7) (v := .int xr) (C := RX8) (T := TX8) (N := 9) hx hb hts inG_X8 hown hK hP 0 rfl rfl 8 (by decide) (hts _ fl_X8_54) (fun _ h9 => h9) rfl dX8_status_1 ?_
  exact hret xr () H locs 4 ls rfl trivial hP hD hS dX8_status_4
