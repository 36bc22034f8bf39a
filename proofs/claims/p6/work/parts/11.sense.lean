set_option maxHeartbeats 4000000 in
set_option maxRecDepth 100000 in
theorem c_X6_kindMade (l : Launch) (dC : Nat → ClassId) (dI : Nat → Nat → Nat) (cI cJ : ClassId) (base bB bO : Nat) (a : Nat) (as : Nat) (aw : Nat) (ak : Nat) (asc : Int32) (awc : Int32) (aht : Int32) (afi : Int32) (amd : Int32)  : CtI l dC dI cI cJ base bB bO yX6_kindMade cX6_kindMade 1 .int 0 0 [.ref a] [(a, .inr (5, [.ref as, .ref aw, .ref ak, .int asc, .int awc, .int aht, .int afi, .int amd]))] (Unit) (fun (res : Int32) (u : Unit) => (res = amd) ∧ True) (fun (u : Unit) => [(a, .inr (5, [.ref as, .ref aw, .ref ak, .int asc, .int awc, .int aht, .int afi, .int amd]))]) := by
  refine entI (by decide) (Nat.le_of_ble_eq_true rfl) ?_
  intro p e s m below meth c A Q ls hAt hret hP hD hS hl
  obtain ⟨hx, hb, hml, hown, hts, hA, hAb, hK, hE, hlocks, hin⟩ := hAt
  have hG : CG dC dI cI cJ base bB bO cX6_kindMade 1 RX6 p s m (List.toArray [.ref a]) c A := ⟨hx, hb, hml, hown, hts, hA, hAb, hK, hE⟩
  have hl : lv_has ls 1 [(0, .ref a)] := hl
  have c_0 : (0 : Int32).toInt = 0 := by decide
  have c_1 : (1 : Int32).toInt = 1 := by decide
  obtain ⟨H, hHe⟩ : ∃ H : Heap, H = s.heap := ⟨_, rfl⟩
  obtain ⟨locs, hle⟩ : ∃ z : List Loc, z = [] := ⟨_, rfl⟩
  rw [← hHe] at hP
  have hS : va_S A s.heap H locs := by rw [hHe, hle]; exact hS
  suffices hgo : W p l e { frames := 0, cells := 0, slots := 0, locals := 0 } s m (List.toArray [.ref a]) below meth c H locs 0 0 Q (F0 m 0 ls []) by rw [hHe, hle] at hgo; exact hgo
  refine lv_aload_n hx hb dX6_kindMade_0 rfl (lv_at hl 0 rfl) ?_
  refine va_get (D := (dC, dI)) (ci := 5) (v := .int amd) (C := RX6) (T := TX6) (N := 8) hx hb hts inG_X6 hown hK hP 0 rfl rfl 7 (by decide) (hts _ fl_X6_35) (fun _ h9 => h9) rfl dX6_kindMade_1 ?_
  exact hret amd () H locs 4 ls rfl ⟨(show amd = amd from by first | rfl | assumption | omega), trivial⟩ hP hD hS dX6_kindMade_4
set_option maxHeartbeats 4000000 in
set_option maxRecDepth 100000 in
theorem c_X6_await (l : Launch) (dC : Nat → ClassId) (dI : Nat → Nat → Nat) (cI cJ : ClassId) (base bB bO : Nat) (a : Nat) (as : Nat) (aw : Nat) (ak : Nat) (asc : Int32) (awc : Int32) (aht : Int32) (afi : Int32) (amd : Int32) (awf : Nat → Int32) (x : Int32) (hq0 : 0 ≤ awc.toInt ∧ awc.toInt ≤ 12) (hq1 : ∀ j : Nat, 0 ≤ (awf j).toInt ∧ (awf j).toInt < 12) (hx0 : 0 ≤ x.toInt ∧ x.toInt < 12) : CtV l dC dI cI cJ base bB bO yX6_await cX6_await 2 0 0 0 0 [.ref a, .int x] [(a, .inr (5, [.ref as, .ref aw, .ref ak, .int asc, .int awc, .int aht, .int afi, .int amd])), (aw, .inl (cI, 12, .inl awf))] ((Int32) × (Nat → Int32)) (fun (u : (Int32) × (Nat → Int32)) => (0 ≤ u.1.toInt ∧ u.1.toInt ≤ 12) ∧ (∀ j : Nat, 0 ≤ (u.2 j).toInt ∧ (u.2 j).toInt < 12) ∧ True) (fun (u : (Int32) × (Nat → Int32)) => [(a, .inr (5, [.ref as, .ref aw, .ref ak, .int asc, .int u.1, .int aht, .int afi, .int amd])), (aw, .inl (cI, 12, .inl u.2))]) := by
  refine entV (by decide) (Nat.le_of_ble_eq_true rfl) ?_
  intro p e s m below meth c A Q ls hAt hret hP hD hS hl
  obtain ⟨hx, hb, hml, hown, hts, hA, hAb, hK, hE, hlocks, hin⟩ := hAt
  have hG : CG dC dI cI cJ base bB bO cX6_await 2 RX6 p s m (List.toArray [.ref a, .int x]) c A := ⟨hx, hb, hml, hown, hts, hA, hAb, hK, hE⟩
  have hl : lv_has ls 2 [(0, .ref a), (1, .int x)] := hl
  have c_0 : (0 : Int32).toInt = 0 := by decide
  have c_1 : (1 : Int32).toInt = 1 := by decide
  have c_12 : (12 : Int32).toInt = 12 := by decide
  obtain ⟨H, hHe⟩ : ∃ H : Heap, H = s.heap := ⟨_, rfl⟩
  obtain ⟨locs, hle⟩ : ∃ z : List Loc, z = [] := ⟨_, rfl⟩
  rw [← hHe] at hP
  have hS : va_S A s.heap H locs := by rw [hHe, hle]; exact hS
  suffices hgo : W p l e { frames := 0, cells := 0, slots := 0, locals := 0 } s m (List.toArray [.ref a, .int x]) below meth c H locs 0 0 Q (F0 m 0 ls []) by rw [hHe, hle] at hgo; exact hgo
  refine lv_aload_n hx hb dX6_await_0 rfl (lv_at hl 0 rfl) ?_
  refine va_get (D := (dC, dI)) (ci := 5) (v := .int awc) (C := RX6) (T := TX6) (N := 8) hx hb hts inG_X6 hown hK hP 0 rfl rfl 4 (by decide) (hts _ fl_X6_25) (fun _ h9 => h9) rfl dX6_await_1 ?_
  refine lv_bipush (v := 12) hx hb dX6_await_4 (by decide) ?_
  refine lv_icmp_ge (tgt := 29) hx hb dX6_await_6 (by decide) (fun c1 => ?_) (fun c1 => ?_)
  · have c1' := I_le c1
    exact hret (awc, awf) H locs 29 ls ⟨(show 0 ≤ awc.toInt ∧ awc.toInt ≤ 12 from by first | rfl | assumption | omega), (show ∀ j : Nat, 0 ≤ (awf j).toInt ∧ (awf j).toInt < 12 from by first | rfl | assumption | omega), trivial⟩ hP hD hS dX6_await_29
  · have c1' := I_nle c1
    refine lv_aload_n hx hb dX6_await_9 rfl (lv_at hl 0 rfl) ?_
    refine va_get (D := (dC, dI)) (ci := 5) (v := .ref aw) (C := RX6) (T := TX6) (N := 8) hx hb hts inG_X6 hown hK hP 0 rfl rfl 1 (by decide) (hts _ fl_X6_15) (fun _ h9 => h9) rfl dX6_await_10 ?_
    refine lv_aload_n hx hb dX6_await_13 rfl (lv_at hl 0 rfl) ?_
    refine va_get (D := (dC, dI)) (ci := 5) (v := .int awc) (C := RX6) (T := TX6) (N := 8) hx hb hts inG_X6 hown hK hP 0 rfl rfl 4 (by decide) (hts _ fl_X6_25) (fun _ h9 => h9) rfl dX6_await_14 ?_
    refine lv_iload_n hx hb dX6_await_17 rfl (lv_at hl 1 rfl) ?_
    refine va_iast (t0 := 0) hx hb hK hP hD hS 1 (ha := rfl) (ht := rfl) (I_in (by omega) (by omega)) dX6_await_18 (fun H locs hP hD hS => ?_)
    have hP : va_P (dC, dI) vwCl [(a, .inr (5, [.ref as, .ref aw, .ref ak, .int asc, .int awc, .int aht, .int afi, .int amd])), (aw, .inl (cI, 12, .inl (upd awf awc.toNatClampNeg x)))] H := hP
    have hD : va_D A [(a, .inr (5, [.ref as, .ref aw, .ref ak, .int asc, .int awc, .int aht, .int afi, .int amd])), (aw, .inl (cI, 12, .inl (upd awf awc.toNatClampNeg x)))] := hD
    generalize ef2 : upd awf awc.toNatClampNeg x = f2 at hP hD
    have ha3 : ∀ j : Nat, 0 ≤ (f2 j).toInt ∧ (f2 j).toInt < 12 := by rw [← ef2]; exact upd_all (P := fun z => 0 ≤ z.toInt ∧ z.toInt < 12) hq1 (by first | assumption | omega | (refine ⟨?_, ?_⟩ <;> omega)) _
    refine lv_aload_n hx hb dX6_await_19 rfl (lv_at hl 0 rfl) ?_
    refine lv_dup hx hb dX6_await_20 rfl ?_
    refine va_get (D := (dC, dI)) (ci := 5) (v := .int awc) (C := RX6) (T := TX6) (N := 8) hx hb hts inG_X6 hown hK hP 0 rfl rfl 4 (by decide) (hts _ fl_X6_25) (fun _ h9 => h9) rfl dX6_await_21 ?_
    refine lv_iconst (v := 1) hx hb dX6_await_24 (by decide) ?_
    refine lv_iadd hx hb dX6_await_25 ?_
    refine lv_topi (fun v4 ev4 => ?_)
    try have hv4 : v4.toInt = awc.toInt + (1 : Int32).toInt := I_addx ev4 (by omega)
    refine va_put (D := (dC, dI)) (ci := 5) (v := .int v4) (ty := .int) (C := RX6) (T := TX6) (N := 8) hx hb hts inG_X6 tyX6 tyX6_ok nmX6 hown hK hP hD hS 0 rfl rfl 4 (by decide) (hts _ fl_X6_25) (fun _ h9 => h9) rfl (by decide +kernel) rfl rfl (Nat.le_of_ble_eq_true rfl) dX6_await_26 (fun H locs hP hD hS => ?_)
    have hP : va_P (dC, dI) vwCl [(a, .inr (5, [.ref as, .ref aw, .ref ak, .int asc, .int v4, .int aht, .int afi, .int amd])), (aw, .inl (cI, 12, .inl f2))] H := hP
    have hD : va_D A [(a, .inr (5, [.ref as, .ref aw, .ref ak, .int asc, .int v4, .int aht, .int afi, .int amd])), (aw, .inl (cI, 12, .inl f2))] := hD
    exact hret (v4, f2) H locs 29 ls ⟨(show 0 ≤ v4.toInt ∧ v4.toInt ≤ 12 from by first | rfl | assumption | omega), (show ∀ j : Nat, 0 ≤ (f2 j).toInt ∧ (f2 j).toInt < 12 from by first | rfl | assumption | omega), trivial⟩ hP hD hS dX6_await_29
set_option maxHeartbeats 4000000 in
set_option maxRecDepth 100000 in
theorem c_X6_addOperator (l : Launch) (dC : Nat → ClassId) (dI : Nat → Nat → Nat) (cI cJ : ClassId) (base bB bO : Nat) (a : Nat) (as : Nat) (aw : Nat) (ak : Nat) (asc : Int32) (awc : Int32) (aht : Int32) (afi : Int32) (amd : Int32) (asf : Nat → Int32) (akf : Nat → Int32) (x : Int32) (hq0 : 0 ≤ asc.toInt ∧ asc.toInt ≤ 12) (hq1 : 0 ≤ aht.toInt ∧ aht.toInt ≤ 12) (hq2 : afi.toInt = 0 ∨ afi.toInt = 1) (hq3 : stOK asf asc) (hx0 : (2 ≤ x.toInt ∧ x.toInt ≤ 8) ∨ x.toInt = 11) : CtV l dC dI cI cJ base bB bO yX6_addOperator cX6_addOperator 6 0 0 0 0 [.ref a, .int x] [(a, .inr (5, [.ref as, .ref aw, .ref ak, .int asc, .int awc, .int aht, .int afi, .int amd])), (as, .inl (cI, 12, .inl asf)), (ak, .inl (cI, 12, .inl akf))] ((Int32) × (Int32) × (Int32) × (Nat → Int32) × (Nat → Int32)) (fun (u : (Int32) × (Int32) × (Int32) × (Nat → Int32) × (Nat → Int32)) => (0 ≤ u.1.toInt ∧ u.1.toInt ≤ 12) ∧ (0 ≤ u.2.1.toInt ∧ u.2.1.toInt ≤ 12) ∧ (u.2.2.1.toInt = 0 ∨ u.2.2.1.toInt = 1) ∧ (stOK u.2.2.2.1 u.1) ∧ True) (fun (u : (Int32) × (Int32) × (Int32) × (Nat → Int32) × (Nat → Int32)) => [(a, .inr (5, [.ref as, .ref aw, .ref ak, .int u.1, .int awc, .int u.2.1, .int u.2.2.1, .int amd])), (as, .inl (cI, 12, .inl u.2.2.2.1)), (ak, .inl (cI, 12, .inl u.2.2.2.2))]) := by
  refine entV (by decide) (Nat.le_of_ble_eq_true rfl) ?_
  intro p e s m below meth c A Q ls hAt hret hP hD hS hl
  obtain ⟨hx, hb, hml, hown, hts, hA, hAb, hK, hE, hlocks, hin⟩ := hAt
  have hG : CG dC dI cI cJ base bB bO cX6_addOperator 6 RX6 p s m (List.toArray [.ref a, .int x]) c A := ⟨hx, hb, hml, hown, hts, hA, hAb, hK, hE⟩
  have hl : lv_has ls 6 [(0, .ref a), (1, .int x)] := hl
  obtain ⟨hE1, hE2, hE3, hE4, hE5, hX6, hX7, -⟩ := id hE
  have hEB := hE4.narrow hAb
  have hEO := hE5.narrow hAb
  have hXB := hX6.narrow hAb
  have hXO := hX7.narrow hAb
  have c_0 : (0 : Int32).toInt = 0 := by decide
  have c_1 : (1 : Int32).toInt = 1 := by decide
  have c_2 : (2 : Int32).toInt = 2 := by decide
  have c_12 : (12 : Int32).toInt = 12 := by decide
  obtain ⟨H, hHe⟩ : ∃ H : Heap, H = s.heap := ⟨_, rfl⟩
  obtain ⟨locs, hle⟩ : ∃ z : List Loc, z = [] := ⟨_, rfl⟩
  rw [← hHe] at hP
  have hS : va_S A s.heap H locs := by rw [hHe, hle]; exact hS
  suffices hgo : W p l e { frames := 0, cells := 0, slots := 0, locals := 0 } s m (List.toArray [.ref a, .int x]) below meth c H locs 0 0 Q (F0 m 0 ls []) by rw [hHe, hle] at hgo; exact hgo
  refine lv_aload_n hx hb dX6_addOperator_0 rfl (lv_at hl 0 rfl) ?_
  refine va_get (D := (dC, dI)) (ci := 5) (v := .int aht) (C := RX6) (T := TX6) (N := 8) hx hb hts inG_X6 hown hK hP 0 rfl rfl 5 (by decide) (hts _ fl_X6_28) (fun _ h9 => h9) rfl dX6_addOperator_1 ?_
  refine va_gets (C := RX6) hx hb hEO hS hown (hts _ fl_X6_71) (fun _ h9 => h9) dX6_addOperator_4 ?_
  refine lv_iload_n hx hb dX6_addOperator_7 rfl (lv_at hl 1 rfl) ?_
  refine va_ti hx hb hXO hS (I_in (by omega) (by omega)) (v := .int (tOPER x.toNatClampNeg)) rfl dX6_addOperator_8 ?_
  refine lv_topi (fun v1 ev1 => ?_)
  have hv1 := tOPER_rng x
  rw [← ev1] at hv1
  refine lv_isub hx hb dX6_addOperator_9 ?_
  refine lv_topi (fun v2 ev2 => ?_)
  try have hv2 : v2.toInt = aht.toInt - v1.toInt := I_subx ev2 (by omega)
  refine lv_istore_n (lv' := [(2, .int v2), (0, .ref a), (1, .int x)]) hx hb dX6_addOperator_10 rfl hl (by decide) rfl (fun ls hl => ?_)
  refine lv_iload_n hx hb dX6_addOperator_11 rfl (lv_at hl 0 rfl) ?_
  refine lv_if_lt (tgt := 24) hx hb dX6_addOperator_12 (by decide) (fun c3 => ?_) (fun c3 => ?_)
  · have c3' := I_lt c3
    refine lv_aload_n hx hb dX6_addOperator_24 rfl (lv_at hl 1 rfl) ?_
    refine lv_iconst (v := 0) hx hb dX6_addOperator_25 (by decide) ?_
    refine va_put (D := (dC, dI)) (ci := 5) (v := .int 0) (ty := .boolean) (C := RX6) (T := TX6) (N := 8) hx hb hts inG_X6 tyX6 tyX6_ok nmX6 hown hK hP hD hS 0 rfl rfl 6 (by decide) (hts _ fl_X6_31) (fun _ h9 => h9) rfl (by decide +kernel) (by first | rfl | exact I_narz (by omega)) rfl (Nat.le_of_ble_eq_true rfl) dX6_addOperator_26 (fun H locs hP hD hS => ?_)
    have hP : va_P (dC, dI) vwCl [(a, .inr (5, [.ref as, .ref aw, .ref ak, .int asc, .int awc, .int aht, .int 0, .int amd])), (as, .inl (cI, 12, .inl asf)), (ak, .inl (cI, 12, .inl akf))] H := hP
    have hD : va_D A [(a, .inr (5, [.ref as, .ref aw, .ref ak, .int asc, .int awc, .int aht, .int 0, .int amd])), (as, .inl (cI, 12, .inl asf)), (ak, .inl (cI, 12, .inl akf))] := hD
    exact hret (asc, aht, 0, asf, akf) H locs 29 ls ⟨(show 0 ≤ asc.toInt ∧ asc.toInt ≤ 12 from by first | rfl | assumption | omega), (show 0 ≤ aht.toInt ∧ aht.toInt ≤ 12 from by first | rfl | assumption | omega), (show (0 : Int32).toInt = 0 ∨ (0 : Int32).toInt = 1 from by first | rfl | assumption | omega), (show stOK asf asc from by first | assumption | exact stOK_push (by assumption) (by assumption) (by unfold sOK; omega) (by omega) (by omega)), trivial⟩ hP hD hS dX6_addOperator_29
  · have c3' := I_nlt c3
    refine lv_aload_n hx hb dX6_addOperator_15 rfl (lv_at hl 1 rfl) ?_
    refine va_get (D := (dC, dI)) (ci := 5) (v := .int asc) (C := RX6) (T := TX6) (N := 8) hx hb hts inG_X6 hown hK hP 0 rfl rfl 3 (by decide) (hts _ fl_X6_21) (fun _ h9 => h9) rfl dX6_addOperator_16 ?_
    refine lv_bipush (v := 12) hx hb dX6_addOperator_19 (by decide) ?_
    refine lv_icmp_lt (tgt := 30) hx hb dX6_addOperator_21 (by decide) (fun c4 => ?_) (fun c4 => ?_)
    · have c4' := I_lt c4
      refine lv_aload_n hx hb dX6_addOperator_30 rfl (lv_at hl 1 rfl) ?_
      refine va_get (D := (dC, dI)) (ci := 5) (v := .ref ak) (C := RX6) (T := TX6) (N := 8) hx hb hts inG_X6 hown hK hP 0 rfl rfl 2 (by decide) (hts _ fl_X6_18) (fun _ h9 => h9) rfl dX6_addOperator_31 ?_
      refine lv_iload_n hx hb dX6_addOperator_34 rfl (lv_at hl 0 rfl) ?_
      refine va_iald (t0 := 0) hx hb hK hP 2 (ha := rfl) (ht := rfl) (I_in (by omega) (by omega)) dX6_addOperator_35 ?_
      refine lv_topi (fun v5 ev5 => ?_)
      refine lv_istore_n (lv' := [(3, .int v5), (2, .int v2), (0, .ref a), (1, .int x)]) hx hb dX6_addOperator_36 rfl hl (by decide) rfl (fun ls hl => ?_)
      refine lv_aload_n hx hb dX6_addOperator_37 rfl (lv_at hl 2 rfl) ?_
      refine va_get (D := (dC, dI)) (ci := 5) (v := .ref ak) (C := RX6) (T := TX6) (N := 8) hx hb hts inG_X6 hown hK hP 0 rfl rfl 2 (by decide) (hts _ fl_X6_18) (fun _ h9 => h9) rfl dX6_addOperator_38 ?_
      refine lv_aload_n hx hb dX6_addOperator_41 rfl (lv_at hl 2 rfl) ?_
      refine va_get (D := (dC, dI)) (ci := 5) (v := .int aht) (C := RX6) (T := TX6) (N := 8) hx hb hts inG_X6 hown hK hP 0 rfl rfl 5 (by decide) (hts _ fl_X6_28) (fun _ h9 => h9) rfl dX6_addOperator_42 ?_
      refine lv_iconst (v := 1) hx hb dX6_addOperator_45 (by decide) ?_
      refine lv_isub hx hb dX6_addOperator_46 ?_
      refine lv_topi (fun v6 ev6 => ?_)
      try have hv6 : v6.toInt = aht.toInt - (1 : Int32).toInt := I_subx ev6 (by omega)
      refine va_iald (t0 := 0) hx hb hK hP 2 (ha := rfl) (ht := rfl) (I_in (by omega) (by omega)) dX6_addOperator_47 ?_
      refine lv_topi (fun v7 ev7 => ?_)
      refine lv_istore (lv' := [(4, .int v7), (3, .int v5), (2, .int v2), (0, .ref a), (1, .int x)]) hx hb dX6_addOperator_48 hl (by decide) rfl (fun ls hl => ?_)
      refine lv_iconst (v := 1) hx hb dX6_addOperator_50 (by decide) ?_
      refine lv_istore (lv' := [(5, .int 1), (4, .int v7), (3, .int v5), (2, .int v2), (0, .ref a), (1, .int x)]) hx hb dX6_addOperator_51 hl (by decide) rfl (fun ls hl => ?_)
      have J263 : ∀ (L5_263 : Int32) (afi_263 : Int32), (afi_263.toInt = 0 ∨ afi_263.toInt = 1) → ∀ (H : Heap) (locs : List Loc) (ls : Array Slot), va_P (dC, dI) vwCl [(a, .inr (5, [.ref as, .ref aw, .ref ak, .int asc, .int awc, .int aht, .int afi_263, .int amd])), (as, .inl (cI, 12, .inl asf)), (ak, .inl (cI, 12, .inl akf))] H → va_D A [(a, .inr (5, [.ref as, .ref aw, .ref ak, .int asc, .int awc, .int aht, .int afi_263, .int amd])), (as, .inl (cI, 12, .inl asf)), (ak, .inl (cI, 12, .inl akf))] → va_S A s.heap H locs → lv_has ls 6 [(5, .int L5_263), (4, .int v7), (3, .int v5), (2, .int v2), (0, .ref a), (1, .int x)] → W p l e { frames := 0, cells := 0, slots := 0, locals := 0 } s m (List.toArray [.ref a, .int x]) below meth c H locs 0 0 Q (F0 m 263 ls []) := by
        intro L5_263 afi_263 hi0_263 H locs ls hP hD hS hl
        refine lv_aload_n hx hb dX6_addOperator_263 rfl (lv_at hl 4 rfl) ?_
        refine va_get (D := (dC, dI)) (ci := 5) (v := .ref as) (C := RX6) (T := TX6) (N := 8) hx hb hts inG_X6 hown hK hP 0 rfl rfl 0 (by decide) (hts _ fl_X6_9) (fun _ h9 => h9) rfl dX6_addOperator_264 ?_
        refine lv_aload_n hx hb dX6_addOperator_267 rfl (lv_at hl 4 rfl) ?_
        refine va_get (D := (dC, dI)) (ci := 5) (v := .int asc) (C := RX6) (T := TX6) (N := 8) hx hb hts inG_X6 hown hK hP 0 rfl rfl 3 (by decide) (hts _ fl_X6_21) (fun _ h9 => h9) rfl dX6_addOperator_268 ?_
        refine lv_iload_n hx hb dX6_addOperator_271 rfl (lv_at hl 5 rfl) ?_
        refine va_iast (t0 := 0) hx hb hK hP hD hS 1 (ha := rfl) (ht := rfl) (I_in (by omega) (by omega)) dX6_addOperator_272 (fun H locs hP hD hS => ?_)
        have hP : va_P (dC, dI) vwCl [(a, .inr (5, [.ref as, .ref aw, .ref ak, .int asc, .int awc, .int aht, .int afi_263, .int amd])), (as, .inl (cI, 12, .inl (upd asf asc.toNatClampNeg x))), (ak, .inl (cI, 12, .inl akf))] H := hP
        have hD : va_D A [(a, .inr (5, [.ref as, .ref aw, .ref ak, .int asc, .int awc, .int aht, .int afi_263, .int amd])), (as, .inl (cI, 12, .inl (upd asf asc.toNatClampNeg x))), (ak, .inl (cI, 12, .inl akf))] := hD
        generalize ef8 : upd asf asc.toNatClampNeg x = f8 at hP hD
        refine lv_aload_n hx hb dX6_addOperator_273 rfl (lv_at hl 4 rfl) ?_
        refine lv_dup hx hb dX6_addOperator_274 rfl ?_
        refine va_get (D := (dC, dI)) (ci := 5) (v := .int asc) (C := RX6) (T := TX6) (N := 8) hx hb hts inG_X6 hown hK hP 0 rfl rfl 3 (by decide) (hts _ fl_X6_21) (fun _ h9 => h9) rfl dX6_addOperator_275 ?_
        refine lv_iconst (v := 1) hx hb dX6_addOperator_278 (by decide) ?_
        refine lv_iadd hx hb dX6_addOperator_279 ?_
        refine lv_topi (fun v9 ev9 => ?_)
        try have hv9 : v9.toInt = asc.toInt + (1 : Int32).toInt := I_addx ev9 (by omega)
        refine va_put (D := (dC, dI)) (ci := 5) (v := .int v9) (ty := .int) (C := RX6) (T := TX6) (N := 8) hx hb hts inG_X6 tyX6 tyX6_ok nmX6 hown hK hP hD hS 0 rfl rfl 3 (by decide) (hts _ fl_X6_21) (fun _ h9 => h9) rfl (by decide +kernel) rfl rfl (Nat.le_of_ble_eq_true rfl) dX6_addOperator_280 (fun H locs hP hD hS => ?_)
        have hP : va_P (dC, dI) vwCl [(a, .inr (5, [.ref as, .ref aw, .ref ak, .int v9, .int awc, .int aht, .int afi_263, .int amd])), (as, .inl (cI, 12, .inl f8)), (ak, .inl (cI, 12, .inl akf))] H := hP
        have hD : va_D A [(a, .inr (5, [.ref as, .ref aw, .ref ak, .int v9, .int awc, .int aht, .int afi_263, .int amd])), (as, .inl (cI, 12, .inl f8)), (ak, .inl (cI, 12, .inl akf))] := hD
        refine lv_aload_n hx hb dX6_addOperator_283 rfl (lv_at hl 4 rfl) ?_
        refine va_get (D := (dC, dI)) (ci := 5) (v := .ref ak) (C := RX6) (T := TX6) (N := 8) hx hb hts inG_X6 hown hK hP 0 rfl rfl 2 (by decide) (hts _ fl_X6_18) (fun _ h9 => h9) rfl dX6_addOperator_284 ?_
        refine lv_iload_n hx hb dX6_addOperator_287 rfl (lv_at hl 3 rfl) ?_
        refine lv_iload hx hb dX6_addOperator_288 (lv_at hl 0 rfl) ?_
        refine va_iast (t0 := 0) hx hb hK hP hD hS 2 (ha := rfl) (ht := rfl) (I_in (by omega) (by omega)) dX6_addOperator_290 (fun H locs hP hD hS => ?_)
        have hP : va_P (dC, dI) vwCl [(a, .inr (5, [.ref as, .ref aw, .ref ak, .int v9, .int awc, .int aht, .int afi_263, .int amd])), (as, .inl (cI, 12, .inl f8)), (ak, .inl (cI, 12, .inl (upd akf v2.toNatClampNeg L5_263)))] H := hP
        have hD : va_D A [(a, .inr (5, [.ref as, .ref aw, .ref ak, .int v9, .int awc, .int aht, .int afi_263, .int amd])), (as, .inl (cI, 12, .inl f8)), (ak, .inl (cI, 12, .inl (upd akf v2.toNatClampNeg L5_263)))] := hD
        generalize ef10 : upd akf v2.toNatClampNeg L5_263 = f10 at hP hD
        refine lv_aload_n hx hb dX6_addOperator_291 rfl (lv_at hl 4 rfl) ?_
        refine lv_iload_n hx hb dX6_addOperator_292 rfl (lv_at hl 3 rfl) ?_
        refine lv_iconst (v := 1) hx hb dX6_addOperator_293 (by decide) ?_
        refine lv_iadd hx hb dX6_addOperator_294 ?_
        refine lv_topi (fun v11 ev11 => ?_)
        try have hv11 : v11.toInt = v2.toInt + (1 : Int32).toInt := I_addx ev11 (by omega)
        refine va_put (D := (dC, dI)) (ci := 5) (v := .int v11) (ty := .int) (C := RX6) (T := TX6) (N := 8) hx hb hts inG_X6 tyX6 tyX6_ok nmX6 hown hK hP hD hS 0 rfl rfl 5 (by decide) (hts _ fl_X6_28) (fun _ h9 => h9) rfl (by decide +kernel) rfl rfl (Nat.le_of_ble_eq_true rfl) dX6_addOperator_295 (fun H locs hP hD hS => ?_)
        have hP : va_P (dC, dI) vwCl [(a, .inr (5, [.ref as, .ref aw, .ref ak, .int v9, .int awc, .int v11, .int afi_263, .int amd])), (as, .inl (cI, 12, .inl f8)), (ak, .inl (cI, 12, .inl f10))] H := hP
        have hD : va_D A [(a, .inr (5, [.ref as, .ref aw, .ref ak, .int v9, .int awc, .int v11, .int afi_263, .int amd])), (as, .inl (cI, 12, .inl f8)), (ak, .inl (cI, 12, .inl f10))] := hD
        exact hret (v9, v11, afi_263, f8, f10) H locs 298 ls ⟨(show 0 ≤ v9.toInt ∧ v9.toInt ≤ 12 from by first | rfl | assumption | omega), (show 0 ≤ v11.toInt ∧ v11.toInt ≤ 12 from by first | rfl | assumption | omega), (show afi_263.toInt = 0 ∨ afi_263.toInt = 1 from by first | rfl | assumption | omega), (show stOK f8 v9 from by first | assumption | exact stOK_push (by assumption) (by assumption) (by unfold sOK; omega) (by omega) (by omega)), trivial⟩ hP hD hS dX6_addOperator_298
      refine lv_iload_n hx hb dX6_addOperator_53 rfl (lv_at hl 5 rfl) ?_
      rcases (by omega : x.toInt = 2 ∨ x.toInt = 3 ∨ x.toInt = 4 ∨ x.toInt = 5 ∨ x.toInt = 6 ∨ x.toInt = 7 ∨ x.toInt = 8 ∨ x.toInt = 9 ∨ x.toInt = 10 ∨ x.toInt = 11 ∨ (x.toInt < 2 ∨ 11 < x.toInt)) with c12 | c12 | c12 | c12 | c12 | c12 | c12 | c12 | c12 | c12 | c12
      · refine lv_tableIn (off := 54) (tgt := 108) hx hb dX6_addOperator_54 (by omega) (by omega) (by rw [c12]; rfl) (by decide) ?_
        refine lv_iconst (v := 0) hx hb dX6_addOperator_108 (by decide) ?_
        refine lv_istore (lv' := [(5, .int 0), (4, .int v7), (3, .int v5), (2, .int v2), (0, .ref a), (1, .int x)]) hx hb dX6_addOperator_109 hl (by decide) rfl (fun ls hl => ?_)
        refine lv_aload_n hx hb dX6_addOperator_111 rfl (lv_at hl 4 rfl) ?_
        refine lv_aload_n hx hb dX6_addOperator_112 rfl (lv_at hl 4 rfl) ?_
        refine va_get (D := (dC, dI)) (ci := 5) (v := .int afi) (C := RX6) (T := TX6) (N := 8) hx hb hts inG_X6 hown hK hP 0 rfl rfl 6 (by decide) (hts _ fl_X6_31) (fun _ h9 => h9) rfl dX6_addOperator_113 ?_
        refine lv_if_eq (tgt := 132) hx hb dX6_addOperator_116 (by decide) (fun c13 => ?_) (fun c13 => ?_)
        · have c13' := I_eq c13
          refine lv_iconst (v := 0) hx hb dX6_addOperator_132 (by decide) ?_
          refine va_put (D := (dC, dI)) (ci := 5) (v := .int 0) (ty := .boolean) (C := RX6) (T := TX6) (N := 8) hx hb hts inG_X6 tyX6 tyX6_ok nmX6 hown hK hP hD hS 0 rfl rfl 6 (by decide) (hts _ fl_X6_31) (fun _ h9 => h9) rfl (by decide +kernel) (by first | rfl | exact I_narz (by omega)) rfl (Nat.le_of_ble_eq_true rfl) dX6_addOperator_133 (fun H locs hP hD hS => ?_)
          have hP : va_P (dC, dI) vwCl [(a, .inr (5, [.ref as, .ref aw, .ref ak, .int asc, .int awc, .int aht, .int 0, .int amd])), (as, .inl (cI, 12, .inl asf)), (ak, .inl (cI, 12, .inl akf))] H := hP
          have hD : va_D A [(a, .inr (5, [.ref as, .ref aw, .ref ak, .int asc, .int awc, .int aht, .int 0, .int amd])), (as, .inl (cI, 12, .inl asf)), (ak, .inl (cI, 12, .inl akf))] := hD
          refine lv_goto (tgt := 263) hx hb dX6_addOperator_136 (by decide) ?_
          exact J263 0 0 (by first | assumption | omega) H locs ls hP hD hS hl
        · have c13' := I_ne c13
          refine lv_iload_n hx hb dX6_addOperator_119 rfl (lv_at hl 2 rfl) ?_
          refine lv_if_ne (tgt := 132) hx hb dX6_addOperator_120 (by decide) (fun c14 => ?_) (fun c14 => ?_)
          · have c14' := I_ne c14
            refine lv_iconst (v := 0) hx hb dX6_addOperator_132 (by decide) ?_
            refine va_put (D := (dC, dI)) (ci := 5) (v := .int 0) (ty := .boolean) (C := RX6) (T := TX6) (N := 8) hx hb hts inG_X6 tyX6 tyX6_ok nmX6 hown hK hP hD hS 0 rfl rfl 6 (by decide) (hts _ fl_X6_31) (fun _ h9 => h9) rfl (by decide +kernel) (by first | rfl | exact I_narz (by omega)) rfl (Nat.le_of_ble_eq_true rfl) dX6_addOperator_133 (fun H locs hP hD hS => ?_)
            have hP : va_P (dC, dI) vwCl [(a, .inr (5, [.ref as, .ref aw, .ref ak, .int asc, .int awc, .int aht, .int 0, .int amd])), (as, .inl (cI, 12, .inl asf)), (ak, .inl (cI, 12, .inl akf))] H := hP
            have hD : va_D A [(a, .inr (5, [.ref as, .ref aw, .ref ak, .int asc, .int awc, .int aht, .int 0, .int amd])), (as, .inl (cI, 12, .inl asf)), (ak, .inl (cI, 12, .inl akf))] := hD
            refine lv_goto (tgt := 263) hx hb dX6_addOperator_136 (by decide) ?_
            exact J263 0 0 (by first | assumption | omega) H locs ls hP hD hS hl
          · have c14' := I_eq c14
            refine lv_iload hx hb dX6_addOperator_123 (lv_at hl 1 rfl) ?_
            refine lv_if_ne (tgt := 132) hx hb dX6_addOperator_125 (by decide) (fun c15 => ?_) (fun c15 => ?_)
            · have c15' := I_ne c15
              refine lv_iconst (v := 0) hx hb dX6_addOperator_132 (by decide) ?_
              refine va_put (D := (dC, dI)) (ci := 5) (v := .int 0) (ty := .boolean) (C := RX6) (T := TX6) (N := 8) hx hb hts inG_X6 tyX6 tyX6_ok nmX6 hown hK hP hD hS 0 rfl rfl 6 (by decide) (hts _ fl_X6_31) (fun _ h9 => h9) rfl (by decide +kernel) (by first | rfl | exact I_narz (by omega)) rfl (Nat.le_of_ble_eq_true rfl) dX6_addOperator_133 (fun H locs hP hD hS => ?_)
              have hP : va_P (dC, dI) vwCl [(a, .inr (5, [.ref as, .ref aw, .ref ak, .int asc, .int awc, .int aht, .int 0, .int amd])), (as, .inl (cI, 12, .inl asf)), (ak, .inl (cI, 12, .inl akf))] H := hP
              have hD : va_D A [(a, .inr (5, [.ref as, .ref aw, .ref ak, .int asc, .int awc, .int aht, .int 0, .int amd])), (as, .inl (cI, 12, .inl asf)), (ak, .inl (cI, 12, .inl akf))] := hD
              refine lv_goto (tgt := 263) hx hb dX6_addOperator_136 (by decide) ?_
              exact J263 0 0 (by first | assumption | omega) H locs ls hP hD hS hl
            · have c15' := I_eq c15
              refine lv_iconst (v := 1) hx hb dX6_addOperator_128 (by decide) ?_
              refine lv_goto (tgt := 133) hx hb dX6_addOperator_129 (by decide) ?_
              refine va_put (D := (dC, dI)) (ci := 5) (v := .int 1) (ty := .boolean) (C := RX6) (T := TX6) (N := 8) hx hb hts inG_X6 tyX6 tyX6_ok nmX6 hown hK hP hD hS 0 rfl rfl 6 (by decide) (hts _ fl_X6_31) (fun _ h9 => h9) rfl (by decide +kernel) (by first | rfl | exact I_narz (by omega)) rfl (Nat.le_of_ble_eq_true rfl) dX6_addOperator_133 (fun H locs hP hD hS => ?_)
              have hP : va_P (dC, dI) vwCl [(a, .inr (5, [.ref as, .ref aw, .ref ak, .int asc, .int awc, .int aht, .int 1, .int amd])), (as, .inl (cI, 12, .inl asf)), (ak, .inl (cI, 12, .inl akf))] H := hP
              have hD : va_D A [(a, .inr (5, [.ref as, .ref aw, .ref ak, .int asc, .int awc, .int aht, .int 1, .int amd])), (as, .inl (cI, 12, .inl asf)), (ak, .inl (cI, 12, .inl akf))] := hD
              refine lv_goto (tgt := 263) hx hb dX6_addOperator_136 (by decide) ?_
              exact J263 0 1 (by first | assumption | omega) H locs ls hP hD hS hl
      · refine lv_tableIn (off := 54) (tgt := 108) hx hb dX6_addOperator_54 (by omega) (by omega) (by rw [c12]; rfl) (by decide) ?_
        refine lv_iconst (v := 0) hx hb dX6_addOperator_108 (by decide) ?_
        refine lv_istore (lv' := [(5, .int 0), (4, .int v7), (3, .int v5), (2, .int v2), (0, .ref a), (1, .int x)]) hx hb dX6_addOperator_109 hl (by decide) rfl (fun ls hl => ?_)
        refine lv_aload_n hx hb dX6_addOperator_111 rfl (lv_at hl 4 rfl) ?_
        refine lv_aload_n hx hb dX6_addOperator_112 rfl (lv_at hl 4 rfl) ?_
        refine va_get (D := (dC, dI)) (ci := 5) (v := .int afi) (C := RX6) (T := TX6) (N := 8) hx hb hts inG_X6 hown hK hP 0 rfl rfl 6 (by decide) (hts _ fl_X6_31) (fun _ h9 => h9) rfl dX6_addOperator_113 ?_
        refine lv_if_eq (tgt := 132) hx hb dX6_addOperator_116 (by decide) (fun c16 => ?_) (fun c16 => ?_)
        · have c16' := I_eq c16
          refine lv_iconst (v := 0) hx hb dX6_addOperator_132 (by decide) ?_
          refine va_put (D := (dC, dI)) (ci := 5) (v := .int 0) (ty := .boolean) (C := RX6) (T := TX6) (N := 8) hx hb hts inG_X6 tyX6 tyX6_ok nmX6 hown hK hP hD hS 0 rfl rfl 6 (by decide) (hts _ fl_X6_31) (fun _ h9 => h9) rfl (by decide +kernel) (by first | rfl | exact I_narz (by omega)) rfl (Nat.le_of_ble_eq_true rfl) dX6_addOperator_133 (fun H locs hP hD hS => ?_)
          have hP : va_P (dC, dI) vwCl [(a, .inr (5, [.ref as, .ref aw, .ref ak, .int asc, .int awc, .int aht, .int 0, .int amd])), (as, .inl (cI, 12, .inl asf)), (ak, .inl (cI, 12, .inl akf))] H := hP
          have hD : va_D A [(a, .inr (5, [.ref as, .ref aw, .ref ak, .int asc, .int awc, .int aht, .int 0, .int amd])), (as, .inl (cI, 12, .inl asf)), (ak, .inl (cI, 12, .inl akf))] := hD
          refine lv_goto (tgt := 263) hx hb dX6_addOperator_136 (by decide) ?_
          exact J263 0 0 (by first | assumption | omega) H locs ls hP hD hS hl
        · have c16' := I_ne c16
          refine lv_iload_n hx hb dX6_addOperator_119 rfl (lv_at hl 2 rfl) ?_
          refine lv_if_ne (tgt := 132) hx hb dX6_addOperator_120 (by decide) (fun c17 => ?_) (fun c17 => ?_)
          · have c17' := I_ne c17
            refine lv_iconst (v := 0) hx hb dX6_addOperator_132 (by decide) ?_
            refine va_put (D := (dC, dI)) (ci := 5) (v := .int 0) (ty := .boolean) (C := RX6) (T := TX6) (N := 8) hx hb hts inG_X6 tyX6 tyX6_ok nmX6 hown hK hP hD hS 0 rfl rfl 6 (by decide) (hts _ fl_X6_31) (fun _ h9 => h9) rfl (by decide +kernel) (by first | rfl | exact I_narz (by omega)) rfl (Nat.le_of_ble_eq_true rfl) dX6_addOperator_133 (fun H locs hP hD hS => ?_)
            have hP : va_P (dC, dI) vwCl [(a, .inr (5, [.ref as, .ref aw, .ref ak, .int asc, .int awc, .int aht, .int 0, .int amd])), (as, .inl (cI, 12, .inl asf)), (ak, .inl (cI, 12, .inl akf))] H := hP
            have hD : va_D A [(a, .inr (5, [.ref as, .ref aw, .ref ak, .int asc, .int awc, .int aht, .int 0, .int amd])), (as, .inl (cI, 12, .inl asf)), (ak, .inl (cI, 12, .inl akf))] := hD
            refine lv_goto (tgt := 263) hx hb dX6_addOperator_136 (by decide) ?_
            exact J263 0 0 (by first | assumption | omega) H locs ls hP hD hS hl
          · have c17' := I_eq c17
            refine lv_iload hx hb dX6_addOperator_123 (lv_at hl 1 rfl) ?_
            refine lv_if_ne (tgt := 132) hx hb dX6_addOperator_125 (by decide) (fun c18 => ?_) (fun c18 => ?_)
            · have c18' := I_ne c18
              refine lv_iconst (v := 0) hx hb dX6_addOperator_132 (by decide) ?_
              refine va_put (D := (dC, dI)) (ci := 5) (v := .int 0) (ty := .boolean) (C := RX6) (T := TX6) (N := 8) hx hb hts inG_X6 tyX6 tyX6_ok nmX6 hown hK hP hD hS 0 rfl rfl 6 (by decide) (hts _ fl_X6_31) (fun _ h9 => h9) rfl (by decide +kernel) (by first | rfl | exact I_narz (by omega)) rfl (Nat.le_of_ble_eq_true rfl) dX6_addOperator_133 (fun H locs hP hD hS => ?_)
              have hP : va_P (dC, dI) vwCl [(a, .inr (5, [.ref as, .ref aw, .ref ak, .int asc, .int awc, .int aht, .int 0, .int amd])), (as, .inl (cI, 12, .inl asf)), (ak, .inl (cI, 12, .inl akf))] H := hP
              have hD : va_D A [(a, .inr (5, [.ref as, .ref aw, .ref ak, .int asc, .int awc, .int aht, .int 0, .int amd])), (as, .inl (cI, 12, .inl asf)), (ak, .inl (cI, 12, .inl akf))] := hD
              refine lv_goto (tgt := 263) hx hb dX6_addOperator_136 (by decide) ?_
              exact J263 0 0 (by first | assumption | omega) H locs ls hP hD hS hl
            · have c18' := I_eq c18
              refine lv_iconst (v := 1) hx hb dX6_addOperator_128 (by decide) ?_
              refine lv_goto (tgt := 133) hx hb dX6_addOperator_129 (by decide) ?_
              refine va_put (D := (dC, dI)) (ci := 5) (v := .int 1) (ty := .boolean) (C := RX6) (T := TX6) (N := 8) hx hb hts inG_X6 tyX6 tyX6_ok nmX6 hown hK hP hD hS 0 rfl rfl 6 (by decide) (hts _ fl_X6_31) (fun _ h9 => h9) rfl (by decide +kernel) (by first | rfl | exact I_narz (by omega)) rfl (Nat.le_of_ble_eq_true rfl) dX6_addOperator_133 (fun H locs hP hD hS => ?_)
              have hP : va_P (dC, dI) vwCl [(a, .inr (5, [.ref as, .ref aw, .ref ak, .int asc, .int awc, .int aht, .int 1, .int amd])), (as, .inl (cI, 12, .inl asf)), (ak, .inl (cI, 12, .inl akf))] H := hP
              have hD : va_D A [(a, .inr (5, [.ref as, .ref aw, .ref ak, .int asc, .int awc, .int aht, .int 1, .int amd])), (as, .inl (cI, 12, .inl asf)), (ak, .inl (cI, 12, .inl akf))] := hD
              refine lv_goto (tgt := 263) hx hb dX6_addOperator_136 (by decide) ?_
              exact J263 0 1 (by first | assumption | omega) H locs ls hP hD hS hl
      · refine lv_tableIn (off := 54) (tgt := 108) hx hb dX6_addOperator_54 (by omega) (by omega) (by rw [c12]; rfl) (by decide) ?_
        refine lv_iconst (v := 0) hx hb dX6_addOperator_108 (by decide) ?_
        refine lv_istore (lv' := [(5, .int 0), (4, .int v7), (3, .int v5), (2, .int v2), (0, .ref a), (1, .int x)]) hx hb dX6_addOperator_109 hl (by decide) rfl (fun ls hl => ?_)
        refine lv_aload_n hx hb dX6_addOperator_111 rfl (lv_at hl 4 rfl) ?_
        refine lv_aload_n hx hb dX6_addOperator_112 rfl (lv_at hl 4 rfl) ?_
        refine va_get (D := (dC, dI)) (ci := 5) (v := .int afi) (C := RX6) (T := TX6) (N := 8) hx hb hts inG_X6 hown hK hP 0 rfl rfl 6 (by decide) (hts _ fl_X6_31) (fun _ h9 => h9) rfl dX6_addOperator_113 ?_
        refine lv_if_eq (tgt := 132) hx hb dX6_addOperator_116 (by decide) (fun c19 => ?_) (fun c19 => ?_)
        · have c19' := I_eq c19
          refine lv_iconst (v := 0) hx hb dX6_addOperator_132 (by decide) ?_
          refine va_put (D := (dC, dI)) (ci := 5) (v := .int 0) (ty := .boolean) (C := RX6) (T := TX6) (N := 8) hx hb hts inG_X6 tyX6 tyX6_ok nmX6 hown hK hP hD hS 0 rfl rfl 6 (by decide) (hts _ fl_X6_31) (fun _ h9 => h9) rfl (by decide +kernel) (by first | rfl | exact I_narz (by omega)) rfl (Nat.le_of_ble_eq_true rfl) dX6_addOperator_133 (fun H locs hP hD hS => ?_)
          have hP : va_P (dC, dI) vwCl [(a, .inr (5, [.ref as, .ref aw, .ref ak, .int asc, .int awc, .int aht, .int 0, .int amd])), (as, .inl (cI, 12, .inl asf)), (ak, .inl (cI, 12, .inl akf))] H := hP
          have hD : va_D A [(a, .inr (5, [.ref as, .ref aw, .ref ak, .int asc, .int awc, .int aht, .int 0, .int amd])), (as, .inl (cI, 12, .inl asf)), (ak, .inl (cI, 12, .inl akf))] := hD
          refine lv_goto (tgt := 263) hx hb dX6_addOperator_136 (by decide) ?_
          exact J263 0 0 (by first | assumption | omega) H locs ls hP hD hS hl
        · have c19' := I_ne c19
          refine lv_iload_n hx hb dX6_addOperator_119 rfl (lv_at hl 2 rfl) ?_
          refine lv_if_ne (tgt := 132) hx hb dX6_addOperator_120 (by decide) (fun c20 => ?_) (fun c20 => ?_)
          · have c20' := I_ne c20
            refine lv_iconst (v := 0) hx hb dX6_addOperator_132 (by decide) ?_
            refine va_put (D := (dC, dI)) (ci := 5) (v := .int 0) (ty := .boolean) (C := RX6) (T := TX6) (N := 8) hx hb hts inG_X6 tyX6 tyX6_ok nmX6 hown hK hP hD hS 0 rfl rfl 6 (by decide) (hts _ fl_X6_31) (fun _ h9 => h9) rfl (by decide +kernel) (by first | rfl | exact I_narz (by omega)) rfl (Nat.le_of_ble_eq_true rfl) dX6_addOperator_133 (fun H locs hP hD hS => ?_)
            have hP : va_P (dC, dI) vwCl [(a, .inr (5, [.ref as, .ref aw, .ref ak, .int asc, .int awc, .int aht, .int 0, .int amd])), (as, .inl (cI, 12, .inl asf)), (ak, .inl (cI, 12, .inl akf))] H := hP
            have hD : va_D A [(a, .inr (5, [.ref as, .ref aw, .ref ak, .int asc, .int awc, .int aht, .int 0, .int amd])), (as, .inl (cI, 12, .inl asf)), (ak, .inl (cI, 12, .inl akf))] := hD
            refine lv_goto (tgt := 263) hx hb dX6_addOperator_136 (by decide) ?_
            exact J263 0 0 (by first | assumption | omega) H locs ls hP hD hS hl
          · have c20' := I_eq c20
            refine lv_iload hx hb dX6_addOperator_123 (lv_at hl 1 rfl) ?_
            refine lv_if_ne (tgt := 132) hx hb dX6_addOperator_125 (by decide) (fun c21 => ?_) (fun c21 => ?_)
            · have c21' := I_ne c21
              refine lv_iconst (v := 0) hx hb dX6_addOperator_132 (by decide) ?_
              refine va_put (D := (dC, dI)) (ci := 5) (v := .int 0) (ty := .boolean) (C := RX6) (T := TX6) (N := 8) hx hb hts inG_X6 tyX6 tyX6_ok nmX6 hown hK hP hD hS 0 rfl rfl 6 (by decide) (hts _ fl_X6_31) (fun _ h9 => h9) rfl (by decide +kernel) (by first | rfl | exact I_narz (by omega)) rfl (Nat.le_of_ble_eq_true rfl) dX6_addOperator_133 (fun H locs hP hD hS => ?_)
              have hP : va_P (dC, dI) vwCl [(a, .inr (5, [.ref as, .ref aw, .ref ak, .int asc, .int awc, .int aht, .int 0, .int amd])), (as, .inl (cI, 12, .inl asf)), (ak, .inl (cI, 12, .inl akf))] H := hP
              have hD : va_D A [(a, .inr (5, [.ref as, .ref aw, .ref ak, .int asc, .int awc, .int aht, .int 0, .int amd])), (as, .inl (cI, 12, .inl asf)), (ak, .inl (cI, 12, .inl akf))] := hD
              refine lv_goto (tgt := 263) hx hb dX6_addOperator_136 (by decide) ?_
              exact J263 0 0 (by first | assumption | omega) H locs ls hP hD hS hl
            · have c21' := I_eq c21
              refine lv_iconst (v := 1) hx hb dX6_addOperator_128 (by decide) ?_
              refine lv_goto (tgt := 133) hx hb dX6_addOperator_129 (by decide) ?_
              refine va_put (D := (dC, dI)) (ci := 5) (v := .int 1) (ty := .boolean) (C := RX6) (T := TX6) (N := 8) hx hb hts inG_X6 tyX6 tyX6_ok nmX6 hown hK hP hD hS 0 rfl rfl 6 (by decide) (hts _ fl_X6_31) (fun _ h9 => h9) rfl (by decide +kernel) (by first | rfl | exact I_narz (by omega)) rfl (Nat.le_of_ble_eq_true rfl) dX6_addOperator_133 (fun H locs hP hD hS => ?_)
              have hP : va_P (dC, dI) vwCl [(a, .inr (5, [.ref as, .ref aw, .ref ak, .int asc, .int awc, .int aht, .int 1, .int amd])), (as, .inl (cI, 12, .inl asf)), (ak, .inl (cI, 12, .inl akf))] H := hP
              have hD : va_D A [(a, .inr (5, [.ref as, .ref aw, .ref ak, .int asc, .int awc, .int aht, .int 1, .int amd])), (as, .inl (cI, 12, .inl asf)), (ak, .inl (cI, 12, .inl akf))] := hD
              refine lv_goto (tgt := 263) hx hb dX6_addOperator_136 (by decide) ?_
              exact J263 0 1 (by first | assumption | omega) H locs ls hP hD hS hl
      · refine lv_tableIn (off := 85) (tgt := 139) hx hb dX6_addOperator_54 (by omega) (by omega) (by rw [c12]; rfl) (by decide) ?_
        refine lv_aload_n hx hb dX6_addOperator_139 rfl (lv_at hl 4 rfl) ?_
        refine lv_aload_n hx hb dX6_addOperator_140 rfl (lv_at hl 4 rfl) ?_
        refine va_get (D := (dC, dI)) (ci := 5) (v := .int afi) (C := RX6) (T := TX6) (N := 8) hx hb hts inG_X6 hown hK hP 0 rfl rfl 6 (by decide) (hts _ fl_X6_31) (fun _ h9 => h9) rfl dX6_addOperator_141 ?_
        refine lv_if_eq (tgt := 160) hx hb dX6_addOperator_144 (by decide) (fun c22 => ?_) (fun c22 => ?_)
        · have c22' := I_eq c22
          refine lv_iconst (v := 0) hx hb dX6_addOperator_160 (by decide) ?_
          refine va_put (D := (dC, dI)) (ci := 5) (v := .int 0) (ty := .boolean) (C := RX6) (T := TX6) (N := 8) hx hb hts inG_X6 tyX6 tyX6_ok nmX6 hown hK hP hD hS 0 rfl rfl 6 (by decide) (hts _ fl_X6_31) (fun _ h9 => h9) rfl (by decide +kernel) (by first | rfl | exact I_narz (by omega)) rfl (Nat.le_of_ble_eq_true rfl) dX6_addOperator_161 (fun H locs hP hD hS => ?_)
          have hP : va_P (dC, dI) vwCl [(a, .inr (5, [.ref as, .ref aw, .ref ak, .int asc, .int awc, .int aht, .int 0, .int amd])), (as, .inl (cI, 12, .inl asf)), (ak, .inl (cI, 12, .inl akf))] H := hP
          have hD : va_D A [(a, .inr (5, [.ref as, .ref aw, .ref ak, .int asc, .int awc, .int aht, .int 0, .int amd])), (as, .inl (cI, 12, .inl asf)), (ak, .inl (cI, 12, .inl akf))] := hD
          refine lv_goto (tgt := 263) hx hb dX6_addOperator_164 (by decide) ?_
          exact J263 1 0 (by first | assumption | omega) H locs ls hP hD hS hl
        · have c22' := I_ne c22
          refine lv_iload_n hx hb dX6_addOperator_147 rfl (lv_at hl 2 rfl) ?_
          refine lv_if_ne (tgt := 160) hx hb dX6_addOperator_148 (by decide) (fun c23 => ?_) (fun c23 => ?_)
          · have c23' := I_ne c23
            refine lv_iconst (v := 0) hx hb dX6_addOperator_160 (by decide) ?_
            refine va_put (D := (dC, dI)) (ci := 5) (v := .int 0) (ty := .boolean) (C := RX6) (T := TX6) (N := 8) hx hb hts inG_X6 tyX6 tyX6_ok nmX6 hown hK hP hD hS 0 rfl rfl 6 (by decide) (hts _ fl_X6_31) (fun _ h9 => h9) rfl (by decide +kernel) (by first | rfl | exact I_narz (by omega)) rfl (Nat.le_of_ble_eq_true rfl) dX6_addOperator_161 (fun H locs hP hD hS => ?_)
            have hP : va_P (dC, dI) vwCl [(a, .inr (5, [.ref as, .ref aw, .ref ak, .int asc, .int awc, .int aht, .int 0, .int amd])), (as, .inl (cI, 12, .inl asf)), (ak, .inl (cI, 12, .inl akf))] H := hP
            have hD : va_D A [(a, .inr (5, [.ref as, .ref aw, .ref ak, .int asc, .int awc, .int aht, .int 0, .int amd])), (as, .inl (cI, 12, .inl asf)), (ak, .inl (cI, 12, .inl akf))] := hD
            refine lv_goto (tgt := 263) hx hb dX6_addOperator_164 (by decide) ?_
            exact J263 1 0 (by first | assumption | omega) H locs ls hP hD hS hl
          · have c23' := I_eq c23
            refine lv_iload hx hb dX6_addOperator_151 (lv_at hl 1 rfl) ?_
            refine lv_if_ne (tgt := 160) hx hb dX6_addOperator_153 (by decide) (fun c24 => ?_) (fun c24 => ?_)
            · have c24' := I_ne c24
              refine lv_iconst (v := 0) hx hb dX6_addOperator_160 (by decide) ?_
              refine va_put (D := (dC, dI)) (ci := 5) (v := .int 0) (ty := .boolean) (C := RX6) (T := TX6) (N := 8) hx hb hts inG_X6 tyX6 tyX6_ok nmX6 hown hK hP hD hS 0 rfl rfl 6 (by decide) (hts _ fl_X6_31) (fun _ h9 => h9) rfl (by decide +kernel) (by first | rfl | exact I_narz (by omega)) rfl (Nat.le_of_ble_eq_true rfl) dX6_addOperator_161 (fun H locs hP hD hS => ?_)
              have hP : va_P (dC, dI) vwCl [(a, .inr (5, [.ref as, .ref aw, .ref ak, .int asc, .int awc, .int aht, .int 0, .int amd])), (as, .inl (cI, 12, .inl asf)), (ak, .inl (cI, 12, .inl akf))] H := hP
              have hD : va_D A [(a, .inr (5, [.ref as, .ref aw, .ref ak, .int asc, .int awc, .int aht, .int 0, .int amd])), (as, .inl (cI, 12, .inl asf)), (ak, .inl (cI, 12, .inl akf))] := hD
              refine lv_goto (tgt := 263) hx hb dX6_addOperator_164 (by decide) ?_
              exact J263 1 0 (by first | assumption | omega) H locs ls hP hD hS hl
            · have c24' := I_eq c24
              refine lv_iconst (v := 1) hx hb dX6_addOperator_156 (by decide) ?_
              refine lv_goto (tgt := 161) hx hb dX6_addOperator_157 (by decide) ?_
              refine va_put (D := (dC, dI)) (ci := 5) (v := .int 1) (ty := .boolean) (C := RX6) (T := TX6) (N := 8) hx hb hts inG_X6 tyX6 tyX6_ok nmX6 hown hK hP hD hS 0 rfl rfl 6 (by decide) (hts _ fl_X6_31) (fun _ h9 => h9) rfl (by decide +kernel) (by first | rfl | exact I_narz (by omega)) rfl (Nat.le_of_ble_eq_true rfl) dX6_addOperator_161 (fun H locs hP hD hS => ?_)
              have hP : va_P (dC, dI) vwCl [(a, .inr (5, [.ref as, .ref aw, .ref ak, .int asc, .int awc, .int aht, .int 1, .int amd])), (as, .inl (cI, 12, .inl asf)), (ak, .inl (cI, 12, .inl akf))] H := hP
              have hD : va_D A [(a, .inr (5, [.ref as, .ref aw, .ref ak, .int asc, .int awc, .int aht, .int 1, .int amd])), (as, .inl (cI, 12, .inl asf)), (ak, .inl (cI, 12, .inl akf))] := hD
              refine lv_goto (tgt := 263) hx hb dX6_addOperator_164 (by decide) ?_
              exact J263 1 1 (by first | assumption | omega) H locs ls hP hD hS hl
      · refine lv_tableIn (off := 113) (tgt := 167) hx hb dX6_addOperator_54 (by omega) (by omega) (by rw [c12]; rfl) (by decide) ?_
        refine lv_aload_n hx hb dX6_addOperator_167 rfl (lv_at hl 4 rfl) ?_
        refine lv_aload_n hx hb dX6_addOperator_168 rfl (lv_at hl 4 rfl) ?_
        refine va_get (D := (dC, dI)) (ci := 5) (v := .int afi) (C := RX6) (T := TX6) (N := 8) hx hb hts inG_X6 hown hK hP 0 rfl rfl 6 (by decide) (hts _ fl_X6_31) (fun _ h9 => h9) rfl dX6_addOperator_169 ?_
        refine lv_if_eq (tgt := 185) hx hb dX6_addOperator_172 (by decide) (fun c25 => ?_) (fun c25 => ?_)
        · have c25' := I_eq c25
          refine lv_iconst (v := 0) hx hb dX6_addOperator_185 (by decide) ?_
          refine va_put (D := (dC, dI)) (ci := 5) (v := .int 0) (ty := .boolean) (C := RX6) (T := TX6) (N := 8) hx hb hts inG_X6 tyX6 tyX6_ok nmX6 hown hK hP hD hS 0 rfl rfl 6 (by decide) (hts _ fl_X6_31) (fun _ h9 => h9) rfl (by decide +kernel) (by first | rfl | exact I_narz (by omega)) rfl (Nat.le_of_ble_eq_true rfl) dX6_addOperator_186 (fun H locs hP hD hS => ?_)
          have hP : va_P (dC, dI) vwCl [(a, .inr (5, [.ref as, .ref aw, .ref ak, .int asc, .int awc, .int aht, .int 0, .int amd])), (as, .inl (cI, 12, .inl asf)), (ak, .inl (cI, 12, .inl akf))] H := hP
          have hD : va_D A [(a, .inr (5, [.ref as, .ref aw, .ref ak, .int asc, .int awc, .int aht, .int 0, .int amd])), (as, .inl (cI, 12, .inl asf)), (ak, .inl (cI, 12, .inl akf))] := hD
          refine lv_goto (tgt := 263) hx hb dX6_addOperator_189 (by decide) ?_
          exact J263 1 0 (by first | assumption | omega) H locs ls hP hD hS hl
        · have c25' := I_ne c25
          refine lv_iload_n hx hb dX6_addOperator_175 rfl (lv_at hl 2 rfl) ?_
          refine lv_iload hx hb dX6_addOperator_176 (lv_at hl 1 rfl) ?_
          refine lv_icmp_ne (tgt := 185) hx hb dX6_addOperator_178 (by decide) (fun c26 => ?_) (fun c26 => ?_)
          · have c26' := I_ne c26
            refine lv_iconst (v := 0) hx hb dX6_addOperator_185 (by decide) ?_
            refine va_put (D := (dC, dI)) (ci := 5) (v := .int 0) (ty := .boolean) (C := RX6) (T := TX6) (N := 8) hx hb hts inG_X6 tyX6 tyX6_ok nmX6 hown hK hP hD hS 0 rfl rfl 6 (by decide) (hts _ fl_X6_31) (fun _ h9 => h9) rfl (by decide +kernel) (by first | rfl | exact I_narz (by omega)) rfl (Nat.le_of_ble_eq_true rfl) dX6_addOperator_186 (fun H locs hP hD hS => ?_)
            have hP : va_P (dC, dI) vwCl [(a, .inr (5, [.ref as, .ref aw, .ref ak, .int asc, .int awc, .int aht, .int 0, .int amd])), (as, .inl (cI, 12, .inl asf)), (ak, .inl (cI, 12, .inl akf))] H := hP
            have hD : va_D A [(a, .inr (5, [.ref as, .ref aw, .ref ak, .int asc, .int awc, .int aht, .int 0, .int amd])), (as, .inl (cI, 12, .inl asf)), (ak, .inl (cI, 12, .inl akf))] := hD
            refine lv_goto (tgt := 263) hx hb dX6_addOperator_189 (by decide) ?_
            exact J263 1 0 (by first | assumption | omega) H locs ls hP hD hS hl
          · have c26' := I_eq c26
            refine lv_iconst (v := 1) hx hb dX6_addOperator_181 (by decide) ?_
            refine lv_goto (tgt := 186) hx hb dX6_addOperator_182 (by decide) ?_
            refine va_put (D := (dC, dI)) (ci := 5) (v := .int 1) (ty := .boolean) (C := RX6) (T := TX6) (N := 8) hx hb hts inG_X6 tyX6 tyX6_ok nmX6 hown hK hP hD hS 0 rfl rfl 6 (by decide) (hts _ fl_X6_31) (fun _ h9 => h9) rfl (by decide +kernel) (by first | rfl | exact I_narz (by omega)) rfl (Nat.le_of_ble_eq_true rfl) dX6_addOperator_186 (fun H locs hP hD hS => ?_)
            have hP : va_P (dC, dI) vwCl [(a, .inr (5, [.ref as, .ref aw, .ref ak, .int asc, .int awc, .int aht, .int 1, .int amd])), (as, .inl (cI, 12, .inl asf)), (ak, .inl (cI, 12, .inl akf))] H := hP
            have hD : va_D A [(a, .inr (5, [.ref as, .ref aw, .ref ak, .int asc, .int awc, .int aht, .int 1, .int amd])), (as, .inl (cI, 12, .inl asf)), (ak, .inl (cI, 12, .inl akf))] := hD
            refine lv_goto (tgt := 263) hx hb dX6_addOperator_189 (by decide) ?_
            exact J263 1 1 (by first | assumption | omega) H locs ls hP hD hS hl
      · refine lv_tableIn (off := 182) (tgt := 236) hx hb dX6_addOperator_54 (by omega) (by omega) (by rw [c12]; rfl) (by decide) ?_
        refine lv_aload_n hx hb dX6_addOperator_236 rfl (lv_at hl 4 rfl) ?_
        refine lv_aload_n hx hb dX6_addOperator_237 rfl (lv_at hl 4 rfl) ?_
        refine va_get (D := (dC, dI)) (ci := 5) (v := .int afi) (C := RX6) (T := TX6) (N := 8) hx hb hts inG_X6 hown hK hP 0 rfl rfl 6 (by decide) (hts _ fl_X6_31) (fun _ h9 => h9) rfl dX6_addOperator_238 ?_
        refine lv_if_eq (tgt := 259) hx hb dX6_addOperator_241 (by decide) (fun c27 => ?_) (fun c27 => ?_)
        · have c27' := I_eq c27
          refine lv_iconst (v := 0) hx hb dX6_addOperator_259 (by decide) ?_
          refine va_put (D := (dC, dI)) (ci := 5) (v := .int 0) (ty := .boolean) (C := RX6) (T := TX6) (N := 8) hx hb hts inG_X6 tyX6 tyX6_ok nmX6 hown hK hP hD hS 0 rfl rfl 6 (by decide) (hts _ fl_X6_31) (fun _ h9 => h9) rfl (by decide +kernel) (by first | rfl | exact I_narz (by omega)) rfl (Nat.le_of_ble_eq_true rfl) dX6_addOperator_260 (fun H locs hP hD hS => ?_)
          have hP : va_P (dC, dI) vwCl [(a, .inr (5, [.ref as, .ref aw, .ref ak, .int asc, .int awc, .int aht, .int 0, .int amd])), (as, .inl (cI, 12, .inl asf)), (ak, .inl (cI, 12, .inl akf))] H := hP
          have hD : va_D A [(a, .inr (5, [.ref as, .ref aw, .ref ak, .int asc, .int awc, .int aht, .int 0, .int amd])), (as, .inl (cI, 12, .inl asf)), (ak, .inl (cI, 12, .inl akf))] := hD
          exact J263 1 0 (by first | assumption | omega) H locs ls hP hD hS hl
        · have c27' := I_ne c27
          refine lv_iload_n hx hb dX6_addOperator_244 rfl (lv_at hl 2 rfl) ?_
          refine lv_iconst (v := 1) hx hb dX6_addOperator_245 (by decide) ?_
          refine lv_icmp_ne (tgt := 259) hx hb dX6_addOperator_246 (by decide) (fun c28 => ?_) (fun c28 => ?_)
          · have c28' := I_ne c28
            refine lv_iconst (v := 0) hx hb dX6_addOperator_259 (by decide) ?_
            refine va_put (D := (dC, dI)) (ci := 5) (v := .int 0) (ty := .boolean) (C := RX6) (T := TX6) (N := 8) hx hb hts inG_X6 tyX6 tyX6_ok nmX6 hown hK hP hD hS 0 rfl rfl 6 (by decide) (hts _ fl_X6_31) (fun _ h9 => h9) rfl (by decide +kernel) (by first | rfl | exact I_narz (by omega)) rfl (Nat.le_of_ble_eq_true rfl) dX6_addOperator_260 (fun H locs hP hD hS => ?_)
            have hP : va_P (dC, dI) vwCl [(a, .inr (5, [.ref as, .ref aw, .ref ak, .int asc, .int awc, .int aht, .int 0, .int amd])), (as, .inl (cI, 12, .inl asf)), (ak, .inl (cI, 12, .inl akf))] H := hP
            have hD : va_D A [(a, .inr (5, [.ref as, .ref aw, .ref ak, .int asc, .int awc, .int aht, .int 0, .int amd])), (as, .inl (cI, 12, .inl asf)), (ak, .inl (cI, 12, .inl akf))] := hD
            exact J263 1 0 (by first | assumption | omega) H locs ls hP hD hS hl
          · have c28' := I_eq c28
            refine lv_iload hx hb dX6_addOperator_249 (lv_at hl 1 rfl) ?_
            refine lv_iconst (v := 1) hx hb dX6_addOperator_251 (by decide) ?_
            refine lv_icmp_ne (tgt := 259) hx hb dX6_addOperator_252 (by decide) (fun c29 => ?_) (fun c29 => ?_)
            · have c29' := I_ne c29
              refine lv_iconst (v := 0) hx hb dX6_addOperator_259 (by decide) ?_
              refine va_put (D := (dC, dI)) (ci := 5) (v := .int 0) (ty := .boolean) (C := RX6) (T := TX6) (N := 8) hx hb hts inG_X6 tyX6 tyX6_ok nmX6 hown hK hP hD hS 0 rfl rfl 6 (by decide) (hts _ fl_X6_31) (fun _ h9 => h9) rfl (by decide +kernel) (by first | rfl | exact I_narz (by omega)) rfl (Nat.le_of_ble_eq_true rfl) dX6_addOperator_260 (fun H locs hP hD hS => ?_)
              have hP : va_P (dC, dI) vwCl [(a, .inr (5, [.ref as, .ref aw, .ref ak, .int asc, .int awc, .int aht, .int 0, .int amd])), (as, .inl (cI, 12, .inl asf)), (ak, .inl (cI, 12, .inl akf))] H := hP
              have hD : va_D A [(a, .inr (5, [.ref as, .ref aw, .ref ak, .int asc, .int awc, .int aht, .int 0, .int amd])), (as, .inl (cI, 12, .inl asf)), (ak, .inl (cI, 12, .inl akf))] := hD
              exact J263 1 0 (by first | assumption | omega) H locs ls hP hD hS hl
            · have c29' := I_eq c29
              refine lv_iconst (v := 1) hx hb dX6_addOperator_255 (by decide) ?_
              refine lv_goto (tgt := 260) hx hb dX6_addOperator_256 (by decide) ?_
              refine va_put (D := (dC, dI)) (ci := 5) (v := .int 1) (ty := .boolean) (C := RX6) (T := TX6) (N := 8) hx hb hts inG_X6 tyX6 tyX6_ok nmX6 hown hK hP hD hS 0 rfl rfl 6 (by decide) (hts _ fl_X6_31) (fun _ h9 => h9) rfl (by decide +kernel) (by first | rfl | exact I_narz (by omega)) rfl (Nat.le_of_ble_eq_true rfl) dX6_addOperator_260 (fun H locs hP hD hS => ?_)
              have hP : va_P (dC, dI) vwCl [(a, .inr (5, [.ref as, .ref aw, .ref ak, .int asc, .int awc, .int aht, .int 1, .int amd])), (as, .inl (cI, 12, .inl asf)), (ak, .inl (cI, 12, .inl akf))] H := hP
              have hD : va_D A [(a, .inr (5, [.ref as, .ref aw, .ref ak, .int asc, .int awc, .int aht, .int 1, .int amd])), (as, .inl (cI, 12, .inl asf)), (ak, .inl (cI, 12, .inl akf))] := hD
              exact J263 1 1 (by first | assumption | omega) H locs ls hP hD hS hl
      · refine lv_tableIn (off := 182) (tgt := 236) hx hb dX6_addOperator_54 (by omega) (by omega) (by rw [c12]; rfl) (by decide) ?_
        refine lv_aload_n hx hb dX6_addOperator_236 rfl (lv_at hl 4 rfl) ?_
        refine lv_aload_n hx hb dX6_addOperator_237 rfl (lv_at hl 4 rfl) ?_
        refine va_get (D := (dC, dI)) (ci := 5) (v := .int afi) (C := RX6) (T := TX6) (N := 8) hx hb hts inG_X6 hown hK hP 0 rfl rfl 6 (by decide) (hts _ fl_X6_31) (fun _ h9 => h9) rfl dX6_addOperator_238 ?_
        refine lv_if_eq (tgt := 259) hx hb dX6_addOperator_241 (by decide) (fun c30 => ?_) (fun c30 => ?_)
        · have c30' := I_eq c30
          refine lv_iconst (v := 0) hx hb dX6_addOperator_259 (by decide) ?_
          refine va_put (D := (dC, dI)) (ci := 5) (v := .int 0) (ty := .boolean) (C := RX6) (T := TX6) (N := 8) hx hb hts inG_X6 tyX6 tyX6_ok nmX6 hown hK hP hD hS 0 rfl rfl 6 (by decide) (hts _ fl_X6_31) (fun _ h9 => h9) rfl (by decide +kernel) (by first | rfl | exact I_narz (by omega)) rfl (Nat.le_of_ble_eq_true rfl) dX6_addOperator_260 (fun H locs hP hD hS => ?_)
          have hP : va_P (dC, dI) vwCl [(a, .inr (5, [.ref as, .ref aw, .ref ak, .int asc, .int awc, .int aht, .int 0, .int amd])), (as, .inl (cI, 12, .inl asf)), (ak, .inl (cI, 12, .inl akf))] H := hP
          have hD : va_D A [(a, .inr (5, [.ref as, .ref aw, .ref ak, .int asc, .int awc, .int aht, .int 0, .int amd])), (as, .inl (cI, 12, .inl asf)), (ak, .inl (cI, 12, .inl akf))] := hD
          exact J263 1 0 (by first | assumption | omega) H locs ls hP hD hS hl
        · have c30' := I_ne c30
          refine lv_iload_n hx hb dX6_addOperator_244 rfl (lv_at hl 2 rfl) ?_
          refine lv_iconst (v := 1) hx hb dX6_addOperator_245 (by decide) ?_
          refine lv_icmp_ne (tgt := 259) hx hb dX6_addOperator_246 (by decide) (fun c31 => ?_) (fun c31 => ?_)
          · have c31' := I_ne c31
            refine lv_iconst (v := 0) hx hb dX6_addOperator_259 (by decide) ?_
            refine va_put (D := (dC, dI)) (ci := 5) (v := .int 0) (ty := .boolean) (C := RX6) (T := TX6) (N := 8) hx hb hts inG_X6 tyX6 tyX6_ok nmX6 hown hK hP hD hS 0 rfl rfl 6 (by decide) (hts _ fl_X6_31) (fun _ h9 => h9) rfl (by decide +kernel) (by first | rfl | exact I_narz (by omega)) rfl (Nat.le_of_ble_eq_true rfl) dX6_addOperator_260 (fun H locs hP hD hS => ?_)
            have hP : va_P (dC, dI) vwCl [(a, .inr (5, [.ref as, .ref aw, .ref ak, .int asc, .int awc, .int aht, .int 0, .int amd])), (as, .inl (cI, 12, .inl asf)), (ak, .inl (cI, 12, .inl akf))] H := hP
            have hD : va_D A [(a, .inr (5, [.ref as, .ref aw, .ref ak, .int asc, .int awc, .int aht, .int 0, .int amd])), (as, .inl (cI, 12, .inl asf)), (ak, .inl (cI, 12, .inl akf))] := hD
            exact J263 1 0 (by first | assumption | omega) H locs ls hP hD hS hl
          · have c31' := I_eq c31
            refine lv_iload hx hb dX6_addOperator_249 (lv_at hl 1 rfl) ?_
            refine lv_iconst (v := 1) hx hb dX6_addOperator_251 (by decide) ?_
            refine lv_icmp_ne (tgt := 259) hx hb dX6_addOperator_252 (by decide) (fun c32 => ?_) (fun c32 => ?_)
            · have c32' := I_ne c32
              refine lv_iconst (v := 0) hx hb dX6_addOperator_259 (by decide) ?_
              refine va_put (D := (dC, dI)) (ci := 5) (v := .int 0) (ty := .boolean) (C := RX6) (T := TX6) (N := 8) hx hb hts inG_X6 tyX6 tyX6_ok nmX6 hown hK hP hD hS 0 rfl rfl 6 (by decide) (hts _ fl_X6_31) (fun _ h9 => h9) rfl (by decide +kernel) (by first | rfl | exact I_narz (by omega)) rfl (Nat.le_of_ble_eq_true rfl) dX6_addOperator_260 (fun H locs hP hD hS => ?_)
              have hP : va_P (dC, dI) vwCl [(a, .inr (5, [.ref as, .ref aw, .ref ak, .int asc, .int awc, .int aht, .int 0, .int amd])), (as, .inl (cI, 12, .inl asf)), (ak, .inl (cI, 12, .inl akf))] H := hP
              have hD : va_D A [(a, .inr (5, [.ref as, .ref aw, .ref ak, .int asc, .int awc, .int aht, .int 0, .int amd])), (as, .inl (cI, 12, .inl asf)), (ak, .inl (cI, 12, .inl akf))] := hD
              exact J263 1 0 (by first | assumption | omega) H locs ls hP hD hS hl
            · have c32' := I_eq c32
              refine lv_iconst (v := 1) hx hb dX6_addOperator_255 (by decide) ?_
              refine lv_goto (tgt := 260) hx hb dX6_addOperator_256 (by decide) ?_
              refine va_put (D := (dC, dI)) (ci := 5) (v := .int 1) (ty := .boolean) (C := RX6) (T := TX6) (N := 8) hx hb hts inG_X6 tyX6 tyX6_ok nmX6 hown hK hP hD hS 0 rfl rfl 6 (by decide) (hts _ fl_X6_31) (fun _ h9 => h9) rfl (by decide +kernel) (by first | rfl | exact I_narz (by omega)) rfl (Nat.le_of_ble_eq_true rfl) dX6_addOperator_260 (fun H locs hP hD hS => ?_)
              have hP : va_P (dC, dI) vwCl [(a, .inr (5, [.ref as, .ref aw, .ref ak, .int asc, .int awc, .int aht, .int 1, .int amd])), (as, .inl (cI, 12, .inl asf)), (ak, .inl (cI, 12, .inl akf))] H := hP
              have hD : va_D A [(a, .inr (5, [.ref as, .ref aw, .ref ak, .int asc, .int awc, .int aht, .int 1, .int amd])), (as, .inl (cI, 12, .inl asf)), (ak, .inl (cI, 12, .inl akf))] := hD
              exact J263 1 1 (by first | assumption | omega) H locs ls hP hD hS hl
      · exfalso; omega
      · exfalso; omega
      · refine lv_tableIn (off := 138) (tgt := 192) hx hb dX6_addOperator_54 (by omega) (by omega) (by rw [c12]; rfl) (by decide) ?_
        refine lv_iload hx hb dX6_addOperator_192 (lv_at hl 1 rfl) ?_
        refine lv_istore (lv' := [(5, .int v7), (4, .int v7), (3, .int v5), (2, .int v2), (0, .ref a), (1, .int x)]) hx hb dX6_addOperator_194 hl (by decide) rfl (fun ls hl => ?_)
        refine lv_aload_n hx hb dX6_addOperator_196 rfl (lv_at hl 4 rfl) ?_
        refine lv_aload_n hx hb dX6_addOperator_197 rfl (lv_at hl 4 rfl) ?_
        refine va_get (D := (dC, dI)) (ci := 5) (v := .int afi) (C := RX6) (T := TX6) (N := 8) hx hb hts inG_X6 hown hK hP 0 rfl rfl 6 (by decide) (hts _ fl_X6_31) (fun _ h9 => h9) rfl dX6_addOperator_198 ?_
        refine lv_if_eq (tgt := 229) hx hb dX6_addOperator_201 (by decide) (fun c33 => ?_) (fun c33 => ?_)
        · have c33' := I_eq c33
          refine lv_iconst (v := 0) hx hb dX6_addOperator_229 (by decide) ?_
          refine va_put (D := (dC, dI)) (ci := 5) (v := .int 0) (ty := .boolean) (C := RX6) (T := TX6) (N := 8) hx hb hts inG_X6 tyX6 tyX6_ok nmX6 hown hK hP hD hS 0 rfl rfl 6 (by decide) (hts _ fl_X6_31) (fun _ h9 => h9) rfl (by decide +kernel) (by first | rfl | exact I_narz (by omega)) rfl (Nat.le_of_ble_eq_true rfl) dX6_addOperator_230 (fun H locs hP hD hS => ?_)
          have hP : va_P (dC, dI) vwCl [(a, .inr (5, [.ref as, .ref aw, .ref ak, .int asc, .int awc, .int aht, .int 0, .int amd])), (as, .inl (cI, 12, .inl asf)), (ak, .inl (cI, 12, .inl akf))] H := hP
          have hD : va_D A [(a, .inr (5, [.ref as, .ref aw, .ref ak, .int asc, .int awc, .int aht, .int 0, .int amd])), (as, .inl (cI, 12, .inl asf)), (ak, .inl (cI, 12, .inl akf))] := hD
          refine lv_goto (tgt := 263) hx hb dX6_addOperator_233 (by decide) ?_
          exact J263 v7 0 (by first | assumption | omega) H locs ls hP hD hS hl
        · have c33' := I_ne c33
          refine lv_iload_n hx hb dX6_addOperator_204 rfl (lv_at hl 2 rfl) ?_
          refine lv_iconst (v := 1) hx hb dX6_addOperator_205 (by decide) ?_
          refine lv_icmp_ne (tgt := 229) hx hb dX6_addOperator_206 (by decide) (fun c34 => ?_) (fun c34 => ?_)
          · have c34' := I_ne c34
            refine lv_iconst (v := 0) hx hb dX6_addOperator_229 (by decide) ?_
            refine va_put (D := (dC, dI)) (ci := 5) (v := .int 0) (ty := .boolean) (C := RX6) (T := TX6) (N := 8) hx hb hts inG_X6 tyX6 tyX6_ok nmX6 hown hK hP hD hS 0 rfl rfl 6 (by decide) (hts _ fl_X6_31) (fun _ h9 => h9) rfl (by decide +kernel) (by first | rfl | exact I_narz (by omega)) rfl (Nat.le_of_ble_eq_true rfl) dX6_addOperator_230 (fun H locs hP hD hS => ?_)
            have hP : va_P (dC, dI) vwCl [(a, .inr (5, [.ref as, .ref aw, .ref ak, .int asc, .int awc, .int aht, .int 0, .int amd])), (as, .inl (cI, 12, .inl asf)), (ak, .inl (cI, 12, .inl akf))] H := hP
            have hD : va_D A [(a, .inr (5, [.ref as, .ref aw, .ref ak, .int asc, .int awc, .int aht, .int 0, .int amd])), (as, .inl (cI, 12, .inl asf)), (ak, .inl (cI, 12, .inl akf))] := hD
            refine lv_goto (tgt := 263) hx hb dX6_addOperator_233 (by decide) ?_
            exact J263 v7 0 (by first | assumption | omega) H locs ls hP hD hS hl
          · have c34' := I_eq c34
            refine lv_aload_n hx hb dX6_addOperator_209 rfl (lv_at hl 4 rfl) ?_
            refine va_get (D := (dC, dI)) (ci := 5) (v := .ref ak) (C := RX6) (T := TX6) (N := 8) hx hb hts inG_X6 hown hK hP 0 rfl rfl 2 (by decide) (hts _ fl_X6_18) (fun _ h9 => h9) rfl dX6_addOperator_210 ?_
            refine lv_aload_n hx hb dX6_addOperator_213 rfl (lv_at hl 4 rfl) ?_
            refine va_get (D := (dC, dI)) (ci := 5) (v := .int aht) (C := RX6) (T := TX6) (N := 8) hx hb hts inG_X6 hown hK hP 0 rfl rfl 5 (by decide) (hts _ fl_X6_28) (fun _ h9 => h9) rfl dX6_addOperator_214 ?_
            refine lv_iconst (v := 2) hx hb dX6_addOperator_217 (by decide) ?_
            refine lv_isub hx hb dX6_addOperator_218 ?_
            refine lv_topi (fun v35 ev35 => ?_)
            try have hv35 : v35.toInt = aht.toInt - (2 : Int32).toInt := I_subx ev35 (by omega)
            refine va_iald (t0 := 0) hx hb hK hP 2 (ha := rfl) (ht := rfl) (I_in (by omega) (by omega)) dX6_addOperator_219 ?_
            refine lv_topi (fun v36 ev36 => ?_)
            refine lv_iload hx hb dX6_addOperator_220 (lv_at hl 1 rfl) ?_
            refine lv_icmp_ne (tgt := 229) hx hb dX6_addOperator_222 (by decide) (fun c37 => ?_) (fun c37 => ?_)
            · have c37' := I_ne c37
              refine lv_iconst (v := 0) hx hb dX6_addOperator_229 (by decide) ?_
              refine va_put (D := (dC, dI)) (ci := 5) (v := .int 0) (ty := .boolean) (C := RX6) (T := TX6) (N := 8) hx hb hts inG_X6 tyX6 tyX6_ok nmX6 hown hK hP hD hS 0 rfl rfl 6 (by decide) (hts _ fl_X6_31) (fun _ h9 => h9) rfl (by decide +kernel) (by first | rfl | exact I_narz (by omega)) rfl (Nat.le_of_ble_eq_true rfl) dX6_addOperator_230 (fun H locs hP hD hS => ?_)
              have hP : va_P (dC, dI) vwCl [(a, .inr (5, [.ref as, .ref aw, .ref ak, .int asc, .int awc, .int aht, .int 0, .int amd])), (as, .inl (cI, 12, .inl asf)), (ak, .inl (cI, 12, .inl akf))] H := hP
              have hD : va_D A [(a, .inr (5, [.ref as, .ref aw, .ref ak, .int asc, .int awc, .int aht, .int 0, .int amd])), (as, .inl (cI, 12, .inl asf)), (ak, .inl (cI, 12, .inl akf))] := hD
              refine lv_goto (tgt := 263) hx hb dX6_addOperator_233 (by decide) ?_
              exact J263 v7 0 (by first | assumption | omega) H locs ls hP hD hS hl
            · have c37' := I_eq c37
              refine lv_iconst (v := 1) hx hb dX6_addOperator_225 (by decide) ?_
              refine lv_goto (tgt := 230) hx hb dX6_addOperator_226 (by decide) ?_
              refine va_put (D := (dC, dI)) (ci := 5) (v := .int 1) (ty := .boolean) (C := RX6) (T := TX6) (N := 8) hx hb hts inG_X6 tyX6 tyX6_ok nmX6 hown hK hP hD hS 0 rfl rfl 6 (by decide) (hts _ fl_X6_31) (fun _ h9 => h9) rfl (by decide +kernel) (by first | rfl | exact I_narz (by omega)) rfl (Nat.le_of_ble_eq_true rfl) dX6_addOperator_230 (fun H locs hP hD hS => ?_)
              have hP : va_P (dC, dI) vwCl [(a, .inr (5, [.ref as, .ref aw, .ref ak, .int asc, .int awc, .int aht, .int 1, .int amd])), (as, .inl (cI, 12, .inl asf)), (ak, .inl (cI, 12, .inl akf))] H := hP
              have hD : va_D A [(a, .inr (5, [.ref as, .ref aw, .ref ak, .int asc, .int awc, .int aht, .int 1, .int amd])), (as, .inl (cI, 12, .inl asf)), (ak, .inl (cI, 12, .inl akf))] := hD
              refine lv_goto (tgt := 263) hx hb dX6_addOperator_233 (by decide) ?_
              exact J263 v7 1 (by first | assumption | omega) H locs ls hP hD hS hl
      · exfalso; omega
    · have c4' := I_nlt c4
      refine lv_aload_n hx hb dX6_addOperator_24 rfl (lv_at hl 1 rfl) ?_
      refine lv_iconst (v := 0) hx hb dX6_addOperator_25 (by decide) ?_
      refine va_put (D := (dC, dI)) (ci := 5) (v := .int 0) (ty := .boolean) (C := RX6) (T := TX6) (N := 8) hx hb hts inG_X6 tyX6 tyX6_ok nmX6 hown hK hP hD hS 0 rfl rfl 6 (by decide) (hts _ fl_X6_31) (fun _ h9 => h9) rfl (by decide +kernel) (by first | rfl | exact I_narz (by omega)) rfl (Nat.le_of_ble_eq_true rfl) dX6_addOperator_26 (fun H locs hP hD hS => ?_)
      have hP : va_P (dC, dI) vwCl [(a, .inr (5, [.ref as, .ref aw, .ref ak, .int asc, .int awc, .int aht, .int 0, .int amd])), (as, .inl (cI, 12, .inl asf)), (ak, .inl (cI, 12, .inl akf))] H := hP
      have hD : va_D A [(a, .inr (5, [.ref as, .ref aw, .ref ak, .int asc, .int awc, .int aht, .int 0, .int amd])), (as, .inl (cI, 12, .inl asf)), (ak, .inl (cI, 12, .inl akf))] := hD
      exact hret (asc, aht, 0, asf, akf) H locs 29 ls ⟨(show 0 ≤ asc.toInt ∧ asc.toInt ≤ 12 from by first | rfl | assumption | omega), (show 0 ≤ aht.toInt ∧ aht.toInt ≤ 12 from by first | rfl | assumption | omega), (show (0 : Int32).toInt = 0 ∨ (0 : Int32).toInt = 1 from by first | rfl | assumption | omega), (show stOK asf asc from by first | assumption | exact stOK_push (by assumption) (by assumption) (by unfold sOK; omega) (by omega) (by omega)), trivial⟩ hP hD hS dX6_addOperator_29
set_option maxHeartbeats 4000000 in
set_option maxRecDepth 100000 in
theorem c_X6_addOperand (l : Launch) (dC : Nat → ClassId) (dI : Nat → Nat → Nat) (cI cJ : ClassId) (base bB bO : Nat) (a : Nat) (as : Nat) (aw : Nat) (ak : Nat) (asc : Int32) (awc : Int32) (aht : Int32) (afi : Int32) (amd : Int32) (asf : Nat → Int32) (akf : Nat → Int32) (kd : Nat) (kdf : Nat → Int32) (x : Int32) (hq0 : 0 ≤ asc.toInt ∧ asc.toInt ≤ 12) (hq1 : 0 ≤ aht.toInt ∧ aht.toInt ≤ 12) (hq2 : afi.toInt = 0 ∨ afi.toInt = 1) (hq3 : stOK asf asc) (hx0 : 12 ≤ x.toInt ∧ x.toInt ≤ 31) : CtV l dC dI cI cJ base bB bO yX6_addOperand cX6_addOperand 5 0 0 0 0 [.ref a, .int x, .ref kd] [(a, .inr (5, [.ref as, .ref aw, .ref ak, .int asc, .int awc, .int aht, .int afi, .int amd])), (as, .inl (cI, 12, .inl asf)), (ak, .inl (cI, 12, .inl akf)), (kd, .inl (cI, 4, .inl kdf))] ((Int32) × (Int32) × (Int32) × (Nat → Int32) × (Nat → Int32)) (fun (u : (Int32) × (Int32) × (Int32) × (Nat → Int32) × (Nat → Int32)) => (0 ≤ u.1.toInt ∧ u.1.toInt ≤ 12) ∧ (0 ≤ u.2.1.toInt ∧ u.2.1.toInt ≤ 12) ∧ (u.2.2.1.toInt = 0 ∨ u.2.2.1.toInt = 1) ∧ (stOK u.2.2.2.1 u.1) ∧ True) (fun (u : (Int32) × (Int32) × (Int32) × (Nat → Int32) × (Nat → Int32)) => [(a, .inr (5, [.ref as, .ref aw, .ref ak, .int u.1, .int awc, .int u.2.1, .int u.2.2.1, .int amd])), (as, .inl (cI, 12, .inl u.2.2.2.1)), (ak, .inl (cI, 12, .inl u.2.2.2.2)), (kd, .inl (cI, 4, .inl kdf))]) := by
  refine entV (by decide) (Nat.le_of_ble_eq_true rfl) ?_
  intro p e s m below meth c A Q ls hAt hret hP hD hS hl
  obtain ⟨hx, hb, hml, hown, hts, hA, hAb, hK, hE, hlocks, hin⟩ := hAt
  have hG : CG dC dI cI cJ base bB bO cX6_addOperand 5 RX6 p s m (List.toArray [.ref a, .int x, .ref kd]) c A := ⟨hx, hb, hml, hown, hts, hA, hAb, hK, hE⟩
  have hl : lv_has ls 5 [(0, .ref a), (1, .int x), (2, .ref kd)] := hl
  have c_0 : (0 : Int32).toInt = 0 := by decide
  have c_1 : (1 : Int32).toInt = 1 := by decide
  have c_4 : (4 : Int32).toInt = 4 := by decide
  have c_12 : (12 : Int32).toInt = 12 := by decide
  have c_14 : (14 : Int32).toInt = 14 := by decide
  have c_18 : (18 : Int32).toInt = 18 := by decide
  have c_28 : (28 : Int32).toInt = 28 := by decide
  obtain ⟨H, hHe⟩ : ∃ H : Heap, H = s.heap := ⟨_, rfl⟩
  obtain ⟨locs, hle⟩ : ∃ z : List Loc, z = [] := ⟨_, rfl⟩
  rw [← hHe] at hP
  have hS : va_S A s.heap H locs := by rw [hHe, hle]; exact hS
  suffices hgo : W p l e { frames := 0, cells := 0, slots := 0, locals := 0 } s m (List.toArray [.ref a, .int x, .ref kd]) below meth c H locs 0 0 Q (F0 m 0 ls []) by rw [hHe, hle] at hgo; exact hgo
  refine lv_aload_n hx hb dX6_addOperand_0 rfl (lv_at hl 0 rfl) ?_
  refine va_get (D := (dC, dI)) (ci := 5) (v := .int aht) (C := RX6) (T := TX6) (N := 8) hx hb hts inG_X6 hown hK hP 0 rfl rfl 5 (by decide) (hts _ fl_X6_28) (fun _ h9 => h9) rfl dX6_addOperand_1 ?_
  refine lv_bipush (v := 12) hx hb dX6_addOperand_4 (by decide) ?_
  refine lv_icmp_ge (tgt := 18) hx hb dX6_addOperand_6 (by decide) (fun c1 => ?_) (fun c1 => ?_)
  · have c1' := I_le c1
    refine lv_aload_n hx hb dX6_addOperand_18 rfl (lv_at hl 0 rfl) ?_
    refine lv_iconst (v := 0) hx hb dX6_addOperand_19 (by decide) ?_
    refine va_put (D := (dC, dI)) (ci := 5) (v := .int 0) (ty := .boolean) (C := RX6) (T := TX6) (N := 8) hx hb hts inG_X6 tyX6 tyX6_ok nmX6 hown hK hP hD hS 0 rfl rfl 6 (by decide) (hts _ fl_X6_31) (fun _ h9 => h9) rfl (by decide +kernel) (by first | rfl | exact I_narz (by omega)) rfl (Nat.le_of_ble_eq_true rfl) dX6_addOperand_20 (fun H locs hP hD hS => ?_)
    have hP : va_P (dC, dI) vwCl [(a, .inr (5, [.ref as, .ref aw, .ref ak, .int asc, .int awc, .int aht, .int 0, .int amd])), (as, .inl (cI, 12, .inl asf)), (ak, .inl (cI, 12, .inl akf)), (kd, .inl (cI, 4, .inl kdf))] H := hP
    have hD : va_D A [(a, .inr (5, [.ref as, .ref aw, .ref ak, .int asc, .int awc, .int aht, .int 0, .int amd])), (as, .inl (cI, 12, .inl asf)), (ak, .inl (cI, 12, .inl akf)), (kd, .inl (cI, 4, .inl kdf))] := hD
    exact hret (asc, aht, 0, asf, akf) H locs 23 ls ⟨(show 0 ≤ asc.toInt ∧ asc.toInt ≤ 12 from by first | rfl | assumption | omega), (show 0 ≤ aht.toInt ∧ aht.toInt ≤ 12 from by first | rfl | assumption | omega), (show (0 : Int32).toInt = 0 ∨ (0 : Int32).toInt = 1 from by first | rfl | assumption | omega), (show stOK asf asc from by first | assumption | exact stOK_push (by assumption) (by assumption) (by unfold sOK; omega) (by omega) (by omega)), trivial⟩ hP hD hS dX6_addOperand_23
  · have c1' := I_nle c1
    refine lv_aload_n hx hb dX6_addOperand_9 rfl (lv_at hl 0 rfl) ?_
    refine va_get (D := (dC, dI)) (ci := 5) (v := .int asc) (C := RX6) (T := TX6) (N := 8) hx hb hts inG_X6 hown hK hP 0 rfl rfl 3 (by decide) (hts _ fl_X6_21) (fun _ h9 => h9) rfl dX6_addOperand_10 ?_
    refine lv_bipush (v := 12) hx hb dX6_addOperand_13 (by decide) ?_
    refine lv_icmp_lt (tgt := 24) hx hb dX6_addOperand_15 (by decide) (fun c2 => ?_) (fun c2 => ?_)
    · have c2' := I_lt c2
      refine lv_iload_n hx hb dX6_addOperand_24 rfl (lv_at hl 1 rfl) ?_
      refine lv_bipush (v := 14) hx hb dX6_addOperand_25 (by decide) ?_
      refine lv_icmp_ge (tgt := 34) hx hb dX6_addOperand_27 (by decide) (fun c3 => ?_) (fun c3 => ?_)
      · have c3' := I_le c3
        refine lv_iconst (v := 0) hx hb dX6_addOperand_34 (by decide) ?_
        refine lv_istore_n (lv' := [(3, .int 0), (0, .ref a), (1, .int x), (2, .ref kd)]) hx hb dX6_addOperand_35 rfl hl (by decide) rfl (fun ls hl => ?_)
        refine lv_iload_n hx hb dX6_addOperand_36 rfl (lv_at hl 2 rfl) ?_
        refine lv_istore (lv' := [(4, .int x), (3, .int 0), (0, .ref a), (1, .int x), (2, .ref kd)]) hx hb dX6_addOperand_37 hl (by decide) rfl (fun ls hl => ?_)
        have J85 : ∀ (L4_85 : Int32) (L3_85 : Int32), (12 ≤ L4_85.toInt ∧ L4_85.toInt ≤ 31) → ∀ (H : Heap) (locs : List Loc) (ls : Array Slot), va_P (dC, dI) vwCl [(a, .inr (5, [.ref as, .ref aw, .ref ak, .int asc, .int awc, .int aht, .int afi, .int amd])), (as, .inl (cI, 12, .inl asf)), (ak, .inl (cI, 12, .inl akf)), (kd, .inl (cI, 4, .inl kdf))] H → va_D A [(a, .inr (5, [.ref as, .ref aw, .ref ak, .int asc, .int awc, .int aht, .int afi, .int amd])), (as, .inl (cI, 12, .inl asf)), (ak, .inl (cI, 12, .inl akf)), (kd, .inl (cI, 4, .inl kdf))] → va_S A s.heap H locs → lv_has ls 5 [(4, .int L4_85), (3, .int L3_85), (0, .ref a), (1, .int x), (2, .ref kd)] → W p l e { frames := 0, cells := 0, slots := 0, locals := 0 } s m (List.toArray [.ref a, .int x, .ref kd]) below meth c H locs 0 0 Q (F0 m 85 ls []) := by
          intro L4_85 L3_85 hi0_85 H locs ls hP hD hS hl
          refine lv_aload_n hx hb dX6_addOperand_85 rfl (lv_at hl 2 rfl) ?_
          refine va_get (D := (dC, dI)) (ci := 5) (v := .ref as) (C := RX6) (T := TX6) (N := 8) hx hb hts inG_X6 hown hK hP 0 rfl rfl 0 (by decide) (hts _ fl_X6_9) (fun _ h9 => h9) rfl dX6_addOperand_86 ?_
          refine lv_aload_n hx hb dX6_addOperand_89 rfl (lv_at hl 2 rfl) ?_
          refine va_get (D := (dC, dI)) (ci := 5) (v := .int asc) (C := RX6) (T := TX6) (N := 8) hx hb hts inG_X6 hown hK hP 0 rfl rfl 3 (by decide) (hts _ fl_X6_21) (fun _ h9 => h9) rfl dX6_addOperand_90 ?_
          refine lv_iload hx hb dX6_addOperand_93 (lv_at hl 0 rfl) ?_
          refine va_iast (t0 := 0) hx hb hK hP hD hS 1 (ha := rfl) (ht := rfl) (I_in (by omega) (by omega)) dX6_addOperand_95 (fun H locs hP hD hS => ?_)
          have hP : va_P (dC, dI) vwCl [(a, .inr (5, [.ref as, .ref aw, .ref ak, .int asc, .int awc, .int aht, .int afi, .int amd])), (as, .inl (cI, 12, .inl (upd asf asc.toNatClampNeg L4_85))), (ak, .inl (cI, 12, .inl akf)), (kd, .inl (cI, 4, .inl kdf))] H := hP
          have hD : va_D A [(a, .inr (5, [.ref as, .ref aw, .ref ak, .int asc, .int awc, .int aht, .int afi, .int amd])), (as, .inl (cI, 12, .inl (upd asf asc.toNatClampNeg L4_85))), (ak, .inl (cI, 12, .inl akf)), (kd, .inl (cI, 4, .inl kdf))] := hD
          generalize ef4 : upd asf asc.toNatClampNeg L4_85 = f4 at hP hD
          refine lv_aload_n hx hb dX6_addOperand_96 rfl (lv_at hl 2 rfl) ?_
          refine lv_dup hx hb dX6_addOperand_97 rfl ?_
          refine va_get (D := (dC, dI)) (ci := 5) (v := .int asc) (C := RX6) (T := TX6) (N := 8) hx hb hts inG_X6 hown hK hP 0 rfl rfl 3 (by decide) (hts _ fl_X6_21) (fun _ h9 => h9) rfl dX6_addOperand_98 ?_
          refine lv_iconst (v := 1) hx hb dX6_addOperand_101 (by decide) ?_
          refine lv_iadd hx hb dX6_addOperand_102 ?_
          refine lv_topi (fun v5 ev5 => ?_)
          try have hv5 : v5.toInt = asc.toInt + (1 : Int32).toInt := I_addx ev5 (by omega)
          refine va_put (D := (dC, dI)) (ci := 5) (v := .int v5) (ty := .int) (C := RX6) (T := TX6) (N := 8) hx hb hts inG_X6 tyX6 tyX6_ok nmX6 hown hK hP hD hS 0 rfl rfl 3 (by decide) (hts _ fl_X6_21) (fun _ h9 => h9) rfl (by decide +kernel) rfl rfl (Nat.le_of_ble_eq_true rfl) dX6_addOperand_103 (fun H locs hP hD hS => ?_)
          have hP : va_P (dC, dI) vwCl [(a, .inr (5, [.ref as, .ref aw, .ref ak, .int v5, .int awc, .int aht, .int afi, .int amd])), (as, .inl (cI, 12, .inl f4)), (ak, .inl (cI, 12, .inl akf)), (kd, .inl (cI, 4, .inl kdf))] H := hP
          have hD : va_D A [(a, .inr (5, [.ref as, .ref aw, .ref ak, .int v5, .int awc, .int aht, .int afi, .int amd])), (as, .inl (cI, 12, .inl f4)), (ak, .inl (cI, 12, .inl akf)), (kd, .inl (cI, 4, .inl kdf))] := hD
          refine lv_aload_n hx hb dX6_addOperand_106 rfl (lv_at hl 2 rfl) ?_
          refine va_get (D := (dC, dI)) (ci := 5) (v := .ref ak) (C := RX6) (T := TX6) (N := 8) hx hb hts inG_X6 hown hK hP 0 rfl rfl 2 (by decide) (hts _ fl_X6_18) (fun _ h9 => h9) rfl dX6_addOperand_107 ?_
          refine lv_aload_n hx hb dX6_addOperand_110 rfl (lv_at hl 2 rfl) ?_
          refine va_get (D := (dC, dI)) (ci := 5) (v := .int aht) (C := RX6) (T := TX6) (N := 8) hx hb hts inG_X6 hown hK hP 0 rfl rfl 5 (by decide) (hts _ fl_X6_28) (fun _ h9 => h9) rfl dX6_addOperand_111 ?_
          refine lv_iload_n hx hb dX6_addOperand_114 rfl (lv_at hl 1 rfl) ?_
          refine va_iast (t0 := 0) hx hb hK hP hD hS 2 (ha := rfl) (ht := rfl) (I_in (by omega) (by omega)) dX6_addOperand_115 (fun H locs hP hD hS => ?_)
          have hP : va_P (dC, dI) vwCl [(a, .inr (5, [.ref as, .ref aw, .ref ak, .int v5, .int awc, .int aht, .int afi, .int amd])), (as, .inl (cI, 12, .inl f4)), (ak, .inl (cI, 12, .inl (upd akf aht.toNatClampNeg L3_85))), (kd, .inl (cI, 4, .inl kdf))] H := hP
          have hD : va_D A [(a, .inr (5, [.ref as, .ref aw, .ref ak, .int v5, .int awc, .int aht, .int afi, .int amd])), (as, .inl (cI, 12, .inl f4)), (ak, .inl (cI, 12, .inl (upd akf aht.toNatClampNeg L3_85))), (kd, .inl (cI, 4, .inl kdf))] := hD
          generalize ef6 : upd akf aht.toNatClampNeg L3_85 = f6 at hP hD
          refine lv_aload_n hx hb dX6_addOperand_116 rfl (lv_at hl 2 rfl) ?_
          refine lv_dup hx hb dX6_addOperand_117 rfl ?_
          refine va_get (D := (dC, dI)) (ci := 5) (v := .int aht) (C := RX6) (T := TX6) (N := 8) hx hb hts inG_X6 hown hK hP 0 rfl rfl 5 (by decide) (hts _ fl_X6_28) (fun _ h9 => h9) rfl dX6_addOperand_118 ?_
          refine lv_iconst (v := 1) hx hb dX6_addOperand_121 (by decide) ?_
          refine lv_iadd hx hb dX6_addOperand_122 ?_
          refine lv_topi (fun v7 ev7 => ?_)
          try have hv7 : v7.toInt = aht.toInt + (1 : Int32).toInt := I_addx ev7 (by omega)
          refine va_put (D := (dC, dI)) (ci := 5) (v := .int v7) (ty := .int) (C := RX6) (T := TX6) (N := 8) hx hb hts inG_X6 tyX6 tyX6_ok nmX6 hown hK hP hD hS 0 rfl rfl 5 (by decide) (hts _ fl_X6_28) (fun _ h9 => h9) rfl (by decide +kernel) rfl rfl (Nat.le_of_ble_eq_true rfl) dX6_addOperand_123 (fun H locs hP hD hS => ?_)
          have hP : va_P (dC, dI) vwCl [(a, .inr (5, [.ref as, .ref aw, .ref ak, .int v5, .int awc, .int v7, .int afi, .int amd])), (as, .inl (cI, 12, .inl f4)), (ak, .inl (cI, 12, .inl f6)), (kd, .inl (cI, 4, .inl kdf))] H := hP
          have hD : va_D A [(a, .inr (5, [.ref as, .ref aw, .ref ak, .int v5, .int awc, .int v7, .int afi, .int amd])), (as, .inl (cI, 12, .inl f4)), (ak, .inl (cI, 12, .inl f6)), (kd, .inl (cI, 4, .inl kdf))] := hD
          exact hret (v5, v7, afi, f4, f6) H locs 126 ls ⟨(show 0 ≤ v5.toInt ∧ v5.toInt ≤ 12 from by first | rfl | assumption | omega), (show 0 ≤ v7.toInt ∧ v7.toInt ≤ 12 from by first | rfl | assumption | omega), (show afi.toInt = 0 ∨ afi.toInt = 1 from by first | rfl | assumption | omega), (show stOK f4 v5 from by first | assumption | exact stOK_push (by assumption) (by assumption) (by unfold sOK; omega) (by omega) (by omega)), trivial⟩ hP hD hS dX6_addOperand_126
        refine lv_iload_n hx hb dX6_addOperand_39 rfl (lv_at hl 3 rfl) ?_
        refine lv_bipush (v := 14) hx hb dX6_addOperand_40 (by decide) ?_
        refine lv_icmp_lt (tgt := 85) hx hb dX6_addOperand_42 (by decide) (fun c8 => ?_) (fun c8 => ?_)
        · have c8' := I_lt c8
          exact J85 x 0 (by first | assumption | omega) H locs ls hP hD hS hl
        · have c8' := I_nlt c8
          refine lv_iload_n hx hb dX6_addOperand_45 rfl (lv_at hl 3 rfl) ?_
          refine lv_bipush (v := 18) hx hb dX6_addOperand_46 (by decide) ?_
          refine lv_icmp_ge (tgt := 85) hx hb dX6_addOperand_48 (by decide) (fun c9 => ?_) (fun c9 => ?_)
          · have c9' := I_le c9
            exact J85 x 0 (by first | assumption | omega) H locs ls hP hD hS hl
          · have c9' := I_nle c9
            refine lv_iload_n hx hb dX6_addOperand_51 rfl (lv_at hl 3 rfl) ?_
            refine lv_bipush (v := 14) hx hb dX6_addOperand_52 (by decide) ?_
            refine lv_isub hx hb dX6_addOperand_54 ?_
            refine lv_topi (fun v10 ev10 => ?_)
            try have hv10 : v10.toInt = x.toInt - (14 : Int32).toInt := I_subx ev10 (by omega)
            refine lv_aload_n hx hb dX6_addOperand_55 rfl (lv_at hl 4 rfl) ?_
            refine va_alen hx hb hK hP 3 0 (ha := rfl) (ht := rfl) (v := 4) rfl dX6_addOperand_56 ?_
            refine lv_icmp_ge (tgt := 85) hx hb dX6_addOperand_57 (by decide) (fun c11 => ?_) (fun c11 => ?_)
            · have c11' := I_le c11
              exact J85 x 0 (by first | assumption | omega) H locs ls hP hD hS hl
            · have c11' := I_nle c11
              refine lv_aload_n hx hb dX6_addOperand_60 rfl (lv_at hl 4 rfl) ?_
              refine lv_iload_n hx hb dX6_addOperand_61 rfl (lv_at hl 3 rfl) ?_
              refine lv_bipush (v := 14) hx hb dX6_addOperand_62 (by decide) ?_
              refine lv_isub hx hb dX6_addOperand_64 ?_
              refine lv_topi (fun v12 ev12 => ?_)
              try have hv12 : v12.toInt = x.toInt - (14 : Int32).toInt := I_subx ev12 (by omega)
              refine va_iald (t0 := 0) hx hb hK hP 3 (ha := rfl) (ht := rfl) (I_in (by omega) (by omega)) dX6_addOperand_65 ?_
              refine lv_topi (fun v13 ev13 => ?_)
              refine lv_istore_n (lv' := [(3, .int v13), (4, .int x), (0, .ref a), (1, .int x), (2, .ref kd)]) hx hb dX6_addOperand_66 rfl hl (by decide) rfl (fun ls hl => ?_)
              refine lv_iload_n hx hb dX6_addOperand_67 rfl (lv_at hl 0 rfl) ?_
              refine lv_iconst (v := 1) hx hb dX6_addOperand_68 (by decide) ?_
              refine lv_icmp_ne (tgt := 82) hx hb dX6_addOperand_69 (by decide) (fun c14 => ?_) (fun c14 => ?_)
              · have c14' := I_ne c14
                refine lv_iload_n hx hb dX6_addOperand_82 rfl (lv_at hl 3 rfl) ?_
                refine lv_istore (lv' := [(4, .int x), (3, .int v13), (0, .ref a), (1, .int x), (2, .ref kd)]) hx hb dX6_addOperand_83 hl (by decide) rfl (fun ls hl => ?_)
                exact J85 x v13 (by first | assumption | omega) H locs ls hP hD hS hl
              · have c14' := I_eq c14
                refine lv_iload_n hx hb dX6_addOperand_72 rfl (lv_at hl 3 rfl) ?_
                refine lv_bipush (v := 14) hx hb dX6_addOperand_73 (by decide) ?_
                refine lv_isub hx hb dX6_addOperand_75 ?_
                refine lv_topi (fun v15 ev15 => ?_)
                try have hv15 : v15.toInt = x.toInt - (14 : Int32).toInt := I_subx ev15 (by omega)
                refine lv_bipush (v := 28) hx hb dX6_addOperand_76 (by decide) ?_
                refine lv_iadd hx hb dX6_addOperand_78 ?_
                refine lv_topi (fun v16 ev16 => ?_)
                try have hv16 : v16.toInt = v15.toInt + (28 : Int32).toInt := I_addx ev16 (by omega)
                refine lv_goto (tgt := 83) hx hb dX6_addOperand_79 (by decide) ?_
                refine lv_istore (lv' := [(4, .int v16), (3, .int v13), (0, .ref a), (1, .int x), (2, .ref kd)]) hx hb dX6_addOperand_83 hl (by decide) rfl (fun ls hl => ?_)
                exact J85 v16 v13 (by first | assumption | omega) H locs ls hP hD hS hl
      · have c3' := I_nle c3
        refine lv_iconst (v := 1) hx hb dX6_addOperand_30 (by decide) ?_
        refine lv_goto (tgt := 35) hx hb dX6_addOperand_31 (by decide) ?_
        refine lv_istore_n (lv' := [(3, .int 1), (0, .ref a), (1, .int x), (2, .ref kd)]) hx hb dX6_addOperand_35 rfl hl (by decide) rfl (fun ls hl => ?_)
        refine lv_iload_n hx hb dX6_addOperand_36 rfl (lv_at hl 2 rfl) ?_
        refine lv_istore (lv' := [(4, .int x), (3, .int 1), (0, .ref a), (1, .int x), (2, .ref kd)]) hx hb dX6_addOperand_37 hl (by decide) rfl (fun ls hl => ?_)
        have J85 : ∀ (L4_85 : Int32) (L3_85 : Int32), (12 ≤ L4_85.toInt ∧ L4_85.toInt ≤ 31) → ∀ (H : Heap) (locs : List Loc) (ls : Array Slot), va_P (dC, dI) vwCl [(a, .inr (5, [.ref as, .ref aw, .ref ak, .int asc, .int awc, .int aht, .int afi, .int amd])), (as, .inl (cI, 12, .inl asf)), (ak, .inl (cI, 12, .inl akf)), (kd, .inl (cI, 4, .inl kdf))] H → va_D A [(a, .inr (5, [.ref as, .ref aw, .ref ak, .int asc, .int awc, .int aht, .int afi, .int amd])), (as, .inl (cI, 12, .inl asf)), (ak, .inl (cI, 12, .inl akf)), (kd, .inl (cI, 4, .inl kdf))] → va_S A s.heap H locs → lv_has ls 5 [(4, .int L4_85), (3, .int L3_85), (0, .ref a), (1, .int x), (2, .ref kd)] → W p l e { frames := 0, cells := 0, slots := 0, locals := 0 } s m (List.toArray [.ref a, .int x, .ref kd]) below meth c H locs 0 0 Q (F0 m 85 ls []) := by
          intro L4_85 L3_85 hi0_85 H locs ls hP hD hS hl
          refine lv_aload_n hx hb dX6_addOperand_85 rfl (lv_at hl 2 rfl) ?_
          refine va_get (D := (dC, dI)) (ci := 5) (v := .ref as) (C := RX6) (T := TX6) (N := 8) hx hb hts inG_X6 hown hK hP 0 rfl rfl 0 (by decide) (hts _ fl_X6_9) (fun _ h9 => h9) rfl dX6_addOperand_86 ?_
          refine lv_aload_n hx hb dX6_addOperand_89 rfl (lv_at hl 2 rfl) ?_
          refine va_get (D := (dC, dI)) (ci := 5) (v := .int asc) (C := RX6) (T := TX6) (N := 8) hx hb hts inG_X6 hown hK hP 0 rfl rfl 3 (by decide) (hts _ fl_X6_21) (fun _ h9 => h9) rfl dX6_addOperand_90 ?_
          refine lv_iload hx hb dX6_addOperand_93 (lv_at hl 0 rfl) ?_
          refine va_iast (t0 := 0) hx hb hK hP hD hS 1 (ha := rfl) (ht := rfl) (I_in (by omega) (by omega)) dX6_addOperand_95 (fun H locs hP hD hS => ?_)
          have hP : va_P (dC, dI) vwCl [(a, .inr (5, [.ref as, .ref aw, .ref ak, .int asc, .int awc, .int aht, .int afi, .int amd])), (as, .inl (cI, 12, .inl (upd asf asc.toNatClampNeg L4_85))), (ak, .inl (cI, 12, .inl akf)), (kd, .inl (cI, 4, .inl kdf))] H := hP
          have hD : va_D A [(a, .inr (5, [.ref as, .ref aw, .ref ak, .int asc, .int awc, .int aht, .int afi, .int amd])), (as, .inl (cI, 12, .inl (upd asf asc.toNatClampNeg L4_85))), (ak, .inl (cI, 12, .inl akf)), (kd, .inl (cI, 4, .inl kdf))] := hD
          generalize ef17 : upd asf asc.toNatClampNeg L4_85 = f17 at hP hD
          refine lv_aload_n hx hb dX6_addOperand_96 rfl (lv_at hl 2 rfl) ?_
          refine lv_dup hx hb dX6_addOperand_97 rfl ?_
          refine va_get (D := (dC, dI)) (ci := 5) (v := .int asc) (C := RX6) (T := TX6) (N := 8) hx hb hts inG_X6 hown hK hP 0 rfl rfl 3 (by decide) (hts _ fl_X6_21) (fun _ h9 => h9) rfl dX6_addOperand_98 ?_
          refine lv_iconst (v := 1) hx hb dX6_addOperand_101 (by decide) ?_
          refine lv_iadd hx hb dX6_addOperand_102 ?_
          refine lv_topi (fun v18 ev18 => ?_)
          try have hv18 : v18.toInt = asc.toInt + (1 : Int32).toInt := I_addx ev18 (by omega)
          refine va_put (D := (dC, dI)) (ci := 5) (v := .int v18) (ty := .int) (C := RX6) (T := TX6) (N := 8) hx hb hts inG_X6 tyX6 tyX6_ok nmX6 hown hK hP hD hS 0 rfl rfl 3 (by decide) (hts _ fl_X6_21) (fun _ h9 => h9) rfl (by decide +kernel) rfl rfl (Nat.le_of_ble_eq_true rfl) dX6_addOperand_103 (fun H locs hP hD hS => ?_)
          have hP : va_P (dC, dI) vwCl [(a, .inr (5, [.ref as, .ref aw, .ref ak, .int v18, .int awc, .int aht, .int afi, .int amd])), (as, .inl (cI, 12, .inl f17)), (ak, .inl (cI, 12, .inl akf)), (kd, .inl (cI, 4, .inl kdf))] H := hP
          have hD : va_D A [(a, .inr (5, [.ref as, .ref aw, .ref ak, .int v18, .int awc, .int aht, .int afi, .int amd])), (as, .inl (cI, 12, .inl f17)), (ak, .inl (cI, 12, .inl akf)), (kd, .inl (cI, 4, .inl kdf))] := hD
          refine lv_aload_n hx hb dX6_addOperand_106 rfl (lv_at hl 2 rfl) ?_
          refine va_get (D := (dC, dI)) (ci := 5) (v := .ref ak) (C := RX6) (T := TX6) (N := 8) hx hb hts inG_X6 hown hK hP 0 rfl rfl 2 (by decide) (hts _ fl_X6_18) (fun _ h9 => h9) rfl dX6_addOperand_107 ?_
          refine lv_aload_n hx hb dX6_addOperand_110 rfl (lv_at hl 2 rfl) ?_
          refine va_get (D := (dC, dI)) (ci := 5) (v := .int aht) (C := RX6) (T := TX6) (N := 8) hx hb hts inG_X6 hown hK hP 0 rfl rfl 5 (by decide) (hts _ fl_X6_28) (fun _ h9 => h9) rfl dX6_addOperand_111 ?_
          refine lv_iload_n hx hb dX6_addOperand_114 rfl (lv_at hl 1 rfl) ?_
          refine va_iast (t0 := 0) hx hb hK hP hD hS 2 (ha := rfl) (ht := rfl) (I_in (by omega) (by omega)) dX6_addOperand_115 (fun H locs hP hD hS => ?_)
          have hP : va_P (dC, dI) vwCl [(a, .inr (5, [.ref as, .ref aw, .ref ak, .int v18, .int awc, .int aht, .int afi, .int amd])), (as, .inl (cI, 12, .inl f17)), (ak, .inl (cI, 12, .inl (upd akf aht.toNatClampNeg L3_85))), (kd, .inl (cI, 4, .inl kdf))] H := hP
          have hD : va_D A [(a, .inr (5, [.ref as, .ref aw, .ref ak, .int v18, .int awc, .int aht, .int afi, .int amd])), (as, .inl (cI, 12, .inl f17)), (ak, .inl (cI, 12, .inl (upd akf aht.toNatClampNeg L3_85))), (kd, .inl (cI, 4, .inl kdf))] := hD
          generalize ef19 : upd akf aht.toNatClampNeg L3_85 = f19 at hP hD
          refine lv_aload_n hx hb dX6_addOperand_116 rfl (lv_at hl 2 rfl) ?_
          refine lv_dup hx hb dX6_addOperand_117 rfl ?_
          refine va_get (D := (dC, dI)) (ci := 5) (v := .int aht) (C := RX6) (T := TX6) (N := 8) hx hb hts inG_X6 hown hK hP 0 rfl rfl 5 (by decide) (hts _ fl_X6_28) (fun _ h9 => h9) rfl dX6_addOperand_118 ?_
          refine lv_iconst (v := 1) hx hb dX6_addOperand_121 (by decide) ?_
          refine lv_iadd hx hb dX6_addOperand_122 ?_
          refine lv_topi (fun v20 ev20 => ?_)
          try have hv20 : v20.toInt = aht.toInt + (1 : Int32).toInt := I_addx ev20 (by omega)
          refine va_put (D := (dC, dI)) (ci := 5) (v := .int v20) (ty := .int) (C := RX6) (T := TX6) (N := 8) hx hb hts inG_X6 tyX6 tyX6_ok nmX6 hown hK hP hD hS 0 rfl rfl 5 (by decide) (hts _ fl_X6_28) (fun _ h9 => h9) rfl (by decide +kernel) rfl rfl (Nat.le_of_ble_eq_true rfl) dX6_addOperand_123 (fun H locs hP hD hS => ?_)
          have hP : va_P (dC, dI) vwCl [(a, .inr (5, [.ref as, .ref aw, .ref ak, .int v18, .int awc, .int v20, .int afi, .int amd])), (as, .inl (cI, 12, .inl f17)), (ak, .inl (cI, 12, .inl f19)), (kd, .inl (cI, 4, .inl kdf))] H := hP
          have hD : va_D A [(a, .inr (5, [.ref as, .ref aw, .ref ak, .int v18, .int awc, .int v20, .int afi, .int amd])), (as, .inl (cI, 12, .inl f17)), (ak, .inl (cI, 12, .inl f19)), (kd, .inl (cI, 4, .inl kdf))] := hD
          exact hret (v18, v20, afi, f17, f19) H locs 126 ls ⟨(show 0 ≤ v18.toInt ∧ v18.toInt ≤ 12 from by first | rfl | assumption | omega), (show 0 ≤ v20.toInt ∧ v20.toInt ≤ 12 from by first | rfl | assumption | omega), (show afi.toInt = 0 ∨ afi.toInt = 1 from by first | rfl | assumption | omega), (show stOK f17 v18 from by first | assumption | exact stOK_push (by assumption) (by assumption) (by unfold sOK; omega) (by omega) (by omega)), trivial⟩ hP hD hS dX6_addOperand_126
        refine lv_iload_n hx hb dX6_addOperand_39 rfl (lv_at hl 3 rfl) ?_
        refine lv_bipush (v := 14) hx hb dX6_addOperand_40 (by decide) ?_
        refine lv_icmp_lt (tgt := 85) hx hb dX6_addOperand_42 (by decide) (fun c21 => ?_) (fun c21 => ?_)
        · have c21' := I_lt c21
          exact J85 x 1 (by first | assumption | omega) H locs ls hP hD hS hl
        · have c21' := I_nlt c21
          refine lv_iload_n hx hb dX6_addOperand_45 rfl (lv_at hl 3 rfl) ?_
          refine lv_bipush (v := 18) hx hb dX6_addOperand_46 (by decide) ?_
          refine lv_icmp_ge (tgt := 85) hx hb dX6_addOperand_48 (by decide) (fun c22 => ?_) (fun c22 => ?_)
          · have c22' := I_le c22
            exact J85 x 1 (by first | assumption | omega) H locs ls hP hD hS hl
          · have c22' := I_nle c22
            refine lv_iload_n hx hb dX6_addOperand_51 rfl (lv_at hl 3 rfl) ?_
            refine lv_bipush (v := 14) hx hb dX6_addOperand_52 (by decide) ?_
            refine lv_isub hx hb dX6_addOperand_54 ?_
            refine lv_topi (fun v23 ev23 => ?_)
            try have hv23 : v23.toInt = x.toInt - (14 : Int32).toInt := I_subx ev23 (by omega)
            refine lv_aload_n hx hb dX6_addOperand_55 rfl (lv_at hl 4 rfl) ?_
            refine va_alen hx hb hK hP 3 0 (ha := rfl) (ht := rfl) (v := 4) rfl dX6_addOperand_56 ?_
            refine lv_icmp_ge (tgt := 85) hx hb dX6_addOperand_57 (by decide) (fun c24 => ?_) (fun c24 => ?_)
            · have c24' := I_le c24
              exact J85 x 1 (by first | assumption | omega) H locs ls hP hD hS hl
            · have c24' := I_nle c24
              refine lv_aload_n hx hb dX6_addOperand_60 rfl (lv_at hl 4 rfl) ?_
              refine lv_iload_n hx hb dX6_addOperand_61 rfl (lv_at hl 3 rfl) ?_
              refine lv_bipush (v := 14) hx hb dX6_addOperand_62 (by decide) ?_
              refine lv_isub hx hb dX6_addOperand_64 ?_
              refine lv_topi (fun v25 ev25 => ?_)
              try have hv25 : v25.toInt = x.toInt - (14 : Int32).toInt := I_subx ev25 (by omega)
              refine va_iald (t0 := 0) hx hb hK hP 3 (ha := rfl) (ht := rfl) (I_in (by omega) (by omega)) dX6_addOperand_65 ?_
              refine lv_topi (fun v26 ev26 => ?_)
              refine lv_istore_n (lv' := [(3, .int v26), (4, .int x), (0, .ref a), (1, .int x), (2, .ref kd)]) hx hb dX6_addOperand_66 rfl hl (by decide) rfl (fun ls hl => ?_)
              refine lv_iload_n hx hb dX6_addOperand_67 rfl (lv_at hl 0 rfl) ?_
              refine lv_iconst (v := 1) hx hb dX6_addOperand_68 (by decide) ?_
              refine lv_icmp_ne (tgt := 82) hx hb dX6_addOperand_69 (by decide) (fun c27 => ?_) (fun c27 => ?_)
              · have c27' := I_ne c27
                refine lv_iload_n hx hb dX6_addOperand_82 rfl (lv_at hl 3 rfl) ?_
                refine lv_istore (lv' := [(4, .int x), (3, .int v26), (0, .ref a), (1, .int x), (2, .ref kd)]) hx hb dX6_addOperand_83 hl (by decide) rfl (fun ls hl => ?_)
                exact J85 x v26 (by first | assumption | omega) H locs ls hP hD hS hl
              · have c27' := I_eq c27
                refine lv_iload_n hx hb dX6_addOperand_72 rfl (lv_at hl 3 rfl) ?_
                refine lv_bipush (v := 14) hx hb dX6_addOperand_73 (by decide) ?_
                refine lv_isub hx hb dX6_addOperand_75 ?_
                refine lv_topi (fun v28 ev28 => ?_)
                try have hv28 : v28.toInt = x.toInt - (14 : Int32).toInt := I_subx ev28 (by omega)
                refine lv_bipush (v := 28) hx hb dX6_addOperand_76 (by decide) ?_
                refine lv_iadd hx hb dX6_addOperand_78 ?_
                refine lv_topi (fun v29 ev29 => ?_)
                try have hv29 : v29.toInt = v28.toInt + (28 : Int32).toInt := I_addx ev29 (by omega)
                refine lv_goto (tgt := 83) hx hb dX6_addOperand_79 (by decide) ?_
                refine lv_istore (lv' := [(4, .int v29), (3, .int v26), (0, .ref a), (1, .int x), (2, .ref kd)]) hx hb dX6_addOperand_83 hl (by decide) rfl (fun ls hl => ?_)
                exact J85 v29 v26 (by first | assumption | omega) H locs ls hP hD hS hl
    · have c2' := I_nlt c2
      refine lv_aload_n hx hb dX6_addOperand_18 rfl (lv_at hl 0 rfl) ?_
      refine lv_iconst (v := 0) hx hb dX6_addOperand_19 (by decide) ?_
      refine va_put (D := (dC, dI)) (ci := 5) (v := .int 0) (ty := .boolean) (C := RX6) (T := TX6) (N := 8) hx hb hts inG_X6 tyX6 tyX6_ok nmX6 hown hK hP hD hS 0 rfl rfl 6 (by decide) (hts _ fl_X6_31) (fun _ h9 => h9) rfl (by decide +kernel) (by first | rfl | exact I_narz (by omega)) rfl (Nat.le_of_ble_eq_true rfl) dX6_addOperand_20 (fun H locs hP hD hS => ?_)
      have hP : va_P (dC, dI) vwCl [(a, .inr (5, [.ref as, .ref aw, .ref ak, .int asc, .int awc, .int aht, .int 0, .int amd])), (as, .inl (cI, 12, .inl asf)), (ak, .inl (cI, 12, .inl akf)), (kd, .inl (cI, 4, .inl kdf))] H := hP
      have hD : va_D A [(a, .inr (5, [.ref as, .ref aw, .ref ak, .int asc, .int awc, .int aht, .int 0, .int amd])), (as, .inl (cI, 12, .inl asf)), (ak, .inl (cI, 12, .inl akf)), (kd, .inl (cI, 4, .inl kdf))] := hD
      exact hret (asc, aht, 0, asf, akf) H locs 23 ls ⟨(show 0 ≤ asc.toInt ∧ asc.toInt ≤ 12 from by first | rfl | assumption | omega), (show 0 ≤ aht.toInt ∧ aht.toInt ≤ 12 from by first | rfl | assumption | omega), (show (0 : Int32).toInt = 0 ∨ (0 : Int32).toInt = 1 from by first | rfl | assumption | omega), (show stOK asf asc from by first | assumption | exact stOK_push (by assumption) (by assumption) (by unfold sOK; omega) (by omega) (by omega)), trivial⟩ hP hD hS dX6_addOperand_23
set_option maxHeartbeats 4000000 in
set_option maxRecDepth 100000 in
theorem c_X6_settle (l : Launch) (dC : Nat → ClassId) (dI : Nat → Nat → Nat) (cI cJ : ClassId) (base bB bO : Nat) (a : Nat) (as : Nat) (aw : Nat) (ak : Nat) (asc : Int32) (awc : Int32) (aht : Int32) (afi : Int32) (amd : Int32) (asf : Nat → Int32) (awf : Nat → Int32) (akf : Nat → Int32) (x : Int32) (hq0 : 0 ≤ asc.toInt ∧ asc.toInt ≤ 12) (hq1 : 0 ≤ awc.toInt ∧ awc.toInt ≤ 12) (hq2 : 0 ≤ aht.toInt ∧ aht.toInt ≤ 12) (hq3 : afi.toInt = 0 ∨ afi.toInt = 1) (hq4 : ∀ j : Nat, 0 ≤ (awf j).toInt ∧ (awf j).toInt < 12) (hq5 : stOK asf asc) (hx0 : 1 ≤ x.toInt) : CtV l dC dI cI cJ base bB bO yX6_settle cX6_settle 2 0 0 1 25 [.ref a, .int x] [(a, .inr (5, [.ref as, .ref aw, .ref ak, .int asc, .int awc, .int aht, .int afi, .int amd])), (as, .inl (cI, 12, .inl asf)), (aw, .inl (cI, 12, .inl awf)), (ak, .inl (cI, 12, .inl akf))] ((Int32) × (Int32) × (Int32) × (Int32) × (Nat → Int32) × (Nat → Int32)) (fun (u : (Int32) × (Int32) × (Int32) × (Int32) × (Nat → Int32) × (Nat → Int32)) => (0 ≤ u.1.toInt ∧ u.1.toInt ≤ 12) ∧ (0 ≤ u.2.1.toInt ∧ u.2.1.toInt ≤ 12) ∧ (0 ≤ u.2.2.1.toInt ∧ u.2.2.1.toInt ≤ 12) ∧ (u.2.2.2.1.toInt = 0 ∨ u.2.2.2.1.toInt = 1) ∧ (stOK u.2.2.2.2.1 u.1) ∧ True) (fun (u : (Int32) × (Int32) × (Int32) × (Int32) × (Nat → Int32) × (Nat → Int32)) => [(a, .inr (5, [.ref as, .ref aw, .ref ak, .int u.1, .int u.2.1, .int u.2.2.1, .int u.2.2.2.1, .int amd])), (as, .inl (cI, 12, .inl u.2.2.2.2.1)), (aw, .inl (cI, 12, .inl awf)), (ak, .inl (cI, 12, .inl u.2.2.2.2.2))]) := by
  refine entV (by decide) (Nat.le_of_ble_eq_true rfl) ?_
  intro p e s m below meth c A Q ls hAt hret hP hD hS hl
  obtain ⟨hx, hb, hml, hown, hts, hA, hAb, hK, hE, hlocks, hin⟩ := hAt
  have hG : CG dC dI cI cJ base bB bO cX6_settle 2 RX6 p s m (List.toArray [.ref a, .int x]) c A := ⟨hx, hb, hml, hown, hts, hA, hAb, hK, hE⟩
  have hl : lv_has ls 2 [(0, .ref a), (1, .int x)] := hl
  obtain ⟨hE1, hE2, hE3, hE4, hE5, hX6, hX7, -⟩ := id hE
  have hEB := hE4.narrow hAb
  have hEO := hE5.narrow hAb
  have hXB := hX6.narrow hAb
  have hXO := hX7.narrow hAb
  have c_0 : (0 : Int32).toInt = 0 := by decide
  have c_1 : (1 : Int32).toInt = 1 := by decide
  obtain ⟨H, hHe⟩ : ∃ H : Heap, H = s.heap := ⟨_, rfl⟩
  obtain ⟨locs, hle⟩ : ∃ z : List Loc, z = [] := ⟨_, rfl⟩
  rw [← hHe] at hP
  have hS : va_S A s.heap H locs := by rw [hHe, hle]; exact hS
  suffices hgo : W p l e { frames := 1, cells := 0, slots := 0, locals := 25 } s m (List.toArray [.ref a, .int x]) below meth c H locs 0 0 Q (F0 m 0 ls []) by rw [hHe, hle] at hgo; exact hgo
  have J0 : ∀ (n : Nat) (asc_0 : Int32) (awc_0 : Int32) (aht_0 : Int32) (afi_0 : Int32) (asf_0 : Nat → Int32) (akf_0 : Nat → Int32), (0 ≤ asc_0.toInt ∧ asc_0.toInt ≤ 12) → (0 ≤ awc_0.toInt ∧ awc_0.toInt ≤ 12) → (0 ≤ aht_0.toInt ∧ aht_0.toInt ≤ 12) → (afi_0.toInt = 0 ∨ afi_0.toInt = 1) → (stOK asf_0 asc_0) → (awc_0.toInt) < (n : Int) → ∀ (H : Heap) (locs : List Loc) (ls : Array Slot), va_P (dC, dI) vwCl [(a, .inr (5, [.ref as, .ref aw, .ref ak, .int asc_0, .int awc_0, .int aht_0, .int afi_0, .int amd])), (as, .inl (cI, 12, .inl asf_0)), (aw, .inl (cI, 12, .inl awf)), (ak, .inl (cI, 12, .inl akf_0))] H → va_D A [(a, .inr (5, [.ref as, .ref aw, .ref ak, .int asc_0, .int awc_0, .int aht_0, .int afi_0, .int amd])), (as, .inl (cI, 12, .inl asf_0)), (aw, .inl (cI, 12, .inl awf)), (ak, .inl (cI, 12, .inl akf_0))] → va_S A s.heap H locs → lv_has ls 2 [(0, .ref a), (1, .int x)] → W p l e { frames := 1, cells := 0, slots := 0, locals := 25 } s m (List.toArray [.ref a, .int x]) below meth c H locs 0 0 Q (F0 m 0 ls []) := by
    intro n
    induction n with
    | zero =>
      intro asc_0 awc_0 aht_0 afi_0 asf_0 akf_0 hi0_0 hi1_0 hi2_0 hi3_0 hi4_0 hm
      exact absurd hm (by omega)
    | succ n ih0 =>
      intro asc_0 awc_0 aht_0 afi_0 asf_0 akf_0 hi0_0 hi1_0 hi2_0 hi3_0 hi4_0 hm0 H locs ls hP hD hS hl
      refine lv_aload_n hx hb dX6_settle_0 rfl (lv_at hl 0 rfl) ?_
      refine va_get (D := (dC, dI)) (ci := 5) (v := .int awc_0) (C := RX6) (T := TX6) (N := 8) hx hb hts inG_X6 hown hK hP 0 rfl rfl 4 (by decide) (hts _ fl_X6_25) (fun _ h9 => h9) rfl dX6_settle_1 ?_
      refine lv_if_le (tgt := 52) hx hb dX6_settle_4 (by decide) (fun c1 => ?_) (fun c1 => ?_)
      · have c1' := I_le c1
        exact hret (asc_0, awc_0, aht_0, afi_0, asf_0, akf_0) H locs 52 ls ⟨(show 0 ≤ asc_0.toInt ∧ asc_0.toInt ≤ 12 from by first | rfl | assumption | omega), (show 0 ≤ awc_0.toInt ∧ awc_0.toInt ≤ 12 from by first | rfl | assumption | omega), (show 0 ≤ aht_0.toInt ∧ aht_0.toInt ≤ 12 from by first | rfl | assumption | omega), (show afi_0.toInt = 0 ∨ afi_0.toInt = 1 from by first | rfl | assumption | omega), (show stOK asf_0 asc_0 from by first | rfl | assumption | omega), trivial⟩ hP hD hS dX6_settle_52
      · have c1' := I_nle c1
        refine va_gets (C := RX6) hx hb hEB hS hown (hts _ fl_X6_65) (fun _ h9 => h9) dX6_settle_7 ?_
        refine lv_aload_n hx hb dX6_settle_10 rfl (lv_at hl 0 rfl) ?_
        refine va_get (D := (dC, dI)) (ci := 5) (v := .ref aw) (C := RX6) (T := TX6) (N := 8) hx hb hts inG_X6 hown hK hP 0 rfl rfl 1 (by decide) (hts _ fl_X6_15) (fun _ h9 => h9) rfl dX6_settle_11 ?_
        refine lv_aload_n hx hb dX6_settle_14 rfl (lv_at hl 0 rfl) ?_
        refine va_get (D := (dC, dI)) (ci := 5) (v := .int awc_0) (C := RX6) (T := TX6) (N := 8) hx hb hts inG_X6 hown hK hP 0 rfl rfl 4 (by decide) (hts _ fl_X6_25) (fun _ h9 => h9) rfl dX6_settle_15 ?_
        refine lv_iconst (v := 1) hx hb dX6_settle_18 (by decide) ?_
        refine lv_isub hx hb dX6_settle_19 ?_
        refine lv_topi (fun v2 ev2 => ?_)
        try have hv2 : v2.toInt = awc_0.toInt - (1 : Int32).toInt := I_subx ev2 (by omega)
        refine va_iald (t0 := 0) hx hb hK hP 2 (ha := rfl) (ht := rfl) (I_in (by omega) (by omega)) dX6_settle_20 ?_
        refine lv_topi (fun v3 ev3 => ?_)
        have fv3 := hq4 v2.toNatClampNeg
        rw [← ev3] at fv3
        refine va_ti hx hb hXB hS (I_in (by omega) (by omega)) (v := .int (tBIND v3.toNatClampNeg)) rfl dX6_settle_21 ?_
        refine lv_topi (fun v4 ev4 => ?_)
        have hv4 := tBIND_rng v3
        rw [← ev4] at hv4
        refine lv_iload_n hx hb dX6_settle_22 rfl (lv_at hl 1 rfl) ?_
        refine lv_icmp_lt (tgt := 52) hx hb dX6_settle_23 (by decide) (fun c5 => ?_) (fun c5 => ?_)
        · have c5' := I_lt c5
          exact hret (asc_0, awc_0, aht_0, afi_0, asf_0, akf_0) H locs 52 ls ⟨(show 0 ≤ asc_0.toInt ∧ asc_0.toInt ≤ 12 from by first | rfl | assumption | omega), (show 0 ≤ awc_0.toInt ∧ awc_0.toInt ≤ 12 from by first | rfl | assumption | omega), (show 0 ≤ aht_0.toInt ∧ aht_0.toInt ≤ 12 from by first | rfl | assumption | omega), (show afi_0.toInt = 0 ∨ afi_0.toInt = 1 from by first | rfl | assumption | omega), (show stOK asf_0 asc_0 from by first | rfl | assumption | omega), trivial⟩ hP hD hS dX6_settle_52
        · have c5' := I_nlt c5
          refine lv_aload_n hx hb dX6_settle_26 rfl (lv_at hl 0 rfl) ?_
          refine lv_dup hx hb dX6_settle_27 rfl ?_
          refine va_get (D := (dC, dI)) (ci := 5) (v := .int awc_0) (C := RX6) (T := TX6) (N := 8) hx hb hts inG_X6 hown hK hP 0 rfl rfl 4 (by decide) (hts _ fl_X6_25) (fun _ h9 => h9) rfl dX6_settle_28 ?_
          refine lv_iconst (v := 1) hx hb dX6_settle_31 (by decide) ?_
          refine lv_isub hx hb dX6_settle_32 ?_
          refine lv_topi (fun v6 ev6 => ?_)
          try have hv6 : v6.toInt = awc_0.toInt - (1 : Int32).toInt := I_subx ev6 (by omega)
          refine va_put (D := (dC, dI)) (ci := 5) (v := .int v6) (ty := .int) (C := RX6) (T := TX6) (N := 8) hx hb hts inG_X6 tyX6 tyX6_ok nmX6 hown hK hP hD hS 0 rfl rfl 4 (by decide) (hts _ fl_X6_25) (fun _ h9 => h9) rfl (by decide +kernel) rfl rfl (Nat.le_of_ble_eq_true rfl) dX6_settle_33 (fun H locs hP hD hS => ?_)
          have hP : va_P (dC, dI) vwCl [(a, .inr (5, [.ref as, .ref aw, .ref ak, .int asc_0, .int v6, .int aht_0, .int afi_0, .int amd])), (as, .inl (cI, 12, .inl asf_0)), (aw, .inl (cI, 12, .inl awf)), (ak, .inl (cI, 12, .inl akf_0))] H := hP
          have hD : va_D A [(a, .inr (5, [.ref as, .ref aw, .ref ak, .int asc_0, .int v6, .int aht_0, .int afi_0, .int amd])), (as, .inl (cI, 12, .inl asf_0)), (aw, .inl (cI, 12, .inl awf)), (ak, .inl (cI, 12, .inl akf_0))] := hD
          refine lv_aload_n hx hb dX6_settle_36 rfl (lv_at hl 0 rfl) ?_
          refine lv_aload_n hx hb dX6_settle_37 rfl (lv_at hl 0 rfl) ?_
          refine va_get (D := (dC, dI)) (ci := 5) (v := .ref aw) (C := RX6) (T := TX6) (N := 8) hx hb hts inG_X6 hown hK hP 0 rfl rfl 1 (by decide) (hts _ fl_X6_15) (fun _ h9 => h9) rfl dX6_settle_38 ?_
          refine lv_aload_n hx hb dX6_settle_41 rfl (lv_at hl 0 rfl) ?_
          refine va_get (D := (dC, dI)) (ci := 5) (v := .int v6) (C := RX6) (T := TX6) (N := 8) hx hb hts inG_X6 hown hK hP 0 rfl rfl 4 (by decide) (hts _ fl_X6_25) (fun _ h9 => h9) rfl dX6_settle_42 ?_
          refine va_iald (t0 := 0) hx hb hK hP 2 (ha := rfl) (ht := rfl) (I_in (by omega) (by omega)) dX6_settle_45 ?_
          refine lv_topi (fun v7 ev7 => ?_)
          have fv7 := hq4 v6.toNatClampNeg
          rw [← ev7] at fv7
          have hsq : v7 = v3 := by rw [ev7, ev3, ev6, ev2]
          have hsq2 := I_eq hsq
          refine calV (rest := []) (wr := [(aw, .inl (cI, 12, .inl awf))]) hG (c_X6_addOperator l dC dI cI cJ base bB bO a as aw ak asc_0 v6 aht_0 afi_0 amd asf_0 akf_0 v7 (by first | assumption | omega) (by first | assumption | omega) (by first | assumption | omega) (by first | assumption | omega) (by first | assumption | omega)) ml_X6_68 im_X6_addOperator se_X6_addOperator ini_X6 cd_X6_addOperator hd_X6_addOperator ⟨(Nat.le_of_ble_eq_true rfl), (Nat.le_of_ble_eq_true rfl)⟩ (Nat.le_of_ble_eq_true rfl) (Nat.le_of_ble_eq_true rfl) hP hD hS [0, 1, 3] [2] rfl rfl rfl rfl (by decide) 5 0 rfl rfl hl.1 rfl (Nat.le_of_ble_eq_true rfl) dX6_settle_46 (fun u H locs hw8 hP hD hS => ?_)
          obtain ⟨asc_9, aht_10, afi_11, asf_12, akf_13⟩ := u
          have hw8 : (0 ≤ asc_9.toInt ∧ asc_9.toInt ≤ 12) ∧ (0 ≤ aht_10.toInt ∧ aht_10.toInt ≤ 12) ∧ (afi_11.toInt = 0 ∨ afi_11.toInt = 1) ∧ (stOK asf_12 asc_9) ∧ True := hw8
          obtain ⟨hp14, hp15, hp16, hp17, -⟩ := hw8
          have hP : va_P (dC, dI) vwCl [(aw, .inl (cI, 12, .inl awf)), (a, .inr (5, [.ref as, .ref aw, .ref ak, .int asc_9, .int v6, .int aht_10, .int afi_11, .int amd])), (as, .inl (cI, 12, .inl asf_12)), (ak, .inl (cI, 12, .inl akf_13))] H := hP
          have hD : va_D A [(aw, .inl (cI, 12, .inl awf)), (a, .inr (5, [.ref as, .ref aw, .ref ak, .int asc_9, .int v6, .int aht_10, .int afi_11, .int amd])), (as, .inl (cI, 12, .inl asf_12)), (ak, .inl (cI, 12, .inl akf_13))] := hD
          refine lv_goto (tgt := 0) hx hb dX6_settle_49 (by decide) ?_
          exact ih0 asc_9 v6 aht_10 afi_11 asf_12 akf_13 (by first | assumption | omega) (by first | assumption | omega) (by first | assumption | omega) (by first | assumption | omega) (by first | assumption | omega) (by omega) H locs ls (hP.sub (ws' := [(a, .inr (5, [.ref as, .ref aw, .ref ak, .int asc_9, .int v6, .int aht_10, .int afi_11, .int amd])), (as, .inl (cI, 12, .inl asf_12)), (aw, .inl (cI, 12, .inl awf)), (ak, .inl (cI, 12, .inl akf_13))]) [1, 2, 0, 3] rfl) (hD.sub (ws' := [(a, .inr (5, [.ref as, .ref aw, .ref ak, .int asc_9, .int v6, .int aht_10, .int afi_11, .int amd])), (as, .inl (cI, 12, .inl asf_12)), (aw, .inl (cI, 12, .inl awf)), (ak, .inl (cI, 12, .inl akf_13))]) [1, 2, 0, 3] (by decide) rfl) hS hl
  exact J0 ((awc.toInt).toNat + 1) asc awc aht afi asf akf (by first | assumption | omega) (by first | assumption | omega) (by first | assumption | omega) (by first | assumption | omega) (by first | assumption | omega) (by omega) H locs ls hP hD hS hl
set_option maxHeartbeats 4000000 in
set_option maxRecDepth 100000 in
theorem c_X6_understand (l : Launch) (dC : Nat → ClassId) (dI : Nat → Nat → Nat) (cI cJ : ClassId) (base bB bO : Nat) (a : Nat) (as : Nat) (aw : Nat) (ak : Nat) (asc : Int32) (awc : Int32) (aht : Int32) (afi : Int32) (amd : Int32) (asf : Nat → Int32) (awf : Nat → Int32) (akf : Nat → Int32) (r : Nat) (rt : Nat) (rsz : Int32) (rf : Nat → Int32) (kd : Nat) (kdf : Nat → Int32) (hq0 : 0 ≤ asc.toInt ∧ asc.toInt ≤ 12) (hq1 : 0 ≤ awc.toInt ∧ awc.toInt ≤ 12) (hq2 : 0 ≤ aht.toInt ∧ aht.toInt ≤ 12) (hq3 : afi.toInt = 0 ∨ afi.toInt = 1) (hq4 : ∀ j : Nat, 0 ≤ (awf j).toInt ∧ (awf j).toInt < 12) (hq5 : stOK asf asc) (hq6 : 0 ≤ rsz.toInt ∧ rsz.toInt ≤ 12) (hq7 : ∀ j : Nat, -1 ≤ (rf j).toInt ∧ (rf j).toInt ≤ 31) : CtI l dC dI cI cJ base bB bO yX6_understand cX6_understand 5 .int 2 46 [.ref a, .ref r, .ref kd] [(a, .inr (5, [.ref as, .ref aw, .ref ak, .int asc, .int awc, .int aht, .int afi, .int amd])), (as, .inl (cI, 12, .inl asf)), (aw, .inl (cI, 12, .inl awf)), (ak, .inl (cI, 12, .inl akf)), (r, .inr (3, [.ref rt, .int rsz])), (rt, .inl (cI, 12, .inl rf)), (kd, .inl (cI, 4, .inl kdf))] ((Int32) × (Int32) × (Int32) × (Int32) × (Int32) × (Nat → Int32) × (Nat → Int32) × (Nat → Int32)) (fun (res : Int32) (u : (Int32) × (Int32) × (Int32) × (Int32) × (Int32) × (Nat → Int32) × (Nat → Int32) × (Nat → Int32)) => (0 ≤ u.1.toInt ∧ u.1.toInt ≤ 12) ∧ (0 ≤ u.2.1.toInt ∧ u.2.1.toInt ≤ 12) ∧ (0 ≤ u.2.2.1.toInt ∧ u.2.2.1.toInt ≤ 12) ∧ (u.2.2.2.1.toInt = 0 ∨ u.2.2.2.1.toInt = 1) ∧ (∀ j : Nat, 0 ≤ (u.2.2.2.2.2.2.1 j).toInt ∧ (u.2.2.2.2.2.2.1 j).toInt < 12) ∧ (stOK u.2.2.2.2.2.1 u.1) ∧ True) (fun (u : (Int32) × (Int32) × (Int32) × (Int32) × (Int32) × (Nat → Int32) × (Nat → Int32) × (Nat → Int32)) => [(a, .inr (5, [.ref as, .ref aw, .ref ak, .int u.1, .int u.2.1, .int u.2.2.1, .int u.2.2.2.1, .int u.2.2.2.2.1])), (as, .inl (cI, 12, .inl u.2.2.2.2.2.1)), (aw, .inl (cI, 12, .inl u.2.2.2.2.2.2.1)), (ak, .inl (cI, 12, .inl u.2.2.2.2.2.2.2)), (r, .inr (3, [.ref rt, .int rsz])), (rt, .inl (cI, 12, .inl rf)), (kd, .inl (cI, 4, .inl kdf))]) := by
  refine entI (by decide) (Nat.le_of_ble_eq_true rfl) ?_
  intro p e s m below meth c A Q ls hAt hret hP hD hS hl
  obtain ⟨hx, hb, hml, hown, hts, hA, hAb, hK, hE, hlocks, hin⟩ := hAt
  have hG : CG dC dI cI cJ base bB bO cX6_understand 5 RX6 p s m (List.toArray [.ref a, .ref r, .ref kd]) c A := ⟨hx, hb, hml, hown, hts, hA, hAb, hK, hE⟩
  have hl : lv_has ls 5 [(0, .ref a), (1, .ref r), (2, .ref kd)] := hl
  obtain ⟨hE1, hE2, hE3, hE4, hE5, hX6, hX7, -⟩ := id hE
  have hEB := hE4.narrow hAb
  have hEO := hE5.narrow hAb
  have hXB := hX6.narrow hAb
  have hXO := hX7.narrow hAb
  have c_m1 : (-1 : Int32).toInt = -1 := by decide
  have c_0 : (0 : Int32).toInt = 0 := by decide
  have c_1 : (1 : Int32).toInt = 1 := by decide
  have c_8 : (8 : Int32).toInt = 8 := by decide
  have c_9 : (9 : Int32).toInt = 9 := by decide
  have c_10 : (10 : Int32).toInt = 10 := by decide
  have c_11 : (11 : Int32).toInt = 11 := by decide
  have c_12 : (12 : Int32).toInt = 12 := by decide
  obtain ⟨H, hHe⟩ : ∃ H : Heap, H = s.heap := ⟨_, rfl⟩
  obtain ⟨locs, hle⟩ : ∃ z : List Loc, z = [] := ⟨_, rfl⟩
  rw [← hHe] at hP
  have hS : va_S A s.heap H locs := by rw [hHe, hle]; exact hS
  suffices hgo : W p l e { frames := 2, cells := 0, slots := 0, locals := 46 } s m (List.toArray [.ref a, .ref r, .ref kd]) below meth c H locs 0 0 Q (F0 m 0 ls []) by rw [hHe, hle] at hgo; exact hgo
  refine lv_aload_n hx hb dX6_understand_0 rfl (lv_at hl 0 rfl) ?_
  refine lv_iconst (v := 0) hx hb dX6_understand_1 (by decide) ?_
  refine va_put (D := (dC, dI)) (ci := 5) (v := .int 0) (ty := .int) (C := RX6) (T := TX6) (N := 8) hx hb hts inG_X6 tyX6 tyX6_ok nmX6 hown hK hP hD hS 0 rfl rfl 3 (by decide) (hts _ fl_X6_21) (fun _ h9 => h9) rfl (by decide +kernel) rfl rfl (Nat.le_of_ble_eq_true rfl) dX6_understand_2 (fun H locs hP hD hS => ?_)
  have hP : va_P (dC, dI) vwCl [(a, .inr (5, [.ref as, .ref aw, .ref ak, .int 0, .int awc, .int aht, .int afi, .int amd])), (as, .inl (cI, 12, .inl asf)), (aw, .inl (cI, 12, .inl awf)), (ak, .inl (cI, 12, .inl akf)), (r, .inr (3, [.ref rt, .int rsz])), (rt, .inl (cI, 12, .inl rf)), (kd, .inl (cI, 4, .inl kdf))] H := hP
  have hD : va_D A [(a, .inr (5, [.ref as, .ref aw, .ref ak, .int 0, .int awc, .int aht, .int afi, .int amd])), (as, .inl (cI, 12, .inl asf)), (aw, .inl (cI, 12, .inl awf)), (ak, .inl (cI, 12, .inl akf)), (r, .inr (3, [.ref rt, .int rsz])), (rt, .inl (cI, 12, .inl rf)), (kd, .inl (cI, 4, .inl kdf))] := hD
  refine lv_aload_n hx hb dX6_understand_5 rfl (lv_at hl 0 rfl) ?_
  refine lv_iconst (v := 0) hx hb dX6_understand_6 (by decide) ?_
  refine va_put (D := (dC, dI)) (ci := 5) (v := .int 0) (ty := .int) (C := RX6) (T := TX6) (N := 8) hx hb hts inG_X6 tyX6 tyX6_ok nmX6 hown hK hP hD hS 0 rfl rfl 4 (by decide) (hts _ fl_X6_25) (fun _ h9 => h9) rfl (by decide +kernel) rfl rfl (Nat.le_of_ble_eq_true rfl) dX6_understand_7 (fun H locs hP hD hS => ?_)
  have hP : va_P (dC, dI) vwCl [(a, .inr (5, [.ref as, .ref aw, .ref ak, .int 0, .int 0, .int aht, .int afi, .int amd])), (as, .inl (cI, 12, .inl asf)), (aw, .inl (cI, 12, .inl awf)), (ak, .inl (cI, 12, .inl akf)), (r, .inr (3, [.ref rt, .int rsz])), (rt, .inl (cI, 12, .inl rf)), (kd, .inl (cI, 4, .inl kdf))] H := hP
  have hD : va_D A [(a, .inr (5, [.ref as, .ref aw, .ref ak, .int 0, .int 0, .int aht, .int afi, .int amd])), (as, .inl (cI, 12, .inl asf)), (aw, .inl (cI, 12, .inl awf)), (ak, .inl (cI, 12, .inl akf)), (r, .inr (3, [.ref rt, .int rsz])), (rt, .inl (cI, 12, .inl rf)), (kd, .inl (cI, 4, .inl kdf))] := hD
  refine lv_aload_n hx hb dX6_understand_10 rfl (lv_at hl 0 rfl) ?_
  refine lv_iconst (v := 0) hx hb dX6_understand_11 (by decide) ?_
  refine va_put (D := (dC, dI)) (ci := 5) (v := .int 0) (ty := .int) (C := RX6) (T := TX6) (N := 8) hx hb hts inG_X6 tyX6 tyX6_ok nmX6 hown hK hP hD hS 0 rfl rfl 5 (by decide) (hts _ fl_X6_28) (fun _ h9 => h9) rfl (by decide +kernel) rfl rfl (Nat.le_of_ble_eq_true rfl) dX6_understand_12 (fun H locs hP hD hS => ?_)
  have hP : va_P (dC, dI) vwCl [(a, .inr (5, [.ref as, .ref aw, .ref ak, .int 0, .int 0, .int 0, .int afi, .int amd])), (as, .inl (cI, 12, .inl asf)), (aw, .inl (cI, 12, .inl awf)), (ak, .inl (cI, 12, .inl akf)), (r, .inr (3, [.ref rt, .int rsz])), (rt, .inl (cI, 12, .inl rf)), (kd, .inl (cI, 4, .inl kdf))] H := hP
  have hD : va_D A [(a, .inr (5, [.ref as, .ref aw, .ref ak, .int 0, .int 0, .int 0, .int afi, .int amd])), (as, .inl (cI, 12, .inl asf)), (aw, .inl (cI, 12, .inl awf)), (ak, .inl (cI, 12, .inl akf)), (r, .inr (3, [.ref rt, .int rsz])), (rt, .inl (cI, 12, .inl rf)), (kd, .inl (cI, 4, .inl kdf))] := hD
  refine lv_aload_n hx hb dX6_understand_15 rfl (lv_at hl 0 rfl) ?_
  refine lv_iconst (v := 1) hx hb dX6_understand_16 (by decide) ?_
  refine va_put (D := (dC, dI)) (ci := 5) (v := .int 1) (ty := .boolean) (C := RX6) (T := TX6) (N := 8) hx hb hts inG_X6 tyX6 tyX6_ok nmX6 hown hK hP hD hS 0 rfl rfl 6 (by decide) (hts _ fl_X6_31) (fun _ h9 => h9) rfl (by decide +kernel) (by first | rfl | exact I_narz (by omega)) rfl (Nat.le_of_ble_eq_true rfl) dX6_understand_17 (fun H locs hP hD hS => ?_)
  have hP : va_P (dC, dI) vwCl [(a, .inr (5, [.ref as, .ref aw, .ref ak, .int 0, .int 0, .int 0, .int 1, .int amd])), (as, .inl (cI, 12, .inl asf)), (aw, .inl (cI, 12, .inl awf)), (ak, .inl (cI, 12, .inl akf)), (r, .inr (3, [.ref rt, .int rsz])), (rt, .inl (cI, 12, .inl rf)), (kd, .inl (cI, 4, .inl kdf))] H := hP
  have hD : va_D A [(a, .inr (5, [.ref as, .ref aw, .ref ak, .int 0, .int 0, .int 0, .int 1, .int amd])), (as, .inl (cI, 12, .inl asf)), (aw, .inl (cI, 12, .inl awf)), (ak, .inl (cI, 12, .inl akf)), (r, .inr (3, [.ref rt, .int rsz])), (rt, .inl (cI, 12, .inl rf)), (kd, .inl (cI, 4, .inl kdf))] := hD
  refine lv_iconst (v := 0) hx hb dX6_understand_20 (by decide) ?_
  refine lv_istore_n (lv' := [(3, .int 0), (0, .ref a), (1, .ref r), (2, .ref kd)]) hx hb dX6_understand_21 rfl hl (by decide) rfl (fun ls hl => ?_)
  have J22 : ∀ (n : Nat) (L3_22 : Int32) (asc_22 : Int32) (awc_22 : Int32) (aht_22 : Int32) (afi_22 : Int32) (asf_22 : Nat → Int32) (awf_22 : Nat → Int32) (akf_22 : Nat → Int32), (0 ≤ asc_22.toInt ∧ asc_22.toInt ≤ 12) → (0 ≤ awc_22.toInt ∧ awc_22.toInt ≤ 12) → (0 ≤ aht_22.toInt ∧ aht_22.toInt ≤ 12) → (afi_22.toInt = 0 ∨ afi_22.toInt = 1) → (∀ j : Nat, 0 ≤ (awf_22 j).toInt ∧ (awf_22 j).toInt < 12) → (stOK asf_22 asc_22) → (0 ≤ L3_22.toInt ∧ L3_22.toInt ≤ 12) → (12 - L3_22.toInt) < (n : Int) → ∀ (H : Heap) (locs : List Loc) (ls : Array Slot), va_P (dC, dI) vwCl [(a, .inr (5, [.ref as, .ref aw, .ref ak, .int asc_22, .int awc_22, .int aht_22, .int afi_22, .int amd])), (as, .inl (cI, 12, .inl asf_22)), (aw, .inl (cI, 12, .inl awf_22)), (ak, .inl (cI, 12, .inl akf_22)), (r, .inr (3, [.ref rt, .int rsz])), (rt, .inl (cI, 12, .inl rf)), (kd, .inl (cI, 4, .inl kdf))] H → va_D A [(a, .inr (5, [.ref as, .ref aw, .ref ak, .int asc_22, .int awc_22, .int aht_22, .int afi_22, .int amd])), (as, .inl (cI, 12, .inl asf_22)), (aw, .inl (cI, 12, .inl awf_22)), (ak, .inl (cI, 12, .inl akf_22)), (r, .inr (3, [.ref rt, .int rsz])), (rt, .inl (cI, 12, .inl rf)), (kd, .inl (cI, 4, .inl kdf))] → va_S A s.heap H locs → lv_has ls 5 [(3, .int L3_22), (0, .ref a), (1, .ref r), (2, .ref kd)] → W p l e { frames := 2, cells := 0, slots := 0, locals := 46 } s m (List.toArray [.ref a, .ref r, .ref kd]) below meth c H locs 0 0 Q (F0 m 22 ls []) := by
    intro n
    induction n with
    | zero =>
      intro L3_22 asc_22 awc_22 aht_22 afi_22 asf_22 awf_22 akf_22 hi0_22 hi1_22 hi2_22 hi3_22 hi4_22 hi5_22 hi6_22 hm
      exact absurd hm (by omega)
    | succ n ih22 =>
      intro L3_22 asc_22 awc_22 aht_22 afi_22 asf_22 awf_22 akf_22 hi0_22 hi1_22 hi2_22 hi3_22 hi4_22 hi5_22 hi6_22 hm22 H locs ls hP hD hS hl
      refine lv_iload_n hx hb dX6_understand_22 rfl (lv_at hl 0 rfl) ?_
      refine lv_aload_n hx hb dX6_understand_23 rfl (lv_at hl 2 rfl) ?_
      refine calI (rest := [.int L3_22]) (wr := [(a, .inr (5, [.ref as, .ref aw, .ref ak, .int asc_22, .int awc_22, .int aht_22, .int afi_22, .int amd])), (as, .inl (cI, 12, .inl asf_22)), (aw, .inl (cI, 12, .inl awf_22)), (ak, .inl (cI, 12, .inl akf_22)), (kd, .inl (cI, 4, .inl kdf))]) hG (c_X4_size l dC dI cI cJ base bB bO r rt rsz rf ) ml_X6_38 im_X4_size se_X4_size ini_X4 cd_X4_size hd_X4_size ⟨(Nat.le_of_ble_eq_true rfl), (Nat.le_of_ble_eq_true rfl)⟩ (Nat.le_of_ble_eq_true rfl) (Nat.le_of_ble_eq_true rfl) hP hD hS [4, 5] [0, 1, 2, 3, 6] rfl rfl rfl rfl (by decide) 3 4 rfl rfl hl.1 rfl (Nat.le_of_ble_eq_true rfl) dX6_understand_24 (fun r1 u H locs hw2 hP hD hS => ?_)
      have hw2 : (r1 = rsz) ∧ True := hw2
      obtain ⟨hp3, -⟩ := hw2
      have hp3t := I_eq hp3
      have hP : va_P (dC, dI) vwCl [(a, .inr (5, [.ref as, .ref aw, .ref ak, .int asc_22, .int awc_22, .int aht_22, .int afi_22, .int amd])), (as, .inl (cI, 12, .inl asf_22)), (aw, .inl (cI, 12, .inl awf_22)), (ak, .inl (cI, 12, .inl akf_22)), (kd, .inl (cI, 4, .inl kdf)), (r, .inr (3, [.ref rt, .int rsz])), (rt, .inl (cI, 12, .inl rf))] H := hP
      have hD : va_D A [(a, .inr (5, [.ref as, .ref aw, .ref ak, .int asc_22, .int awc_22, .int aht_22, .int afi_22, .int amd])), (as, .inl (cI, 12, .inl asf_22)), (aw, .inl (cI, 12, .inl awf_22)), (ak, .inl (cI, 12, .inl akf_22)), (kd, .inl (cI, 4, .inl kdf)), (r, .inr (3, [.ref rt, .int rsz])), (rt, .inl (cI, 12, .inl rf))] := hD
      refine lv_icmp_ge (tgt := 170) hx hb dX6_understand_27 (by decide) (fun c4 => ?_) (fun c4 => ?_)
      · have c4' := I_le c4
        refine lv_aload_n hx hb dX6_understand_170 rfl (lv_at hl 1 rfl) ?_
        refine lv_iconst (v := 1) hx hb dX6_understand_171 (by decide) ?_
        refine calV (rest := []) (wr := [(kd, .inl (cI, 4, .inl kdf)), (r, .inr (3, [.ref rt, .int rsz])), (rt, .inl (cI, 12, .inl rf))]) hG (c_X6_settle l dC dI cI cJ base bB bO a as aw ak asc_22 awc_22 aht_22 afi_22 amd asf_22 awf_22 akf_22 1 (by first | assumption | omega) (by first | assumption | omega) (by first | assumption | omega) (by first | assumption | omega) (by first | assumption | omega) (by first | assumption | omega) (by first | assumption | omega)) ml_X6_56 im_X6_settle se_X6_settle ini_X6 cd_X6_settle hd_X6_settle ⟨(Nat.le_of_ble_eq_true rfl), (Nat.le_of_ble_eq_true rfl)⟩ (Nat.le_of_ble_eq_true rfl) (Nat.le_of_ble_eq_true rfl) hP hD hS [0, 1, 2, 3] [4, 5, 6] rfl rfl rfl rfl (by decide) 5 0 rfl rfl hl.1 rfl (Nat.le_of_ble_eq_true rfl) dX6_understand_172 (fun u H locs hw5 hP hD hS => ?_)
        obtain ⟨asc_6, awc_7, aht_8, afi_9, asf_10, akf_11⟩ := u
        have hw5 : (0 ≤ asc_6.toInt ∧ asc_6.toInt ≤ 12) ∧ (0 ≤ awc_7.toInt ∧ awc_7.toInt ≤ 12) ∧ (0 ≤ aht_8.toInt ∧ aht_8.toInt ≤ 12) ∧ (afi_9.toInt = 0 ∨ afi_9.toInt = 1) ∧ (stOK asf_10 asc_6) ∧ True := hw5
        obtain ⟨hp12, hp13, hp14, hp15, hp16, -⟩ := hw5
        have hP : va_P (dC, dI) vwCl [(kd, .inl (cI, 4, .inl kdf)), (r, .inr (3, [.ref rt, .int rsz])), (rt, .inl (cI, 12, .inl rf)), (a, .inr (5, [.ref as, .ref aw, .ref ak, .int asc_6, .int awc_7, .int aht_8, .int afi_9, .int amd])), (as, .inl (cI, 12, .inl asf_10)), (aw, .inl (cI, 12, .inl awf_22)), (ak, .inl (cI, 12, .inl akf_11))] H := hP
        have hD : va_D A [(kd, .inl (cI, 4, .inl kdf)), (r, .inr (3, [.ref rt, .int rsz])), (rt, .inl (cI, 12, .inl rf)), (a, .inr (5, [.ref as, .ref aw, .ref ak, .int asc_6, .int awc_7, .int aht_8, .int afi_9, .int amd])), (as, .inl (cI, 12, .inl asf_10)), (aw, .inl (cI, 12, .inl awf_22)), (ak, .inl (cI, 12, .inl akf_11))] := hD
        refine lv_aload_n hx hb dX6_understand_175 rfl (lv_at hl 1 rfl) ?_
        refine lv_aload_n hx hb dX6_understand_176 rfl (lv_at hl 1 rfl) ?_
        refine va_get (D := (dC, dI)) (ci := 5) (v := .int afi_9) (C := RX6) (T := TX6) (N := 8) hx hb hts inG_X6 hown hK hP 3 rfl rfl 6 (by decide) (hts _ fl_X6_31) (fun _ h9 => h9) rfl dX6_understand_177 ?_
        refine lv_if_eq (tgt := 207) hx hb dX6_understand_180 (by decide) (fun c17 => ?_) (fun c17 => ?_)
        · have c17' := I_eq c17
          refine lv_iconst (v := (-1)) hx hb dX6_understand_207 (by decide) ?_
          refine va_put (D := (dC, dI)) (ci := 5) (v := .int (-1)) (ty := .int) (C := RX6) (T := TX6) (N := 8) hx hb hts inG_X6 tyX6 tyX6_ok nmX6 hown hK hP hD hS 3 rfl rfl 7 (by decide) (hts _ fl_X6_35) (fun _ h9 => h9) rfl (by decide +kernel) rfl rfl (Nat.le_of_ble_eq_true rfl) dX6_understand_208 (fun H locs hP hD hS => ?_)
          have hP : va_P (dC, dI) vwCl [(kd, .inl (cI, 4, .inl kdf)), (r, .inr (3, [.ref rt, .int rsz])), (rt, .inl (cI, 12, .inl rf)), (a, .inr (5, [.ref as, .ref aw, .ref ak, .int asc_6, .int awc_7, .int aht_8, .int afi_9, .int (-1)])), (as, .inl (cI, 12, .inl asf_10)), (aw, .inl (cI, 12, .inl awf_22)), (ak, .inl (cI, 12, .inl akf_11))] H := hP
          have hD : va_D A [(kd, .inl (cI, 4, .inl kdf)), (r, .inr (3, [.ref rt, .int rsz])), (rt, .inl (cI, 12, .inl rf)), (a, .inr (5, [.ref as, .ref aw, .ref ak, .int asc_6, .int awc_7, .int aht_8, .int afi_9, .int (-1)])), (as, .inl (cI, 12, .inl asf_10)), (aw, .inl (cI, 12, .inl awf_22)), (ak, .inl (cI, 12, .inl akf_11))] := hD
          refine lv_aload_n hx hb dX6_understand_211 rfl (lv_at hl 1 rfl) ?_
          refine va_get (D := (dC, dI)) (ci := 5) (v := .int (-1)) (C := RX6) (T := TX6) (N := 8) hx hb hts inG_X6 hown hK hP 3 rfl rfl 7 (by decide) (hts _ fl_X6_35) (fun _ h9 => h9) rfl dX6_understand_212 ?_
          exact hret (-1) (asc_6, awc_7, aht_8, afi_9, (-1), asf_10, awf_22, akf_11) H locs 215 ls rfl ⟨(show 0 ≤ asc_6.toInt ∧ asc_6.toInt ≤ 12 from by first | rfl | assumption | omega), (show 0 ≤ awc_7.toInt ∧ awc_7.toInt ≤ 12 from by first | rfl | assumption | omega), (show 0 ≤ aht_8.toInt ∧ aht_8.toInt ≤ 12 from by first | rfl | assumption | omega), (show afi_9.toInt = 0 ∨ afi_9.toInt = 1 from by first | rfl | assumption | omega), (show ∀ j : Nat, 0 ≤ (awf_22 j).toInt ∧ (awf_22 j).toInt < 12 from by first | rfl | assumption | omega), (show stOK asf_10 asc_6 from by first | rfl | assumption | omega), trivial⟩ (hP.sub (ws' := [(a, .inr (5, [.ref as, .ref aw, .ref ak, .int asc_6, .int awc_7, .int aht_8, .int afi_9, .int (-1)])), (as, .inl (cI, 12, .inl asf_10)), (aw, .inl (cI, 12, .inl awf_22)), (ak, .inl (cI, 12, .inl akf_11)), (r, .inr (3, [.ref rt, .int rsz])), (rt, .inl (cI, 12, .inl rf)), (kd, .inl (cI, 4, .inl kdf))]) [3, 4, 5, 6, 1, 2, 0] rfl) (hD.sub (ws' := [(a, .inr (5, [.ref as, .ref aw, .ref ak, .int asc_6, .int awc_7, .int aht_8, .int afi_9, .int (-1)])), (as, .inl (cI, 12, .inl asf_10)), (aw, .inl (cI, 12, .inl awf_22)), (ak, .inl (cI, 12, .inl akf_11)), (r, .inr (3, [.ref rt, .int rsz])), (rt, .inl (cI, 12, .inl rf)), (kd, .inl (cI, 4, .inl kdf))]) [3, 4, 5, 6, 1, 2, 0] (by decide) rfl) hS dX6_understand_215
        · have c17' := I_ne c17
          refine lv_aload_n hx hb dX6_understand_183 rfl (lv_at hl 1 rfl) ?_
          refine va_get (D := (dC, dI)) (ci := 5) (v := .int aht_8) (C := RX6) (T := TX6) (N := 8) hx hb hts inG_X6 hown hK hP 3 rfl rfl 5 (by decide) (hts _ fl_X6_28) (fun _ h9 => h9) rfl dX6_understand_184 ?_
          refine lv_iconst (v := 1) hx hb dX6_understand_187 (by decide) ?_
          refine lv_icmp_ne (tgt := 207) hx hb dX6_understand_188 (by decide) (fun c18 => ?_) (fun c18 => ?_)
          · have c18' := I_ne c18
            refine lv_iconst (v := (-1)) hx hb dX6_understand_207 (by decide) ?_
            refine va_put (D := (dC, dI)) (ci := 5) (v := .int (-1)) (ty := .int) (C := RX6) (T := TX6) (N := 8) hx hb hts inG_X6 tyX6 tyX6_ok nmX6 hown hK hP hD hS 3 rfl rfl 7 (by decide) (hts _ fl_X6_35) (fun _ h9 => h9) rfl (by decide +kernel) rfl rfl (Nat.le_of_ble_eq_true rfl) dX6_understand_208 (fun H locs hP hD hS => ?_)
            have hP : va_P (dC, dI) vwCl [(kd, .inl (cI, 4, .inl kdf)), (r, .inr (3, [.ref rt, .int rsz])), (rt, .inl (cI, 12, .inl rf)), (a, .inr (5, [.ref as, .ref aw, .ref ak, .int asc_6, .int awc_7, .int aht_8, .int afi_9, .int (-1)])), (as, .inl (cI, 12, .inl asf_10)), (aw, .inl (cI, 12, .inl awf_22)), (ak, .inl (cI, 12, .inl akf_11))] H := hP
            have hD : va_D A [(kd, .inl (cI, 4, .inl kdf)), (r, .inr (3, [.ref rt, .int rsz])), (rt, .inl (cI, 12, .inl rf)), (a, .inr (5, [.ref as, .ref aw, .ref ak, .int asc_6, .int awc_7, .int aht_8, .int afi_9, .int (-1)])), (as, .inl (cI, 12, .inl asf_10)), (aw, .inl (cI, 12, .inl awf_22)), (ak, .inl (cI, 12, .inl akf_11))] := hD
            refine lv_aload_n hx hb dX6_understand_211 rfl (lv_at hl 1 rfl) ?_
            refine va_get (D := (dC, dI)) (ci := 5) (v := .int (-1)) (C := RX6) (T := TX6) (N := 8) hx hb hts inG_X6 hown hK hP 3 rfl rfl 7 (by decide) (hts _ fl_X6_35) (fun _ h9 => h9) rfl dX6_understand_212 ?_
            exact hret (-1) (asc_6, awc_7, aht_8, afi_9, (-1), asf_10, awf_22, akf_11) H locs 215 ls rfl ⟨(show 0 ≤ asc_6.toInt ∧ asc_6.toInt ≤ 12 from by first | rfl | assumption | omega), (show 0 ≤ awc_7.toInt ∧ awc_7.toInt ≤ 12 from by first | rfl | assumption | omega), (show 0 ≤ aht_8.toInt ∧ aht_8.toInt ≤ 12 from by first | rfl | assumption | omega), (show afi_9.toInt = 0 ∨ afi_9.toInt = 1 from by first | rfl | assumption | omega), (show ∀ j : Nat, 0 ≤ (awf_22 j).toInt ∧ (awf_22 j).toInt < 12 from by first | rfl | assumption | omega), (show stOK asf_10 asc_6 from by first | rfl | assumption | omega), trivial⟩ (hP.sub (ws' := [(a, .inr (5, [.ref as, .ref aw, .ref ak, .int asc_6, .int awc_7, .int aht_8, .int afi_9, .int (-1)])), (as, .inl (cI, 12, .inl asf_10)), (aw, .inl (cI, 12, .inl awf_22)), (ak, .inl (cI, 12, .inl akf_11)), (r, .inr (3, [.ref rt, .int rsz])), (rt, .inl (cI, 12, .inl rf)), (kd, .inl (cI, 4, .inl kdf))]) [3, 4, 5, 6, 1, 2, 0] rfl) (hD.sub (ws' := [(a, .inr (5, [.ref as, .ref aw, .ref ak, .int asc_6, .int awc_7, .int aht_8, .int afi_9, .int (-1)])), (as, .inl (cI, 12, .inl asf_10)), (aw, .inl (cI, 12, .inl awf_22)), (ak, .inl (cI, 12, .inl akf_11)), (r, .inr (3, [.ref rt, .int rsz])), (rt, .inl (cI, 12, .inl rf)), (kd, .inl (cI, 4, .inl kdf))]) [3, 4, 5, 6, 1, 2, 0] (by decide) rfl) hS dX6_understand_215
          · have c18' := I_eq c18
            refine lv_aload_n hx hb dX6_understand_191 rfl (lv_at hl 1 rfl) ?_
            refine va_get (D := (dC, dI)) (ci := 5) (v := .int awc_7) (C := RX6) (T := TX6) (N := 8) hx hb hts inG_X6 hown hK hP 3 rfl rfl 4 (by decide) (hts _ fl_X6_25) (fun _ h9 => h9) rfl dX6_understand_192 ?_
            refine lv_if_ne (tgt := 207) hx hb dX6_understand_195 (by decide) (fun c19 => ?_) (fun c19 => ?_)
            · have c19' := I_ne c19
              refine lv_iconst (v := (-1)) hx hb dX6_understand_207 (by decide) ?_
              refine va_put (D := (dC, dI)) (ci := 5) (v := .int (-1)) (ty := .int) (C := RX6) (T := TX6) (N := 8) hx hb hts inG_X6 tyX6 tyX6_ok nmX6 hown hK hP hD hS 3 rfl rfl 7 (by decide) (hts _ fl_X6_35) (fun _ h9 => h9) rfl (by decide +kernel) rfl rfl (Nat.le_of_ble_eq_true rfl) dX6_understand_208 (fun H locs hP hD hS => ?_)
              have hP : va_P (dC, dI) vwCl [(kd, .inl (cI, 4, .inl kdf)), (r, .inr (3, [.ref rt, .int rsz])), (rt, .inl (cI, 12, .inl rf)), (a, .inr (5, [.ref as, .ref aw, .ref ak, .int asc_6, .int awc_7, .int aht_8, .int afi_9, .int (-1)])), (as, .inl (cI, 12, .inl asf_10)), (aw, .inl (cI, 12, .inl awf_22)), (ak, .inl (cI, 12, .inl akf_11))] H := hP
              have hD : va_D A [(kd, .inl (cI, 4, .inl kdf)), (r, .inr (3, [.ref rt, .int rsz])), (rt, .inl (cI, 12, .inl rf)), (a, .inr (5, [.ref as, .ref aw, .ref ak, .int asc_6, .int awc_7, .int aht_8, .int afi_9, .int (-1)])), (as, .inl (cI, 12, .inl asf_10)), (aw, .inl (cI, 12, .inl awf_22)), (ak, .inl (cI, 12, .inl akf_11))] := hD
              refine lv_aload_n hx hb dX6_understand_211 rfl (lv_at hl 1 rfl) ?_
              refine va_get (D := (dC, dI)) (ci := 5) (v := .int (-1)) (C := RX6) (T := TX6) (N := 8) hx hb hts inG_X6 hown hK hP 3 rfl rfl 7 (by decide) (hts _ fl_X6_35) (fun _ h9 => h9) rfl dX6_understand_212 ?_
              exact hret (-1) (asc_6, awc_7, aht_8, afi_9, (-1), asf_10, awf_22, akf_11) H locs 215 ls rfl ⟨(show 0 ≤ asc_6.toInt ∧ asc_6.toInt ≤ 12 from by first | rfl | assumption | omega), (show 0 ≤ awc_7.toInt ∧ awc_7.toInt ≤ 12 from by first | rfl | assumption | omega), (show 0 ≤ aht_8.toInt ∧ aht_8.toInt ≤ 12 from by first | rfl | assumption | omega), (show afi_9.toInt = 0 ∨ afi_9.toInt = 1 from by first | rfl | assumption | omega), (show ∀ j : Nat, 0 ≤ (awf_22 j).toInt ∧ (awf_22 j).toInt < 12 from by first | rfl | assumption | omega), (show stOK asf_10 asc_6 from by first | rfl | assumption | omega), trivial⟩ (hP.sub (ws' := [(a, .inr (5, [.ref as, .ref aw, .ref ak, .int asc_6, .int awc_7, .int aht_8, .int afi_9, .int (-1)])), (as, .inl (cI, 12, .inl asf_10)), (aw, .inl (cI, 12, .inl awf_22)), (ak, .inl (cI, 12, .inl akf_11)), (r, .inr (3, [.ref rt, .int rsz])), (rt, .inl (cI, 12, .inl rf)), (kd, .inl (cI, 4, .inl kdf))]) [3, 4, 5, 6, 1, 2, 0] rfl) (hD.sub (ws' := [(a, .inr (5, [.ref as, .ref aw, .ref ak, .int asc_6, .int awc_7, .int aht_8, .int afi_9, .int (-1)])), (as, .inl (cI, 12, .inl asf_10)), (aw, .inl (cI, 12, .inl awf_22)), (ak, .inl (cI, 12, .inl akf_11)), (r, .inr (3, [.ref rt, .int rsz])), (rt, .inl (cI, 12, .inl rf)), (kd, .inl (cI, 4, .inl kdf))]) [3, 4, 5, 6, 1, 2, 0] (by decide) rfl) hS dX6_understand_215
            · have c19' := I_eq c19
              refine lv_aload_n hx hb dX6_understand_198 rfl (lv_at hl 1 rfl) ?_
              refine va_get (D := (dC, dI)) (ci := 5) (v := .ref ak) (C := RX6) (T := TX6) (N := 8) hx hb hts inG_X6 hown hK hP 3 rfl rfl 2 (by decide) (hts _ fl_X6_18) (fun _ h9 => h9) rfl dX6_understand_199 ?_
              refine lv_iconst (v := 0) hx hb dX6_understand_202 (by decide) ?_
              refine va_iald (t0 := 0) hx hb hK hP 6 (ha := rfl) (ht := rfl) (I_in (by omega) (by omega)) dX6_understand_203 ?_
              refine lv_topi (fun v20 ev20 => ?_)
              refine lv_goto (tgt := 208) hx hb dX6_understand_204 (by decide) ?_
              refine va_put (D := (dC, dI)) (ci := 5) (v := .int v20) (ty := .int) (C := RX6) (T := TX6) (N := 8) hx hb hts inG_X6 tyX6 tyX6_ok nmX6 hown hK hP hD hS 3 rfl rfl 7 (by decide) (hts _ fl_X6_35) (fun _ h9 => h9) rfl (by decide +kernel) rfl rfl (Nat.le_of_ble_eq_true rfl) dX6_understand_208 (fun H locs hP hD hS => ?_)
              have hP : va_P (dC, dI) vwCl [(kd, .inl (cI, 4, .inl kdf)), (r, .inr (3, [.ref rt, .int rsz])), (rt, .inl (cI, 12, .inl rf)), (a, .inr (5, [.ref as, .ref aw, .ref ak, .int asc_6, .int awc_7, .int aht_8, .int afi_9, .int v20])), (as, .inl (cI, 12, .inl asf_10)), (aw, .inl (cI, 12, .inl awf_22)), (ak, .inl (cI, 12, .inl akf_11))] H := hP
              have hD : va_D A [(kd, .inl (cI, 4, .inl kdf)), (r, .inr (3, [.ref rt, .int rsz])), (rt, .inl (cI, 12, .inl rf)), (a, .inr (5, [.ref as, .ref aw, .ref ak, .int asc_6, .int awc_7, .int aht_8, .int afi_9, .int v20])), (as, .inl (cI, 12, .inl asf_10)), (aw, .inl (cI, 12, .inl awf_22)), (ak, .inl (cI, 12, .inl akf_11))] := hD
              refine lv_aload_n hx hb dX6_understand_211 rfl (lv_at hl 1 rfl) ?_
              refine va_get (D := (dC, dI)) (ci := 5) (v := .int v20) (C := RX6) (T := TX6) (N := 8) hx hb hts inG_X6 hown hK hP 3 rfl rfl 7 (by decide) (hts _ fl_X6_35) (fun _ h9 => h9) rfl dX6_understand_212 ?_
              exact hret v20 (asc_6, awc_7, aht_8, afi_9, v20, asf_10, awf_22, akf_11) H locs 215 ls rfl ⟨(show 0 ≤ asc_6.toInt ∧ asc_6.toInt ≤ 12 from by first | rfl | assumption | omega), (show 0 ≤ awc_7.toInt ∧ awc_7.toInt ≤ 12 from by first | rfl | assumption | omega), (show 0 ≤ aht_8.toInt ∧ aht_8.toInt ≤ 12 from by first | rfl | assumption | omega), (show afi_9.toInt = 0 ∨ afi_9.toInt = 1 from by first | rfl | assumption | omega), (show ∀ j : Nat, 0 ≤ (awf_22 j).toInt ∧ (awf_22 j).toInt < 12 from by first | rfl | assumption | omega), (show stOK asf_10 asc_6 from by first | rfl | assumption | omega), trivial⟩ (hP.sub (ws' := [(a, .inr (5, [.ref as, .ref aw, .ref ak, .int asc_6, .int awc_7, .int aht_8, .int afi_9, .int v20])), (as, .inl (cI, 12, .inl asf_10)), (aw, .inl (cI, 12, .inl awf_22)), (ak, .inl (cI, 12, .inl akf_11)), (r, .inr (3, [.ref rt, .int rsz])), (rt, .inl (cI, 12, .inl rf)), (kd, .inl (cI, 4, .inl kdf))]) [3, 4, 5, 6, 1, 2, 0] rfl) (hD.sub (ws' := [(a, .inr (5, [.ref as, .ref aw, .ref ak, .int asc_6, .int awc_7, .int aht_8, .int afi_9, .int v20])), (as, .inl (cI, 12, .inl asf_10)), (aw, .inl (cI, 12, .inl awf_22)), (ak, .inl (cI, 12, .inl akf_11)), (r, .inr (3, [.ref rt, .int rsz])), (rt, .inl (cI, 12, .inl rf)), (kd, .inl (cI, 4, .inl kdf))]) [3, 4, 5, 6, 1, 2, 0] (by decide) rfl) hS dX6_understand_215
      · have c4' := I_nle c4
        refine lv_aload_n hx hb dX6_understand_30 rfl (lv_at hl 1 rfl) ?_
        refine va_get (D := (dC, dI)) (ci := 5) (v := .int afi_22) (C := RX6) (T := TX6) (N := 8) hx hb hts inG_X6 hown hK hP 0 rfl rfl 6 (by decide) (hts _ fl_X6_31) (fun _ h9 => h9) rfl dX6_understand_31 ?_
        refine lv_if_eq (tgt := 170) hx hb dX6_understand_34 (by decide) (fun c21 => ?_) (fun c21 => ?_)
        · have c21' := I_eq c21
          refine lv_aload_n hx hb dX6_understand_170 rfl (lv_at hl 1 rfl) ?_
          refine lv_iconst (v := 1) hx hb dX6_understand_171 (by decide) ?_
          refine calV (rest := []) (wr := [(kd, .inl (cI, 4, .inl kdf)), (r, .inr (3, [.ref rt, .int rsz])), (rt, .inl (cI, 12, .inl rf))]) hG (c_X6_settle l dC dI cI cJ base bB bO a as aw ak asc_22 awc_22 aht_22 afi_22 amd asf_22 awf_22 akf_22 1 (by first | assumption | omega) (by first | assumption | omega) (by first | assumption | omega) (by first | assumption | omega) (by first | assumption | omega) (by first | assumption | omega) (by first | assumption | omega)) ml_X6_56 im_X6_settle se_X6_settle ini_X6 cd_X6_settle hd_X6_settle ⟨(Nat.le_of_ble_eq_true rfl), (Nat.le_of_ble_eq_true rfl)⟩ (Nat.le_of_ble_eq_true rfl) (Nat.le_of_ble_eq_true rfl) hP hD hS [0, 1, 2, 3] [4, 5, 6] rfl rfl rfl rfl (by decide) 5 0 rfl rfl hl.1 rfl (Nat.le_of_ble_eq_true rfl) dX6_understand_172 (fun u H locs hw22 hP hD hS => ?_)
          obtain ⟨asc_23, awc_24, aht_25, afi_26, asf_27, akf_28⟩ := u
          have hw22 : (0 ≤ asc_23.toInt ∧ asc_23.toInt ≤ 12) ∧ (0 ≤ awc_24.toInt ∧ awc_24.toInt ≤ 12) ∧ (0 ≤ aht_25.toInt ∧ aht_25.toInt ≤ 12) ∧ (afi_26.toInt = 0 ∨ afi_26.toInt = 1) ∧ (stOK asf_27 asc_23) ∧ True := hw22
          obtain ⟨hp29, hp30, hp31, hp32, hp33, -⟩ := hw22
          have hP : va_P (dC, dI) vwCl [(kd, .inl (cI, 4, .inl kdf)), (r, .inr (3, [.ref rt, .int rsz])), (rt, .inl (cI, 12, .inl rf)), (a, .inr (5, [.ref as, .ref aw, .ref ak, .int asc_23, .int awc_24, .int aht_25, .int afi_26, .int amd])), (as, .inl (cI, 12, .inl asf_27)), (aw, .inl (cI, 12, .inl awf_22)), (ak, .inl (cI, 12, .inl akf_28))] H := hP
          have hD : va_D A [(kd, .inl (cI, 4, .inl kdf)), (r, .inr (3, [.ref rt, .int rsz])), (rt, .inl (cI, 12, .inl rf)), (a, .inr (5, [.ref as, .ref aw, .ref ak, .int asc_23, .int awc_24, .int aht_25, .int afi_26, .int amd])), (as, .inl (cI, 12, .inl asf_27)), (aw, .inl (cI, 12, .inl awf_22)), (ak, .inl (cI, 12, .inl akf_28))] := hD
          refine lv_aload_n hx hb dX6_understand_175 rfl (lv_at hl 1 rfl) ?_
          refine lv_aload_n hx hb dX6_understand_176 rfl (lv_at hl 1 rfl) ?_
          refine va_get (D := (dC, dI)) (ci := 5) (v := .int afi_26) (C := RX6) (T := TX6) (N := 8) hx hb hts inG_X6 hown hK hP 3 rfl rfl 6 (by decide) (hts _ fl_X6_31) (fun _ h9 => h9) rfl dX6_understand_177 ?_
          refine lv_if_eq (tgt := 207) hx hb dX6_understand_180 (by decide) (fun c34 => ?_) (fun c34 => ?_)
          · have c34' := I_eq c34
            refine lv_iconst (v := (-1)) hx hb dX6_understand_207 (by decide) ?_
            refine va_put (D := (dC, dI)) (ci := 5) (v := .int (-1)) (ty := .int) (C := RX6) (T := TX6) (N := 8) hx hb hts inG_X6 tyX6 tyX6_ok nmX6 hown hK hP hD hS 3 rfl rfl 7 (by decide) (hts _ fl_X6_35) (fun _ h9 => h9) rfl (by decide +kernel) rfl rfl (Nat.le_of_ble_eq_true rfl) dX6_understand_208 (fun H locs hP hD hS => ?_)
            have hP : va_P (dC, dI) vwCl [(kd, .inl (cI, 4, .inl kdf)), (r, .inr (3, [.ref rt, .int rsz])), (rt, .inl (cI, 12, .inl rf)), (a, .inr (5, [.ref as, .ref aw, .ref ak, .int asc_23, .int awc_24, .int aht_25, .int afi_26, .int (-1)])), (as, .inl (cI, 12, .inl asf_27)), (aw, .inl (cI, 12, .inl awf_22)), (ak, .inl (cI, 12, .inl akf_28))] H := hP
            have hD : va_D A [(kd, .inl (cI, 4, .inl kdf)), (r, .inr (3, [.ref rt, .int rsz])), (rt, .inl (cI, 12, .inl rf)), (a, .inr (5, [.ref as, .ref aw, .ref ak, .int asc_23, .int awc_24, .int aht_25, .int afi_26, .int (-1)])), (as, .inl (cI, 12, .inl asf_27)), (aw, .inl (cI, 12, .inl awf_22)), (ak, .inl (cI, 12, .inl akf_28))] := hD
            refine lv_aload_n hx hb dX6_understand_211 rfl (lv_at hl 1 rfl) ?_
            refine va_get (D := (dC, dI)) (ci := 5) (v := .int (-1)) (C := RX6) (T := TX6) (N := 8) hx hb hts inG_X6 hown hK hP 3 rfl rfl 7 (by decide) (hts _ fl_X6_35) (fun _ h9 => h9) rfl dX6_understand_212 ?_
            exact hret (-1) (asc_23, awc_24, aht_25, afi_26, (-1), asf_27, awf_22, akf_28) H locs 215 ls rfl ⟨(show 0 ≤ asc_23.toInt ∧ asc_23.toInt ≤ 12 from by first | rfl | assumption | omega), (show 0 ≤ awc_24.toInt ∧ awc_24.toInt ≤ 12 from by first | rfl | assumption | omega), (show 0 ≤ aht_25.toInt ∧ aht_25.toInt ≤ 12 from by first | rfl | assumption | omega), (show afi_26.toInt = 0 ∨ afi_26.toInt = 1 from by first | rfl | assumption | omega), (show ∀ j : Nat, 0 ≤ (awf_22 j).toInt ∧ (awf_22 j).toInt < 12 from by first | rfl | assumption | omega), (show stOK asf_27 asc_23 from by first | rfl | assumption | omega), trivial⟩ (hP.sub (ws' := [(a, .inr (5, [.ref as, .ref aw, .ref ak, .int asc_23, .int awc_24, .int aht_25, .int afi_26, .int (-1)])), (as, .inl (cI, 12, .inl asf_27)), (aw, .inl (cI, 12, .inl awf_22)), (ak, .inl (cI, 12, .inl akf_28)), (r, .inr (3, [.ref rt, .int rsz])), (rt, .inl (cI, 12, .inl rf)), (kd, .inl (cI, 4, .inl kdf))]) [3, 4, 5, 6, 1, 2, 0] rfl) (hD.sub (ws' := [(a, .inr (5, [.ref as, .ref aw, .ref ak, .int asc_23, .int awc_24, .int aht_25, .int afi_26, .int (-1)])), (as, .inl (cI, 12, .inl asf_27)), (aw, .inl (cI, 12, .inl awf_22)), (ak, .inl (cI, 12, .inl akf_28)), (r, .inr (3, [.ref rt, .int rsz])), (rt, .inl (cI, 12, .inl rf)), (kd, .inl (cI, 4, .inl kdf))]) [3, 4, 5, 6, 1, 2, 0] (by decide) rfl) hS dX6_understand_215
          · have c34' := I_ne c34
            refine lv_aload_n hx hb dX6_understand_183 rfl (lv_at hl 1 rfl) ?_
            refine va_get (D := (dC, dI)) (ci := 5) (v := .int aht_25) (C := RX6) (T := TX6) (N := 8) hx hb hts inG_X6 hown hK hP 3 rfl rfl 5 (by decide) (hts _ fl_X6_28) (fun _ h9 => h9) rfl dX6_understand_184 ?_
            refine lv_iconst (v := 1) hx hb dX6_understand_187 (by decide) ?_
            refine lv_icmp_ne (tgt := 207) hx hb dX6_understand_188 (by decide) (fun c35 => ?_) (fun c35 => ?_)
            · have c35' := I_ne c35
              refine lv_iconst (v := (-1)) hx hb dX6_understand_207 (by decide) ?_
              refine va_put (D := (dC, dI)) (ci := 5) (v := .int (-1)) (ty := .int) (C := RX6) (T := TX6) (N := 8) hx hb hts inG_X6 tyX6 tyX6_ok nmX6 hown hK hP hD hS 3 rfl rfl 7 (by decide) (hts _ fl_X6_35) (fun _ h9 => h9) rfl (by decide +kernel) rfl rfl (Nat.le_of_ble_eq_true rfl) dX6_understand_208 (fun H locs hP hD hS => ?_)
              have hP : va_P (dC, dI) vwCl [(kd, .inl (cI, 4, .inl kdf)), (r, .inr (3, [.ref rt, .int rsz])), (rt, .inl (cI, 12, .inl rf)), (a, .inr (5, [.ref as, .ref aw, .ref ak, .int asc_23, .int awc_24, .int aht_25, .int afi_26, .int (-1)])), (as, .inl (cI, 12, .inl asf_27)), (aw, .inl (cI, 12, .inl awf_22)), (ak, .inl (cI, 12, .inl akf_28))] H := hP
              have hD : va_D A [(kd, .inl (cI, 4, .inl kdf)), (r, .inr (3, [.ref rt, .int rsz])), (rt, .inl (cI, 12, .inl rf)), (a, .inr (5, [.ref as, .ref aw, .ref ak, .int asc_23, .int awc_24, .int aht_25, .int afi_26, .int (-1)])), (as, .inl (cI, 12, .inl asf_27)), (aw, .inl (cI, 12, .inl awf_22)), (ak, .inl (cI, 12, .inl akf_28))] := hD
              refine lv_aload_n hx hb dX6_understand_211 rfl (lv_at hl 1 rfl) ?_
              refine va_get (D := (dC, dI)) (ci := 5) (v := .int (-1)) (C := RX6) (T := TX6) (N := 8) hx hb hts inG_X6 hown hK hP 3 rfl rfl 7 (by decide) (hts _ fl_X6_35) (fun _ h9 => h9) rfl dX6_understand_212 ?_
              exact hret (-1) (asc_23, awc_24, aht_25, afi_26, (-1), asf_27, awf_22, akf_28) H locs 215 ls rfl ⟨(show 0 ≤ asc_23.toInt ∧ asc_23.toInt ≤ 12 from by first | rfl | assumption | omega), (show 0 ≤ awc_24.toInt ∧ awc_24.toInt ≤ 12 from by first | rfl | assumption | omega), (show 0 ≤ aht_25.toInt ∧ aht_25.toInt ≤ 12 from by first | rfl | assumption | omega), (show afi_26.toInt = 0 ∨ afi_26.toInt = 1 from by first | rfl | assumption | omega), (show ∀ j : Nat, 0 ≤ (awf_22 j).toInt ∧ (awf_22 j).toInt < 12 from by first | rfl | assumption | omega), (show stOK asf_27 asc_23 from by first | rfl | assumption | omega), trivial⟩ (hP.sub (ws' := [(a, .inr (5, [.ref as, .ref aw, .ref ak, .int asc_23, .int awc_24, .int aht_25, .int afi_26, .int (-1)])), (as, .inl (cI, 12, .inl asf_27)), (aw, .inl (cI, 12, .inl awf_22)), (ak, .inl (cI, 12, .inl akf_28)), (r, .inr (3, [.ref rt, .int rsz])), (rt, .inl (cI, 12, .inl rf)), (kd, .inl (cI, 4, .inl kdf))]) [3, 4, 5, 6, 1, 2, 0] rfl) (hD.sub (ws' := [(a, .inr (5, [.ref as, .ref aw, .ref ak, .int asc_23, .int awc_24, .int aht_25, .int afi_26, .int (-1)])), (as, .inl (cI, 12, .inl asf_27)), (aw, .inl (cI, 12, .inl awf_22)), (ak, .inl (cI, 12, .inl akf_28)), (r, .inr (3, [.ref rt, .int rsz])), (rt, .inl (cI, 12, .inl rf)), (kd, .inl (cI, 4, .inl kdf))]) [3, 4, 5, 6, 1, 2, 0] (by decide) rfl) hS dX6_understand_215
            · have c35' := I_eq c35
              refine lv_aload_n hx hb dX6_understand_191 rfl (lv_at hl 1 rfl) ?_
              refine va_get (D := (dC, dI)) (ci := 5) (v := .int awc_24) (C := RX6) (T := TX6) (N := 8) hx hb hts inG_X6 hown hK hP 3 rfl rfl 4 (by decide) (hts _ fl_X6_25) (fun _ h9 => h9) rfl dX6_understand_192 ?_
              refine lv_if_ne (tgt := 207) hx hb dX6_understand_195 (by decide) (fun c36 => ?_) (fun c36 => ?_)
              · have c36' := I_ne c36
                refine lv_iconst (v := (-1)) hx hb dX6_understand_207 (by decide) ?_
                refine va_put (D := (dC, dI)) (ci := 5) (v := .int (-1)) (ty := .int) (C := RX6) (T := TX6) (N := 8) hx hb hts inG_X6 tyX6 tyX6_ok nmX6 hown hK hP hD hS 3 rfl rfl 7 (by decide) (hts _ fl_X6_35) (fun _ h9 => h9) rfl (by decide +kernel) rfl rfl (Nat.le_of_ble_eq_true rfl) dX6_understand_208 (fun H locs hP hD hS => ?_)
                have hP : va_P (dC, dI) vwCl [(kd, .inl (cI, 4, .inl kdf)), (r, .inr (3, [.ref rt, .int rsz])), (rt, .inl (cI, 12, .inl rf)), (a, .inr (5, [.ref as, .ref aw, .ref ak, .int asc_23, .int awc_24, .int aht_25, .int afi_26, .int (-1)])), (as, .inl (cI, 12, .inl asf_27)), (aw, .inl (cI, 12, .inl awf_22)), (ak, .inl (cI, 12, .inl akf_28))] H := hP
                have hD : va_D A [(kd, .inl (cI, 4, .inl kdf)), (r, .inr (3, [.ref rt, .int rsz])), (rt, .inl (cI, 12, .inl rf)), (a, .inr (5, [.ref as, .ref aw, .ref ak, .int asc_23, .int awc_24, .int aht_25, .int afi_26, .int (-1)])), (as, .inl (cI, 12, .inl asf_27)), (aw, .inl (cI, 12, .inl awf_22)), (ak, .inl (cI, 12, .inl akf_28))] := hD
                refine lv_aload_n hx hb dX6_understand_211 rfl (lv_at hl 1 rfl) ?_
                refine va_get (D := (dC, dI)) (ci := 5) (v := .int (-1)) (C := RX6) (T := TX6) (N := 8) hx hb hts inG_X6 hown hK hP 3 rfl rfl 7 (by decide) (hts _ fl_X6_35) (fun _ h9 => h9) rfl dX6_understand_212 ?_
                exact hret (-1) (asc_23, awc_24, aht_25, afi_26, (-1), asf_27, awf_22, akf_28) H locs 215 ls rfl ⟨(show 0 ≤ asc_23.toInt ∧ asc_23.toInt ≤ 12 from by first | rfl | assumption | omega), (show 0 ≤ awc_24.toInt ∧ awc_24.toInt ≤ 12 from by first | rfl | assumption | omega), (show 0 ≤ aht_25.toInt ∧ aht_25.toInt ≤ 12 from by first | rfl | assumption | omega), (show afi_26.toInt = 0 ∨ afi_26.toInt = 1 from by first | rfl | assumption | omega), (show ∀ j : Nat, 0 ≤ (awf_22 j).toInt ∧ (awf_22 j).toInt < 12 from by first | rfl | assumption | omega), (show stOK asf_27 asc_23 from by first | rfl | assumption | omega), trivial⟩ (hP.sub (ws' := [(a, .inr (5, [.ref as, .ref aw, .ref ak, .int asc_23, .int awc_24, .int aht_25, .int afi_26, .int (-1)])), (as, .inl (cI, 12, .inl asf_27)), (aw, .inl (cI, 12, .inl awf_22)), (ak, .inl (cI, 12, .inl akf_28)), (r, .inr (3, [.ref rt, .int rsz])), (rt, .inl (cI, 12, .inl rf)), (kd, .inl (cI, 4, .inl kdf))]) [3, 4, 5, 6, 1, 2, 0] rfl) (hD.sub (ws' := [(a, .inr (5, [.ref as, .ref aw, .ref ak, .int asc_23, .int awc_24, .int aht_25, .int afi_26, .int (-1)])), (as, .inl (cI, 12, .inl asf_27)), (aw, .inl (cI, 12, .inl awf_22)), (ak, .inl (cI, 12, .inl akf_28)), (r, .inr (3, [.ref rt, .int rsz])), (rt, .inl (cI, 12, .inl rf)), (kd, .inl (cI, 4, .inl kdf))]) [3, 4, 5, 6, 1, 2, 0] (by decide) rfl) hS dX6_understand_215
              · have c36' := I_eq c36
                refine lv_aload_n hx hb dX6_understand_198 rfl (lv_at hl 1 rfl) ?_
                refine va_get (D := (dC, dI)) (ci := 5) (v := .ref ak) (C := RX6) (T := TX6) (N := 8) hx hb hts inG_X6 hown hK hP 3 rfl rfl 2 (by decide) (hts _ fl_X6_18) (fun _ h9 => h9) rfl dX6_understand_199 ?_
                refine lv_iconst (v := 0) hx hb dX6_understand_202 (by decide) ?_
                refine va_iald (t0 := 0) hx hb hK hP 6 (ha := rfl) (ht := rfl) (I_in (by omega) (by omega)) dX6_understand_203 ?_
                refine lv_topi (fun v37 ev37 => ?_)
                refine lv_goto (tgt := 208) hx hb dX6_understand_204 (by decide) ?_
                refine va_put (D := (dC, dI)) (ci := 5) (v := .int v37) (ty := .int) (C := RX6) (T := TX6) (N := 8) hx hb hts inG_X6 tyX6 tyX6_ok nmX6 hown hK hP hD hS 3 rfl rfl 7 (by decide) (hts _ fl_X6_35) (fun _ h9 => h9) rfl (by decide +kernel) rfl rfl (Nat.le_of_ble_eq_true rfl) dX6_understand_208 (fun H locs hP hD hS => ?_)
                have hP : va_P (dC, dI) vwCl [(kd, .inl (cI, 4, .inl kdf)), (r, .inr (3, [.ref rt, .int rsz])), (rt, .inl (cI, 12, .inl rf)), (a, .inr (5, [.ref as, .ref aw, .ref ak, .int asc_23, .int awc_24, .int aht_25, .int afi_26, .int v37])), (as, .inl (cI, 12, .inl asf_27)), (aw, .inl (cI, 12, .inl awf_22)), (ak, .inl (cI, 12, .inl akf_28))] H := hP
                have hD : va_D A [(kd, .inl (cI, 4, .inl kdf)), (r, .inr (3, [.ref rt, .int rsz])), (rt, .inl (cI, 12, .inl rf)), (a, .inr (5, [.ref as, .ref aw, .ref ak, .int asc_23, .int awc_24, .int aht_25, .int afi_26, .int v37])), (as, .inl (cI, 12, .inl asf_27)), (aw, .inl (cI, 12, .inl awf_22)), (ak, .inl (cI, 12, .inl akf_28))] := hD
                refine lv_aload_n hx hb dX6_understand_211 rfl (lv_at hl 1 rfl) ?_
                refine va_get (D := (dC, dI)) (ci := 5) (v := .int v37) (C := RX6) (T := TX6) (N := 8) hx hb hts inG_X6 hown hK hP 3 rfl rfl 7 (by decide) (hts _ fl_X6_35) (fun _ h9 => h9) rfl dX6_understand_212 ?_
                exact hret v37 (asc_23, awc_24, aht_25, afi_26, v37, asf_27, awf_22, akf_28) H locs 215 ls rfl ⟨(show 0 ≤ asc_23.toInt ∧ asc_23.toInt ≤ 12 from by first | rfl | assumption | omega), (show 0 ≤ awc_24.toInt ∧ awc_24.toInt ≤ 12 from by first | rfl | assumption | omega), (show 0 ≤ aht_25.toInt ∧ aht_25.toInt ≤ 12 from by first | rfl | assumption | omega), (show afi_26.toInt = 0 ∨ afi_26.toInt = 1 from by first | rfl | assumption | omega), (show ∀ j : Nat, 0 ≤ (awf_22 j).toInt ∧ (awf_22 j).toInt < 12 from by first | rfl | assumption | omega), (show stOK asf_27 asc_23 from by first | rfl | assumption | omega), trivial⟩ (hP.sub (ws' := [(a, .inr (5, [.ref as, .ref aw, .ref ak, .int asc_23, .int awc_24, .int aht_25, .int afi_26, .int v37])), (as, .inl (cI, 12, .inl asf_27)), (aw, .inl (cI, 12, .inl awf_22)), (ak, .inl (cI, 12, .inl akf_28)), (r, .inr (3, [.ref rt, .int rsz])), (rt, .inl (cI, 12, .inl rf)), (kd, .inl (cI, 4, .inl kdf))]) [3, 4, 5, 6, 1, 2, 0] rfl) (hD.sub (ws' := [(a, .inr (5, [.ref as, .ref aw, .ref ak, .int asc_23, .int awc_24, .int aht_25, .int afi_26, .int v37])), (as, .inl (cI, 12, .inl asf_27)), (aw, .inl (cI, 12, .inl awf_22)), (ak, .inl (cI, 12, .inl akf_28)), (r, .inr (3, [.ref rt, .int rsz])), (rt, .inl (cI, 12, .inl rf)), (kd, .inl (cI, 4, .inl kdf))]) [3, 4, 5, 6, 1, 2, 0] (by decide) rfl) hS dX6_understand_215
        · have c21' := I_ne c21
          refine lv_aload_n hx hb dX6_understand_37 rfl (lv_at hl 2 rfl) ?_
          refine lv_iload_n hx hb dX6_understand_38 rfl (lv_at hl 0 rfl) ?_
          refine calI (rest := []) (wr := [(a, .inr (5, [.ref as, .ref aw, .ref ak, .int asc_22, .int awc_22, .int aht_22, .int afi_22, .int amd])), (as, .inl (cI, 12, .inl asf_22)), (aw, .inl (cI, 12, .inl awf_22)), (ak, .inl (cI, 12, .inl akf_22)), (kd, .inl (cI, 4, .inl kdf))]) hG (c_X4_at l dC dI cI cJ base bB bO r rt rsz rf L3_22 (by first | assumption | omega) (by first | assumption | omega)) ml_X6_44 im_X4_at se_X4_at ini_X4 cd_X4_at hd_X4_at ⟨(Nat.le_of_ble_eq_true rfl), (Nat.le_of_ble_eq_true rfl)⟩ (Nat.le_of_ble_eq_true rfl) (Nat.le_of_ble_eq_true rfl) hP hD hS [5, 6] [0, 1, 2, 3, 4] rfl rfl rfl rfl (by decide) 3 5 rfl rfl hl.1 rfl (Nat.le_of_ble_eq_true rfl) dX6_understand_39 (fun r38 u H locs hw39 hP hD hS => ?_)
          have hw39 : (r38 = atf rf rsz L3_22) ∧ (-1 ≤ r38.toInt ∧ r38.toInt ≤ 31) ∧ True := hw39
          obtain ⟨hp40, hp41, -⟩ := hw39
          have hp40t := I_eq hp40
          have hP : va_P (dC, dI) vwCl [(a, .inr (5, [.ref as, .ref aw, .ref ak, .int asc_22, .int awc_22, .int aht_22, .int afi_22, .int amd])), (as, .inl (cI, 12, .inl asf_22)), (aw, .inl (cI, 12, .inl awf_22)), (ak, .inl (cI, 12, .inl akf_22)), (kd, .inl (cI, 4, .inl kdf)), (r, .inr (3, [.ref rt, .int rsz])), (rt, .inl (cI, 12, .inl rf))] H := hP
          have hD : va_D A [(a, .inr (5, [.ref as, .ref aw, .ref ak, .int asc_22, .int awc_22, .int aht_22, .int afi_22, .int amd])), (as, .inl (cI, 12, .inl asf_22)), (aw, .inl (cI, 12, .inl awf_22)), (ak, .inl (cI, 12, .inl akf_22)), (kd, .inl (cI, 4, .inl kdf)), (r, .inr (3, [.ref rt, .int rsz])), (rt, .inl (cI, 12, .inl rf))] := hD
          refine lv_istore (lv' := [(4, .int r38), (3, .int L3_22), (0, .ref a), (1, .ref r), (2, .ref kd)]) hx hb dX6_understand_42 hl (by decide) rfl (fun ls hl => ?_)
          have J164 : ∀ (asc_164 : Int32) (awc_164 : Int32) (aht_164 : Int32) (afi_164 : Int32) (asf_164 : Nat → Int32) (awf_164 : Nat → Int32) (akf_164 : Nat → Int32), (0 ≤ asc_164.toInt ∧ asc_164.toInt ≤ 12) → (0 ≤ awc_164.toInt ∧ awc_164.toInt ≤ 12) → (0 ≤ aht_164.toInt ∧ aht_164.toInt ≤ 12) → (afi_164.toInt = 0 ∨ afi_164.toInt = 1) → (∀ j : Nat, 0 ≤ (awf_164 j).toInt ∧ (awf_164 j).toInt < 12) → (stOK asf_164 asc_164) → ∀ (H : Heap) (locs : List Loc) (ls : Array Slot), va_P (dC, dI) vwCl [(a, .inr (5, [.ref as, .ref aw, .ref ak, .int asc_164, .int awc_164, .int aht_164, .int afi_164, .int amd])), (as, .inl (cI, 12, .inl asf_164)), (aw, .inl (cI, 12, .inl awf_164)), (ak, .inl (cI, 12, .inl akf_164)), (kd, .inl (cI, 4, .inl kdf)), (r, .inr (3, [.ref rt, .int rsz])), (rt, .inl (cI, 12, .inl rf))] H → va_D A [(a, .inr (5, [.ref as, .ref aw, .ref ak, .int asc_164, .int awc_164, .int aht_164, .int afi_164, .int amd])), (as, .inl (cI, 12, .inl asf_164)), (aw, .inl (cI, 12, .inl awf_164)), (ak, .inl (cI, 12, .inl akf_164)), (kd, .inl (cI, 4, .inl kdf)), (r, .inr (3, [.ref rt, .int rsz])), (rt, .inl (cI, 12, .inl rf))] → va_S A s.heap H locs → lv_has ls 5 [(4, .int r38), (3, .int L3_22), (0, .ref a), (1, .ref r), (2, .ref kd)] → W p l e { frames := 2, cells := 0, slots := 0, locals := 46 } s m (List.toArray [.ref a, .ref r, .ref kd]) below meth c H locs 0 0 Q (F0 m 164 ls []) := by
            intro asc_164 awc_164 aht_164 afi_164 asf_164 awf_164 akf_164 hi0_164 hi1_164 hi2_164 hi3_164 hi4_164 hi5_164 H locs ls hP hD hS hl
            obtain ⟨v42, ev42⟩ : ∃ y : Int32, y = L3_22 + 1 := ⟨_, rfl⟩
            try have hv42 : v42.toInt = L3_22.toInt + (1 : Int32).toInt := I_addx ev42 (by omega)
            refine lv_iinc (v := v42) (lv' := [(3, .int v42), (4, .int r38), (0, .ref a), (1, .ref r), (2, .ref kd)]) hx hb dX6_understand_164 hl (k := 1) rfl (by rw [ev42]; rfl) (by decide) rfl (fun ls hl => ?_)
            refine lv_goto (tgt := 22) hx hb dX6_understand_167 (by decide) ?_
            exact ih22 v42 asc_164 awc_164 aht_164 afi_164 asf_164 awf_164 akf_164 (by first | assumption | omega) (by first | assumption | omega) (by first | assumption | omega) (by first | assumption | omega) (by first | assumption | omega) (by first | assumption | exact stOK_0 (by omega)) (by first | assumption | omega) (by omega) H locs ls (hP.sub (ws' := [(a, .inr (5, [.ref as, .ref aw, .ref ak, .int asc_164, .int awc_164, .int aht_164, .int afi_164, .int amd])), (as, .inl (cI, 12, .inl asf_164)), (aw, .inl (cI, 12, .inl awf_164)), (ak, .inl (cI, 12, .inl akf_164)), (r, .inr (3, [.ref rt, .int rsz])), (rt, .inl (cI, 12, .inl rf)), (kd, .inl (cI, 4, .inl kdf))]) [0, 1, 2, 3, 5, 6, 4] rfl) (hD.sub (ws' := [(a, .inr (5, [.ref as, .ref aw, .ref ak, .int asc_164, .int awc_164, .int aht_164, .int afi_164, .int amd])), (as, .inl (cI, 12, .inl asf_164)), (aw, .inl (cI, 12, .inl awf_164)), (ak, .inl (cI, 12, .inl akf_164)), (r, .inr (3, [.ref rt, .int rsz])), (rt, .inl (cI, 12, .inl rf)), (kd, .inl (cI, 4, .inl kdf))]) [0, 1, 2, 3, 5, 6, 4] (by decide) rfl) hS (lv_sub hl [0, 2, 3, 4] rfl)
          refine lv_iload hx hb dX6_understand_44 (lv_at hl 0 rfl) ?_
          refine lv_bipush (v := 12) hx hb dX6_understand_46 (by decide) ?_
          refine lv_icmp_lt (tgt := 61) hx hb dX6_understand_48 (by decide) (fun c43 => ?_) (fun c43 => ?_)
          · have c43' := I_lt c43
            refine lv_iload hx hb dX6_understand_61 (lv_at hl 0 rfl) ?_
            refine lv_if_eq (tgt := 80) hx hb dX6_understand_63 (by decide) (fun c44 => ?_) (fun c44 => ?_)
            · have c44' := I_eq c44
              refine lv_aload_n hx hb dX6_understand_80 rfl (lv_at hl 2 rfl) ?_
              refine lv_iload hx hb dX6_understand_81 (lv_at hl 0 rfl) ?_
              refine calV (rest := []) (wr := [(as, .inl (cI, 12, .inl asf_22)), (ak, .inl (cI, 12, .inl akf_22)), (kd, .inl (cI, 4, .inl kdf)), (r, .inr (3, [.ref rt, .int rsz])), (rt, .inl (cI, 12, .inl rf))]) hG (c_X6_await l dC dI cI cJ base bB bO a as aw ak asc_22 awc_22 aht_22 afi_22 amd awf_22 r38 (by first | assumption | omega) (by first | assumption | omega) (by first | assumption | omega)) ml_X6_52 im_X6_await se_X6_await ini_X6 cd_X6_await hd_X6_await ⟨(Nat.le_of_ble_eq_true rfl), (Nat.le_of_ble_eq_true rfl)⟩ (Nat.le_of_ble_eq_true rfl) (Nat.le_of_ble_eq_true rfl) hP hD hS [0, 2] [1, 3, 4, 5, 6] rfl rfl rfl rfl (by decide) 5 0 rfl rfl hl.1 rfl (Nat.le_of_ble_eq_true rfl) dX6_understand_83 (fun u H locs hw45 hP hD hS => ?_)
              obtain ⟨awc_46, awf_47⟩ := u
              have hw45 : (0 ≤ awc_46.toInt ∧ awc_46.toInt ≤ 12) ∧ (∀ j : Nat, 0 ≤ (awf_47 j).toInt ∧ (awf_47 j).toInt < 12) ∧ True := hw45
              obtain ⟨hp48, hp49, -⟩ := hw45
              have hP : va_P (dC, dI) vwCl [(as, .inl (cI, 12, .inl asf_22)), (ak, .inl (cI, 12, .inl akf_22)), (kd, .inl (cI, 4, .inl kdf)), (r, .inr (3, [.ref rt, .int rsz])), (rt, .inl (cI, 12, .inl rf)), (a, .inr (5, [.ref as, .ref aw, .ref ak, .int asc_22, .int awc_46, .int aht_22, .int afi_22, .int amd])), (aw, .inl (cI, 12, .inl awf_47))] H := hP
              have hD : va_D A [(as, .inl (cI, 12, .inl asf_22)), (ak, .inl (cI, 12, .inl akf_22)), (kd, .inl (cI, 4, .inl kdf)), (r, .inr (3, [.ref rt, .int rsz])), (rt, .inl (cI, 12, .inl rf)), (a, .inr (5, [.ref as, .ref aw, .ref ak, .int asc_22, .int awc_46, .int aht_22, .int afi_22, .int amd])), (aw, .inl (cI, 12, .inl awf_47))] := hD
              refine lv_goto (tgt := 164) hx hb dX6_understand_86 (by decide) ?_
              exact J164 asc_22 awc_46 aht_22 afi_22 asf_22 awf_47 akf_22 (by first | assumption | omega) (by first | assumption | omega) (by first | assumption | omega) (by first | assumption | omega) (by first | assumption | omega) (by first | assumption | omega) H locs ls (hP.sub (ws' := [(a, .inr (5, [.ref as, .ref aw, .ref ak, .int asc_22, .int awc_46, .int aht_22, .int afi_22, .int amd])), (as, .inl (cI, 12, .inl asf_22)), (aw, .inl (cI, 12, .inl awf_47)), (ak, .inl (cI, 12, .inl akf_22)), (kd, .inl (cI, 4, .inl kdf)), (r, .inr (3, [.ref rt, .int rsz])), (rt, .inl (cI, 12, .inl rf))]) [5, 0, 6, 1, 2, 3, 4] rfl) (hD.sub (ws' := [(a, .inr (5, [.ref as, .ref aw, .ref ak, .int asc_22, .int awc_46, .int aht_22, .int afi_22, .int amd])), (as, .inl (cI, 12, .inl asf_22)), (aw, .inl (cI, 12, .inl awf_47)), (ak, .inl (cI, 12, .inl akf_22)), (kd, .inl (cI, 4, .inl kdf)), (r, .inr (3, [.ref rt, .int rsz])), (rt, .inl (cI, 12, .inl rf))]) [5, 0, 6, 1, 2, 3, 4] (by decide) rfl) hS hl
            · have c44' := I_ne c44
              refine lv_iload hx hb dX6_understand_66 (lv_at hl 0 rfl) ?_
              refine lv_bipush (v := 9) hx hb dX6_understand_68 (by decide) ?_
              refine lv_icmp_eq (tgt := 80) hx hb dX6_understand_70 (by decide) (fun c50 => ?_) (fun c50 => ?_)
              · have c50' := I_eq c50
                refine lv_aload_n hx hb dX6_understand_80 rfl (lv_at hl 2 rfl) ?_
                refine lv_iload hx hb dX6_understand_81 (lv_at hl 0 rfl) ?_
                refine calV (rest := []) (wr := [(as, .inl (cI, 12, .inl asf_22)), (ak, .inl (cI, 12, .inl akf_22)), (kd, .inl (cI, 4, .inl kdf)), (r, .inr (3, [.ref rt, .int rsz])), (rt, .inl (cI, 12, .inl rf))]) hG (c_X6_await l dC dI cI cJ base bB bO a as aw ak asc_22 awc_22 aht_22 afi_22 amd awf_22 r38 (by first | assumption | omega) (by first | assumption | omega) (by first | assumption | omega)) ml_X6_52 im_X6_await se_X6_await ini_X6 cd_X6_await hd_X6_await ⟨(Nat.le_of_ble_eq_true rfl), (Nat.le_of_ble_eq_true rfl)⟩ (Nat.le_of_ble_eq_true rfl) (Nat.le_of_ble_eq_true rfl) hP hD hS [0, 2] [1, 3, 4, 5, 6] rfl rfl rfl rfl (by decide) 5 0 rfl rfl hl.1 rfl (Nat.le_of_ble_eq_true rfl) dX6_understand_83 (fun u H locs hw51 hP hD hS => ?_)
                obtain ⟨awc_52, awf_53⟩ := u
                have hw51 : (0 ≤ awc_52.toInt ∧ awc_52.toInt ≤ 12) ∧ (∀ j : Nat, 0 ≤ (awf_53 j).toInt ∧ (awf_53 j).toInt < 12) ∧ True := hw51
                obtain ⟨hp54, hp55, -⟩ := hw51
                have hP : va_P (dC, dI) vwCl [(as, .inl (cI, 12, .inl asf_22)), (ak, .inl (cI, 12, .inl akf_22)), (kd, .inl (cI, 4, .inl kdf)), (r, .inr (3, [.ref rt, .int rsz])), (rt, .inl (cI, 12, .inl rf)), (a, .inr (5, [.ref as, .ref aw, .ref ak, .int asc_22, .int awc_52, .int aht_22, .int afi_22, .int amd])), (aw, .inl (cI, 12, .inl awf_53))] H := hP
                have hD : va_D A [(as, .inl (cI, 12, .inl asf_22)), (ak, .inl (cI, 12, .inl akf_22)), (kd, .inl (cI, 4, .inl kdf)), (r, .inr (3, [.ref rt, .int rsz])), (rt, .inl (cI, 12, .inl rf)), (a, .inr (5, [.ref as, .ref aw, .ref ak, .int asc_22, .int awc_52, .int aht_22, .int afi_22, .int amd])), (aw, .inl (cI, 12, .inl awf_53))] := hD
                refine lv_goto (tgt := 164) hx hb dX6_understand_86 (by decide) ?_
                exact J164 asc_22 awc_52 aht_22 afi_22 asf_22 awf_53 akf_22 (by first | assumption | omega) (by first | assumption | omega) (by first | assumption | omega) (by first | assumption | omega) (by first | assumption | omega) (by first | assumption | omega) H locs ls (hP.sub (ws' := [(a, .inr (5, [.ref as, .ref aw, .ref ak, .int asc_22, .int awc_52, .int aht_22, .int afi_22, .int amd])), (as, .inl (cI, 12, .inl asf_22)), (aw, .inl (cI, 12, .inl awf_53)), (ak, .inl (cI, 12, .inl akf_22)), (kd, .inl (cI, 4, .inl kdf)), (r, .inr (3, [.ref rt, .int rsz])), (rt, .inl (cI, 12, .inl rf))]) [5, 0, 6, 1, 2, 3, 4] rfl) (hD.sub (ws' := [(a, .inr (5, [.ref as, .ref aw, .ref ak, .int asc_22, .int awc_52, .int aht_22, .int afi_22, .int amd])), (as, .inl (cI, 12, .inl asf_22)), (aw, .inl (cI, 12, .inl awf_53)), (ak, .inl (cI, 12, .inl akf_22)), (kd, .inl (cI, 4, .inl kdf)), (r, .inr (3, [.ref rt, .int rsz])), (rt, .inl (cI, 12, .inl rf))]) [5, 0, 6, 1, 2, 3, 4] (by decide) rfl) hS hl
              · have c50' := I_ne c50
                refine lv_iload hx hb dX6_understand_73 (lv_at hl 0 rfl) ?_
                refine lv_bipush (v := 8) hx hb dX6_understand_75 (by decide) ?_
                refine lv_icmp_ne (tgt := 89) hx hb dX6_understand_77 (by decide) (fun c56 => ?_) (fun c56 => ?_)
                · have c56' := I_ne c56
                  refine lv_iload hx hb dX6_understand_89 (lv_at hl 0 rfl) ?_
                  refine lv_iconst (v := 1) hx hb dX6_understand_91 (by decide) ?_
                  refine lv_icmp_eq (tgt := 109) hx hb dX6_understand_92 (by decide) (fun c57 => ?_) (fun c57 => ?_)
                  · have c57' := I_eq c57
                    refine lv_aload_n hx hb dX6_understand_109 rfl (lv_at hl 2 rfl) ?_
                    refine lv_iconst (v := 1) hx hb dX6_understand_110 (by decide) ?_
                    refine calV (rest := []) (wr := [(kd, .inl (cI, 4, .inl kdf)), (r, .inr (3, [.ref rt, .int rsz])), (rt, .inl (cI, 12, .inl rf))]) hG (c_X6_settle l dC dI cI cJ base bB bO a as aw ak asc_22 awc_22 aht_22 afi_22 amd asf_22 awf_22 akf_22 1 (by first | assumption | omega) (by first | assumption | omega) (by first | assumption | omega) (by first | assumption | omega) (by first | assumption | omega) (by first | assumption | omega) (by first | assumption | omega)) ml_X6_56 im_X6_settle se_X6_settle ini_X6 cd_X6_settle hd_X6_settle ⟨(Nat.le_of_ble_eq_true rfl), (Nat.le_of_ble_eq_true rfl)⟩ (Nat.le_of_ble_eq_true rfl) (Nat.le_of_ble_eq_true rfl) hP hD hS [0, 1, 2, 3] [4, 5, 6] rfl rfl rfl rfl (by decide) 5 0 rfl rfl hl.1 rfl (Nat.le_of_ble_eq_true rfl) dX6_understand_111 (fun u H locs hw58 hP hD hS => ?_)
                    obtain ⟨asc_59, awc_60, aht_61, afi_62, asf_63, akf_64⟩ := u
                    have hw58 : (0 ≤ asc_59.toInt ∧ asc_59.toInt ≤ 12) ∧ (0 ≤ awc_60.toInt ∧ awc_60.toInt ≤ 12) ∧ (0 ≤ aht_61.toInt ∧ aht_61.toInt ≤ 12) ∧ (afi_62.toInt = 0 ∨ afi_62.toInt = 1) ∧ (stOK asf_63 asc_59) ∧ True := hw58
                    obtain ⟨hp65, hp66, hp67, hp68, hp69, -⟩ := hw58
                    have hP : va_P (dC, dI) vwCl [(kd, .inl (cI, 4, .inl kdf)), (r, .inr (3, [.ref rt, .int rsz])), (rt, .inl (cI, 12, .inl rf)), (a, .inr (5, [.ref as, .ref aw, .ref ak, .int asc_59, .int awc_60, .int aht_61, .int afi_62, .int amd])), (as, .inl (cI, 12, .inl asf_63)), (aw, .inl (cI, 12, .inl awf_22)), (ak, .inl (cI, 12, .inl akf_64))] H := hP
                    have hD : va_D A [(kd, .inl (cI, 4, .inl kdf)), (r, .inr (3, [.ref rt, .int rsz])), (rt, .inl (cI, 12, .inl rf)), (a, .inr (5, [.ref as, .ref aw, .ref ak, .int asc_59, .int awc_60, .int aht_61, .int afi_62, .int amd])), (as, .inl (cI, 12, .inl asf_63)), (aw, .inl (cI, 12, .inl awf_22)), (ak, .inl (cI, 12, .inl akf_64))] := hD
                    refine lv_aload_n hx hb dX6_understand_114 rfl (lv_at hl 2 rfl) ?_
                    refine lv_iconst (v := 0) hx hb dX6_understand_115 (by decide) ?_
                    refine lv_aload_n hx hb dX6_understand_116 rfl (lv_at hl 2 rfl) ?_
                    refine va_get (D := (dC, dI)) (ci := 5) (v := .int awc_60) (C := RX6) (T := TX6) (N := 8) hx hb hts inG_X6 hown hK hP 3 rfl rfl 4 (by decide) (hts _ fl_X6_25) (fun _ h9 => h9) rfl dX6_understand_117 ?_
                    refine lv_iconst (v := 1) hx hb dX6_understand_120 (by decide) ?_
                    refine lv_isub hx hb dX6_understand_121 ?_
                    refine lv_topi (fun v70 ev70 => ?_)
                    try have hv70 : v70.toInt = awc_60.toInt - (1 : Int32).toInt := I_subx ev70 (by omega)
                    refine va_mmax hx hb (by rw [hml]; exact hl.1.symm) hown (hts _ ml_X6_59) (hts _ st_max) (hts _ ini_Math) (hts _ cd_max) (Nat.le_of_ble_eq_true rfl) (Nat.le_of_ble_eq_true rfl) (Nat.le_of_ble_eq_true rfl) (Nat.le_of_ble_eq_true rfl) dX6_understand_122 ?_
                    refine lv_topi (fun v71 ev71 => ?_)
                    have hv71 := I_max (0 : Int32) v70
                    rw [← ev71] at hv71
                    refine va_put (D := (dC, dI)) (ci := 5) (v := .int v71) (ty := .int) (C := RX6) (T := TX6) (N := 8) hx hb hts inG_X6 tyX6 tyX6_ok nmX6 hown hK hP hD hS 3 rfl rfl 4 (by decide) (hts _ fl_X6_25) (fun _ h9 => h9) rfl (by decide +kernel) rfl rfl (Nat.le_of_ble_eq_true rfl) dX6_understand_125 (fun H locs hP hD hS => ?_)
                    have hP : va_P (dC, dI) vwCl [(kd, .inl (cI, 4, .inl kdf)), (r, .inr (3, [.ref rt, .int rsz])), (rt, .inl (cI, 12, .inl rf)), (a, .inr (5, [.ref as, .ref aw, .ref ak, .int asc_59, .int v71, .int aht_61, .int afi_62, .int amd])), (as, .inl (cI, 12, .inl asf_63)), (aw, .inl (cI, 12, .inl awf_22)), (ak, .inl (cI, 12, .inl akf_64))] H := hP
                    have hD : va_D A [(kd, .inl (cI, 4, .inl kdf)), (r, .inr (3, [.ref rt, .int rsz])), (rt, .inl (cI, 12, .inl rf)), (a, .inr (5, [.ref as, .ref aw, .ref ak, .int asc_59, .int v71, .int aht_61, .int afi_62, .int amd])), (as, .inl (cI, 12, .inl asf_63)), (aw, .inl (cI, 12, .inl awf_22)), (ak, .inl (cI, 12, .inl akf_64))] := hD
                    refine lv_iload hx hb dX6_understand_128 (lv_at hl 0 rfl) ?_
                    refine lv_iconst (v := 1) hx hb dX6_understand_130 (by decide) ?_
                    refine lv_icmp_eq (tgt := 164) hx hb dX6_understand_131 (by decide) (fun c72 => ?_) (fun c72 => ?_)
                    · have c72' := I_eq c72
                      exact J164 asc_59 v71 aht_61 afi_62 asf_63 awf_22 akf_64 (by first | assumption | omega) (by first | assumption | omega) (by first | assumption | omega) (by first | assumption | omega) (by first | assumption | omega) (by first | assumption | omega) H locs ls (hP.sub (ws' := [(a, .inr (5, [.ref as, .ref aw, .ref ak, .int asc_59, .int v71, .int aht_61, .int afi_62, .int amd])), (as, .inl (cI, 12, .inl asf_63)), (aw, .inl (cI, 12, .inl awf_22)), (ak, .inl (cI, 12, .inl akf_64)), (kd, .inl (cI, 4, .inl kdf)), (r, .inr (3, [.ref rt, .int rsz])), (rt, .inl (cI, 12, .inl rf))]) [3, 4, 5, 6, 0, 1, 2] rfl) (hD.sub (ws' := [(a, .inr (5, [.ref as, .ref aw, .ref ak, .int asc_59, .int v71, .int aht_61, .int afi_62, .int amd])), (as, .inl (cI, 12, .inl asf_63)), (aw, .inl (cI, 12, .inl awf_22)), (ak, .inl (cI, 12, .inl akf_64)), (kd, .inl (cI, 4, .inl kdf)), (r, .inr (3, [.ref rt, .int rsz])), (rt, .inl (cI, 12, .inl rf))]) [3, 4, 5, 6, 0, 1, 2] (by decide) rfl) hS hl
                    · have c72' := I_ne c72
                      refine lv_aload_n hx hb dX6_understand_134 rfl (lv_at hl 2 rfl) ?_
                      refine lv_iload hx hb dX6_understand_135 (lv_at hl 0 rfl) ?_
                      refine calV (rest := []) (wr := [(kd, .inl (cI, 4, .inl kdf)), (r, .inr (3, [.ref rt, .int rsz])), (rt, .inl (cI, 12, .inl rf)), (as, .inl (cI, 12, .inl asf_63)), (ak, .inl (cI, 12, .inl akf_64))]) hG (c_X6_await l dC dI cI cJ base bB bO a as aw ak asc_59 v71 aht_61 afi_62 amd awf_22 r38 (by first | assumption | omega) (by first | assumption | omega) (by first | assumption | omega)) ml_X6_52 im_X6_await se_X6_await ini_X6 cd_X6_await hd_X6_await ⟨(Nat.le_of_ble_eq_true rfl), (Nat.le_of_ble_eq_true rfl)⟩ (Nat.le_of_ble_eq_true rfl) (Nat.le_of_ble_eq_true rfl) hP hD hS [3, 5] [0, 1, 2, 4, 6] rfl rfl rfl rfl (by decide) 5 3 rfl rfl hl.1 rfl (Nat.le_of_ble_eq_true rfl) dX6_understand_137 (fun u H locs hw73 hP hD hS => ?_)
                      obtain ⟨awc_74, awf_75⟩ := u
                      have hw73 : (0 ≤ awc_74.toInt ∧ awc_74.toInt ≤ 12) ∧ (∀ j : Nat, 0 ≤ (awf_75 j).toInt ∧ (awf_75 j).toInt < 12) ∧ True := hw73
                      obtain ⟨hp76, hp77, -⟩ := hw73
                      have hP : va_P (dC, dI) vwCl [(kd, .inl (cI, 4, .inl kdf)), (r, .inr (3, [.ref rt, .int rsz])), (rt, .inl (cI, 12, .inl rf)), (as, .inl (cI, 12, .inl asf_63)), (ak, .inl (cI, 12, .inl akf_64)), (a, .inr (5, [.ref as, .ref aw, .ref ak, .int asc_59, .int awc_74, .int aht_61, .int afi_62, .int amd])), (aw, .inl (cI, 12, .inl awf_75))] H := hP
                      have hD : va_D A [(kd, .inl (cI, 4, .inl kdf)), (r, .inr (3, [.ref rt, .int rsz])), (rt, .inl (cI, 12, .inl rf)), (as, .inl (cI, 12, .inl asf_63)), (ak, .inl (cI, 12, .inl akf_64)), (a, .inr (5, [.ref as, .ref aw, .ref ak, .int asc_59, .int awc_74, .int aht_61, .int afi_62, .int amd])), (aw, .inl (cI, 12, .inl awf_75))] := hD
                      refine lv_goto (tgt := 164) hx hb dX6_understand_140 (by decide) ?_
                      exact J164 asc_59 awc_74 aht_61 afi_62 asf_63 awf_75 akf_64 (by first | assumption | omega) (by first | assumption | omega) (by first | assumption | omega) (by first | assumption | omega) (by first | assumption | omega) (by first | assumption | omega) H locs ls (hP.sub (ws' := [(a, .inr (5, [.ref as, .ref aw, .ref ak, .int asc_59, .int awc_74, .int aht_61, .int afi_62, .int amd])), (as, .inl (cI, 12, .inl asf_63)), (aw, .inl (cI, 12, .inl awf_75)), (ak, .inl (cI, 12, .inl akf_64)), (kd, .inl (cI, 4, .inl kdf)), (r, .inr (3, [.ref rt, .int rsz])), (rt, .inl (cI, 12, .inl rf))]) [5, 3, 6, 4, 0, 1, 2] rfl) (hD.sub (ws' := [(a, .inr (5, [.ref as, .ref aw, .ref ak, .int asc_59, .int awc_74, .int aht_61, .int afi_62, .int amd])), (as, .inl (cI, 12, .inl asf_63)), (aw, .inl (cI, 12, .inl awf_75)), (ak, .inl (cI, 12, .inl akf_64)), (kd, .inl (cI, 4, .inl kdf)), (r, .inr (3, [.ref rt, .int rsz])), (rt, .inl (cI, 12, .inl rf))]) [5, 3, 6, 4, 0, 1, 2] (by decide) rfl) hS hl
                  · have c57' := I_ne c57
                    refine lv_iload hx hb dX6_understand_95 (lv_at hl 0 rfl) ?_
                    refine lv_bipush (v := 10) hx hb dX6_understand_97 (by decide) ?_
                    refine lv_icmp_eq (tgt := 109) hx hb dX6_understand_99 (by decide) (fun c78 => ?_) (fun c78 => ?_)
                    · have c78' := I_eq c78
                      refine lv_aload_n hx hb dX6_understand_109 rfl (lv_at hl 2 rfl) ?_
                      refine lv_iconst (v := 1) hx hb dX6_understand_110 (by decide) ?_
                      refine calV (rest := []) (wr := [(kd, .inl (cI, 4, .inl kdf)), (r, .inr (3, [.ref rt, .int rsz])), (rt, .inl (cI, 12, .inl rf))]) hG (c_X6_settle l dC dI cI cJ base bB bO a as aw ak asc_22 awc_22 aht_22 afi_22 amd asf_22 awf_22 akf_22 1 (by first | assumption | omega) (by first | assumption | omega) (by first | assumption | omega) (by first | assumption | omega) (by first | assumption | omega) (by first | assumption | omega) (by first | assumption | omega)) ml_X6_56 im_X6_settle se_X6_settle ini_X6 cd_X6_settle hd_X6_settle ⟨(Nat.le_of_ble_eq_true rfl), (Nat.le_of_ble_eq_true rfl)⟩ (Nat.le_of_ble_eq_true rfl) (Nat.le_of_ble_eq_true rfl) hP hD hS [0, 1, 2, 3] [4, 5, 6] rfl rfl rfl rfl (by decide) 5 0 rfl rfl hl.1 rfl (Nat.le_of_ble_eq_true rfl) dX6_understand_111 (fun u H locs hw79 hP hD hS => ?_)
                      obtain ⟨asc_80, awc_81, aht_82, afi_83, asf_84, akf_85⟩ := u
                      have hw79 : (0 ≤ asc_80.toInt ∧ asc_80.toInt ≤ 12) ∧ (0 ≤ awc_81.toInt ∧ awc_81.toInt ≤ 12) ∧ (0 ≤ aht_82.toInt ∧ aht_82.toInt ≤ 12) ∧ (afi_83.toInt = 0 ∨ afi_83.toInt = 1) ∧ (stOK asf_84 asc_80) ∧ True := hw79
                      obtain ⟨hp86, hp87, hp88, hp89, hp90, -⟩ := hw79
                      have hP : va_P (dC, dI) vwCl [(kd, .inl (cI, 4, .inl kdf)), (r, .inr (3, [.ref rt, .int rsz])), (rt, .inl (cI, 12, .inl rf)), (a, .inr (5, [.ref as, .ref aw, .ref ak, .int asc_80, .int awc_81, .int aht_82, .int afi_83, .int amd])), (as, .inl (cI, 12, .inl asf_84)), (aw, .inl (cI, 12, .inl awf_22)), (ak, .inl (cI, 12, .inl akf_85))] H := hP
                      have hD : va_D A [(kd, .inl (cI, 4, .inl kdf)), (r, .inr (3, [.ref rt, .int rsz])), (rt, .inl (cI, 12, .inl rf)), (a, .inr (5, [.ref as, .ref aw, .ref ak, .int asc_80, .int awc_81, .int aht_82, .int afi_83, .int amd])), (as, .inl (cI, 12, .inl asf_84)), (aw, .inl (cI, 12, .inl awf_22)), (ak, .inl (cI, 12, .inl akf_85))] := hD
                      refine lv_aload_n hx hb dX6_understand_114 rfl (lv_at hl 2 rfl) ?_
                      refine lv_iconst (v := 0) hx hb dX6_understand_115 (by decide) ?_
                      refine lv_aload_n hx hb dX6_understand_116 rfl (lv_at hl 2 rfl) ?_
                      refine va_get (D := (dC, dI)) (ci := 5) (v := .int awc_81) (C := RX6) (T := TX6) (N := 8) hx hb hts inG_X6 hown hK hP 3 rfl rfl 4 (by decide) (hts _ fl_X6_25) (fun _ h9 => h9) rfl dX6_understand_117 ?_
                      refine lv_iconst (v := 1) hx hb dX6_understand_120 (by decide) ?_
                      refine lv_isub hx hb dX6_understand_121 ?_
                      refine lv_topi (fun v91 ev91 => ?_)
                      try have hv91 : v91.toInt = awc_81.toInt - (1 : Int32).toInt := I_subx ev91 (by omega)
                      refine va_mmax hx hb (by rw [hml]; exact hl.1.symm) hown (hts _ ml_X6_59) (hts _ st_max) (hts _ ini_Math) (hts _ cd_max) (Nat.le_of_ble_eq_true rfl) (Nat.le_of_ble_eq_true rfl) (Nat.le_of_ble_eq_true rfl) (Nat.le_of_ble_eq_true rfl) dX6_understand_122 ?_
                      refine lv_topi (fun v92 ev92 => ?_)
                      have hv92 := I_max (0 : Int32) v91
                      rw [← ev92] at hv92
                      refine va_put (D := (dC, dI)) (ci := 5) (v := .int v92) (ty := .int) (C := RX6) (T := TX6) (N := 8) hx hb hts inG_X6 tyX6 tyX6_ok nmX6 hown hK hP hD hS 3 rfl rfl 4 (by decide) (hts _ fl_X6_25) (fun _ h9 => h9) rfl (by decide +kernel) rfl rfl (Nat.le_of_ble_eq_true rfl) dX6_understand_125 (fun H locs hP hD hS => ?_)
                      have hP : va_P (dC, dI) vwCl [(kd, .inl (cI, 4, .inl kdf)), (r, .inr (3, [.ref rt, .int rsz])), (rt, .inl (cI, 12, .inl rf)), (a, .inr (5, [.ref as, .ref aw, .ref ak, .int asc_80, .int v92, .int aht_82, .int afi_83, .int amd])), (as, .inl (cI, 12, .inl asf_84)), (aw, .inl (cI, 12, .inl awf_22)), (ak, .inl (cI, 12, .inl akf_85))] H := hP
                      have hD : va_D A [(kd, .inl (cI, 4, .inl kdf)), (r, .inr (3, [.ref rt, .int rsz])), (rt, .inl (cI, 12, .inl rf)), (a, .inr (5, [.ref as, .ref aw, .ref ak, .int asc_80, .int v92, .int aht_82, .int afi_83, .int amd])), (as, .inl (cI, 12, .inl asf_84)), (aw, .inl (cI, 12, .inl awf_22)), (ak, .inl (cI, 12, .inl akf_85))] := hD
                      refine lv_iload hx hb dX6_understand_128 (lv_at hl 0 rfl) ?_
                      refine lv_iconst (v := 1) hx hb dX6_understand_130 (by decide) ?_
                      refine lv_icmp_eq (tgt := 164) hx hb dX6_understand_131 (by decide) (fun c93 => ?_) (fun c93 => ?_)
                      · have c93' := I_eq c93
                        exact J164 asc_80 v92 aht_82 afi_83 asf_84 awf_22 akf_85 (by first | assumption | omega) (by first | assumption | omega) (by first | assumption | omega) (by first | assumption | omega) (by first | assumption | omega) (by first | assumption | omega) H locs ls (hP.sub (ws' := [(a, .inr (5, [.ref as, .ref aw, .ref ak, .int asc_80, .int v92, .int aht_82, .int afi_83, .int amd])), (as, .inl (cI, 12, .inl asf_84)), (aw, .inl (cI, 12, .inl awf_22)), (ak, .inl (cI, 12, .inl akf_85)), (kd, .inl (cI, 4, .inl kdf)), (r, .inr (3, [.ref rt, .int rsz])), (rt, .inl (cI, 12, .inl rf))]) [3, 4, 5, 6, 0, 1, 2] rfl) (hD.sub (ws' := [(a, .inr (5, [.ref as, .ref aw, .ref ak, .int asc_80, .int v92, .int aht_82, .int afi_83, .int amd])), (as, .inl (cI, 12, .inl asf_84)), (aw, .inl (cI, 12, .inl awf_22)), (ak, .inl (cI, 12, .inl akf_85)), (kd, .inl (cI, 4, .inl kdf)), (r, .inr (3, [.ref rt, .int rsz])), (rt, .inl (cI, 12, .inl rf))]) [3, 4, 5, 6, 0, 1, 2] (by decide) rfl) hS hl
                      · have c93' := I_ne c93
                        refine lv_aload_n hx hb dX6_understand_134 rfl (lv_at hl 2 rfl) ?_
                        refine lv_iload hx hb dX6_understand_135 (lv_at hl 0 rfl) ?_
                        refine calV (rest := []) (wr := [(kd, .inl (cI, 4, .inl kdf)), (r, .inr (3, [.ref rt, .int rsz])), (rt, .inl (cI, 12, .inl rf)), (as, .inl (cI, 12, .inl asf_84)), (ak, .inl (cI, 12, .inl akf_85))]) hG (c_X6_await l dC dI cI cJ base bB bO a as aw ak asc_80 v92 aht_82 afi_83 amd awf_22 r38 (by first | assumption | omega) (by first | assumption | omega) (by first | assumption | omega)) ml_X6_52 im_X6_await se_X6_await ini_X6 cd_X6_await hd_X6_await ⟨(Nat.le_of_ble_eq_true rfl), (Nat.le_of_ble_eq_true rfl)⟩ (Nat.le_of_ble_eq_true rfl) (Nat.le_of_ble_eq_true rfl) hP hD hS [3, 5] [0, 1, 2, 4, 6] rfl rfl rfl rfl (by decide) 5 3 rfl rfl hl.1 rfl (Nat.le_of_ble_eq_true rfl) dX6_understand_137 (fun u H locs hw94 hP hD hS => ?_)
                        obtain ⟨awc_95, awf_96⟩ := u
                        have hw94 : (0 ≤ awc_95.toInt ∧ awc_95.toInt ≤ 12) ∧ (∀ j : Nat, 0 ≤ (awf_96 j).toInt ∧ (awf_96 j).toInt < 12) ∧ True := hw94
                        obtain ⟨hp97, hp98, -⟩ := hw94
                        have hP : va_P (dC, dI) vwCl [(kd, .inl (cI, 4, .inl kdf)), (r, .inr (3, [.ref rt, .int rsz])), (rt, .inl (cI, 12, .inl rf)), (as, .inl (cI, 12, .inl asf_84)), (ak, .inl (cI, 12, .inl akf_85)), (a, .inr (5, [.ref as, .ref aw, .ref ak, .int asc_80, .int awc_95, .int aht_82, .int afi_83, .int amd])), (aw, .inl (cI, 12, .inl awf_96))] H := hP
                        have hD : va_D A [(kd, .inl (cI, 4, .inl kdf)), (r, .inr (3, [.ref rt, .int rsz])), (rt, .inl (cI, 12, .inl rf)), (as, .inl (cI, 12, .inl asf_84)), (ak, .inl (cI, 12, .inl akf_85)), (a, .inr (5, [.ref as, .ref aw, .ref ak, .int asc_80, .int awc_95, .int aht_82, .int afi_83, .int amd])), (aw, .inl (cI, 12, .inl awf_96))] := hD
                        refine lv_goto (tgt := 164) hx hb dX6_understand_140 (by decide) ?_
                        exact J164 asc_80 awc_95 aht_82 afi_83 asf_84 awf_96 akf_85 (by first | assumption | omega) (by first | assumption | omega) (by first | assumption | omega) (by first | assumption | omega) (by first | assumption | omega) (by first | assumption | omega) H locs ls (hP.sub (ws' := [(a, .inr (5, [.ref as, .ref aw, .ref ak, .int asc_80, .int awc_95, .int aht_82, .int afi_83, .int amd])), (as, .inl (cI, 12, .inl asf_84)), (aw, .inl (cI, 12, .inl awf_96)), (ak, .inl (cI, 12, .inl akf_85)), (kd, .inl (cI, 4, .inl kdf)), (r, .inr (3, [.ref rt, .int rsz])), (rt, .inl (cI, 12, .inl rf))]) [5, 3, 6, 4, 0, 1, 2] rfl) (hD.sub (ws' := [(a, .inr (5, [.ref as, .ref aw, .ref ak, .int asc_80, .int awc_95, .int aht_82, .int afi_83, .int amd])), (as, .inl (cI, 12, .inl asf_84)), (aw, .inl (cI, 12, .inl awf_96)), (ak, .inl (cI, 12, .inl akf_85)), (kd, .inl (cI, 4, .inl kdf)), (r, .inr (3, [.ref rt, .int rsz])), (rt, .inl (cI, 12, .inl rf))]) [5, 3, 6, 4, 0, 1, 2] (by decide) rfl) hS hl
                    · have c78' := I_ne c78
                      refine lv_iload hx hb dX6_understand_102 (lv_at hl 0 rfl) ?_
                      refine lv_bipush (v := 11) hx hb dX6_understand_104 (by decide) ?_
                      refine lv_icmp_ne (tgt := 143) hx hb dX6_understand_106 (by decide) (fun c99 => ?_) (fun c99 => ?_)
                      · have c99' := I_ne c99
                        refine lv_iload hx hb dX6_understand_143 (lv_at hl 0 rfl) ?_
                        refine lv_if_lt (tgt := 164) hx hb dX6_understand_145 (by decide) (fun c100 => ?_) (fun c100 => ?_)
                        · have c100' := I_lt c100
                          exact J164 asc_22 awc_22 aht_22 afi_22 asf_22 awf_22 akf_22 (by first | assumption | omega) (by first | assumption | omega) (by first | assumption | omega) (by first | assumption | omega) (by first | assumption | omega) (by first | assumption | omega) H locs ls hP hD hS hl
                        · have c100' := I_nlt c100
                          refine lv_aload_n hx hb dX6_understand_148 rfl (lv_at hl 2 rfl) ?_
                          refine va_gets (C := RX6) hx hb hEB hS hown (hts _ fl_X6_65) (fun _ h9 => h9) dX6_understand_149 ?_
                          refine lv_iload hx hb dX6_understand_152 (lv_at hl 0 rfl) ?_
                          refine va_ti hx hb hXB hS (I_in (by omega) (by omega)) (v := .int (tBIND r38.toNatClampNeg)) rfl dX6_understand_154 ?_
                          refine lv_topi (fun v101 ev101 => ?_)
                          have hv101 := tBIND_rng r38
                          rw [← ev101] at hv101
                          refine calV (rest := []) (wr := [(kd, .inl (cI, 4, .inl kdf)), (r, .inr (3, [.ref rt, .int rsz])), (rt, .inl (cI, 12, .inl rf))]) hG (c_X6_settle l dC dI cI cJ base bB bO a as aw ak asc_22 awc_22 aht_22 afi_22 amd asf_22 awf_22 akf_22 v101 (by first | assumption | omega) (by first | assumption | omega) (by first | assumption | omega) (by first | assumption | omega) (by first | assumption | omega) (by first | assumption | omega) (by first | assumption | omega)) ml_X6_56 im_X6_settle se_X6_settle ini_X6 cd_X6_settle hd_X6_settle ⟨(Nat.le_of_ble_eq_true rfl), (Nat.le_of_ble_eq_true rfl)⟩ (Nat.le_of_ble_eq_true rfl) (Nat.le_of_ble_eq_true rfl) hP hD hS [0, 1, 2, 3] [4, 5, 6] rfl rfl rfl rfl (by decide) 5 0 rfl rfl hl.1 rfl (Nat.le_of_ble_eq_true rfl) dX6_understand_155 (fun u H locs hw102 hP hD hS => ?_)
                          obtain ⟨asc_103, awc_104, aht_105, afi_106, asf_107, akf_108⟩ := u
                          have hw102 : (0 ≤ asc_103.toInt ∧ asc_103.toInt ≤ 12) ∧ (0 ≤ awc_104.toInt ∧ awc_104.toInt ≤ 12) ∧ (0 ≤ aht_105.toInt ∧ aht_105.toInt ≤ 12) ∧ (afi_106.toInt = 0 ∨ afi_106.toInt = 1) ∧ (stOK asf_107 asc_103) ∧ True := hw102
                          obtain ⟨hp109, hp110, hp111, hp112, hp113, -⟩ := hw102
                          have hP : va_P (dC, dI) vwCl [(kd, .inl (cI, 4, .inl kdf)), (r, .inr (3, [.ref rt, .int rsz])), (rt, .inl (cI, 12, .inl rf)), (a, .inr (5, [.ref as, .ref aw, .ref ak, .int asc_103, .int awc_104, .int aht_105, .int afi_106, .int amd])), (as, .inl (cI, 12, .inl asf_107)), (aw, .inl (cI, 12, .inl awf_22)), (ak, .inl (cI, 12, .inl akf_108))] H := hP
                          have hD : va_D A [(kd, .inl (cI, 4, .inl kdf)), (r, .inr (3, [.ref rt, .int rsz])), (rt, .inl (cI, 12, .inl rf)), (a, .inr (5, [.ref as, .ref aw, .ref ak, .int asc_103, .int awc_104, .int aht_105, .int afi_106, .int amd])), (as, .inl (cI, 12, .inl asf_107)), (aw, .inl (cI, 12, .inl awf_22)), (ak, .inl (cI, 12, .inl akf_108))] := hD
                          refine lv_aload_n hx hb dX6_understand_158 rfl (lv_at hl 2 rfl) ?_
                          refine lv_iload hx hb dX6_understand_159 (lv_at hl 0 rfl) ?_
                          refine calV (rest := []) (wr := [(kd, .inl (cI, 4, .inl kdf)), (r, .inr (3, [.ref rt, .int rsz])), (rt, .inl (cI, 12, .inl rf)), (as, .inl (cI, 12, .inl asf_107)), (ak, .inl (cI, 12, .inl akf_108))]) hG (c_X6_await l dC dI cI cJ base bB bO a as aw ak asc_103 awc_104 aht_105 afi_106 amd awf_22 r38 (by first | assumption | omega) (by first | assumption | omega) (by first | assumption | omega)) ml_X6_52 im_X6_await se_X6_await ini_X6 cd_X6_await hd_X6_await ⟨(Nat.le_of_ble_eq_true rfl), (Nat.le_of_ble_eq_true rfl)⟩ (Nat.le_of_ble_eq_true rfl) (Nat.le_of_ble_eq_true rfl) hP hD hS [3, 5] [0, 1, 2, 4, 6] rfl rfl rfl rfl (by decide) 5 3 rfl rfl hl.1 rfl (Nat.le_of_ble_eq_true rfl) dX6_understand_161 (fun u H locs hw114 hP hD hS => ?_)
                          obtain ⟨awc_115, awf_116⟩ := u
                          have hw114 : (0 ≤ awc_115.toInt ∧ awc_115.toInt ≤ 12) ∧ (∀ j : Nat, 0 ≤ (awf_116 j).toInt ∧ (awf_116 j).toInt < 12) ∧ True := hw114
                          obtain ⟨hp117, hp118, -⟩ := hw114
                          have hP : va_P (dC, dI) vwCl [(kd, .inl (cI, 4, .inl kdf)), (r, .inr (3, [.ref rt, .int rsz])), (rt, .inl (cI, 12, .inl rf)), (as, .inl (cI, 12, .inl asf_107)), (ak, .inl (cI, 12, .inl akf_108)), (a, .inr (5, [.ref as, .ref aw, .ref ak, .int asc_103, .int awc_115, .int aht_105, .int afi_106, .int amd])), (aw, .inl (cI, 12, .inl awf_116))] H := hP
                          have hD : va_D A [(kd, .inl (cI, 4, .inl kdf)), (r, .inr (3, [.ref rt, .int rsz])), (rt, .inl (cI, 12, .inl rf)), (as, .inl (cI, 12, .inl asf_107)), (ak, .inl (cI, 12, .inl akf_108)), (a, .inr (5, [.ref as, .ref aw, .ref ak, .int asc_103, .int awc_115, .int aht_105, .int afi_106, .int amd])), (aw, .inl (cI, 12, .inl awf_116))] := hD
                          exact J164 asc_103 awc_115 aht_105 afi_106 asf_107 awf_116 akf_108 (by first | assumption | omega) (by first | assumption | omega) (by first | assumption | omega) (by first | assumption | omega) (by first | assumption | omega) (by first | assumption | omega) H locs ls (hP.sub (ws' := [(a, .inr (5, [.ref as, .ref aw, .ref ak, .int asc_103, .int awc_115, .int aht_105, .int afi_106, .int amd])), (as, .inl (cI, 12, .inl asf_107)), (aw, .inl (cI, 12, .inl awf_116)), (ak, .inl (cI, 12, .inl akf_108)), (kd, .inl (cI, 4, .inl kdf)), (r, .inr (3, [.ref rt, .int rsz])), (rt, .inl (cI, 12, .inl rf))]) [5, 3, 6, 4, 0, 1, 2] rfl) (hD.sub (ws' := [(a, .inr (5, [.ref as, .ref aw, .ref ak, .int asc_103, .int awc_115, .int aht_105, .int afi_106, .int amd])), (as, .inl (cI, 12, .inl asf_107)), (aw, .inl (cI, 12, .inl awf_116)), (ak, .inl (cI, 12, .inl akf_108)), (kd, .inl (cI, 4, .inl kdf)), (r, .inr (3, [.ref rt, .int rsz])), (rt, .inl (cI, 12, .inl rf))]) [5, 3, 6, 4, 0, 1, 2] (by decide) rfl) hS hl
                      · have c99' := I_eq c99
                        refine lv_aload_n hx hb dX6_understand_109 rfl (lv_at hl 2 rfl) ?_
                        refine lv_iconst (v := 1) hx hb dX6_understand_110 (by decide) ?_
                        refine calV (rest := []) (wr := [(kd, .inl (cI, 4, .inl kdf)), (r, .inr (3, [.ref rt, .int rsz])), (rt, .inl (cI, 12, .inl rf))]) hG (c_X6_settle l dC dI cI cJ base bB bO a as aw ak asc_22 awc_22 aht_22 afi_22 amd asf_22 awf_22 akf_22 1 (by first | assumption | omega) (by first | assumption | omega) (by first | assumption | omega) (by first | assumption | omega) (by first | assumption | omega) (by first | assumption | omega) (by first | assumption | omega)) ml_X6_56 im_X6_settle se_X6_settle ini_X6 cd_X6_settle hd_X6_settle ⟨(Nat.le_of_ble_eq_true rfl), (Nat.le_of_ble_eq_true rfl)⟩ (Nat.le_of_ble_eq_true rfl) (Nat.le_of_ble_eq_true rfl) hP hD hS [0, 1, 2, 3] [4, 5, 6] rfl rfl rfl rfl (by decide) 5 0 rfl rfl hl.1 rfl (Nat.le_of_ble_eq_true rfl) dX6_understand_111 (fun u H locs hw119 hP hD hS => ?_)
                        obtain ⟨asc_120, awc_121, aht_122, afi_123, asf_124, akf_125⟩ := u
                        have hw119 : (0 ≤ asc_120.toInt ∧ asc_120.toInt ≤ 12) ∧ (0 ≤ awc_121.toInt ∧ awc_121.toInt ≤ 12) ∧ (0 ≤ aht_122.toInt ∧ aht_122.toInt ≤ 12) ∧ (afi_123.toInt = 0 ∨ afi_123.toInt = 1) ∧ (stOK asf_124 asc_120) ∧ True := hw119
                        obtain ⟨hp126, hp127, hp128, hp129, hp130, -⟩ := hw119
                        have hP : va_P (dC, dI) vwCl [(kd, .inl (cI, 4, .inl kdf)), (r, .inr (3, [.ref rt, .int rsz])), (rt, .inl (cI, 12, .inl rf)), (a, .inr (5, [.ref as, .ref aw, .ref ak, .int asc_120, .int awc_121, .int aht_122, .int afi_123, .int amd])), (as, .inl (cI, 12, .inl asf_124)), (aw, .inl (cI, 12, .inl awf_22)), (ak, .inl (cI, 12, .inl akf_125))] H := hP
                        have hD : va_D A [(kd, .inl (cI, 4, .inl kdf)), (r, .inr (3, [.ref rt, .int rsz])), (rt, .inl (cI, 12, .inl rf)), (a, .inr (5, [.ref as, .ref aw, .ref ak, .int asc_120, .int awc_121, .int aht_122, .int afi_123, .int amd])), (as, .inl (cI, 12, .inl asf_124)), (aw, .inl (cI, 12, .inl awf_22)), (ak, .inl (cI, 12, .inl akf_125))] := hD
                        refine lv_aload_n hx hb dX6_understand_114 rfl (lv_at hl 2 rfl) ?_
                        refine lv_iconst (v := 0) hx hb dX6_understand_115 (by decide) ?_
                        refine lv_aload_n hx hb dX6_understand_116 rfl (lv_at hl 2 rfl) ?_
                        refine va_get (D := (dC, dI)) (ci := 5) (v := .int awc_121) (C := RX6) (T := TX6) (N := 8) hx hb hts inG_X6 hown hK hP 3 rfl rfl 4 (by decide) (hts _ fl_X6_25) (fun _ h9 => h9) rfl dX6_understand_117 ?_
                        refine lv_iconst (v := 1) hx hb dX6_understand_120 (by decide) ?_
                        refine lv_isub hx hb dX6_understand_121 ?_
                        refine lv_topi (fun v131 ev131 => ?_)
                        try have hv131 : v131.toInt = awc_121.toInt - (1 : Int32).toInt := I_subx ev131 (by omega)
                        refine va_mmax hx hb (by rw [hml]; exact hl.1.symm) hown (hts _ ml_X6_59) (hts _ st_max) (hts _ ini_Math) (hts _ cd_max) (Nat.le_of_ble_eq_true rfl) (Nat.le_of_ble_eq_true rfl) (Nat.le_of_ble_eq_true rfl) (Nat.le_of_ble_eq_true rfl) dX6_understand_122 ?_
                        refine lv_topi (fun v132 ev132 => ?_)
                        have hv132 := I_max (0 : Int32) v131
                        rw [← ev132] at hv132
                        refine va_put (D := (dC, dI)) (ci := 5) (v := .int v132) (ty := .int) (C := RX6) (T := TX6) (N := 8) hx hb hts inG_X6 tyX6 tyX6_ok nmX6 hown hK hP hD hS 3 rfl rfl 4 (by decide) (hts _ fl_X6_25) (fun _ h9 => h9) rfl (by decide +kernel) rfl rfl (Nat.le_of_ble_eq_true rfl) dX6_understand_125 (fun H locs hP hD hS => ?_)
                        have hP : va_P (dC, dI) vwCl [(kd, .inl (cI, 4, .inl kdf)), (r, .inr (3, [.ref rt, .int rsz])), (rt, .inl (cI, 12, .inl rf)), (a, .inr (5, [.ref as, .ref aw, .ref ak, .int asc_120, .int v132, .int aht_122, .int afi_123, .int amd])), (as, .inl (cI, 12, .inl asf_124)), (aw, .inl (cI, 12, .inl awf_22)), (ak, .inl (cI, 12, .inl akf_125))] H := hP
                        have hD : va_D A [(kd, .inl (cI, 4, .inl kdf)), (r, .inr (3, [.ref rt, .int rsz])), (rt, .inl (cI, 12, .inl rf)), (a, .inr (5, [.ref as, .ref aw, .ref ak, .int asc_120, .int v132, .int aht_122, .int afi_123, .int amd])), (as, .inl (cI, 12, .inl asf_124)), (aw, .inl (cI, 12, .inl awf_22)), (ak, .inl (cI, 12, .inl akf_125))] := hD
                        refine lv_iload hx hb dX6_understand_128 (lv_at hl 0 rfl) ?_
                        refine lv_iconst (v := 1) hx hb dX6_understand_130 (by decide) ?_
                        refine lv_icmp_eq (tgt := 164) hx hb dX6_understand_131 (by decide) (fun c133 => ?_) (fun c133 => ?_)
                        · have c133' := I_eq c133
                          exact J164 asc_120 v132 aht_122 afi_123 asf_124 awf_22 akf_125 (by first | assumption | omega) (by first | assumption | omega) (by first | assumption | omega) (by first | assumption | omega) (by first | assumption | omega) (by first | assumption | omega) H locs ls (hP.sub (ws' := [(a, .inr (5, [.ref as, .ref aw, .ref ak, .int asc_120, .int v132, .int aht_122, .int afi_123, .int amd])), (as, .inl (cI, 12, .inl asf_124)), (aw, .inl (cI, 12, .inl awf_22)), (ak, .inl (cI, 12, .inl akf_125)), (kd, .inl (cI, 4, .inl kdf)), (r, .inr (3, [.ref rt, .int rsz])), (rt, .inl (cI, 12, .inl rf))]) [3, 4, 5, 6, 0, 1, 2] rfl) (hD.sub (ws' := [(a, .inr (5, [.ref as, .ref aw, .ref ak, .int asc_120, .int v132, .int aht_122, .int afi_123, .int amd])), (as, .inl (cI, 12, .inl asf_124)), (aw, .inl (cI, 12, .inl awf_22)), (ak, .inl (cI, 12, .inl akf_125)), (kd, .inl (cI, 4, .inl kdf)), (r, .inr (3, [.ref rt, .int rsz])), (rt, .inl (cI, 12, .inl rf))]) [3, 4, 5, 6, 0, 1, 2] (by decide) rfl) hS hl
                        · have c133' := I_ne c133
                          refine lv_aload_n hx hb dX6_understand_134 rfl (lv_at hl 2 rfl) ?_
                          refine lv_iload hx hb dX6_understand_135 (lv_at hl 0 rfl) ?_
                          refine calV (rest := []) (wr := [(kd, .inl (cI, 4, .inl kdf)), (r, .inr (3, [.ref rt, .int rsz])), (rt, .inl (cI, 12, .inl rf)), (as, .inl (cI, 12, .inl asf_124)), (ak, .inl (cI, 12, .inl akf_125))]) hG (c_X6_await l dC dI cI cJ base bB bO a as aw ak asc_120 v132 aht_122 afi_123 amd awf_22 r38 (by first | assumption | omega) (by first | assumption | omega) (by first | assumption | omega)) ml_X6_52 im_X6_await se_X6_await ini_X6 cd_X6_await hd_X6_await ⟨(Nat.le_of_ble_eq_true rfl), (Nat.le_of_ble_eq_true rfl)⟩ (Nat.le_of_ble_eq_true rfl) (Nat.le_of_ble_eq_true rfl) hP hD hS [3, 5] [0, 1, 2, 4, 6] rfl rfl rfl rfl (by decide) 5 3 rfl rfl hl.1 rfl (Nat.le_of_ble_eq_true rfl) dX6_understand_137 (fun u H locs hw134 hP hD hS => ?_)
                          obtain ⟨awc_135, awf_136⟩ := u
                          have hw134 : (0 ≤ awc_135.toInt ∧ awc_135.toInt ≤ 12) ∧ (∀ j : Nat, 0 ≤ (awf_136 j).toInt ∧ (awf_136 j).toInt < 12) ∧ True := hw134
                          obtain ⟨hp137, hp138, -⟩ := hw134
                          have hP : va_P (dC, dI) vwCl [(kd, .inl (cI, 4, .inl kdf)), (r, .inr (3, [.ref rt, .int rsz])), (rt, .inl (cI, 12, .inl rf)), (as, .inl (cI, 12, .inl asf_124)), (ak, .inl (cI, 12, .inl akf_125)), (a, .inr (5, [.ref as, .ref aw, .ref ak, .int asc_120, .int awc_135, .int aht_122, .int afi_123, .int amd])), (aw, .inl (cI, 12, .inl awf_136))] H := hP
                          have hD : va_D A [(kd, .inl (cI, 4, .inl kdf)), (r, .inr (3, [.ref rt, .int rsz])), (rt, .inl (cI, 12, .inl rf)), (as, .inl (cI, 12, .inl asf_124)), (ak, .inl (cI, 12, .inl akf_125)), (a, .inr (5, [.ref as, .ref aw, .ref ak, .int asc_120, .int awc_135, .int aht_122, .int afi_123, .int amd])), (aw, .inl (cI, 12, .inl awf_136))] := hD
                          refine lv_goto (tgt := 164) hx hb dX6_understand_140 (by decide) ?_
                          exact J164 asc_120 awc_135 aht_122 afi_123 asf_124 awf_136 akf_125 (by first | assumption | omega) (by first | assumption | omega) (by first | assumption | omega) (by first | assumption | omega) (by first | assumption | omega) (by first | assumption | omega) H locs ls (hP.sub (ws' := [(a, .inr (5, [.ref as, .ref aw, .ref ak, .int asc_120, .int awc_135, .int aht_122, .int afi_123, .int amd])), (as, .inl (cI, 12, .inl asf_124)), (aw, .inl (cI, 12, .inl awf_136)), (ak, .inl (cI, 12, .inl akf_125)), (kd, .inl (cI, 4, .inl kdf)), (r, .inr (3, [.ref rt, .int rsz])), (rt, .inl (cI, 12, .inl rf))]) [5, 3, 6, 4, 0, 1, 2] rfl) (hD.sub (ws' := [(a, .inr (5, [.ref as, .ref aw, .ref ak, .int asc_120, .int awc_135, .int aht_122, .int afi_123, .int amd])), (as, .inl (cI, 12, .inl asf_124)), (aw, .inl (cI, 12, .inl awf_136)), (ak, .inl (cI, 12, .inl akf_125)), (kd, .inl (cI, 4, .inl kdf)), (r, .inr (3, [.ref rt, .int rsz])), (rt, .inl (cI, 12, .inl rf))]) [5, 3, 6, 4, 0, 1, 2] (by decide) rfl) hS hl
                · have c56' := I_eq c56
                  refine lv_aload_n hx hb dX6_understand_80 rfl (lv_at hl 2 rfl) ?_
                  refine lv_iload hx hb dX6_understand_81 (lv_at hl 0 rfl) ?_
                  refine calV (rest := []) (wr := [(as, .inl (cI, 12, .inl asf_22)), (ak, .inl (cI, 12, .inl akf_22)), (kd, .inl (cI, 4, .inl kdf)), (r, .inr (3, [.ref rt, .int rsz])), (rt, .inl (cI, 12, .inl rf))]) hG (c_X6_await l dC dI cI cJ base bB bO a as aw ak asc_22 awc_22 aht_22 afi_22 amd awf_22 r38 (by first | assumption | omega) (by first | assumption | omega) (by first | assumption | omega)) ml_X6_52 im_X6_await se_X6_await ini_X6 cd_X6_await hd_X6_await ⟨(Nat.le_of_ble_eq_true rfl), (Nat.le_of_ble_eq_true rfl)⟩ (Nat.le_of_ble_eq_true rfl) (Nat.le_of_ble_eq_true rfl) hP hD hS [0, 2] [1, 3, 4, 5, 6] rfl rfl rfl rfl (by decide) 5 0 rfl rfl hl.1 rfl (Nat.le_of_ble_eq_true rfl) dX6_understand_83 (fun u H locs hw139 hP hD hS => ?_)
                  obtain ⟨awc_140, awf_141⟩ := u
                  have hw139 : (0 ≤ awc_140.toInt ∧ awc_140.toInt ≤ 12) ∧ (∀ j : Nat, 0 ≤ (awf_141 j).toInt ∧ (awf_141 j).toInt < 12) ∧ True := hw139
                  obtain ⟨hp142, hp143, -⟩ := hw139
                  have hP : va_P (dC, dI) vwCl [(as, .inl (cI, 12, .inl asf_22)), (ak, .inl (cI, 12, .inl akf_22)), (kd, .inl (cI, 4, .inl kdf)), (r, .inr (3, [.ref rt, .int rsz])), (rt, .inl (cI, 12, .inl rf)), (a, .inr (5, [.ref as, .ref aw, .ref ak, .int asc_22, .int awc_140, .int aht_22, .int afi_22, .int amd])), (aw, .inl (cI, 12, .inl awf_141))] H := hP
                  have hD : va_D A [(as, .inl (cI, 12, .inl asf_22)), (ak, .inl (cI, 12, .inl akf_22)), (kd, .inl (cI, 4, .inl kdf)), (r, .inr (3, [.ref rt, .int rsz])), (rt, .inl (cI, 12, .inl rf)), (a, .inr (5, [.ref as, .ref aw, .ref ak, .int asc_22, .int awc_140, .int aht_22, .int afi_22, .int amd])), (aw, .inl (cI, 12, .inl awf_141))] := hD
                  refine lv_goto (tgt := 164) hx hb dX6_understand_86 (by decide) ?_
                  exact J164 asc_22 awc_140 aht_22 afi_22 asf_22 awf_141 akf_22 (by first | assumption | omega) (by first | assumption | omega) (by first | assumption | omega) (by first | assumption | omega) (by first | assumption | omega) (by first | assumption | omega) H locs ls (hP.sub (ws' := [(a, .inr (5, [.ref as, .ref aw, .ref ak, .int asc_22, .int awc_140, .int aht_22, .int afi_22, .int amd])), (as, .inl (cI, 12, .inl asf_22)), (aw, .inl (cI, 12, .inl awf_141)), (ak, .inl (cI, 12, .inl akf_22)), (kd, .inl (cI, 4, .inl kdf)), (r, .inr (3, [.ref rt, .int rsz])), (rt, .inl (cI, 12, .inl rf))]) [5, 0, 6, 1, 2, 3, 4] rfl) (hD.sub (ws' := [(a, .inr (5, [.ref as, .ref aw, .ref ak, .int asc_22, .int awc_140, .int aht_22, .int afi_22, .int amd])), (as, .inl (cI, 12, .inl asf_22)), (aw, .inl (cI, 12, .inl awf_141)), (ak, .inl (cI, 12, .inl akf_22)), (kd, .inl (cI, 4, .inl kdf)), (r, .inr (3, [.ref rt, .int rsz])), (rt, .inl (cI, 12, .inl rf))]) [5, 0, 6, 1, 2, 3, 4] (by decide) rfl) hS hl
          · have c43' := I_nlt c43
            refine lv_aload_n hx hb dX6_understand_51 rfl (lv_at hl 2 rfl) ?_
            refine lv_iload hx hb dX6_understand_52 (lv_at hl 0 rfl) ?_
            refine lv_aload_n hx hb dX6_understand_54 rfl (lv_at hl 4 rfl) ?_
            refine calV (rest := []) (wr := [(aw, .inl (cI, 12, .inl awf_22)), (r, .inr (3, [.ref rt, .int rsz])), (rt, .inl (cI, 12, .inl rf))]) hG (c_X6_addOperand l dC dI cI cJ base bB bO a as aw ak asc_22 awc_22 aht_22 afi_22 amd asf_22 akf_22 kd kdf r38 (by first | assumption | omega) (by first | assumption | omega) (by first | assumption | omega) (by first | assumption | omega) (by first | assumption | omega)) ml_X6_48 im_X6_addOperand se_X6_addOperand ini_X6 cd_X6_addOperand hd_X6_addOperand ⟨(Nat.le_of_ble_eq_true rfl), (Nat.le_of_ble_eq_true rfl)⟩ (Nat.le_of_ble_eq_true rfl) (Nat.le_of_ble_eq_true rfl) hP hD hS [0, 1, 3, 4] [2, 5, 6] rfl rfl rfl rfl (by decide) 5 0 rfl rfl hl.1 rfl (Nat.le_of_ble_eq_true rfl) dX6_understand_55 (fun u H locs hw144 hP hD hS => ?_)
            obtain ⟨asc_145, aht_146, afi_147, asf_148, akf_149⟩ := u
            have hw144 : (0 ≤ asc_145.toInt ∧ asc_145.toInt ≤ 12) ∧ (0 ≤ aht_146.toInt ∧ aht_146.toInt ≤ 12) ∧ (afi_147.toInt = 0 ∨ afi_147.toInt = 1) ∧ (stOK asf_148 asc_145) ∧ True := hw144
            obtain ⟨hp150, hp151, hp152, hp153, -⟩ := hw144
            have hP : va_P (dC, dI) vwCl [(aw, .inl (cI, 12, .inl awf_22)), (r, .inr (3, [.ref rt, .int rsz])), (rt, .inl (cI, 12, .inl rf)), (a, .inr (5, [.ref as, .ref aw, .ref ak, .int asc_145, .int awc_22, .int aht_146, .int afi_147, .int amd])), (as, .inl (cI, 12, .inl asf_148)), (ak, .inl (cI, 12, .inl akf_149)), (kd, .inl (cI, 4, .inl kdf))] H := hP
            have hD : va_D A [(aw, .inl (cI, 12, .inl awf_22)), (r, .inr (3, [.ref rt, .int rsz])), (rt, .inl (cI, 12, .inl rf)), (a, .inr (5, [.ref as, .ref aw, .ref ak, .int asc_145, .int awc_22, .int aht_146, .int afi_147, .int amd])), (as, .inl (cI, 12, .inl asf_148)), (ak, .inl (cI, 12, .inl akf_149)), (kd, .inl (cI, 4, .inl kdf))] := hD
            refine lv_goto (tgt := 164) hx hb dX6_understand_58 (by decide) ?_
            exact J164 asc_145 awc_22 aht_146 afi_147 asf_148 awf_22 akf_149 (by first | assumption | omega) (by first | assumption | omega) (by first | assumption | omega) (by first | assumption | omega) (by first | assumption | omega) (by first | assumption | omega) H locs ls (hP.sub (ws' := [(a, .inr (5, [.ref as, .ref aw, .ref ak, .int asc_145, .int awc_22, .int aht_146, .int afi_147, .int amd])), (as, .inl (cI, 12, .inl asf_148)), (aw, .inl (cI, 12, .inl awf_22)), (ak, .inl (cI, 12, .inl akf_149)), (kd, .inl (cI, 4, .inl kdf)), (r, .inr (3, [.ref rt, .int rsz])), (rt, .inl (cI, 12, .inl rf))]) [3, 4, 0, 5, 6, 1, 2] rfl) (hD.sub (ws' := [(a, .inr (5, [.ref as, .ref aw, .ref ak, .int asc_145, .int awc_22, .int aht_146, .int afi_147, .int amd])), (as, .inl (cI, 12, .inl asf_148)), (aw, .inl (cI, 12, .inl awf_22)), (ak, .inl (cI, 12, .inl akf_149)), (kd, .inl (cI, 4, .inl kdf)), (r, .inr (3, [.ref rt, .int rsz])), (rt, .inl (cI, 12, .inl rf))]) [3, 4, 0, 5, 6, 1, 2] (by decide) rfl) hS hl
  exact J22 ((12 - (0 : Int32).toInt).toNat + 1) 0 0 0 0 1 asf awf akf (by first | assumption | omega) (by first | assumption | omega) (by first | assumption | omega) (by first | assumption | omega) (by first | assumption | omega) (by first | assumption | exact stOK_0 (by omega)) (by first | assumption | omega) (by omega) H locs ls hP hD hS hl
set_option maxHeartbeats 4000000 in
set_option maxRecDepth 100000 in
theorem c_X6_operand (l : Launch) (dC : Nat → ClassId) (dI : Nat → Nat → Nat) (cI cJ : ClassId) (base bB bO : Nat) (nb : Nat) (nbf : Nat → Int32) (x : Int32) (fm : Int32) (hx0 : 12 ≤ x.toInt ∧ x.toInt ≤ 31) (hx1 : 0 ≤ fm.toInt ∧ fm.toInt ≤ 0) : CtI l dC dI cI cJ base bB bO yX6_operand cX6_operand 3 .int 0 0 [.int x, .ref nb, .int fm] [(nb, .inl (cI, 4, .inl nbf))] (Unit) (fun (res : Int32) (u : Unit) => True) (fun (u : Unit) => [(nb, .inl (cI, 4, .inl nbf))]) := by
  refine entI (by decide) (Nat.le_of_ble_eq_true rfl) ?_
  intro p e s m below meth c A Q ls hAt hret hP hD hS hl
  obtain ⟨hx, hb, hml, hown, hts, hA, hAb, hK, hE, hlocks, hin⟩ := hAt
  have hG : CG dC dI cI cJ base bB bO cX6_operand 3 RX6 p s m (List.toArray [.int x, .ref nb, .int fm]) c A := ⟨hx, hb, hml, hown, hts, hA, hAb, hK, hE⟩
  have hl : lv_has ls 3 [(0, .int x), (1, .ref nb), (2, .int fm)] := hl
  have c_0 : (0 : Int32).toInt = 0 := by decide
  have c_1 : (1 : Int32).toInt = 1 := by decide
  have c_12 : (12 : Int32).toInt = 12 := by decide
  have c_14 : (14 : Int32).toInt = 14 := by decide
  have c_18 : (18 : Int32).toInt = 18 := by decide
  have c_28 : (28 : Int32).toInt = 28 := by decide
  obtain ⟨H, hHe⟩ : ∃ H : Heap, H = s.heap := ⟨_, rfl⟩
  obtain ⟨locs, hle⟩ : ∃ z : List Loc, z = [] := ⟨_, rfl⟩
  rw [← hHe] at hP
  have hS : va_S A s.heap H locs := by rw [hHe, hle]; exact hS
  suffices hgo : W p l e { frames := 0, cells := 0, slots := 0, locals := 0 } s m (List.toArray [.int x, .ref nb, .int fm]) below meth c H locs 0 0 Q (F0 m 0 ls []) by rw [hHe, hle] at hgo; exact hgo
  refine lv_iload_n hx hb dX6_operand_0 rfl (lv_at hl 0 rfl) ?_
  refine lv_bipush (v := 28) hx hb dX6_operand_1 (by decide) ?_
  refine lv_icmp_lt (tgt := 23) hx hb dX6_operand_3 (by decide) (fun c1 => ?_) (fun c1 => ?_)
  · have c1' := I_lt c1
    refine lv_iload_n hx hb dX6_operand_23 rfl (lv_at hl 0 rfl) ?_
    refine lv_bipush (v := 18) hx hb dX6_operand_24 (by decide) ?_
    refine lv_icmp_lt (tgt := 34) hx hb dX6_operand_26 (by decide) (fun c2 => ?_) (fun c2 => ?_)
    · have c2' := I_lt c2
      refine lv_iload_n hx hb dX6_operand_34 rfl (lv_at hl 0 rfl) ?_
      refine lv_bipush (v := 14) hx hb dX6_operand_35 (by decide) ?_
      refine lv_icmp_lt (tgt := 49) hx hb dX6_operand_37 (by decide) (fun c3 => ?_) (fun c3 => ?_)
      · have c3' := I_lt c3
        refine lv_iload_n hx hb dX6_operand_49 rfl (lv_at hl 0 rfl) ?_
        refine lv_bipush (v := 12) hx hb dX6_operand_50 (by decide) ?_
        refine lv_icmp_ne (tgt := 59) hx hb dX6_operand_52 (by decide) (fun c4 => ?_) (fun c4 => ?_)
        · have c4' := I_ne c4
          refine lv_iconst (v := 0) hx hb dX6_operand_59 (by decide) ?_
          exact hret 0 () H locs 60 ls rfl trivial hP hD hS dX6_operand_60
        · have c4' := I_eq c4
          refine lv_iconst (v := 1) hx hb dX6_operand_55 (by decide) ?_
          refine lv_goto (tgt := 60) hx hb dX6_operand_56 (by decide) ?_
          exact hret 1 () H locs 60 ls rfl trivial hP hD hS dX6_operand_60
      · have c3' := I_nlt c3
        refine lv_aload_n hx hb dX6_operand_40 rfl (lv_at hl 1 rfl) ?_
        refine lv_iload_n hx hb dX6_operand_41 rfl (lv_at hl 2 rfl) ?_
        refine lv_iload_n hx hb dX6_operand_42 rfl (lv_at hl 0 rfl) ?_
        refine lv_iadd hx hb dX6_operand_43 ?_
        refine lv_topi (fun v5 ev5 => ?_)
        try have hv5 : v5.toInt = fm.toInt + x.toInt := I_addx ev5 (by omega)
        refine lv_bipush (v := 14) hx hb dX6_operand_44 (by decide) ?_
        refine lv_isub hx hb dX6_operand_46 ?_
        refine lv_topi (fun v6 ev6 => ?_)
        try have hv6 : v6.toInt = v5.toInt - (14 : Int32).toInt := I_subx ev6 (by omega)
        refine va_iald (t0 := 0) hx hb hK hP 0 (ha := rfl) (ht := rfl) (I_in (by omega) (by omega)) dX6_operand_47 ?_
        refine lv_topi (fun v7 ev7 => ?_)
        exact hret v7 () H locs 48 ls rfl trivial hP hD hS dX6_operand_48
    · have c2' := I_nlt c2
      refine lv_iload_n hx hb dX6_operand_29 rfl (lv_at hl 0 rfl) ?_
      refine lv_bipush (v := 18) hx hb dX6_operand_30 (by decide) ?_
      refine lv_isub hx hb dX6_operand_32 ?_
      refine lv_topi (fun v8 ev8 => ?_)
      try have hv8 : v8.toInt = x.toInt - (18 : Int32).toInt := I_subx ev8 (by omega)
      exact hret v8 () H locs 33 ls rfl trivial hP hD hS dX6_operand_33
  · have c1' := I_nlt c1
    refine lv_aload_n hx hb dX6_operand_6 rfl (lv_at hl 1 rfl) ?_
    refine lv_iload_n hx hb dX6_operand_7 rfl (lv_at hl 2 rfl) ?_
    refine lv_iload_n hx hb dX6_operand_8 rfl (lv_at hl 0 rfl) ?_
    refine lv_iadd hx hb dX6_operand_9 ?_
    refine lv_topi (fun v9 ev9 => ?_)
    try have hv9 : v9.toInt = fm.toInt + x.toInt := I_addx ev9 (by omega)
    refine lv_bipush (v := 28) hx hb dX6_operand_10 (by decide) ?_
    refine lv_isub hx hb dX6_operand_12 ?_
    refine lv_topi (fun v10 ev10 => ?_)
    try have hv10 : v10.toInt = v9.toInt - (28 : Int32).toInt := I_subx ev10 (by omega)
    refine va_iald (t0 := 0) hx hb hK hP 0 (ha := rfl) (ht := rfl) (I_in (by omega) (by omega)) dX6_operand_13 ?_
    refine lv_topi (fun v11 ev11 => ?_)
    refine lv_if_eq (tgt := 21) hx hb dX6_operand_14 (by decide) (fun c12 => ?_) (fun c12 => ?_)
    · have c12' := I_eq c12
      refine lv_iconst (v := 0) hx hb dX6_operand_21 (by decide) ?_
      exact hret 0 () H locs 22 ls rfl trivial hP hD hS dX6_operand_22
    · have c12' := I_ne c12
      refine lv_iconst (v := 1) hx hb dX6_operand_17 (by decide) ?_
      refine lv_goto (tgt := 22) hx hb dX6_operand_18 (by decide) ?_
      exact hret 1 () H locs 22 ls rfl trivial hP hD hS dX6_operand_22
set_option maxHeartbeats 4000000 in
set_option maxRecDepth 100000 in
theorem c_X6_operand_40 (l : Launch) (dC : Nat → ClassId) (dI : Nat → Nat → Nat) (cI cJ : ClassId) (base bB bO : Nat) (nb : Nat) (nbf : Nat → Int32) (x : Int32) (fm : Int32) (hx0 : 12 ≤ x.toInt ∧ x.toInt ≤ 31) (hx1 : 0 ≤ fm.toInt ∧ fm.toInt ≤ 36) : CtI l dC dI cI cJ base bB bO yX6_operand cX6_operand 3 .int 0 0 [.int x, .ref nb, .int fm] [(nb, .inl (cI, 40, .inl nbf))] (Unit) (fun (res : Int32) (u : Unit) => True) (fun (u : Unit) => [(nb, .inl (cI, 40, .inl nbf))]) := by
  refine entI (by decide) (Nat.le_of_ble_eq_true rfl) ?_
  intro p e s m below meth c A Q ls hAt hret hP hD hS hl
  obtain ⟨hx, hb, hml, hown, hts, hA, hAb, hK, hE, hlocks, hin⟩ := hAt
  have hG : CG dC dI cI cJ base bB bO cX6_operand 3 RX6 p s m (List.toArray [.int x, .ref nb, .int fm]) c A := ⟨hx, hb, hml, hown, hts, hA, hAb, hK, hE⟩
  have hl : lv_has ls 3 [(0, .int x), (1, .ref nb), (2, .int fm)] := hl
  have c_0 : (0 : Int32).toInt = 0 := by decide
  have c_1 : (1 : Int32).toInt = 1 := by decide
  have c_12 : (12 : Int32).toInt = 12 := by decide
  have c_14 : (14 : Int32).toInt = 14 := by decide
  have c_18 : (18 : Int32).toInt = 18 := by decide
  have c_28 : (28 : Int32).toInt = 28 := by decide
  obtain ⟨H, hHe⟩ : ∃ H : Heap, H = s.heap := ⟨_, rfl⟩
  obtain ⟨locs, hle⟩ : ∃ z : List Loc, z = [] := ⟨_, rfl⟩
  rw [← hHe] at hP
  have hS : va_S A s.heap H locs := by rw [hHe, hle]; exact hS
  suffices hgo : W p l e { frames := 0, cells := 0, slots := 0, locals := 0 } s m (List.toArray [.int x, .ref nb, .int fm]) below meth c H locs 0 0 Q (F0 m 0 ls []) by rw [hHe, hle] at hgo; exact hgo
  refine lv_iload_n hx hb dX6_operand_0 rfl (lv_at hl 0 rfl) ?_
  refine lv_bipush (v := 28) hx hb dX6_operand_1 (by decide) ?_
  refine lv_icmp_lt (tgt := 23) hx hb dX6_operand_3 (by decide) (fun c1 => ?_) (fun c1 => ?_)
  · have c1' := I_lt c1
    refine lv_iload_n hx hb dX6_operand_23 rfl (lv_at hl 0 rfl) ?_
    refine lv_bipush (v := 18) hx hb dX6_operand_24 (by decide) ?_
    refine lv_icmp_lt (tgt := 34) hx hb dX6_operand_26 (by decide) (fun c2 => ?_) (fun c2 => ?_)
    · have c2' := I_lt c2
      refine lv_iload_n hx hb dX6_operand_34 rfl (lv_at hl 0 rfl) ?_
      refine lv_bipush (v := 14) hx hb dX6_operand_35 (by decide) ?_
      refine lv_icmp_lt (tgt := 49) hx hb dX6_operand_37 (by decide) (fun c3 => ?_) (fun c3 => ?_)
      · have c3' := I_lt c3
        refine lv_iload_n hx hb dX6_operand_49 rfl (lv_at hl 0 rfl) ?_
        refine lv_bipush (v := 12) hx hb dX6_operand_50 (by decide) ?_
        refine lv_icmp_ne (tgt := 59) hx hb dX6_operand_52 (by decide) (fun c4 => ?_) (fun c4 => ?_)
        · have c4' := I_ne c4
          refine lv_iconst (v := 0) hx hb dX6_operand_59 (by decide) ?_
          exact hret 0 () H locs 60 ls rfl trivial hP hD hS dX6_operand_60
        · have c4' := I_eq c4
          refine lv_iconst (v := 1) hx hb dX6_operand_55 (by decide) ?_
          refine lv_goto (tgt := 60) hx hb dX6_operand_56 (by decide) ?_
          exact hret 1 () H locs 60 ls rfl trivial hP hD hS dX6_operand_60
      · have c3' := I_nlt c3
        refine lv_aload_n hx hb dX6_operand_40 rfl (lv_at hl 1 rfl) ?_
        refine lv_iload_n hx hb dX6_operand_41 rfl (lv_at hl 2 rfl) ?_
        refine lv_iload_n hx hb dX6_operand_42 rfl (lv_at hl 0 rfl) ?_
        refine lv_iadd hx hb dX6_operand_43 ?_
        refine lv_topi (fun v5 ev5 => ?_)
        try have hv5 : v5.toInt = fm.toInt + x.toInt := I_addx ev5 (by omega)
        refine lv_bipush (v := 14) hx hb dX6_operand_44 (by decide) ?_
        refine lv_isub hx hb dX6_operand_46 ?_
        refine lv_topi (fun v6 ev6 => ?_)
        try have hv6 : v6.toInt = v5.toInt - (14 : Int32).toInt := I_subx ev6 (by omega)
        refine va_iald (t0 := 0) hx hb hK hP 0 (ha := rfl) (ht := rfl) (I_in (by omega) (by omega)) dX6_operand_47 ?_
        refine lv_topi (fun v7 ev7 => ?_)
        exact hret v7 () H locs 48 ls rfl trivial hP hD hS dX6_operand_48
    · have c2' := I_nlt c2
      refine lv_iload_n hx hb dX6_operand_29 rfl (lv_at hl 0 rfl) ?_
      refine lv_bipush (v := 18) hx hb dX6_operand_30 (by decide) ?_
      refine lv_isub hx hb dX6_operand_32 ?_
      refine lv_topi (fun v8 ev8 => ?_)
      try have hv8 : v8.toInt = x.toInt - (18 : Int32).toInt := I_subx ev8 (by omega)
      exact hret v8 () H locs 33 ls rfl trivial hP hD hS dX6_operand_33
  · have c1' := I_nlt c1
    refine lv_aload_n hx hb dX6_operand_6 rfl (lv_at hl 1 rfl) ?_
    refine lv_iload_n hx hb dX6_operand_7 rfl (lv_at hl 2 rfl) ?_
    refine lv_iload_n hx hb dX6_operand_8 rfl (lv_at hl 0 rfl) ?_
    refine lv_iadd hx hb dX6_operand_9 ?_
    refine lv_topi (fun v9 ev9 => ?_)
    try have hv9 : v9.toInt = fm.toInt + x.toInt := I_addx ev9 (by omega)
    refine lv_bipush (v := 28) hx hb dX6_operand_10 (by decide) ?_
    refine lv_isub hx hb dX6_operand_12 ?_
    refine lv_topi (fun v10 ev10 => ?_)
    try have hv10 : v10.toInt = v9.toInt - (28 : Int32).toInt := I_subx ev10 (by omega)
    refine va_iald (t0 := 0) hx hb hK hP 0 (ha := rfl) (ht := rfl) (I_in (by omega) (by omega)) dX6_operand_13 ?_
    refine lv_topi (fun v11 ev11 => ?_)
    refine lv_if_eq (tgt := 21) hx hb dX6_operand_14 (by decide) (fun c12 => ?_) (fun c12 => ?_)
    · have c12' := I_eq c12
      refine lv_iconst (v := 0) hx hb dX6_operand_21 (by decide) ?_
      exact hret 0 () H locs 22 ls rfl trivial hP hD hS dX6_operand_22
    · have c12' := I_ne c12
      refine lv_iconst (v := 1) hx hb dX6_operand_17 (by decide) ?_
      refine lv_goto (tgt := 22) hx hb dX6_operand_18 (by decide) ?_
      exact hret 1 () H locs 22 ls rfl trivial hP hD hS dX6_operand_22
set_option maxHeartbeats 4000000 in
set_option maxRecDepth 100000 in
theorem c_X6_combine (l : Launch) (dC : Nat → ClassId) (dI : Nat → Nat → Nat) (cI cJ : ClassId) (base bB bO : Nat) (a : Nat) (as : Nat) (aw : Nat) (ak : Nat) (asc : Int32) (awc : Int32) (aht : Int32) (afi : Int32) (amd : Int32) (akf : Nat → Int32) (x : Int32) (lf : Int32) (hq0 : 0 ≤ aht.toInt ∧ aht.toInt ≤ 12) (hx0 : (2 ≤ x.toInt ∧ x.toInt ≤ 8) ∨ x.toInt = 11) (hx1 : 0 ≤ lf.toInt ∧ lf.toInt + 1 ≤ aht.toInt ∧ (¬ x.toInt = 11 ∨ lf.toInt + 3 ≤ aht.toInt)) : CtL l dC dI cI cJ base bB bO yX6_combine cX6_combine 5 0 0 [.ref a, .int x, .int lf] [(a, .inr (5, [.ref as, .ref aw, .ref ak, .int asc, .int awc, .int aht, .int afi, .int amd])), (ak, .inl (cI, 12, .inl akf))] (Unit) (fun (res : Int64) (u : Unit) => True) (fun (u : Unit) => [(a, .inr (5, [.ref as, .ref aw, .ref ak, .int asc, .int awc, .int aht, .int afi, .int amd])), (ak, .inl (cI, 12, .inl akf))]) := by
  refine entL (by decide) (Nat.le_of_ble_eq_true rfl) ?_
  intro p e s m below meth c A Q ls hAt hret hP hD hS hl
  obtain ⟨hx, hb, hml, hown, hts, hA, hAb, hK, hE, hlocks, hin⟩ := hAt
  have hG : CG dC dI cI cJ base bB bO cX6_combine 5 RX6 p s m (List.toArray [.ref a, .int x, .int lf]) c A := ⟨hx, hb, hml, hown, hts, hA, hAb, hK, hE⟩
  have hl : lv_has ls 5 [(0, .ref a), (1, .int x), (2, .int lf)] := hl
  have c_0 : (0 : Int32).toInt = 0 := by decide
  have c_1 : (1 : Int32).toInt = 1 := by decide
  have c_2 : (2 : Int32).toInt = 2 := by decide
  have cl_0 : (0 : Int64).toInt = 0 := by decide
  have cl_1 : (1 : Int64).toInt = 1 := by decide
  obtain ⟨H, hHe⟩ : ∃ H : Heap, H = s.heap := ⟨_, rfl⟩
  obtain ⟨locs, hle⟩ : ∃ z : List Loc, z = [] := ⟨_, rfl⟩
  rw [← hHe] at hP
  have hS : va_S A s.heap H locs := by rw [hHe, hle]; exact hS
  suffices hgo : W p l e { frames := 0, cells := 0, slots := 0, locals := 0 } s m (List.toArray [.ref a, .int x, .int lf]) below meth c H locs 0 0 Q (F0 m 0 ls []) by rw [hHe, hle] at hgo; exact hgo
  refine lv_aload_n hx hb dX6_combine_0 rfl (lv_at hl 0 rfl) ?_
  refine va_get (D := (dC, dI)) (ci := 5) (v := .ref ak) (C := RX6) (T := TX6) (N := 8) hx hb hts inG_X6 hown hK hP 0 rfl rfl 2 (by decide) (hts _ fl_X6_18) (fun _ h9 => h9) rfl dX6_combine_1 ?_
  refine lv_iload_n hx hb dX6_combine_4 rfl (lv_at hl 2 rfl) ?_
  refine va_iald (t0 := 0) hx hb hK hP 1 (ha := rfl) (ht := rfl) (I_in (by omega) (by omega)) dX6_combine_5 ?_
  refine lv_topi (fun v1 ev1 => ?_)
  refine lv_istore_n (lv' := [(3, .int v1), (0, .ref a), (1, .int x), (2, .int lf)]) hx hb dX6_combine_6 rfl hl (by decide) rfl (fun ls hl => ?_)
  refine lv_aload_n hx hb dX6_combine_7 rfl (lv_at hl 1 rfl) ?_
  refine va_get (D := (dC, dI)) (ci := 5) (v := .ref ak) (C := RX6) (T := TX6) (N := 8) hx hb hts inG_X6 hown hK hP 0 rfl rfl 2 (by decide) (hts _ fl_X6_18) (fun _ h9 => h9) rfl dX6_combine_8 ?_
  refine lv_aload_n hx hb dX6_combine_11 rfl (lv_at hl 1 rfl) ?_
  refine va_get (D := (dC, dI)) (ci := 5) (v := .int aht) (C := RX6) (T := TX6) (N := 8) hx hb hts inG_X6 hown hK hP 0 rfl rfl 5 (by decide) (hts _ fl_X6_28) (fun _ h9 => h9) rfl dX6_combine_12 ?_
  refine lv_iconst (v := 1) hx hb dX6_combine_15 (by decide) ?_
  refine lv_isub hx hb dX6_combine_16 ?_
  refine lv_topi (fun v2 ev2 => ?_)
  try have hv2 : v2.toInt = aht.toInt - (1 : Int32).toInt := I_subx ev2 (by omega)
  refine va_iald (t0 := 0) hx hb hK hP 1 (ha := rfl) (ht := rfl) (I_in (by omega) (by omega)) dX6_combine_17 ?_
  refine lv_topi (fun v3 ev3 => ?_)
  refine lv_istore (lv' := [(4, .int v3), (3, .int v1), (0, .ref a), (1, .int x), (2, .int lf)]) hx hb dX6_combine_18 hl (by decide) rfl (fun ls hl => ?_)
  refine lv_iload_n hx hb dX6_combine_20 rfl (lv_at hl 3 rfl) ?_
  rcases (by omega : x.toInt = 2 ∨ x.toInt = 3 ∨ x.toInt = 4 ∨ x.toInt = 5 ∨ x.toInt = 6 ∨ x.toInt = 7 ∨ x.toInt = 8 ∨ (x.toInt < 2 ∨ 8 < x.toInt)) with c4 | c4 | c4 | c4 | c4 | c4 | c4 | c4
  · refine lv_tableIn (off := 43) (tgt := 64) hx hb dX6_combine_21 (by omega) (by omega) (by rw [c4]; rfl) (by decide) ?_
    refine lv_iload_n hx hb dX6_combine_64 rfl (lv_at hl 1 rfl) ?_
    refine lv_iload hx hb dX6_combine_65 (lv_at hl 0 rfl) ?_
    refine lv_iadd hx hb dX6_combine_67 ?_
    refine lv_topi (fun v5 ev5 => ?_)
    try have hv5 : v5.toInt = v1.toInt + v3.toInt := I_addx ev5 (by omega)
    obtain ⟨w6, ew6⟩ : ∃ z : Int64, Int32.toInt64 v5 = z := ⟨_, rfl⟩
    have hw6 := J_of v5
    rw [ew6] at hw6
    refine lv_i2l (v := w6) hx hb dX6_combine_68 ew6 ?_
    exact hret w6 () H locs 69 ls trivial hP hD hS dX6_combine_69
  · refine lv_tableIn (off := 49) (tgt := 70) hx hb dX6_combine_21 (by omega) (by omega) (by rw [c4]; rfl) (by decide) ?_
    refine lv_iload_n hx hb dX6_combine_70 rfl (lv_at hl 1 rfl) ?_
    refine lv_iload hx hb dX6_combine_71 (lv_at hl 0 rfl) ?_
    refine lv_isub hx hb dX6_combine_73 ?_
    refine lv_topi (fun v7 ev7 => ?_)
    try have hv7 : v7.toInt = v1.toInt - v3.toInt := I_subx ev7 (by omega)
    obtain ⟨w8, ew8⟩ : ∃ z : Int64, Int32.toInt64 v7 = z := ⟨_, rfl⟩
    have hw8 := J_of v7
    rw [ew8] at hw8
    refine lv_i2l (v := w8) hx hb dX6_combine_74 ew8 ?_
    exact hret w8 () H locs 75 ls trivial hP hD hS dX6_combine_75
  · refine lv_tableIn (off := 55) (tgt := 76) hx hb dX6_combine_21 (by omega) (by omega) (by rw [c4]; rfl) (by decide) ?_
    refine lv_iload_n hx hb dX6_combine_76 rfl (lv_at hl 1 rfl) ?_
    obtain ⟨w9, ew9⟩ : ∃ z : Int64, Int32.toInt64 v1 = z := ⟨_, rfl⟩
    have hw9 := J_of v1
    rw [ew9] at hw9
    refine lv_i2l (v := w9) hx hb dX6_combine_77 ew9 ?_
    refine lv_iload hx hb dX6_combine_78 (lv_at hl 0 rfl) ?_
    obtain ⟨w10, ew10⟩ : ∃ z : Int64, Int32.toInt64 v3 = z := ⟨_, rfl⟩
    have hw10 := J_of v3
    rw [ew10] at hw10
    refine lv_i2l (v := w10) hx hb dX6_combine_80 ew10 ?_
    refine lv_lmul hx hb dX6_combine_81 ?_
    refine lv_topl (fun w11 ew11 => ?_)
    exact hret w11 () H locs 82 ls trivial hP hD hS dX6_combine_82
  · refine lv_tableIn (off := 62) (tgt := 83) hx hb dX6_combine_21 (by omega) (by omega) (by rw [c4]; rfl) (by decide) ?_
    refine lv_iload_n hx hb dX6_combine_83 rfl (lv_at hl 1 rfl) ?_
    refine lv_iload hx hb dX6_combine_84 (lv_at hl 0 rfl) ?_
    refine lv_icmp_ge (tgt := 93) hx hb dX6_combine_86 (by decide) (fun c12 => ?_) (fun c12 => ?_)
    · have c12' := I_le c12
      refine lv_lconst (v := 0) hx hb dX6_combine_93 (by decide) ?_
      exact hret 0 () H locs 94 ls trivial hP hD hS dX6_combine_94
    · have c12' := I_nle c12
      refine lv_lconst (v := 1) hx hb dX6_combine_89 (by decide) ?_
      refine lv_goto (tgt := 94) hx hb dX6_combine_90 (by decide) ?_
      exact hret 1 () H locs 94 ls trivial hP hD hS dX6_combine_94
  · refine lv_tableIn (off := 74) (tgt := 95) hx hb dX6_combine_21 (by omega) (by omega) (by rw [c4]; rfl) (by decide) ?_
    refine lv_iload_n hx hb dX6_combine_95 rfl (lv_at hl 1 rfl) ?_
    refine lv_iload hx hb dX6_combine_96 (lv_at hl 0 rfl) ?_
    refine lv_icmp_ne (tgt := 105) hx hb dX6_combine_98 (by decide) (fun c13 => ?_) (fun c13 => ?_)
    · have c13' := I_ne c13
      refine lv_lconst (v := 0) hx hb dX6_combine_105 (by decide) ?_
      exact hret 0 () H locs 106 ls trivial hP hD hS dX6_combine_106
    · have c13' := I_eq c13
      refine lv_lconst (v := 1) hx hb dX6_combine_101 (by decide) ?_
      refine lv_goto (tgt := 106) hx hb dX6_combine_102 (by decide) ?_
      exact hret 1 () H locs 106 ls trivial hP hD hS dX6_combine_106
  · refine lv_tableIn (off := 86) (tgt := 107) hx hb dX6_combine_21 (by omega) (by omega) (by rw [c4]; rfl) (by decide) ?_
    refine lv_iload_n hx hb dX6_combine_107 rfl (lv_at hl 1 rfl) ?_
    refine lv_iload hx hb dX6_combine_108 (lv_at hl 0 rfl) ?_
    refine lv_iand hx hb dX6_combine_110 ?_
    refine lv_topi (fun v14 ev14 => ?_)
    obtain ⟨w15, ew15⟩ : ∃ z : Int64, Int32.toInt64 v14 = z := ⟨_, rfl⟩
    have hw15 := J_of v14
    rw [ew15] at hw15
    refine lv_i2l (v := w15) hx hb dX6_combine_111 ew15 ?_
    exact hret w15 () H locs 112 ls trivial hP hD hS dX6_combine_112
  · refine lv_tableIn (off := 92) (tgt := 113) hx hb dX6_combine_21 (by omega) (by omega) (by rw [c4]; rfl) (by decide) ?_
    refine lv_iconst (v := 1) hx hb dX6_combine_113 (by decide) ?_
    refine lv_iload_n hx hb dX6_combine_114 rfl (lv_at hl 1 rfl) ?_
    refine lv_isub hx hb dX6_combine_115 ?_
    refine lv_topi (fun v16 ev16 => ?_)
    try have hv16 : v16.toInt = (1 : Int32).toInt - v1.toInt := I_subx ev16 (by omega)
    obtain ⟨w17, ew17⟩ : ∃ z : Int64, Int32.toInt64 v16 = z := ⟨_, rfl⟩
    have hw17 := J_of v16
    rw [ew17] at hw17
    refine lv_i2l (v := w17) hx hb dX6_combine_116 ew17 ?_
    exact hret w17 () H locs 117 ls trivial hP hD hS dX6_combine_117
  · refine lv_tableOut (tgt := 118) hx hb dX6_combine_21 c4 (by decide) ?_
    refine lv_iload_n hx hb dX6_combine_118 rfl (lv_at hl 1 rfl) ?_
    refine lv_if_eq (tgt := 137) hx hb dX6_combine_119 (by decide) (fun c18 => ?_) (fun c18 => ?_)
    · have c18' := I_eq c18
      refine lv_iload hx hb dX6_combine_137 (lv_at hl 0 rfl) ?_
      obtain ⟨w19, ew19⟩ : ∃ z : Int64, Int32.toInt64 v3 = z := ⟨_, rfl⟩
      have hw19 := J_of v3
      rw [ew19] at hw19
      refine lv_i2l (v := w19) hx hb dX6_combine_139 ew19 ?_
      exact hret w19 () H locs 140 ls trivial hP hD hS dX6_combine_140
    · have c18' := I_ne c18
      refine lv_aload_n hx hb dX6_combine_122 rfl (lv_at hl 2 rfl) ?_
      refine va_get (D := (dC, dI)) (ci := 5) (v := .ref ak) (C := RX6) (T := TX6) (N := 8) hx hb hts inG_X6 hown hK hP 0 rfl rfl 2 (by decide) (hts _ fl_X6_18) (fun _ h9 => h9) rfl dX6_combine_123 ?_
      refine lv_aload_n hx hb dX6_combine_126 rfl (lv_at hl 2 rfl) ?_
      refine va_get (D := (dC, dI)) (ci := 5) (v := .int aht) (C := RX6) (T := TX6) (N := 8) hx hb hts inG_X6 hown hK hP 0 rfl rfl 5 (by decide) (hts _ fl_X6_28) (fun _ h9 => h9) rfl dX6_combine_127 ?_
      refine lv_iconst (v := 2) hx hb dX6_combine_130 (by decide) ?_
      refine lv_isub hx hb dX6_combine_131 ?_
      refine lv_topi (fun v20 ev20 => ?_)
      try have hv20 : v20.toInt = aht.toInt - (2 : Int32).toInt := I_subx ev20 (by omega)
      refine va_iald (t0 := 0) hx hb hK hP 1 (ha := rfl) (ht := rfl) (I_in (by omega) (by omega)) dX6_combine_132 ?_
      refine lv_topi (fun v21 ev21 => ?_)
      obtain ⟨w22, ew22⟩ : ∃ z : Int64, Int32.toInt64 v21 = z := ⟨_, rfl⟩
      have hw22 := J_of v21
      rw [ew22] at hw22
      refine lv_i2l (v := w22) hx hb dX6_combine_133 ew22 ?_
      refine lv_goto (tgt := 140) hx hb dX6_combine_134 (by decide) ?_
      exact hret w22 () H locs 140 ls trivial hP hD hS dX6_combine_140
set_option maxHeartbeats 4000000 in
set_option maxRecDepth 100000 in
theorem c_X6_work (l : Launch) (dC : Nat → ClassId) (dI : Nat → Nat → Nat) (cI cJ : ClassId) (base bB bO : Nat) (a : Nat) (as : Nat) (aw : Nat) (ak : Nat) (asc : Int32) (awc : Int32) (aht : Int32) (afi : Int32) (amd : Int32) (asf : Nat → Int32) (akf : Nat → Int32) (nb : Nat) (nbf : Nat → Int32) (fm : Int32) (hq0 : 0 ≤ asc.toInt ∧ asc.toInt ≤ 12) (hq1 : stOK asf asc) : CtI l dC dI cI cJ base bB bO yX6_work cX6_work 8 .int 1 24 [.ref a, .ref nb, .int fm] [(a, .inr (5, [.ref as, .ref aw, .ref ak, .int asc, .int awc, .int aht, .int afi, .int amd])), (as, .inl (cI, 12, .inl asf)), (ak, .inl (cI, 12, .inl akf)), (nb, .inl (cI, 4, .inl nbf))] ((Int32) × (Nat → Int32)) (fun (res : Int32) (u : (Int32) × (Nat → Int32)) => (0 ≤ u.1.toInt ∧ u.1.toInt ≤ 12 ∨ u.1.toInt = aht.toInt) ∧ True) (fun (u : (Int32) × (Nat → Int32)) => [(a, .inr (5, [.ref as, .ref aw, .ref ak, .int asc, .int awc, .int u.1, .int afi, .int amd])), (as, .inl (cI, 12, .inl asf)), (ak, .inl (cI, 12, .inl u.2)), (nb, .inl (cI, 4, .inl nbf))]) := by
  refine entI (by decide) (Nat.le_of_ble_eq_true rfl) ?_
  intro p e s m below meth c A Q ls hAt hret hP hD hS hl
  obtain ⟨hx, hb, hml, hown, hts, hA, hAb, hK, hE, hlocks, hin⟩ := hAt
  have hG : CG dC dI cI cJ base bB bO cX6_work 8 RX6 p s m (List.toArray [.ref a, .ref nb, .int fm]) c A := ⟨hx, hb, hml, hown, hts, hA, hAb, hK, hE⟩
  have hl : lv_has ls 8 [(0, .ref a), (1, .ref nb), (2, .int fm)] := hl
  obtain ⟨hE1, hE2, hE3, hE4, hE5, hX6, hX7, -⟩ := id hE
  have hEB := hE4.narrow hAb
  have hEO := hE5.narrow hAb
  have hXB := hX6.narrow hAb
  have hXO := hX7.narrow hAb
  have c_m2000000 : (-2000000 : Int32).toInt = -2000000 := by decide
  have c_m1 : (-1 : Int32).toInt = -1 := by decide
  have c_0 : (0 : Int32).toInt = 0 := by decide
  have c_1 : (1 : Int32).toInt = 1 := by decide
  have c_4 : (4 : Int32).toInt = 4 := by decide
  have c_12 : (12 : Int32).toInt = 12 := by decide
  obtain ⟨H, hHe⟩ : ∃ H : Heap, H = s.heap := ⟨_, rfl⟩
  obtain ⟨locs, hle⟩ : ∃ z : List Loc, z = [] := ⟨_, rfl⟩
  rw [← hHe] at hP
  have hS : va_S A s.heap H locs := by rw [hHe, hle]; exact hS
  suffices hgo : W p l e { frames := 1, cells := 0, slots := 0, locals := 24 } s m (List.toArray [.ref a, .ref nb, .int fm]) below meth c H locs 0 0 Q (F0 m 0 ls []) by rw [hHe, hle] at hgo; exact hgo
  refine lv_aload_n hx hb dX6_work_0 rfl (lv_at hl 0 rfl) ?_
  refine va_get (D := (dC, dI)) (ci := 5) (v := .int amd) (C := RX6) (T := TX6) (N := 8) hx hb hts inG_X6 hown hK hP 0 rfl rfl 7 (by decide) (hts _ fl_X6_35) (fun _ h9 => h9) rfl dX6_work_1 ?_
  refine lv_iconst (v := (-1)) hx hb dX6_work_4 (by decide) ?_
  refine lv_icmp_eq (tgt := 20) hx hb dX6_work_5 (by decide) (fun c1 => ?_) (fun c1 => ?_)
  · have c1' := I_eq c1
    refine lv_ldc (v := (-2000000)) hx hb hown (hts _ k_X6_74) dX6_work_20 ?_
    exact hret (-2000000) (aht, akf) H locs 22 ls rfl ⟨(show 0 ≤ aht.toInt ∧ aht.toInt ≤ 12 ∨ aht.toInt = aht.toInt from by first | rfl | assumption | omega), trivial⟩ hP hD hS dX6_work_22
  · have c1' := I_ne c1
    refine lv_iload_n hx hb dX6_work_8 rfl (lv_at hl 2 rfl) ?_
    refine lv_if_lt (tgt := 20) hx hb dX6_work_9 (by decide) (fun c2 => ?_) (fun c2 => ?_)
    · have c2' := I_lt c2
      refine lv_ldc (v := (-2000000)) hx hb hown (hts _ k_X6_74) dX6_work_20 ?_
      exact hret (-2000000) (aht, akf) H locs 22 ls rfl ⟨(show 0 ≤ aht.toInt ∧ aht.toInt ≤ 12 ∨ aht.toInt = aht.toInt from by first | rfl | assumption | omega), trivial⟩ hP hD hS dX6_work_22
    · have c2' := I_nlt c2
      refine lv_iload_n hx hb dX6_work_12 rfl (lv_at hl 2 rfl) ?_
      refine lv_aload_n hx hb dX6_work_13 rfl (lv_at hl 1 rfl) ?_
      refine va_alen hx hb hK hP 3 0 (ha := rfl) (ht := rfl) (v := 4) rfl dX6_work_14 ?_
      refine lv_iconst (v := 4) hx hb dX6_work_15 (by decide) ?_
      refine lv_isub hx hb dX6_work_16 ?_
      refine lv_topi (fun v3 ev3 => ?_)
      try have hv3 : v3.toInt = (4 : Int32).toInt - (4 : Int32).toInt := I_subx ev3 (by omega)
      refine lv_icmp_le (tgt := 23) hx hb dX6_work_17 (by decide) (fun c4 => ?_) (fun c4 => ?_)
      · have c4' := I_le c4
        refine lv_aload_n hx hb dX6_work_23 rfl (lv_at hl 0 rfl) ?_
        refine lv_iconst (v := 0) hx hb dX6_work_24 (by decide) ?_
        refine va_put (D := (dC, dI)) (ci := 5) (v := .int 0) (ty := .int) (C := RX6) (T := TX6) (N := 8) hx hb hts inG_X6 tyX6 tyX6_ok nmX6 hown hK hP hD hS 0 rfl rfl 5 (by decide) (hts _ fl_X6_28) (fun _ h9 => h9) rfl (by decide +kernel) rfl rfl (Nat.le_of_ble_eq_true rfl) dX6_work_25 (fun H locs hP hD hS => ?_)
        have hP : va_P (dC, dI) vwCl [(a, .inr (5, [.ref as, .ref aw, .ref ak, .int asc, .int awc, .int 0, .int afi, .int amd])), (as, .inl (cI, 12, .inl asf)), (ak, .inl (cI, 12, .inl akf)), (nb, .inl (cI, 4, .inl nbf))] H := hP
        have hD : va_D A [(a, .inr (5, [.ref as, .ref aw, .ref ak, .int asc, .int awc, .int 0, .int afi, .int amd])), (as, .inl (cI, 12, .inl asf)), (ak, .inl (cI, 12, .inl akf)), (nb, .inl (cI, 4, .inl nbf))] := hD
        refine lv_iconst (v := 0) hx hb dX6_work_28 (by decide) ?_
        refine lv_istore_n (lv' := [(3, .int 0), (0, .ref a), (1, .ref nb), (2, .int fm)]) hx hb dX6_work_29 rfl hl (by decide) rfl (fun ls hl => ?_)
        have J30 : ∀ (n : Nat) (L3_30 : Int32) (aht_30 : Int32) (akf_30 : Nat → Int32), (0 ≤ L3_30.toInt ∧ L3_30.toInt ≤ 12) → (0 ≤ aht_30.toInt ∧ aht_30.toInt ≤ 12) → (12 - L3_30.toInt) < (n : Int) → ∀ (H : Heap) (locs : List Loc) (ls : Array Slot), va_P (dC, dI) vwCl [(a, .inr (5, [.ref as, .ref aw, .ref ak, .int asc, .int awc, .int aht_30, .int afi, .int amd])), (as, .inl (cI, 12, .inl asf)), (ak, .inl (cI, 12, .inl akf_30)), (nb, .inl (cI, 4, .inl nbf))] H → va_D A [(a, .inr (5, [.ref as, .ref aw, .ref ak, .int asc, .int awc, .int aht_30, .int afi, .int amd])), (as, .inl (cI, 12, .inl asf)), (ak, .inl (cI, 12, .inl akf_30)), (nb, .inl (cI, 4, .inl nbf))] → va_S A s.heap H locs → lv_has ls 8 [(3, .int L3_30), (0, .ref a), (1, .ref nb), (2, .int fm)] → W p l e { frames := 1, cells := 0, slots := 0, locals := 24 } s m (List.toArray [.ref a, .ref nb, .int fm]) below meth c H locs 0 0 Q (F0 m 30 ls []) := by
          intro n
          induction n with
          | zero =>
            intro L3_30 aht_30 akf_30 hi0_30 hi1_30 hm
            exact absurd hm (by omega)
          | succ n ih30 =>
            intro L3_30 aht_30 akf_30 hi0_30 hi1_30 hm30 H locs ls hP hD hS hl
            refine lv_iload_n hx hb dX6_work_30 rfl (lv_at hl 0 rfl) ?_
            refine lv_aload_n hx hb dX6_work_31 rfl (lv_at hl 1 rfl) ?_
            refine va_get (D := (dC, dI)) (ci := 5) (v := .int asc) (C := RX6) (T := TX6) (N := 8) hx hb hts inG_X6 hown hK hP 0 rfl rfl 3 (by decide) (hts _ fl_X6_21) (fun _ h9 => h9) rfl dX6_work_32 ?_
            refine lv_icmp_ge (tgt := 151) hx hb dX6_work_35 (by decide) (fun c5 => ?_) (fun c5 => ?_)
            · have c5' := I_le c5
              refine lv_aload_n hx hb dX6_work_151 rfl (lv_at hl 1 rfl) ?_
              refine va_get (D := (dC, dI)) (ci := 5) (v := .int aht_30) (C := RX6) (T := TX6) (N := 8) hx hb hts inG_X6 hown hK hP 0 rfl rfl 5 (by decide) (hts _ fl_X6_28) (fun _ h9 => h9) rfl dX6_work_152 ?_
              refine lv_iconst (v := 1) hx hb dX6_work_155 (by decide) ?_
              refine lv_icmp_ne (tgt := 168) hx hb dX6_work_156 (by decide) (fun c6 => ?_) (fun c6 => ?_)
              · have c6' := I_ne c6
                refine lv_ldc (v := (-2000000)) hx hb hown (hts _ k_X6_74) dX6_work_168 ?_
                exact hret (-2000000) (aht_30, akf_30) H locs 170 ls rfl ⟨(show 0 ≤ aht_30.toInt ∧ aht_30.toInt ≤ 12 ∨ aht_30.toInt = aht.toInt from by first | rfl | assumption | omega), trivial⟩ hP hD hS dX6_work_170
              · have c6' := I_eq c6
                refine lv_aload_n hx hb dX6_work_159 rfl (lv_at hl 1 rfl) ?_
                refine va_get (D := (dC, dI)) (ci := 5) (v := .ref ak) (C := RX6) (T := TX6) (N := 8) hx hb hts inG_X6 hown hK hP 0 rfl rfl 2 (by decide) (hts _ fl_X6_18) (fun _ h9 => h9) rfl dX6_work_160 ?_
                refine lv_iconst (v := 0) hx hb dX6_work_163 (by decide) ?_
                refine va_iald (t0 := 0) hx hb hK hP 2 (ha := rfl) (ht := rfl) (I_in (by omega) (by omega)) dX6_work_164 ?_
                refine lv_topi (fun v7 ev7 => ?_)
                refine lv_goto (tgt := 170) hx hb dX6_work_165 (by decide) ?_
                exact hret v7 (aht_30, akf_30) H locs 170 ls rfl ⟨(show 0 ≤ aht_30.toInt ∧ aht_30.toInt ≤ 12 ∨ aht_30.toInt = aht.toInt from by first | rfl | assumption | omega), trivial⟩ hP hD hS dX6_work_170
            · have c5' := I_nle c5
              refine lv_aload_n hx hb dX6_work_38 rfl (lv_at hl 1 rfl) ?_
              refine va_get (D := (dC, dI)) (ci := 5) (v := .ref as) (C := RX6) (T := TX6) (N := 8) hx hb hts inG_X6 hown hK hP 0 rfl rfl 0 (by decide) (hts _ fl_X6_9) (fun _ h9 => h9) rfl dX6_work_39 ?_
              refine lv_iload_n hx hb dX6_work_42 rfl (lv_at hl 0 rfl) ?_
              refine va_iald (t0 := 0) hx hb hK hP 1 (ha := rfl) (ht := rfl) (I_in (by omega) (by omega)) dX6_work_43 ?_
              refine lv_topi (fun v8 ev8 => ?_)
              have hso := stOK_get (by assumption : stOK asf asc) ev8 (by omega) (by omega)
              unfold sOK at hso
              refine lv_istore (lv' := [(4, .int v8), (3, .int L3_30), (0, .ref a), (1, .ref nb), (2, .int fm)]) hx hb dX6_work_44 hl (by decide) rfl (fun ls hl => ?_)
              have J73 : ∀ (L5_73 : Int32), ((v8.toInt < 12 ∧ L5_73.toInt + 1 ≤ aht_30.toInt ∧ (¬ v8.toInt = 11 ∨ L5_73.toInt + 3 ≤ aht_30.toInt)) ∨ (12 ≤ v8.toInt ∧ L5_73.toInt = aht_30.toInt)) → ∀ (H : Heap) (locs : List Loc) (ls : Array Slot), va_P (dC, dI) vwCl [(a, .inr (5, [.ref as, .ref aw, .ref ak, .int asc, .int awc, .int aht_30, .int afi, .int amd])), (as, .inl (cI, 12, .inl asf)), (ak, .inl (cI, 12, .inl akf_30)), (nb, .inl (cI, 4, .inl nbf))] H → va_D A [(a, .inr (5, [.ref as, .ref aw, .ref ak, .int asc, .int awc, .int aht_30, .int afi, .int amd])), (as, .inl (cI, 12, .inl asf)), (ak, .inl (cI, 12, .inl akf_30)), (nb, .inl (cI, 4, .inl nbf))] → va_S A s.heap H locs → lv_has ls 8 [(4, .int v8), (3, .int L3_30), (0, .ref a), (1, .ref nb), (2, .int fm), (5, .int L5_73)] → W p l e { frames := 1, cells := 0, slots := 0, locals := 24 } s m (List.toArray [.ref a, .ref nb, .int fm]) below meth c H locs 0 0 Q (F0 m 73 ls []) := by
                intro L5_73 hi0_73 H locs ls hP hD hS hl
                refine lv_iload hx hb dX6_work_73 (lv_at hl 5 rfl) ?_
                refine lv_if_lt (tgt := 85) hx hb dX6_work_75 (by decide) (fun c9 => ?_) (fun c9 => ?_)
                · have c9' := I_lt c9
                  refine lv_ldc (v := (-2000000)) hx hb hown (hts _ k_X6_74) dX6_work_85 ?_
                  exact hret (-2000000) (aht_30, akf_30) H locs 87 ls rfl ⟨(show 0 ≤ aht_30.toInt ∧ aht_30.toInt ≤ 12 ∨ aht_30.toInt = aht.toInt from by first | rfl | assumption | omega), trivial⟩ hP hD hS dX6_work_87
                · have c9' := I_nlt c9
                  refine lv_iload hx hb dX6_work_78 (lv_at hl 5 rfl) ?_
                  refine lv_bipush (v := 12) hx hb dX6_work_80 (by decide) ?_
                  refine lv_icmp_lt (tgt := 88) hx hb dX6_work_82 (by decide) (fun c10 => ?_) (fun c10 => ?_)
                  · have c10' := I_lt c10
                    have J114 : ∀ (S0_114 : Int64), ∀ (H : Heap) (locs : List Loc) (ls : Array Slot), va_P (dC, dI) vwCl [(a, .inr (5, [.ref as, .ref aw, .ref ak, .int asc, .int awc, .int aht_30, .int afi, .int amd])), (as, .inl (cI, 12, .inl asf)), (ak, .inl (cI, 12, .inl akf_30)), (nb, .inl (cI, 4, .inl nbf))] H → va_D A [(a, .inr (5, [.ref as, .ref aw, .ref ak, .int asc, .int awc, .int aht_30, .int afi, .int amd])), (as, .inl (cI, 12, .inl asf)), (ak, .inl (cI, 12, .inl akf_30)), (nb, .inl (cI, 4, .inl nbf))] → va_S A s.heap H locs → lv_has ls 8 [(4, .int v8), (3, .int L3_30), (0, .ref a), (1, .ref nb), (2, .int fm), (5, .int L5_73)] → W p l e { frames := 1, cells := 0, slots := 0, locals := 24 } s m (List.toArray [.ref a, .ref nb, .int fm]) below meth c H locs 0 0 Q (F0 m 114 ls [.long S0_114]) := by
                      intro S0_114 H locs ls hP hD hS hl
                      refine lv_lstore (lv' := [(6, .long S0_114), (4, .int v8), (3, .int L3_30), (0, .ref a), (1, .ref nb), (2, .int fm), (5, .int L5_73)]) hx hb dX6_work_114 hl (by decide) rfl (fun ls hl => ?_)
                      refine lv_lload hx hb dX6_work_116 (lv_at hl 0 rfl) ?_
                      refine calNI (rest := []) (wr := [(a, .inr (5, [.ref as, .ref aw, .ref ak, .int asc, .int awc, .int aht_30, .int afi, .int amd])), (as, .inl (cI, 12, .inl asf)), (ak, .inl (cI, 12, .inl akf_30)), (nb, .inl (cI, 4, .inl nbf))]) hG (c_X8_isTooFar l dC dI cI cJ base bB bO S0_114 ) nl_X6_83 st_X8_isTooFar ini_X8 cd_X8_isTooFar hd_X8_isTooFar.2 ⟨(Nat.le_of_ble_eq_true rfl), (Nat.le_of_ble_eq_true rfl)⟩ (Nat.le_of_ble_eq_true rfl) (Nat.le_of_ble_eq_true rfl) hP hD hS [] [0, 1, 2, 3] rfl rfl rfl rfl (by decide) hl.1 rfl (Nat.le_of_ble_eq_true rfl) dX6_work_118 (fun r11 u H locs hw12 hP hD hS => ?_)
                      have hw12 : ((r11.toInt = 1 ∧ (1000000 < S0_114.toInt ∨ S0_114.toInt < -1000000)) ∨ (r11.toInt = 0 ∧ -1000000 ≤ S0_114.toInt ∧ S0_114.toInt ≤ 1000000)) ∧ True := hw12
                      obtain ⟨hp13, -⟩ := hw12
                      have hP : va_P (dC, dI) vwCl [(a, .inr (5, [.ref as, .ref aw, .ref ak, .int asc, .int awc, .int aht_30, .int afi, .int amd])), (as, .inl (cI, 12, .inl asf)), (ak, .inl (cI, 12, .inl akf_30)), (nb, .inl (cI, 4, .inl nbf))] H := hP
                      have hD : va_D A [(a, .inr (5, [.ref as, .ref aw, .ref ak, .int asc, .int awc, .int aht_30, .int afi, .int amd])), (as, .inl (cI, 12, .inl asf)), (ak, .inl (cI, 12, .inl akf_30)), (nb, .inl (cI, 4, .inl nbf))] := hD
                      refine lv_if_eq (tgt := 127) hx hb dX6_work_121 (by decide) (fun c14 => ?_) (fun c14 => ?_)
                      · have c14' := I_eq c14
                        refine lv_aload_n hx hb dX6_work_127 rfl (lv_at hl 3 rfl) ?_
                        refine va_get (D := (dC, dI)) (ci := 5) (v := .ref ak) (C := RX6) (T := TX6) (N := 8) hx hb hts inG_X6 hown hK hP 0 rfl rfl 2 (by decide) (hts _ fl_X6_18) (fun _ h9 => h9) rfl dX6_work_128 ?_
                        refine lv_iload hx hb dX6_work_131 (lv_at hl 6 rfl) ?_
                        refine lv_lload hx hb dX6_work_133 (lv_at hl 0 rfl) ?_
                        obtain ⟨v15, ev15⟩ : ∃ z : Int32, Int64.toInt32 S0_114 = z := ⟨_, rfl⟩
                        refine lv_l2i (v := v15) hx hb dX6_work_135 ev15 ?_
                        refine va_iast (t0 := 0) hx hb hK hP hD hS 2 (ha := rfl) (ht := rfl) (I_in (by omega) (by omega)) dX6_work_136 (fun H locs hP hD hS => ?_)
                        have hP : va_P (dC, dI) vwCl [(a, .inr (5, [.ref as, .ref aw, .ref ak, .int asc, .int awc, .int aht_30, .int afi, .int amd])), (as, .inl (cI, 12, .inl asf)), (ak, .inl (cI, 12, .inl (upd akf_30 L5_73.toNatClampNeg v15))), (nb, .inl (cI, 4, .inl nbf))] H := hP
                        have hD : va_D A [(a, .inr (5, [.ref as, .ref aw, .ref ak, .int asc, .int awc, .int aht_30, .int afi, .int amd])), (as, .inl (cI, 12, .inl asf)), (ak, .inl (cI, 12, .inl (upd akf_30 L5_73.toNatClampNeg v15))), (nb, .inl (cI, 4, .inl nbf))] := hD
                        generalize ef16 : upd akf_30 L5_73.toNatClampNeg v15 = f16 at hP hD
                        refine lv_aload_n hx hb dX6_work_137 rfl (lv_at hl 3 rfl) ?_
                        refine lv_iload hx hb dX6_work_138 (lv_at hl 6 rfl) ?_
                        refine lv_iconst (v := 1) hx hb dX6_work_140 (by decide) ?_
                        refine lv_iadd hx hb dX6_work_141 ?_
                        refine lv_topi (fun v17 ev17 => ?_)
                        try have hv17 : v17.toInt = L5_73.toInt + (1 : Int32).toInt := I_addx ev17 (by omega)
                        refine va_put (D := (dC, dI)) (ci := 5) (v := .int v17) (ty := .int) (C := RX6) (T := TX6) (N := 8) hx hb hts inG_X6 tyX6 tyX6_ok nmX6 hown hK hP hD hS 0 rfl rfl 5 (by decide) (hts _ fl_X6_28) (fun _ h9 => h9) rfl (by decide +kernel) rfl rfl (Nat.le_of_ble_eq_true rfl) dX6_work_142 (fun H locs hP hD hS => ?_)
                        have hP : va_P (dC, dI) vwCl [(a, .inr (5, [.ref as, .ref aw, .ref ak, .int asc, .int awc, .int v17, .int afi, .int amd])), (as, .inl (cI, 12, .inl asf)), (ak, .inl (cI, 12, .inl f16)), (nb, .inl (cI, 4, .inl nbf))] H := hP
                        have hD : va_D A [(a, .inr (5, [.ref as, .ref aw, .ref ak, .int asc, .int awc, .int v17, .int afi, .int amd])), (as, .inl (cI, 12, .inl asf)), (ak, .inl (cI, 12, .inl f16)), (nb, .inl (cI, 4, .inl nbf))] := hD
                        obtain ⟨v18, ev18⟩ : ∃ y : Int32, y = L3_30 + 1 := ⟨_, rfl⟩
                        try have hv18 : v18.toInt = L3_30.toInt + (1 : Int32).toInt := I_addx ev18 (by omega)
                        refine lv_iinc (v := v18) (lv' := [(3, .int v18), (6, .long S0_114), (4, .int v8), (0, .ref a), (1, .ref nb), (2, .int fm), (5, .int L5_73)]) hx hb dX6_work_145 hl (k := 2) rfl (by rw [ev18]; rfl) (by decide) rfl (fun ls hl => ?_)
                        refine lv_goto (tgt := 30) hx hb dX6_work_148 (by decide) ?_
                        exact ih30 v18 v17 f16 (by first | assumption | omega) (by first | assumption | omega) (by omega) H locs ls hP hD hS (lv_sub hl [0, 3, 4, 5] rfl)
                      · have c14' := I_ne c14
                        refine lv_ldc (v := (-2000000)) hx hb hown (hts _ k_X6_74) dX6_work_124 ?_
                        exact hret (-2000000) (aht_30, akf_30) H locs 126 ls rfl ⟨(show 0 ≤ aht_30.toInt ∧ aht_30.toInt ≤ 12 ∨ aht_30.toInt = aht.toInt from by first | rfl | assumption | omega), trivial⟩ hP hD hS dX6_work_126
                    refine lv_iload hx hb dX6_work_88 (lv_at hl 0 rfl) ?_
                    refine lv_bipush (v := 12) hx hb dX6_work_90 (by decide) ?_
                    refine lv_icmp_lt (tgt := 106) hx hb dX6_work_92 (by decide) (fun c19 => ?_) (fun c19 => ?_)
                    · have c19' := I_lt c19
                      refine lv_aload_n hx hb dX6_work_106 rfl (lv_at hl 2 rfl) ?_
                      refine lv_iload hx hb dX6_work_107 (lv_at hl 0 rfl) ?_
                      refine lv_iload hx hb dX6_work_109 (lv_at hl 5 rfl) ?_
                      refine calL (rest := []) (wr := [(as, .inl (cI, 12, .inl asf)), (nb, .inl (cI, 4, .inl nbf))]) hG (c_X6_combine l dC dI cI cJ base bB bO a as aw ak asc awc aht_30 afi amd akf_30 v8 L5_73 (by first | assumption | omega) (by first | assumption | omega) (by first | assumption | omega)) ml_X6_79 im_X6_combine se_X6_combine ini_X6 cd_X6_combine hd_X6_combine ⟨(Nat.le_of_ble_eq_true rfl), (Nat.le_of_ble_eq_true rfl)⟩ (Nat.le_of_ble_eq_true rfl) (Nat.le_of_ble_eq_true rfl) hP hD hS [0, 2] [1, 3] rfl rfl rfl rfl (by decide) 5 0 rfl rfl hl.1 rfl (Nat.le_of_ble_eq_true rfl) dX6_work_111 (fun rl20 u H locs hw21 hP hD hS => ?_)
                      have hP : va_P (dC, dI) vwCl [(as, .inl (cI, 12, .inl asf)), (nb, .inl (cI, 4, .inl nbf)), (a, .inr (5, [.ref as, .ref aw, .ref ak, .int asc, .int awc, .int aht_30, .int afi, .int amd])), (ak, .inl (cI, 12, .inl akf_30))] H := hP
                      have hD : va_D A [(as, .inl (cI, 12, .inl asf)), (nb, .inl (cI, 4, .inl nbf)), (a, .inr (5, [.ref as, .ref aw, .ref ak, .int asc, .int awc, .int aht_30, .int afi, .int amd])), (ak, .inl (cI, 12, .inl akf_30))] := hD
                      exact J114 rl20  H locs ls (hP.sub (ws' := [(a, .inr (5, [.ref as, .ref aw, .ref ak, .int asc, .int awc, .int aht_30, .int afi, .int amd])), (as, .inl (cI, 12, .inl asf)), (ak, .inl (cI, 12, .inl akf_30)), (nb, .inl (cI, 4, .inl nbf))]) [2, 0, 3, 1] rfl) (hD.sub (ws' := [(a, .inr (5, [.ref as, .ref aw, .ref ak, .int asc, .int awc, .int aht_30, .int afi, .int amd])), (as, .inl (cI, 12, .inl asf)), (ak, .inl (cI, 12, .inl akf_30)), (nb, .inl (cI, 4, .inl nbf))]) [2, 0, 3, 1] (by decide) rfl) hS hl
                    · have c19' := I_nlt c19
                      refine lv_iload hx hb dX6_work_95 (lv_at hl 0 rfl) ?_
                      refine lv_aload_n hx hb dX6_work_97 rfl (lv_at hl 3 rfl) ?_
                      refine lv_iload_n hx hb dX6_work_98 rfl (lv_at hl 4 rfl) ?_
                      refine calOI (rest := []) (wr := [(a, .inr (5, [.ref as, .ref aw, .ref ak, .int asc, .int awc, .int aht_30, .int afi, .int amd])), (as, .inl (cI, 12, .inl asf)), (ak, .inl (cI, 12, .inl akf_30))]) hG (c_X6_operand l dC dI cI cJ base bB bO nb nbf v8 fm (by first | assumption | omega) (by first | assumption | omega)) ml_X6_75 st_X6_operand ini_X6 cd_X6_operand hd_X6_operand.2 ⟨(Nat.le_of_ble_eq_true rfl), (Nat.le_of_ble_eq_true rfl)⟩ (Nat.le_of_ble_eq_true rfl) (Nat.le_of_ble_eq_true rfl) hP hD hS [3] [0, 1, 2] rfl rfl rfl rfl (by decide) hl.1 rfl (Nat.le_of_ble_eq_true rfl) dX6_work_99 (fun r22 u H locs hw23 hP hD hS => ?_)
                      have hP : va_P (dC, dI) vwCl [(a, .inr (5, [.ref as, .ref aw, .ref ak, .int asc, .int awc, .int aht_30, .int afi, .int amd])), (as, .inl (cI, 12, .inl asf)), (ak, .inl (cI, 12, .inl akf_30)), (nb, .inl (cI, 4, .inl nbf))] H := hP
                      have hD : va_D A [(a, .inr (5, [.ref as, .ref aw, .ref ak, .int asc, .int awc, .int aht_30, .int afi, .int amd])), (as, .inl (cI, 12, .inl asf)), (ak, .inl (cI, 12, .inl akf_30)), (nb, .inl (cI, 4, .inl nbf))] := hD
                      obtain ⟨w24, ew24⟩ : ∃ z : Int64, Int32.toInt64 r22 = z := ⟨_, rfl⟩
                      have hw24 := J_of r22
                      rw [ew24] at hw24
                      refine lv_i2l (v := w24) hx hb dX6_work_102 ew24 ?_
                      refine lv_goto (tgt := 114) hx hb dX6_work_103 (by decide) ?_
                      exact J114 w24  H locs ls hP hD hS hl
                  · have c10' := I_nlt c10
                    refine lv_ldc (v := (-2000000)) hx hb hown (hts _ k_X6_74) dX6_work_85 ?_
                    exact hret (-2000000) (aht_30, akf_30) H locs 87 ls rfl ⟨(show 0 ≤ aht_30.toInt ∧ aht_30.toInt ≤ 12 ∨ aht_30.toInt = aht.toInt from by first | rfl | assumption | omega), trivial⟩ hP hD hS dX6_work_87
              refine lv_iload hx hb dX6_work_46 (lv_at hl 0 rfl) ?_
              refine lv_bipush (v := 12) hx hb dX6_work_48 (by decide) ?_
              refine lv_icmp_lt (tgt := 60) hx hb dX6_work_50 (by decide) (fun c25 => ?_) (fun c25 => ?_)
              · have c25' := I_lt c25
                refine lv_aload_n hx hb dX6_work_60 rfl (lv_at hl 2 rfl) ?_
                refine va_get (D := (dC, dI)) (ci := 5) (v := .int aht_30) (C := RX6) (T := TX6) (N := 8) hx hb hts inG_X6 hown hK hP 0 rfl rfl 5 (by decide) (hts _ fl_X6_28) (fun _ h9 => h9) rfl dX6_work_61 ?_
                refine va_gets (C := RX6) hx hb hEO hS hown (hts _ fl_X6_71) (fun _ h9 => h9) dX6_work_64 ?_
                refine lv_iload hx hb dX6_work_67 (lv_at hl 0 rfl) ?_
                refine va_ti hx hb hXO hS (I_in (by omega) (by omega)) (v := .int (tOPER v8.toNatClampNeg)) rfl dX6_work_69 ?_
                refine lv_topi (fun v26 ev26 => ?_)
                have hv26 := tOPER_rng v8
                rw [← ev26] at hv26
                refine lv_isub hx hb dX6_work_70 ?_
                refine lv_topi (fun v27 ev27 => ?_)
                try have hv27 : v27.toInt = aht_30.toInt - v26.toInt := I_subx ev27 (by omega)
                refine lv_istore (lv' := [(5, .int v27), (4, .int v8), (3, .int L3_30), (0, .ref a), (1, .ref nb), (2, .int fm)]) hx hb dX6_work_71 hl (by decide) rfl (fun ls hl => ?_)
                exact J73 v27 (by first | assumption | omega) H locs ls hP hD hS (lv_sub hl [1, 2, 3, 4, 5, 0] rfl)
              · have c25' := I_nlt c25
                refine lv_aload_n hx hb dX6_work_53 rfl (lv_at hl 2 rfl) ?_
                refine va_get (D := (dC, dI)) (ci := 5) (v := .int aht_30) (C := RX6) (T := TX6) (N := 8) hx hb hts inG_X6 hown hK hP 0 rfl rfl 5 (by decide) (hts _ fl_X6_28) (fun _ h9 => h9) rfl dX6_work_54 ?_
                refine lv_goto (tgt := 71) hx hb dX6_work_57 (by decide) ?_
                refine lv_istore (lv' := [(5, .int aht_30), (4, .int v8), (3, .int L3_30), (0, .ref a), (1, .ref nb), (2, .int fm)]) hx hb dX6_work_71 hl (by decide) rfl (fun ls hl => ?_)
                exact J73 aht_30 (by first | assumption | omega) H locs ls hP hD hS (lv_sub hl [1, 2, 3, 4, 5, 0] rfl)
        exact J30 ((12 - (0 : Int32).toInt).toNat + 1) 0 0 akf (by first | assumption | omega) (by first | assumption | omega) (by omega) H locs ls hP hD hS hl
      · have c4' := I_nle c4
        refine lv_ldc (v := (-2000000)) hx hb hown (hts _ k_X6_74) dX6_work_20 ?_
        exact hret (-2000000) (aht, akf) H locs 22 ls rfl ⟨(show 0 ≤ aht.toInt ∧ aht.toInt ≤ 12 ∨ aht.toInt = aht.toInt from by first | rfl | assumption | omega), trivial⟩ hP hD hS dX6_work_22
set_option maxHeartbeats 4000000 in
set_option maxRecDepth 100000 in
theorem c_X6_work_40 (l : Launch) (dC : Nat → ClassId) (dI : Nat → Nat → Nat) (cI cJ : ClassId) (base bB bO : Nat) (a : Nat) (as : Nat) (aw : Nat) (ak : Nat) (asc : Int32) (awc : Int32) (aht : Int32) (afi : Int32) (amd : Int32) (asf : Nat → Int32) (akf : Nat → Int32) (nb : Nat) (nbf : Nat → Int32) (fm : Int32) (hq0 : 0 ≤ asc.toInt ∧ asc.toInt ≤ 12) (hq1 : stOK asf asc) : CtI l dC dI cI cJ base bB bO yX6_work cX6_work 8 .int 1 24 [.ref a, .ref nb, .int fm] [(a, .inr (5, [.ref as, .ref aw, .ref ak, .int asc, .int awc, .int aht, .int afi, .int amd])), (as, .inl (cI, 12, .inl asf)), (ak, .inl (cI, 12, .inl akf)), (nb, .inl (cI, 40, .inl nbf))] ((Int32) × (Nat → Int32)) (fun (res : Int32) (u : (Int32) × (Nat → Int32)) => (0 ≤ u.1.toInt ∧ u.1.toInt ≤ 12 ∨ u.1.toInt = aht.toInt) ∧ True) (fun (u : (Int32) × (Nat → Int32)) => [(a, .inr (5, [.ref as, .ref aw, .ref ak, .int asc, .int awc, .int u.1, .int afi, .int amd])), (as, .inl (cI, 12, .inl asf)), (ak, .inl (cI, 12, .inl u.2)), (nb, .inl (cI, 40, .inl nbf))]) := by
  refine entI (by decide) (Nat.le_of_ble_eq_true rfl) ?_
  intro p e s m below meth c A Q ls hAt hret hP hD hS hl
  obtain ⟨hx, hb, hml, hown, hts, hA, hAb, hK, hE, hlocks, hin⟩ := hAt
  have hG : CG dC dI cI cJ base bB bO cX6_work 8 RX6 p s m (List.toArray [.ref a, .ref nb, .int fm]) c A := ⟨hx, hb, hml, hown, hts, hA, hAb, hK, hE⟩
  have hl : lv_has ls 8 [(0, .ref a), (1, .ref nb), (2, .int fm)] := hl
  obtain ⟨hE1, hE2, hE3, hE4, hE5, hX6, hX7, -⟩ := id hE
  have hEB := hE4.narrow hAb
  have hEO := hE5.narrow hAb
  have hXB := hX6.narrow hAb
  have hXO := hX7.narrow hAb
  have c_m2000000 : (-2000000 : Int32).toInt = -2000000 := by decide
  have c_m1 : (-1 : Int32).toInt = -1 := by decide
  have c_0 : (0 : Int32).toInt = 0 := by decide
  have c_1 : (1 : Int32).toInt = 1 := by decide
  have c_4 : (4 : Int32).toInt = 4 := by decide
  have c_12 : (12 : Int32).toInt = 12 := by decide
  have c_40 : (40 : Int32).toInt = 40 := by decide
  obtain ⟨H, hHe⟩ : ∃ H : Heap, H = s.heap := ⟨_, rfl⟩
  obtain ⟨locs, hle⟩ : ∃ z : List Loc, z = [] := ⟨_, rfl⟩
  rw [← hHe] at hP
  have hS : va_S A s.heap H locs := by rw [hHe, hle]; exact hS
  suffices hgo : W p l e { frames := 1, cells := 0, slots := 0, locals := 24 } s m (List.toArray [.ref a, .ref nb, .int fm]) below meth c H locs 0 0 Q (F0 m 0 ls []) by rw [hHe, hle] at hgo; exact hgo
  refine lv_aload_n hx hb dX6_work_0 rfl (lv_at hl 0 rfl) ?_
  refine va_get (D := (dC, dI)) (ci := 5) (v := .int amd) (C := RX6) (T := TX6) (N := 8) hx hb hts inG_X6 hown hK hP 0 rfl rfl 7 (by decide) (hts _ fl_X6_35) (fun _ h9 => h9) rfl dX6_work_1 ?_
  refine lv_iconst (v := (-1)) hx hb dX6_work_4 (by decide) ?_
  refine lv_icmp_eq (tgt := 20) hx hb dX6_work_5 (by decide) (fun c1 => ?_) (fun c1 => ?_)
  · have c1' := I_eq c1
    refine lv_ldc (v := (-2000000)) hx hb hown (hts _ k_X6_74) dX6_work_20 ?_
    exact hret (-2000000) (aht, akf) H locs 22 ls rfl ⟨(show 0 ≤ aht.toInt ∧ aht.toInt ≤ 12 ∨ aht.toInt = aht.toInt from by first | rfl | assumption | omega), trivial⟩ hP hD hS dX6_work_22
  · have c1' := I_ne c1
    refine lv_iload_n hx hb dX6_work_8 rfl (lv_at hl 2 rfl) ?_
    refine lv_if_lt (tgt := 20) hx hb dX6_work_9 (by decide) (fun c2 => ?_) (fun c2 => ?_)
    · have c2' := I_lt c2
      refine lv_ldc (v := (-2000000)) hx hb hown (hts _ k_X6_74) dX6_work_20 ?_
      exact hret (-2000000) (aht, akf) H locs 22 ls rfl ⟨(show 0 ≤ aht.toInt ∧ aht.toInt ≤ 12 ∨ aht.toInt = aht.toInt from by first | rfl | assumption | omega), trivial⟩ hP hD hS dX6_work_22
    · have c2' := I_nlt c2
      refine lv_iload_n hx hb dX6_work_12 rfl (lv_at hl 2 rfl) ?_
      refine lv_aload_n hx hb dX6_work_13 rfl (lv_at hl 1 rfl) ?_
      refine va_alen hx hb hK hP 3 0 (ha := rfl) (ht := rfl) (v := 40) rfl dX6_work_14 ?_
      refine lv_iconst (v := 4) hx hb dX6_work_15 (by decide) ?_
      refine lv_isub hx hb dX6_work_16 ?_
      refine lv_topi (fun v3 ev3 => ?_)
      try have hv3 : v3.toInt = (40 : Int32).toInt - (4 : Int32).toInt := I_subx ev3 (by omega)
      refine lv_icmp_le (tgt := 23) hx hb dX6_work_17 (by decide) (fun c4 => ?_) (fun c4 => ?_)
      · have c4' := I_le c4
        refine lv_aload_n hx hb dX6_work_23 rfl (lv_at hl 0 rfl) ?_
        refine lv_iconst (v := 0) hx hb dX6_work_24 (by decide) ?_
        refine va_put (D := (dC, dI)) (ci := 5) (v := .int 0) (ty := .int) (C := RX6) (T := TX6) (N := 8) hx hb hts inG_X6 tyX6 tyX6_ok nmX6 hown hK hP hD hS 0 rfl rfl 5 (by decide) (hts _ fl_X6_28) (fun _ h9 => h9) rfl (by decide +kernel) rfl rfl (Nat.le_of_ble_eq_true rfl) dX6_work_25 (fun H locs hP hD hS => ?_)
        have hP : va_P (dC, dI) vwCl [(a, .inr (5, [.ref as, .ref aw, .ref ak, .int asc, .int awc, .int 0, .int afi, .int amd])), (as, .inl (cI, 12, .inl asf)), (ak, .inl (cI, 12, .inl akf)), (nb, .inl (cI, 40, .inl nbf))] H := hP
        have hD : va_D A [(a, .inr (5, [.ref as, .ref aw, .ref ak, .int asc, .int awc, .int 0, .int afi, .int amd])), (as, .inl (cI, 12, .inl asf)), (ak, .inl (cI, 12, .inl akf)), (nb, .inl (cI, 40, .inl nbf))] := hD
        refine lv_iconst (v := 0) hx hb dX6_work_28 (by decide) ?_
        refine lv_istore_n (lv' := [(3, .int 0), (0, .ref a), (1, .ref nb), (2, .int fm)]) hx hb dX6_work_29 rfl hl (by decide) rfl (fun ls hl => ?_)
        have J30 : ∀ (n : Nat) (L3_30 : Int32) (aht_30 : Int32) (akf_30 : Nat → Int32), (0 ≤ L3_30.toInt ∧ L3_30.toInt ≤ 12) → (0 ≤ aht_30.toInt ∧ aht_30.toInt ≤ 12) → (12 - L3_30.toInt) < (n : Int) → ∀ (H : Heap) (locs : List Loc) (ls : Array Slot), va_P (dC, dI) vwCl [(a, .inr (5, [.ref as, .ref aw, .ref ak, .int asc, .int awc, .int aht_30, .int afi, .int amd])), (as, .inl (cI, 12, .inl asf)), (ak, .inl (cI, 12, .inl akf_30)), (nb, .inl (cI, 40, .inl nbf))] H → va_D A [(a, .inr (5, [.ref as, .ref aw, .ref ak, .int asc, .int awc, .int aht_30, .int afi, .int amd])), (as, .inl (cI, 12, .inl asf)), (ak, .inl (cI, 12, .inl akf_30)), (nb, .inl (cI, 40, .inl nbf))] → va_S A s.heap H locs → lv_has ls 8 [(3, .int L3_30), (0, .ref a), (1, .ref nb), (2, .int fm)] → W p l e { frames := 1, cells := 0, slots := 0, locals := 24 } s m (List.toArray [.ref a, .ref nb, .int fm]) below meth c H locs 0 0 Q (F0 m 30 ls []) := by
          intro n
          induction n with
          | zero =>
            intro L3_30 aht_30 akf_30 hi0_30 hi1_30 hm
            exact absurd hm (by omega)
          | succ n ih30 =>
            intro L3_30 aht_30 akf_30 hi0_30 hi1_30 hm30 H locs ls hP hD hS hl
            refine lv_iload_n hx hb dX6_work_30 rfl (lv_at hl 0 rfl) ?_
            refine lv_aload_n hx hb dX6_work_31 rfl (lv_at hl 1 rfl) ?_
            refine va_get (D := (dC, dI)) (ci := 5) (v := .int asc) (C := RX6) (T := TX6) (N := 8) hx hb hts inG_X6 hown hK hP 0 rfl rfl 3 (by decide) (hts _ fl_X6_21) (fun _ h9 => h9) rfl dX6_work_32 ?_
            refine lv_icmp_ge (tgt := 151) hx hb dX6_work_35 (by decide) (fun c5 => ?_) (fun c5 => ?_)
            · have c5' := I_le c5
              refine lv_aload_n hx hb dX6_work_151 rfl (lv_at hl 1 rfl) ?_
              refine va_get (D := (dC, dI)) (ci := 5) (v := .int aht_30) (C := RX6) (T := TX6) (N := 8) hx hb hts inG_X6 hown hK hP 0 rfl rfl 5 (by decide) (hts _ fl_X6_28) (fun _ h9 => h9) rfl dX6_work_152 ?_
              refine lv_iconst (v := 1) hx hb dX6_work_155 (by decide) ?_
              refine lv_icmp_ne (tgt := 168) hx hb dX6_work_156 (by decide) (fun c6 => ?_) (fun c6 => ?_)
              · have c6' := I_ne c6
                refine lv_ldc (v := (-2000000)) hx hb hown (hts _ k_X6_74) dX6_work_168 ?_
                exact hret (-2000000) (aht_30, akf_30) H locs 170 ls rfl ⟨(show 0 ≤ aht_30.toInt ∧ aht_30.toInt ≤ 12 ∨ aht_30.toInt = aht.toInt from by first | rfl | assumption | omega), trivial⟩ hP hD hS dX6_work_170
              · have c6' := I_eq c6
                refine lv_aload_n hx hb dX6_work_159 rfl (lv_at hl 1 rfl) ?_
                refine va_get (D := (dC, dI)) (ci := 5) (v := .ref ak) (C := RX6) (T := TX6) (N := 8) hx hb hts inG_X6 hown hK hP 0 rfl rfl 2 (by decide) (hts _ fl_X6_18) (fun _ h9 => h9) rfl dX6_work_160 ?_
                refine lv_iconst (v := 0) hx hb dX6_work_163 (by decide) ?_
                refine va_iald (t0 := 0) hx hb hK hP 2 (ha := rfl) (ht := rfl) (I_in (by omega) (by omega)) dX6_work_164 ?_
                refine lv_topi (fun v7 ev7 => ?_)
                refine lv_goto (tgt := 170) hx hb dX6_work_165 (by decide) ?_
                exact hret v7 (aht_30, akf_30) H locs 170 ls rfl ⟨(show 0 ≤ aht_30.toInt ∧ aht_30.toInt ≤ 12 ∨ aht_30.toInt = aht.toInt from by first | rfl | assumption | omega), trivial⟩ hP hD hS dX6_work_170
            · have c5' := I_nle c5
              refine lv_aload_n hx hb dX6_work_38 rfl (lv_at hl 1 rfl) ?_
              refine va_get (D := (dC, dI)) (ci := 5) (v := .ref as) (C := RX6) (T := TX6) (N := 8) hx hb hts inG_X6 hown hK hP 0 rfl rfl 0 (by decide) (hts _ fl_X6_9) (fun _ h9 => h9) rfl dX6_work_39 ?_
              refine lv_iload_n hx hb dX6_work_42 rfl (lv_at hl 0 rfl) ?_
              refine va_iald (t0 := 0) hx hb hK hP 1 (ha := rfl) (ht := rfl) (I_in (by omega) (by omega)) dX6_work_43 ?_
              refine lv_topi (fun v8 ev8 => ?_)
              have hso := stOK_get (by assumption : stOK asf asc) ev8 (by omega) (by omega)
              unfold sOK at hso
              refine lv_istore (lv' := [(4, .int v8), (3, .int L3_30), (0, .ref a), (1, .ref nb), (2, .int fm)]) hx hb dX6_work_44 hl (by decide) rfl (fun ls hl => ?_)
              have J73 : ∀ (L5_73 : Int32), ((v8.toInt < 12 ∧ L5_73.toInt + 1 ≤ aht_30.toInt ∧ (¬ v8.toInt = 11 ∨ L5_73.toInt + 3 ≤ aht_30.toInt)) ∨ (12 ≤ v8.toInt ∧ L5_73.toInt = aht_30.toInt)) → ∀ (H : Heap) (locs : List Loc) (ls : Array Slot), va_P (dC, dI) vwCl [(a, .inr (5, [.ref as, .ref aw, .ref ak, .int asc, .int awc, .int aht_30, .int afi, .int amd])), (as, .inl (cI, 12, .inl asf)), (ak, .inl (cI, 12, .inl akf_30)), (nb, .inl (cI, 40, .inl nbf))] H → va_D A [(a, .inr (5, [.ref as, .ref aw, .ref ak, .int asc, .int awc, .int aht_30, .int afi, .int amd])), (as, .inl (cI, 12, .inl asf)), (ak, .inl (cI, 12, .inl akf_30)), (nb, .inl (cI, 40, .inl nbf))] → va_S A s.heap H locs → lv_has ls 8 [(4, .int v8), (3, .int L3_30), (0, .ref a), (1, .ref nb), (2, .int fm), (5, .int L5_73)] → W p l e { frames := 1, cells := 0, slots := 0, locals := 24 } s m (List.toArray [.ref a, .ref nb, .int fm]) below meth c H locs 0 0 Q (F0 m 73 ls []) := by
                intro L5_73 hi0_73 H locs ls hP hD hS hl
                refine lv_iload hx hb dX6_work_73 (lv_at hl 5 rfl) ?_
                refine lv_if_lt (tgt := 85) hx hb dX6_work_75 (by decide) (fun c9 => ?_) (fun c9 => ?_)
                · have c9' := I_lt c9
                  refine lv_ldc (v := (-2000000)) hx hb hown (hts _ k_X6_74) dX6_work_85 ?_
                  exact hret (-2000000) (aht_30, akf_30) H locs 87 ls rfl ⟨(show 0 ≤ aht_30.toInt ∧ aht_30.toInt ≤ 12 ∨ aht_30.toInt = aht.toInt from by first | rfl | assumption | omega), trivial⟩ hP hD hS dX6_work_87
                · have c9' := I_nlt c9
                  refine lv_iload hx hb dX6_work_78 (lv_at hl 5 rfl) ?_
                  refine lv_bipush (v := 12) hx hb dX6_work_80 (by decide) ?_
                  refine lv_icmp_lt (tgt := 88) hx hb dX6_work_82 (by decide) (fun c10 => ?_) (fun c10 => ?_)
                  · have c10' := I_lt c10
                    have J114 : ∀ (S0_114 : Int64), ∀ (H : Heap) (locs : List Loc) (ls : Array Slot), va_P (dC, dI) vwCl [(a, .inr (5, [.ref as, .ref aw, .ref ak, .int asc, .int awc, .int aht_30, .int afi, .int amd])), (as, .inl (cI, 12, .inl asf)), (ak, .inl (cI, 12, .inl akf_30)), (nb, .inl (cI, 40, .inl nbf))] H → va_D A [(a, .inr (5, [.ref as, .ref aw, .ref ak, .int asc, .int awc, .int aht_30, .int afi, .int amd])), (as, .inl (cI, 12, .inl asf)), (ak, .inl (cI, 12, .inl akf_30)), (nb, .inl (cI, 40, .inl nbf))] → va_S A s.heap H locs → lv_has ls 8 [(4, .int v8), (3, .int L3_30), (0, .ref a), (1, .ref nb), (2, .int fm), (5, .int L5_73)] → W p l e { frames := 1, cells := 0, slots := 0, locals := 24 } s m (List.toArray [.ref a, .ref nb, .int fm]) below meth c H locs 0 0 Q (F0 m 114 ls [.long S0_114]) := by
                      intro S0_114 H locs ls hP hD hS hl
                      refine lv_lstore (lv' := [(6, .long S0_114), (4, .int v8), (3, .int L3_30), (0, .ref a), (1, .ref nb), (2, .int fm), (5, .int L5_73)]) hx hb dX6_work_114 hl (by decide) rfl (fun ls hl => ?_)
                      refine lv_lload hx hb dX6_work_116 (lv_at hl 0 rfl) ?_
                      refine calNI (rest := []) (wr := [(a, .inr (5, [.ref as, .ref aw, .ref ak, .int asc, .int awc, .int aht_30, .int afi, .int amd])), (as, .inl (cI, 12, .inl asf)), (ak, .inl (cI, 12, .inl akf_30)), (nb, .inl (cI, 40, .inl nbf))]) hG (c_X8_isTooFar l dC dI cI cJ base bB bO S0_114 ) nl_X6_83 st_X8_isTooFar ini_X8 cd_X8_isTooFar hd_X8_isTooFar.2 ⟨(Nat.le_of_ble_eq_true rfl), (Nat.le_of_ble_eq_true rfl)⟩ (Nat.le_of_ble_eq_true rfl) (Nat.le_of_ble_eq_true rfl) hP hD hS [] [0, 1, 2, 3] rfl rfl rfl rfl (by decide) hl.1 rfl (Nat.le_of_ble_eq_true rfl) dX6_work_118 (fun r11 u H locs hw12 hP hD hS => ?_)
                      have hw12 : ((r11.toInt = 1 ∧ (1000000 < S0_114.toInt ∨ S0_114.toInt < -1000000)) ∨ (r11.toInt = 0 ∧ -1000000 ≤ S0_114.toInt ∧ S0_114.toInt ≤ 1000000)) ∧ True := hw12
                      obtain ⟨hp13, -⟩ := hw12
                      have hP : va_P (dC, dI) vwCl [(a, .inr (5, [.ref as, .ref aw, .ref ak, .int asc, .int awc, .int aht_30, .int afi, .int amd])), (as, .inl (cI, 12, .inl asf)), (ak, .inl (cI, 12, .inl akf_30)), (nb, .inl (cI, 40, .inl nbf))] H := hP
                      have hD : va_D A [(a, .inr (5, [.ref as, .ref aw, .ref ak, .int asc, .int awc, .int aht_30, .int afi, .int amd])), (as, .inl (cI, 12, .inl asf)), (ak, .inl (cI, 12, .inl akf_30)), (nb, .inl (cI, 40, .inl nbf))] := hD
                      refine lv_if_eq (tgt := 127) hx hb dX6_work_121 (by decide) (fun c14 => ?_) (fun c14 => ?_)
                      · have c14' := I_eq c14
                        refine lv_aload_n hx hb dX6_work_127 rfl (lv_at hl 3 rfl) ?_
                        refine va_get (D := (dC, dI)) (ci := 5) (v := .ref ak) (C := RX6) (T := TX6) (N := 8) hx hb hts inG_X6 hown hK hP 0 rfl rfl 2 (by decide) (hts _ fl_X6_18) (fun _ h9 => h9) rfl dX6_work_128 ?_
                        refine lv_iload hx hb dX6_work_131 (lv_at hl 6 rfl) ?_
                        refine lv_lload hx hb dX6_work_133 (lv_at hl 0 rfl) ?_
                        obtain ⟨v15, ev15⟩ : ∃ z : Int32, Int64.toInt32 S0_114 = z := ⟨_, rfl⟩
                        refine lv_l2i (v := v15) hx hb dX6_work_135 ev15 ?_
                        refine va_iast (t0 := 0) hx hb hK hP hD hS 2 (ha := rfl) (ht := rfl) (I_in (by omega) (by omega)) dX6_work_136 (fun H locs hP hD hS => ?_)
                        have hP : va_P (dC, dI) vwCl [(a, .inr (5, [.ref as, .ref aw, .ref ak, .int asc, .int awc, .int aht_30, .int afi, .int amd])), (as, .inl (cI, 12, .inl asf)), (ak, .inl (cI, 12, .inl (upd akf_30 L5_73.toNatClampNeg v15))), (nb, .inl (cI, 40, .inl nbf))] H := hP
                        have hD : va_D A [(a, .inr (5, [.ref as, .ref aw, .ref ak, .int asc, .int awc, .int aht_30, .int afi, .int amd])), (as, .inl (cI, 12, .inl asf)), (ak, .inl (cI, 12, .inl (upd akf_30 L5_73.toNatClampNeg v15))), (nb, .inl (cI, 40, .inl nbf))] := hD
                        generalize ef16 : upd akf_30 L5_73.toNatClampNeg v15 = f16 at hP hD
                        refine lv_aload_n hx hb dX6_work_137 rfl (lv_at hl 3 rfl) ?_
                        refine lv_iload hx hb dX6_work_138 (lv_at hl 6 rfl) ?_
                        refine lv_iconst (v := 1) hx hb dX6_work_140 (by decide) ?_
                        refine lv_iadd hx hb dX6_work_141 ?_
                        refine lv_topi (fun v17 ev17 => ?_)
                        try have hv17 : v17.toInt = L5_73.toInt + (1 : Int32).toInt := I_addx ev17 (by omega)
                        refine va_put (D := (dC, dI)) (ci := 5) (v := .int v17) (ty := .int) (C := RX6) (T := TX6) (N := 8) hx hb hts inG_X6 tyX6 tyX6_ok nmX6 hown hK hP hD hS 0 rfl rfl 5 (by decide) (hts _ fl_X6_28) (fun _ h9 => h9) rfl (by decide +kernel) rfl rfl (Nat.le_of_ble_eq_true rfl) dX6_work_142 (fun H locs hP hD hS => ?_)
                        have hP : va_P (dC, dI) vwCl [(a, .inr (5, [.ref as, .ref aw, .ref ak, .int asc, .int awc, .int v17, .int afi, .int amd])), (as, .inl (cI, 12, .inl asf)), (ak, .inl (cI, 12, .inl f16)), (nb, .inl (cI, 40, .inl nbf))] H := hP
                        have hD : va_D A [(a, .inr (5, [.ref as, .ref aw, .ref ak, .int asc, .int awc, .int v17, .int afi, .int amd])), (as, .inl (cI, 12, .inl asf)), (ak, .inl (cI, 12, .inl f16)), (nb, .inl (cI, 40, .inl nbf))] := hD
                        obtain ⟨v18, ev18⟩ : ∃ y : Int32, y = L3_30 + 1 := ⟨_, rfl⟩
                        try have hv18 : v18.toInt = L3_30.toInt + (1 : Int32).toInt := I_addx ev18 (by omega)
                        refine lv_iinc (v := v18) (lv' := [(3, .int v18), (6, .long S0_114), (4, .int v8), (0, .ref a), (1, .ref nb), (2, .int fm), (5, .int L5_73)]) hx hb dX6_work_145 hl (k := 2) rfl (by rw [ev18]; rfl) (by decide) rfl (fun ls hl => ?_)
                        refine lv_goto (tgt := 30) hx hb dX6_work_148 (by decide) ?_
                        exact ih30 v18 v17 f16 (by first | assumption | omega) (by first | assumption | omega) (by omega) H locs ls hP hD hS (lv_sub hl [0, 3, 4, 5] rfl)
                      · have c14' := I_ne c14
                        refine lv_ldc (v := (-2000000)) hx hb hown (hts _ k_X6_74) dX6_work_124 ?_
                        exact hret (-2000000) (aht_30, akf_30) H locs 126 ls rfl ⟨(show 0 ≤ aht_30.toInt ∧ aht_30.toInt ≤ 12 ∨ aht_30.toInt = aht.toInt from by first | rfl | assumption | omega), trivial⟩ hP hD hS dX6_work_126
                    refine lv_iload hx hb dX6_work_88 (lv_at hl 0 rfl) ?_
                    refine lv_bipush (v := 12) hx hb dX6_work_90 (by decide) ?_
                    refine lv_icmp_lt (tgt := 106) hx hb dX6_work_92 (by decide) (fun c19 => ?_) (fun c19 => ?_)
                    · have c19' := I_lt c19
                      refine lv_aload_n hx hb dX6_work_106 rfl (lv_at hl 2 rfl) ?_
                      refine lv_iload hx hb dX6_work_107 (lv_at hl 0 rfl) ?_
                      refine lv_iload hx hb dX6_work_109 (lv_at hl 5 rfl) ?_
                      refine calL (rest := []) (wr := [(as, .inl (cI, 12, .inl asf)), (nb, .inl (cI, 40, .inl nbf))]) hG (c_X6_combine l dC dI cI cJ base bB bO a as aw ak asc awc aht_30 afi amd akf_30 v8 L5_73 (by first | assumption | omega) (by first | assumption | omega) (by first | assumption | omega)) ml_X6_79 im_X6_combine se_X6_combine ini_X6 cd_X6_combine hd_X6_combine ⟨(Nat.le_of_ble_eq_true rfl), (Nat.le_of_ble_eq_true rfl)⟩ (Nat.le_of_ble_eq_true rfl) (Nat.le_of_ble_eq_true rfl) hP hD hS [0, 2] [1, 3] rfl rfl rfl rfl (by decide) 5 0 rfl rfl hl.1 rfl (Nat.le_of_ble_eq_true rfl) dX6_work_111 (fun rl20 u H locs hw21 hP hD hS => ?_)
                      have hP : va_P (dC, dI) vwCl [(as, .inl (cI, 12, .inl asf)), (nb, .inl (cI, 40, .inl nbf)), (a, .inr (5, [.ref as, .ref aw, .ref ak, .int asc, .int awc, .int aht_30, .int afi, .int amd])), (ak, .inl (cI, 12, .inl akf_30))] H := hP
                      have hD : va_D A [(as, .inl (cI, 12, .inl asf)), (nb, .inl (cI, 40, .inl nbf)), (a, .inr (5, [.ref as, .ref aw, .ref ak, .int asc, .int awc, .int aht_30, .int afi, .int amd])), (ak, .inl (cI, 12, .inl akf_30))] := hD
                      exact J114 rl20  H locs ls (hP.sub (ws' := [(a, .inr (5, [.ref as, .ref aw, .ref ak, .int asc, .int awc, .int aht_30, .int afi, .int amd])), (as, .inl (cI, 12, .inl asf)), (ak, .inl (cI, 12, .inl akf_30)), (nb, .inl (cI, 40, .inl nbf))]) [2, 0, 3, 1] rfl) (hD.sub (ws' := [(a, .inr (5, [.ref as, .ref aw, .ref ak, .int asc, .int awc, .int aht_30, .int afi, .int amd])), (as, .inl (cI, 12, .inl asf)), (ak, .inl (cI, 12, .inl akf_30)), (nb, .inl (cI, 40, .inl nbf))]) [2, 0, 3, 1] (by decide) rfl) hS hl
                    · have c19' := I_nlt c19
                      refine lv_iload hx hb dX6_work_95 (lv_at hl 0 rfl) ?_
                      refine lv_aload_n hx hb dX6_work_97 rfl (lv_at hl 3 rfl) ?_
                      refine lv_iload_n hx hb dX6_work_98 rfl (lv_at hl 4 rfl) ?_
                      refine calOI (rest := []) (wr := [(a, .inr (5, [.ref as, .ref aw, .ref ak, .int asc, .int awc, .int aht_30, .int afi, .int amd])), (as, .inl (cI, 12, .inl asf)), (ak, .inl (cI, 12, .inl akf_30))]) hG (c_X6_operand_40 l dC dI cI cJ base bB bO nb nbf v8 fm (by first | assumption | omega) (by first | assumption | omega)) ml_X6_75 st_X6_operand ini_X6 cd_X6_operand hd_X6_operand.2 ⟨(Nat.le_of_ble_eq_true rfl), (Nat.le_of_ble_eq_true rfl)⟩ (Nat.le_of_ble_eq_true rfl) (Nat.le_of_ble_eq_true rfl) hP hD hS [3] [0, 1, 2] rfl rfl rfl rfl (by decide) hl.1 rfl (Nat.le_of_ble_eq_true rfl) dX6_work_99 (fun r22 u H locs hw23 hP hD hS => ?_)
                      have hP : va_P (dC, dI) vwCl [(a, .inr (5, [.ref as, .ref aw, .ref ak, .int asc, .int awc, .int aht_30, .int afi, .int amd])), (as, .inl (cI, 12, .inl asf)), (ak, .inl (cI, 12, .inl akf_30)), (nb, .inl (cI, 40, .inl nbf))] H := hP
                      have hD : va_D A [(a, .inr (5, [.ref as, .ref aw, .ref ak, .int asc, .int awc, .int aht_30, .int afi, .int amd])), (as, .inl (cI, 12, .inl asf)), (ak, .inl (cI, 12, .inl akf_30)), (nb, .inl (cI, 40, .inl nbf))] := hD
                      obtain ⟨w24, ew24⟩ : ∃ z : Int64, Int32.toInt64 r22 = z := ⟨_, rfl⟩
                      have hw24 := J_of r22
                      rw [ew24] at hw24
                      refine lv_i2l (v := w24) hx hb dX6_work_102 ew24 ?_
                      refine lv_goto (tgt := 114) hx hb dX6_work_103 (by decide) ?_
                      exact J114 w24  H locs ls hP hD hS hl
                  · have c10' := I_nlt c10
                    refine lv_ldc (v := (-2000000)) hx hb hown (hts _ k_X6_74) dX6_work_85 ?_
                    exact hret (-2000000) (aht_30, akf_30) H locs 87 ls rfl ⟨(show 0 ≤ aht_30.toInt ∧ aht_30.toInt ≤ 12 ∨ aht_30.toInt = aht.toInt from by first | rfl | assumption | omega), trivial⟩ hP hD hS dX6_work_87
              refine lv_iload hx hb dX6_work_46 (lv_at hl 0 rfl) ?_
              refine lv_bipush (v := 12) hx hb dX6_work_48 (by decide) ?_
              refine lv_icmp_lt (tgt := 60) hx hb dX6_work_50 (by decide) (fun c25 => ?_) (fun c25 => ?_)
              · have c25' := I_lt c25
                refine lv_aload_n hx hb dX6_work_60 rfl (lv_at hl 2 rfl) ?_
                refine va_get (D := (dC, dI)) (ci := 5) (v := .int aht_30) (C := RX6) (T := TX6) (N := 8) hx hb hts inG_X6 hown hK hP 0 rfl rfl 5 (by decide) (hts _ fl_X6_28) (fun _ h9 => h9) rfl dX6_work_61 ?_
                refine va_gets (C := RX6) hx hb hEO hS hown (hts _ fl_X6_71) (fun _ h9 => h9) dX6_work_64 ?_
                refine lv_iload hx hb dX6_work_67 (lv_at hl 0 rfl) ?_
                refine va_ti hx hb hXO hS (I_in (by omega) (by omega)) (v := .int (tOPER v8.toNatClampNeg)) rfl dX6_work_69 ?_
                refine lv_topi (fun v26 ev26 => ?_)
                have hv26 := tOPER_rng v8
                rw [← ev26] at hv26
                refine lv_isub hx hb dX6_work_70 ?_
                refine lv_topi (fun v27 ev27 => ?_)
                try have hv27 : v27.toInt = aht_30.toInt - v26.toInt := I_subx ev27 (by omega)
                refine lv_istore (lv' := [(5, .int v27), (4, .int v8), (3, .int L3_30), (0, .ref a), (1, .ref nb), (2, .int fm)]) hx hb dX6_work_71 hl (by decide) rfl (fun ls hl => ?_)
                exact J73 v27 (by first | assumption | omega) H locs ls hP hD hS (lv_sub hl [1, 2, 3, 4, 5, 0] rfl)
              · have c25' := I_nlt c25
                refine lv_aload_n hx hb dX6_work_53 rfl (lv_at hl 2 rfl) ?_
                refine va_get (D := (dC, dI)) (ci := 5) (v := .int aht_30) (C := RX6) (T := TX6) (N := 8) hx hb hts inG_X6 hown hK hP 0 rfl rfl 5 (by decide) (hts _ fl_X6_28) (fun _ h9 => h9) rfl dX6_work_54 ?_
                refine lv_goto (tgt := 71) hx hb dX6_work_57 (by decide) ?_
                refine lv_istore (lv' := [(5, .int aht_30), (4, .int v8), (3, .int L3_30), (0, .ref a), (1, .ref nb), (2, .int fm)]) hx hb dX6_work_71 hl (by decide) rfl (fun ls hl => ?_)
                exact J73 aht_30 (by first | assumption | omega) H locs ls hP hD hS (lv_sub hl [1, 2, 3, 4, 5, 0] rfl)
        exact J30 ((12 - (0 : Int32).toInt).toNat + 1) 0 0 akf (by first | assumption | omega) (by first | assumption | omega) (by omega) H locs ls hP hD hS hl
      · have c4' := I_nle c4
        refine lv_ldc (v := (-2000000)) hx hb hown (hts _ k_X6_74) dX6_work_20 ?_
        exact hret (-2000000) (aht, akf) H locs 22 ls rfl ⟨(show 0 ≤ aht.toInt ∧ aht.toInt ≤ 12 ∨ aht.toInt = aht.toInt from by first | rfl | assumption | omega), trivial⟩ hP hD hS dX6_work_22
