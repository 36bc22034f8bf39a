set_option maxHeartbeats 4000000 in
set_option maxRecDepth 100000 in
theorem c_X0_gainedOf (l : Launch) (dC : Nat → ClassId) (dI : Nat → Nat → Nat) (cI cJ : ClassId) (base bB bO : Nat) (o : Nat) (oa : Nat) (ob : Nat) (oaf : Nat → Int32) (obf : Nat → Int32) (x : Int32)  : CtI l dC dI cI cJ base bB bO yX0_gainedOf cX0_gainedOf 2 .int 1 20 [.ref o, .int x] [(o, .inr (0, [.ref oa, .ref ob])), (oa, .inl (cI, 28, .inl oaf)), (ob, .inl (cI, 28, .inl obf))] (Unit) (fun (res : Int32) (u : Unit) => True) (fun (u : Unit) => [(o, .inr (0, [.ref oa, .ref ob])), (oa, .inl (cI, 28, .inl oaf)), (ob, .inl (cI, 28, .inl obf))]) := by
  refine entI (by decide) (Nat.le_of_ble_eq_true rfl) ?_
  intro p e s m below meth c A Q ls hAt hret hP hD hS hl
  obtain ⟨hx, hb, hml, hown, hts, hA, hAb, hK, hE, hlocks, hin⟩ := hAt
  have hG : CG dC dI cI cJ base bB bO cX0_gainedOf 2 RX0 p s m (List.toArray [.ref o, .int x]) c A := ⟨hx, hb, hml, hown, hts, hA, hAb, hK, hE⟩
  have hl : lv_has ls 2 [(0, .ref o), (1, .int x)] := hl
  have c_m1 : (-1 : Int32).toInt = -1 := by decide
  have c_0 : (0 : Int32).toInt = 0 := by decide
  have c_1 : (1 : Int32).toInt = 1 := by decide
  obtain ⟨H, hHe⟩ : ∃ H : Heap, H = s.heap := ⟨_, rfl⟩
  obtain ⟨locs, hle⟩ : ∃ z : List Loc, z = [] := ⟨_, rfl⟩
  rw [← hHe] at hP
  have hS : va_S A s.heap H locs := by rw [hHe, hle]; exact hS
  suffices hgo : W p l e { frames := 1, cells := 0, slots := 0, locals := 20 } s m (List.toArray [.ref o, .int x]) below meth c H locs 0 0 Q (F0 m 0 ls []) by rw [hHe, hle] at hgo; exact hgo
  refine lv_iload_n hx hb dX0_gainedOf_0 rfl (lv_at hl 1 rfl) ?_
  refine calNI (rest := []) (wr := [(o, .inr (0, [.ref oa, .ref ob])), (oa, .inl (cI, 28, .inl oaf)), (ob, .inl (cI, 28, .inl obf))]) hG (c_X8_isToken l dC dI cI cJ base bB bO x ) nl_X0_18 st_X8_isToken ini_X8 cd_X8_isToken hd_X8_isToken.2 ⟨(Nat.le_of_ble_eq_true rfl), (Nat.le_of_ble_eq_true rfl)⟩ (Nat.le_of_ble_eq_true rfl) (Nat.le_of_ble_eq_true rfl) hP hD hS [] [0, 1, 2] rfl rfl rfl rfl (by decide) hl.1 rfl (Nat.le_of_ble_eq_true rfl) dX0_gainedOf_1 (fun r1 u H locs hw2 hP hD hS => ?_)
  have hw2 : ((r1.toInt = 1 ∧ 0 ≤ x.toInt ∧ x.toInt ≤ 27) ∨ (r1.toInt = 0 ∧ (x.toInt < 0 ∨ 27 < x.toInt))) ∧ True := hw2
  obtain ⟨hp3, -⟩ := hw2
  have hP : va_P (dC, dI) vwCl [(o, .inr (0, [.ref oa, .ref ob])), (oa, .inl (cI, 28, .inl oaf)), (ob, .inl (cI, 28, .inl obf))] H := hP
  have hD : va_D A [(o, .inr (0, [.ref oa, .ref ob])), (oa, .inl (cI, 28, .inl oaf)), (ob, .inl (cI, 28, .inl obf))] := hD
  refine lv_if_eq (tgt := 16) hx hb dX0_gainedOf_4 (by decide) (fun c4 => ?_) (fun c4 => ?_)
  · have c4' := I_eq c4
    refine lv_iconst (v := (-1)) hx hb dX0_gainedOf_16 (by decide) ?_
    exact hret (-1) () H locs 17 ls rfl trivial hP hD hS dX0_gainedOf_17
  · have c4' := I_ne c4
    refine lv_aload_n hx hb dX0_gainedOf_7 rfl (lv_at hl 0 rfl) ?_
    refine va_get (D := (dC, dI)) (ci := 0) (v := .ref oa) (C := RX0) (T := TX0) (N := 2) hx hb hts inG_X0 hown hK hP 0 rfl rfl 0 (by decide) (hts _ fl_X0_9) (fun _ h9 => h9) rfl dX0_gainedOf_8 ?_
    refine lv_iload_n hx hb dX0_gainedOf_11 rfl (lv_at hl 1 rfl) ?_
    refine va_iald (t0 := 0) hx hb hK hP 1 (ha := rfl) (ht := rfl) (I_in (by omega) (by omega)) dX0_gainedOf_12 ?_
    refine lv_topi (fun v5 ev5 => ?_)
    refine lv_goto (tgt := 17) hx hb dX0_gainedOf_13 (by decide) ?_
    exact hret v5 () H locs 17 ls rfl trivial hP hD hS dX0_gainedOf_17
set_option maxHeartbeats 4000000 in
set_option maxRecDepth 100000 in
theorem c_X0_lostOf (l : Launch) (dC : Nat → ClassId) (dI : Nat → Nat → Nat) (cI cJ : ClassId) (base bB bO : Nat) (o : Nat) (oa : Nat) (ob : Nat) (oaf : Nat → Int32) (obf : Nat → Int32) (x : Int32)  : CtI l dC dI cI cJ base bB bO yX0_lostOf cX0_lostOf 2 .int 1 20 [.ref o, .int x] [(o, .inr (0, [.ref oa, .ref ob])), (oa, .inl (cI, 28, .inl oaf)), (ob, .inl (cI, 28, .inl obf))] (Unit) (fun (res : Int32) (u : Unit) => True) (fun (u : Unit) => [(o, .inr (0, [.ref oa, .ref ob])), (oa, .inl (cI, 28, .inl oaf)), (ob, .inl (cI, 28, .inl obf))]) := by
  refine entI (by decide) (Nat.le_of_ble_eq_true rfl) ?_
  intro p e s m below meth c A Q ls hAt hret hP hD hS hl
  obtain ⟨hx, hb, hml, hown, hts, hA, hAb, hK, hE, hlocks, hin⟩ := hAt
  have hG : CG dC dI cI cJ base bB bO cX0_lostOf 2 RX0 p s m (List.toArray [.ref o, .int x]) c A := ⟨hx, hb, hml, hown, hts, hA, hAb, hK, hE⟩
  have hl : lv_has ls 2 [(0, .ref o), (1, .int x)] := hl
  have c_m1 : (-1 : Int32).toInt = -1 := by decide
  have c_0 : (0 : Int32).toInt = 0 := by decide
  have c_1 : (1 : Int32).toInt = 1 := by decide
  obtain ⟨H, hHe⟩ : ∃ H : Heap, H = s.heap := ⟨_, rfl⟩
  obtain ⟨locs, hle⟩ : ∃ z : List Loc, z = [] := ⟨_, rfl⟩
  rw [← hHe] at hP
  have hS : va_S A s.heap H locs := by rw [hHe, hle]; exact hS
  suffices hgo : W p l e { frames := 1, cells := 0, slots := 0, locals := 20 } s m (List.toArray [.ref o, .int x]) below meth c H locs 0 0 Q (F0 m 0 ls []) by rw [hHe, hle] at hgo; exact hgo
  refine lv_iload_n hx hb dX0_lostOf_0 rfl (lv_at hl 1 rfl) ?_
  refine calNI (rest := []) (wr := [(o, .inr (0, [.ref oa, .ref ob])), (oa, .inl (cI, 28, .inl oaf)), (ob, .inl (cI, 28, .inl obf))]) hG (c_X8_isToken l dC dI cI cJ base bB bO x ) nl_X0_18 st_X8_isToken ini_X8 cd_X8_isToken hd_X8_isToken.2 ⟨(Nat.le_of_ble_eq_true rfl), (Nat.le_of_ble_eq_true rfl)⟩ (Nat.le_of_ble_eq_true rfl) (Nat.le_of_ble_eq_true rfl) hP hD hS [] [0, 1, 2] rfl rfl rfl rfl (by decide) hl.1 rfl (Nat.le_of_ble_eq_true rfl) dX0_lostOf_1 (fun r1 u H locs hw2 hP hD hS => ?_)
  have hw2 : ((r1.toInt = 1 ∧ 0 ≤ x.toInt ∧ x.toInt ≤ 27) ∨ (r1.toInt = 0 ∧ (x.toInt < 0 ∨ 27 < x.toInt))) ∧ True := hw2
  obtain ⟨hp3, -⟩ := hw2
  have hP : va_P (dC, dI) vwCl [(o, .inr (0, [.ref oa, .ref ob])), (oa, .inl (cI, 28, .inl oaf)), (ob, .inl (cI, 28, .inl obf))] H := hP
  have hD : va_D A [(o, .inr (0, [.ref oa, .ref ob])), (oa, .inl (cI, 28, .inl oaf)), (ob, .inl (cI, 28, .inl obf))] := hD
  refine lv_if_eq (tgt := 16) hx hb dX0_lostOf_4 (by decide) (fun c4 => ?_) (fun c4 => ?_)
  · have c4' := I_eq c4
    refine lv_iconst (v := (-1)) hx hb dX0_lostOf_16 (by decide) ?_
    exact hret (-1) () H locs 17 ls rfl trivial hP hD hS dX0_lostOf_17
  · have c4' := I_ne c4
    refine lv_aload_n hx hb dX0_lostOf_7 rfl (lv_at hl 0 rfl) ?_
    refine va_get (D := (dC, dI)) (ci := 0) (v := .ref ob) (C := RX0) (T := TX0) (N := 2) hx hb hts inG_X0 hown hK hP 0 rfl rfl 1 (by decide) (hts _ fl_X0_15) (fun _ h9 => h9) rfl dX0_lostOf_8 ?_
    refine lv_iload_n hx hb dX0_lostOf_11 rfl (lv_at hl 1 rfl) ?_
    refine va_iald (t0 := 0) hx hb hK hP 2 (ha := rfl) (ht := rfl) (I_in (by omega) (by omega)) dX0_lostOf_12 ?_
    refine lv_topi (fun v5 ev5 => ?_)
    refine lv_goto (tgt := 17) hx hb dX0_lostOf_13 (by decide) ?_
    exact hret v5 () H locs 17 ls rfl trivial hP hD hS dX0_lostOf_17
set_option maxHeartbeats 4000000 in
set_option maxRecDepth 100000 in
theorem c_X0_forgetAll (l : Launch) (dC : Nat → ClassId) (dI : Nat → Nat → Nat) (cI cJ : ClassId) (base bB bO : Nat) (o : Nat) (oa : Nat) (ob : Nat) (oaf : Nat → Int32) (obf : Nat → Int32)  : CtV l dC dI cI cJ base bB bO yX0_forgetAll cX0_forgetAll 2 0 0 0 0 [.ref o] [(o, .inr (0, [.ref oa, .ref ob])), (oa, .inl (cI, 28, .inl oaf)), (ob, .inl (cI, 28, .inl obf))] ((Nat → Int32) × (Nat → Int32)) (fun (u : (Nat → Int32) × (Nat → Int32)) => True) (fun (u : (Nat → Int32) × (Nat → Int32)) => [(o, .inr (0, [.ref oa, .ref ob])), (oa, .inl (cI, 28, .inl u.1)), (ob, .inl (cI, 28, .inl u.2))]) := by
  refine entV (by decide) (Nat.le_of_ble_eq_true rfl) ?_
  intro p e s m below meth c A Q ls hAt hret hP hD hS hl
  obtain ⟨hx, hb, hml, hown, hts, hA, hAb, hK, hE, hlocks, hin⟩ := hAt
  have hG : CG dC dI cI cJ base bB bO cX0_forgetAll 2 RX0 p s m (List.toArray [.ref o]) c A := ⟨hx, hb, hml, hown, hts, hA, hAb, hK, hE⟩
  have hl : lv_has ls 2 [(0, .ref o)] := hl
  have c_0 : (0 : Int32).toInt = 0 := by decide
  have c_1 : (1 : Int32).toInt = 1 := by decide
  have c_28 : (28 : Int32).toInt = 28 := by decide
  obtain ⟨H, hHe⟩ : ∃ H : Heap, H = s.heap := ⟨_, rfl⟩
  obtain ⟨locs, hle⟩ : ∃ z : List Loc, z = [] := ⟨_, rfl⟩
  rw [← hHe] at hP
  have hS : va_S A s.heap H locs := by rw [hHe, hle]; exact hS
  suffices hgo : W p l e { frames := 0, cells := 0, slots := 0, locals := 0 } s m (List.toArray [.ref o]) below meth c H locs 0 0 Q (F0 m 0 ls []) by rw [hHe, hle] at hgo; exact hgo
  refine lv_iconst (v := 0) hx hb dX0_forgetAll_0 (by decide) ?_
  refine lv_istore_n (lv' := [(1, .int 0), (0, .ref o)]) hx hb dX0_forgetAll_1 rfl hl (by decide) rfl (fun ls hl => ?_)
  have J2 : ∀ (n : Nat) (L1_2 : Int32) (oaf_2 : Nat → Int32) (obf_2 : Nat → Int32), (0 ≤ L1_2.toInt ∧ L1_2.toInt ≤ 28) → (28 - L1_2.toInt) < (n : Int) → ∀ (H : Heap) (locs : List Loc) (ls : Array Slot), va_P (dC, dI) vwCl [(o, .inr (0, [.ref oa, .ref ob])), (oa, .inl (cI, 28, .inl oaf_2)), (ob, .inl (cI, 28, .inl obf_2))] H → va_D A [(o, .inr (0, [.ref oa, .ref ob])), (oa, .inl (cI, 28, .inl oaf_2)), (ob, .inl (cI, 28, .inl obf_2))] → va_S A s.heap H locs → lv_has ls 2 [(1, .int L1_2), (0, .ref o)] → W p l e { frames := 0, cells := 0, slots := 0, locals := 0 } s m (List.toArray [.ref o]) below meth c H locs 0 0 Q (F0 m 2 ls []) := by
    intro n
    induction n with
    | zero =>
      intro L1_2 oaf_2 obf_2 hi0_2 hm
      exact absurd hm (by omega)
    | succ n ih2 =>
      intro L1_2 oaf_2 obf_2 hi0_2 hm2 H locs ls hP hD hS hl
      refine lv_iload_n hx hb dX0_forgetAll_2 rfl (lv_at hl 0 rfl) ?_
      refine lv_bipush (v := 28) hx hb dX0_forgetAll_3 (by decide) ?_
      refine lv_icmp_ge (tgt := 28) hx hb dX0_forgetAll_5 (by decide) (fun c1 => ?_) (fun c1 => ?_)
      · have c1' := I_le c1
        exact hret (oaf_2, obf_2) H locs 28 ls trivial hP hD hS dX0_forgetAll_28
      · have c1' := I_nle c1
        refine lv_aload_n hx hb dX0_forgetAll_8 rfl (lv_at hl 1 rfl) ?_
        refine va_get (D := (dC, dI)) (ci := 0) (v := .ref oa) (C := RX0) (T := TX0) (N := 2) hx hb hts inG_X0 hown hK hP 0 rfl rfl 0 (by decide) (hts _ fl_X0_9) (fun _ h9 => h9) rfl dX0_forgetAll_9 ?_
        refine lv_iload_n hx hb dX0_forgetAll_12 rfl (lv_at hl 0 rfl) ?_
        refine lv_iconst (v := 0) hx hb dX0_forgetAll_13 (by decide) ?_
        refine va_iast (t0 := 0) hx hb hK hP hD hS 1 (ha := rfl) (ht := rfl) (I_in (by omega) (by omega)) dX0_forgetAll_14 (fun H locs hP hD hS => ?_)
        have hP : va_P (dC, dI) vwCl [(o, .inr (0, [.ref oa, .ref ob])), (oa, .inl (cI, 28, .inl (upd oaf_2 L1_2.toNatClampNeg 0))), (ob, .inl (cI, 28, .inl obf_2))] H := hP
        have hD : va_D A [(o, .inr (0, [.ref oa, .ref ob])), (oa, .inl (cI, 28, .inl (upd oaf_2 L1_2.toNatClampNeg 0))), (ob, .inl (cI, 28, .inl obf_2))] := hD
        generalize ef2 : upd oaf_2 L1_2.toNatClampNeg 0 = f2 at hP hD
        refine lv_aload_n hx hb dX0_forgetAll_15 rfl (lv_at hl 1 rfl) ?_
        refine va_get (D := (dC, dI)) (ci := 0) (v := .ref ob) (C := RX0) (T := TX0) (N := 2) hx hb hts inG_X0 hown hK hP 0 rfl rfl 1 (by decide) (hts _ fl_X0_15) (fun _ h9 => h9) rfl dX0_forgetAll_16 ?_
        refine lv_iload_n hx hb dX0_forgetAll_19 rfl (lv_at hl 0 rfl) ?_
        refine lv_iconst (v := 0) hx hb dX0_forgetAll_20 (by decide) ?_
        refine va_iast (t0 := 0) hx hb hK hP hD hS 2 (ha := rfl) (ht := rfl) (I_in (by omega) (by omega)) dX0_forgetAll_21 (fun H locs hP hD hS => ?_)
        have hP : va_P (dC, dI) vwCl [(o, .inr (0, [.ref oa, .ref ob])), (oa, .inl (cI, 28, .inl f2)), (ob, .inl (cI, 28, .inl (upd obf_2 L1_2.toNatClampNeg 0)))] H := hP
        have hD : va_D A [(o, .inr (0, [.ref oa, .ref ob])), (oa, .inl (cI, 28, .inl f2)), (ob, .inl (cI, 28, .inl (upd obf_2 L1_2.toNatClampNeg 0)))] := hD
        generalize ef3 : upd obf_2 L1_2.toNatClampNeg 0 = f3 at hP hD
        obtain ⟨v4, ev4⟩ : ∃ y : Int32, y = L1_2 + 1 := ⟨_, rfl⟩
        try have hv4 : v4.toInt = L1_2.toInt + (1 : Int32).toInt := I_addx ev4 (by omega)
        refine lv_iinc (v := v4) (lv' := [(1, .int v4), (0, .ref o)]) hx hb dX0_forgetAll_22 hl (k := 0) rfl (by rw [ev4]; rfl) (by decide) rfl (fun ls hl => ?_)
        refine lv_goto (tgt := 2) hx hb dX0_forgetAll_25 (by decide) ?_
        exact ih2 v4 f2 f3 (by first | assumption | omega) (by omega) H locs ls hP hD hS hl
  exact J2 ((28 - (0 : Int32).toInt).toNat + 1) 0 oaf obf (by first | assumption | omega) (by omega) H locs ls hP hD hS hl
set_option maxHeartbeats 4000000 in
set_option maxRecDepth 100000 in
theorem c_X0_grow (l : Launch) (dC : Nat → ClassId) (dI : Nat → Nat → Nat) (cI cJ : ClassId) (base bB bO : Nat) (o : Nat) (oa : Nat) (ob : Nat) (oaf : Nat → Int32) (obf : Nat → Int32) (mo : Nat) (mof : Nat → Int32)  : CtV l dC dI cI cJ base bB bO yX0_grow cX0_grow 3 0 0 1 40 [.ref o, .ref mo] [(o, .inr (0, [.ref oa, .ref ob])), (oa, .inl (cI, 28, .inl oaf)), (ob, .inl (cI, 28, .inl obf)), (mo, .inl (cI, 28, .inl mof))] ((Nat → Int32) × (Nat → Int32)) (fun (u : (Nat → Int32) × (Nat → Int32)) => True) (fun (u : (Nat → Int32) × (Nat → Int32)) => [(o, .inr (0, [.ref oa, .ref ob])), (oa, .inl (cI, 28, .inl u.1)), (ob, .inl (cI, 28, .inl u.2)), (mo, .inl (cI, 28, .inl mof))]) := by
  refine entV (by decide) (Nat.le_of_ble_eq_true rfl) ?_
  intro p e s m below meth c A Q ls hAt hret hP hD hS hl
  obtain ⟨hx, hb, hml, hown, hts, hA, hAb, hK, hE, hlocks, hin⟩ := hAt
  have hG : CG dC dI cI cJ base bB bO cX0_grow 3 RX0 p s m (List.toArray [.ref o, .ref mo]) c A := ⟨hx, hb, hml, hown, hts, hA, hAb, hK, hE⟩
  have hl : lv_has ls 3 [(0, .ref o), (1, .ref mo)] := hl
  have c_0 : (0 : Int32).toInt = 0 := by decide
  have c_1 : (1 : Int32).toInt = 1 := by decide
  have c_28 : (28 : Int32).toInt = 28 := by decide
  obtain ⟨H, hHe⟩ : ∃ H : Heap, H = s.heap := ⟨_, rfl⟩
  obtain ⟨locs, hle⟩ : ∃ z : List Loc, z = [] := ⟨_, rfl⟩
  rw [← hHe] at hP
  have hS : va_S A s.heap H locs := by rw [hHe, hle]; exact hS
  suffices hgo : W p l e { frames := 1, cells := 0, slots := 0, locals := 40 } s m (List.toArray [.ref o, .ref mo]) below meth c H locs 0 0 Q (F0 m 0 ls []) by rw [hHe, hle] at hgo; exact hgo
  refine lv_iconst (v := 0) hx hb dX0_grow_0 (by decide) ?_
  refine lv_istore_n (lv' := [(2, .int 0), (0, .ref o), (1, .ref mo)]) hx hb dX0_grow_1 rfl hl (by decide) rfl (fun ls hl => ?_)
  have J2 : ∀ (n : Nat) (L2_2 : Int32) (oaf_2 : Nat → Int32) (obf_2 : Nat → Int32), (0 ≤ L2_2.toInt ∧ L2_2.toInt ≤ 28) → (28 - L2_2.toInt) < (n : Int) → ∀ (H : Heap) (locs : List Loc) (ls : Array Slot), va_P (dC, dI) vwCl [(o, .inr (0, [.ref oa, .ref ob])), (oa, .inl (cI, 28, .inl oaf_2)), (ob, .inl (cI, 28, .inl obf_2)), (mo, .inl (cI, 28, .inl mof))] H → va_D A [(o, .inr (0, [.ref oa, .ref ob])), (oa, .inl (cI, 28, .inl oaf_2)), (ob, .inl (cI, 28, .inl obf_2)), (mo, .inl (cI, 28, .inl mof))] → va_S A s.heap H locs → lv_has ls 3 [(2, .int L2_2), (0, .ref o), (1, .ref mo)] → W p l e { frames := 1, cells := 0, slots := 0, locals := 40 } s m (List.toArray [.ref o, .ref mo]) below meth c H locs 0 0 Q (F0 m 2 ls []) := by
    intro n
    induction n with
    | zero =>
      intro L2_2 oaf_2 obf_2 hi0_2 hm
      exact absurd hm (by omega)
    | succ n ih2 =>
      intro L2_2 oaf_2 obf_2 hi0_2 hm2 H locs ls hP hD hS hl
      refine lv_iload_n hx hb dX0_grow_2 rfl (lv_at hl 0 rfl) ?_
      refine lv_bipush (v := 28) hx hb dX0_grow_3 (by decide) ?_
      refine lv_icmp_ge (tgt := 53) hx hb dX0_grow_5 (by decide) (fun c1 => ?_) (fun c1 => ?_)
      · have c1' := I_le c1
        exact hret (oaf_2, obf_2) H locs 53 ls trivial hP hD hS dX0_grow_53
      · have c1' := I_nle c1
        refine lv_iload_n hx hb dX0_grow_8 rfl (lv_at hl 0 rfl) ?_
        refine lv_aload_n hx hb dX0_grow_9 rfl (lv_at hl 2 rfl) ?_
        refine va_alen hx hb hK hP 3 0 (ha := rfl) (ht := rfl) (v := 28) rfl dX0_grow_10 ?_
        refine lv_icmp_ge (tgt := 53) hx hb dX0_grow_11 (by decide) (fun c2 => ?_) (fun c2 => ?_)
        · have c2' := I_le c2
          exact hret (oaf_2, obf_2) H locs 53 ls trivial hP hD hS dX0_grow_53
        · have c2' := I_nle c2
          refine lv_aload_n hx hb dX0_grow_14 rfl (lv_at hl 1 rfl) ?_
          refine va_get (D := (dC, dI)) (ci := 0) (v := .ref oa) (C := RX0) (T := TX0) (N := 2) hx hb hts inG_X0 hown hK hP 0 rfl rfl 0 (by decide) (hts _ fl_X0_9) (fun _ h9 => h9) rfl dX0_grow_15 ?_
          refine lv_iload_n hx hb dX0_grow_18 rfl (lv_at hl 0 rfl) ?_
          refine lv_dup2_11 hx hb dX0_grow_19 rfl rfl ?_
          refine va_iald (t0 := 0) hx hb hK hP 1 (ha := rfl) (ht := rfl) (I_in (by omega) (by omega)) dX0_grow_20 ?_
          refine lv_topi (fun v3 ev3 => ?_)
          refine lv_iconst (v := 0) hx hb dX0_grow_21 (by decide) ?_
          refine lv_aload_n hx hb dX0_grow_22 rfl (lv_at hl 2 rfl) ?_
          refine lv_iload_n hx hb dX0_grow_23 rfl (lv_at hl 0 rfl) ?_
          refine va_iald (t0 := 0) hx hb hK hP 3 (ha := rfl) (ht := rfl) (I_in (by omega) (by omega)) dX0_grow_24 ?_
          refine lv_topi (fun v4 ev4 => ?_)
          refine va_mmax hx hb (by rw [hml]; exact hl.1.symm) hown (hts _ ml_X0_22) (hts _ st_max) (hts _ ini_Math) (hts _ cd_max) (Nat.le_of_ble_eq_true rfl) (Nat.le_of_ble_eq_true rfl) (Nat.le_of_ble_eq_true rfl) (Nat.le_of_ble_eq_true rfl) dX0_grow_25 ?_
          refine lv_topi (fun v5 ev5 => ?_)
          have hv5 := I_max (0 : Int32) v4
          rw [← ev5] at hv5
          refine lv_iadd hx hb dX0_grow_28 ?_
          refine lv_topi (fun v6 ev6 => ?_)
          try have hv6 : v6.toInt = v3.toInt + v5.toInt := I_addx ev6 (by omega)
          refine va_iast (t0 := 0) hx hb hK hP hD hS 1 (ha := rfl) (ht := rfl) (I_in (by omega) (by omega)) dX0_grow_29 (fun H locs hP hD hS => ?_)
          have hP : va_P (dC, dI) vwCl [(o, .inr (0, [.ref oa, .ref ob])), (oa, .inl (cI, 28, .inl (upd oaf_2 L2_2.toNatClampNeg v6))), (ob, .inl (cI, 28, .inl obf_2)), (mo, .inl (cI, 28, .inl mof))] H := hP
          have hD : va_D A [(o, .inr (0, [.ref oa, .ref ob])), (oa, .inl (cI, 28, .inl (upd oaf_2 L2_2.toNatClampNeg v6))), (ob, .inl (cI, 28, .inl obf_2)), (mo, .inl (cI, 28, .inl mof))] := hD
          generalize ef7 : upd oaf_2 L2_2.toNatClampNeg v6 = f7 at hP hD
          refine lv_aload_n hx hb dX0_grow_30 rfl (lv_at hl 1 rfl) ?_
          refine va_get (D := (dC, dI)) (ci := 0) (v := .ref ob) (C := RX0) (T := TX0) (N := 2) hx hb hts inG_X0 hown hK hP 0 rfl rfl 1 (by decide) (hts _ fl_X0_15) (fun _ h9 => h9) rfl dX0_grow_31 ?_
          refine lv_iload_n hx hb dX0_grow_34 rfl (lv_at hl 0 rfl) ?_
          refine lv_dup2_11 hx hb dX0_grow_35 rfl rfl ?_
          refine va_iald (t0 := 0) hx hb hK hP 2 (ha := rfl) (ht := rfl) (I_in (by omega) (by omega)) dX0_grow_36 ?_
          refine lv_topi (fun v8 ev8 => ?_)
          refine lv_iconst (v := 0) hx hb dX0_grow_37 (by decide) ?_
          refine lv_aload_n hx hb dX0_grow_38 rfl (lv_at hl 2 rfl) ?_
          refine lv_iload_n hx hb dX0_grow_39 rfl (lv_at hl 0 rfl) ?_
          refine va_iald (t0 := 0) hx hb hK hP 3 (ha := rfl) (ht := rfl) (I_in (by omega) (by omega)) dX0_grow_40 ?_
          refine lv_topi (fun v9 ev9 => ?_)
          refine lv_ineg hx hb dX0_grow_41 ?_
          refine lv_topi (fun v10 ev10 => ?_)
          refine va_mmax hx hb (by rw [hml]; exact hl.1.symm) hown (hts _ ml_X0_22) (hts _ st_max) (hts _ ini_Math) (hts _ cd_max) (Nat.le_of_ble_eq_true rfl) (Nat.le_of_ble_eq_true rfl) (Nat.le_of_ble_eq_true rfl) (Nat.le_of_ble_eq_true rfl) dX0_grow_42 ?_
          refine lv_topi (fun v11 ev11 => ?_)
          have hv11 := I_max (0 : Int32) v10
          rw [← ev11] at hv11
          refine lv_iadd hx hb dX0_grow_45 ?_
          refine lv_topi (fun v12 ev12 => ?_)
          try have hv12 : v12.toInt = v8.toInt + v11.toInt := I_addx ev12 (by omega)
          refine va_iast (t0 := 0) hx hb hK hP hD hS 2 (ha := rfl) (ht := rfl) (I_in (by omega) (by omega)) dX0_grow_46 (fun H locs hP hD hS => ?_)
          have hP : va_P (dC, dI) vwCl [(o, .inr (0, [.ref oa, .ref ob])), (oa, .inl (cI, 28, .inl f7)), (ob, .inl (cI, 28, .inl (upd obf_2 L2_2.toNatClampNeg v12))), (mo, .inl (cI, 28, .inl mof))] H := hP
          have hD : va_D A [(o, .inr (0, [.ref oa, .ref ob])), (oa, .inl (cI, 28, .inl f7)), (ob, .inl (cI, 28, .inl (upd obf_2 L2_2.toNatClampNeg v12))), (mo, .inl (cI, 28, .inl mof))] := hD
          generalize ef13 : upd obf_2 L2_2.toNatClampNeg v12 = f13 at hP hD
          obtain ⟨v14, ev14⟩ : ∃ y : Int32, y = L2_2 + 1 := ⟨_, rfl⟩
          try have hv14 : v14.toInt = L2_2.toInt + (1 : Int32).toInt := I_addx ev14 (by omega)
          refine lv_iinc (v := v14) (lv' := [(2, .int v14), (0, .ref o), (1, .ref mo)]) hx hb dX0_grow_47 hl (k := 0) rfl (by rw [ev14]; rfl) (by decide) rfl (fun ls hl => ?_)
          refine lv_goto (tgt := 2) hx hb dX0_grow_50 (by decide) ?_
          exact ih2 v14 f7 f13 (by first | assumption | omega) (by omega) H locs ls hP hD hS hl
  exact J2 ((28 - (0 : Int32).toInt).toNat + 1) 0 oaf obf (by first | assumption | omega) (by omega) H locs ls hP hD hS hl
set_option maxHeartbeats 4000000 in
set_option maxRecDepth 100000 in
theorem c_X0_rankOf (l : Launch) (dC : Nat → ClassId) (dI : Nat → Nat → Nat) (cI cJ : ClassId) (base bB bO : Nat) (o : Nat) (oa : Nat) (ob : Nat) (oaf : Nat → Int32) (obf : Nat → Int32) (mo : Nat) (mof : Nat → Int32)  : CtI l dC dI cI cJ base bB bO yX0_rankOf cX0_rankOf 4 .int 0 0 [.ref o, .ref mo] [(o, .inr (0, [.ref oa, .ref ob])), (oa, .inl (cI, 28, .inl oaf)), (ob, .inl (cI, 28, .inl obf)), (mo, .inl (cI, 28, .inl mof))] (Unit) (fun (res : Int32) (u : Unit) => True) (fun (u : Unit) => [(o, .inr (0, [.ref oa, .ref ob])), (oa, .inl (cI, 28, .inl oaf)), (ob, .inl (cI, 28, .inl obf)), (mo, .inl (cI, 28, .inl mof))]) := by
  refine entI (by decide) (Nat.le_of_ble_eq_true rfl) ?_
  intro p e s m below meth c A Q ls hAt hret hP hD hS hl
  obtain ⟨hx, hb, hml, hown, hts, hA, hAb, hK, hE, hlocks, hin⟩ := hAt
  have hG : CG dC dI cI cJ base bB bO cX0_rankOf 4 RX0 p s m (List.toArray [.ref o, .ref mo]) c A := ⟨hx, hb, hml, hown, hts, hA, hAb, hK, hE⟩
  have hl : lv_has ls 4 [(0, .ref o), (1, .ref mo)] := hl
  have c_0 : (0 : Int32).toInt = 0 := by decide
  have c_1 : (1 : Int32).toInt = 1 := by decide
  have c_28 : (28 : Int32).toInt = 28 := by decide
  obtain ⟨H, hHe⟩ : ∃ H : Heap, H = s.heap := ⟨_, rfl⟩
  obtain ⟨locs, hle⟩ : ∃ z : List Loc, z = [] := ⟨_, rfl⟩
  rw [← hHe] at hP
  have hS : va_S A s.heap H locs := by rw [hHe, hle]; exact hS
  suffices hgo : W p l e { frames := 0, cells := 0, slots := 0, locals := 0 } s m (List.toArray [.ref o, .ref mo]) below meth c H locs 0 0 Q (F0 m 0 ls []) by rw [hHe, hle] at hgo; exact hgo
  refine lv_iconst (v := 0) hx hb dX0_rankOf_0 (by decide) ?_
  refine lv_istore_n (lv' := [(2, .int 0), (0, .ref o), (1, .ref mo)]) hx hb dX0_rankOf_1 rfl hl (by decide) rfl (fun ls hl => ?_)
  refine lv_iconst (v := 0) hx hb dX0_rankOf_2 (by decide) ?_
  refine lv_istore_n (lv' := [(3, .int 0), (2, .int 0), (0, .ref o), (1, .ref mo)]) hx hb dX0_rankOf_3 rfl hl (by decide) rfl (fun ls hl => ?_)
  have J4 : ∀ (n : Nat) (L3_4 : Int32) (L2_4 : Int32), (0 ≤ L3_4.toInt ∧ L3_4.toInt ≤ 28) → (28 - L3_4.toInt) < (n : Int) → ∀ (H : Heap) (locs : List Loc) (ls : Array Slot), va_P (dC, dI) vwCl [(o, .inr (0, [.ref oa, .ref ob])), (oa, .inl (cI, 28, .inl oaf)), (ob, .inl (cI, 28, .inl obf)), (mo, .inl (cI, 28, .inl mof))] H → va_D A [(o, .inr (0, [.ref oa, .ref ob])), (oa, .inl (cI, 28, .inl oaf)), (ob, .inl (cI, 28, .inl obf)), (mo, .inl (cI, 28, .inl mof))] → va_S A s.heap H locs → lv_has ls 4 [(3, .int L3_4), (2, .int L2_4), (0, .ref o), (1, .ref mo)] → W p l e { frames := 0, cells := 0, slots := 0, locals := 0 } s m (List.toArray [.ref o, .ref mo]) below meth c H locs 0 0 Q (F0 m 4 ls []) := by
    intro n
    induction n with
    | zero =>
      intro L3_4 L2_4 hi0_4 hm
      exact absurd hm (by omega)
    | succ n ih4 =>
      intro L3_4 L2_4 hi0_4 hm4 H locs ls hP hD hS hl
      refine lv_iload_n hx hb dX0_rankOf_4 rfl (lv_at hl 0 rfl) ?_
      refine lv_bipush (v := 28) hx hb dX0_rankOf_5 (by decide) ?_
      refine lv_icmp_ge (tgt := 55) hx hb dX0_rankOf_7 (by decide) (fun c1 => ?_) (fun c1 => ?_)
      · have c1' := I_le c1
        refine lv_iload_n hx hb dX0_rankOf_55 rfl (lv_at hl 1 rfl) ?_
        exact hret L2_4 () H locs 56 ls rfl trivial hP hD hS dX0_rankOf_56
      · have c1' := I_nle c1
        refine lv_iload_n hx hb dX0_rankOf_10 rfl (lv_at hl 0 rfl) ?_
        refine lv_aload_n hx hb dX0_rankOf_11 rfl (lv_at hl 3 rfl) ?_
        refine va_alen hx hb hK hP 3 0 (ha := rfl) (ht := rfl) (v := 28) rfl dX0_rankOf_12 ?_
        refine lv_icmp_ge (tgt := 55) hx hb dX0_rankOf_13 (by decide) (fun c2 => ?_) (fun c2 => ?_)
        · have c2' := I_le c2
          refine lv_iload_n hx hb dX0_rankOf_55 rfl (lv_at hl 1 rfl) ?_
          exact hret L2_4 () H locs 56 ls rfl trivial hP hD hS dX0_rankOf_56
        · have c2' := I_nle c2
          refine lv_iload_n hx hb dX0_rankOf_16 rfl (lv_at hl 1 rfl) ?_
          refine lv_aload_n hx hb dX0_rankOf_17 rfl (lv_at hl 3 rfl) ?_
          refine lv_iload_n hx hb dX0_rankOf_18 rfl (lv_at hl 0 rfl) ?_
          refine va_iald (t0 := 0) hx hb hK hP 3 (ha := rfl) (ht := rfl) (I_in (by omega) (by omega)) dX0_rankOf_19 ?_
          refine lv_topi (fun v3 ev3 => ?_)
          refine lv_if_le (tgt := 36) hx hb dX0_rankOf_20 (by decide) (fun c4 => ?_) (fun c4 => ?_)
          · have c4' := I_le c4
            refine lv_aload_n hx hb dX0_rankOf_36 rfl (lv_at hl 3 rfl) ?_
            refine lv_iload_n hx hb dX0_rankOf_37 rfl (lv_at hl 0 rfl) ?_
            refine va_iald (t0 := 0) hx hb hK hP 3 (ha := rfl) (ht := rfl) (I_in (by omega) (by omega)) dX0_rankOf_38 ?_
            refine lv_topi (fun v5 ev5 => ?_)
            refine lv_ineg hx hb dX0_rankOf_39 ?_
            refine lv_topi (fun v6 ev6 => ?_)
            refine lv_aload_n hx hb dX0_rankOf_40 rfl (lv_at hl 2 rfl) ?_
            refine va_get (D := (dC, dI)) (ci := 0) (v := .ref ob) (C := RX0) (T := TX0) (N := 2) hx hb hts inG_X0 hown hK hP 0 rfl rfl 1 (by decide) (hts _ fl_X0_15) (fun _ h9 => h9) rfl dX0_rankOf_41 ?_
            refine lv_iload_n hx hb dX0_rankOf_44 rfl (lv_at hl 0 rfl) ?_
            refine va_iald (t0 := 0) hx hb hK hP 2 (ha := rfl) (ht := rfl) (I_in (by omega) (by omega)) dX0_rankOf_45 ?_
            refine lv_topi (fun v7 ev7 => ?_)
            refine lv_imul hx hb dX0_rankOf_46 ?_
            refine lv_topi (fun v8 ev8 => ?_)
            refine lv_iadd hx hb dX0_rankOf_47 ?_
            refine lv_topi (fun v9 ev9 => ?_)
            try have hv9 : v9.toInt = L2_4.toInt + v8.toInt := I_addx ev9 (by omega)
            refine lv_istore_n (lv' := [(2, .int v9), (3, .int L3_4), (0, .ref o), (1, .ref mo)]) hx hb dX0_rankOf_48 rfl hl (by decide) rfl (fun ls hl => ?_)
            obtain ⟨v10, ev10⟩ : ∃ y : Int32, y = L3_4 + 1 := ⟨_, rfl⟩
            try have hv10 : v10.toInt = L3_4.toInt + (1 : Int32).toInt := I_addx ev10 (by omega)
            refine lv_iinc (v := v10) (lv' := [(3, .int v10), (2, .int v9), (0, .ref o), (1, .ref mo)]) hx hb dX0_rankOf_49 hl (k := 1) rfl (by rw [ev10]; rfl) (by decide) rfl (fun ls hl => ?_)
            refine lv_goto (tgt := 4) hx hb dX0_rankOf_52 (by decide) ?_
            exact ih4 v10 v9 (by first | assumption | omega) (by omega) H locs ls hP hD hS hl
          · have c4' := I_nle c4
            refine lv_aload_n hx hb dX0_rankOf_23 rfl (lv_at hl 3 rfl) ?_
            refine lv_iload_n hx hb dX0_rankOf_24 rfl (lv_at hl 0 rfl) ?_
            refine va_iald (t0 := 0) hx hb hK hP 3 (ha := rfl) (ht := rfl) (I_in (by omega) (by omega)) dX0_rankOf_25 ?_
            refine lv_topi (fun v11 ev11 => ?_)
            refine lv_aload_n hx hb dX0_rankOf_26 rfl (lv_at hl 2 rfl) ?_
            refine va_get (D := (dC, dI)) (ci := 0) (v := .ref oa) (C := RX0) (T := TX0) (N := 2) hx hb hts inG_X0 hown hK hP 0 rfl rfl 0 (by decide) (hts _ fl_X0_9) (fun _ h9 => h9) rfl dX0_rankOf_27 ?_
            refine lv_iload_n hx hb dX0_rankOf_30 rfl (lv_at hl 0 rfl) ?_
            refine va_iald (t0 := 0) hx hb hK hP 1 (ha := rfl) (ht := rfl) (I_in (by omega) (by omega)) dX0_rankOf_31 ?_
            refine lv_topi (fun v12 ev12 => ?_)
            refine lv_imul hx hb dX0_rankOf_32 ?_
            refine lv_topi (fun v13 ev13 => ?_)
            refine lv_goto (tgt := 47) hx hb dX0_rankOf_33 (by decide) ?_
            refine lv_iadd hx hb dX0_rankOf_47 ?_
            refine lv_topi (fun v14 ev14 => ?_)
            try have hv14 : v14.toInt = L2_4.toInt + v13.toInt := I_addx ev14 (by omega)
            refine lv_istore_n (lv' := [(2, .int v14), (3, .int L3_4), (0, .ref o), (1, .ref mo)]) hx hb dX0_rankOf_48 rfl hl (by decide) rfl (fun ls hl => ?_)
            obtain ⟨v15, ev15⟩ : ∃ y : Int32, y = L3_4 + 1 := ⟨_, rfl⟩
            try have hv15 : v15.toInt = L3_4.toInt + (1 : Int32).toInt := I_addx ev15 (by omega)
            refine lv_iinc (v := v15) (lv' := [(3, .int v15), (2, .int v14), (0, .ref o), (1, .ref mo)]) hx hb dX0_rankOf_49 hl (k := 1) rfl (by rw [ev15]; rfl) (by decide) rfl (fun ls hl => ?_)
            refine lv_goto (tgt := 4) hx hb dX0_rankOf_52 (by decide) ?_
            exact ih4 v15 v14 (by first | assumption | omega) (by omega) H locs ls hP hD hS hl
  exact J4 ((28 - (0 : Int32).toInt).toNat + 1) 0 0 (by first | assumption | omega) (by omega) H locs ls hP hD hS hl
set_option maxHeartbeats 4000000 in
set_option maxRecDepth 100000 in
theorem c_X7_size (l : Launch) (dC : Nat → ClassId) (dI : Nat → Nat → Nat) (cI cJ : ClassId) (base bB bO : Nat) (z : Nat) (zc : Nat) (zs : Int32) (zcf : Nat → Int32)  : CtI l dC dI cI cJ base bB bO yX7_size cX7_size 1 .int 0 0 [.ref z] [(z, .inr (6, [.ref zc, .int zs])), (zc, .inl (cI, 40, .inl zcf))] (Unit) (fun (res : Int32) (u : Unit) => (res = zs) ∧ True) (fun (u : Unit) => [(z, .inr (6, [.ref zc, .int zs])), (zc, .inl (cI, 40, .inl zcf))]) := by
  refine entI (by decide) (Nat.le_of_ble_eq_true rfl) ?_
  intro p e s m below meth c A Q ls hAt hret hP hD hS hl
  obtain ⟨hx, hb, hml, hown, hts, hA, hAb, hK, hE, hlocks, hin⟩ := hAt
  have hG : CG dC dI cI cJ base bB bO cX7_size 1 RX7 p s m (List.toArray [.ref z]) c A := ⟨hx, hb, hml, hown, hts, hA, hAb, hK, hE⟩
  have hl : lv_has ls 1 [(0, .ref z)] := hl
  have c_0 : (0 : Int32).toInt = 0 := by decide
  have c_1 : (1 : Int32).toInt = 1 := by decide
  obtain ⟨H, hHe⟩ : ∃ H : Heap, H = s.heap := ⟨_, rfl⟩
  obtain ⟨locs, hle⟩ : ∃ z : List Loc, z = [] := ⟨_, rfl⟩
  rw [← hHe] at hP
  have hS : va_S A s.heap H locs := by rw [hHe, hle]; exact hS
  suffices hgo : W p l e { frames := 0, cells := 0, slots := 0, locals := 0 } s m (List.toArray [.ref z]) below meth c H locs 0 0 Q (F0 m 0 ls []) by rw [hHe, hle] at hgo; exact hgo
  refine lv_aload_n hx hb dX7_size_0 rfl (lv_at hl 0 rfl) ?_
  refine va_get (D := (dC, dI)) (ci := 6) (v := .int zs) (C := RX7) (T := TX7) (N := 2) hx hb hts inG_X7 hown hK hP 0 rfl rfl 1 (by decide) (hts _ fl_X7_15) (fun _ h9 => h9) rfl dX7_size_1 ?_
  exact hret zs () H locs 4 ls rfl ⟨(show zs = zs from by first | rfl | assumption | omega), trivial⟩ hP hD hS dX7_size_4
set_option maxHeartbeats 4000000 in
set_option maxRecDepth 100000 in
theorem c_X7_add (l : Launch) (dC : Nat → ClassId) (dI : Nat → Nat → Nat) (cI cJ : ClassId) (base bB bO : Nat) (z : Nat) (zc : Nat) (zs : Int32) (zcf : Nat → Int32) (nb : Nat) (nbf : Nat → Int32) (x : Int32) (hq0 : 0 ≤ zs.toInt ∧ zs.toInt ≤ 8) : CtV l dC dI cI cJ base bB bO yX7_add cX7_add 4 0 0 0 0 [.ref z, .ref nb, .int x] [(z, .inr (6, [.ref zc, .int zs])), (zc, .inl (cI, 40, .inl zcf)), (nb, .inl (cI, 4, .inl nbf))] ((Int32) × (Nat → Int32)) (fun (u : (Int32) × (Nat → Int32)) => (0 ≤ u.1.toInt ∧ u.1.toInt ≤ 8) ∧ ((zs.toInt < 8 ∧ u.1.toInt = zs.toInt + 1) ∨ (8 ≤ zs.toInt ∧ u.1.toInt = zs.toInt)) ∧ True) (fun (u : (Int32) × (Nat → Int32)) => [(z, .inr (6, [.ref zc, .int u.1])), (zc, .inl (cI, 40, .inl u.2)), (nb, .inl (cI, 4, .inl nbf))]) := by
  refine entV (by decide) (Nat.le_of_ble_eq_true rfl) ?_
  intro p e s m below meth c A Q ls hAt hret hP hD hS hl
  obtain ⟨hx, hb, hml, hown, hts, hA, hAb, hK, hE, hlocks, hin⟩ := hAt
  have hG : CG dC dI cI cJ base bB bO cX7_add 4 RX7 p s m (List.toArray [.ref z, .ref nb, .int x]) c A := ⟨hx, hb, hml, hown, hts, hA, hAb, hK, hE⟩
  have hl : lv_has ls 4 [(0, .ref z), (1, .ref nb), (2, .int x)] := hl
  have c_0 : (0 : Int32).toInt = 0 := by decide
  have c_1 : (1 : Int32).toInt = 1 := by decide
  have c_4 : (4 : Int32).toInt = 4 := by decide
  have c_5 : (5 : Int32).toInt = 5 := by decide
  have c_8 : (8 : Int32).toInt = 8 := by decide
  obtain ⟨H, hHe⟩ : ∃ H : Heap, H = s.heap := ⟨_, rfl⟩
  obtain ⟨locs, hle⟩ : ∃ z : List Loc, z = [] := ⟨_, rfl⟩
  rw [← hHe] at hP
  have hS : va_S A s.heap H locs := by rw [hHe, hle]; exact hS
  suffices hgo : W p l e { frames := 0, cells := 0, slots := 0, locals := 0 } s m (List.toArray [.ref z, .ref nb, .int x]) below meth c H locs 0 0 Q (F0 m 0 ls []) by rw [hHe, hle] at hgo; exact hgo
  refine lv_aload_n hx hb dX7_add_0 rfl (lv_at hl 0 rfl) ?_
  refine va_get (D := (dC, dI)) (ci := 6) (v := .int zs) (C := RX7) (T := TX7) (N := 2) hx hb hts inG_X7 hown hK hP 0 rfl rfl 1 (by decide) (hts _ fl_X7_15) (fun _ h9 => h9) rfl dX7_add_1 ?_
  refine lv_bipush (v := 8) hx hb dX7_add_4 (by decide) ?_
  refine lv_icmp_ge (tgt := 68) hx hb dX7_add_6 (by decide) (fun c1 => ?_) (fun c1 => ?_)
  · have c1' := I_le c1
    exact hret (zs, zcf) H locs 68 ls ⟨(show 0 ≤ zs.toInt ∧ zs.toInt ≤ 8 from by first | rfl | assumption | omega), (show (zs.toInt < 8 ∧ zs.toInt = zs.toInt + 1) ∨ (8 ≤ zs.toInt ∧ zs.toInt = zs.toInt) from by first | rfl | assumption | omega), trivial⟩ hP hD hS dX7_add_68
  · have c1' := I_nle c1
    refine lv_aload_n hx hb dX7_add_9 rfl (lv_at hl 1 rfl) ?_
    refine va_alen hx hb hK hP 2 0 (ha := rfl) (ht := rfl) (v := 4) rfl dX7_add_10 ?_
    refine lv_iconst (v := 4) hx hb dX7_add_11 (by decide) ?_
    refine lv_icmp_lt (tgt := 68) hx hb dX7_add_12 (by decide) (fun c2 => ?_) (fun c2 => ?_)
    · have c2' := I_lt c2
      exact absurd c2 (by decide)
    · have c2' := I_nlt c2
      refine lv_iconst (v := 0) hx hb dX7_add_15 (by decide) ?_
      refine lv_istore_n (lv' := [(3, .int 0), (0, .ref z), (1, .ref nb), (2, .int x)]) hx hb dX7_add_16 rfl hl (by decide) rfl (fun ls hl => ?_)
      have J17 : ∀ (n : Nat) (L3_17 : Int32) (zcf_17 : Nat → Int32), (0 ≤ L3_17.toInt ∧ L3_17.toInt ≤ 4) → (4 - L3_17.toInt) < (n : Int) → ∀ (H : Heap) (locs : List Loc) (ls : Array Slot), va_P (dC, dI) vwCl [(z, .inr (6, [.ref zc, .int zs])), (zc, .inl (cI, 40, .inl zcf_17)), (nb, .inl (cI, 4, .inl nbf))] H → va_D A [(z, .inr (6, [.ref zc, .int zs])), (zc, .inl (cI, 40, .inl zcf_17)), (nb, .inl (cI, 4, .inl nbf))] → va_S A s.heap H locs → lv_has ls 4 [(3, .int L3_17), (0, .ref z), (1, .ref nb), (2, .int x)] → W p l e { frames := 0, cells := 0, slots := 0, locals := 0 } s m (List.toArray [.ref z, .ref nb, .int x]) below meth c H locs 0 0 Q (F0 m 17 ls []) := by
        intro n
        induction n with
        | zero =>
          intro L3_17 zcf_17 hi0_17 hm
          exact absurd hm (by omega)
        | succ n ih17 =>
          intro L3_17 zcf_17 hi0_17 hm17 H locs ls hP hD hS hl
          refine lv_iload_n hx hb dX7_add_17 rfl (lv_at hl 0 rfl) ?_
          refine lv_iconst (v := 4) hx hb dX7_add_18 (by decide) ?_
          refine lv_icmp_ge (tgt := 44) hx hb dX7_add_19 (by decide) (fun c3 => ?_) (fun c3 => ?_)
          · have c3' := I_le c3
            refine lv_aload_n hx hb dX7_add_44 rfl (lv_at hl 1 rfl) ?_
            refine va_get (D := (dC, dI)) (ci := 6) (v := .ref zc) (C := RX7) (T := TX7) (N := 2) hx hb hts inG_X7 hown hK hP 0 rfl rfl 0 (by decide) (hts _ fl_X7_11) (fun _ h9 => h9) rfl dX7_add_45 ?_
            refine lv_aload_n hx hb dX7_add_48 rfl (lv_at hl 1 rfl) ?_
            refine va_get (D := (dC, dI)) (ci := 6) (v := .int zs) (C := RX7) (T := TX7) (N := 2) hx hb hts inG_X7 hown hK hP 0 rfl rfl 1 (by decide) (hts _ fl_X7_15) (fun _ h9 => h9) rfl dX7_add_49 ?_
            refine lv_iconst (v := 5) hx hb dX7_add_52 (by decide) ?_
            refine lv_imul hx hb dX7_add_53 ?_
            refine lv_topi (fun v4 ev4 => ?_)
            try have hv4 := I_mulx (5) ev4 (by decide) (by omega)
            refine lv_iconst (v := 4) hx hb dX7_add_54 (by decide) ?_
            refine lv_iadd hx hb dX7_add_55 ?_
            refine lv_topi (fun v5 ev5 => ?_)
            try have hv5 : v5.toInt = v4.toInt + (4 : Int32).toInt := I_addx ev5 (by omega)
            refine lv_iload_n hx hb dX7_add_56 rfl (lv_at hl 3 rfl) ?_
            refine va_iast (t0 := 0) hx hb hK hP hD hS 1 (ha := rfl) (ht := rfl) (I_in (by omega) (by omega)) dX7_add_57 (fun H locs hP hD hS => ?_)
            have hP : va_P (dC, dI) vwCl [(z, .inr (6, [.ref zc, .int zs])), (zc, .inl (cI, 40, .inl (upd zcf_17 v5.toNatClampNeg x))), (nb, .inl (cI, 4, .inl nbf))] H := hP
            have hD : va_D A [(z, .inr (6, [.ref zc, .int zs])), (zc, .inl (cI, 40, .inl (upd zcf_17 v5.toNatClampNeg x))), (nb, .inl (cI, 4, .inl nbf))] := hD
            generalize ef6 : upd zcf_17 v5.toNatClampNeg x = f6 at hP hD
            refine lv_aload_n hx hb dX7_add_58 rfl (lv_at hl 1 rfl) ?_
            refine lv_dup hx hb dX7_add_59 rfl ?_
            refine va_get (D := (dC, dI)) (ci := 6) (v := .int zs) (C := RX7) (T := TX7) (N := 2) hx hb hts inG_X7 hown hK hP 0 rfl rfl 1 (by decide) (hts _ fl_X7_15) (fun _ h9 => h9) rfl dX7_add_60 ?_
            refine lv_iconst (v := 1) hx hb dX7_add_63 (by decide) ?_
            refine lv_iadd hx hb dX7_add_64 ?_
            refine lv_topi (fun v7 ev7 => ?_)
            try have hv7 : v7.toInt = zs.toInt + (1 : Int32).toInt := I_addx ev7 (by omega)
            refine va_put (D := (dC, dI)) (ci := 6) (v := .int v7) (ty := .int) (C := RX7) (T := TX7) (N := 2) hx hb hts inG_X7 tyX7 tyX7_ok nmX7 hown hK hP hD hS 0 rfl rfl 1 (by decide) (hts _ fl_X7_15) (fun _ h9 => h9) rfl (by decide +kernel) rfl rfl (Nat.le_of_ble_eq_true rfl) dX7_add_65 (fun H locs hP hD hS => ?_)
            have hP : va_P (dC, dI) vwCl [(z, .inr (6, [.ref zc, .int v7])), (zc, .inl (cI, 40, .inl f6)), (nb, .inl (cI, 4, .inl nbf))] H := hP
            have hD : va_D A [(z, .inr (6, [.ref zc, .int v7])), (zc, .inl (cI, 40, .inl f6)), (nb, .inl (cI, 4, .inl nbf))] := hD
            exact hret (v7, f6) H locs 68 ls ⟨(show 0 ≤ v7.toInt ∧ v7.toInt ≤ 8 from by first | rfl | assumption | omega), (show (zs.toInt < 8 ∧ v7.toInt = zs.toInt + 1) ∨ (8 ≤ zs.toInt ∧ v7.toInt = zs.toInt) from by first | rfl | assumption | omega), trivial⟩ hP hD hS dX7_add_68
          · have c3' := I_nle c3
            refine lv_aload_n hx hb dX7_add_22 rfl (lv_at hl 1 rfl) ?_
            refine va_get (D := (dC, dI)) (ci := 6) (v := .ref zc) (C := RX7) (T := TX7) (N := 2) hx hb hts inG_X7 hown hK hP 0 rfl rfl 0 (by decide) (hts _ fl_X7_11) (fun _ h9 => h9) rfl dX7_add_23 ?_
            refine lv_aload_n hx hb dX7_add_26 rfl (lv_at hl 1 rfl) ?_
            refine va_get (D := (dC, dI)) (ci := 6) (v := .int zs) (C := RX7) (T := TX7) (N := 2) hx hb hts inG_X7 hown hK hP 0 rfl rfl 1 (by decide) (hts _ fl_X7_15) (fun _ h9 => h9) rfl dX7_add_27 ?_
            refine lv_iconst (v := 5) hx hb dX7_add_30 (by decide) ?_
            refine lv_imul hx hb dX7_add_31 ?_
            refine lv_topi (fun v8 ev8 => ?_)
            try have hv8 := I_mulx (5) ev8 (by decide) (by omega)
            refine lv_iload_n hx hb dX7_add_32 rfl (lv_at hl 0 rfl) ?_
            refine lv_iadd hx hb dX7_add_33 ?_
            refine lv_topi (fun v9 ev9 => ?_)
            try have hv9 : v9.toInt = v8.toInt + L3_17.toInt := I_addx ev9 (by omega)
            refine lv_aload_n hx hb dX7_add_34 rfl (lv_at hl 2 rfl) ?_
            refine lv_iload_n hx hb dX7_add_35 rfl (lv_at hl 0 rfl) ?_
            refine va_iald (t0 := 0) hx hb hK hP 2 (ha := rfl) (ht := rfl) (I_in (by omega) (by omega)) dX7_add_36 ?_
            refine lv_topi (fun v10 ev10 => ?_)
            refine va_iast (t0 := 0) hx hb hK hP hD hS 1 (ha := rfl) (ht := rfl) (I_in (by omega) (by omega)) dX7_add_37 (fun H locs hP hD hS => ?_)
            have hP : va_P (dC, dI) vwCl [(z, .inr (6, [.ref zc, .int zs])), (zc, .inl (cI, 40, .inl (upd zcf_17 v9.toNatClampNeg v10))), (nb, .inl (cI, 4, .inl nbf))] H := hP
            have hD : va_D A [(z, .inr (6, [.ref zc, .int zs])), (zc, .inl (cI, 40, .inl (upd zcf_17 v9.toNatClampNeg v10))), (nb, .inl (cI, 4, .inl nbf))] := hD
            generalize ef11 : upd zcf_17 v9.toNatClampNeg v10 = f11 at hP hD
            obtain ⟨v12, ev12⟩ : ∃ y : Int32, y = L3_17 + 1 := ⟨_, rfl⟩
            try have hv12 : v12.toInt = L3_17.toInt + (1 : Int32).toInt := I_addx ev12 (by omega)
            refine lv_iinc (v := v12) (lv' := [(3, .int v12), (0, .ref z), (1, .ref nb), (2, .int x)]) hx hb dX7_add_38 hl (k := 0) rfl (by rw [ev12]; rfl) (by decide) rfl (fun ls hl => ?_)
            refine lv_goto (tgt := 17) hx hb dX7_add_41 (by decide) ?_
            exact ih17 v12 f11 (by first | assumption | omega) (by omega) H locs ls hP hD hS hl
      exact J17 ((4 - (0 : Int32).toInt).toNat + 1) 0 zcf (by first | assumption | omega) (by omega) H locs ls hP hD hS hl
set_option maxHeartbeats 4000000 in
set_option maxRecDepth 100000 in
theorem c_X7_removeAt (l : Launch) (dC : Nat → ClassId) (dI : Nat → Nat → Nat) (cI cJ : ClassId) (base bB bO : Nat) (z : Nat) (zc : Nat) (zs : Int32) (zcf : Nat → Int32) (i : Int32) (hq0 : 0 ≤ zs.toInt ∧ zs.toInt ≤ 8) : CtV l dC dI cI cJ base bB bO yX7_removeAt cX7_removeAt 3 0 0 0 0 [.ref z, .int i] [(z, .inr (6, [.ref zc, .int zs])), (zc, .inl (cI, 40, .inl zcf))] ((Int32) × (Nat → Int32)) (fun (u : (Int32) × (Nat → Int32)) => (0 ≤ u.1.toInt ∧ u.1.toInt ≤ 8) ∧ ((0 ≤ i.toInt ∧ i.toInt < zs.toInt ∧ u.1.toInt = zs.toInt - 1) ∨ ((i.toInt < 0 ∨ zs.toInt ≤ i.toInt) ∧ u.1.toInt = zs.toInt)) ∧ True) (fun (u : (Int32) × (Nat → Int32)) => [(z, .inr (6, [.ref zc, .int u.1])), (zc, .inl (cI, 40, .inl u.2))]) := by
  refine entV (by decide) (Nat.le_of_ble_eq_true rfl) ?_
  intro p e s m below meth c A Q ls hAt hret hP hD hS hl
  obtain ⟨hx, hb, hml, hown, hts, hA, hAb, hK, hE, hlocks, hin⟩ := hAt
  have hG : CG dC dI cI cJ base bB bO cX7_removeAt 3 RX7 p s m (List.toArray [.ref z, .int i]) c A := ⟨hx, hb, hml, hown, hts, hA, hAb, hK, hE⟩
  have hl : lv_has ls 3 [(0, .ref z), (1, .int i)] := hl
  have c_0 : (0 : Int32).toInt = 0 := by decide
  have c_1 : (1 : Int32).toInt = 1 := by decide
  have c_5 : (5 : Int32).toInt = 5 := by decide
  obtain ⟨H, hHe⟩ : ∃ H : Heap, H = s.heap := ⟨_, rfl⟩
  obtain ⟨locs, hle⟩ : ∃ z : List Loc, z = [] := ⟨_, rfl⟩
  rw [← hHe] at hP
  have hS : va_S A s.heap H locs := by rw [hHe, hle]; exact hS
  suffices hgo : W p l e { frames := 0, cells := 0, slots := 0, locals := 0 } s m (List.toArray [.ref z, .int i]) below meth c H locs 0 0 Q (F0 m 0 ls []) by rw [hHe, hle] at hgo; exact hgo
  refine lv_iload_n hx hb dX7_removeAt_0 rfl (lv_at hl 1 rfl) ?_
  refine lv_if_lt (tgt := 58) hx hb dX7_removeAt_1 (by decide) (fun c1 => ?_) (fun c1 => ?_)
  · have c1' := I_lt c1
    exact hret (zs, zcf) H locs 58 ls ⟨(show 0 ≤ zs.toInt ∧ zs.toInt ≤ 8 from by first | rfl | assumption | omega), (show (0 ≤ i.toInt ∧ i.toInt < zs.toInt ∧ zs.toInt = zs.toInt - 1) ∨ ((i.toInt < 0 ∨ zs.toInt ≤ i.toInt) ∧ zs.toInt = zs.toInt) from by first | rfl | assumption | omega), trivial⟩ hP hD hS dX7_removeAt_58
  · have c1' := I_nlt c1
    refine lv_iload_n hx hb dX7_removeAt_4 rfl (lv_at hl 1 rfl) ?_
    refine lv_aload_n hx hb dX7_removeAt_5 rfl (lv_at hl 0 rfl) ?_
    refine va_get (D := (dC, dI)) (ci := 6) (v := .int zs) (C := RX7) (T := TX7) (N := 2) hx hb hts inG_X7 hown hK hP 0 rfl rfl 1 (by decide) (hts _ fl_X7_15) (fun _ h9 => h9) rfl dX7_removeAt_6 ?_
    refine lv_icmp_ge (tgt := 58) hx hb dX7_removeAt_9 (by decide) (fun c2 => ?_) (fun c2 => ?_)
    · have c2' := I_le c2
      exact hret (zs, zcf) H locs 58 ls ⟨(show 0 ≤ zs.toInt ∧ zs.toInt ≤ 8 from by first | rfl | assumption | omega), (show (0 ≤ i.toInt ∧ i.toInt < zs.toInt ∧ zs.toInt = zs.toInt - 1) ∨ ((i.toInt < 0 ∨ zs.toInt ≤ i.toInt) ∧ zs.toInt = zs.toInt) from by first | rfl | assumption | omega), trivial⟩ hP hD hS dX7_removeAt_58
    · have c2' := I_nle c2
      refine lv_iload_n hx hb dX7_removeAt_12 rfl (lv_at hl 1 rfl) ?_
      refine lv_iconst (v := 5) hx hb dX7_removeAt_13 (by decide) ?_
      refine lv_imul hx hb dX7_removeAt_14 ?_
      refine lv_topi (fun v3 ev3 => ?_)
      try have hv3 := I_mulx (5) ev3 (by decide) (by omega)
      refine lv_istore_n (lv' := [(2, .int v3), (0, .ref z), (1, .int i)]) hx hb dX7_removeAt_15 rfl hl (by decide) rfl (fun ls hl => ?_)
      have J16 : ∀ (n : Nat) (L2_16 : Int32) (zcf_16 : Nat → Int32), (0 ≤ L2_16.toInt ∧ L2_16.toInt ≤ 40) → (40 - L2_16.toInt) < (n : Int) → ∀ (H : Heap) (locs : List Loc) (ls : Array Slot), va_P (dC, dI) vwCl [(z, .inr (6, [.ref zc, .int zs])), (zc, .inl (cI, 40, .inl zcf_16))] H → va_D A [(z, .inr (6, [.ref zc, .int zs])), (zc, .inl (cI, 40, .inl zcf_16))] → va_S A s.heap H locs → lv_has ls 3 [(2, .int L2_16), (0, .ref z), (1, .int i)] → W p l e { frames := 0, cells := 0, slots := 0, locals := 0 } s m (List.toArray [.ref z, .int i]) below meth c H locs 0 0 Q (F0 m 16 ls []) := by
        intro n
        induction n with
        | zero =>
          intro L2_16 zcf_16 hi0_16 hm
          exact absurd hm (by omega)
        | succ n ih16 =>
          intro L2_16 zcf_16 hi0_16 hm16 H locs ls hP hD hS hl
          refine lv_iload_n hx hb dX7_removeAt_16 rfl (lv_at hl 0 rfl) ?_
          refine lv_iconst (v := 5) hx hb dX7_removeAt_17 (by decide) ?_
          refine lv_iadd hx hb dX7_removeAt_18 ?_
          refine lv_topi (fun v4 ev4 => ?_)
          try have hv4 : v4.toInt = L2_16.toInt + (5 : Int32).toInt := I_addx ev4 (by omega)
          refine lv_aload_n hx hb dX7_removeAt_19 rfl (lv_at hl 1 rfl) ?_
          refine va_get (D := (dC, dI)) (ci := 6) (v := .int zs) (C := RX7) (T := TX7) (N := 2) hx hb hts inG_X7 hown hK hP 0 rfl rfl 1 (by decide) (hts _ fl_X7_15) (fun _ h9 => h9) rfl dX7_removeAt_20 ?_
          refine lv_iconst (v := 5) hx hb dX7_removeAt_23 (by decide) ?_
          refine lv_imul hx hb dX7_removeAt_24 ?_
          refine lv_topi (fun v5 ev5 => ?_)
          try have hv5 := I_mulx (5) ev5 (by decide) (by omega)
          refine lv_icmp_ge (tgt := 48) hx hb dX7_removeAt_25 (by decide) (fun c6 => ?_) (fun c6 => ?_)
          · have c6' := I_le c6
            refine lv_aload_n hx hb dX7_removeAt_48 rfl (lv_at hl 1 rfl) ?_
            refine lv_dup hx hb dX7_removeAt_49 rfl ?_
            refine va_get (D := (dC, dI)) (ci := 6) (v := .int zs) (C := RX7) (T := TX7) (N := 2) hx hb hts inG_X7 hown hK hP 0 rfl rfl 1 (by decide) (hts _ fl_X7_15) (fun _ h9 => h9) rfl dX7_removeAt_50 ?_
            refine lv_iconst (v := 1) hx hb dX7_removeAt_53 (by decide) ?_
            refine lv_isub hx hb dX7_removeAt_54 ?_
            refine lv_topi (fun v7 ev7 => ?_)
            try have hv7 : v7.toInt = zs.toInt - (1 : Int32).toInt := I_subx ev7 (by omega)
            refine va_put (D := (dC, dI)) (ci := 6) (v := .int v7) (ty := .int) (C := RX7) (T := TX7) (N := 2) hx hb hts inG_X7 tyX7 tyX7_ok nmX7 hown hK hP hD hS 0 rfl rfl 1 (by decide) (hts _ fl_X7_15) (fun _ h9 => h9) rfl (by decide +kernel) rfl rfl (Nat.le_of_ble_eq_true rfl) dX7_removeAt_55 (fun H locs hP hD hS => ?_)
            have hP : va_P (dC, dI) vwCl [(z, .inr (6, [.ref zc, .int v7])), (zc, .inl (cI, 40, .inl zcf_16))] H := hP
            have hD : va_D A [(z, .inr (6, [.ref zc, .int v7])), (zc, .inl (cI, 40, .inl zcf_16))] := hD
            exact hret (v7, zcf_16) H locs 58 ls ⟨(show 0 ≤ v7.toInt ∧ v7.toInt ≤ 8 from by first | rfl | assumption | omega), (show (0 ≤ i.toInt ∧ i.toInt < zs.toInt ∧ v7.toInt = zs.toInt - 1) ∨ ((i.toInt < 0 ∨ zs.toInt ≤ i.toInt) ∧ v7.toInt = zs.toInt) from by first | rfl | assumption | omega), trivial⟩ hP hD hS dX7_removeAt_58
          · have c6' := I_nle c6
            refine lv_aload_n hx hb dX7_removeAt_28 rfl (lv_at hl 1 rfl) ?_
            refine va_get (D := (dC, dI)) (ci := 6) (v := .ref zc) (C := RX7) (T := TX7) (N := 2) hx hb hts inG_X7 hown hK hP 0 rfl rfl 0 (by decide) (hts _ fl_X7_11) (fun _ h9 => h9) rfl dX7_removeAt_29 ?_
            refine lv_iload_n hx hb dX7_removeAt_32 rfl (lv_at hl 0 rfl) ?_
            refine lv_aload_n hx hb dX7_removeAt_33 rfl (lv_at hl 1 rfl) ?_
            refine va_get (D := (dC, dI)) (ci := 6) (v := .ref zc) (C := RX7) (T := TX7) (N := 2) hx hb hts inG_X7 hown hK hP 0 rfl rfl 0 (by decide) (hts _ fl_X7_11) (fun _ h9 => h9) rfl dX7_removeAt_34 ?_
            refine lv_iload_n hx hb dX7_removeAt_37 rfl (lv_at hl 0 rfl) ?_
            refine lv_iconst (v := 5) hx hb dX7_removeAt_38 (by decide) ?_
            refine lv_iadd hx hb dX7_removeAt_39 ?_
            refine lv_topi (fun v8 ev8 => ?_)
            try have hv8 : v8.toInt = L2_16.toInt + (5 : Int32).toInt := I_addx ev8 (by omega)
            refine va_iald (t0 := 0) hx hb hK hP 1 (ha := rfl) (ht := rfl) (I_in (by omega) (by omega)) dX7_removeAt_40 ?_
            refine lv_topi (fun v9 ev9 => ?_)
            refine va_iast (t0 := 0) hx hb hK hP hD hS 1 (ha := rfl) (ht := rfl) (I_in (by omega) (by omega)) dX7_removeAt_41 (fun H locs hP hD hS => ?_)
            have hP : va_P (dC, dI) vwCl [(z, .inr (6, [.ref zc, .int zs])), (zc, .inl (cI, 40, .inl (upd zcf_16 L2_16.toNatClampNeg v9)))] H := hP
            have hD : va_D A [(z, .inr (6, [.ref zc, .int zs])), (zc, .inl (cI, 40, .inl (upd zcf_16 L2_16.toNatClampNeg v9)))] := hD
            generalize ef10 : upd zcf_16 L2_16.toNatClampNeg v9 = f10 at hP hD
            obtain ⟨v11, ev11⟩ : ∃ y : Int32, y = L2_16 + 1 := ⟨_, rfl⟩
            try have hv11 : v11.toInt = L2_16.toInt + (1 : Int32).toInt := I_addx ev11 (by omega)
            refine lv_iinc (v := v11) (lv' := [(2, .int v11), (0, .ref z), (1, .int i)]) hx hb dX7_removeAt_42 hl (k := 0) rfl (by rw [ev11]; rfl) (by decide) rfl (fun ls hl => ?_)
            refine lv_goto (tgt := 16) hx hb dX7_removeAt_45 (by decide) ?_
            exact ih16 v11 f10 (by first | assumption | omega) (by omega) H locs ls hP hD hS hl
      exact J16 ((40 - v3.toInt).toNat + 1) v3 zcf (by first | assumption | omega) (by omega) H locs ls hP hD hS hl
set_option maxHeartbeats 4000000 in
set_option maxRecDepth 100000 in
theorem c_X7_keptBy (l : Launch) (dC : Nat → ClassId) (dI : Nat → Nat → Nat) (cI cJ : ClassId) (base bB bO : Nat) (z : Nat) (zc : Nat) (zs : Int32) (zcf : Nat → Int32) (a : Nat) (as : Nat) (aw : Nat) (ak : Nat) (asc : Int32) (awc : Int32) (aht : Int32) (afi : Int32) (amd : Int32) (asf : Nat → Int32) (akf : Nat → Int32) (hq0 : 0 ≤ zs.toInt ∧ zs.toInt ≤ 8) (hq1 : 0 ≤ asc.toInt ∧ asc.toInt ≤ 12) (hq2 : stOK asf asc) : CtI l dC dI cI cJ base bB bO yX7_keptBy cX7_keptBy 4 .int 2 51 [.ref z, .ref a] [(z, .inr (6, [.ref zc, .int zs])), (zc, .inl (cI, 40, .inl zcf)), (a, .inr (5, [.ref as, .ref aw, .ref ak, .int asc, .int awc, .int aht, .int afi, .int amd])), (as, .inl (cI, 12, .inl asf)), (ak, .inl (cI, 12, .inl akf))] ((Int32) × (Nat → Int32)) (fun (res : Int32) (u : (Int32) × (Nat → Int32)) => (0 ≤ u.1.toInt ∧ u.1.toInt ≤ 12 ∨ u.1.toInt = aht.toInt) ∧ True) (fun (u : (Int32) × (Nat → Int32)) => [(z, .inr (6, [.ref zc, .int zs])), (zc, .inl (cI, 40, .inl zcf)), (a, .inr (5, [.ref as, .ref aw, .ref ak, .int asc, .int awc, .int u.1, .int afi, .int amd])), (as, .inl (cI, 12, .inl asf)), (ak, .inl (cI, 12, .inl u.2))]) := by
  refine entI (by decide) (Nat.le_of_ble_eq_true rfl) ?_
  intro p e s m below meth c A Q ls hAt hret hP hD hS hl
  obtain ⟨hx, hb, hml, hown, hts, hA, hAb, hK, hE, hlocks, hin⟩ := hAt
  have hG : CG dC dI cI cJ base bB bO cX7_keptBy 4 RX7 p s m (List.toArray [.ref z, .ref a]) c A := ⟨hx, hb, hml, hown, hts, hA, hAb, hK, hE⟩
  have hl : lv_has ls 4 [(0, .ref z), (1, .ref a)] := hl
  have c_0 : (0 : Int32).toInt = 0 := by decide
  have c_1 : (1 : Int32).toInt = 1 := by decide
  have c_4 : (4 : Int32).toInt = 4 := by decide
  have c_5 : (5 : Int32).toInt = 5 := by decide
  obtain ⟨H, hHe⟩ : ∃ H : Heap, H = s.heap := ⟨_, rfl⟩
  obtain ⟨locs, hle⟩ : ∃ z : List Loc, z = [] := ⟨_, rfl⟩
  rw [← hHe] at hP
  have hS : va_S A s.heap H locs := by rw [hHe, hle]; exact hS
  suffices hgo : W p l e { frames := 2, cells := 0, slots := 0, locals := 51 } s m (List.toArray [.ref z, .ref a]) below meth c H locs 0 0 Q (F0 m 0 ls []) by rw [hHe, hle] at hgo; exact hgo
  refine lv_iconst (v := 0) hx hb dX7_keptBy_0 (by decide) ?_
  refine lv_istore_n (lv' := [(2, .int 0), (0, .ref z), (1, .ref a)]) hx hb dX7_keptBy_1 rfl hl (by decide) rfl (fun ls hl => ?_)
  refine lv_iconst (v := 0) hx hb dX7_keptBy_2 (by decide) ?_
  refine lv_istore_n (lv' := [(3, .int 0), (2, .int 0), (0, .ref z), (1, .ref a)]) hx hb dX7_keptBy_3 rfl hl (by decide) rfl (fun ls hl => ?_)
  have J4 : ∀ (n : Nat) (L3_4 : Int32) (L2_4 : Int32) (aht_4 : Int32) (akf_4 : Nat → Int32), (0 ≤ L3_4.toInt ∧ L3_4.toInt ≤ 40) → ((5 : Int) ∣ L3_4.toInt) → (0 ≤ aht_4.toInt ∧ aht_4.toInt ≤ 12 ∨ aht_4.toInt = aht.toInt) → (40 - L3_4.toInt) < (n : Int) → ∀ (H : Heap) (locs : List Loc) (ls : Array Slot), va_P (dC, dI) vwCl [(z, .inr (6, [.ref zc, .int zs])), (zc, .inl (cI, 40, .inl zcf)), (a, .inr (5, [.ref as, .ref aw, .ref ak, .int asc, .int awc, .int aht_4, .int afi, .int amd])), (as, .inl (cI, 12, .inl asf)), (ak, .inl (cI, 12, .inl akf_4))] H → va_D A [(z, .inr (6, [.ref zc, .int zs])), (zc, .inl (cI, 40, .inl zcf)), (a, .inr (5, [.ref as, .ref aw, .ref ak, .int asc, .int awc, .int aht_4, .int afi, .int amd])), (as, .inl (cI, 12, .inl asf)), (ak, .inl (cI, 12, .inl akf_4))] → va_S A s.heap H locs → lv_has ls 4 [(3, .int L3_4), (2, .int L2_4), (0, .ref z), (1, .ref a)] → W p l e { frames := 2, cells := 0, slots := 0, locals := 51 } s m (List.toArray [.ref z, .ref a]) below meth c H locs 0 0 Q (F0 m 4 ls []) := by
    intro n
    induction n with
    | zero =>
      intro L3_4 L2_4 aht_4 akf_4 hi0_4 hi1_4 hi2_4 hm
      exact absurd hm (by omega)
    | succ n ih4 =>
      intro L3_4 L2_4 aht_4 akf_4 hi0_4 hi1_4 hi2_4 hm4 H locs ls hP hD hS hl
      refine lv_iload_n hx hb dX7_keptBy_4 rfl (lv_at hl 0 rfl) ?_
      refine lv_aload_n hx hb dX7_keptBy_5 rfl (lv_at hl 2 rfl) ?_
      refine va_get (D := (dC, dI)) (ci := 6) (v := .int zs) (C := RX7) (T := TX7) (N := 2) hx hb hts inG_X7 hown hK hP 0 rfl rfl 1 (by decide) (hts _ fl_X7_15) (fun _ h9 => h9) rfl dX7_keptBy_6 ?_
      refine lv_iconst (v := 5) hx hb dX7_keptBy_9 (by decide) ?_
      refine lv_imul hx hb dX7_keptBy_10 ?_
      refine lv_topi (fun v1 ev1 => ?_)
      try have hv1 := I_mulx (5) ev1 (by decide) (by omega)
      refine lv_icmp_ge (tgt := 43) hx hb dX7_keptBy_11 (by decide) (fun c2 => ?_) (fun c2 => ?_)
      · have c2' := I_le c2
        refine lv_iload_n hx hb dX7_keptBy_43 rfl (lv_at hl 1 rfl) ?_
        exact hret L2_4 (aht_4, akf_4) H locs 44 ls rfl ⟨(show 0 ≤ aht_4.toInt ∧ aht_4.toInt ≤ 12 ∨ aht_4.toInt = aht.toInt from by first | rfl | assumption | omega), trivial⟩ hP hD hS dX7_keptBy_44
      · have c2' := I_nle c2
        refine lv_aload_n hx hb dX7_keptBy_14 rfl (lv_at hl 3 rfl) ?_
        refine lv_aload_n hx hb dX7_keptBy_15 rfl (lv_at hl 2 rfl) ?_
        refine va_get (D := (dC, dI)) (ci := 6) (v := .ref zc) (C := RX7) (T := TX7) (N := 2) hx hb hts inG_X7 hown hK hP 0 rfl rfl 0 (by decide) (hts _ fl_X7_11) (fun _ h9 => h9) rfl dX7_keptBy_16 ?_
        refine lv_iload_n hx hb dX7_keptBy_19 rfl (lv_at hl 0 rfl) ?_
        refine calI (rest := []) (wr := [(z, .inr (6, [.ref zc, .int zs]))]) hG (c_X6_work_40 l dC dI cI cJ base bB bO a as aw ak asc awc aht_4 afi amd asf akf_4 zc zcf L3_4 (by first | assumption | omega) (by first | assumption | omega)) ml_X7_19 im_X6_work se_X6_work ini_X6 cd_X6_work hd_X6_work ⟨(Nat.le_of_ble_eq_true rfl), (Nat.le_of_ble_eq_true rfl)⟩ (Nat.le_of_ble_eq_true rfl) (Nat.le_of_ble_eq_true rfl) hP hD hS [2, 3, 4, 1] [0] rfl rfl rfl rfl (by decide) 5 2 rfl rfl hl.1 rfl (Nat.le_of_ble_eq_true rfl) dX7_keptBy_20 (fun r3 u H locs hw4 hP hD hS => ?_)
        obtain ⟨aht_5, akf_6⟩ := u
        have hw4 : (0 ≤ aht_5.toInt ∧ aht_5.toInt ≤ 12 ∨ aht_5.toInt = aht_4.toInt) ∧ True := hw4
        obtain ⟨hp7, -⟩ := hw4
        have hP : va_P (dC, dI) vwCl [(z, .inr (6, [.ref zc, .int zs])), (a, .inr (5, [.ref as, .ref aw, .ref ak, .int asc, .int awc, .int aht_5, .int afi, .int amd])), (as, .inl (cI, 12, .inl asf)), (ak, .inl (cI, 12, .inl akf_6)), (zc, .inl (cI, 40, .inl zcf))] H := hP
        have hD : va_D A [(z, .inr (6, [.ref zc, .int zs])), (a, .inr (5, [.ref as, .ref aw, .ref ak, .int asc, .int awc, .int aht_5, .int afi, .int amd])), (as, .inl (cI, 12, .inl asf)), (ak, .inl (cI, 12, .inl akf_6)), (zc, .inl (cI, 40, .inl zcf))] := hD
        refine lv_aload_n hx hb dX7_keptBy_23 rfl (lv_at hl 2 rfl) ?_
        refine va_get (D := (dC, dI)) (ci := 6) (v := .ref zc) (C := RX7) (T := TX7) (N := 2) hx hb hts inG_X7 hown hK hP 0 rfl rfl 0 (by decide) (hts _ fl_X7_11) (fun _ h9 => h9) rfl dX7_keptBy_24 ?_
        refine lv_iload_n hx hb dX7_keptBy_27 rfl (lv_at hl 0 rfl) ?_
        refine lv_iconst (v := 4) hx hb dX7_keptBy_28 (by decide) ?_
        refine lv_iadd hx hb dX7_keptBy_29 ?_
        refine lv_topi (fun v8 ev8 => ?_)
        try have hv8 : v8.toInt = L3_4.toInt + (4 : Int32).toInt := I_addx ev8 (by omega)
        refine va_iald (t0 := 0) hx hb hK hP 4 (ha := rfl) (ht := rfl) (I_in (by omega) (by omega)) dX7_keptBy_30 ?_
        refine lv_topi (fun v9 ev9 => ?_)
        refine lv_icmp_ne (tgt := 37) hx hb dX7_keptBy_31 (by decide) (fun c10 => ?_) (fun c10 => ?_)
        · have c10' := I_ne c10
          obtain ⟨v11, ev11⟩ : ∃ y : Int32, y = L3_4 + 5 := ⟨_, rfl⟩
          try have hv11 : v11.toInt = L3_4.toInt + (5 : Int32).toInt := I_addx ev11 (by omega)
          refine lv_iinc (v := v11) (lv' := [(3, .int v11), (2, .int L2_4), (0, .ref z), (1, .ref a)]) hx hb dX7_keptBy_37 hl (k := 0) rfl (by rw [ev11]; rfl) (by decide) rfl (fun ls hl => ?_)
          refine lv_goto (tgt := 4) hx hb dX7_keptBy_40 (by decide) ?_
          exact ih4 v11 L2_4 aht_5 akf_6 (by first | assumption | omega) (by first | assumption | omega) (by first | assumption | omega) (by omega) H locs ls (hP.sub (ws' := [(z, .inr (6, [.ref zc, .int zs])), (zc, .inl (cI, 40, .inl zcf)), (a, .inr (5, [.ref as, .ref aw, .ref ak, .int asc, .int awc, .int aht_5, .int afi, .int amd])), (as, .inl (cI, 12, .inl asf)), (ak, .inl (cI, 12, .inl akf_6))]) [0, 4, 1, 2, 3] rfl) (hD.sub (ws' := [(z, .inr (6, [.ref zc, .int zs])), (zc, .inl (cI, 40, .inl zcf)), (a, .inr (5, [.ref as, .ref aw, .ref ak, .int asc, .int awc, .int aht_5, .int afi, .int amd])), (as, .inl (cI, 12, .inl asf)), (ak, .inl (cI, 12, .inl akf_6))]) [0, 4, 1, 2, 3] (by decide) rfl) hS hl
        · have c10' := I_eq c10
          obtain ⟨v12, ev12⟩ : ∃ y : Int32, y = L2_4 + 1 := ⟨_, rfl⟩
          try have hv12 : v12.toInt = L2_4.toInt + (1 : Int32).toInt := I_addx ev12 (by omega)
          refine lv_iinc (v := v12) (lv' := [(2, .int v12), (3, .int L3_4), (0, .ref z), (1, .ref a)]) hx hb dX7_keptBy_34 hl (k := 1) rfl (by rw [ev12]; rfl) (by decide) rfl (fun ls hl => ?_)
          obtain ⟨v13, ev13⟩ : ∃ y : Int32, y = L3_4 + 5 := ⟨_, rfl⟩
          try have hv13 : v13.toInt = L3_4.toInt + (5 : Int32).toInt := I_addx ev13 (by omega)
          refine lv_iinc (v := v13) (lv' := [(3, .int v13), (2, .int v12), (0, .ref z), (1, .ref a)]) hx hb dX7_keptBy_37 hl (k := 1) rfl (by rw [ev13]; rfl) (by decide) rfl (fun ls hl => ?_)
          refine lv_goto (tgt := 4) hx hb dX7_keptBy_40 (by decide) ?_
          exact ih4 v13 v12 aht_5 akf_6 (by first | assumption | omega) (by first | assumption | omega) (by first | assumption | omega) (by omega) H locs ls (hP.sub (ws' := [(z, .inr (6, [.ref zc, .int zs])), (zc, .inl (cI, 40, .inl zcf)), (a, .inr (5, [.ref as, .ref aw, .ref ak, .int asc, .int awc, .int aht_5, .int afi, .int amd])), (as, .inl (cI, 12, .inl asf)), (ak, .inl (cI, 12, .inl akf_6))]) [0, 4, 1, 2, 3] rfl) (hD.sub (ws' := [(z, .inr (6, [.ref zc, .int zs])), (zc, .inl (cI, 40, .inl zcf)), (a, .inr (5, [.ref as, .ref aw, .ref ak, .int asc, .int awc, .int aht_5, .int afi, .int amd])), (as, .inl (cI, 12, .inl asf)), (ak, .inl (cI, 12, .inl akf_6))]) [0, 4, 1, 2, 3] (by decide) rfl) hS hl
  exact J4 ((40 - (0 : Int32).toInt).toNat + 1) 0 0 aht akf (by first | assumption | omega) (by first | assumption | omega) (by first | assumption | omega) (by omega) H locs ls hP hD hS hl
set_option maxHeartbeats 4000000 in
set_option maxRecDepth 100000 in
theorem c_X7_areAllKeptBy (l : Launch) (dC : Nat → ClassId) (dI : Nat → Nat → Nat) (cI cJ : ClassId) (base bB bO : Nat) (z : Nat) (zc : Nat) (zs : Int32) (zcf : Nat → Int32) (a : Nat) (as : Nat) (aw : Nat) (ak : Nat) (asc : Int32) (awc : Int32) (aht : Int32) (afi : Int32) (amd : Int32) (asf : Nat → Int32) (akf : Nat → Int32) (hq0 : 0 ≤ zs.toInt ∧ zs.toInt ≤ 8) (hq1 : 0 ≤ asc.toInt ∧ asc.toInt ≤ 12) (hq2 : stOK asf asc) : CtI l dC dI cI cJ base bB bO yX7_areAllKeptBy cX7_areAllKeptBy 3 .boolean 2 51 [.ref z, .ref a] [(z, .inr (6, [.ref zc, .int zs])), (zc, .inl (cI, 40, .inl zcf)), (a, .inr (5, [.ref as, .ref aw, .ref ak, .int asc, .int awc, .int aht, .int afi, .int amd])), (as, .inl (cI, 12, .inl asf)), (ak, .inl (cI, 12, .inl akf))] ((Int32) × (Nat → Int32)) (fun (res : Int32) (u : (Int32) × (Nat → Int32)) => (0 ≤ u.1.toInt ∧ u.1.toInt ≤ 12 ∨ u.1.toInt = aht.toInt) ∧ (res.toInt = 0 ∨ res.toInt = 1) ∧ True) (fun (u : (Int32) × (Nat → Int32)) => [(z, .inr (6, [.ref zc, .int zs])), (zc, .inl (cI, 40, .inl zcf)), (a, .inr (5, [.ref as, .ref aw, .ref ak, .int asc, .int awc, .int u.1, .int afi, .int amd])), (as, .inl (cI, 12, .inl asf)), (ak, .inl (cI, 12, .inl u.2))]) := by
  refine entI (by decide) (Nat.le_of_ble_eq_true rfl) ?_
  intro p e s m below meth c A Q ls hAt hret hP hD hS hl
  obtain ⟨hx, hb, hml, hown, hts, hA, hAb, hK, hE, hlocks, hin⟩ := hAt
  have hG : CG dC dI cI cJ base bB bO cX7_areAllKeptBy 3 RX7 p s m (List.toArray [.ref z, .ref a]) c A := ⟨hx, hb, hml, hown, hts, hA, hAb, hK, hE⟩
  have hl : lv_has ls 3 [(0, .ref z), (1, .ref a)] := hl
  have c_0 : (0 : Int32).toInt = 0 := by decide
  have c_1 : (1 : Int32).toInt = 1 := by decide
  have c_4 : (4 : Int32).toInt = 4 := by decide
  have c_5 : (5 : Int32).toInt = 5 := by decide
  obtain ⟨H, hHe⟩ : ∃ H : Heap, H = s.heap := ⟨_, rfl⟩
  obtain ⟨locs, hle⟩ : ∃ z : List Loc, z = [] := ⟨_, rfl⟩
  rw [← hHe] at hP
  have hS : va_S A s.heap H locs := by rw [hHe, hle]; exact hS
  suffices hgo : W p l e { frames := 2, cells := 0, slots := 0, locals := 51 } s m (List.toArray [.ref z, .ref a]) below meth c H locs 0 0 Q (F0 m 0 ls []) by rw [hHe, hle] at hgo; exact hgo
  refine lv_iconst (v := 0) hx hb dX7_areAllKeptBy_0 (by decide) ?_
  refine lv_istore_n (lv' := [(2, .int 0), (0, .ref z), (1, .ref a)]) hx hb dX7_areAllKeptBy_1 rfl hl (by decide) rfl (fun ls hl => ?_)
  have J2 : ∀ (n : Nat) (L2_2 : Int32) (aht_2 : Int32) (akf_2 : Nat → Int32), (0 ≤ L2_2.toInt ∧ L2_2.toInt ≤ 40) → ((5 : Int) ∣ L2_2.toInt) → (0 ≤ aht_2.toInt ∧ aht_2.toInt ≤ 12 ∨ aht_2.toInt = aht.toInt) → (40 - L2_2.toInt) < (n : Int) → ∀ (H : Heap) (locs : List Loc) (ls : Array Slot), va_P (dC, dI) vwCl [(z, .inr (6, [.ref zc, .int zs])), (zc, .inl (cI, 40, .inl zcf)), (a, .inr (5, [.ref as, .ref aw, .ref ak, .int asc, .int awc, .int aht_2, .int afi, .int amd])), (as, .inl (cI, 12, .inl asf)), (ak, .inl (cI, 12, .inl akf_2))] H → va_D A [(z, .inr (6, [.ref zc, .int zs])), (zc, .inl (cI, 40, .inl zcf)), (a, .inr (5, [.ref as, .ref aw, .ref ak, .int asc, .int awc, .int aht_2, .int afi, .int amd])), (as, .inl (cI, 12, .inl asf)), (ak, .inl (cI, 12, .inl akf_2))] → va_S A s.heap H locs → lv_has ls 3 [(2, .int L2_2), (0, .ref z), (1, .ref a)] → W p l e { frames := 2, cells := 0, slots := 0, locals := 51 } s m (List.toArray [.ref z, .ref a]) below meth c H locs 0 0 Q (F0 m 2 ls []) := by
    intro n
    induction n with
    | zero =>
      intro L2_2 aht_2 akf_2 hi0_2 hi1_2 hi2_2 hm
      exact absurd hm (by omega)
    | succ n ih2 =>
      intro L2_2 aht_2 akf_2 hi0_2 hi1_2 hi2_2 hm2 H locs ls hP hD hS hl
      refine lv_iload_n hx hb dX7_areAllKeptBy_2 rfl (lv_at hl 0 rfl) ?_
      refine lv_aload_n hx hb dX7_areAllKeptBy_3 rfl (lv_at hl 1 rfl) ?_
      refine va_get (D := (dC, dI)) (ci := 6) (v := .int zs) (C := RX7) (T := TX7) (N := 2) hx hb hts inG_X7 hown hK hP 0 rfl rfl 1 (by decide) (hts _ fl_X7_15) (fun _ h9 => h9) rfl dX7_areAllKeptBy_4 ?_
      refine lv_iconst (v := 5) hx hb dX7_areAllKeptBy_7 (by decide) ?_
      refine lv_imul hx hb dX7_areAllKeptBy_8 ?_
      refine lv_topi (fun v1 ev1 => ?_)
      try have hv1 := I_mulx (5) ev1 (by decide) (by omega)
      refine lv_icmp_ge (tgt := 40) hx hb dX7_areAllKeptBy_9 (by decide) (fun c2 => ?_) (fun c2 => ?_)
      · have c2' := I_le c2
        refine lv_iconst (v := 1) hx hb dX7_areAllKeptBy_40 (by decide) ?_
        exact hret 1 (aht_2, akf_2) H locs 41 ls (by first | rfl | exact I_narz (by omega)) ⟨(show 0 ≤ aht_2.toInt ∧ aht_2.toInt ≤ 12 ∨ aht_2.toInt = aht.toInt from by first | rfl | assumption | omega), (show (1 : Int32).toInt = 0 ∨ (1 : Int32).toInt = 1 from by first | rfl | assumption | omega), trivial⟩ hP hD hS dX7_areAllKeptBy_41
      · have c2' := I_nle c2
        refine lv_aload_n hx hb dX7_areAllKeptBy_12 rfl (lv_at hl 2 rfl) ?_
        refine lv_aload_n hx hb dX7_areAllKeptBy_13 rfl (lv_at hl 1 rfl) ?_
        refine va_get (D := (dC, dI)) (ci := 6) (v := .ref zc) (C := RX7) (T := TX7) (N := 2) hx hb hts inG_X7 hown hK hP 0 rfl rfl 0 (by decide) (hts _ fl_X7_11) (fun _ h9 => h9) rfl dX7_areAllKeptBy_14 ?_
        refine lv_iload_n hx hb dX7_areAllKeptBy_17 rfl (lv_at hl 0 rfl) ?_
        refine calI (rest := []) (wr := [(z, .inr (6, [.ref zc, .int zs]))]) hG (c_X6_work_40 l dC dI cI cJ base bB bO a as aw ak asc awc aht_2 afi amd asf akf_2 zc zcf L2_2 (by first | assumption | omega) (by first | assumption | omega)) ml_X7_19 im_X6_work se_X6_work ini_X6 cd_X6_work hd_X6_work ⟨(Nat.le_of_ble_eq_true rfl), (Nat.le_of_ble_eq_true rfl)⟩ (Nat.le_of_ble_eq_true rfl) (Nat.le_of_ble_eq_true rfl) hP hD hS [2, 3, 4, 1] [0] rfl rfl rfl rfl (by decide) 5 2 rfl rfl hl.1 rfl (Nat.le_of_ble_eq_true rfl) dX7_areAllKeptBy_18 (fun r3 u H locs hw4 hP hD hS => ?_)
        obtain ⟨aht_5, akf_6⟩ := u
        have hw4 : (0 ≤ aht_5.toInt ∧ aht_5.toInt ≤ 12 ∨ aht_5.toInt = aht_2.toInt) ∧ True := hw4
        obtain ⟨hp7, -⟩ := hw4
        have hP : va_P (dC, dI) vwCl [(z, .inr (6, [.ref zc, .int zs])), (a, .inr (5, [.ref as, .ref aw, .ref ak, .int asc, .int awc, .int aht_5, .int afi, .int amd])), (as, .inl (cI, 12, .inl asf)), (ak, .inl (cI, 12, .inl akf_6)), (zc, .inl (cI, 40, .inl zcf))] H := hP
        have hD : va_D A [(z, .inr (6, [.ref zc, .int zs])), (a, .inr (5, [.ref as, .ref aw, .ref ak, .int asc, .int awc, .int aht_5, .int afi, .int amd])), (as, .inl (cI, 12, .inl asf)), (ak, .inl (cI, 12, .inl akf_6)), (zc, .inl (cI, 40, .inl zcf))] := hD
        refine lv_aload_n hx hb dX7_areAllKeptBy_21 rfl (lv_at hl 1 rfl) ?_
        refine va_get (D := (dC, dI)) (ci := 6) (v := .ref zc) (C := RX7) (T := TX7) (N := 2) hx hb hts inG_X7 hown hK hP 0 rfl rfl 0 (by decide) (hts _ fl_X7_11) (fun _ h9 => h9) rfl dX7_areAllKeptBy_22 ?_
        refine lv_iload_n hx hb dX7_areAllKeptBy_25 rfl (lv_at hl 0 rfl) ?_
        refine lv_iconst (v := 4) hx hb dX7_areAllKeptBy_26 (by decide) ?_
        refine lv_iadd hx hb dX7_areAllKeptBy_27 ?_
        refine lv_topi (fun v8 ev8 => ?_)
        try have hv8 : v8.toInt = L2_2.toInt + (4 : Int32).toInt := I_addx ev8 (by omega)
        refine va_iald (t0 := 0) hx hb hK hP 4 (ha := rfl) (ht := rfl) (I_in (by omega) (by omega)) dX7_areAllKeptBy_28 ?_
        refine lv_topi (fun v9 ev9 => ?_)
        refine lv_icmp_eq (tgt := 34) hx hb dX7_areAllKeptBy_29 (by decide) (fun c10 => ?_) (fun c10 => ?_)
        · have c10' := I_eq c10
          obtain ⟨v11, ev11⟩ : ∃ y : Int32, y = L2_2 + 5 := ⟨_, rfl⟩
          try have hv11 : v11.toInt = L2_2.toInt + (5 : Int32).toInt := I_addx ev11 (by omega)
          refine lv_iinc (v := v11) (lv' := [(2, .int v11), (0, .ref z), (1, .ref a)]) hx hb dX7_areAllKeptBy_34 hl (k := 0) rfl (by rw [ev11]; rfl) (by decide) rfl (fun ls hl => ?_)
          refine lv_goto (tgt := 2) hx hb dX7_areAllKeptBy_37 (by decide) ?_
          exact ih2 v11 aht_5 akf_6 (by first | assumption | omega) (by first | assumption | omega) (by first | assumption | omega) (by omega) H locs ls (hP.sub (ws' := [(z, .inr (6, [.ref zc, .int zs])), (zc, .inl (cI, 40, .inl zcf)), (a, .inr (5, [.ref as, .ref aw, .ref ak, .int asc, .int awc, .int aht_5, .int afi, .int amd])), (as, .inl (cI, 12, .inl asf)), (ak, .inl (cI, 12, .inl akf_6))]) [0, 4, 1, 2, 3] rfl) (hD.sub (ws' := [(z, .inr (6, [.ref zc, .int zs])), (zc, .inl (cI, 40, .inl zcf)), (a, .inr (5, [.ref as, .ref aw, .ref ak, .int asc, .int awc, .int aht_5, .int afi, .int amd])), (as, .inl (cI, 12, .inl asf)), (ak, .inl (cI, 12, .inl akf_6))]) [0, 4, 1, 2, 3] (by decide) rfl) hS hl
        · have c10' := I_ne c10
          refine lv_iconst (v := 0) hx hb dX7_areAllKeptBy_32 (by decide) ?_
          exact hret 0 (aht_5, akf_6) H locs 33 ls (by first | rfl | exact I_narz (by omega)) ⟨(show 0 ≤ aht_5.toInt ∧ aht_5.toInt ≤ 12 ∨ aht_5.toInt = aht.toInt from by first | rfl | assumption | omega), (show (0 : Int32).toInt = 0 ∨ (0 : Int32).toInt = 1 from by first | rfl | assumption | omega), trivial⟩ (hP.sub (ws' := [(z, .inr (6, [.ref zc, .int zs])), (zc, .inl (cI, 40, .inl zcf)), (a, .inr (5, [.ref as, .ref aw, .ref ak, .int asc, .int awc, .int aht_5, .int afi, .int amd])), (as, .inl (cI, 12, .inl asf)), (ak, .inl (cI, 12, .inl akf_6))]) [0, 4, 1, 2, 3] rfl) (hD.sub (ws' := [(z, .inr (6, [.ref zc, .int zs])), (zc, .inl (cI, 40, .inl zcf)), (a, .inr (5, [.ref as, .ref aw, .ref ak, .int asc, .int awc, .int aht_5, .int afi, .int amd])), (as, .inl (cI, 12, .inl asf)), (ak, .inl (cI, 12, .inl akf_6))]) [0, 4, 1, 2, 3] (by decide) rfl) hS dX7_areAllKeptBy_33
  exact J2 ((40 - (0 : Int32).toInt).toNat + 1) 0 aht akf (by first | assumption | omega) (by first | assumption | omega) (by first | assumption | omega) (by omega) H locs ls hP hD hS hl
