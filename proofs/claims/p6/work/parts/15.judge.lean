set_option maxHeartbeats 4000000 in
set_option maxRecDepth 100000 in
theorem c_X1_ask (l : Launch) (dC : Nat → ClassId) (dI : Nat → Nat → Nat) (cI cJ : ClassId) (base bB bO : Nat) (j0 : Nat) (jk : Nat) (z : Nat) (a : Nat) (jg : Int32) (jw : Int32) (x : Int32) (y : Int32)  : CtV l dC dI cI cJ base bB bO yX1_ask cX1_ask 3 0 0 0 0 [.ref j0, .int x, .int y] [(j0, .inr (1, [.ref jk, .ref z, .ref a, .int jg, .int jw]))] ((Int32) × (Int32)) (fun (u : (Int32) × (Int32)) => True) (fun (u : (Int32) × (Int32)) => [(j0, .inr (1, [.ref jk, .ref z, .ref a, .int u.1, .int u.2]))]) := by
  refine entV (by decide) (Nat.le_of_ble_eq_true rfl) ?_
  intro p e s m below meth c A Q ls hAt hret hP hD hS hl
  obtain ⟨hx, hb, hml, hown, hts, hA, hAb, hK, hE, hlocks, hin⟩ := hAt
  have hG : CG dC dI cI cJ base bB bO cX1_ask 3 RX1 p s m (List.toArray [.ref j0, .int x, .int y]) c A := ⟨hx, hb, hml, hown, hts, hA, hAb, hK, hE⟩
  have hl : lv_has ls 3 [(0, .ref j0), (1, .int x), (2, .int y)] := hl
  have c_0 : (0 : Int32).toInt = 0 := by decide
  have c_1 : (1 : Int32).toInt = 1 := by decide
  obtain ⟨H, hHe⟩ : ∃ H : Heap, H = s.heap := ⟨_, rfl⟩
  obtain ⟨locs, hle⟩ : ∃ z : List Loc, z = [] := ⟨_, rfl⟩
  rw [← hHe] at hP
  have hS : va_S A s.heap H locs := by rw [hHe, hle]; exact hS
  suffices hgo : W p l e { frames := 0, cells := 0, slots := 0, locals := 0 } s m (List.toArray [.ref j0, .int x, .int y]) below meth c H locs 0 0 Q (F0 m 0 ls []) by rw [hHe, hle] at hgo; exact hgo
  refine lv_aload_n hx hb dX1_ask_0 rfl (lv_at hl 0 rfl) ?_
  refine lv_iload_n hx hb dX1_ask_1 rfl (lv_at hl 1 rfl) ?_
  refine va_put (D := (dC, dI)) (ci := 1) (v := .int x) (ty := .int) (C := RX1) (T := TX1) (N := 5) hx hb hts inG_X1 tyX1 tyX1_ok nmX1 hown hK hP hD hS 0 rfl rfl 3 (by decide) (hts _ fl_X1_29) (fun _ h9 => h9) rfl (by decide +kernel) rfl rfl (Nat.le_of_ble_eq_true rfl) dX1_ask_2 (fun H locs hP hD hS => ?_)
  have hP : va_P (dC, dI) vwCl [(j0, .inr (1, [.ref jk, .ref z, .ref a, .int x, .int jw]))] H := hP
  have hD : va_D A [(j0, .inr (1, [.ref jk, .ref z, .ref a, .int x, .int jw]))] := hD
  refine lv_aload_n hx hb dX1_ask_5 rfl (lv_at hl 0 rfl) ?_
  refine lv_iload_n hx hb dX1_ask_6 rfl (lv_at hl 2 rfl) ?_
  refine va_put (D := (dC, dI)) (ci := 1) (v := .int y) (ty := .int) (C := RX1) (T := TX1) (N := 5) hx hb hts inG_X1 tyX1 tyX1_ok nmX1 hown hK hP hD hS 0 rfl rfl 4 (by decide) (hts _ fl_X1_33) (fun _ h9 => h9) rfl (by decide +kernel) rfl rfl (Nat.le_of_ble_eq_true rfl) dX1_ask_7 (fun H locs hP hD hS => ?_)
  have hP : va_P (dC, dI) vwCl [(j0, .inr (1, [.ref jk, .ref z, .ref a, .int x, .int y]))] H := hP
  have hD : va_D A [(j0, .inr (1, [.ref jk, .ref z, .ref a, .int x, .int y]))] := hD
  exact hret (x, y) H locs 10 ls trivial hP hD hS dX1_ask_10
set_option maxHeartbeats 4000000 in
set_option maxRecDepth 100000 in
theorem c_X1_isContentWith (l : Launch) (dC : Nat → ClassId) (dI : Nat → Nat → Nat) (cI cJ : ClassId) (base bB bO : Nat) (j0 : Nat) (jg : Int32) (jw : Int32) (jk : Nat) (jkf : Nat → Int32) (z : Nat) (zc : Nat) (zs : Int32) (zcf : Nat → Int32) (a : Nat) (as : Nat) (aw : Nat) (ak : Nat) (asc : Int32) (awc : Int32) (aht : Int32) (afi : Int32) (amd : Int32) (asf : Nat → Int32) (awf : Nat → Int32) (akf : Nat → Int32) (r : Nat) (rt : Nat) (rsz : Int32) (rf : Nat → Int32) (hq0 : 0 ≤ zs.toInt ∧ zs.toInt ≤ 8) (hq1 : 0 ≤ asc.toInt ∧ asc.toInt ≤ 12) (hq2 : 0 ≤ awc.toInt ∧ awc.toInt ≤ 12) (hq3 : 0 ≤ aht.toInt ∧ aht.toInt ≤ 12) (hq4 : afi.toInt = 0 ∨ afi.toInt = 1) (hq5 : ∀ j : Nat, 0 ≤ (awf j).toInt ∧ (awf j).toInt < 12) (hq6 : stOK asf asc) (hq7 : 0 ≤ rsz.toInt ∧ rsz.toInt ≤ 12) (hq8 : ∀ j : Nat, -1 ≤ (rf j).toInt ∧ (rf j).toInt ≤ 31) : CtI l dC dI cI cJ base bB bO yX1_isContentWith cX1_isContentWith 3 .boolean 3 73 [.ref j0, .ref r] [(j0, .inr (1, [.ref jk, .ref z, .ref a, .int jg, .int jw])), (jk, .inl (cI, 4, .inl jkf)), (z, .inr (6, [.ref zc, .int zs])), (zc, .inl (cI, 40, .inl zcf)), (a, .inr (5, [.ref as, .ref aw, .ref ak, .int asc, .int awc, .int aht, .int afi, .int amd])), (as, .inl (cI, 12, .inl asf)), (aw, .inl (cI, 12, .inl awf)), (ak, .inl (cI, 12, .inl akf)), (r, .inr (3, [.ref rt, .int rsz])), (rt, .inl (cI, 12, .inl rf))] ((Int32) × (Int32) × (Int32) × (Int32) × (Int32) × (Nat → Int32) × (Nat → Int32) × (Nat → Int32)) (fun (res : Int32) (u : (Int32) × (Int32) × (Int32) × (Int32) × (Int32) × (Nat → Int32) × (Nat → Int32) × (Nat → Int32)) => (res.toInt = 0 ∨ res.toInt = 1) ∧ (0 ≤ u.1.toInt ∧ u.1.toInt ≤ 12) ∧ (0 ≤ u.2.1.toInt ∧ u.2.1.toInt ≤ 12) ∧ (0 ≤ u.2.2.1.toInt ∧ u.2.2.1.toInt ≤ 12) ∧ (u.2.2.2.1.toInt = 0 ∨ u.2.2.2.1.toInt = 1) ∧ (∀ j : Nat, 0 ≤ (u.2.2.2.2.2.2.1 j).toInt ∧ (u.2.2.2.2.2.2.1 j).toInt < 12) ∧ (stOK u.2.2.2.2.2.1 u.1) ∧ True) (fun (u : (Int32) × (Int32) × (Int32) × (Int32) × (Int32) × (Nat → Int32) × (Nat → Int32) × (Nat → Int32)) => [(j0, .inr (1, [.ref jk, .ref z, .ref a, .int jg, .int jw])), (jk, .inl (cI, 4, .inl jkf)), (z, .inr (6, [.ref zc, .int zs])), (zc, .inl (cI, 40, .inl zcf)), (a, .inr (5, [.ref as, .ref aw, .ref ak, .int u.1, .int u.2.1, .int u.2.2.1, .int u.2.2.2.1, .int u.2.2.2.2.1])), (as, .inl (cI, 12, .inl u.2.2.2.2.2.1)), (aw, .inl (cI, 12, .inl u.2.2.2.2.2.2.1)), (ak, .inl (cI, 12, .inl u.2.2.2.2.2.2.2)), (r, .inr (3, [.ref rt, .int rsz])), (rt, .inl (cI, 12, .inl rf))]) := by
  refine entI (by decide) (Nat.le_of_ble_eq_true rfl) ?_
  intro p e s m below meth c A Q ls hAt hret hP hD hS hl
  obtain ⟨hx, hb, hml, hown, hts, hA, hAb, hK, hE, hlocks, hin⟩ := hAt
  have hG : CG dC dI cI cJ base bB bO cX1_isContentWith 3 RX1 p s m (List.toArray [.ref j0, .ref r]) c A := ⟨hx, hb, hml, hown, hts, hA, hAb, hK, hE⟩
  have hl : lv_has ls 3 [(0, .ref j0), (1, .ref r)] := hl
  have c_m1 : (-1 : Int32).toInt = -1 := by decide
  have c_0 : (0 : Int32).toInt = 0 := by decide
  have c_1 : (1 : Int32).toInt = 1 := by decide
  have c_2 : (2 : Int32).toInt = 2 := by decide
  obtain ⟨H, hHe⟩ : ∃ H : Heap, H = s.heap := ⟨_, rfl⟩
  obtain ⟨locs, hle⟩ : ∃ z : List Loc, z = [] := ⟨_, rfl⟩
  rw [← hHe] at hP
  have hS : va_S A s.heap H locs := by rw [hHe, hle]; exact hS
  suffices hgo : W p l e { frames := 3, cells := 0, slots := 0, locals := 73 } s m (List.toArray [.ref j0, .ref r]) below meth c H locs 0 0 Q (F0 m 0 ls []) by rw [hHe, hle] at hgo; exact hgo
  refine lv_aload_n hx hb dX1_isContentWith_0 rfl (lv_at hl 0 rfl) ?_
  refine va_get (D := (dC, dI)) (ci := 1) (v := .int jg) (C := RX1) (T := TX1) (N := 5) hx hb hts inG_X1 hown hK hP 0 rfl rfl 3 (by decide) (hts _ fl_X1_29) (fun _ h9 => h9) rfl dX1_isContentWith_1 ?_
  refine lv_if_ne (tgt := 9) hx hb dX1_isContentWith_4 (by decide) (fun c1 => ?_) (fun c1 => ?_)
  · have c1' := I_ne c1
    refine lv_aload_n hx hb dX1_isContentWith_9 rfl (lv_at hl 0 rfl) ?_
    refine va_get (D := (dC, dI)) (ci := 1) (v := .ref a) (C := RX1) (T := TX1) (N := 5) hx hb hts inG_X1 hown hK hP 0 rfl rfl 2 (by decide) (hts _ fl_X1_25) (fun _ h9 => h9) rfl dX1_isContentWith_10 ?_
    refine lv_aload_n hx hb dX1_isContentWith_13 rfl (lv_at hl 1 rfl) ?_
    refine lv_aload_n hx hb dX1_isContentWith_14 rfl (lv_at hl 0 rfl) ?_
    refine va_get (D := (dC, dI)) (ci := 1) (v := .ref jk) (C := RX1) (T := TX1) (N := 5) hx hb hts inG_X1 hown hK hP 0 rfl rfl 0 (by decide) (hts _ fl_X1_9) (fun _ h9 => h9) rfl dX1_isContentWith_15 ?_
    refine calI (rest := []) (wr := [(j0, .inr (1, [.ref jk, .ref z, .ref a, .int jg, .int jw])), (z, .inr (6, [.ref zc, .int zs])), (zc, .inl (cI, 40, .inl zcf))]) hG (c_X6_understand l dC dI cI cJ base bB bO a as aw ak asc awc aht afi amd asf awf akf r rt rsz rf jk jkf (by first | assumption | omega) (by first | assumption | omega) (by first | assumption | omega) (by first | assumption | omega) (by first | assumption | omega) (by first | assumption | omega) (by first | assumption | omega) (by first | assumption | omega)) ml_X1_36 im_X6_understand se_X6_understand ini_X6 cd_X6_understand hd_X6_understand ⟨(Nat.le_of_ble_eq_true rfl), (Nat.le_of_ble_eq_true rfl)⟩ (Nat.le_of_ble_eq_true rfl) (Nat.le_of_ble_eq_true rfl) hP hD hS [4, 5, 6, 7, 8, 9, 1] [0, 2, 3] rfl rfl rfl rfl (by decide) 5 4 rfl rfl hl.1 rfl (Nat.le_of_ble_eq_true rfl) dX1_isContentWith_18 (fun r2 u H locs hw3 hP hD hS => ?_)
    obtain ⟨asc_4, awc_5, aht_6, afi_7, amd_8, asf_9, awf_10, akf_11⟩ := u
    have hw3 : (0 ≤ asc_4.toInt ∧ asc_4.toInt ≤ 12) ∧ (0 ≤ awc_5.toInt ∧ awc_5.toInt ≤ 12) ∧ (0 ≤ aht_6.toInt ∧ aht_6.toInt ≤ 12) ∧ (afi_7.toInt = 0 ∨ afi_7.toInt = 1) ∧ (∀ j : Nat, 0 ≤ (awf_10 j).toInt ∧ (awf_10 j).toInt < 12) ∧ (stOK asf_9 asc_4) ∧ True := hw3
    obtain ⟨hp12, hp13, hp14, hp15, hp16, hp17, -⟩ := hw3
    have hP : va_P (dC, dI) vwCl [(j0, .inr (1, [.ref jk, .ref z, .ref a, .int jg, .int jw])), (z, .inr (6, [.ref zc, .int zs])), (zc, .inl (cI, 40, .inl zcf)), (a, .inr (5, [.ref as, .ref aw, .ref ak, .int asc_4, .int awc_5, .int aht_6, .int afi_7, .int amd_8])), (as, .inl (cI, 12, .inl asf_9)), (aw, .inl (cI, 12, .inl awf_10)), (ak, .inl (cI, 12, .inl akf_11)), (r, .inr (3, [.ref rt, .int rsz])), (rt, .inl (cI, 12, .inl rf)), (jk, .inl (cI, 4, .inl jkf))] H := hP
    have hD : va_D A [(j0, .inr (1, [.ref jk, .ref z, .ref a, .int jg, .int jw])), (z, .inr (6, [.ref zc, .int zs])), (zc, .inl (cI, 40, .inl zcf)), (a, .inr (5, [.ref as, .ref aw, .ref ak, .int asc_4, .int awc_5, .int aht_6, .int afi_7, .int amd_8])), (as, .inl (cI, 12, .inl asf_9)), (aw, .inl (cI, 12, .inl awf_10)), (ak, .inl (cI, 12, .inl akf_11)), (r, .inr (3, [.ref rt, .int rsz])), (rt, .inl (cI, 12, .inl rf)), (jk, .inl (cI, 4, .inl jkf))] := hD
    refine lv_istore_n (lv' := [(2, .int r2), (0, .ref j0), (1, .ref r)]) hx hb dX1_isContentWith_21 rfl hl (by decide) rfl (fun ls hl => ?_)
    refine lv_iload_n hx hb dX1_isContentWith_22 rfl (lv_at hl 0 rfl) ?_
    refine lv_iconst (v := (-1)) hx hb dX1_isContentWith_23 (by decide) ?_
    refine lv_icmp_eq (tgt := 43) hx hb dX1_isContentWith_24 (by decide) (fun c18 => ?_) (fun c18 => ?_)
    · have c18' := I_eq c18
      refine lv_iconst (v := 0) hx hb dX1_isContentWith_43 (by decide) ?_
      exact hret 0 (asc_4, awc_5, aht_6, afi_7, amd_8, asf_9, awf_10, akf_11) H locs 44 ls (by first | rfl | exact I_narz (by omega)) ⟨(show (0 : Int32).toInt = 0 ∨ (0 : Int32).toInt = 1 from by first | rfl | assumption | omega), (show 0 ≤ asc_4.toInt ∧ asc_4.toInt ≤ 12 from by first | rfl | assumption | omega), (show 0 ≤ awc_5.toInt ∧ awc_5.toInt ≤ 12 from by first | rfl | assumption | omega), (show 0 ≤ aht_6.toInt ∧ aht_6.toInt ≤ 12 from by first | rfl | assumption | omega), (show afi_7.toInt = 0 ∨ afi_7.toInt = 1 from by first | rfl | assumption | omega), (show ∀ j : Nat, 0 ≤ (awf_10 j).toInt ∧ (awf_10 j).toInt < 12 from by first | rfl | assumption | omega), (show stOK asf_9 asc_4 from by first | rfl | assumption | omega), trivial⟩ (hP.sub (ws' := [(j0, .inr (1, [.ref jk, .ref z, .ref a, .int jg, .int jw])), (jk, .inl (cI, 4, .inl jkf)), (z, .inr (6, [.ref zc, .int zs])), (zc, .inl (cI, 40, .inl zcf)), (a, .inr (5, [.ref as, .ref aw, .ref ak, .int asc_4, .int awc_5, .int aht_6, .int afi_7, .int amd_8])), (as, .inl (cI, 12, .inl asf_9)), (aw, .inl (cI, 12, .inl awf_10)), (ak, .inl (cI, 12, .inl akf_11)), (r, .inr (3, [.ref rt, .int rsz])), (rt, .inl (cI, 12, .inl rf))]) [0, 9, 1, 2, 3, 4, 5, 6, 7, 8] rfl) (hD.sub (ws' := [(j0, .inr (1, [.ref jk, .ref z, .ref a, .int jg, .int jw])), (jk, .inl (cI, 4, .inl jkf)), (z, .inr (6, [.ref zc, .int zs])), (zc, .inl (cI, 40, .inl zcf)), (a, .inr (5, [.ref as, .ref aw, .ref ak, .int asc_4, .int awc_5, .int aht_6, .int afi_7, .int amd_8])), (as, .inl (cI, 12, .inl asf_9)), (aw, .inl (cI, 12, .inl awf_10)), (ak, .inl (cI, 12, .inl akf_11)), (r, .inr (3, [.ref rt, .int rsz])), (rt, .inl (cI, 12, .inl rf))]) [0, 9, 1, 2, 3, 4, 5, 6, 7, 8] (by decide) rfl) hS dX1_isContentWith_44
    · have c18' := I_ne c18
      refine lv_aload_n hx hb dX1_isContentWith_27 rfl (lv_at hl 1 rfl) ?_
      refine va_get (D := (dC, dI)) (ci := 1) (v := .int jw) (C := RX1) (T := TX1) (N := 5) hx hb hts inG_X1 hown hK hP 0 rfl rfl 4 (by decide) (hts _ fl_X1_33) (fun _ h9 => h9) rfl dX1_isContentWith_28 ?_
      refine lv_iconst (v := (-1)) hx hb dX1_isContentWith_31 (by decide) ?_
      refine lv_icmp_eq (tgt := 45) hx hb dX1_isContentWith_32 (by decide) (fun c19 => ?_) (fun c19 => ?_)
      · have c19' := I_eq c19
        refine lv_aload_n hx hb dX1_isContentWith_45 rfl (lv_at hl 1 rfl) ?_
        refine va_get (D := (dC, dI)) (ci := 1) (v := .int jg) (C := RX1) (T := TX1) (N := 5) hx hb hts inG_X1 hown hK hP 0 rfl rfl 3 (by decide) (hts _ fl_X1_29) (fun _ h9 => h9) rfl dX1_isContentWith_46 ?_
        refine lv_iconst (v := 2) hx hb dX1_isContentWith_49 (by decide) ?_
        refine lv_icmp_ne (tgt := 67) hx hb dX1_isContentWith_50 (by decide) (fun c20 => ?_) (fun c20 => ?_)
        · have c20' := I_ne c20
          refine lv_iconst (v := 1) hx hb dX1_isContentWith_67 (by decide) ?_
          refine lv_goto (tgt := 72) hx hb dX1_isContentWith_68 (by decide) ?_
          exact hret 1 (asc_4, awc_5, aht_6, afi_7, amd_8, asf_9, awf_10, akf_11) H locs 72 ls (by first | rfl | exact I_narz (by omega)) ⟨(show (1 : Int32).toInt = 0 ∨ (1 : Int32).toInt = 1 from by first | rfl | assumption | omega), (show 0 ≤ asc_4.toInt ∧ asc_4.toInt ≤ 12 from by first | rfl | assumption | omega), (show 0 ≤ awc_5.toInt ∧ awc_5.toInt ≤ 12 from by first | rfl | assumption | omega), (show 0 ≤ aht_6.toInt ∧ aht_6.toInt ≤ 12 from by first | rfl | assumption | omega), (show afi_7.toInt = 0 ∨ afi_7.toInt = 1 from by first | rfl | assumption | omega), (show ∀ j : Nat, 0 ≤ (awf_10 j).toInt ∧ (awf_10 j).toInt < 12 from by first | rfl | assumption | omega), (show stOK asf_9 asc_4 from by first | rfl | assumption | omega), trivial⟩ (hP.sub (ws' := [(j0, .inr (1, [.ref jk, .ref z, .ref a, .int jg, .int jw])), (jk, .inl (cI, 4, .inl jkf)), (z, .inr (6, [.ref zc, .int zs])), (zc, .inl (cI, 40, .inl zcf)), (a, .inr (5, [.ref as, .ref aw, .ref ak, .int asc_4, .int awc_5, .int aht_6, .int afi_7, .int amd_8])), (as, .inl (cI, 12, .inl asf_9)), (aw, .inl (cI, 12, .inl awf_10)), (ak, .inl (cI, 12, .inl akf_11)), (r, .inr (3, [.ref rt, .int rsz])), (rt, .inl (cI, 12, .inl rf))]) [0, 9, 1, 2, 3, 4, 5, 6, 7, 8] rfl) (hD.sub (ws' := [(j0, .inr (1, [.ref jk, .ref z, .ref a, .int jg, .int jw])), (jk, .inl (cI, 4, .inl jkf)), (z, .inr (6, [.ref zc, .int zs])), (zc, .inl (cI, 40, .inl zcf)), (a, .inr (5, [.ref as, .ref aw, .ref ak, .int asc_4, .int awc_5, .int aht_6, .int afi_7, .int amd_8])), (as, .inl (cI, 12, .inl asf_9)), (aw, .inl (cI, 12, .inl awf_10)), (ak, .inl (cI, 12, .inl akf_11)), (r, .inr (3, [.ref rt, .int rsz])), (rt, .inl (cI, 12, .inl rf))]) [0, 9, 1, 2, 3, 4, 5, 6, 7, 8] (by decide) rfl) hS dX1_isContentWith_72
        · have c20' := I_eq c20
          refine lv_aload_n hx hb dX1_isContentWith_53 rfl (lv_at hl 1 rfl) ?_
          refine va_get (D := (dC, dI)) (ci := 1) (v := .ref z) (C := RX1) (T := TX1) (N := 5) hx hb hts inG_X1 hown hK hP 0 rfl rfl 1 (by decide) (hts _ fl_X1_18) (fun _ h9 => h9) rfl dX1_isContentWith_54 ?_
          refine lv_aload_n hx hb dX1_isContentWith_57 rfl (lv_at hl 1 rfl) ?_
          refine va_get (D := (dC, dI)) (ci := 1) (v := .ref a) (C := RX1) (T := TX1) (N := 5) hx hb hts inG_X1 hown hK hP 0 rfl rfl 2 (by decide) (hts _ fl_X1_25) (fun _ h9 => h9) rfl dX1_isContentWith_58 ?_
          refine calI (rest := []) (wr := [(j0, .inr (1, [.ref jk, .ref z, .ref a, .int jg, .int jw])), (aw, .inl (cI, 12, .inl awf_10)), (r, .inr (3, [.ref rt, .int rsz])), (rt, .inl (cI, 12, .inl rf)), (jk, .inl (cI, 4, .inl jkf))]) hG (c_X7_areAllKeptBy l dC dI cI cJ base bB bO z zc zs zcf a as aw ak asc_4 awc_5 aht_6 afi_7 amd_8 asf_9 akf_11 (by first | assumption | omega) (by first | assumption | omega) (by first | assumption | omega)) ml_X1_40 im_X7_areAllKeptBy se_X7_areAllKeptBy ini_X7 cd_X7_areAllKeptBy hd_X7_areAllKeptBy ⟨(Nat.le_of_ble_eq_true rfl), (Nat.le_of_ble_eq_true rfl)⟩ (Nat.le_of_ble_eq_true rfl) (Nat.le_of_ble_eq_true rfl) hP hD hS [1, 2, 3, 4, 6] [0, 5, 7, 8, 9] rfl rfl rfl rfl (by decide) 6 1 rfl rfl hl.1 rfl (Nat.le_of_ble_eq_true rfl) dX1_isContentWith_61 (fun r21 u H locs hw22 hP hD hS => ?_)
          obtain ⟨aht_23, akf_24⟩ := u
          have hw22 : (0 ≤ aht_23.toInt ∧ aht_23.toInt ≤ 12 ∨ aht_23.toInt = aht_6.toInt) ∧ (r21.toInt = 0 ∨ r21.toInt = 1) ∧ True := hw22
          obtain ⟨hp25, hp26, -⟩ := hw22
          have hP : va_P (dC, dI) vwCl [(j0, .inr (1, [.ref jk, .ref z, .ref a, .int jg, .int jw])), (aw, .inl (cI, 12, .inl awf_10)), (r, .inr (3, [.ref rt, .int rsz])), (rt, .inl (cI, 12, .inl rf)), (jk, .inl (cI, 4, .inl jkf)), (z, .inr (6, [.ref zc, .int zs])), (zc, .inl (cI, 40, .inl zcf)), (a, .inr (5, [.ref as, .ref aw, .ref ak, .int asc_4, .int awc_5, .int aht_23, .int afi_7, .int amd_8])), (as, .inl (cI, 12, .inl asf_9)), (ak, .inl (cI, 12, .inl akf_24))] H := hP
          have hD : va_D A [(j0, .inr (1, [.ref jk, .ref z, .ref a, .int jg, .int jw])), (aw, .inl (cI, 12, .inl awf_10)), (r, .inr (3, [.ref rt, .int rsz])), (rt, .inl (cI, 12, .inl rf)), (jk, .inl (cI, 4, .inl jkf)), (z, .inr (6, [.ref zc, .int zs])), (zc, .inl (cI, 40, .inl zcf)), (a, .inr (5, [.ref as, .ref aw, .ref ak, .int asc_4, .int awc_5, .int aht_23, .int afi_7, .int amd_8])), (as, .inl (cI, 12, .inl asf_9)), (ak, .inl (cI, 12, .inl akf_24))] := hD
          refine lv_if_eq (tgt := 71) hx hb dX1_isContentWith_64 (by decide) (fun c27 => ?_) (fun c27 => ?_)
          · have c27' := I_eq c27
            refine lv_iconst (v := 0) hx hb dX1_isContentWith_71 (by decide) ?_
            exact hret 0 (asc_4, awc_5, aht_23, afi_7, amd_8, asf_9, awf_10, akf_24) H locs 72 ls (by first | rfl | exact I_narz (by omega)) ⟨(show (0 : Int32).toInt = 0 ∨ (0 : Int32).toInt = 1 from by first | rfl | assumption | omega), (show 0 ≤ asc_4.toInt ∧ asc_4.toInt ≤ 12 from by first | rfl | assumption | omega), (show 0 ≤ awc_5.toInt ∧ awc_5.toInt ≤ 12 from by first | rfl | assumption | omega), (show 0 ≤ aht_23.toInt ∧ aht_23.toInt ≤ 12 from by first | rfl | assumption | omega), (show afi_7.toInt = 0 ∨ afi_7.toInt = 1 from by first | rfl | assumption | omega), (show ∀ j : Nat, 0 ≤ (awf_10 j).toInt ∧ (awf_10 j).toInt < 12 from by first | rfl | assumption | omega), (show stOK asf_9 asc_4 from by first | rfl | assumption | omega), trivial⟩ (hP.sub (ws' := [(j0, .inr (1, [.ref jk, .ref z, .ref a, .int jg, .int jw])), (jk, .inl (cI, 4, .inl jkf)), (z, .inr (6, [.ref zc, .int zs])), (zc, .inl (cI, 40, .inl zcf)), (a, .inr (5, [.ref as, .ref aw, .ref ak, .int asc_4, .int awc_5, .int aht_23, .int afi_7, .int amd_8])), (as, .inl (cI, 12, .inl asf_9)), (aw, .inl (cI, 12, .inl awf_10)), (ak, .inl (cI, 12, .inl akf_24)), (r, .inr (3, [.ref rt, .int rsz])), (rt, .inl (cI, 12, .inl rf))]) [0, 4, 5, 6, 7, 8, 1, 9, 2, 3] rfl) (hD.sub (ws' := [(j0, .inr (1, [.ref jk, .ref z, .ref a, .int jg, .int jw])), (jk, .inl (cI, 4, .inl jkf)), (z, .inr (6, [.ref zc, .int zs])), (zc, .inl (cI, 40, .inl zcf)), (a, .inr (5, [.ref as, .ref aw, .ref ak, .int asc_4, .int awc_5, .int aht_23, .int afi_7, .int amd_8])), (as, .inl (cI, 12, .inl asf_9)), (aw, .inl (cI, 12, .inl awf_10)), (ak, .inl (cI, 12, .inl akf_24)), (r, .inr (3, [.ref rt, .int rsz])), (rt, .inl (cI, 12, .inl rf))]) [0, 4, 5, 6, 7, 8, 1, 9, 2, 3] (by decide) rfl) hS dX1_isContentWith_72
          · have c27' := I_ne c27
            refine lv_iconst (v := 1) hx hb dX1_isContentWith_67 (by decide) ?_
            refine lv_goto (tgt := 72) hx hb dX1_isContentWith_68 (by decide) ?_
            exact hret 1 (asc_4, awc_5, aht_23, afi_7, amd_8, asf_9, awf_10, akf_24) H locs 72 ls (by first | rfl | exact I_narz (by omega)) ⟨(show (1 : Int32).toInt = 0 ∨ (1 : Int32).toInt = 1 from by first | rfl | assumption | omega), (show 0 ≤ asc_4.toInt ∧ asc_4.toInt ≤ 12 from by first | rfl | assumption | omega), (show 0 ≤ awc_5.toInt ∧ awc_5.toInt ≤ 12 from by first | rfl | assumption | omega), (show 0 ≤ aht_23.toInt ∧ aht_23.toInt ≤ 12 from by first | rfl | assumption | omega), (show afi_7.toInt = 0 ∨ afi_7.toInt = 1 from by first | rfl | assumption | omega), (show ∀ j : Nat, 0 ≤ (awf_10 j).toInt ∧ (awf_10 j).toInt < 12 from by first | rfl | assumption | omega), (show stOK asf_9 asc_4 from by first | rfl | assumption | omega), trivial⟩ (hP.sub (ws' := [(j0, .inr (1, [.ref jk, .ref z, .ref a, .int jg, .int jw])), (jk, .inl (cI, 4, .inl jkf)), (z, .inr (6, [.ref zc, .int zs])), (zc, .inl (cI, 40, .inl zcf)), (a, .inr (5, [.ref as, .ref aw, .ref ak, .int asc_4, .int awc_5, .int aht_23, .int afi_7, .int amd_8])), (as, .inl (cI, 12, .inl asf_9)), (aw, .inl (cI, 12, .inl awf_10)), (ak, .inl (cI, 12, .inl akf_24)), (r, .inr (3, [.ref rt, .int rsz])), (rt, .inl (cI, 12, .inl rf))]) [0, 4, 5, 6, 7, 8, 1, 9, 2, 3] rfl) (hD.sub (ws' := [(j0, .inr (1, [.ref jk, .ref z, .ref a, .int jg, .int jw])), (jk, .inl (cI, 4, .inl jkf)), (z, .inr (6, [.ref zc, .int zs])), (zc, .inl (cI, 40, .inl zcf)), (a, .inr (5, [.ref as, .ref aw, .ref ak, .int asc_4, .int awc_5, .int aht_23, .int afi_7, .int amd_8])), (as, .inl (cI, 12, .inl asf_9)), (aw, .inl (cI, 12, .inl awf_10)), (ak, .inl (cI, 12, .inl akf_24)), (r, .inr (3, [.ref rt, .int rsz])), (rt, .inl (cI, 12, .inl rf))]) [0, 4, 5, 6, 7, 8, 1, 9, 2, 3] (by decide) rfl) hS dX1_isContentWith_72
      · have c19' := I_ne c19
        refine lv_iload_n hx hb dX1_isContentWith_35 rfl (lv_at hl 0 rfl) ?_
        refine lv_aload_n hx hb dX1_isContentWith_36 rfl (lv_at hl 1 rfl) ?_
        refine va_get (D := (dC, dI)) (ci := 1) (v := .int jw) (C := RX1) (T := TX1) (N := 5) hx hb hts inG_X1 hown hK hP 0 rfl rfl 4 (by decide) (hts _ fl_X1_33) (fun _ h9 => h9) rfl dX1_isContentWith_37 ?_
        refine lv_icmp_eq (tgt := 45) hx hb dX1_isContentWith_40 (by decide) (fun c28 => ?_) (fun c28 => ?_)
        · have c28' := I_eq c28
          refine lv_aload_n hx hb dX1_isContentWith_45 rfl (lv_at hl 1 rfl) ?_
          refine va_get (D := (dC, dI)) (ci := 1) (v := .int jg) (C := RX1) (T := TX1) (N := 5) hx hb hts inG_X1 hown hK hP 0 rfl rfl 3 (by decide) (hts _ fl_X1_29) (fun _ h9 => h9) rfl dX1_isContentWith_46 ?_
          refine lv_iconst (v := 2) hx hb dX1_isContentWith_49 (by decide) ?_
          refine lv_icmp_ne (tgt := 67) hx hb dX1_isContentWith_50 (by decide) (fun c29 => ?_) (fun c29 => ?_)
          · have c29' := I_ne c29
            refine lv_iconst (v := 1) hx hb dX1_isContentWith_67 (by decide) ?_
            refine lv_goto (tgt := 72) hx hb dX1_isContentWith_68 (by decide) ?_
            exact hret 1 (asc_4, awc_5, aht_6, afi_7, amd_8, asf_9, awf_10, akf_11) H locs 72 ls (by first | rfl | exact I_narz (by omega)) ⟨(show (1 : Int32).toInt = 0 ∨ (1 : Int32).toInt = 1 from by first | rfl | assumption | omega), (show 0 ≤ asc_4.toInt ∧ asc_4.toInt ≤ 12 from by first | rfl | assumption | omega), (show 0 ≤ awc_5.toInt ∧ awc_5.toInt ≤ 12 from by first | rfl | assumption | omega), (show 0 ≤ aht_6.toInt ∧ aht_6.toInt ≤ 12 from by first | rfl | assumption | omega), (show afi_7.toInt = 0 ∨ afi_7.toInt = 1 from by first | rfl | assumption | omega), (show ∀ j : Nat, 0 ≤ (awf_10 j).toInt ∧ (awf_10 j).toInt < 12 from by first | rfl | assumption | omega), (show stOK asf_9 asc_4 from by first | rfl | assumption | omega), trivial⟩ (hP.sub (ws' := [(j0, .inr (1, [.ref jk, .ref z, .ref a, .int jg, .int jw])), (jk, .inl (cI, 4, .inl jkf)), (z, .inr (6, [.ref zc, .int zs])), (zc, .inl (cI, 40, .inl zcf)), (a, .inr (5, [.ref as, .ref aw, .ref ak, .int asc_4, .int awc_5, .int aht_6, .int afi_7, .int amd_8])), (as, .inl (cI, 12, .inl asf_9)), (aw, .inl (cI, 12, .inl awf_10)), (ak, .inl (cI, 12, .inl akf_11)), (r, .inr (3, [.ref rt, .int rsz])), (rt, .inl (cI, 12, .inl rf))]) [0, 9, 1, 2, 3, 4, 5, 6, 7, 8] rfl) (hD.sub (ws' := [(j0, .inr (1, [.ref jk, .ref z, .ref a, .int jg, .int jw])), (jk, .inl (cI, 4, .inl jkf)), (z, .inr (6, [.ref zc, .int zs])), (zc, .inl (cI, 40, .inl zcf)), (a, .inr (5, [.ref as, .ref aw, .ref ak, .int asc_4, .int awc_5, .int aht_6, .int afi_7, .int amd_8])), (as, .inl (cI, 12, .inl asf_9)), (aw, .inl (cI, 12, .inl awf_10)), (ak, .inl (cI, 12, .inl akf_11)), (r, .inr (3, [.ref rt, .int rsz])), (rt, .inl (cI, 12, .inl rf))]) [0, 9, 1, 2, 3, 4, 5, 6, 7, 8] (by decide) rfl) hS dX1_isContentWith_72
          · have c29' := I_eq c29
            refine lv_aload_n hx hb dX1_isContentWith_53 rfl (lv_at hl 1 rfl) ?_
            refine va_get (D := (dC, dI)) (ci := 1) (v := .ref z) (C := RX1) (T := TX1) (N := 5) hx hb hts inG_X1 hown hK hP 0 rfl rfl 1 (by decide) (hts _ fl_X1_18) (fun _ h9 => h9) rfl dX1_isContentWith_54 ?_
            refine lv_aload_n hx hb dX1_isContentWith_57 rfl (lv_at hl 1 rfl) ?_
            refine va_get (D := (dC, dI)) (ci := 1) (v := .ref a) (C := RX1) (T := TX1) (N := 5) hx hb hts inG_X1 hown hK hP 0 rfl rfl 2 (by decide) (hts _ fl_X1_25) (fun _ h9 => h9) rfl dX1_isContentWith_58 ?_
            refine calI (rest := []) (wr := [(j0, .inr (1, [.ref jk, .ref z, .ref a, .int jg, .int jw])), (aw, .inl (cI, 12, .inl awf_10)), (r, .inr (3, [.ref rt, .int rsz])), (rt, .inl (cI, 12, .inl rf)), (jk, .inl (cI, 4, .inl jkf))]) hG (c_X7_areAllKeptBy l dC dI cI cJ base bB bO z zc zs zcf a as aw ak asc_4 awc_5 aht_6 afi_7 amd_8 asf_9 akf_11 (by first | assumption | omega) (by first | assumption | omega) (by first | assumption | omega)) ml_X1_40 im_X7_areAllKeptBy se_X7_areAllKeptBy ini_X7 cd_X7_areAllKeptBy hd_X7_areAllKeptBy ⟨(Nat.le_of_ble_eq_true rfl), (Nat.le_of_ble_eq_true rfl)⟩ (Nat.le_of_ble_eq_true rfl) (Nat.le_of_ble_eq_true rfl) hP hD hS [1, 2, 3, 4, 6] [0, 5, 7, 8, 9] rfl rfl rfl rfl (by decide) 6 1 rfl rfl hl.1 rfl (Nat.le_of_ble_eq_true rfl) dX1_isContentWith_61 (fun r30 u H locs hw31 hP hD hS => ?_)
            obtain ⟨aht_32, akf_33⟩ := u
            have hw31 : (0 ≤ aht_32.toInt ∧ aht_32.toInt ≤ 12 ∨ aht_32.toInt = aht_6.toInt) ∧ (r30.toInt = 0 ∨ r30.toInt = 1) ∧ True := hw31
            obtain ⟨hp34, hp35, -⟩ := hw31
            have hP : va_P (dC, dI) vwCl [(j0, .inr (1, [.ref jk, .ref z, .ref a, .int jg, .int jw])), (aw, .inl (cI, 12, .inl awf_10)), (r, .inr (3, [.ref rt, .int rsz])), (rt, .inl (cI, 12, .inl rf)), (jk, .inl (cI, 4, .inl jkf)), (z, .inr (6, [.ref zc, .int zs])), (zc, .inl (cI, 40, .inl zcf)), (a, .inr (5, [.ref as, .ref aw, .ref ak, .int asc_4, .int awc_5, .int aht_32, .int afi_7, .int amd_8])), (as, .inl (cI, 12, .inl asf_9)), (ak, .inl (cI, 12, .inl akf_33))] H := hP
            have hD : va_D A [(j0, .inr (1, [.ref jk, .ref z, .ref a, .int jg, .int jw])), (aw, .inl (cI, 12, .inl awf_10)), (r, .inr (3, [.ref rt, .int rsz])), (rt, .inl (cI, 12, .inl rf)), (jk, .inl (cI, 4, .inl jkf)), (z, .inr (6, [.ref zc, .int zs])), (zc, .inl (cI, 40, .inl zcf)), (a, .inr (5, [.ref as, .ref aw, .ref ak, .int asc_4, .int awc_5, .int aht_32, .int afi_7, .int amd_8])), (as, .inl (cI, 12, .inl asf_9)), (ak, .inl (cI, 12, .inl akf_33))] := hD
            refine lv_if_eq (tgt := 71) hx hb dX1_isContentWith_64 (by decide) (fun c36 => ?_) (fun c36 => ?_)
            · have c36' := I_eq c36
              refine lv_iconst (v := 0) hx hb dX1_isContentWith_71 (by decide) ?_
              exact hret 0 (asc_4, awc_5, aht_32, afi_7, amd_8, asf_9, awf_10, akf_33) H locs 72 ls (by first | rfl | exact I_narz (by omega)) ⟨(show (0 : Int32).toInt = 0 ∨ (0 : Int32).toInt = 1 from by first | rfl | assumption | omega), (show 0 ≤ asc_4.toInt ∧ asc_4.toInt ≤ 12 from by first | rfl | assumption | omega), (show 0 ≤ awc_5.toInt ∧ awc_5.toInt ≤ 12 from by first | rfl | assumption | omega), (show 0 ≤ aht_32.toInt ∧ aht_32.toInt ≤ 12 from by first | rfl | assumption | omega), (show afi_7.toInt = 0 ∨ afi_7.toInt = 1 from by first | rfl | assumption | omega), (show ∀ j : Nat, 0 ≤ (awf_10 j).toInt ∧ (awf_10 j).toInt < 12 from by first | rfl | assumption | omega), (show stOK asf_9 asc_4 from by first | rfl | assumption | omega), trivial⟩ (hP.sub (ws' := [(j0, .inr (1, [.ref jk, .ref z, .ref a, .int jg, .int jw])), (jk, .inl (cI, 4, .inl jkf)), (z, .inr (6, [.ref zc, .int zs])), (zc, .inl (cI, 40, .inl zcf)), (a, .inr (5, [.ref as, .ref aw, .ref ak, .int asc_4, .int awc_5, .int aht_32, .int afi_7, .int amd_8])), (as, .inl (cI, 12, .inl asf_9)), (aw, .inl (cI, 12, .inl awf_10)), (ak, .inl (cI, 12, .inl akf_33)), (r, .inr (3, [.ref rt, .int rsz])), (rt, .inl (cI, 12, .inl rf))]) [0, 4, 5, 6, 7, 8, 1, 9, 2, 3] rfl) (hD.sub (ws' := [(j0, .inr (1, [.ref jk, .ref z, .ref a, .int jg, .int jw])), (jk, .inl (cI, 4, .inl jkf)), (z, .inr (6, [.ref zc, .int zs])), (zc, .inl (cI, 40, .inl zcf)), (a, .inr (5, [.ref as, .ref aw, .ref ak, .int asc_4, .int awc_5, .int aht_32, .int afi_7, .int amd_8])), (as, .inl (cI, 12, .inl asf_9)), (aw, .inl (cI, 12, .inl awf_10)), (ak, .inl (cI, 12, .inl akf_33)), (r, .inr (3, [.ref rt, .int rsz])), (rt, .inl (cI, 12, .inl rf))]) [0, 4, 5, 6, 7, 8, 1, 9, 2, 3] (by decide) rfl) hS dX1_isContentWith_72
            · have c36' := I_ne c36
              refine lv_iconst (v := 1) hx hb dX1_isContentWith_67 (by decide) ?_
              refine lv_goto (tgt := 72) hx hb dX1_isContentWith_68 (by decide) ?_
              exact hret 1 (asc_4, awc_5, aht_32, afi_7, amd_8, asf_9, awf_10, akf_33) H locs 72 ls (by first | rfl | exact I_narz (by omega)) ⟨(show (1 : Int32).toInt = 0 ∨ (1 : Int32).toInt = 1 from by first | rfl | assumption | omega), (show 0 ≤ asc_4.toInt ∧ asc_4.toInt ≤ 12 from by first | rfl | assumption | omega), (show 0 ≤ awc_5.toInt ∧ awc_5.toInt ≤ 12 from by first | rfl | assumption | omega), (show 0 ≤ aht_32.toInt ∧ aht_32.toInt ≤ 12 from by first | rfl | assumption | omega), (show afi_7.toInt = 0 ∨ afi_7.toInt = 1 from by first | rfl | assumption | omega), (show ∀ j : Nat, 0 ≤ (awf_10 j).toInt ∧ (awf_10 j).toInt < 12 from by first | rfl | assumption | omega), (show stOK asf_9 asc_4 from by first | rfl | assumption | omega), trivial⟩ (hP.sub (ws' := [(j0, .inr (1, [.ref jk, .ref z, .ref a, .int jg, .int jw])), (jk, .inl (cI, 4, .inl jkf)), (z, .inr (6, [.ref zc, .int zs])), (zc, .inl (cI, 40, .inl zcf)), (a, .inr (5, [.ref as, .ref aw, .ref ak, .int asc_4, .int awc_5, .int aht_32, .int afi_7, .int amd_8])), (as, .inl (cI, 12, .inl asf_9)), (aw, .inl (cI, 12, .inl awf_10)), (ak, .inl (cI, 12, .inl akf_33)), (r, .inr (3, [.ref rt, .int rsz])), (rt, .inl (cI, 12, .inl rf))]) [0, 4, 5, 6, 7, 8, 1, 9, 2, 3] rfl) (hD.sub (ws' := [(j0, .inr (1, [.ref jk, .ref z, .ref a, .int jg, .int jw])), (jk, .inl (cI, 4, .inl jkf)), (z, .inr (6, [.ref zc, .int zs])), (zc, .inl (cI, 40, .inl zcf)), (a, .inr (5, [.ref as, .ref aw, .ref ak, .int asc_4, .int awc_5, .int aht_32, .int afi_7, .int amd_8])), (as, .inl (cI, 12, .inl asf_9)), (aw, .inl (cI, 12, .inl awf_10)), (ak, .inl (cI, 12, .inl akf_33)), (r, .inr (3, [.ref rt, .int rsz])), (rt, .inl (cI, 12, .inl rf))]) [0, 4, 5, 6, 7, 8, 1, 9, 2, 3] (by decide) rfl) hS dX1_isContentWith_72
        · have c28' := I_ne c28
          refine lv_iconst (v := 0) hx hb dX1_isContentWith_43 (by decide) ?_
          exact hret 0 (asc_4, awc_5, aht_6, afi_7, amd_8, asf_9, awf_10, akf_11) H locs 44 ls (by first | rfl | exact I_narz (by omega)) ⟨(show (0 : Int32).toInt = 0 ∨ (0 : Int32).toInt = 1 from by first | rfl | assumption | omega), (show 0 ≤ asc_4.toInt ∧ asc_4.toInt ≤ 12 from by first | rfl | assumption | omega), (show 0 ≤ awc_5.toInt ∧ awc_5.toInt ≤ 12 from by first | rfl | assumption | omega), (show 0 ≤ aht_6.toInt ∧ aht_6.toInt ≤ 12 from by first | rfl | assumption | omega), (show afi_7.toInt = 0 ∨ afi_7.toInt = 1 from by first | rfl | assumption | omega), (show ∀ j : Nat, 0 ≤ (awf_10 j).toInt ∧ (awf_10 j).toInt < 12 from by first | rfl | assumption | omega), (show stOK asf_9 asc_4 from by first | rfl | assumption | omega), trivial⟩ (hP.sub (ws' := [(j0, .inr (1, [.ref jk, .ref z, .ref a, .int jg, .int jw])), (jk, .inl (cI, 4, .inl jkf)), (z, .inr (6, [.ref zc, .int zs])), (zc, .inl (cI, 40, .inl zcf)), (a, .inr (5, [.ref as, .ref aw, .ref ak, .int asc_4, .int awc_5, .int aht_6, .int afi_7, .int amd_8])), (as, .inl (cI, 12, .inl asf_9)), (aw, .inl (cI, 12, .inl awf_10)), (ak, .inl (cI, 12, .inl akf_11)), (r, .inr (3, [.ref rt, .int rsz])), (rt, .inl (cI, 12, .inl rf))]) [0, 9, 1, 2, 3, 4, 5, 6, 7, 8] rfl) (hD.sub (ws' := [(j0, .inr (1, [.ref jk, .ref z, .ref a, .int jg, .int jw])), (jk, .inl (cI, 4, .inl jkf)), (z, .inr (6, [.ref zc, .int zs])), (zc, .inl (cI, 40, .inl zcf)), (a, .inr (5, [.ref as, .ref aw, .ref ak, .int asc_4, .int awc_5, .int aht_6, .int afi_7, .int amd_8])), (as, .inl (cI, 12, .inl asf_9)), (aw, .inl (cI, 12, .inl awf_10)), (ak, .inl (cI, 12, .inl akf_11)), (r, .inr (3, [.ref rt, .int rsz])), (rt, .inl (cI, 12, .inl rf))]) [0, 9, 1, 2, 3, 4, 5, 6, 7, 8] (by decide) rfl) hS dX1_isContentWith_44
  · have c1' := I_eq c1
    refine lv_iconst (v := 1) hx hb dX1_isContentWith_7 (by decide) ?_
    exact hret 1 (asc, awc, aht, afi, amd, asf, awf, akf) H locs 8 ls (by first | rfl | exact I_narz (by omega)) ⟨(show (1 : Int32).toInt = 0 ∨ (1 : Int32).toInt = 1 from by first | rfl | assumption | omega), (show 0 ≤ asc.toInt ∧ asc.toInt ≤ 12 from by first | rfl | assumption | omega), (show 0 ≤ awc.toInt ∧ awc.toInt ≤ 12 from by first | rfl | assumption | omega), (show 0 ≤ aht.toInt ∧ aht.toInt ≤ 12 from by first | rfl | assumption | omega), (show afi.toInt = 0 ∨ afi.toInt = 1 from by first | rfl | assumption | omega), (show ∀ j : Nat, 0 ≤ (awf j).toInt ∧ (awf j).toInt < 12 from by first | rfl | assumption | omega), (show stOK asf asc from by first | rfl | assumption | omega), trivial⟩ hP hD hS dX1_isContentWith_8
set_option maxHeartbeats 4000000 in
set_option maxRecDepth 100000 in
theorem c_X5_affordable (l : Launch) (dC : Nat → ClassId) (dI : Nat → Nat → Nat) (cI cJ : ClassId) (base bB bO : Nat) (q0 : Nat) (qw : Nat) (qd : Nat) (ql : Int32) (qb : Int32) (qwf : Nat → Int32) (qdf : Nat → Int32) (r : Nat) (x : Int32) (hq0 : 0 ≤ ql.toInt ∧ ql.toInt ≤ 10) (hx0 : 0 ≤ x.toInt ∧ x.toInt ≤ 12) : CtI l dC dI cI cJ base bB bO yX5_affordable cX5_affordable 7 .int 1 40 [.ref q0, .int x] [(q0, .inr (4, [.ref r, .ref qw, .ref qd, .int ql, .int qb])), (qw, .inl (cI, 10, .inl qwf)), (qd, .inl (cI, 143, .inl qdf))] (Unit) (fun (res : Int32) (u : Unit) => True) (fun (u : Unit) => [(q0, .inr (4, [.ref r, .ref qw, .ref qd, .int ql, .int qb])), (qw, .inl (cI, 10, .inl qwf)), (qd, .inl (cI, 143, .inl qdf))]) := by
  refine entI (by decide) (Nat.le_of_ble_eq_true rfl) ?_
  intro p e s m below meth c A Q ls hAt hret hP hD hS hl
  obtain ⟨hx, hb, hml, hown, hts, hA, hAb, hK, hE, hlocks, hin⟩ := hAt
  have hG : CG dC dI cI cJ base bB bO cX5_affordable 7 RX5 p s m (List.toArray [.ref q0, .int x]) c A := ⟨hx, hb, hml, hown, hts, hA, hAb, hK, hE⟩
  have hl : lv_has ls 7 [(0, .ref q0), (1, .int x)] := hl
  have c_m1 : (-1 : Int32).toInt = -1 := by decide
  have c_0 : (0 : Int32).toInt = 0 := by decide
  have c_1 : (1 : Int32).toInt = 1 := by decide
  have c_2 : (2 : Int32).toInt = 2 := by decide
  have c_11 : (11 : Int32).toInt = 11 := by decide
  obtain ⟨H, hHe⟩ : ∃ H : Heap, H = s.heap := ⟨_, rfl⟩
  obtain ⟨locs, hle⟩ : ∃ z : List Loc, z = [] := ⟨_, rfl⟩
  rw [← hHe] at hP
  have hS : va_S A s.heap H locs := by rw [hHe, hle]; exact hS
  suffices hgo : W p l e { frames := 1, cells := 0, slots := 0, locals := 40 } s m (List.toArray [.ref q0, .int x]) below meth c H locs 0 0 Q (F0 m 0 ls []) by rw [hHe, hle] at hgo; exact hgo
  refine lv_iconst (v := 0) hx hb dX5_affordable_0 (by decide) ?_
  refine lv_istore_n (lv' := [(2, .int 0), (0, .ref q0), (1, .int x)]) hx hb dX5_affordable_1 rfl hl (by decide) rfl (fun ls hl => ?_)
  refine lv_iconst (v := 0) hx hb dX5_affordable_2 (by decide) ?_
  refine lv_iload_n hx hb dX5_affordable_3 rfl (lv_at hl 2 rfl) ?_
  refine lv_iconst (v := 2) hx hb dX5_affordable_4 (by decide) ?_
  refine lv_isub hx hb dX5_affordable_5 ?_
  refine lv_topi (fun v1 ev1 => ?_)
  try have hv1 : v1.toInt = x.toInt - (2 : Int32).toInt := I_subx ev1 (by omega)
  refine va_mmax hx hb (by rw [hml]; exact hl.1.symm) hown (hts _ ml_X5_93) (hts _ st_max) (hts _ ini_Math) (hts _ cd_max) (Nat.le_of_ble_eq_true rfl) (Nat.le_of_ble_eq_true rfl) (Nat.le_of_ble_eq_true rfl) (Nat.le_of_ble_eq_true rfl) dX5_affordable_6 ?_
  refine lv_topi (fun v2 ev2 => ?_)
  have hv2 := I_max (0 : Int32) v1
  rw [← ev2] at hv2
  refine lv_istore_n (lv' := [(3, .int v2), (2, .int 0), (0, .ref q0), (1, .int x)]) hx hb dX5_affordable_9 rfl hl (by decide) rfl (fun ls hl => ?_)
  refine lv_aload_n hx hb dX5_affordable_10 rfl (lv_at hl 2 rfl) ?_
  refine va_get (D := (dC, dI)) (ci := 4) (v := .int ql) (C := RX5) (T := TX5) (N := 5) hx hb hts inG_X5 hown hK hP 0 rfl rfl 3 (by decide) (hts _ fl_X5_25) (fun _ h9 => h9) rfl dX5_affordable_11 ?_
  refine lv_iload_n hx hb dX5_affordable_14 rfl (lv_at hl 3 rfl) ?_
  refine lv_iconst (v := 2) hx hb dX5_affordable_15 (by decide) ?_
  refine lv_iadd hx hb dX5_affordable_16 ?_
  refine lv_topi (fun v3 ev3 => ?_)
  try have hv3 : v3.toInt = x.toInt + (2 : Int32).toInt := I_addx ev3 (by omega)
  refine va_mmin hx hb (by rw [hml]; exact hl.1.symm) hown (hts _ ml_X5_36) (hts _ st_min) (hts _ ini_Math) (hts _ cd_min) (Nat.le_of_ble_eq_true rfl) (Nat.le_of_ble_eq_true rfl) (Nat.le_of_ble_eq_true rfl) (Nat.le_of_ble_eq_true rfl) dX5_affordable_17 ?_
  refine lv_topi (fun v4 ev4 => ?_)
  have hv4 := I_min ql v3
  rw [← ev4] at hv4
  refine lv_istore (lv' := [(4, .int v4), (3, .int v2), (2, .int 0), (0, .ref q0), (1, .int x)]) hx hb dX5_affordable_20 hl (by decide) rfl (fun ls hl => ?_)
  refine lv_iload_n hx hb dX5_affordable_22 rfl (lv_at hl 1 rfl) ?_
  refine lv_istore (lv' := [(5, .int v2), (4, .int v4), (3, .int v2), (2, .int 0), (0, .ref q0), (1, .int x)]) hx hb dX5_affordable_23 hl (by decide) rfl (fun ls hl => ?_)
  have J25 : ∀ (n : Nat) (L5_25 : Int32) (L2_25 : Int32), (0 ≤ L5_25.toInt ∧ L5_25.toInt ≤ 12) → (12 - L5_25.toInt) < (n : Int) → ∀ (H : Heap) (locs : List Loc) (ls : Array Slot), va_P (dC, dI) vwCl [(q0, .inr (4, [.ref r, .ref qw, .ref qd, .int ql, .int qb])), (qw, .inl (cI, 10, .inl qwf)), (qd, .inl (cI, 143, .inl qdf))] H → va_D A [(q0, .inr (4, [.ref r, .ref qw, .ref qd, .int ql, .int qb])), (qw, .inl (cI, 10, .inl qwf)), (qd, .inl (cI, 143, .inl qdf))] → va_S A s.heap H locs → lv_has ls 7 [(5, .int L5_25), (4, .int v4), (3, .int v2), (2, .int L2_25), (0, .ref q0), (1, .int x)] → W p l e { frames := 1, cells := 0, slots := 0, locals := 40 } s m (List.toArray [.ref q0, .int x]) below meth c H locs 0 0 Q (F0 m 25 ls []) := by
    intro n
    induction n with
    | zero =>
      intro L5_25 L2_25 hi0_25 hm
      exact absurd hm (by omega)
    | succ n ih25 =>
      intro L5_25 L2_25 hi0_25 hm25 H locs ls hP hD hS hl
      refine lv_iload hx hb dX5_affordable_25 (lv_at hl 0 rfl) ?_
      refine lv_iload hx hb dX5_affordable_27 (lv_at hl 1 rfl) ?_
      refine lv_icmp_gt (tgt := 93) hx hb dX5_affordable_29 (by decide) (fun c5 => ?_) (fun c5 => ?_)
      · have c5' := I_lt c5
        refine lv_iload_n hx hb dX5_affordable_93 rfl (lv_at hl 3 rfl) ?_
        exact hret L2_25 () H locs 94 ls rfl trivial hP hD hS dX5_affordable_94
      · have c5' := I_nlt c5
        refine lv_aload_n hx hb dX5_affordable_32 rfl (lv_at hl 4 rfl) ?_
        refine va_get (D := (dC, dI)) (ci := 4) (v := .ref qd) (C := RX5) (T := TX5) (N := 5) hx hb hts inG_X5 hown hK hP 0 rfl rfl 2 (by decide) (hts _ fl_X5_22) (fun _ h9 => h9) rfl dX5_affordable_33 ?_
        refine lv_iload_n hx hb dX5_affordable_36 rfl (lv_at hl 5 rfl) ?_
        refine lv_bipush (v := 11) hx hb dX5_affordable_37 (by decide) ?_
        refine lv_imul hx hb dX5_affordable_39 ?_
        refine lv_topi (fun v6 ev6 => ?_)
        try have hv6 := I_mulx (11) ev6 (by decide) (by omega)
        refine lv_iload hx hb dX5_affordable_40 (lv_at hl 0 rfl) ?_
        refine lv_iadd hx hb dX5_affordable_42 ?_
        refine lv_topi (fun v7 ev7 => ?_)
        try have hv7 : v7.toInt = v6.toInt + L5_25.toInt := I_addx ev7 (by omega)
        refine va_iald (t0 := 0) hx hb hK hP 2 (ha := rfl) (ht := rfl) (I_in (by omega) (by omega)) dX5_affordable_43 ?_
        refine lv_topi (fun v8 ev8 => ?_)
        refine lv_istore (lv' := [(6, .int v8), (5, .int L5_25), (4, .int v4), (3, .int v2), (2, .int L2_25), (0, .ref q0), (1, .int x)]) hx hb dX5_affordable_44 hl (by decide) rfl (fun ls hl => ?_)
        refine lv_iload hx hb dX5_affordable_46 (lv_at hl 0 rfl) ?_
        refine lv_aload_n hx hb dX5_affordable_48 rfl (lv_at hl 5 rfl) ?_
        refine va_get (D := (dC, dI)) (ci := 4) (v := .int qb) (C := RX5) (T := TX5) (N := 5) hx hb hts inG_X5 hown hK hP 0 rfl rfl 4 (by decide) (hts _ fl_X5_29) (fun _ h9 => h9) rfl dX5_affordable_49 ?_
        refine lv_icmp_ge (tgt := 57) hx hb dX5_affordable_52 (by decide) (fun c9 => ?_) (fun c9 => ?_)
        · have c9' := I_le c9
          refine lv_iload hx hb dX5_affordable_57 (lv_at hl 0 rfl) ?_
          refine lv_aload_n hx hb dX5_affordable_59 rfl (lv_at hl 5 rfl) ?_
          refine va_get (D := (dC, dI)) (ci := 4) (v := .int qb) (C := RX5) (T := TX5) (N := 5) hx hb hts inG_X5 hown hK hP 0 rfl rfl 4 (by decide) (hts _ fl_X5_29) (fun _ h9 => h9) rfl dX5_affordable_60 ?_
          refine lv_icmp_ne (tgt := 87) hx hb dX5_affordable_63 (by decide) (fun c10 => ?_) (fun c10 => ?_)
          · have c10' := I_ne c10
            obtain ⟨v11, ev11⟩ : ∃ y : Int32, y = L5_25 + 1 := ⟨_, rfl⟩
            try have hv11 : v11.toInt = L5_25.toInt + (1 : Int32).toInt := I_addx ev11 (by omega)
            refine lv_iinc (v := v11) (lv' := [(5, .int v11), (6, .int v8), (4, .int v4), (3, .int v2), (2, .int L2_25), (0, .ref q0), (1, .int x)]) hx hb dX5_affordable_87 hl (k := 1) rfl (by rw [ev11]; rfl) (by decide) rfl (fun ls hl => ?_)
            refine lv_goto (tgt := 25) hx hb dX5_affordable_90 (by decide) ?_
            exact ih25 v11 L2_25 (by first | assumption | omega) (by omega) H locs ls hP hD hS (lv_sub hl [0, 2, 3, 4, 5, 6] rfl)
          · have c10' := I_eq c10
            refine lv_iload hx hb dX5_affordable_66 (lv_at hl 1 rfl) ?_
            refine lv_aload_n hx hb dX5_affordable_68 rfl (lv_at hl 5 rfl) ?_
            refine va_get (D := (dC, dI)) (ci := 4) (v := .int ql) (C := RX5) (T := TX5) (N := 5) hx hb hts inG_X5 hown hK hP 0 rfl rfl 3 (by decide) (hts _ fl_X5_25) (fun _ h9 => h9) rfl dX5_affordable_69 ?_
            refine lv_icmp_ge (tgt := 87) hx hb dX5_affordable_72 (by decide) (fun c12 => ?_) (fun c12 => ?_)
            · have c12' := I_le c12
              obtain ⟨v13, ev13⟩ : ∃ y : Int32, y = L5_25 + 1 := ⟨_, rfl⟩
              try have hv13 : v13.toInt = L5_25.toInt + (1 : Int32).toInt := I_addx ev13 (by omega)
              refine lv_iinc (v := v13) (lv' := [(5, .int v13), (6, .int v8), (4, .int v4), (3, .int v2), (2, .int L2_25), (0, .ref q0), (1, .int x)]) hx hb dX5_affordable_87 hl (k := 1) rfl (by rw [ev13]; rfl) (by decide) rfl (fun ls hl => ?_)
              refine lv_goto (tgt := 25) hx hb dX5_affordable_90 (by decide) ?_
              exact ih25 v13 L2_25 (by first | assumption | omega) (by omega) H locs ls hP hD hS (lv_sub hl [0, 2, 3, 4, 5, 6] rfl)
            · have c12' := I_nle c12
              refine lv_iload_n hx hb dX5_affordable_75 rfl (lv_at hl 4 rfl) ?_
              refine lv_iconst (v := 1) hx hb dX5_affordable_76 (by decide) ?_
              refine lv_aload_n hx hb dX5_affordable_77 rfl (lv_at hl 5 rfl) ?_
              refine va_get (D := (dC, dI)) (ci := 4) (v := .ref qw) (C := RX5) (T := TX5) (N := 5) hx hb hts inG_X5 hown hK hP 0 rfl rfl 1 (by decide) (hts _ fl_X5_18) (fun _ h9 => h9) rfl dX5_affordable_78 ?_
              refine lv_iload hx hb dX5_affordable_81 (lv_at hl 1 rfl) ?_
              refine va_iald (t0 := 0) hx hb hK hP 1 (ha := rfl) (ht := rfl) (I_in (by omega) (by omega)) dX5_affordable_83 ?_
              refine lv_topi (fun v14 ev14 => ?_)
              refine lv_ishl hx hb dX5_affordable_84 ?_
              refine lv_topi (fun v15 ev15 => ?_)
              refine lv_ior hx hb dX5_affordable_85 ?_
              refine lv_topi (fun v16 ev16 => ?_)
              refine lv_istore_n (lv' := [(2, .int v16), (6, .int v8), (5, .int L5_25), (4, .int v4), (3, .int v2), (0, .ref q0), (1, .int x)]) hx hb dX5_affordable_86 rfl hl (by decide) rfl (fun ls hl => ?_)
              obtain ⟨v17, ev17⟩ : ∃ y : Int32, y = L5_25 + 1 := ⟨_, rfl⟩
              try have hv17 : v17.toInt = L5_25.toInt + (1 : Int32).toInt := I_addx ev17 (by omega)
              refine lv_iinc (v := v17) (lv' := [(5, .int v17), (2, .int v16), (6, .int v8), (4, .int v4), (3, .int v2), (0, .ref q0), (1, .int x)]) hx hb dX5_affordable_87 hl (k := 2) rfl (by rw [ev17]; rfl) (by decide) rfl (fun ls hl => ?_)
              refine lv_goto (tgt := 25) hx hb dX5_affordable_90 (by decide) ?_
              exact ih25 v17 v16 (by first | assumption | omega) (by omega) H locs ls hP hD hS (lv_sub hl [0, 3, 4, 1, 5, 6] rfl)
        · have c9' := I_nle c9
          refine lv_iconst (v := (-1)) hx hb dX5_affordable_55 (by decide) ?_
          exact hret (-1) () H locs 56 ls rfl trivial hP hD hS dX5_affordable_56
  exact J25 ((12 - v2.toInt).toNat + 1) v2 0 (by first | assumption | omega) (by omega) H locs ls hP hD hS hl
set_option maxHeartbeats 4000000 in
set_option maxRecDepth 100000 in
theorem c_X5_measure (l : Launch) (dC : Nat → ClassId) (dI : Nat → Nat → Nat) (cI cJ : ClassId) (base bB bO : Nat) (q0 : Nat) (qw : Nat) (qd : Nat) (ql : Int32) (qb : Int32) (qwf : Nat → Int32) (qdf : Nat → Int32) (r : Nat) (x : Int32) (y : Int32) (hq0 : 0 ≤ ql.toInt ∧ ql.toInt ≤ 10) (hx0 : 1 ≤ x.toInt ∧ x.toInt ≤ 12) : CtV l dC dI cI cJ base bB bO yX5_measure cX5_measure 10 0 0 1 40 [.ref q0, .int x, .int y] [(q0, .inr (4, [.ref r, .ref qw, .ref qd, .int ql, .int qb])), (qw, .inl (cI, 10, .inl qwf)), (qd, .inl (cI, 143, .inl qdf))] ((Nat → Int32)) (fun (u : (Nat → Int32)) => True) (fun (u : (Nat → Int32)) => [(q0, .inr (4, [.ref r, .ref qw, .ref qd, .int ql, .int qb])), (qw, .inl (cI, 10, .inl qwf)), (qd, .inl (cI, 143, .inl u))]) := by
  refine entV (by decide) (Nat.le_of_ble_eq_true rfl) ?_
  intro p e s m below meth c A Q ls hAt hret hP hD hS hl
  obtain ⟨hx, hb, hml, hown, hts, hA, hAb, hK, hE, hlocks, hin⟩ := hAt
  have hG : CG dC dI cI cJ base bB bO cX5_measure 10 RX5 p s m (List.toArray [.ref q0, .int x, .int y]) c A := ⟨hx, hb, hml, hown, hts, hA, hAb, hK, hE⟩
  have hl : lv_has ls 10 [(0, .ref q0), (1, .int x), (2, .int y)] := hl
  have c_0 : (0 : Int32).toInt = 0 := by decide
  have c_1 : (1 : Int32).toInt = 1 := by decide
  have c_2 : (2 : Int32).toInt = 2 := by decide
  have c_11 : (11 : Int32).toInt = 11 := by decide
  obtain ⟨H, hHe⟩ : ∃ H : Heap, H = s.heap := ⟨_, rfl⟩
  obtain ⟨locs, hle⟩ : ∃ z : List Loc, z = [] := ⟨_, rfl⟩
  rw [← hHe] at hP
  have hS : va_S A s.heap H locs := by rw [hHe, hle]; exact hS
  suffices hgo : W p l e { frames := 1, cells := 0, slots := 0, locals := 40 } s m (List.toArray [.ref q0, .int x, .int y]) below meth c H locs 0 0 Q (F0 m 0 ls []) by rw [hHe, hle] at hgo; exact hgo
  refine lv_iload_n hx hb dX5_measure_0 rfl (lv_at hl 1 rfl) ?_
  refine lv_bipush (v := 11) hx hb dX5_measure_1 (by decide) ?_
  refine lv_imul hx hb dX5_measure_3 ?_
  refine lv_topi (fun v1 ev1 => ?_)
  try have hv1 := I_mulx (11) ev1 (by decide) (by omega)
  refine lv_istore_n (lv' := [(3, .int v1), (0, .ref q0), (1, .int x), (2, .int y)]) hx hb dX5_measure_4 rfl hl (by decide) rfl (fun ls hl => ?_)
  refine lv_iload_n hx hb dX5_measure_5 rfl (lv_at hl 0 rfl) ?_
  refine lv_bipush (v := 11) hx hb dX5_measure_6 (by decide) ?_
  refine lv_isub hx hb dX5_measure_8 ?_
  refine lv_topi (fun v2 ev2 => ?_)
  try have hv2 : v2.toInt = v1.toInt - (11 : Int32).toInt := I_subx ev2 (by omega)
  refine lv_istore (lv' := [(4, .int v2), (3, .int v1), (0, .ref q0), (1, .int x), (2, .int y)]) hx hb dX5_measure_9 hl (by decide) rfl (fun ls hl => ?_)
  refine lv_iconst (v := 0) hx hb dX5_measure_11 (by decide) ?_
  refine lv_iload_n hx hb dX5_measure_12 rfl (lv_at hl 3 rfl) ?_
  refine lv_iconst (v := 2) hx hb dX5_measure_13 (by decide) ?_
  refine lv_isub hx hb dX5_measure_14 ?_
  refine lv_topi (fun v3 ev3 => ?_)
  try have hv3 : v3.toInt = x.toInt - (2 : Int32).toInt := I_subx ev3 (by omega)
  refine va_mmax hx hb (by rw [hml]; exact hl.1.symm) hown (hts _ ml_X5_93) (hts _ st_max) (hts _ ini_Math) (hts _ cd_max) (Nat.le_of_ble_eq_true rfl) (Nat.le_of_ble_eq_true rfl) (Nat.le_of_ble_eq_true rfl) (Nat.le_of_ble_eq_true rfl) dX5_measure_15 ?_
  refine lv_topi (fun v4 ev4 => ?_)
  have hv4 := I_max (0 : Int32) v3
  rw [← ev4] at hv4
  refine lv_istore (lv' := [(5, .int v4), (4, .int v2), (3, .int v1), (0, .ref q0), (1, .int x), (2, .int y)]) hx hb dX5_measure_18 hl (by decide) rfl (fun ls hl => ?_)
  refine lv_aload_n hx hb dX5_measure_20 rfl (lv_at hl 3 rfl) ?_
  refine va_get (D := (dC, dI)) (ci := 4) (v := .int ql) (C := RX5) (T := TX5) (N := 5) hx hb hts inG_X5 hown hK hP 0 rfl rfl 3 (by decide) (hts _ fl_X5_25) (fun _ h9 => h9) rfl dX5_measure_21 ?_
  refine lv_iload_n hx hb dX5_measure_24 rfl (lv_at hl 4 rfl) ?_
  refine lv_iconst (v := 2) hx hb dX5_measure_25 (by decide) ?_
  refine lv_iadd hx hb dX5_measure_26 ?_
  refine lv_topi (fun v5 ev5 => ?_)
  try have hv5 : v5.toInt = x.toInt + (2 : Int32).toInt := I_addx ev5 (by omega)
  refine va_mmin hx hb (by rw [hml]; exact hl.1.symm) hown (hts _ ml_X5_36) (hts _ st_min) (hts _ ini_Math) (hts _ cd_min) (Nat.le_of_ble_eq_true rfl) (Nat.le_of_ble_eq_true rfl) (Nat.le_of_ble_eq_true rfl) (Nat.le_of_ble_eq_true rfl) dX5_measure_27 ?_
  refine lv_topi (fun v6 ev6 => ?_)
  have hv6 := I_min ql v5
  rw [← ev6] at hv6
  refine lv_istore (lv' := [(6, .int v6), (5, .int v4), (4, .int v2), (3, .int v1), (0, .ref q0), (1, .int x), (2, .int y)]) hx hb dX5_measure_30 hl (by decide) rfl (fun ls hl => ?_)
  refine lv_iload hx hb dX5_measure_32 (lv_at hl 1 rfl) ?_
  refine lv_istore (lv' := [(7, .int v4), (6, .int v6), (5, .int v4), (4, .int v2), (3, .int v1), (0, .ref q0), (1, .int x), (2, .int y)]) hx hb dX5_measure_34 hl (by decide) rfl (fun ls hl => ?_)
  have J36 : ∀ (n : Nat) (L7_36 : Int32) (qdf_36 : Nat → Int32), (0 ≤ L7_36.toInt ∧ L7_36.toInt ≤ 12) → (12 - L7_36.toInt) < (n : Int) → ∀ (H : Heap) (locs : List Loc) (ls : Array Slot), va_P (dC, dI) vwCl [(q0, .inr (4, [.ref r, .ref qw, .ref qd, .int ql, .int qb])), (qw, .inl (cI, 10, .inl qwf)), (qd, .inl (cI, 143, .inl qdf_36))] H → va_D A [(q0, .inr (4, [.ref r, .ref qw, .ref qd, .int ql, .int qb])), (qw, .inl (cI, 10, .inl qwf)), (qd, .inl (cI, 143, .inl qdf_36))] → va_S A s.heap H locs → lv_has ls 10 [(7, .int L7_36), (6, .int v6), (5, .int v4), (4, .int v2), (3, .int v1), (0, .ref q0), (1, .int x), (2, .int y)] → W p l e { frames := 1, cells := 0, slots := 0, locals := 40 } s m (List.toArray [.ref q0, .int x, .int y]) below meth c H locs 0 0 Q (F0 m 36 ls []) := by
    intro n
    induction n with
    | zero =>
      intro L7_36 qdf_36 hi0_36 hm
      exact absurd hm (by omega)
    | succ n ih36 =>
      intro L7_36 qdf_36 hi0_36 hm36 H locs ls hP hD hS hl
      refine lv_iload hx hb dX5_measure_36 (lv_at hl 0 rfl) ?_
      refine lv_iload hx hb dX5_measure_38 (lv_at hl 1 rfl) ?_
      refine lv_icmp_gt (tgt := 141) hx hb dX5_measure_40 (by decide) (fun c7 => ?_) (fun c7 => ?_)
      · have c7' := I_lt c7
        exact hret qdf_36 H locs 141 ls trivial hP hD hS dX5_measure_141
      · have c7' := I_nlt c7
        refine lv_aload_n hx hb dX5_measure_43 rfl (lv_at hl 5 rfl) ?_
        refine va_get (D := (dC, dI)) (ci := 4) (v := .ref qd) (C := RX5) (T := TX5) (N := 5) hx hb hts inG_X5 hown hK hP 0 rfl rfl 2 (by decide) (hts _ fl_X5_22) (fun _ h9 => h9) rfl dX5_measure_44 ?_
        refine lv_iload hx hb dX5_measure_47 (lv_at hl 3 rfl) ?_
        refine lv_iload hx hb dX5_measure_49 (lv_at hl 0 rfl) ?_
        refine lv_iadd hx hb dX5_measure_51 ?_
        refine lv_topi (fun v8 ev8 => ?_)
        try have hv8 : v8.toInt = v2.toInt + L7_36.toInt := I_addx ev8 (by omega)
        refine va_iald (t0 := 0) hx hb hK hP 2 (ha := rfl) (ht := rfl) (I_in (by omega) (by omega)) dX5_measure_52 ?_
        refine lv_topi (fun v9 ev9 => ?_)
        refine lv_iconst (v := 1) hx hb dX5_measure_53 (by decide) ?_
        refine lv_iadd hx hb dX5_measure_54 ?_
        refine lv_topi (fun v10 ev10 => ?_)
        try have hv10 : v10.toInt = v9.toInt + (1 : Int32).toInt := I_addx ev10 (by omega)
        refine lv_istore (lv' := [(8, .int v10), (7, .int L7_36), (6, .int v6), (5, .int v4), (4, .int v2), (3, .int v1), (0, .ref q0), (1, .int x), (2, .int y)]) hx hb dX5_measure_55 hl (by decide) rfl (fun ls hl => ?_)
        have J124 : ∀ (L8_124 : Int32), ∀ (H : Heap) (locs : List Loc) (ls : Array Slot), va_P (dC, dI) vwCl [(q0, .inr (4, [.ref r, .ref qw, .ref qd, .int ql, .int qb])), (qw, .inl (cI, 10, .inl qwf)), (qd, .inl (cI, 143, .inl qdf_36))] H → va_D A [(q0, .inr (4, [.ref r, .ref qw, .ref qd, .int ql, .int qb])), (qw, .inl (cI, 10, .inl qwf)), (qd, .inl (cI, 143, .inl qdf_36))] → va_S A s.heap H locs → lv_has ls 10 [(8, .int L8_124), (7, .int L7_36), (6, .int v6), (5, .int v4), (4, .int v2), (3, .int v1), (0, .ref q0), (1, .int x), (2, .int y)] → W p l e { frames := 1, cells := 0, slots := 0, locals := 40 } s m (List.toArray [.ref q0, .int x, .int y]) below meth c H locs 0 0 Q (F0 m 124 ls []) := by
          intro L8_124 H locs ls hP hD hS hl
          refine lv_aload_n hx hb dX5_measure_124 rfl (lv_at hl 6 rfl) ?_
          refine va_get (D := (dC, dI)) (ci := 4) (v := .ref qd) (C := RX5) (T := TX5) (N := 5) hx hb hts inG_X5 hown hK hP 0 rfl rfl 2 (by decide) (hts _ fl_X5_22) (fun _ h9 => h9) rfl dX5_measure_125 ?_
          refine lv_iload_n hx hb dX5_measure_128 rfl (lv_at hl 5 rfl) ?_
          refine lv_iload hx hb dX5_measure_129 (lv_at hl 1 rfl) ?_
          refine lv_iadd hx hb dX5_measure_131 ?_
          refine lv_topi (fun v11 ev11 => ?_)
          try have hv11 : v11.toInt = v1.toInt + L7_36.toInt := I_addx ev11 (by omega)
          refine lv_iload hx hb dX5_measure_132 (lv_at hl 0 rfl) ?_
          refine va_iast (t0 := 0) hx hb hK hP hD hS 2 (ha := rfl) (ht := rfl) (I_in (by omega) (by omega)) dX5_measure_134 (fun H locs hP hD hS => ?_)
          have hP : va_P (dC, dI) vwCl [(q0, .inr (4, [.ref r, .ref qw, .ref qd, .int ql, .int qb])), (qw, .inl (cI, 10, .inl qwf)), (qd, .inl (cI, 143, .inl (upd qdf_36 v11.toNatClampNeg L8_124)))] H := hP
          have hD : va_D A [(q0, .inr (4, [.ref r, .ref qw, .ref qd, .int ql, .int qb])), (qw, .inl (cI, 10, .inl qwf)), (qd, .inl (cI, 143, .inl (upd qdf_36 v11.toNatClampNeg L8_124)))] := hD
          generalize ef12 : upd qdf_36 v11.toNatClampNeg L8_124 = f12 at hP hD
          obtain ⟨v13, ev13⟩ : ∃ y : Int32, y = L7_36 + 1 := ⟨_, rfl⟩
          try have hv13 : v13.toInt = L7_36.toInt + (1 : Int32).toInt := I_addx ev13 (by omega)
          refine lv_iinc (v := v13) (lv' := [(7, .int v13), (8, .int L8_124), (6, .int v6), (5, .int v4), (4, .int v2), (3, .int v1), (0, .ref q0), (1, .int x), (2, .int y)]) hx hb dX5_measure_135 hl (k := 1) rfl (by rw [ev13]; rfl) (by decide) rfl (fun ls hl => ?_)
          refine lv_goto (tgt := 36) hx hb dX5_measure_138 (by decide) ?_
          exact ih36 v13 f12 (by first | assumption | omega) (by omega) H locs ls hP hD hS (lv_sub hl [0, 2, 3, 4, 5, 6, 7, 8] rfl)
        refine lv_iload hx hb dX5_measure_57 (lv_at hl 1 rfl) ?_
        refine lv_if_le (tgt := 124) hx hb dX5_measure_59 (by decide) (fun c14 => ?_) (fun c14 => ?_)
        · have c14' := I_le c14
          exact J124 v10  H locs ls hP hD hS hl
        · have c14' := I_nle c14
          refine lv_aload_n hx hb dX5_measure_62 rfl (lv_at hl 6 rfl) ?_
          refine va_get (D := (dC, dI)) (ci := 4) (v := .ref qw) (C := RX5) (T := TX5) (N := 5) hx hb hts inG_X5 hown hK hP 0 rfl rfl 1 (by decide) (hts _ fl_X5_18) (fun _ h9 => h9) rfl dX5_measure_63 ?_
          refine lv_iload hx hb dX5_measure_66 (lv_at hl 1 rfl) ?_
          refine lv_iconst (v := 1) hx hb dX5_measure_68 (by decide) ?_
          refine lv_isub hx hb dX5_measure_69 ?_
          refine lv_topi (fun v15 ev15 => ?_)
          try have hv15 : v15.toInt = L7_36.toInt - (1 : Int32).toInt := I_subx ev15 (by omega)
          refine va_iald (t0 := 0) hx hb hK hP 1 (ha := rfl) (ht := rfl) (I_in (by omega) (by omega)) dX5_measure_70 ?_
          refine lv_topi (fun v16 ev16 => ?_)
          refine lv_iload_n hx hb dX5_measure_71 rfl (lv_at hl 8 rfl) ?_
          refine lv_icmp_ne (tgt := 79) hx hb dX5_measure_72 (by decide) (fun c17 => ?_) (fun c17 => ?_)
          · have c17' := I_ne c17
            refine lv_iconst (v := 1) hx hb dX5_measure_79 (by decide) ?_
            refine lv_istore (lv' := [(9, .int 1), (8, .int v10), (7, .int L7_36), (6, .int v6), (5, .int v4), (4, .int v2), (3, .int v1), (0, .ref q0), (1, .int x), (2, .int y)]) hx hb dX5_measure_80 hl (by decide) rfl (fun ls hl => ?_)
            refine lv_iload hx hb dX5_measure_82 (lv_at hl 1 rfl) ?_
            refine lv_aload_n hx hb dX5_measure_84 rfl (lv_at hl 7 rfl) ?_
            refine va_get (D := (dC, dI)) (ci := 4) (v := .ref qd) (C := RX5) (T := TX5) (N := 5) hx hb hts inG_X5 hown hK hP 0 rfl rfl 2 (by decide) (hts _ fl_X5_22) (fun _ h9 => h9) rfl dX5_measure_85 ?_
            refine lv_iload hx hb dX5_measure_88 (lv_at hl 5 rfl) ?_
            refine lv_iload hx hb dX5_measure_90 (lv_at hl 2 rfl) ?_
            refine lv_iadd hx hb dX5_measure_92 ?_
            refine lv_topi (fun v18 ev18 => ?_)
            try have hv18 : v18.toInt = v2.toInt + L7_36.toInt := I_addx ev18 (by omega)
            refine lv_iconst (v := 1) hx hb dX5_measure_93 (by decide) ?_
            refine lv_isub hx hb dX5_measure_94 ?_
            refine lv_topi (fun v19 ev19 => ?_)
            try have hv19 : v19.toInt = v18.toInt - (1 : Int32).toInt := I_subx ev19 (by omega)
            refine va_iald (t0 := 0) hx hb hK hP 2 (ha := rfl) (ht := rfl) (I_in (by omega) (by omega)) dX5_measure_95 ?_
            refine lv_topi (fun v20 ev20 => ?_)
            refine lv_iload hx hb dX5_measure_96 (lv_at hl 0 rfl) ?_
            refine lv_iadd hx hb dX5_measure_98 ?_
            refine lv_topi (fun v21 ev21 => ?_)
            try have hv21 : v21.toInt = v20.toInt + (1 : Int32).toInt := I_addx ev21 (by omega)
            refine va_mmin hx hb (by rw [hml]; exact hl.1.symm) hown (hts _ ml_X5_36) (hts _ st_min) (hts _ ini_Math) (hts _ cd_min) (Nat.le_of_ble_eq_true rfl) (Nat.le_of_ble_eq_true rfl) (Nat.le_of_ble_eq_true rfl) (Nat.le_of_ble_eq_true rfl) dX5_measure_99 ?_
            refine lv_topi (fun v22 ev22 => ?_)
            have hv22 := I_min v10 v21
            rw [← ev22] at hv22
            refine lv_istore (lv' := [(8, .int v22), (9, .int 1), (7, .int L7_36), (6, .int v6), (5, .int v4), (4, .int v2), (3, .int v1), (0, .ref q0), (1, .int x), (2, .int y)]) hx hb dX5_measure_102 hl (by decide) rfl (fun ls hl => ?_)
            refine lv_iload hx hb dX5_measure_104 (lv_at hl 0 rfl) ?_
            refine lv_aload_n hx hb dX5_measure_106 rfl (lv_at hl 7 rfl) ?_
            refine va_get (D := (dC, dI)) (ci := 4) (v := .ref qd) (C := RX5) (T := TX5) (N := 5) hx hb hts inG_X5 hown hK hP 0 rfl rfl 2 (by decide) (hts _ fl_X5_22) (fun _ h9 => h9) rfl dX5_measure_107 ?_
            refine lv_iload_n hx hb dX5_measure_110 rfl (lv_at hl 6 rfl) ?_
            refine lv_iload hx hb dX5_measure_111 (lv_at hl 2 rfl) ?_
            refine lv_iadd hx hb dX5_measure_113 ?_
            refine lv_topi (fun v23 ev23 => ?_)
            try have hv23 : v23.toInt = v1.toInt + L7_36.toInt := I_addx ev23 (by omega)
            refine lv_iconst (v := 1) hx hb dX5_measure_114 (by decide) ?_
            refine lv_isub hx hb dX5_measure_115 ?_
            refine lv_topi (fun v24 ev24 => ?_)
            try have hv24 : v24.toInt = v23.toInt - (1 : Int32).toInt := I_subx ev24 (by omega)
            refine va_iald (t0 := 0) hx hb hK hP 2 (ha := rfl) (ht := rfl) (I_in (by omega) (by omega)) dX5_measure_116 ?_
            refine lv_topi (fun v25 ev25 => ?_)
            refine lv_iconst (v := 1) hx hb dX5_measure_117 (by decide) ?_
            refine lv_iadd hx hb dX5_measure_118 ?_
            refine lv_topi (fun v26 ev26 => ?_)
            try have hv26 : v26.toInt = v25.toInt + (1 : Int32).toInt := I_addx ev26 (by omega)
            refine va_mmin hx hb (by rw [hml]; exact hl.1.symm) hown (hts _ ml_X5_36) (hts _ st_min) (hts _ ini_Math) (hts _ cd_min) (Nat.le_of_ble_eq_true rfl) (Nat.le_of_ble_eq_true rfl) (Nat.le_of_ble_eq_true rfl) (Nat.le_of_ble_eq_true rfl) dX5_measure_119 ?_
            refine lv_topi (fun v27 ev27 => ?_)
            have hv27 := I_min v22 v26
            rw [← ev27] at hv27
            refine lv_istore (lv' := [(8, .int v27), (9, .int 1), (7, .int L7_36), (6, .int v6), (5, .int v4), (4, .int v2), (3, .int v1), (0, .ref q0), (1, .int x), (2, .int y)]) hx hb dX5_measure_122 hl (by decide) rfl (fun ls hl => ?_)
            exact J124 v27  H locs ls hP hD hS (lv_sub hl [0, 2, 3, 4, 5, 6, 7, 8, 9] rfl)
          · have c17' := I_eq c17
            refine lv_iconst (v := 0) hx hb dX5_measure_75 (by decide) ?_
            refine lv_goto (tgt := 80) hx hb dX5_measure_76 (by decide) ?_
            refine lv_istore (lv' := [(9, .int 0), (8, .int v10), (7, .int L7_36), (6, .int v6), (5, .int v4), (4, .int v2), (3, .int v1), (0, .ref q0), (1, .int x), (2, .int y)]) hx hb dX5_measure_80 hl (by decide) rfl (fun ls hl => ?_)
            refine lv_iload hx hb dX5_measure_82 (lv_at hl 1 rfl) ?_
            refine lv_aload_n hx hb dX5_measure_84 rfl (lv_at hl 7 rfl) ?_
            refine va_get (D := (dC, dI)) (ci := 4) (v := .ref qd) (C := RX5) (T := TX5) (N := 5) hx hb hts inG_X5 hown hK hP 0 rfl rfl 2 (by decide) (hts _ fl_X5_22) (fun _ h9 => h9) rfl dX5_measure_85 ?_
            refine lv_iload hx hb dX5_measure_88 (lv_at hl 5 rfl) ?_
            refine lv_iload hx hb dX5_measure_90 (lv_at hl 2 rfl) ?_
            refine lv_iadd hx hb dX5_measure_92 ?_
            refine lv_topi (fun v28 ev28 => ?_)
            try have hv28 : v28.toInt = v2.toInt + L7_36.toInt := I_addx ev28 (by omega)
            refine lv_iconst (v := 1) hx hb dX5_measure_93 (by decide) ?_
            refine lv_isub hx hb dX5_measure_94 ?_
            refine lv_topi (fun v29 ev29 => ?_)
            try have hv29 : v29.toInt = v28.toInt - (1 : Int32).toInt := I_subx ev29 (by omega)
            refine va_iald (t0 := 0) hx hb hK hP 2 (ha := rfl) (ht := rfl) (I_in (by omega) (by omega)) dX5_measure_95 ?_
            refine lv_topi (fun v30 ev30 => ?_)
            refine lv_iload hx hb dX5_measure_96 (lv_at hl 0 rfl) ?_
            refine lv_iadd hx hb dX5_measure_98 ?_
            refine lv_topi (fun v31 ev31 => ?_)
            try have hv31 : v31.toInt = v30.toInt + (0 : Int32).toInt := I_addx ev31 (by omega)
            refine va_mmin hx hb (by rw [hml]; exact hl.1.symm) hown (hts _ ml_X5_36) (hts _ st_min) (hts _ ini_Math) (hts _ cd_min) (Nat.le_of_ble_eq_true rfl) (Nat.le_of_ble_eq_true rfl) (Nat.le_of_ble_eq_true rfl) (Nat.le_of_ble_eq_true rfl) dX5_measure_99 ?_
            refine lv_topi (fun v32 ev32 => ?_)
            have hv32 := I_min v10 v31
            rw [← ev32] at hv32
            refine lv_istore (lv' := [(8, .int v32), (9, .int 0), (7, .int L7_36), (6, .int v6), (5, .int v4), (4, .int v2), (3, .int v1), (0, .ref q0), (1, .int x), (2, .int y)]) hx hb dX5_measure_102 hl (by decide) rfl (fun ls hl => ?_)
            refine lv_iload hx hb dX5_measure_104 (lv_at hl 0 rfl) ?_
            refine lv_aload_n hx hb dX5_measure_106 rfl (lv_at hl 7 rfl) ?_
            refine va_get (D := (dC, dI)) (ci := 4) (v := .ref qd) (C := RX5) (T := TX5) (N := 5) hx hb hts inG_X5 hown hK hP 0 rfl rfl 2 (by decide) (hts _ fl_X5_22) (fun _ h9 => h9) rfl dX5_measure_107 ?_
            refine lv_iload_n hx hb dX5_measure_110 rfl (lv_at hl 6 rfl) ?_
            refine lv_iload hx hb dX5_measure_111 (lv_at hl 2 rfl) ?_
            refine lv_iadd hx hb dX5_measure_113 ?_
            refine lv_topi (fun v33 ev33 => ?_)
            try have hv33 : v33.toInt = v1.toInt + L7_36.toInt := I_addx ev33 (by omega)
            refine lv_iconst (v := 1) hx hb dX5_measure_114 (by decide) ?_
            refine lv_isub hx hb dX5_measure_115 ?_
            refine lv_topi (fun v34 ev34 => ?_)
            try have hv34 : v34.toInt = v33.toInt - (1 : Int32).toInt := I_subx ev34 (by omega)
            refine va_iald (t0 := 0) hx hb hK hP 2 (ha := rfl) (ht := rfl) (I_in (by omega) (by omega)) dX5_measure_116 ?_
            refine lv_topi (fun v35 ev35 => ?_)
            refine lv_iconst (v := 1) hx hb dX5_measure_117 (by decide) ?_
            refine lv_iadd hx hb dX5_measure_118 ?_
            refine lv_topi (fun v36 ev36 => ?_)
            try have hv36 : v36.toInt = v35.toInt + (1 : Int32).toInt := I_addx ev36 (by omega)
            refine va_mmin hx hb (by rw [hml]; exact hl.1.symm) hown (hts _ ml_X5_36) (hts _ st_min) (hts _ ini_Math) (hts _ cd_min) (Nat.le_of_ble_eq_true rfl) (Nat.le_of_ble_eq_true rfl) (Nat.le_of_ble_eq_true rfl) (Nat.le_of_ble_eq_true rfl) dX5_measure_119 ?_
            refine lv_topi (fun v37 ev37 => ?_)
            have hv37 := I_min v32 v36
            rw [← ev37] at hv37
            refine lv_istore (lv' := [(8, .int v37), (9, .int 0), (7, .int L7_36), (6, .int v6), (5, .int v4), (4, .int v2), (3, .int v1), (0, .ref q0), (1, .int x), (2, .int y)]) hx hb dX5_measure_122 hl (by decide) rfl (fun ls hl => ?_)
            exact J124 v37  H locs ls hP hD hS (lv_sub hl [0, 2, 3, 4, 5, 6, 7, 8, 9] rfl)
  exact J36 ((12 - v4.toInt).toNat + 1) v4 qdf (by first | assumption | omega) (by omega) H locs ls hP hD hS hl
