set_option maxHeartbeats 4000000 in
set_option maxRecDepth 100000 in
theorem c_X9_in (l : Launch) (dC : Nat → ClassId) (dI : Nat → Nat → Nat) (cI cJ : ClassId) (base bB bO : Nat) (w1 : Int64) (w2 : Int64) (w3 : Int64)  : CtI l dC dI cI cJ base bB bO yX9_in cX9_in 6 .boolean 0 0 [.long w1, .long w2, .long w3] [] (Unit) (fun (res : Int32) (u : Unit) => ((res.toInt = 1 ∧ w2.toInt ≤ w1.toInt ∧ w1.toInt ≤ w3.toInt) ∨ (res.toInt = 0 ∧ (w1.toInt < w2.toInt ∨ w3.toInt < w1.toInt))) ∧ True) (fun (u : Unit) => []) := by
  refine entI (by decide) (Nat.le_of_ble_eq_true rfl) ?_
  intro p e s m below meth c A Q ls hAt hret hP hD hS hl
  obtain ⟨hx, hb, hml, hown, hts, hA, hAb, hK, hE, hlocks, hin⟩ := hAt
  have hG : CG dC dI cI cJ base bB bO cX9_in 6 RX9 p s m (List.toArray [.long w1, .long w2, .long w3]) c A := ⟨hx, hb, hml, hown, hts, hA, hAb, hK, hE⟩
  have hl : lv_has ls 6 [(0, .long w1), (2, .long w2), (4, .long w3)] := hl
  have c_0 : (0 : Int32).toInt = 0 := by decide
  have c_1 : (1 : Int32).toInt = 1 := by decide
  obtain ⟨H, hHe⟩ : ∃ H : Heap, H = s.heap := ⟨_, rfl⟩
  obtain ⟨locs, hle⟩ : ∃ z : List Loc, z = [] := ⟨_, rfl⟩
  rw [← hHe] at hP
  have hS : va_S A s.heap H locs := by rw [hHe, hle]; exact hS
  suffices hgo : W p l e { frames := 0, cells := 0, slots := 0, locals := 0 } s m (List.toArray [.long w1, .long w2, .long w3]) below meth c H locs 0 0 Q (F0 m 0 ls []) by rw [hHe, hle] at hgo; exact hgo
  refine lv_lload_n hx hb dX9_in_0 rfl (lv_at hl 0 rfl) ?_
  refine lv_lload_n hx hb dX9_in_1 rfl (lv_at hl 1 rfl) ?_
  refine W.lcmp hx hb dX9_in_2 ?_
  refine lv_topi (fun v1 ev1 => ?_)
  have hv1 := J_cmp w1 w2
  rw [← ev1] at hv1
  refine lv_if_lt (tgt := 17) hx hb dX9_in_3 (by decide) (fun c2 => ?_) (fun c2 => ?_)
  · have c2' := I_lt c2
    refine lv_iconst (v := 0) hx hb dX9_in_17 (by decide) ?_
    exact hret 0 () H locs 18 ls (by first | rfl | exact I_narz (by omega)) ⟨(show ((0 : Int32).toInt = 1 ∧ w2.toInt ≤ w1.toInt ∧ w1.toInt ≤ w3.toInt) ∨ ((0 : Int32).toInt = 0 ∧ (w1.toInt < w2.toInt ∨ w3.toInt < w1.toInt)) from by first | rfl | assumption | omega), trivial⟩ hP hD hS dX9_in_18
  · have c2' := I_nlt c2
    refine lv_lload_n hx hb dX9_in_6 rfl (lv_at hl 0 rfl) ?_
    refine lv_lload hx hb dX9_in_7 (lv_at hl 2 rfl) ?_
    refine W.lcmp hx hb dX9_in_9 ?_
    refine lv_topi (fun v3 ev3 => ?_)
    have hv3 := J_cmp w1 w3
    rw [← ev3] at hv3
    refine lv_if_gt (tgt := 17) hx hb dX9_in_10 (by decide) (fun c4 => ?_) (fun c4 => ?_)
    · have c4' := I_lt c4
      refine lv_iconst (v := 0) hx hb dX9_in_17 (by decide) ?_
      exact hret 0 () H locs 18 ls (by first | rfl | exact I_narz (by omega)) ⟨(show ((0 : Int32).toInt = 1 ∧ w2.toInt ≤ w1.toInt ∧ w1.toInt ≤ w3.toInt) ∨ ((0 : Int32).toInt = 0 ∧ (w1.toInt < w2.toInt ∨ w3.toInt < w1.toInt)) from by first | rfl | assumption | omega), trivial⟩ hP hD hS dX9_in_18
    · have c4' := I_nlt c4
      refine lv_iconst (v := 1) hx hb dX9_in_13 (by decide) ?_
      refine lv_goto (tgt := 18) hx hb dX9_in_14 (by decide) ?_
      exact hret 1 () H locs 18 ls (by first | rfl | exact I_narz (by omega)) ⟨(show ((1 : Int32).toInt = 1 ∧ w2.toInt ≤ w1.toInt ∧ w1.toInt ≤ w3.toInt) ∨ ((1 : Int32).toInt = 0 ∧ (w1.toInt < w2.toInt ∨ w3.toInt < w1.toInt)) from by first | rfl | assumption | omega), trivial⟩ hP hD hS dX9_in_18
set_option maxHeartbeats 4000000 in
set_option maxRecDepth 100000 in
theorem c_X9_told (l : Launch) (dC : Nat → ClassId) (dI : Nat → Nat → Nat) (cI cJ : ClassId) (base bB bO : Nat) (m0 : Nat) (mth : Int32) (mst : Int32) (mp : Nat) (mln : Int32) (mk : Nat) (mts : Int32) (mti : Nat) (mtw : Nat) (mi : Nat) (mmn : Int32) (mpo : Nat) (mpd : Int32) (mpi : Nat) (mpl : Int32) (mcp : Int32) (mre : Nat) (mnn : Nat) (mwo : Nat) (mga : Nat) (mlo : Nat) (mro : Nat) (mle : Nat) (mra : Nat) (mme : Int32) (mha : Nat) (mch : Int32) (mtm : Int32) (mgo : Int32) (mwa : Int32) (mba : Nat) (mbl : Int32) (mon : Nat) (x : Int32)  : CtI l dC dI cI cJ base bB bO yX9_told cX9_told 2 .int 0 0 [.ref m0, .int x] [(m0, .inr (8, [.int mth, .int mst, .ref mp, .int mln, .ref mk, .int mts, .ref mti, .ref mtw, .ref mi, .int mmn, .ref mpo, .int mpd, .ref mpi, .int mpl, .int mcp, .ref mre, .ref mnn, .ref mwo, .ref mga, .ref mlo, .ref mro, .ref mle, .ref mra, .int mme, .ref mha, .int mch, .int mtm, .int mgo, .int mwa, .ref mba, .int mbl, .ref mon]))] ((Int32)) (fun (res : Int32) (u : (Int32)) => (res = x) ∧ True) (fun (u : (Int32)) => [(m0, .inr (8, [.int mth, .int u, .ref mp, .int mln, .ref mk, .int mts, .ref mti, .ref mtw, .ref mi, .int mmn, .ref mpo, .int mpd, .ref mpi, .int mpl, .int mcp, .ref mre, .ref mnn, .ref mwo, .ref mga, .ref mlo, .ref mro, .ref mle, .ref mra, .int mme, .ref mha, .int mch, .int mtm, .int mgo, .int mwa, .ref mba, .int mbl, .ref mon]))]) := by
  refine entI (by decide) (Nat.le_of_ble_eq_true rfl) ?_
  intro p e s m below meth c A Q ls hAt hret hP hD hS hl
  obtain ⟨hx, hb, hml, hown, hts, hA, hAb, hK, hE, hlocks, hin⟩ := hAt
  have hG : CG dC dI cI cJ base bB bO cX9_told 2 RX9 p s m (List.toArray [.ref m0, .int x]) c A := ⟨hx, hb, hml, hown, hts, hA, hAb, hK, hE⟩
  have hl : lv_has ls 2 [(0, .ref m0), (1, .int x)] := hl
  have c_0 : (0 : Int32).toInt = 0 := by decide
  have c_1 : (1 : Int32).toInt = 1 := by decide
  obtain ⟨H, hHe⟩ : ∃ H : Heap, H = s.heap := ⟨_, rfl⟩
  obtain ⟨locs, hle⟩ : ∃ z : List Loc, z = [] := ⟨_, rfl⟩
  rw [← hHe] at hP
  have hS : va_S A s.heap H locs := by rw [hHe, hle]; exact hS
  suffices hgo : W p l e { frames := 0, cells := 0, slots := 0, locals := 0 } s m (List.toArray [.ref m0, .int x]) below meth c H locs 0 0 Q (F0 m 0 ls []) by rw [hHe, hle] at hgo; exact hgo
  refine lv_aload_n hx hb dX9_told_0 rfl (lv_at hl 0 rfl) ?_
  refine lv_iload_n hx hb dX9_told_1 rfl (lv_at hl 1 rfl) ?_
  refine lv_if_ge (tgt := 9) hx hb dX9_told_2 (by decide) (fun c1 => ?_) (fun c1 => ?_)
  · have c1' := I_le c1
    refine lv_iconst (v := 0) hx hb dX9_told_9 (by decide) ?_
    refine va_put (D := (dC, dI)) (ci := 8) (v := .int 0) (ty := .int) (C := RX9) (T := TX9) (N := 32) hx hb hts inG_X9 tyX9 tyX9_ok nmX9 hown hK hP hD hS 0 rfl rfl 1 (by decide) (hts _ fl_X9_72) (fun _ h9 => h9) rfl (by decide +kernel) rfl rfl (Nat.le_of_ble_eq_true rfl) dX9_told_10 (fun H locs hP hD hS => ?_)
    have hP : va_P (dC, dI) vwCl [(m0, .inr (8, [.int mth, .int 0, .ref mp, .int mln, .ref mk, .int mts, .ref mti, .ref mtw, .ref mi, .int mmn, .ref mpo, .int mpd, .ref mpi, .int mpl, .int mcp, .ref mre, .ref mnn, .ref mwo, .ref mga, .ref mlo, .ref mro, .ref mle, .ref mra, .int mme, .ref mha, .int mch, .int mtm, .int mgo, .int mwa, .ref mba, .int mbl, .ref mon]))] H := hP
    have hD : va_D A [(m0, .inr (8, [.int mth, .int 0, .ref mp, .int mln, .ref mk, .int mts, .ref mti, .ref mtw, .ref mi, .int mmn, .ref mpo, .int mpd, .ref mpi, .int mpl, .int mcp, .ref mre, .ref mnn, .ref mwo, .ref mga, .ref mlo, .ref mro, .ref mle, .ref mra, .int mme, .ref mha, .int mch, .int mtm, .int mgo, .int mwa, .ref mba, .int mbl, .ref mon]))] := hD
    refine lv_iload_n hx hb dX9_told_13 rfl (lv_at hl 1 rfl) ?_
    exact hret x 0 H locs 14 ls rfl ⟨(show x = x from by first | rfl | assumption | omega), trivial⟩ hP hD hS dX9_told_14
  · have c1' := I_nle c1
    refine lv_iload_n hx hb dX9_told_5 rfl (lv_at hl 1 rfl) ?_
    refine lv_goto (tgt := 10) hx hb dX9_told_6 (by decide) ?_
    refine va_put (D := (dC, dI)) (ci := 8) (v := .int x) (ty := .int) (C := RX9) (T := TX9) (N := 32) hx hb hts inG_X9 tyX9 tyX9_ok nmX9 hown hK hP hD hS 0 rfl rfl 1 (by decide) (hts _ fl_X9_72) (fun _ h9 => h9) rfl (by decide +kernel) rfl rfl (Nat.le_of_ble_eq_true rfl) dX9_told_10 (fun H locs hP hD hS => ?_)
    have hP : va_P (dC, dI) vwCl [(m0, .inr (8, [.int mth, .int x, .ref mp, .int mln, .ref mk, .int mts, .ref mti, .ref mtw, .ref mi, .int mmn, .ref mpo, .int mpd, .ref mpi, .int mpl, .int mcp, .ref mre, .ref mnn, .ref mwo, .ref mga, .ref mlo, .ref mro, .ref mle, .ref mra, .int mme, .ref mha, .int mch, .int mtm, .int mgo, .int mwa, .ref mba, .int mbl, .ref mon]))] H := hP
    have hD : va_D A [(m0, .inr (8, [.int mth, .int x, .ref mp, .int mln, .ref mk, .int mts, .ref mti, .ref mtw, .ref mi, .int mmn, .ref mpo, .int mpd, .ref mpi, .int mpl, .int mcp, .ref mre, .ref mnn, .ref mwo, .ref mga, .ref mlo, .ref mro, .ref mle, .ref mra, .int mme, .ref mha, .int mch, .int mtm, .int mgo, .int mwa, .ref mba, .int mbl, .ref mon]))] := hD
    refine lv_iload_n hx hb dX9_told_13 rfl (lv_at hl 1 rfl) ?_
    exact hret x x H locs 14 ls rfl ⟨(show x = x from by first | rfl | assumption | omega), trivial⟩ hP hD hS dX9_told_14
set_option maxHeartbeats 4000000 in
set_option maxRecDepth 100000 in
theorem c_X9_isToken (l : Launch) (dC : Nat → ClassId) (dI : Nat → Nat → Nat) (cI cJ : ClassId) (base bB bO : Nat) (x : Int32)  : CtI l dC dI cI cJ base bB bO yX9_isToken cX9_isToken 1 .boolean 1 25 [.int x] [] (Unit) (fun (res : Int32) (u : Unit) => ((res.toInt = 1 ∧ 0 ≤ x.toInt ∧ x.toInt ≤ 27) ∨ (res.toInt = 0 ∧ (x.toInt < 0 ∨ 27 < x.toInt))) ∧ True) (fun (u : Unit) => []) := by
  refine entI (by decide) (Nat.le_of_ble_eq_true rfl) ?_
  intro p e s m below meth c A Q ls hAt hret hP hD hS hl
  obtain ⟨hx, hb, hml, hown, hts, hA, hAb, hK, hE, hlocks, hin⟩ := hAt
  have hG : CG dC dI cI cJ base bB bO cX9_isToken 1 RX9 p s m (List.toArray [.int x]) c A := ⟨hx, hb, hml, hown, hts, hA, hAb, hK, hE⟩
  have hl : lv_has ls 1 [(0, .int x)] := hl
  have c_0 : (0 : Int32).toInt = 0 := by decide
  have c_1 : (1 : Int32).toInt = 1 := by decide
  have cl_0 : (0 : Int64).toInt = 0 := by decide
  have cl_27 : (27 : Int64).toInt = 27 := by decide
  obtain ⟨H, hHe⟩ : ∃ H : Heap, H = s.heap := ⟨_, rfl⟩
  obtain ⟨locs, hle⟩ : ∃ z : List Loc, z = [] := ⟨_, rfl⟩
  rw [← hHe] at hP
  have hS : va_S A s.heap H locs := by rw [hHe, hle]; exact hS
  suffices hgo : W p l e { frames := 1, cells := 0, slots := 0, locals := 25 } s m (List.toArray [.int x]) below meth c H locs 0 0 Q (F0 m 0 ls []) by rw [hHe, hle] at hgo; exact hgo
  refine lv_iload_n hx hb dX9_isToken_0 rfl (lv_at hl 0 rfl) ?_
  obtain ⟨w1, ew1⟩ : ∃ z : Int64, Int32.toInt64 x = z := ⟨_, rfl⟩
  have hw1 := J_of x
  rw [ew1] at hw1
  refine lv_i2l (v := w1) hx hb dX9_isToken_1 ew1 ?_
  refine lv_lconst (v := 0) hx hb dX9_isToken_2 (by decide) ?_
  refine lv_ldc2 (v := 27) hx hb hown (hts _ k_X9_75) dX9_isToken_3 ?_
  refine calOI (rest := []) (wr := []) hG (c_X9_in l dC dI cI cJ base bB bO w1 0 27 ) ml_X9_77 st_X9_in ini_X9 cd_X9_in hd_X9_in.2 ⟨(Nat.le_of_ble_eq_true rfl), (Nat.le_of_ble_eq_true rfl)⟩ (Nat.le_of_ble_eq_true rfl) (Nat.le_of_ble_eq_true rfl) hP hD hS [] [] rfl rfl rfl rfl (by decide) hl.1 rfl (Nat.le_of_ble_eq_true rfl) dX9_isToken_6 (fun r2 u H locs hw3 hP hD hS => ?_)
  have hw3 : ((r2.toInt = 1 ∧ (0 : Int64).toInt ≤ w1.toInt ∧ w1.toInt ≤ (27 : Int64).toInt) ∨ (r2.toInt = 0 ∧ (w1.toInt < (0 : Int64).toInt ∨ (27 : Int64).toInt < w1.toInt))) ∧ True := hw3
  obtain ⟨hp4, -⟩ := hw3
  have hP : va_P (dC, dI) vwCl [] H := hP
  have hD : va_D A [] := hD
  exact hret r2 () H locs 9 ls (by first | rfl | exact I_narz (by omega)) ⟨(show (r2.toInt = 1 ∧ 0 ≤ x.toInt ∧ x.toInt ≤ 27) ∨ (r2.toInt = 0 ∧ (x.toInt < 0 ∨ 27 < x.toInt)) from by first | rfl | assumption | omega), trivial⟩ hP hD hS dX9_isToken_9
set_option maxHeartbeats 4000000 in
set_option maxRecDepth 100000 in
theorem c_X9_isFrame (l : Launch) (dC : Nat → ClassId) (dI : Nat → Nat → Nat) (cI cJ : ClassId) (base bB bO : Nat) (x : Int32)  : CtI l dC dI cI cJ base bB bO yX9_isFrame cX9_isFrame 1 .boolean 0 0 [.int x] [] (Unit) (fun (res : Int32) (u : Unit) => ((res.toInt = 1 ∧ (x.toInt = 0 ∨ x.toInt = 9 ∨ x.toInt = 10 ∨ x.toInt = 11)) ∨ (res.toInt = 0 ∧ ¬ x.toInt = 0 ∧ ¬ x.toInt = 9 ∧ ¬ x.toInt = 10 ∧ ¬ x.toInt = 11)) ∧ True) (fun (u : Unit) => []) := by
  refine entI (by decide) (Nat.le_of_ble_eq_true rfl) ?_
  intro p e s m below meth c A Q ls hAt hret hP hD hS hl
  obtain ⟨hx, hb, hml, hown, hts, hA, hAb, hK, hE, hlocks, hin⟩ := hAt
  have hG : CG dC dI cI cJ base bB bO cX9_isFrame 1 RX9 p s m (List.toArray [.int x]) c A := ⟨hx, hb, hml, hown, hts, hA, hAb, hK, hE⟩
  have hl : lv_has ls 1 [(0, .int x)] := hl
  have c_0 : (0 : Int32).toInt = 0 := by decide
  have c_1 : (1 : Int32).toInt = 1 := by decide
  have c_9 : (9 : Int32).toInt = 9 := by decide
  have c_10 : (10 : Int32).toInt = 10 := by decide
  have c_11 : (11 : Int32).toInt = 11 := by decide
  obtain ⟨H, hHe⟩ : ∃ H : Heap, H = s.heap := ⟨_, rfl⟩
  obtain ⟨locs, hle⟩ : ∃ z : List Loc, z = [] := ⟨_, rfl⟩
  rw [← hHe] at hP
  have hS : va_S A s.heap H locs := by rw [hHe, hle]; exact hS
  suffices hgo : W p l e { frames := 0, cells := 0, slots := 0, locals := 0 } s m (List.toArray [.int x]) below meth c H locs 0 0 Q (F0 m 0 ls []) by rw [hHe, hle] at hgo; exact hgo
  refine lv_iload_n hx hb dX9_isFrame_0 rfl (lv_at hl 0 rfl) ?_
  refine lv_if_eq (tgt := 22) hx hb dX9_isFrame_1 (by decide) (fun c1 => ?_) (fun c1 => ?_)
  · have c1' := I_eq c1
    refine lv_iconst (v := 1) hx hb dX9_isFrame_22 (by decide) ?_
    refine lv_goto (tgt := 27) hx hb dX9_isFrame_23 (by decide) ?_
    exact hret 1 () H locs 27 ls (by first | rfl | exact I_narz (by omega)) ⟨(show ((1 : Int32).toInt = 1 ∧ (x.toInt = 0 ∨ x.toInt = 9 ∨ x.toInt = 10 ∨ x.toInt = 11)) ∨ ((1 : Int32).toInt = 0 ∧ ¬ x.toInt = 0 ∧ ¬ x.toInt = 9 ∧ ¬ x.toInt = 10 ∧ ¬ x.toInt = 11) from by first | rfl | assumption | omega), trivial⟩ hP hD hS dX9_isFrame_27
  · have c1' := I_ne c1
    refine lv_iload_n hx hb dX9_isFrame_4 rfl (lv_at hl 0 rfl) ?_
    refine lv_bipush (v := 9) hx hb dX9_isFrame_5 (by decide) ?_
    refine lv_icmp_eq (tgt := 22) hx hb dX9_isFrame_7 (by decide) (fun c2 => ?_) (fun c2 => ?_)
    · have c2' := I_eq c2
      refine lv_iconst (v := 1) hx hb dX9_isFrame_22 (by decide) ?_
      refine lv_goto (tgt := 27) hx hb dX9_isFrame_23 (by decide) ?_
      exact hret 1 () H locs 27 ls (by first | rfl | exact I_narz (by omega)) ⟨(show ((1 : Int32).toInt = 1 ∧ (x.toInt = 0 ∨ x.toInt = 9 ∨ x.toInt = 10 ∨ x.toInt = 11)) ∨ ((1 : Int32).toInt = 0 ∧ ¬ x.toInt = 0 ∧ ¬ x.toInt = 9 ∧ ¬ x.toInt = 10 ∧ ¬ x.toInt = 11) from by first | rfl | assumption | omega), trivial⟩ hP hD hS dX9_isFrame_27
    · have c2' := I_ne c2
      refine lv_iload_n hx hb dX9_isFrame_10 rfl (lv_at hl 0 rfl) ?_
      refine lv_bipush (v := 10) hx hb dX9_isFrame_11 (by decide) ?_
      refine lv_icmp_eq (tgt := 22) hx hb dX9_isFrame_13 (by decide) (fun c3 => ?_) (fun c3 => ?_)
      · have c3' := I_eq c3
        refine lv_iconst (v := 1) hx hb dX9_isFrame_22 (by decide) ?_
        refine lv_goto (tgt := 27) hx hb dX9_isFrame_23 (by decide) ?_
        exact hret 1 () H locs 27 ls (by first | rfl | exact I_narz (by omega)) ⟨(show ((1 : Int32).toInt = 1 ∧ (x.toInt = 0 ∨ x.toInt = 9 ∨ x.toInt = 10 ∨ x.toInt = 11)) ∨ ((1 : Int32).toInt = 0 ∧ ¬ x.toInt = 0 ∧ ¬ x.toInt = 9 ∧ ¬ x.toInt = 10 ∧ ¬ x.toInt = 11) from by first | rfl | assumption | omega), trivial⟩ hP hD hS dX9_isFrame_27
      · have c3' := I_ne c3
        refine lv_iload_n hx hb dX9_isFrame_16 rfl (lv_at hl 0 rfl) ?_
        refine lv_bipush (v := 11) hx hb dX9_isFrame_17 (by decide) ?_
        refine lv_icmp_ne (tgt := 26) hx hb dX9_isFrame_19 (by decide) (fun c4 => ?_) (fun c4 => ?_)
        · have c4' := I_ne c4
          refine lv_iconst (v := 0) hx hb dX9_isFrame_26 (by decide) ?_
          exact hret 0 () H locs 27 ls (by first | rfl | exact I_narz (by omega)) ⟨(show ((0 : Int32).toInt = 1 ∧ (x.toInt = 0 ∨ x.toInt = 9 ∨ x.toInt = 10 ∨ x.toInt = 11)) ∨ ((0 : Int32).toInt = 0 ∧ ¬ x.toInt = 0 ∧ ¬ x.toInt = 9 ∧ ¬ x.toInt = 10 ∧ ¬ x.toInt = 11) from by first | rfl | assumption | omega), trivial⟩ hP hD hS dX9_isFrame_27
        · have c4' := I_eq c4
          refine lv_iconst (v := 1) hx hb dX9_isFrame_22 (by decide) ?_
          refine lv_goto (tgt := 27) hx hb dX9_isFrame_23 (by decide) ?_
          exact hret 1 () H locs 27 ls (by first | rfl | exact I_narz (by omega)) ⟨(show ((1 : Int32).toInt = 1 ∧ (x.toInt = 0 ∨ x.toInt = 9 ∨ x.toInt = 10 ∨ x.toInt = 11)) ∨ ((1 : Int32).toInt = 0 ∧ ¬ x.toInt = 0 ∧ ¬ x.toInt = 9 ∧ ¬ x.toInt = 10 ∧ ¬ x.toInt = 11) from by first | rfl | assumption | omega), trivial⟩ hP hD hS dX9_isFrame_27
set_option maxHeartbeats 4000000 in
set_option maxRecDepth 100000 in
theorem c_X9_binds (l : Launch) (dC : Nat → ClassId) (dI : Nat → Nat → Nat) (cI cJ : ClassId) (base bB bO : Nat) (x : Int32)  : CtI l dC dI cI cJ base bB bO yX9_binds cX9_binds 1 .int 0 0 [.int x] [] (Unit) (fun (res : Int32) (u : Unit) => (1 ≤ res.toInt ∧ res.toInt ≤ 5) ∧ True) (fun (u : Unit) => []) := by
  refine entI (by decide) (Nat.le_of_ble_eq_true rfl) ?_
  intro p e s m below meth c A Q ls hAt hret hP hD hS hl
  obtain ⟨hx, hb, hml, hown, hts, hA, hAb, hK, hE, hlocks, hin⟩ := hAt
  have hG : CG dC dI cI cJ base bB bO cX9_binds 1 RX9 p s m (List.toArray [.int x]) c A := ⟨hx, hb, hml, hown, hts, hA, hAb, hK, hE⟩
  have hl : lv_has ls 1 [(0, .int x)] := hl
  have c_0 : (0 : Int32).toInt = 0 := by decide
  have c_1 : (1 : Int32).toInt = 1 := by decide
  have c_2 : (2 : Int32).toInt = 2 := by decide
  have c_3 : (3 : Int32).toInt = 3 := by decide
  have c_4 : (4 : Int32).toInt = 4 := by decide
  have c_5 : (5 : Int32).toInt = 5 := by decide
  have c_6 : (6 : Int32).toInt = 6 := by decide
  have c_8 : (8 : Int32).toInt = 8 := by decide
  obtain ⟨H, hHe⟩ : ∃ H : Heap, H = s.heap := ⟨_, rfl⟩
  obtain ⟨locs, hle⟩ : ∃ z : List Loc, z = [] := ⟨_, rfl⟩
  rw [← hHe] at hP
  have hS : va_S A s.heap H locs := by rw [hHe, hle]; exact hS
  suffices hgo : W p l e { frames := 0, cells := 0, slots := 0, locals := 0 } s m (List.toArray [.int x]) below meth c H locs 0 0 Q (F0 m 0 ls []) by rw [hHe, hle] at hgo; exact hgo
  refine lv_iload_n hx hb dX9_binds_0 rfl (lv_at hl 0 rfl) ?_
  refine lv_iconst (v := 4) hx hb dX9_binds_1 (by decide) ?_
  refine lv_icmp_ne (tgt := 9) hx hb dX9_binds_2 (by decide) (fun c1 => ?_) (fun c1 => ?_)
  · have c1' := I_ne c1
    refine lv_iload_n hx hb dX9_binds_9 rfl (lv_at hl 0 rfl) ?_
    refine lv_iconst (v := 2) hx hb dX9_binds_10 (by decide) ?_
    refine lv_icmp_eq (tgt := 19) hx hb dX9_binds_11 (by decide) (fun c2 => ?_) (fun c2 => ?_)
    · have c2' := I_eq c2
      refine lv_iconst (v := 4) hx hb dX9_binds_19 (by decide) ?_
      refine lv_goto (tgt := 49) hx hb dX9_binds_20 (by decide) ?_
      exact hret 4 () H locs 49 ls rfl ⟨(show 1 ≤ (4 : Int32).toInt ∧ (4 : Int32).toInt ≤ 5 from by first | rfl | assumption | omega), trivial⟩ hP hD hS dX9_binds_49
    · have c2' := I_ne c2
      refine lv_iload_n hx hb dX9_binds_14 rfl (lv_at hl 0 rfl) ?_
      refine lv_iconst (v := 3) hx hb dX9_binds_15 (by decide) ?_
      refine lv_icmp_ne (tgt := 23) hx hb dX9_binds_16 (by decide) (fun c3 => ?_) (fun c3 => ?_)
      · have c3' := I_ne c3
        refine lv_iload_n hx hb dX9_binds_23 rfl (lv_at hl 0 rfl) ?_
        refine lv_iconst (v := 5) hx hb dX9_binds_24 (by decide) ?_
        refine lv_icmp_eq (tgt := 34) hx hb dX9_binds_25 (by decide) (fun c4 => ?_) (fun c4 => ?_)
        · have c4' := I_eq c4
          refine lv_iconst (v := 3) hx hb dX9_binds_34 (by decide) ?_
          refine lv_goto (tgt := 49) hx hb dX9_binds_35 (by decide) ?_
          exact hret 3 () H locs 49 ls rfl ⟨(show 1 ≤ (3 : Int32).toInt ∧ (3 : Int32).toInt ≤ 5 from by first | rfl | assumption | omega), trivial⟩ hP hD hS dX9_binds_49
        · have c4' := I_ne c4
          refine lv_iload_n hx hb dX9_binds_28 rfl (lv_at hl 0 rfl) ?_
          refine lv_bipush (v := 6) hx hb dX9_binds_29 (by decide) ?_
          refine lv_icmp_ne (tgt := 38) hx hb dX9_binds_31 (by decide) (fun c5 => ?_) (fun c5 => ?_)
          · have c5' := I_ne c5
            refine lv_iload_n hx hb dX9_binds_38 rfl (lv_at hl 0 rfl) ?_
            refine lv_bipush (v := 8) hx hb dX9_binds_39 (by decide) ?_
            refine lv_icmp_ne (tgt := 48) hx hb dX9_binds_41 (by decide) (fun c6 => ?_) (fun c6 => ?_)
            · have c6' := I_ne c6
              refine lv_iconst (v := 1) hx hb dX9_binds_48 (by decide) ?_
              exact hret 1 () H locs 49 ls rfl ⟨(show 1 ≤ (1 : Int32).toInt ∧ (1 : Int32).toInt ≤ 5 from by first | rfl | assumption | omega), trivial⟩ hP hD hS dX9_binds_49
            · have c6' := I_eq c6
              refine lv_iconst (v := 2) hx hb dX9_binds_44 (by decide) ?_
              refine lv_goto (tgt := 49) hx hb dX9_binds_45 (by decide) ?_
              exact hret 2 () H locs 49 ls rfl ⟨(show 1 ≤ (2 : Int32).toInt ∧ (2 : Int32).toInt ≤ 5 from by first | rfl | assumption | omega), trivial⟩ hP hD hS dX9_binds_49
          · have c5' := I_eq c5
            refine lv_iconst (v := 3) hx hb dX9_binds_34 (by decide) ?_
            refine lv_goto (tgt := 49) hx hb dX9_binds_35 (by decide) ?_
            exact hret 3 () H locs 49 ls rfl ⟨(show 1 ≤ (3 : Int32).toInt ∧ (3 : Int32).toInt ≤ 5 from by first | rfl | assumption | omega), trivial⟩ hP hD hS dX9_binds_49
      · have c3' := I_eq c3
        refine lv_iconst (v := 4) hx hb dX9_binds_19 (by decide) ?_
        refine lv_goto (tgt := 49) hx hb dX9_binds_20 (by decide) ?_
        exact hret 4 () H locs 49 ls rfl ⟨(show 1 ≤ (4 : Int32).toInt ∧ (4 : Int32).toInt ≤ 5 from by first | rfl | assumption | omega), trivial⟩ hP hD hS dX9_binds_49
  · have c1' := I_eq c1
    refine lv_iconst (v := 5) hx hb dX9_binds_5 (by decide) ?_
    refine lv_goto (tgt := 49) hx hb dX9_binds_6 (by decide) ?_
    exact hret 5 () H locs 49 ls rfl ⟨(show 1 ≤ (5 : Int32).toInt ∧ (5 : Int32).toInt ≤ 5 from by first | rfl | assumption | omega), trivial⟩ hP hD hS dX9_binds_49
set_option maxHeartbeats 4000000 in
set_option maxRecDepth 100000 in
theorem c_X9_settle (l : Launch) (dC : Nat → ClassId) (dI : Nat → Nat → Nat) (cI cJ : ClassId) (base bB bO : Nat) (m0 : Nat) (mth : Int32) (mst : Int32) (mp : Nat) (mln : Int32) (mk : Nat) (mts : Int32) (mti : Nat) (mtw : Nat) (mi : Nat) (mmn : Int32) (mpo : Nat) (mpd : Int32) (mpi : Nat) (mpl : Int32) (mcp : Int32) (mre : Nat) (mnn : Nat) (mwo : Nat) (mga : Nat) (mlo : Nat) (mro : Nat) (mle : Nat) (mra : Nat) (mme : Int32) (mha : Nat) (mch : Int32) (mtm : Int32) (mgo : Int32) (mwa : Int32) (mba : Nat) (mbl : Int32) (mon : Nat) (mpof : Nat → Int32) (mpif : Nat → Int32) (x : Int32) (K : Int) (hRD : RD mpof mpif mpd mpl 1 K) (hq1 : K ≤ 12) (hq2 : 1 ≤ x.toInt) : CtV l dC dI cI cJ base bB bO yX9_settle cX9_settle 2 0 0 1 20 [.ref m0, .int x] [(m0, .inr (8, [.int mth, .int mst, .ref mp, .int mln, .ref mk, .int mts, .ref mti, .ref mtw, .ref mi, .int mmn, .ref mpo, .int mpd, .ref mpi, .int mpl, .int mcp, .ref mre, .ref mnn, .ref mwo, .ref mga, .ref mlo, .ref mro, .ref mle, .ref mra, .int mme, .ref mha, .int mch, .int mtm, .int mgo, .int mwa, .ref mba, .int mbl, .ref mon])), (mpo, .inl (cI, 12, .inl mpof)), (mpi, .inl (cI, 26, .inl mpif))] ((Int32) × (Int32) × (Nat → Int32)) (fun (u : (Int32) × (Int32) × (Nat → Int32)) => (RD u.2.2 mpif u.1 u.2.1 1 K) ∧ (u.2.1.toInt ≤ mpl.toInt) ∧ (u.2.1.toInt = 0 ∨ 1 < x.toInt ∨ isFr (mpif (u.2.1.toInt - 1).toNat).toInt) ∧ (∀ w : Int, FF mpif mpl.toInt w → FF mpif u.2.1.toInt w) ∧ True) (fun (u : (Int32) × (Int32) × (Nat → Int32)) => [(m0, .inr (8, [.int mth, .int mst, .ref mp, .int mln, .ref mk, .int mts, .ref mti, .ref mtw, .ref mi, .int mmn, .ref mpo, .int u.1, .ref mpi, .int u.2.1, .int mcp, .ref mre, .ref mnn, .ref mwo, .ref mga, .ref mlo, .ref mro, .ref mle, .ref mra, .int mme, .ref mha, .int mch, .int mtm, .int mgo, .int mwa, .ref mba, .int mbl, .ref mon])), (mpo, .inl (cI, 12, .inl u.2.2)), (mpi, .inl (cI, 26, .inl mpif))]) := by
  refine entV (by decide) (Nat.le_of_ble_eq_true rfl) ?_
  intro p e s m below meth c A Q ls hAt hret hP hD hS hl
  obtain ⟨hx, hb, hml, hown, hts, hA, hAb, hK, hE, hlocks, hin⟩ := hAt
  have hG : CG dC dI cI cJ base bB bO cX9_settle 2 RX9 p s m (List.toArray [.ref m0, .int x]) c A := ⟨hx, hb, hml, hown, hts, hA, hAb, hK, hE⟩
  have hl : lv_has ls 2 [(0, .ref m0), (1, .int x)] := hl
  have c_0 : (0 : Int32).toInt = 0 := by decide
  have c_1 : (1 : Int32).toInt = 1 := by decide
  obtain ⟨H, hHe⟩ : ∃ H : Heap, H = s.heap := ⟨_, rfl⟩
  obtain ⟨locs, hle⟩ : ∃ z : List Loc, z = [] := ⟨_, rfl⟩
  rw [← hHe] at hP
  have hS : va_S A s.heap H locs := by rw [hHe, hle]; exact hS
  suffices hgo : W p l e { frames := 1, cells := 0, slots := 0, locals := 20 } s m (List.toArray [.ref m0, .int x]) below meth c H locs 0 0 Q (F0 m 0 ls []) by rw [hHe, hle] at hgo; exact hgo
  have hrb0 := RD_b hRD
  have J0 : ∀ (n : Nat) (mpd_0 : Int32) (mpl_0 : Int32) (mpof_0 : Nat → Int32), (RD mpof_0 mpif mpd_0 mpl_0 1 K) → (∀ w : Int, FF mpif mpl.toInt w → FF mpif mpl_0.toInt w) → (0 ≤ mpl_0.toInt ∧ mpl_0.toInt ≤ mpl.toInt) → (mpl_0.toInt) < (n : Int) → ∀ (H : Heap) (locs : List Loc) (ls : Array Slot), va_P (dC, dI) vwCl [(m0, .inr (8, [.int mth, .int mst, .ref mp, .int mln, .ref mk, .int mts, .ref mti, .ref mtw, .ref mi, .int mmn, .ref mpo, .int mpd_0, .ref mpi, .int mpl_0, .int mcp, .ref mre, .ref mnn, .ref mwo, .ref mga, .ref mlo, .ref mro, .ref mle, .ref mra, .int mme, .ref mha, .int mch, .int mtm, .int mgo, .int mwa, .ref mba, .int mbl, .ref mon])), (mpo, .inl (cI, 12, .inl mpof_0)), (mpi, .inl (cI, 26, .inl mpif))] H → va_D A [(m0, .inr (8, [.int mth, .int mst, .ref mp, .int mln, .ref mk, .int mts, .ref mti, .ref mtw, .ref mi, .int mmn, .ref mpo, .int mpd_0, .ref mpi, .int mpl_0, .int mcp, .ref mre, .ref mnn, .ref mwo, .ref mga, .ref mlo, .ref mro, .ref mle, .ref mra, .int mme, .ref mha, .int mch, .int mtm, .int mgo, .int mwa, .ref mba, .int mbl, .ref mon])), (mpo, .inl (cI, 12, .inl mpof_0)), (mpi, .inl (cI, 26, .inl mpif))] → va_S A s.heap H locs → lv_has ls 2 [(0, .ref m0), (1, .int x)] → W p l e { frames := 1, cells := 0, slots := 0, locals := 20 } s m (List.toArray [.ref m0, .int x]) below meth c H locs 0 0 Q (F0 m 0 ls []) := by
    intro n
    induction n with
    | zero =>
      intro mpd_0 mpl_0 mpof_0 hi0_0 hi1_0 hi2_0 hm
      exact absurd hm (by omega)
    | succ n ih0 =>
      intro mpd_0 mpl_0 mpof_0 hi0_0 hi1_0 hi2_0 hm0 H locs ls hP hD hS hl
      have hrb := RD_b hi0_0
      refine lv_aload_n hx hb dX9_settle_0 rfl (lv_at hl 0 rfl) ?_
      refine va_get (D := (dC, dI)) (ci := 8) (v := .int mpl_0) (C := RX9) (T := TX9) (N := 32) hx hb hts inG_X9 hown hK hP 0 rfl rfl 13 (by decide) (hts _ fl_X9_94) (fun _ h9 => h9) rfl dX9_settle_1 ?_
      refine lv_if_le (tgt := 83) hx hb dX9_settle_4 (by decide) (fun c1 => ?_) (fun c1 => ?_)
      · have c1' := I_le c1
        exact hret (mpd_0, mpl_0, mpof_0) H locs 83 ls ⟨(show RD mpof_0 mpif mpd_0 mpl_0 1 K from by first | rfl | assumption | omega), (show mpl_0.toInt ≤ mpl.toInt from by first | rfl | assumption | omega), (show mpl_0.toInt = 0 ∨ 1 < x.toInt ∨ isFr (mpif (mpl_0.toInt - 1).toNat).toInt from by first | (left; omega) | (right; left; omega) | (right; right; rw [← top_at e_ (by omega)]; unfold isFr; omega)), (show ∀ w : Int, FF mpif mpl.toInt w → FF mpif mpl_0.toInt w from by first | rfl | assumption | omega), trivial⟩ hP hD hS dX9_settle_83
      · have c1' := I_nle c1
        refine lv_aload_n hx hb dX9_settle_7 rfl (lv_at hl 0 rfl) ?_
        refine va_get (D := (dC, dI)) (ci := 8) (v := .ref mpi) (C := RX9) (T := TX9) (N := 32) hx hb hts inG_X9 hown hK hP 0 rfl rfl 12 (by decide) (hts _ fl_X9_28) (fun _ h9 => h9) rfl dX9_settle_8 ?_
        refine lv_aload_n hx hb dX9_settle_11 rfl (lv_at hl 0 rfl) ?_
        refine va_get (D := (dC, dI)) (ci := 8) (v := .int mpl_0) (C := RX9) (T := TX9) (N := 32) hx hb hts inG_X9 hown hK hP 0 rfl rfl 13 (by decide) (hts _ fl_X9_94) (fun _ h9 => h9) rfl dX9_settle_12 ?_
        refine lv_iconst (v := 1) hx hb dX9_settle_15 (by decide) ?_
        refine lv_isub hx hb dX9_settle_16 ?_
        refine lv_topi (fun v2 ev2 => ?_)
        try have hv2 : v2.toInt = mpl_0.toInt - (1 : Int32).toInt := I_subx ev2 (by omega)
        refine va_iald (t0 := 0) hx hb hK hP 2 (ha := rfl) (ht := rfl) (I_in (by omega) (by omega)) dX9_settle_17 ?_
        refine lv_topi (fun v3 ev3 => ?_)
        refine calOI (rest := []) (wr := [(m0, .inr (8, [.int mth, .int mst, .ref mp, .int mln, .ref mk, .int mts, .ref mti, .ref mtw, .ref mi, .int mmn, .ref mpo, .int mpd_0, .ref mpi, .int mpl_0, .int mcp, .ref mre, .ref mnn, .ref mwo, .ref mga, .ref mlo, .ref mro, .ref mle, .ref mra, .int mme, .ref mha, .int mch, .int mtm, .int mgo, .int mwa, .ref mba, .int mbl, .ref mon])), (mpo, .inl (cI, 12, .inl mpof_0)), (mpi, .inl (cI, 26, .inl mpif))]) hG (c_X9_isFrame l dC dI cI cJ base bB bO v3 ) ml_X9_97 st_X9_isFrame ini_X9 cd_X9_isFrame hd_X9_isFrame.2 ⟨(Nat.le_of_ble_eq_true rfl), (Nat.le_of_ble_eq_true rfl)⟩ (Nat.le_of_ble_eq_true rfl) (Nat.le_of_ble_eq_true rfl) hP hD hS [] [0, 1, 2] rfl rfl rfl rfl (by decide) hl.1 rfl (Nat.le_of_ble_eq_true rfl) dX9_settle_18 (fun r4 u H locs hw5 hP hD hS => ?_)
        have hw5 : ((r4.toInt = 1 ∧ (v3.toInt = 0 ∨ v3.toInt = 9 ∨ v3.toInt = 10 ∨ v3.toInt = 11)) ∨ (r4.toInt = 0 ∧ ¬ v3.toInt = 0 ∧ ¬ v3.toInt = 9 ∧ ¬ v3.toInt = 10 ∧ ¬ v3.toInt = 11)) ∧ True := hw5
        obtain ⟨hp6, -⟩ := hw5
        have hP : va_P (dC, dI) vwCl [(m0, .inr (8, [.int mth, .int mst, .ref mp, .int mln, .ref mk, .int mts, .ref mti, .ref mtw, .ref mi, .int mmn, .ref mpo, .int mpd_0, .ref mpi, .int mpl_0, .int mcp, .ref mre, .ref mnn, .ref mwo, .ref mga, .ref mlo, .ref mro, .ref mle, .ref mra, .int mme, .ref mha, .int mch, .int mtm, .int mgo, .int mwa, .ref mba, .int mbl, .ref mon])), (mpo, .inl (cI, 12, .inl mpof_0)), (mpi, .inl (cI, 26, .inl mpif))] H := hP
        have hD : va_D A [(m0, .inr (8, [.int mth, .int mst, .ref mp, .int mln, .ref mk, .int mts, .ref mti, .ref mtw, .ref mi, .int mmn, .ref mpo, .int mpd_0, .ref mpi, .int mpl_0, .int mcp, .ref mre, .ref mnn, .ref mwo, .ref mga, .ref mlo, .ref mro, .ref mle, .ref mra, .int mme, .ref mha, .int mch, .int mtm, .int mgo, .int mwa, .ref mba, .int mbl, .ref mon])), (mpo, .inl (cI, 12, .inl mpof_0)), (mpi, .inl (cI, 26, .inl mpif))] := hD
        refine lv_if_ne (tgt := 83) hx hb dX9_settle_21 (by decide) (fun c7 => ?_) (fun c7 => ?_)
        · have c7' := I_ne c7
          exact hret (mpd_0, mpl_0, mpof_0) H locs 83 ls ⟨(show RD mpof_0 mpif mpd_0 mpl_0 1 K from by first | rfl | assumption | omega), (show mpl_0.toInt ≤ mpl.toInt from by first | rfl | assumption | omega), (show mpl_0.toInt = 0 ∨ 1 < x.toInt ∨ isFr (mpif (mpl_0.toInt - 1).toNat).toInt from by first | (left; omega) | (right; left; omega) | (right; right; rw [← top_at ev3 (by omega)]; unfold isFr; omega)), (show ∀ w : Int, FF mpif mpl.toInt w → FF mpif mpl_0.toInt w from by first | rfl | assumption | omega), trivial⟩ hP hD hS dX9_settle_83
        · have c7' := I_eq c7
          refine lv_aload_n hx hb dX9_settle_24 rfl (lv_at hl 0 rfl) ?_
          refine va_get (D := (dC, dI)) (ci := 8) (v := .ref mpi) (C := RX9) (T := TX9) (N := 32) hx hb hts inG_X9 hown hK hP 0 rfl rfl 12 (by decide) (hts _ fl_X9_28) (fun _ h9 => h9) rfl dX9_settle_25 ?_
          refine lv_aload_n hx hb dX9_settle_28 rfl (lv_at hl 0 rfl) ?_
          refine va_get (D := (dC, dI)) (ci := 8) (v := .int mpl_0) (C := RX9) (T := TX9) (N := 32) hx hb hts inG_X9 hown hK hP 0 rfl rfl 13 (by decide) (hts _ fl_X9_94) (fun _ h9 => h9) rfl dX9_settle_29 ?_
          refine lv_iconst (v := 1) hx hb dX9_settle_32 (by decide) ?_
          refine lv_isub hx hb dX9_settle_33 ?_
          refine lv_topi (fun v8 ev8 => ?_)
          try have hv8 : v8.toInt = mpl_0.toInt - (1 : Int32).toInt := I_subx ev8 (by omega)
          refine va_iald (t0 := 0) hx hb hK hP 2 (ha := rfl) (ht := rfl) (I_in (by omega) (by omega)) dX9_settle_34 ?_
          refine lv_topi (fun v9 ev9 => ?_)
          have hs1 := I_eq (show v9 = v3 from by rw [ev9, ev3, ev8, ev2])
          refine calOI (rest := []) (wr := [(m0, .inr (8, [.int mth, .int mst, .ref mp, .int mln, .ref mk, .int mts, .ref mti, .ref mtw, .ref mi, .int mmn, .ref mpo, .int mpd_0, .ref mpi, .int mpl_0, .int mcp, .ref mre, .ref mnn, .ref mwo, .ref mga, .ref mlo, .ref mro, .ref mle, .ref mra, .int mme, .ref mha, .int mch, .int mtm, .int mgo, .int mwa, .ref mba, .int mbl, .ref mon])), (mpo, .inl (cI, 12, .inl mpof_0)), (mpi, .inl (cI, 26, .inl mpif))]) hG (c_X9_binds l dC dI cI cJ base bB bO v9 ) ml_X9_100 st_X9_binds ini_X9 cd_X9_binds hd_X9_binds.2 ⟨(Nat.le_of_ble_eq_true rfl), (Nat.le_of_ble_eq_true rfl)⟩ (Nat.le_of_ble_eq_true rfl) (Nat.le_of_ble_eq_true rfl) hP hD hS [] [0, 1, 2] rfl rfl rfl rfl (by decide) hl.1 rfl (Nat.le_of_ble_eq_true rfl) dX9_settle_35 (fun r10 u H locs hw11 hP hD hS => ?_)
          have hw11 : (1 ≤ r10.toInt ∧ r10.toInt ≤ 5) ∧ True := hw11
          obtain ⟨hp12, -⟩ := hw11
          have hP : va_P (dC, dI) vwCl [(m0, .inr (8, [.int mth, .int mst, .ref mp, .int mln, .ref mk, .int mts, .ref mti, .ref mtw, .ref mi, .int mmn, .ref mpo, .int mpd_0, .ref mpi, .int mpl_0, .int mcp, .ref mre, .ref mnn, .ref mwo, .ref mga, .ref mlo, .ref mro, .ref mle, .ref mra, .int mme, .ref mha, .int mch, .int mtm, .int mgo, .int mwa, .ref mba, .int mbl, .ref mon])), (mpo, .inl (cI, 12, .inl mpof_0)), (mpi, .inl (cI, 26, .inl mpif))] H := hP
          have hD : va_D A [(m0, .inr (8, [.int mth, .int mst, .ref mp, .int mln, .ref mk, .int mts, .ref mti, .ref mtw, .ref mi, .int mmn, .ref mpo, .int mpd_0, .ref mpi, .int mpl_0, .int mcp, .ref mre, .ref mnn, .ref mwo, .ref mga, .ref mlo, .ref mro, .ref mle, .ref mra, .int mme, .ref mha, .int mch, .int mtm, .int mgo, .int mwa, .ref mba, .int mbl, .ref mon])), (mpo, .inl (cI, 12, .inl mpof_0)), (mpi, .inl (cI, 26, .inl mpif))] := hD
          refine lv_iload_n hx hb dX9_settle_38 rfl (lv_at hl 1 rfl) ?_
          refine lv_icmp_lt (tgt := 83) hx hb dX9_settle_39 (by decide) (fun c13 => ?_) (fun c13 => ?_)
          · have c13' := I_lt c13
            exact hret (mpd_0, mpl_0, mpof_0) H locs 83 ls ⟨(show RD mpof_0 mpif mpd_0 mpl_0 1 K from by first | rfl | assumption | omega), (show mpl_0.toInt ≤ mpl.toInt from by first | rfl | assumption | omega), (show mpl_0.toInt = 0 ∨ 1 < x.toInt ∨ isFr (mpif (mpl_0.toInt - 1).toNat).toInt from by first | (left; omega) | (right; left; omega) | (right; right; rw [← top_at ev3 (by omega)]; unfold isFr; omega)), (show ∀ w : Int, FF mpif mpl.toInt w → FF mpif mpl_0.toInt w from by first | rfl | assumption | omega), trivial⟩ hP hD hS dX9_settle_83
          · have c13' := I_nlt c13
            refine lv_aload_n hx hb dX9_settle_42 rfl (lv_at hl 0 rfl) ?_
            refine lv_dup hx hb dX9_settle_43 rfl ?_
            refine va_get (D := (dC, dI)) (ci := 8) (v := .int mpl_0) (C := RX9) (T := TX9) (N := 32) hx hb hts inG_X9 hown hK hP 0 rfl rfl 13 (by decide) (hts _ fl_X9_94) (fun _ h9 => h9) rfl dX9_settle_44 ?_
            refine lv_iconst (v := 1) hx hb dX9_settle_47 (by decide) ?_
            refine lv_isub hx hb dX9_settle_48 ?_
            refine lv_topi (fun v14 ev14 => ?_)
            try have hv14 : v14.toInt = mpl_0.toInt - (1 : Int32).toInt := I_subx ev14 (by omega)
            refine va_put (D := (dC, dI)) (ci := 8) (v := .int v14) (ty := .int) (C := RX9) (T := TX9) (N := 32) hx hb hts inG_X9 tyX9 tyX9_ok nmX9 hown hK hP hD hS 0 rfl rfl 13 (by decide) (hts _ fl_X9_94) (fun _ h9 => h9) rfl (by decide +kernel) rfl rfl (Nat.le_of_ble_eq_true rfl) dX9_settle_49 (fun H locs hP hD hS => ?_)
            have hP : va_P (dC, dI) vwCl [(m0, .inr (8, [.int mth, .int mst, .ref mp, .int mln, .ref mk, .int mts, .ref mti, .ref mtw, .ref mi, .int mmn, .ref mpo, .int mpd_0, .ref mpi, .int v14, .int mcp, .ref mre, .ref mnn, .ref mwo, .ref mga, .ref mlo, .ref mro, .ref mle, .ref mra, .int mme, .ref mha, .int mch, .int mtm, .int mgo, .int mwa, .ref mba, .int mbl, .ref mon])), (mpo, .inl (cI, 12, .inl mpof_0)), (mpi, .inl (cI, 26, .inl mpif))] H := hP
            have hD : va_D A [(m0, .inr (8, [.int mth, .int mst, .ref mp, .int mln, .ref mk, .int mts, .ref mti, .ref mtw, .ref mi, .int mmn, .ref mpo, .int mpd_0, .ref mpi, .int v14, .int mcp, .ref mre, .ref mnn, .ref mwo, .ref mga, .ref mlo, .ref mro, .ref mle, .ref mra, .int mme, .ref mha, .int mch, .int mtm, .int mgo, .int mwa, .ref mba, .int mbl, .ref mon])), (mpo, .inl (cI, 12, .inl mpof_0)), (mpi, .inl (cI, 26, .inl mpif))] := hD
            refine lv_aload_n hx hb dX9_settle_52 rfl (lv_at hl 0 rfl) ?_
            refine va_get (D := (dC, dI)) (ci := 8) (v := .ref mpo) (C := RX9) (T := TX9) (N := 32) hx hb hts inG_X9 hown hK hP 0 rfl rfl 10 (by decide) (hts _ fl_X9_25) (fun _ h9 => h9) rfl dX9_settle_53 ?_
            refine lv_aload_n hx hb dX9_settle_56 rfl (lv_at hl 0 rfl) ?_
            refine va_get (D := (dC, dI)) (ci := 8) (v := .int mpd_0) (C := RX9) (T := TX9) (N := 32) hx hb hts inG_X9 hown hK hP 0 rfl rfl 11 (by decide) (hts _ fl_X9_103) (fun _ h9 => h9) rfl dX9_settle_57 ?_
            refine lv_aload_n hx hb dX9_settle_60 rfl (lv_at hl 0 rfl) ?_
            refine va_get (D := (dC, dI)) (ci := 8) (v := .ref mpi) (C := RX9) (T := TX9) (N := 32) hx hb hts inG_X9 hown hK hP 0 rfl rfl 12 (by decide) (hts _ fl_X9_28) (fun _ h9 => h9) rfl dX9_settle_61 ?_
            refine lv_aload_n hx hb dX9_settle_64 rfl (lv_at hl 0 rfl) ?_
            refine va_get (D := (dC, dI)) (ci := 8) (v := .int v14) (C := RX9) (T := TX9) (N := 32) hx hb hts inG_X9 hown hK hP 0 rfl rfl 13 (by decide) (hts _ fl_X9_94) (fun _ h9 => h9) rfl dX9_settle_65 ?_
            refine va_iald (t0 := 0) hx hb hK hP 2 (ha := rfl) (ht := rfl) (I_in (by omega) (by omega)) dX9_settle_68 ?_
            refine lv_topi (fun v15 ev15 => ?_)
            have hs2 := I_eq (show v15 = v3 from by rw [ev15, ev3, ev14, ev2])
            refine va_iast (t0 := 0) hx hb hK hP hD hS 1 (ha := rfl) (ht := rfl) (I_in (by omega) (by omega)) dX9_settle_69 (fun H locs hP hD hS => ?_)
            have hP : va_P (dC, dI) vwCl [(m0, .inr (8, [.int mth, .int mst, .ref mp, .int mln, .ref mk, .int mts, .ref mti, .ref mtw, .ref mi, .int mmn, .ref mpo, .int mpd_0, .ref mpi, .int v14, .int mcp, .ref mre, .ref mnn, .ref mwo, .ref mga, .ref mlo, .ref mro, .ref mle, .ref mra, .int mme, .ref mha, .int mch, .int mtm, .int mgo, .int mwa, .ref mba, .int mbl, .ref mon])), (mpo, .inl (cI, 12, .inl (upd mpof_0 mpd_0.toNatClampNeg v15))), (mpi, .inl (cI, 26, .inl mpif))] H := hP
            have hD : va_D A [(m0, .inr (8, [.int mth, .int mst, .ref mp, .int mln, .ref mk, .int mts, .ref mti, .ref mtw, .ref mi, .int mmn, .ref mpo, .int mpd_0, .ref mpi, .int v14, .int mcp, .ref mre, .ref mnn, .ref mwo, .ref mga, .ref mlo, .ref mro, .ref mle, .ref mra, .int mme, .ref mha, .int mch, .int mtm, .int mgo, .int mwa, .ref mba, .int mbl, .ref mon])), (mpo, .inl (cI, 12, .inl (upd mpof_0 mpd_0.toNatClampNeg v15))), (mpi, .inl (cI, 26, .inl mpif))] := hD
            generalize ef16 : upd mpof_0 mpd_0.toNatClampNeg v15 = f16 at hP hD
            refine lv_aload_n hx hb dX9_settle_70 rfl (lv_at hl 0 rfl) ?_
            refine lv_dup hx hb dX9_settle_71 rfl ?_
            refine va_get (D := (dC, dI)) (ci := 8) (v := .int mpd_0) (C := RX9) (T := TX9) (N := 32) hx hb hts inG_X9 hown hK hP 0 rfl rfl 11 (by decide) (hts _ fl_X9_103) (fun _ h9 => h9) rfl dX9_settle_72 ?_
            refine lv_iconst (v := 1) hx hb dX9_settle_75 (by decide) ?_
            refine lv_iadd hx hb dX9_settle_76 ?_
            refine lv_topi (fun v17 ev17 => ?_)
            try have hv17 : v17.toInt = mpd_0.toInt + (1 : Int32).toInt := I_addx ev17 (by omega)
            refine va_put (D := (dC, dI)) (ci := 8) (v := .int v17) (ty := .int) (C := RX9) (T := TX9) (N := 32) hx hb hts inG_X9 tyX9 tyX9_ok nmX9 hown hK hP hD hS 0 rfl rfl 11 (by decide) (hts _ fl_X9_103) (fun _ h9 => h9) rfl (by decide +kernel) rfl rfl (Nat.le_of_ble_eq_true rfl) dX9_settle_77 (fun H locs hP hD hS => ?_)
            have hP : va_P (dC, dI) vwCl [(m0, .inr (8, [.int mth, .int mst, .ref mp, .int mln, .ref mk, .int mts, .ref mti, .ref mtw, .ref mi, .int mmn, .ref mpo, .int v17, .ref mpi, .int v14, .int mcp, .ref mre, .ref mnn, .ref mwo, .ref mga, .ref mlo, .ref mro, .ref mle, .ref mra, .int mme, .ref mha, .int mch, .int mtm, .int mgo, .int mwa, .ref mba, .int mbl, .ref mon])), (mpo, .inl (cI, 12, .inl f16)), (mpi, .inl (cI, 26, .inl mpif))] H := hP
            have hD : va_D A [(m0, .inr (8, [.int mth, .int mst, .ref mp, .int mln, .ref mk, .int mts, .ref mti, .ref mtw, .ref mi, .int mmn, .ref mpo, .int v17, .ref mpi, .int v14, .int mcp, .ref mre, .ref mnn, .ref mwo, .ref mga, .ref mlo, .ref mro, .ref mle, .ref mra, .int mme, .ref mha, .int mch, .int mtm, .int mgo, .int mwa, .ref mba, .int mbl, .ref mon])), (mpo, .inl (cI, 12, .inl f16)), (mpi, .inl (cI, 26, .inl mpif))] := hD
            refine lv_goto (tgt := 0) hx hb dX9_settle_80 (by decide) ?_
            exact ih0 v17 v14 f16 (by first | assumption | exact RD_pop hi0_0 (by omega) (i := v2) (x := v3) (by omega) ev3 (by unfold isFr; omega) (by omega) (by omega) ef16 (by omega)) (by first | exact fun w h => h | exact fun w h => FF_op (x := v3) (hi1_0 w h) (top_at ev3 (by omega)) (by unfold isFr; omega) (by omega)) (by first | assumption | omega) (by omega) H locs ls hP hD hS hl
  exact J0 ((mpl.toInt).toNat + 1) mpd mpl mpof (by first | assumption | exact RD_pop hi0_0 (by omega) (i := v2) (x := v3) (by omega) ev3 (by unfold isFr; omega) (by omega) (by omega) empof (by omega)) (by first | exact fun w h => h | exact fun w h => FF_op (x := v3) (hi1_0 w h) (top_at ev3 (by omega)) (by unfold isFr; omega) (by omega)) (by first | assumption | omega) (by omega) H locs ls hP hD hS hl
set_option maxHeartbeats 4000000 in
set_option maxRecDepth 100000 in
theorem c_X9_frame (l : Launch) (dC : Nat → ClassId) (dI : Nat → Nat → Nat) (cI cJ : ClassId) (base bB bO : Nat) (m0 : Nat) (mth : Int32) (mst : Int32) (mp : Nat) (mln : Int32) (mk : Nat) (mts : Int32) (mti : Nat) (mtw : Nat) (mi : Nat) (mmn : Int32) (mpo : Nat) (mpd : Int32) (mpi : Nat) (mpl : Int32) (mcp : Int32) (mre : Nat) (mnn : Nat) (mwo : Nat) (mga : Nat) (mlo : Nat) (mro : Nat) (mle : Nat) (mra : Nat) (mme : Int32) (mha : Nat) (mch : Int32) (mtm : Int32) (mgo : Int32) (mwa : Int32) (mba : Nat) (mbl : Int32) (mon : Nat) (mpof : Nat → Int32) (mpif : Nat → Int32) (x : Int32) (K : Int) (hRD : RD mpof mpif mpd mpl 0 K) (hq1 : K ≤ 11) (hq2 : x.toInt = 0 ∨ x.toInt = 9) (hq3 : mcp.toInt = 0 ∨ mcp.toInt = 1) : CtV l dC dI cI cJ base bB bO yX9_frame cX9_frame 2 0 0 0 0 [.ref m0, .int x] [(m0, .inr (8, [.int mth, .int mst, .ref mp, .int mln, .ref mk, .int mts, .ref mti, .ref mtw, .ref mi, .int mmn, .ref mpo, .int mpd, .ref mpi, .int mpl, .int mcp, .ref mre, .ref mnn, .ref mwo, .ref mga, .ref mlo, .ref mro, .ref mle, .ref mra, .int mme, .ref mha, .int mch, .int mtm, .int mgo, .int mwa, .ref mba, .int mbl, .ref mon])), (mpo, .inl (cI, 12, .inl mpof)), (mpi, .inl (cI, 26, .inl mpif))] ((Int32) × (Int32) × (Nat → Int32)) (fun (u : (Int32) × (Int32) × (Nat → Int32)) => (RD mpof u.2.2 mpd u.1 0 (K + 1)) ∧ (u.2.1.toInt = 0 ∨ u.2.1.toInt = 1) ∧ True) (fun (u : (Int32) × (Int32) × (Nat → Int32)) => [(m0, .inr (8, [.int mth, .int mst, .ref mp, .int mln, .ref mk, .int mts, .ref mti, .ref mtw, .ref mi, .int mmn, .ref mpo, .int mpd, .ref mpi, .int u.1, .int u.2.1, .ref mre, .ref mnn, .ref mwo, .ref mga, .ref mlo, .ref mro, .ref mle, .ref mra, .int mme, .ref mha, .int mch, .int mtm, .int mgo, .int mwa, .ref mba, .int mbl, .ref mon])), (mpo, .inl (cI, 12, .inl mpof)), (mpi, .inl (cI, 26, .inl u.2.2))]) := by
  refine entV (by decide) (Nat.le_of_ble_eq_true rfl) ?_
  intro p e s m below meth c A Q ls hAt hret hP hD hS hl
  obtain ⟨hx, hb, hml, hown, hts, hA, hAb, hK, hE, hlocks, hin⟩ := hAt
  have hG : CG dC dI cI cJ base bB bO cX9_frame 2 RX9 p s m (List.toArray [.ref m0, .int x]) c A := ⟨hx, hb, hml, hown, hts, hA, hAb, hK, hE⟩
  have hl : lv_has ls 2 [(0, .ref m0), (1, .int x)] := hl
  have c_0 : (0 : Int32).toInt = 0 := by decide
  have c_1 : (1 : Int32).toInt = 1 := by decide
  have c_2 : (2 : Int32).toInt = 2 := by decide
  obtain ⟨H, hHe⟩ : ∃ H : Heap, H = s.heap := ⟨_, rfl⟩
  obtain ⟨locs, hle⟩ : ∃ z : List Loc, z = [] := ⟨_, rfl⟩
  rw [← hHe] at hP
  have hS : va_S A s.heap H locs := by rw [hHe, hle]; exact hS
  suffices hgo : W p l e { frames := 0, cells := 0, slots := 0, locals := 0 } s m (List.toArray [.ref m0, .int x]) below meth c H locs 0 0 Q (F0 m 0 ls []) by rw [hHe, hle] at hgo; exact hgo
  have hrb := RD_b hRD
  refine lv_aload_n hx hb dX9_frame_0 rfl (lv_at hl 0 rfl) ?_
  refine va_get (D := (dC, dI)) (ci := 8) (v := .ref mpi) (C := RX9) (T := TX9) (N := 32) hx hb hts inG_X9 hown hK hP 0 rfl rfl 12 (by decide) (hts _ fl_X9_28) (fun _ h9 => h9) rfl dX9_frame_1 ?_
  refine lv_aload_n hx hb dX9_frame_4 rfl (lv_at hl 0 rfl) ?_
  refine va_get (D := (dC, dI)) (ci := 8) (v := .int mpl) (C := RX9) (T := TX9) (N := 32) hx hb hts inG_X9 hown hK hP 0 rfl rfl 13 (by decide) (hts _ fl_X9_94) (fun _ h9 => h9) rfl dX9_frame_5 ?_
  refine lv_aload_n hx hb dX9_frame_8 rfl (lv_at hl 0 rfl) ?_
  refine va_get (D := (dC, dI)) (ci := 8) (v := .int mcp) (C := RX9) (T := TX9) (N := 32) hx hb hts inG_X9 hown hK hP 0 rfl rfl 14 (by decide) (hts _ fl_X9_106) (fun _ h9 => h9) rfl dX9_frame_9 ?_
  refine lv_if_eq (tgt := 19) hx hb dX9_frame_12 (by decide) (fun c1 => ?_) (fun c1 => ?_)
  · have c1' := I_eq c1
    refine lv_iconst (v := 0) hx hb dX9_frame_19 (by decide) ?_
    refine va_iast (t0 := 0) hx hb hK hP hD hS 2 (ha := rfl) (ht := rfl) (I_in (by omega) (by omega)) dX9_frame_20 (fun H locs hP hD hS => ?_)
    have hP : va_P (dC, dI) vwCl [(m0, .inr (8, [.int mth, .int mst, .ref mp, .int mln, .ref mk, .int mts, .ref mti, .ref mtw, .ref mi, .int mmn, .ref mpo, .int mpd, .ref mpi, .int mpl, .int mcp, .ref mre, .ref mnn, .ref mwo, .ref mga, .ref mlo, .ref mro, .ref mle, .ref mra, .int mme, .ref mha, .int mch, .int mtm, .int mgo, .int mwa, .ref mba, .int mbl, .ref mon])), (mpo, .inl (cI, 12, .inl mpof)), (mpi, .inl (cI, 26, .inl (upd mpif mpl.toNatClampNeg 0)))] H := hP
    have hD : va_D A [(m0, .inr (8, [.int mth, .int mst, .ref mp, .int mln, .ref mk, .int mts, .ref mti, .ref mtw, .ref mi, .int mmn, .ref mpo, .int mpd, .ref mpi, .int mpl, .int mcp, .ref mre, .ref mnn, .ref mwo, .ref mga, .ref mlo, .ref mro, .ref mle, .ref mra, .int mme, .ref mha, .int mch, .int mtm, .int mgo, .int mwa, .ref mba, .int mbl, .ref mon])), (mpo, .inl (cI, 12, .inl mpof)), (mpi, .inl (cI, 26, .inl (upd mpif mpl.toNatClampNeg 0)))] := hD
    generalize ef2 : upd mpif mpl.toNatClampNeg 0 = f2 at hP hD
    refine lv_aload_n hx hb dX9_frame_21 rfl (lv_at hl 0 rfl) ?_
    refine va_get (D := (dC, dI)) (ci := 8) (v := .ref mpi) (C := RX9) (T := TX9) (N := 32) hx hb hts inG_X9 hown hK hP 0 rfl rfl 12 (by decide) (hts _ fl_X9_28) (fun _ h9 => h9) rfl dX9_frame_22 ?_
    refine lv_aload_n hx hb dX9_frame_25 rfl (lv_at hl 0 rfl) ?_
    refine va_get (D := (dC, dI)) (ci := 8) (v := .int mpl) (C := RX9) (T := TX9) (N := 32) hx hb hts inG_X9 hown hK hP 0 rfl rfl 13 (by decide) (hts _ fl_X9_94) (fun _ h9 => h9) rfl dX9_frame_26 ?_
    refine lv_iconst (v := 1) hx hb dX9_frame_29 (by decide) ?_
    refine lv_iadd hx hb dX9_frame_30 ?_
    refine lv_topi (fun v3 ev3 => ?_)
    try have hv3 : v3.toInt = mpl.toInt + (1 : Int32).toInt := I_addx ev3 (by omega)
    refine lv_iload_n hx hb dX9_frame_31 rfl (lv_at hl 1 rfl) ?_
    refine va_iast (t0 := 0) hx hb hK hP hD hS 2 (ha := rfl) (ht := rfl) (I_in (by omega) (by omega)) dX9_frame_32 (fun H locs hP hD hS => ?_)
    have hP : va_P (dC, dI) vwCl [(m0, .inr (8, [.int mth, .int mst, .ref mp, .int mln, .ref mk, .int mts, .ref mti, .ref mtw, .ref mi, .int mmn, .ref mpo, .int mpd, .ref mpi, .int mpl, .int mcp, .ref mre, .ref mnn, .ref mwo, .ref mga, .ref mlo, .ref mro, .ref mle, .ref mra, .int mme, .ref mha, .int mch, .int mtm, .int mgo, .int mwa, .ref mba, .int mbl, .ref mon])), (mpo, .inl (cI, 12, .inl mpof)), (mpi, .inl (cI, 26, .inl (upd f2 v3.toNatClampNeg x)))] H := hP
    have hD : va_D A [(m0, .inr (8, [.int mth, .int mst, .ref mp, .int mln, .ref mk, .int mts, .ref mti, .ref mtw, .ref mi, .int mmn, .ref mpo, .int mpd, .ref mpi, .int mpl, .int mcp, .ref mre, .ref mnn, .ref mwo, .ref mga, .ref mlo, .ref mro, .ref mle, .ref mra, .int mme, .ref mha, .int mch, .int mtm, .int mgo, .int mwa, .ref mba, .int mbl, .ref mon])), (mpo, .inl (cI, 12, .inl mpof)), (mpi, .inl (cI, 26, .inl (upd f2 v3.toNatClampNeg x)))] := hD
    generalize ef4 : upd f2 v3.toNatClampNeg x = f4 at hP hD
    refine lv_aload_n hx hb dX9_frame_33 rfl (lv_at hl 0 rfl) ?_
    refine lv_dup hx hb dX9_frame_34 rfl ?_
    refine va_get (D := (dC, dI)) (ci := 8) (v := .int mpl) (C := RX9) (T := TX9) (N := 32) hx hb hts inG_X9 hown hK hP 0 rfl rfl 13 (by decide) (hts _ fl_X9_94) (fun _ h9 => h9) rfl dX9_frame_35 ?_
    refine lv_iconst (v := 2) hx hb dX9_frame_38 (by decide) ?_
    refine lv_iadd hx hb dX9_frame_39 ?_
    refine lv_topi (fun v5 ev5 => ?_)
    try have hv5 : v5.toInt = mpl.toInt + (2 : Int32).toInt := I_addx ev5 (by omega)
    refine va_put (D := (dC, dI)) (ci := 8) (v := .int v5) (ty := .int) (C := RX9) (T := TX9) (N := 32) hx hb hts inG_X9 tyX9 tyX9_ok nmX9 hown hK hP hD hS 0 rfl rfl 13 (by decide) (hts _ fl_X9_94) (fun _ h9 => h9) rfl (by decide +kernel) rfl rfl (Nat.le_of_ble_eq_true rfl) dX9_frame_40 (fun H locs hP hD hS => ?_)
    have hP : va_P (dC, dI) vwCl [(m0, .inr (8, [.int mth, .int mst, .ref mp, .int mln, .ref mk, .int mts, .ref mti, .ref mtw, .ref mi, .int mmn, .ref mpo, .int mpd, .ref mpi, .int v5, .int mcp, .ref mre, .ref mnn, .ref mwo, .ref mga, .ref mlo, .ref mro, .ref mle, .ref mra, .int mme, .ref mha, .int mch, .int mtm, .int mgo, .int mwa, .ref mba, .int mbl, .ref mon])), (mpo, .inl (cI, 12, .inl mpof)), (mpi, .inl (cI, 26, .inl f4))] H := hP
    have hD : va_D A [(m0, .inr (8, [.int mth, .int mst, .ref mp, .int mln, .ref mk, .int mts, .ref mti, .ref mtw, .ref mi, .int mmn, .ref mpo, .int mpd, .ref mpi, .int v5, .int mcp, .ref mre, .ref mnn, .ref mwo, .ref mga, .ref mlo, .ref mro, .ref mle, .ref mra, .int mme, .ref mha, .int mch, .int mtm, .int mgo, .int mwa, .ref mba, .int mbl, .ref mon])), (mpo, .inl (cI, 12, .inl mpof)), (mpi, .inl (cI, 26, .inl f4))] := hD
    refine lv_aload_n hx hb dX9_frame_43 rfl (lv_at hl 0 rfl) ?_
    refine lv_iconst (v := 0) hx hb dX9_frame_44 (by decide) ?_
    refine va_put (D := (dC, dI)) (ci := 8) (v := .int 0) (ty := .boolean) (C := RX9) (T := TX9) (N := 32) hx hb hts inG_X9 tyX9 tyX9_ok nmX9 hown hK hP hD hS 0 rfl rfl 14 (by decide) (hts _ fl_X9_106) (fun _ h9 => h9) rfl (by decide +kernel) (by first | rfl | exact I_narz (by omega)) rfl (Nat.le_of_ble_eq_true rfl) dX9_frame_45 (fun H locs hP hD hS => ?_)
    have hP : va_P (dC, dI) vwCl [(m0, .inr (8, [.int mth, .int mst, .ref mp, .int mln, .ref mk, .int mts, .ref mti, .ref mtw, .ref mi, .int mmn, .ref mpo, .int mpd, .ref mpi, .int v5, .int 0, .ref mre, .ref mnn, .ref mwo, .ref mga, .ref mlo, .ref mro, .ref mle, .ref mra, .int mme, .ref mha, .int mch, .int mtm, .int mgo, .int mwa, .ref mba, .int mbl, .ref mon])), (mpo, .inl (cI, 12, .inl mpof)), (mpi, .inl (cI, 26, .inl f4))] H := hP
    have hD : va_D A [(m0, .inr (8, [.int mth, .int mst, .ref mp, .int mln, .ref mk, .int mts, .ref mti, .ref mtw, .ref mi, .int mmn, .ref mpo, .int mpd, .ref mpi, .int v5, .int 0, .ref mre, .ref mnn, .ref mwo, .ref mga, .ref mlo, .ref mro, .ref mle, .ref mra, .int mme, .ref mha, .int mch, .int mtm, .int mgo, .int mwa, .ref mba, .int mbl, .ref mon])), (mpo, .inl (cI, 12, .inl mpof)), (mpi, .inl (cI, 26, .inl f4))] := hD
    exact hret (v5, 0, f4) H locs 48 ls ⟨(show RD mpof f4 mpd v5 0 (K + 1) from by exact RD_frame hRD (by omega) (pl1 := v3) (by omega) (by omega) ef2 ef4), (show (0 : Int32).toInt = 0 ∨ (0 : Int32).toInt = 1 from by first | rfl | assumption | omega), trivial⟩ hP hD hS dX9_frame_48
  · have c1' := I_ne c1
    refine lv_iconst (v := 1) hx hb dX9_frame_15 (by decide) ?_
    refine lv_goto (tgt := 20) hx hb dX9_frame_16 (by decide) ?_
    refine va_iast (t0 := 0) hx hb hK hP hD hS 2 (ha := rfl) (ht := rfl) (I_in (by omega) (by omega)) dX9_frame_20 (fun H locs hP hD hS => ?_)
    have hP : va_P (dC, dI) vwCl [(m0, .inr (8, [.int mth, .int mst, .ref mp, .int mln, .ref mk, .int mts, .ref mti, .ref mtw, .ref mi, .int mmn, .ref mpo, .int mpd, .ref mpi, .int mpl, .int mcp, .ref mre, .ref mnn, .ref mwo, .ref mga, .ref mlo, .ref mro, .ref mle, .ref mra, .int mme, .ref mha, .int mch, .int mtm, .int mgo, .int mwa, .ref mba, .int mbl, .ref mon])), (mpo, .inl (cI, 12, .inl mpof)), (mpi, .inl (cI, 26, .inl (upd mpif mpl.toNatClampNeg 1)))] H := hP
    have hD : va_D A [(m0, .inr (8, [.int mth, .int mst, .ref mp, .int mln, .ref mk, .int mts, .ref mti, .ref mtw, .ref mi, .int mmn, .ref mpo, .int mpd, .ref mpi, .int mpl, .int mcp, .ref mre, .ref mnn, .ref mwo, .ref mga, .ref mlo, .ref mro, .ref mle, .ref mra, .int mme, .ref mha, .int mch, .int mtm, .int mgo, .int mwa, .ref mba, .int mbl, .ref mon])), (mpo, .inl (cI, 12, .inl mpof)), (mpi, .inl (cI, 26, .inl (upd mpif mpl.toNatClampNeg 1)))] := hD
    generalize ef6 : upd mpif mpl.toNatClampNeg 1 = f6 at hP hD
    refine lv_aload_n hx hb dX9_frame_21 rfl (lv_at hl 0 rfl) ?_
    refine va_get (D := (dC, dI)) (ci := 8) (v := .ref mpi) (C := RX9) (T := TX9) (N := 32) hx hb hts inG_X9 hown hK hP 0 rfl rfl 12 (by decide) (hts _ fl_X9_28) (fun _ h9 => h9) rfl dX9_frame_22 ?_
    refine lv_aload_n hx hb dX9_frame_25 rfl (lv_at hl 0 rfl) ?_
    refine va_get (D := (dC, dI)) (ci := 8) (v := .int mpl) (C := RX9) (T := TX9) (N := 32) hx hb hts inG_X9 hown hK hP 0 rfl rfl 13 (by decide) (hts _ fl_X9_94) (fun _ h9 => h9) rfl dX9_frame_26 ?_
    refine lv_iconst (v := 1) hx hb dX9_frame_29 (by decide) ?_
    refine lv_iadd hx hb dX9_frame_30 ?_
    refine lv_topi (fun v7 ev7 => ?_)
    try have hv7 : v7.toInt = mpl.toInt + (1 : Int32).toInt := I_addx ev7 (by omega)
    refine lv_iload_n hx hb dX9_frame_31 rfl (lv_at hl 1 rfl) ?_
    refine va_iast (t0 := 0) hx hb hK hP hD hS 2 (ha := rfl) (ht := rfl) (I_in (by omega) (by omega)) dX9_frame_32 (fun H locs hP hD hS => ?_)
    have hP : va_P (dC, dI) vwCl [(m0, .inr (8, [.int mth, .int mst, .ref mp, .int mln, .ref mk, .int mts, .ref mti, .ref mtw, .ref mi, .int mmn, .ref mpo, .int mpd, .ref mpi, .int mpl, .int mcp, .ref mre, .ref mnn, .ref mwo, .ref mga, .ref mlo, .ref mro, .ref mle, .ref mra, .int mme, .ref mha, .int mch, .int mtm, .int mgo, .int mwa, .ref mba, .int mbl, .ref mon])), (mpo, .inl (cI, 12, .inl mpof)), (mpi, .inl (cI, 26, .inl (upd f6 v7.toNatClampNeg x)))] H := hP
    have hD : va_D A [(m0, .inr (8, [.int mth, .int mst, .ref mp, .int mln, .ref mk, .int mts, .ref mti, .ref mtw, .ref mi, .int mmn, .ref mpo, .int mpd, .ref mpi, .int mpl, .int mcp, .ref mre, .ref mnn, .ref mwo, .ref mga, .ref mlo, .ref mro, .ref mle, .ref mra, .int mme, .ref mha, .int mch, .int mtm, .int mgo, .int mwa, .ref mba, .int mbl, .ref mon])), (mpo, .inl (cI, 12, .inl mpof)), (mpi, .inl (cI, 26, .inl (upd f6 v7.toNatClampNeg x)))] := hD
    generalize ef8 : upd f6 v7.toNatClampNeg x = f8 at hP hD
    refine lv_aload_n hx hb dX9_frame_33 rfl (lv_at hl 0 rfl) ?_
    refine lv_dup hx hb dX9_frame_34 rfl ?_
    refine va_get (D := (dC, dI)) (ci := 8) (v := .int mpl) (C := RX9) (T := TX9) (N := 32) hx hb hts inG_X9 hown hK hP 0 rfl rfl 13 (by decide) (hts _ fl_X9_94) (fun _ h9 => h9) rfl dX9_frame_35 ?_
    refine lv_iconst (v := 2) hx hb dX9_frame_38 (by decide) ?_
    refine lv_iadd hx hb dX9_frame_39 ?_
    refine lv_topi (fun v9 ev9 => ?_)
    try have hv9 : v9.toInt = mpl.toInt + (2 : Int32).toInt := I_addx ev9 (by omega)
    refine va_put (D := (dC, dI)) (ci := 8) (v := .int v9) (ty := .int) (C := RX9) (T := TX9) (N := 32) hx hb hts inG_X9 tyX9 tyX9_ok nmX9 hown hK hP hD hS 0 rfl rfl 13 (by decide) (hts _ fl_X9_94) (fun _ h9 => h9) rfl (by decide +kernel) rfl rfl (Nat.le_of_ble_eq_true rfl) dX9_frame_40 (fun H locs hP hD hS => ?_)
    have hP : va_P (dC, dI) vwCl [(m0, .inr (8, [.int mth, .int mst, .ref mp, .int mln, .ref mk, .int mts, .ref mti, .ref mtw, .ref mi, .int mmn, .ref mpo, .int mpd, .ref mpi, .int v9, .int mcp, .ref mre, .ref mnn, .ref mwo, .ref mga, .ref mlo, .ref mro, .ref mle, .ref mra, .int mme, .ref mha, .int mch, .int mtm, .int mgo, .int mwa, .ref mba, .int mbl, .ref mon])), (mpo, .inl (cI, 12, .inl mpof)), (mpi, .inl (cI, 26, .inl f8))] H := hP
    have hD : va_D A [(m0, .inr (8, [.int mth, .int mst, .ref mp, .int mln, .ref mk, .int mts, .ref mti, .ref mtw, .ref mi, .int mmn, .ref mpo, .int mpd, .ref mpi, .int v9, .int mcp, .ref mre, .ref mnn, .ref mwo, .ref mga, .ref mlo, .ref mro, .ref mle, .ref mra, .int mme, .ref mha, .int mch, .int mtm, .int mgo, .int mwa, .ref mba, .int mbl, .ref mon])), (mpo, .inl (cI, 12, .inl mpof)), (mpi, .inl (cI, 26, .inl f8))] := hD
    refine lv_aload_n hx hb dX9_frame_43 rfl (lv_at hl 0 rfl) ?_
    refine lv_iconst (v := 0) hx hb dX9_frame_44 (by decide) ?_
    refine va_put (D := (dC, dI)) (ci := 8) (v := .int 0) (ty := .boolean) (C := RX9) (T := TX9) (N := 32) hx hb hts inG_X9 tyX9 tyX9_ok nmX9 hown hK hP hD hS 0 rfl rfl 14 (by decide) (hts _ fl_X9_106) (fun _ h9 => h9) rfl (by decide +kernel) (by first | rfl | exact I_narz (by omega)) rfl (Nat.le_of_ble_eq_true rfl) dX9_frame_45 (fun H locs hP hD hS => ?_)
    have hP : va_P (dC, dI) vwCl [(m0, .inr (8, [.int mth, .int mst, .ref mp, .int mln, .ref mk, .int mts, .ref mti, .ref mtw, .ref mi, .int mmn, .ref mpo, .int mpd, .ref mpi, .int v9, .int 0, .ref mre, .ref mnn, .ref mwo, .ref mga, .ref mlo, .ref mro, .ref mle, .ref mra, .int mme, .ref mha, .int mch, .int mtm, .int mgo, .int mwa, .ref mba, .int mbl, .ref mon])), (mpo, .inl (cI, 12, .inl mpof)), (mpi, .inl (cI, 26, .inl f8))] H := hP
    have hD : va_D A [(m0, .inr (8, [.int mth, .int mst, .ref mp, .int mln, .ref mk, .int mts, .ref mti, .ref mtw, .ref mi, .int mmn, .ref mpo, .int mpd, .ref mpi, .int v9, .int 0, .ref mre, .ref mnn, .ref mwo, .ref mga, .ref mlo, .ref mro, .ref mle, .ref mra, .int mme, .ref mha, .int mch, .int mtm, .int mgo, .int mwa, .ref mba, .int mbl, .ref mon])), (mpo, .inl (cI, 12, .inl mpof)), (mpi, .inl (cI, 26, .inl f8))] := hD
    exact hret (v9, 0, f8) H locs 48 ls ⟨(show RD mpof f8 mpd v9 0 (K + 1) from by exact RD_frame hRD (by omega) (pl1 := v7) (by omega) (by omega) ef6 ef8), (show (0 : Int32).toInt = 0 ∨ (0 : Int32).toInt = 1 from by first | rfl | assumption | omega), trivial⟩ hP hD hS dX9_frame_48
set_option maxHeartbeats 4000000 in
set_option maxRecDepth 100000 in
theorem c_X9_close (l : Launch) (dC : Nat → ClassId) (dI : Nat → Nat → Nat) (cI cJ : ClassId) (base bB bO : Nat) (m0 : Nat) (mth : Int32) (mst : Int32) (mp : Nat) (mln : Int32) (mk : Nat) (mts : Int32) (mti : Nat) (mtw : Nat) (mi : Nat) (mmn : Int32) (mpo : Nat) (mpd : Int32) (mpi : Nat) (mpl : Int32) (mcp : Int32) (mre : Nat) (mnn : Nat) (mwo : Nat) (mga : Nat) (mlo : Nat) (mro : Nat) (mle : Nat) (mra : Nat) (mme : Int32) (mha : Nat) (mch : Int32) (mtm : Int32) (mgo : Int32) (mwa : Int32) (mba : Nat) (mbl : Int32) (mon : Nat) (mpof : Nat → Int32) (mpif : Nat → Int32) (K : Int) (hRD : RD mpof mpif mpd mpl 1 K) (hq1 : K ≤ 12) : CtI l dC dI cI cJ base bB bO yX9_close cX9_close 1 .int 2 41 [.ref m0] [(m0, .inr (8, [.int mth, .int mst, .ref mp, .int mln, .ref mk, .int mts, .ref mti, .ref mtw, .ref mi, .int mmn, .ref mpo, .int mpd, .ref mpi, .int mpl, .int mcp, .ref mre, .ref mnn, .ref mwo, .ref mga, .ref mlo, .ref mro, .ref mle, .ref mra, .int mme, .ref mha, .int mch, .int mtm, .int mgo, .int mwa, .ref mba, .int mbl, .ref mon])), (mpo, .inl (cI, 12, .inl mpof)), (mpi, .inl (cI, 26, .inl mpif))] ((Int32) × (Int32) × (Nat → Int32)) (fun (res : Int32) (u : (Int32) × (Int32) × (Nat → Int32)) => (RD u.2.2 mpif u.1 u.2.1 1 K) ∧ ((u.2.1.toInt = 0 ∧ res.toInt = -1) ∨ (0 < u.2.1.toInt ∧ (res.toInt = 0 ∨ res.toInt = 9 ∨ res.toInt = 10))) ∧ (u.2.1.toInt = 0 ∨ res = mpif (u.2.1.toInt - 1).toNat) ∧ (∀ w : Int, FF mpif mpl.toInt w → FF mpif u.2.1.toInt w) ∧ True) (fun (u : (Int32) × (Int32) × (Nat → Int32)) => [(m0, .inr (8, [.int mth, .int mst, .ref mp, .int mln, .ref mk, .int mts, .ref mti, .ref mtw, .ref mi, .int mmn, .ref mpo, .int u.1, .ref mpi, .int u.2.1, .int mcp, .ref mre, .ref mnn, .ref mwo, .ref mga, .ref mlo, .ref mro, .ref mle, .ref mra, .int mme, .ref mha, .int mch, .int mtm, .int mgo, .int mwa, .ref mba, .int mbl, .ref mon])), (mpo, .inl (cI, 12, .inl u.2.2)), (mpi, .inl (cI, 26, .inl mpif))]) := by
  refine entI (by decide) (Nat.le_of_ble_eq_true rfl) ?_
  intro p e s m below meth c A Q ls hAt hret hP hD hS hl
  obtain ⟨hx, hb, hml, hown, hts, hA, hAb, hK, hE, hlocks, hin⟩ := hAt
  have hG : CG dC dI cI cJ base bB bO cX9_close 1 RX9 p s m (List.toArray [.ref m0]) c A := ⟨hx, hb, hml, hown, hts, hA, hAb, hK, hE⟩
  have hl : lv_has ls 1 [(0, .ref m0)] := hl
  have c_m1 : (-1 : Int32).toInt = -1 := by decide
  have c_0 : (0 : Int32).toInt = 0 := by decide
  have c_1 : (1 : Int32).toInt = 1 := by decide
  have c_2 : (2 : Int32).toInt = 2 := by decide
  have c_9 : (9 : Int32).toInt = 9 := by decide
  have c_11 : (11 : Int32).toInt = 11 := by decide
  obtain ⟨H, hHe⟩ : ∃ H : Heap, H = s.heap := ⟨_, rfl⟩
  obtain ⟨locs, hle⟩ : ∃ z : List Loc, z = [] := ⟨_, rfl⟩
  rw [← hHe] at hP
  have hS : va_S A s.heap H locs := by rw [hHe, hle]; exact hS
  suffices hgo : W p l e { frames := 2, cells := 0, slots := 0, locals := 41 } s m (List.toArray [.ref m0]) below meth c H locs 0 0 Q (F0 m 0 ls []) by rw [hHe, hle] at hgo; exact hgo
  refine lv_aload_n hx hb dX9_close_0 rfl (lv_at hl 0 rfl) ?_
  refine lv_iconst (v := 1) hx hb dX9_close_1 (by decide) ?_
  refine calV (rest := []) (wr := []) hG (c_X9_settle l dC dI cI cJ base bB bO m0 mth mst mp mln mk mts mti mtw mi mmn mpo mpd mpi mpl mcp mre mnn mwo mga mlo mro mle mra mme mha mch mtm mgo mwa mba mbl mon mpof mpif 1 K (by first | assumption | omega) (by first | assumption | omega) (by first | assumption | omega)) ml_X9_110 im_X9_settle se_X9_settle ini_X9 cd_X9_settle hd_X9_settle ⟨(Nat.le_of_ble_eq_true rfl), (Nat.le_of_ble_eq_true rfl)⟩ (Nat.le_of_ble_eq_true rfl) (Nat.le_of_ble_eq_true rfl) hP hD hS [0, 1, 2] [] rfl rfl rfl rfl (by decide) 8 0 rfl rfl hl.1 rfl (Nat.le_of_ble_eq_true rfl) dX9_close_2 (fun u H locs hw1 hP hD hS => ?_)
  obtain ⟨mpd_2, mpl_3, mpof_4⟩ := u
  have hw1 : (RD mpof_4 mpif mpd_2 mpl_3 1 K) ∧ (mpl_3.toInt ≤ mpl.toInt) ∧ (mpl_3.toInt = 0 ∨ 1 < (1 : Int32).toInt ∨ isFr (mpif (mpl_3.toInt - 1).toNat).toInt) ∧ (∀ w : Int, FF mpif mpl.toInt w → FF mpif mpl_3.toInt w) ∧ True := hw1
  obtain ⟨hp5, hp6, hp7, hp8, -⟩ := hw1
  have hP : va_P (dC, dI) vwCl [(m0, .inr (8, [.int mth, .int mst, .ref mp, .int mln, .ref mk, .int mts, .ref mti, .ref mtw, .ref mi, .int mmn, .ref mpo, .int mpd_2, .ref mpi, .int mpl_3, .int mcp, .ref mre, .ref mnn, .ref mwo, .ref mga, .ref mlo, .ref mro, .ref mle, .ref mra, .int mme, .ref mha, .int mch, .int mtm, .int mgo, .int mwa, .ref mba, .int mbl, .ref mon])), (mpo, .inl (cI, 12, .inl mpof_4)), (mpi, .inl (cI, 26, .inl mpif))] H := hP
  have hD : va_D A [(m0, .inr (8, [.int mth, .int mst, .ref mp, .int mln, .ref mk, .int mts, .ref mti, .ref mtw, .ref mi, .int mmn, .ref mpo, .int mpd_2, .ref mpi, .int mpl_3, .int mcp, .ref mre, .ref mnn, .ref mwo, .ref mga, .ref mlo, .ref mro, .ref mle, .ref mra, .int mme, .ref mha, .int mch, .int mtm, .int mgo, .int mwa, .ref mba, .int mbl, .ref mon])), (mpo, .inl (cI, 12, .inl mpof_4)), (mpi, .inl (cI, 26, .inl mpif))] := hD
  have hz2 : mpl_3.toInt = 0 ∨ isFr (mpif (mpl_3.toInt - 1).toNat).toInt := by rcases hp7 with h | h | h; exact Or.inl h; exact absurd h (by omega); exact Or.inr h
  have hzb := RD_b hp5
  have J5 : ∀ (n : Nat) (mpd_5 : Int32) (mpl_5 : Int32) (mpof_5 : Nat → Int32), (RD mpof_5 mpif mpd_5 mpl_5 1 K) → (∀ w : Int, FF mpif mpl.toInt w → FF mpif mpl_5.toInt w) → (mpl_5.toInt = 0 ∨ isFr (mpif (mpl_5.toInt - 1).toNat).toInt) → (0 ≤ mpl_5.toInt ∧ mpl_5.toInt ≤ 24) → (mpl_5.toInt) < (n : Int) → ∀ (H : Heap) (locs : List Loc) (ls : Array Slot), va_P (dC, dI) vwCl [(m0, .inr (8, [.int mth, .int mst, .ref mp, .int mln, .ref mk, .int mts, .ref mti, .ref mtw, .ref mi, .int mmn, .ref mpo, .int mpd_5, .ref mpi, .int mpl_5, .int mcp, .ref mre, .ref mnn, .ref mwo, .ref mga, .ref mlo, .ref mro, .ref mle, .ref mra, .int mme, .ref mha, .int mch, .int mtm, .int mgo, .int mwa, .ref mba, .int mbl, .ref mon])), (mpo, .inl (cI, 12, .inl mpof_5)), (mpi, .inl (cI, 26, .inl mpif))] H → va_D A [(m0, .inr (8, [.int mth, .int mst, .ref mp, .int mln, .ref mk, .int mts, .ref mti, .ref mtw, .ref mi, .int mmn, .ref mpo, .int mpd_5, .ref mpi, .int mpl_5, .int mcp, .ref mre, .ref mnn, .ref mwo, .ref mga, .ref mlo, .ref mro, .ref mle, .ref mra, .int mme, .ref mha, .int mch, .int mtm, .int mgo, .int mwa, .ref mba, .int mbl, .ref mon])), (mpo, .inl (cI, 12, .inl mpof_5)), (mpi, .inl (cI, 26, .inl mpif))] → va_S A s.heap H locs → lv_has ls 1 [(0, .ref m0)] → W p l e { frames := 2, cells := 0, slots := 0, locals := 41 } s m (List.toArray [.ref m0]) below meth c H locs 0 0 Q (F0 m 5 ls []) := by
    intro n
    induction n with
    | zero =>
      intro mpd_5 mpl_5 mpof_5 hi0_5 hi1_5 hi2_5 hi3_5 hm
      exact absurd hm (by omega)
    | succ n ih5 =>
      intro mpd_5 mpl_5 mpof_5 hi0_5 hi1_5 hi2_5 hi3_5 hm5 H locs ls hP hD hS hl
      have hrb := RD_b hi0_5
      refine lv_aload_n hx hb dX9_close_5 rfl (lv_at hl 0 rfl) ?_
      refine va_get (D := (dC, dI)) (ci := 8) (v := .int mpl_5) (C := RX9) (T := TX9) (N := 32) hx hb hts inG_X9 hown hK hP 0 rfl rfl 13 (by decide) (hts _ fl_X9_94) (fun _ h9 => h9) rfl dX9_close_6 ?_
      refine lv_if_le (tgt := 67) hx hb dX9_close_9 (by decide) (fun c9 => ?_) (fun c9 => ?_)
      · have c9' := I_le c9
        refine lv_aload_n hx hb dX9_close_67 rfl (lv_at hl 0 rfl) ?_
        refine va_get (D := (dC, dI)) (ci := 8) (v := .int mpl_5) (C := RX9) (T := TX9) (N := 32) hx hb hts inG_X9 hown hK hP 0 rfl rfl 13 (by decide) (hts _ fl_X9_94) (fun _ h9 => h9) rfl dX9_close_68 ?_
        refine lv_if_ne (tgt := 78) hx hb dX9_close_71 (by decide) (fun c10 => ?_) (fun c10 => ?_)
        · have c10' := I_ne c10
          refine lv_aload_n hx hb dX9_close_78 rfl (lv_at hl 0 rfl) ?_
          refine va_get (D := (dC, dI)) (ci := 8) (v := .ref mpi) (C := RX9) (T := TX9) (N := 32) hx hb hts inG_X9 hown hK hP 0 rfl rfl 12 (by decide) (hts _ fl_X9_28) (fun _ h9 => h9) rfl dX9_close_79 ?_
          refine lv_aload_n hx hb dX9_close_82 rfl (lv_at hl 0 rfl) ?_
          refine va_get (D := (dC, dI)) (ci := 8) (v := .int mpl_5) (C := RX9) (T := TX9) (N := 32) hx hb hts inG_X9 hown hK hP 0 rfl rfl 13 (by decide) (hts _ fl_X9_94) (fun _ h9 => h9) rfl dX9_close_83 ?_
          refine lv_iconst (v := 1) hx hb dX9_close_86 (by decide) ?_
          refine lv_isub hx hb dX9_close_87 ?_
          refine lv_topi (fun v11 ev11 => ?_)
          try have hv11 : v11.toInt = mpl_5.toInt - (1 : Int32).toInt := I_subx ev11 (by omega)
          refine va_iald (t0 := 0) hx hb hK hP 2 (ha := rfl) (ht := rfl) (I_in (by omega) (by omega)) dX9_close_88 ?_
          refine lv_topi (fun v12 ev12 => ?_)
          have hfr2 : isFr v12.toInt := by rcases hi2_5 with h | h; exact absurd h (by omega); rw [top_at ev12 (by omega : v11.toInt = mpl_5.toInt - 1)]; exact h
          unfold isFr at hfr2
          try have hv12 := I_eq (show v12 = _ from by rw [ev12, e_, ev11, e_])
          exact hret v12 (mpd_5, mpl_5, mpof_5) H locs 89 ls rfl ⟨(show RD mpof_5 mpif mpd_5 mpl_5 1 K from by first | rfl | assumption | omega), (show (mpl_5.toInt = 0 ∧ v12.toInt = -1) ∨ (0 < mpl_5.toInt ∧ (v12.toInt = 0 ∨ v12.toInt = 9 ∨ v12.toInt = 10)) from by first | rfl | assumption | omega), (show mpl_5.toInt = 0 ∨ v12 = mpif (mpl_5.toInt - 1).toNat from by first | (left; omega) | (right; exact top_at ev12 (by omega))), (show ∀ w : Int, FF mpif mpl.toInt w → FF mpif mpl_5.toInt w from by first | rfl | assumption | omega), trivial⟩ hP hD hS dX9_close_89
        · have c10' := I_eq c10
          refine lv_iconst (v := (-1)) hx hb dX9_close_74 (by decide) ?_
          refine lv_goto (tgt := 89) hx hb dX9_close_75 (by decide) ?_
          exact hret (-1) (mpd_5, mpl_5, mpof_5) H locs 89 ls rfl ⟨(show RD mpof_5 mpif mpd_5 mpl_5 1 K from by first | rfl | assumption | omega), (show (mpl_5.toInt = 0 ∧ (-1 : Int32).toInt = -1) ∨ (0 < mpl_5.toInt ∧ ((-1 : Int32).toInt = 0 ∨ (-1 : Int32).toInt = 9 ∨ (-1 : Int32).toInt = 10)) from by first | rfl | assumption | omega), (show mpl_5.toInt = 0 ∨ (-1 : Int32) = mpif (mpl_5.toInt - 1).toNat from by first | (left; omega) | (right; exact top_at ev12 (by omega))), (show ∀ w : Int, FF mpif mpl.toInt w → FF mpif mpl_5.toInt w from by first | rfl | assumption | omega), trivial⟩ hP hD hS dX9_close_89
      · have c9' := I_nle c9
        refine lv_aload_n hx hb dX9_close_12 rfl (lv_at hl 0 rfl) ?_
        refine va_get (D := (dC, dI)) (ci := 8) (v := .ref mpi) (C := RX9) (T := TX9) (N := 32) hx hb hts inG_X9 hown hK hP 0 rfl rfl 12 (by decide) (hts _ fl_X9_28) (fun _ h9 => h9) rfl dX9_close_13 ?_
        refine lv_aload_n hx hb dX9_close_16 rfl (lv_at hl 0 rfl) ?_
        refine va_get (D := (dC, dI)) (ci := 8) (v := .int mpl_5) (C := RX9) (T := TX9) (N := 32) hx hb hts inG_X9 hown hK hP 0 rfl rfl 13 (by decide) (hts _ fl_X9_94) (fun _ h9 => h9) rfl dX9_close_17 ?_
        refine lv_iconst (v := 1) hx hb dX9_close_20 (by decide) ?_
        refine lv_isub hx hb dX9_close_21 ?_
        refine lv_topi (fun v13 ev13 => ?_)
        try have hv13 : v13.toInt = mpl_5.toInt - (1 : Int32).toInt := I_subx ev13 (by omega)
        refine va_iald (t0 := 0) hx hb hK hP 2 (ha := rfl) (ht := rfl) (I_in (by omega) (by omega)) dX9_close_22 ?_
        refine lv_topi (fun v14 ev14 => ?_)
        refine lv_bipush (v := 11) hx hb dX9_close_23 (by decide) ?_
        refine lv_icmp_ne (tgt := 67) hx hb dX9_close_25 (by decide) (fun c15 => ?_) (fun c15 => ?_)
        · have c15' := I_ne c15
          refine lv_aload_n hx hb dX9_close_67 rfl (lv_at hl 0 rfl) ?_
          refine va_get (D := (dC, dI)) (ci := 8) (v := .int mpl_5) (C := RX9) (T := TX9) (N := 32) hx hb hts inG_X9 hown hK hP 0 rfl rfl 13 (by decide) (hts _ fl_X9_94) (fun _ h9 => h9) rfl dX9_close_68 ?_
          refine lv_if_ne (tgt := 78) hx hb dX9_close_71 (by decide) (fun c16 => ?_) (fun c16 => ?_)
          · have c16' := I_ne c16
            refine lv_aload_n hx hb dX9_close_78 rfl (lv_at hl 0 rfl) ?_
            refine va_get (D := (dC, dI)) (ci := 8) (v := .ref mpi) (C := RX9) (T := TX9) (N := 32) hx hb hts inG_X9 hown hK hP 0 rfl rfl 12 (by decide) (hts _ fl_X9_28) (fun _ h9 => h9) rfl dX9_close_79 ?_
            refine lv_aload_n hx hb dX9_close_82 rfl (lv_at hl 0 rfl) ?_
            refine va_get (D := (dC, dI)) (ci := 8) (v := .int mpl_5) (C := RX9) (T := TX9) (N := 32) hx hb hts inG_X9 hown hK hP 0 rfl rfl 13 (by decide) (hts _ fl_X9_94) (fun _ h9 => h9) rfl dX9_close_83 ?_
            refine lv_iconst (v := 1) hx hb dX9_close_86 (by decide) ?_
            refine lv_isub hx hb dX9_close_87 ?_
            refine lv_topi (fun v17 ev17 => ?_)
            try have hv17 : v17.toInt = mpl_5.toInt - (1 : Int32).toInt := I_subx ev17 (by omega)
            refine va_iald (t0 := 0) hx hb hK hP 2 (ha := rfl) (ht := rfl) (I_in (by omega) (by omega)) dX9_close_88 ?_
            refine lv_topi (fun v18 ev18 => ?_)
            have hfr2 : isFr v18.toInt := by rcases hi2_5 with h | h; exact absurd h (by omega); rw [top_at ev18 (by omega : v17.toInt = mpl_5.toInt - 1)]; exact h
            unfold isFr at hfr2
            try have hv12 := I_eq (show v18 = v14 from by rw [ev18, ev14, ev17, ev13])
            exact hret v18 (mpd_5, mpl_5, mpof_5) H locs 89 ls rfl ⟨(show RD mpof_5 mpif mpd_5 mpl_5 1 K from by first | rfl | assumption | omega), (show (mpl_5.toInt = 0 ∧ v18.toInt = -1) ∨ (0 < mpl_5.toInt ∧ (v18.toInt = 0 ∨ v18.toInt = 9 ∨ v18.toInt = 10)) from by first | rfl | assumption | omega), (show mpl_5.toInt = 0 ∨ v18 = mpif (mpl_5.toInt - 1).toNat from by first | (left; omega) | (right; exact top_at ev18 (by omega))), (show ∀ w : Int, FF mpif mpl.toInt w → FF mpif mpl_5.toInt w from by first | rfl | assumption | omega), trivial⟩ hP hD hS dX9_close_89
          · have c16' := I_eq c16
            refine lv_iconst (v := (-1)) hx hb dX9_close_74 (by decide) ?_
            refine lv_goto (tgt := 89) hx hb dX9_close_75 (by decide) ?_
            exact hret (-1) (mpd_5, mpl_5, mpof_5) H locs 89 ls rfl ⟨(show RD mpof_5 mpif mpd_5 mpl_5 1 K from by first | rfl | assumption | omega), (show (mpl_5.toInt = 0 ∧ (-1 : Int32).toInt = -1) ∨ (0 < mpl_5.toInt ∧ ((-1 : Int32).toInt = 0 ∨ (-1 : Int32).toInt = 9 ∨ (-1 : Int32).toInt = 10)) from by first | rfl | assumption | omega), (show mpl_5.toInt = 0 ∨ (-1 : Int32) = mpif (mpl_5.toInt - 1).toNat from by first | (left; omega) | (right; exact top_at ev18 (by omega))), (show ∀ w : Int, FF mpif mpl.toInt w → FF mpif mpl_5.toInt w from by first | rfl | assumption | omega), trivial⟩ hP hD hS dX9_close_89
        · have c15' := I_eq c15
          refine lv_aload_n hx hb dX9_close_28 rfl (lv_at hl 0 rfl) ?_
          refine va_get (D := (dC, dI)) (ci := 8) (v := .ref mpo) (C := RX9) (T := TX9) (N := 32) hx hb hts inG_X9 hown hK hP 0 rfl rfl 10 (by decide) (hts _ fl_X9_25) (fun _ h9 => h9) rfl dX9_close_29 ?_
          refine lv_aload_n hx hb dX9_close_32 rfl (lv_at hl 0 rfl) ?_
          refine va_get (D := (dC, dI)) (ci := 8) (v := .int mpd_5) (C := RX9) (T := TX9) (N := 32) hx hb hts inG_X9 hown hK hP 0 rfl rfl 11 (by decide) (hts _ fl_X9_103) (fun _ h9 => h9) rfl dX9_close_33 ?_
          refine lv_bipush (v := 9) hx hb dX9_close_36 (by decide) ?_
          refine va_iast (t0 := 0) hx hb hK hP hD hS 1 (ha := rfl) (ht := rfl) (I_in (by omega) (by omega)) dX9_close_38 (fun H locs hP hD hS => ?_)
          have hP : va_P (dC, dI) vwCl [(m0, .inr (8, [.int mth, .int mst, .ref mp, .int mln, .ref mk, .int mts, .ref mti, .ref mtw, .ref mi, .int mmn, .ref mpo, .int mpd_5, .ref mpi, .int mpl_5, .int mcp, .ref mre, .ref mnn, .ref mwo, .ref mga, .ref mlo, .ref mro, .ref mle, .ref mra, .int mme, .ref mha, .int mch, .int mtm, .int mgo, .int mwa, .ref mba, .int mbl, .ref mon])), (mpo, .inl (cI, 12, .inl (upd mpof_5 mpd_5.toNatClampNeg 9))), (mpi, .inl (cI, 26, .inl mpif))] H := hP
          have hD : va_D A [(m0, .inr (8, [.int mth, .int mst, .ref mp, .int mln, .ref mk, .int mts, .ref mti, .ref mtw, .ref mi, .int mmn, .ref mpo, .int mpd_5, .ref mpi, .int mpl_5, .int mcp, .ref mre, .ref mnn, .ref mwo, .ref mga, .ref mlo, .ref mro, .ref mle, .ref mra, .int mme, .ref mha, .int mch, .int mtm, .int mgo, .int mwa, .ref mba, .int mbl, .ref mon])), (mpo, .inl (cI, 12, .inl (upd mpof_5 mpd_5.toNatClampNeg 9))), (mpi, .inl (cI, 26, .inl mpif))] := hD
          generalize ef19 : upd mpof_5 mpd_5.toNatClampNeg 9 = f19 at hP hD
          refine lv_aload_n hx hb dX9_close_39 rfl (lv_at hl 0 rfl) ?_
          refine lv_dup hx hb dX9_close_40 rfl ?_
          refine va_get (D := (dC, dI)) (ci := 8) (v := .int mpd_5) (C := RX9) (T := TX9) (N := 32) hx hb hts inG_X9 hown hK hP 0 rfl rfl 11 (by decide) (hts _ fl_X9_103) (fun _ h9 => h9) rfl dX9_close_41 ?_
          refine lv_iconst (v := 1) hx hb dX9_close_44 (by decide) ?_
          refine lv_iadd hx hb dX9_close_45 ?_
          refine lv_topi (fun v20 ev20 => ?_)
          try have hv20 : v20.toInt = mpd_5.toInt + (1 : Int32).toInt := I_addx ev20 (by omega)
          refine va_put (D := (dC, dI)) (ci := 8) (v := .int v20) (ty := .int) (C := RX9) (T := TX9) (N := 32) hx hb hts inG_X9 tyX9 tyX9_ok nmX9 hown hK hP hD hS 0 rfl rfl 11 (by decide) (hts _ fl_X9_103) (fun _ h9 => h9) rfl (by decide +kernel) rfl rfl (Nat.le_of_ble_eq_true rfl) dX9_close_46 (fun H locs hP hD hS => ?_)
          have hP : va_P (dC, dI) vwCl [(m0, .inr (8, [.int mth, .int mst, .ref mp, .int mln, .ref mk, .int mts, .ref mti, .ref mtw, .ref mi, .int mmn, .ref mpo, .int v20, .ref mpi, .int mpl_5, .int mcp, .ref mre, .ref mnn, .ref mwo, .ref mga, .ref mlo, .ref mro, .ref mle, .ref mra, .int mme, .ref mha, .int mch, .int mtm, .int mgo, .int mwa, .ref mba, .int mbl, .ref mon])), (mpo, .inl (cI, 12, .inl f19)), (mpi, .inl (cI, 26, .inl mpif))] H := hP
          have hD : va_D A [(m0, .inr (8, [.int mth, .int mst, .ref mp, .int mln, .ref mk, .int mts, .ref mti, .ref mtw, .ref mi, .int mmn, .ref mpo, .int v20, .ref mpi, .int mpl_5, .int mcp, .ref mre, .ref mnn, .ref mwo, .ref mga, .ref mlo, .ref mro, .ref mle, .ref mra, .int mme, .ref mha, .int mch, .int mtm, .int mgo, .int mwa, .ref mba, .int mbl, .ref mon])), (mpo, .inl (cI, 12, .inl f19)), (mpi, .inl (cI, 26, .inl mpif))] := hD
          refine lv_aload_n hx hb dX9_close_49 rfl (lv_at hl 0 rfl) ?_
          refine lv_dup hx hb dX9_close_50 rfl ?_
          refine va_get (D := (dC, dI)) (ci := 8) (v := .int mpl_5) (C := RX9) (T := TX9) (N := 32) hx hb hts inG_X9 hown hK hP 0 rfl rfl 13 (by decide) (hts _ fl_X9_94) (fun _ h9 => h9) rfl dX9_close_51 ?_
          refine lv_iconst (v := 2) hx hb dX9_close_54 (by decide) ?_
          refine lv_isub hx hb dX9_close_55 ?_
          refine lv_topi (fun v21 ev21 => ?_)
          try have hv21 : v21.toInt = mpl_5.toInt - (2 : Int32).toInt := I_subx ev21 (by omega)
          refine va_put (D := (dC, dI)) (ci := 8) (v := .int v21) (ty := .int) (C := RX9) (T := TX9) (N := 32) hx hb hts inG_X9 tyX9 tyX9_ok nmX9 hown hK hP hD hS 0 rfl rfl 13 (by decide) (hts _ fl_X9_94) (fun _ h9 => h9) rfl (by decide +kernel) rfl rfl (Nat.le_of_ble_eq_true rfl) dX9_close_56 (fun H locs hP hD hS => ?_)
          have hP : va_P (dC, dI) vwCl [(m0, .inr (8, [.int mth, .int mst, .ref mp, .int mln, .ref mk, .int mts, .ref mti, .ref mtw, .ref mi, .int mmn, .ref mpo, .int v20, .ref mpi, .int v21, .int mcp, .ref mre, .ref mnn, .ref mwo, .ref mga, .ref mlo, .ref mro, .ref mle, .ref mra, .int mme, .ref mha, .int mch, .int mtm, .int mgo, .int mwa, .ref mba, .int mbl, .ref mon])), (mpo, .inl (cI, 12, .inl f19)), (mpi, .inl (cI, 26, .inl mpif))] H := hP
          have hD : va_D A [(m0, .inr (8, [.int mth, .int mst, .ref mp, .int mln, .ref mk, .int mts, .ref mti, .ref mtw, .ref mi, .int mmn, .ref mpo, .int v20, .ref mpi, .int v21, .int mcp, .ref mre, .ref mnn, .ref mwo, .ref mga, .ref mlo, .ref mro, .ref mle, .ref mra, .int mme, .ref mha, .int mch, .int mtm, .int mgo, .int mwa, .ref mba, .int mbl, .ref mon])), (mpo, .inl (cI, 12, .inl f19)), (mpi, .inl (cI, 26, .inl mpif))] := hD
          refine lv_aload_n hx hb dX9_close_59 rfl (lv_at hl 0 rfl) ?_
          refine lv_iconst (v := 1) hx hb dX9_close_60 (by decide) ?_
          have hrd2 := RD_popE (pd2 := v20) (pl2 := v21) hi0_5 (by omega) (i := v13) (x := v14) (by omega) ev14 (by omega) (by omega) (by omega) ef19 (by omega)
          have hff2 : ∀ w : Int, FF mpif mpl.toInt w → FF mpif v21.toInt w := fun w h => FF_else (x := v14) (hi1_5 w h) (top_at ev14 (by omega)) (by omega) (by omega)
          have hrdb2 := RD_b hrd2
          refine calV (rest := []) (wr := []) hG (c_X9_settle l dC dI cI cJ base bB bO m0 mth mst mp mln mk mts mti mtw mi mmn mpo v20 mpi v21 mcp mre mnn mwo mga mlo mro mle mra mme mha mch mtm mgo mwa mba mbl mon f19 mpif 1 K (by first | assumption | omega) (by first | assumption | omega) (by first | assumption | omega)) ml_X9_110 im_X9_settle se_X9_settle ini_X9 cd_X9_settle hd_X9_settle ⟨(Nat.le_of_ble_eq_true rfl), (Nat.le_of_ble_eq_true rfl)⟩ (Nat.le_of_ble_eq_true rfl) (Nat.le_of_ble_eq_true rfl) hP hD hS [0, 1, 2] [] rfl rfl rfl rfl (by decide) 8 0 rfl rfl hl.1 rfl (Nat.le_of_ble_eq_true rfl) dX9_close_61 (fun u H locs hw22 hP hD hS => ?_)
          obtain ⟨mpd_23, mpl_24, mpof_25⟩ := u
          have hw22 : (RD mpof_25 mpif mpd_23 mpl_24 1 K) ∧ (mpl_24.toInt ≤ v21.toInt) ∧ (mpl_24.toInt = 0 ∨ 1 < (1 : Int32).toInt ∨ isFr (mpif (mpl_24.toInt - 1).toNat).toInt) ∧ (∀ w : Int, FF mpif v21.toInt w → FF mpif mpl_24.toInt w) ∧ True := hw22
          obtain ⟨hp26, hp27, hp28, hp29, -⟩ := hw22
          have hP : va_P (dC, dI) vwCl [(m0, .inr (8, [.int mth, .int mst, .ref mp, .int mln, .ref mk, .int mts, .ref mti, .ref mtw, .ref mi, .int mmn, .ref mpo, .int mpd_23, .ref mpi, .int mpl_24, .int mcp, .ref mre, .ref mnn, .ref mwo, .ref mga, .ref mlo, .ref mro, .ref mle, .ref mra, .int mme, .ref mha, .int mch, .int mtm, .int mgo, .int mwa, .ref mba, .int mbl, .ref mon])), (mpo, .inl (cI, 12, .inl mpof_25)), (mpi, .inl (cI, 26, .inl mpif))] H := hP
          have hD : va_D A [(m0, .inr (8, [.int mth, .int mst, .ref mp, .int mln, .ref mk, .int mts, .ref mti, .ref mtw, .ref mi, .int mmn, .ref mpo, .int mpd_23, .ref mpi, .int mpl_24, .int mcp, .ref mre, .ref mnn, .ref mwo, .ref mga, .ref mlo, .ref mro, .ref mle, .ref mra, .int mme, .ref mha, .int mch, .int mtm, .int mgo, .int mwa, .ref mba, .int mbl, .ref mon])), (mpo, .inl (cI, 12, .inl mpof_25)), (mpi, .inl (cI, 26, .inl mpif))] := hD
          have hz2 : mpl_24.toInt = 0 ∨ isFr (mpif (mpl_24.toInt - 1).toNat).toInt := by rcases hp28 with h | h | h; exact Or.inl h; exact absurd h (by omega); exact Or.inr h
          have hzb := RD_b hp26
          have hff3 : ∀ w : Int, FF mpif mpl.toInt w → FF mpif mpl_24.toInt w := fun w h => hp29 w (hff2 w h)
          refine lv_goto (tgt := 5) hx hb dX9_close_64 (by decide) ?_
          exact ih5 mpd_23 mpl_24 mpof_25 (by first | assumption | omega) (by first | assumption | omega) (by first | assumption | omega) (by first | assumption | omega) (by omega) H locs ls hP hD hS hl
  exact J5 ((mpl_3.toInt).toNat + 1) mpd_2 mpl_3 mpof_4 (by first | assumption | omega) (by first | assumption | omega) (by first | assumption | omega) (by first | assumption | omega) (by omega) H locs ls hP hD hS hl
set_option maxHeartbeats 4000000 in
set_option maxRecDepth 100000 in
theorem c_X9_ahead (l : Launch) (dC : Nat → ClassId) (dI : Nat → Nat → Nat) (cI cJ : ClassId) (base bB bO : Nat) (m0 : Nat) (mth : Int32) (mst : Int32) (mp : Nat) (mln : Int32) (mk : Nat) (mts : Int32) (mti : Nat) (mtw : Nat) (mi : Nat) (mmn : Int32) (mpo : Nat) (mpd : Int32) (mpi : Nat) (mpl : Int32) (mcp : Int32) (mre : Nat) (mnn : Nat) (mwo : Nat) (mga : Nat) (mlo : Nat) (mro : Nat) (mle : Nat) (mra : Nat) (mme : Int32) (mha : Nat) (mch : Int32) (mtm : Int32) (mgo : Int32) (mwa : Int32) (mba : Nat) (mbl : Int32) (mon : Nat) (mpof : Nat → Int32) (mpif : Nat → Int32) (x : Int32) (y : Int32) (K : Int) (hRD : RD mpof mpif mpd mpl 0 K) (hq1 : K ≤ 11) (hq2 : mcp.toInt = 0 ∨ mcp.toInt = 1) : CtI l dC dI cI cJ base bB bO yX9_ahead cX9_ahead 3 .int 1 21 [.ref m0, .int x, .int y] [(m0, .inr (8, [.int mth, .int mst, .ref mp, .int mln, .ref mk, .int mts, .ref mti, .ref mtw, .ref mi, .int mmn, .ref mpo, .int mpd, .ref mpi, .int mpl, .int mcp, .ref mre, .ref mnn, .ref mwo, .ref mga, .ref mlo, .ref mro, .ref mle, .ref mra, .int mme, .ref mha, .int mch, .int mtm, .int mgo, .int mwa, .ref mba, .int mbl, .ref mon])), (mpo, .inl (cI, 12, .inl mpof)), (mpi, .inl (cI, 26, .inl mpif))] ((Int32) × (Int32) × (Int32) × (Nat → Int32) × (Nat → Int32)) (fun (res : Int32) (u : (Int32) × (Int32) × (Int32) × (Nat → Int32) × (Nat → Int32)) => ((res.toInt = 3 ∧ RD u.2.2.2.1 u.2.2.2.2 u.1 u.2.1 1 (K + 1)) ∨ ((0 ≤ res.toInt ∧ res.toInt < 3) ∧ RD u.2.2.2.1 u.2.2.2.2 u.1 u.2.1 0 (K + 1)) ∨ res.toInt < 0) ∧ (u.2.2.1.toInt = 0 ∨ u.2.2.1.toInt = 1) ∧ True) (fun (u : (Int32) × (Int32) × (Int32) × (Nat → Int32) × (Nat → Int32)) => [(m0, .inr (8, [.int mth, .int mst, .ref mp, .int mln, .ref mk, .int mts, .ref mti, .ref mtw, .ref mi, .int mmn, .ref mpo, .int u.1, .ref mpi, .int u.2.1, .int u.2.2.1, .ref mre, .ref mnn, .ref mwo, .ref mga, .ref mlo, .ref mro, .ref mle, .ref mra, .int mme, .ref mha, .int mch, .int mtm, .int mgo, .int mwa, .ref mba, .int mbl, .ref mon])), (mpo, .inl (cI, 12, .inl u.2.2.2.1)), (mpi, .inl (cI, 26, .inl u.2.2.2.2))]) := by
  refine entI (by decide) (Nat.le_of_ble_eq_true rfl) ?_
  intro p e s m below meth c A Q ls hAt hret hP hD hS hl
  obtain ⟨hx, hb, hml, hown, hts, hA, hAb, hK, hE, hlocks, hin⟩ := hAt
  have hG : CG dC dI cI cJ base bB bO cX9_ahead 3 RX9 p s m (List.toArray [.ref m0, .int x, .int y]) c A := ⟨hx, hb, hml, hown, hts, hA, hAb, hK, hE⟩
  have hl : lv_has ls 3 [(0, .ref m0), (1, .int x), (2, .int y)] := hl
  have c_m1 : (-1 : Int32).toInt = -1 := by decide
  have c_0 : (0 : Int32).toInt = 0 := by decide
  have c_1 : (1 : Int32).toInt = 1 := by decide
  have c_2 : (2 : Int32).toInt = 2 := by decide
  have c_3 : (3 : Int32).toInt = 3 := by decide
  have c_8 : (8 : Int32).toInt = 8 := by decide
  have c_9 : (9 : Int32).toInt = 9 := by decide
  have c_12 : (12 : Int32).toInt = 12 := by decide
  obtain ⟨H, hHe⟩ : ∃ H : Heap, H = s.heap := ⟨_, rfl⟩
  obtain ⟨locs, hle⟩ : ∃ z : List Loc, z = [] := ⟨_, rfl⟩
  rw [← hHe] at hP
  have hS : va_S A s.heap H locs := by rw [hHe, hle]; exact hS
  suffices hgo : W p l e { frames := 1, cells := 0, slots := 0, locals := 21 } s m (List.toArray [.ref m0, .int x, .int y]) below meth c H locs 0 0 Q (F0 m 0 ls []) by rw [hHe, hle] at hgo; exact hgo
  have hrb := RD_b hRD
  refine lv_iload_n hx hb dX9_ahead_0 rfl (lv_at hl 1 rfl) ?_
  refine lv_bipush (v := 12) hx hb dX9_ahead_1 (by decide) ?_
  refine lv_icmp_lt (tgt := 28) hx hb dX9_ahead_3 (by decide) (fun c1 => ?_) (fun c1 => ?_)
  · have c1' := I_lt c1
    refine lv_iload_n hx hb dX9_ahead_28 rfl (lv_at hl 1 rfl) ?_
    refine lv_if_ne (tgt := 39) hx hb dX9_ahead_29 (by decide) (fun c2 => ?_) (fun c2 => ?_)
    · have c2' := I_ne c2
      refine lv_iload_n hx hb dX9_ahead_39 rfl (lv_at hl 1 rfl) ?_
      refine lv_bipush (v := 8) hx hb dX9_ahead_40 (by decide) ?_
      refine lv_icmp_ne (tgt := 73) hx hb dX9_ahead_42 (by decide) (fun c3 => ?_) (fun c3 => ?_)
      · have c3' := I_ne c3
        refine lv_iload_n hx hb dX9_ahead_73 rfl (lv_at hl 1 rfl) ?_
        refine lv_bipush (v := 9) hx hb dX9_ahead_74 (by decide) ?_
        refine lv_icmp_ne (tgt := 91) hx hb dX9_ahead_76 (by decide) (fun c4 => ?_) (fun c4 => ?_)
        · have c4' := I_ne c4
          refine lv_iconst (v := (-1)) hx hb dX9_ahead_91 (by decide) ?_
          exact hret (-1) (mpd, mpl, mcp, mpof, mpif) H locs 92 ls rfl ⟨(show ((-1 : Int32).toInt = 3 ∧ RD mpof mpif mpd mpl 1 (K + 1)) ∨ ((0 ≤ (-1 : Int32).toInt ∧ (-1 : Int32).toInt < 3) ∧ RD mpof mpif mpd mpl 0 (K + 1)) ∨ (-1 : Int32).toInt < 0 from by exact Or.inr (Or.inr (by omega))), (show mcp.toInt = 0 ∨ mcp.toInt = 1 from by first | rfl | assumption | omega), trivial⟩ hP hD hS dX9_ahead_92
        · have c4' := I_eq c4
          refine lv_iload_n hx hb dX9_ahead_79 rfl (lv_at hl 2 rfl) ?_
          refine lv_if_ne (tgt := 91) hx hb dX9_ahead_80 (by decide) (fun c5 => ?_) (fun c5 => ?_)
          · have c5' := I_ne c5
            refine lv_iconst (v := (-1)) hx hb dX9_ahead_91 (by decide) ?_
            exact hret (-1) (mpd, mpl, mcp, mpof, mpif) H locs 92 ls rfl ⟨(show ((-1 : Int32).toInt = 3 ∧ RD mpof mpif mpd mpl 1 (K + 1)) ∨ ((0 ≤ (-1 : Int32).toInt ∧ (-1 : Int32).toInt < 3) ∧ RD mpof mpif mpd mpl 0 (K + 1)) ∨ (-1 : Int32).toInt < 0 from by exact Or.inr (Or.inr (by omega))), (show mcp.toInt = 0 ∨ mcp.toInt = 1 from by first | rfl | assumption | omega), trivial⟩ hP hD hS dX9_ahead_92
          · have c5' := I_eq c5
            refine lv_aload_n hx hb dX9_ahead_83 rfl (lv_at hl 0 rfl) ?_
            refine lv_bipush (v := 9) hx hb dX9_ahead_84 (by decide) ?_
            refine calV (rest := []) (wr := []) hG (c_X9_frame l dC dI cI cJ base bB bO m0 mth mst mp mln mk mts mti mtw mi mmn mpo mpd mpi mpl mcp mre mnn mwo mga mlo mro mle mra mme mha mch mtm mgo mwa mba mbl mon mpof mpif 9 K (by first | assumption | omega) (by first | assumption | omega) (by first | assumption | omega) (by first | assumption | omega)) ml_X9_128 im_X9_frame se_X9_frame ini_X9 cd_X9_frame hd_X9_frame ⟨(Nat.le_of_ble_eq_true rfl), (Nat.le_of_ble_eq_true rfl)⟩ (Nat.le_of_ble_eq_true rfl) (Nat.le_of_ble_eq_true rfl) hP hD hS [0, 1, 2] [] rfl rfl rfl rfl (by decide) 8 0 rfl rfl hl.1 rfl (Nat.le_of_ble_eq_true rfl) dX9_ahead_86 (fun u H locs hw6 hP hD hS => ?_)
            obtain ⟨mpl_7, mcp_8, mpif_9⟩ := u
            have hw6 : (RD mpof mpif_9 mpd mpl_7 0 (K + 1)) ∧ (mcp_8.toInt = 0 ∨ mcp_8.toInt = 1) ∧ True := hw6
            obtain ⟨hp10, hp11, -⟩ := hw6
            have hP : va_P (dC, dI) vwCl [(m0, .inr (8, [.int mth, .int mst, .ref mp, .int mln, .ref mk, .int mts, .ref mti, .ref mtw, .ref mi, .int mmn, .ref mpo, .int mpd, .ref mpi, .int mpl_7, .int mcp_8, .ref mre, .ref mnn, .ref mwo, .ref mga, .ref mlo, .ref mro, .ref mle, .ref mra, .int mme, .ref mha, .int mch, .int mtm, .int mgo, .int mwa, .ref mba, .int mbl, .ref mon])), (mpo, .inl (cI, 12, .inl mpof)), (mpi, .inl (cI, 26, .inl mpif_9))] H := hP
            have hD : va_D A [(m0, .inr (8, [.int mth, .int mst, .ref mp, .int mln, .ref mk, .int mts, .ref mti, .ref mtw, .ref mi, .int mmn, .ref mpo, .int mpd, .ref mpi, .int mpl_7, .int mcp_8, .ref mre, .ref mnn, .ref mwo, .ref mga, .ref mlo, .ref mro, .ref mle, .ref mra, .int mme, .ref mha, .int mch, .int mtm, .int mgo, .int mwa, .ref mba, .int mbl, .ref mon])), (mpo, .inl (cI, 12, .inl mpof)), (mpi, .inl (cI, 26, .inl mpif_9))] := hD
            have hfr := hp10
            refine lv_iconst (v := 0) hx hb dX9_ahead_89 (by decide) ?_
            exact hret 0 (mpd, mpl_7, mcp_8, mpof, mpif_9) H locs 90 ls rfl ⟨(show ((0 : Int32).toInt = 3 ∧ RD mpof mpif_9 mpd mpl_7 1 (K + 1)) ∨ ((0 ≤ (0 : Int32).toInt ∧ (0 : Int32).toInt < 3) ∧ RD mpof mpif_9 mpd mpl_7 0 (K + 1)) ∨ (0 : Int32).toInt < 0 from by exact Or.inr (Or.inl ⟨by omega, hfr⟩)), (show mcp_8.toInt = 0 ∨ mcp_8.toInt = 1 from by first | rfl | assumption | omega), trivial⟩ hP hD hS dX9_ahead_90
      · have c3' := I_eq c3
        refine lv_iload_n hx hb dX9_ahead_45 rfl (lv_at hl 2 rfl) ?_
        refine lv_iconst (v := 2) hx hb dX9_ahead_46 (by decide) ?_
        refine lv_icmp_eq (tgt := 73) hx hb dX9_ahead_47 (by decide) (fun c12 => ?_) (fun c12 => ?_)
        · have c12' := I_eq c12
          refine lv_iload_n hx hb dX9_ahead_73 rfl (lv_at hl 1 rfl) ?_
          refine lv_bipush (v := 9) hx hb dX9_ahead_74 (by decide) ?_
          refine lv_icmp_ne (tgt := 91) hx hb dX9_ahead_76 (by decide) (fun c13 => ?_) (fun c13 => ?_)
          · have c13' := I_ne c13
            refine lv_iconst (v := (-1)) hx hb dX9_ahead_91 (by decide) ?_
            exact hret (-1) (mpd, mpl, mcp, mpof, mpif) H locs 92 ls rfl ⟨(show ((-1 : Int32).toInt = 3 ∧ RD mpof mpif mpd mpl 1 (K + 1)) ∨ ((0 ≤ (-1 : Int32).toInt ∧ (-1 : Int32).toInt < 3) ∧ RD mpof mpif mpd mpl 0 (K + 1)) ∨ (-1 : Int32).toInt < 0 from by exact Or.inr (Or.inr (by omega))), (show mcp.toInt = 0 ∨ mcp.toInt = 1 from by first | rfl | assumption | omega), trivial⟩ hP hD hS dX9_ahead_92
          · have c13' := I_eq c13
            refine lv_iload_n hx hb dX9_ahead_79 rfl (lv_at hl 2 rfl) ?_
            refine lv_if_ne (tgt := 91) hx hb dX9_ahead_80 (by decide) (fun c14 => ?_) (fun c14 => ?_)
            · have c14' := I_ne c14
              refine lv_iconst (v := (-1)) hx hb dX9_ahead_91 (by decide) ?_
              exact hret (-1) (mpd, mpl, mcp, mpof, mpif) H locs 92 ls rfl ⟨(show ((-1 : Int32).toInt = 3 ∧ RD mpof mpif mpd mpl 1 (K + 1)) ∨ ((0 ≤ (-1 : Int32).toInt ∧ (-1 : Int32).toInt < 3) ∧ RD mpof mpif mpd mpl 0 (K + 1)) ∨ (-1 : Int32).toInt < 0 from by exact Or.inr (Or.inr (by omega))), (show mcp.toInt = 0 ∨ mcp.toInt = 1 from by first | rfl | assumption | omega), trivial⟩ hP hD hS dX9_ahead_92
            · have c14' := I_eq c14
              refine lv_aload_n hx hb dX9_ahead_83 rfl (lv_at hl 0 rfl) ?_
              refine lv_bipush (v := 9) hx hb dX9_ahead_84 (by decide) ?_
              refine calV (rest := []) (wr := []) hG (c_X9_frame l dC dI cI cJ base bB bO m0 mth mst mp mln mk mts mti mtw mi mmn mpo mpd mpi mpl mcp mre mnn mwo mga mlo mro mle mra mme mha mch mtm mgo mwa mba mbl mon mpof mpif 9 K (by first | assumption | omega) (by first | assumption | omega) (by first | assumption | omega) (by first | assumption | omega)) ml_X9_128 im_X9_frame se_X9_frame ini_X9 cd_X9_frame hd_X9_frame ⟨(Nat.le_of_ble_eq_true rfl), (Nat.le_of_ble_eq_true rfl)⟩ (Nat.le_of_ble_eq_true rfl) (Nat.le_of_ble_eq_true rfl) hP hD hS [0, 1, 2] [] rfl rfl rfl rfl (by decide) 8 0 rfl rfl hl.1 rfl (Nat.le_of_ble_eq_true rfl) dX9_ahead_86 (fun u H locs hw15 hP hD hS => ?_)
              obtain ⟨mpl_16, mcp_17, mpif_18⟩ := u
              have hw15 : (RD mpof mpif_18 mpd mpl_16 0 (K + 1)) ∧ (mcp_17.toInt = 0 ∨ mcp_17.toInt = 1) ∧ True := hw15
              obtain ⟨hp19, hp20, -⟩ := hw15
              have hP : va_P (dC, dI) vwCl [(m0, .inr (8, [.int mth, .int mst, .ref mp, .int mln, .ref mk, .int mts, .ref mti, .ref mtw, .ref mi, .int mmn, .ref mpo, .int mpd, .ref mpi, .int mpl_16, .int mcp_17, .ref mre, .ref mnn, .ref mwo, .ref mga, .ref mlo, .ref mro, .ref mle, .ref mra, .int mme, .ref mha, .int mch, .int mtm, .int mgo, .int mwa, .ref mba, .int mbl, .ref mon])), (mpo, .inl (cI, 12, .inl mpof)), (mpi, .inl (cI, 26, .inl mpif_18))] H := hP
              have hD : va_D A [(m0, .inr (8, [.int mth, .int mst, .ref mp, .int mln, .ref mk, .int mts, .ref mti, .ref mtw, .ref mi, .int mmn, .ref mpo, .int mpd, .ref mpi, .int mpl_16, .int mcp_17, .ref mre, .ref mnn, .ref mwo, .ref mga, .ref mlo, .ref mro, .ref mle, .ref mra, .int mme, .ref mha, .int mch, .int mtm, .int mgo, .int mwa, .ref mba, .int mbl, .ref mon])), (mpo, .inl (cI, 12, .inl mpof)), (mpi, .inl (cI, 26, .inl mpif_18))] := hD
              have hfr := hp19
              refine lv_iconst (v := 0) hx hb dX9_ahead_89 (by decide) ?_
              exact hret 0 (mpd, mpl_16, mcp_17, mpof, mpif_18) H locs 90 ls rfl ⟨(show ((0 : Int32).toInt = 3 ∧ RD mpof mpif_18 mpd mpl_16 1 (K + 1)) ∨ ((0 ≤ (0 : Int32).toInt ∧ (0 : Int32).toInt < 3) ∧ RD mpof mpif_18 mpd mpl_16 0 (K + 1)) ∨ (0 : Int32).toInt < 0 from by exact Or.inr (Or.inl ⟨by omega, hfr⟩)), (show mcp_17.toInt = 0 ∨ mcp_17.toInt = 1 from by first | rfl | assumption | omega), trivial⟩ hP hD hS dX9_ahead_90
        · have c12' := I_ne c12
          refine lv_aload_n hx hb dX9_ahead_50 rfl (lv_at hl 0 rfl) ?_
          refine va_get (D := (dC, dI)) (ci := 8) (v := .ref mpi) (C := RX9) (T := TX9) (N := 32) hx hb hts inG_X9 hown hK hP 0 rfl rfl 12 (by decide) (hts _ fl_X9_28) (fun _ h9 => h9) rfl dX9_ahead_51 ?_
          refine lv_aload_n hx hb dX9_ahead_54 rfl (lv_at hl 0 rfl) ?_
          refine va_get (D := (dC, dI)) (ci := 8) (v := .int mpl) (C := RX9) (T := TX9) (N := 32) hx hb hts inG_X9 hown hK hP 0 rfl rfl 13 (by decide) (hts _ fl_X9_94) (fun _ h9 => h9) rfl dX9_ahead_55 ?_
          refine lv_bipush (v := 8) hx hb dX9_ahead_58 (by decide) ?_
          refine va_iast (t0 := 0) hx hb hK hP hD hS 2 (ha := rfl) (ht := rfl) (I_in (by omega) (by omega)) dX9_ahead_60 (fun H locs hP hD hS => ?_)
          have hP : va_P (dC, dI) vwCl [(m0, .inr (8, [.int mth, .int mst, .ref mp, .int mln, .ref mk, .int mts, .ref mti, .ref mtw, .ref mi, .int mmn, .ref mpo, .int mpd, .ref mpi, .int mpl, .int mcp, .ref mre, .ref mnn, .ref mwo, .ref mga, .ref mlo, .ref mro, .ref mle, .ref mra, .int mme, .ref mha, .int mch, .int mtm, .int mgo, .int mwa, .ref mba, .int mbl, .ref mon])), (mpo, .inl (cI, 12, .inl mpof)), (mpi, .inl (cI, 26, .inl (upd mpif mpl.toNatClampNeg 8)))] H := hP
          have hD : va_D A [(m0, .inr (8, [.int mth, .int mst, .ref mp, .int mln, .ref mk, .int mts, .ref mti, .ref mtw, .ref mi, .int mmn, .ref mpo, .int mpd, .ref mpi, .int mpl, .int mcp, .ref mre, .ref mnn, .ref mwo, .ref mga, .ref mlo, .ref mro, .ref mle, .ref mra, .int mme, .ref mha, .int mch, .int mtm, .int mgo, .int mwa, .ref mba, .int mbl, .ref mon])), (mpo, .inl (cI, 12, .inl mpof)), (mpi, .inl (cI, 26, .inl (upd mpif mpl.toNatClampNeg 8)))] := hD
          generalize ef21 : upd mpif mpl.toNatClampNeg 8 = f21 at hP hD
          refine lv_aload_n hx hb dX9_ahead_61 rfl (lv_at hl 0 rfl) ?_
          refine lv_dup hx hb dX9_ahead_62 rfl ?_
          refine va_get (D := (dC, dI)) (ci := 8) (v := .int mpl) (C := RX9) (T := TX9) (N := 32) hx hb hts inG_X9 hown hK hP 0 rfl rfl 13 (by decide) (hts _ fl_X9_94) (fun _ h9 => h9) rfl dX9_ahead_63 ?_
          refine lv_iconst (v := 1) hx hb dX9_ahead_66 (by decide) ?_
          refine lv_iadd hx hb dX9_ahead_67 ?_
          refine lv_topi (fun v22 ev22 => ?_)
          try have hv22 : v22.toInt = mpl.toInt + (1 : Int32).toInt := I_addx ev22 (by omega)
          refine va_put (D := (dC, dI)) (ci := 8) (v := .int v22) (ty := .int) (C := RX9) (T := TX9) (N := 32) hx hb hts inG_X9 tyX9 tyX9_ok nmX9 hown hK hP hD hS 0 rfl rfl 13 (by decide) (hts _ fl_X9_94) (fun _ h9 => h9) rfl (by decide +kernel) rfl rfl (Nat.le_of_ble_eq_true rfl) dX9_ahead_68 (fun H locs hP hD hS => ?_)
          have hP : va_P (dC, dI) vwCl [(m0, .inr (8, [.int mth, .int mst, .ref mp, .int mln, .ref mk, .int mts, .ref mti, .ref mtw, .ref mi, .int mmn, .ref mpo, .int mpd, .ref mpi, .int v22, .int mcp, .ref mre, .ref mnn, .ref mwo, .ref mga, .ref mlo, .ref mro, .ref mle, .ref mra, .int mme, .ref mha, .int mch, .int mtm, .int mgo, .int mwa, .ref mba, .int mbl, .ref mon])), (mpo, .inl (cI, 12, .inl mpof)), (mpi, .inl (cI, 26, .inl f21))] H := hP
          have hD : va_D A [(m0, .inr (8, [.int mth, .int mst, .ref mp, .int mln, .ref mk, .int mts, .ref mti, .ref mtw, .ref mi, .int mmn, .ref mpo, .int mpd, .ref mpi, .int v22, .int mcp, .ref mre, .ref mnn, .ref mwo, .ref mga, .ref mlo, .ref mro, .ref mle, .ref mra, .int mme, .ref mha, .int mch, .int mtm, .int mgo, .int mwa, .ref mba, .int mbl, .ref mon])), (mpo, .inl (cI, 12, .inl mpof)), (mpi, .inl (cI, 26, .inl f21))] := hD
          refine lv_iconst (v := 1) hx hb dX9_ahead_71 (by decide) ?_
          exact hret 1 (mpd, v22, mcp, mpof, f21) H locs 72 ls rfl ⟨(show ((1 : Int32).toInt = 3 ∧ RD mpof f21 mpd v22 1 (K + 1)) ∨ ((0 ≤ (1 : Int32).toInt ∧ (1 : Int32).toInt < 3) ∧ RD mpof f21 mpd v22 0 (K + 1)) ∨ (1 : Int32).toInt < 0 from by exact Or.inr (Or.inl ⟨by omega, RD_op hRD (by unfold isOp; omega) (by decide) (by omega) ef21⟩)), (show mcp.toInt = 0 ∨ mcp.toInt = 1 from by first | rfl | assumption | omega), trivial⟩ hP hD hS dX9_ahead_72
    · have c2' := I_eq c2
      refine lv_aload_n hx hb dX9_ahead_32 rfl (lv_at hl 0 rfl) ?_
      refine lv_iconst (v := 0) hx hb dX9_ahead_33 (by decide) ?_
      refine calV (rest := []) (wr := []) hG (c_X9_frame l dC dI cI cJ base bB bO m0 mth mst mp mln mk mts mti mtw mi mmn mpo mpd mpi mpl mcp mre mnn mwo mga mlo mro mle mra mme mha mch mtm mgo mwa mba mbl mon mpof mpif 0 K (by first | assumption | omega) (by first | assumption | omega) (by first | assumption | omega) (by first | assumption | omega)) ml_X9_128 im_X9_frame se_X9_frame ini_X9 cd_X9_frame hd_X9_frame ⟨(Nat.le_of_ble_eq_true rfl), (Nat.le_of_ble_eq_true rfl)⟩ (Nat.le_of_ble_eq_true rfl) (Nat.le_of_ble_eq_true rfl) hP hD hS [0, 1, 2] [] rfl rfl rfl rfl (by decide) 8 0 rfl rfl hl.1 rfl (Nat.le_of_ble_eq_true rfl) dX9_ahead_34 (fun u H locs hw23 hP hD hS => ?_)
      obtain ⟨mpl_24, mcp_25, mpif_26⟩ := u
      have hw23 : (RD mpof mpif_26 mpd mpl_24 0 (K + 1)) ∧ (mcp_25.toInt = 0 ∨ mcp_25.toInt = 1) ∧ True := hw23
      obtain ⟨hp27, hp28, -⟩ := hw23
      have hP : va_P (dC, dI) vwCl [(m0, .inr (8, [.int mth, .int mst, .ref mp, .int mln, .ref mk, .int mts, .ref mti, .ref mtw, .ref mi, .int mmn, .ref mpo, .int mpd, .ref mpi, .int mpl_24, .int mcp_25, .ref mre, .ref mnn, .ref mwo, .ref mga, .ref mlo, .ref mro, .ref mle, .ref mra, .int mme, .ref mha, .int mch, .int mtm, .int mgo, .int mwa, .ref mba, .int mbl, .ref mon])), (mpo, .inl (cI, 12, .inl mpof)), (mpi, .inl (cI, 26, .inl mpif_26))] H := hP
      have hD : va_D A [(m0, .inr (8, [.int mth, .int mst, .ref mp, .int mln, .ref mk, .int mts, .ref mti, .ref mtw, .ref mi, .int mmn, .ref mpo, .int mpd, .ref mpi, .int mpl_24, .int mcp_25, .ref mre, .ref mnn, .ref mwo, .ref mga, .ref mlo, .ref mro, .ref mle, .ref mra, .int mme, .ref mha, .int mch, .int mtm, .int mgo, .int mwa, .ref mba, .int mbl, .ref mon])), (mpo, .inl (cI, 12, .inl mpof)), (mpi, .inl (cI, 26, .inl mpif_26))] := hD
      have hfr := hp27
      refine lv_iconst (v := 0) hx hb dX9_ahead_37 (by decide) ?_
      exact hret 0 (mpd, mpl_24, mcp_25, mpof, mpif_26) H locs 38 ls rfl ⟨(show ((0 : Int32).toInt = 3 ∧ RD mpof mpif_26 mpd mpl_24 1 (K + 1)) ∨ ((0 ≤ (0 : Int32).toInt ∧ (0 : Int32).toInt < 3) ∧ RD mpof mpif_26 mpd mpl_24 0 (K + 1)) ∨ (0 : Int32).toInt < 0 from by exact Or.inr (Or.inl ⟨by omega, hfr⟩)), (show mcp_25.toInt = 0 ∨ mcp_25.toInt = 1 from by first | rfl | assumption | omega), trivial⟩ hP hD hS dX9_ahead_38
  · have c1' := I_nlt c1
    refine lv_aload_n hx hb dX9_ahead_6 rfl (lv_at hl 0 rfl) ?_
    refine va_get (D := (dC, dI)) (ci := 8) (v := .ref mpo) (C := RX9) (T := TX9) (N := 32) hx hb hts inG_X9 hown hK hP 0 rfl rfl 10 (by decide) (hts _ fl_X9_25) (fun _ h9 => h9) rfl dX9_ahead_7 ?_
    refine lv_aload_n hx hb dX9_ahead_10 rfl (lv_at hl 0 rfl) ?_
    refine va_get (D := (dC, dI)) (ci := 8) (v := .int mpd) (C := RX9) (T := TX9) (N := 32) hx hb hts inG_X9 hown hK hP 0 rfl rfl 11 (by decide) (hts _ fl_X9_103) (fun _ h9 => h9) rfl dX9_ahead_11 ?_
    refine lv_iload_n hx hb dX9_ahead_14 rfl (lv_at hl 1 rfl) ?_
    refine va_iast (t0 := 0) hx hb hK hP hD hS 1 (ha := rfl) (ht := rfl) (I_in (by omega) (by omega)) dX9_ahead_15 (fun H locs hP hD hS => ?_)
    have hP : va_P (dC, dI) vwCl [(m0, .inr (8, [.int mth, .int mst, .ref mp, .int mln, .ref mk, .int mts, .ref mti, .ref mtw, .ref mi, .int mmn, .ref mpo, .int mpd, .ref mpi, .int mpl, .int mcp, .ref mre, .ref mnn, .ref mwo, .ref mga, .ref mlo, .ref mro, .ref mle, .ref mra, .int mme, .ref mha, .int mch, .int mtm, .int mgo, .int mwa, .ref mba, .int mbl, .ref mon])), (mpo, .inl (cI, 12, .inl (upd mpof mpd.toNatClampNeg x))), (mpi, .inl (cI, 26, .inl mpif))] H := hP
    have hD : va_D A [(m0, .inr (8, [.int mth, .int mst, .ref mp, .int mln, .ref mk, .int mts, .ref mti, .ref mtw, .ref mi, .int mmn, .ref mpo, .int mpd, .ref mpi, .int mpl, .int mcp, .ref mre, .ref mnn, .ref mwo, .ref mga, .ref mlo, .ref mro, .ref mle, .ref mra, .int mme, .ref mha, .int mch, .int mtm, .int mgo, .int mwa, .ref mba, .int mbl, .ref mon])), (mpo, .inl (cI, 12, .inl (upd mpof mpd.toNatClampNeg x))), (mpi, .inl (cI, 26, .inl mpif))] := hD
    generalize ef29 : upd mpof mpd.toNatClampNeg x = f29 at hP hD
    refine lv_aload_n hx hb dX9_ahead_16 rfl (lv_at hl 0 rfl) ?_
    refine lv_dup hx hb dX9_ahead_17 rfl ?_
    refine va_get (D := (dC, dI)) (ci := 8) (v := .int mpd) (C := RX9) (T := TX9) (N := 32) hx hb hts inG_X9 hown hK hP 0 rfl rfl 11 (by decide) (hts _ fl_X9_103) (fun _ h9 => h9) rfl dX9_ahead_18 ?_
    refine lv_iconst (v := 1) hx hb dX9_ahead_21 (by decide) ?_
    refine lv_iadd hx hb dX9_ahead_22 ?_
    refine lv_topi (fun v30 ev30 => ?_)
    try have hv30 : v30.toInt = mpd.toInt + (1 : Int32).toInt := I_addx ev30 (by omega)
    refine va_put (D := (dC, dI)) (ci := 8) (v := .int v30) (ty := .int) (C := RX9) (T := TX9) (N := 32) hx hb hts inG_X9 tyX9 tyX9_ok nmX9 hown hK hP hD hS 0 rfl rfl 11 (by decide) (hts _ fl_X9_103) (fun _ h9 => h9) rfl (by decide +kernel) rfl rfl (Nat.le_of_ble_eq_true rfl) dX9_ahead_23 (fun H locs hP hD hS => ?_)
    have hP : va_P (dC, dI) vwCl [(m0, .inr (8, [.int mth, .int mst, .ref mp, .int mln, .ref mk, .int mts, .ref mti, .ref mtw, .ref mi, .int mmn, .ref mpo, .int v30, .ref mpi, .int mpl, .int mcp, .ref mre, .ref mnn, .ref mwo, .ref mga, .ref mlo, .ref mro, .ref mle, .ref mra, .int mme, .ref mha, .int mch, .int mtm, .int mgo, .int mwa, .ref mba, .int mbl, .ref mon])), (mpo, .inl (cI, 12, .inl f29)), (mpi, .inl (cI, 26, .inl mpif))] H := hP
    have hD : va_D A [(m0, .inr (8, [.int mth, .int mst, .ref mp, .int mln, .ref mk, .int mts, .ref mti, .ref mtw, .ref mi, .int mmn, .ref mpo, .int v30, .ref mpi, .int mpl, .int mcp, .ref mre, .ref mnn, .ref mwo, .ref mga, .ref mlo, .ref mro, .ref mle, .ref mra, .int mme, .ref mha, .int mch, .int mtm, .int mgo, .int mwa, .ref mba, .int mbl, .ref mon])), (mpo, .inl (cI, 12, .inl f29)), (mpi, .inl (cI, 26, .inl mpif))] := hD
    refine lv_iconst (v := 3) hx hb dX9_ahead_26 (by decide) ?_
    exact hret 3 (v30, mpl, mcp, f29, mpif) H locs 27 ls rfl ⟨(show ((3 : Int32).toInt = 3 ∧ RD f29 mpif v30 mpl 1 (K + 1)) ∨ ((0 ≤ (3 : Int32).toInt ∧ (3 : Int32).toInt < 3) ∧ RD f29 mpif v30 mpl 0 (K + 1)) ∨ (3 : Int32).toInt < 0 from by exact Or.inl ⟨by omega, RD_opnd hRD (by omega) (by omega) ef29⟩), (show mcp.toInt = 0 ∨ mcp.toInt = 1 from by first | rfl | assumption | omega), trivial⟩ hP hD hS dX9_ahead_27
set_option maxHeartbeats 4000000 in
set_option maxRecDepth 100000 in
theorem c_X9_hasFrame (l : Launch) (dC : Nat → ClassId) (dI : Nat → Nat → Nat) (cI cJ : ClassId) (base bB bO : Nat) (m0 : Nat) (mth : Int32) (mst : Int32) (mp : Nat) (mln : Int32) (mk : Nat) (mts : Int32) (mti : Nat) (mtw : Nat) (mi : Nat) (mmn : Int32) (mpo : Nat) (mpd : Int32) (mpi : Nat) (mpl : Int32) (mcp : Int32) (mre : Nat) (mnn : Nat) (mwo : Nat) (mga : Nat) (mlo : Nat) (mro : Nat) (mle : Nat) (mra : Nat) (mme : Int32) (mha : Nat) (mch : Int32) (mtm : Int32) (mgo : Int32) (mwa : Int32) (mba : Nat) (mbl : Int32) (mon : Nat) (mpif : Nat → Int32) (x : Int32) (hq0 : PLx mpif mpl.toInt) (hq1 : 0 ≤ mpl.toInt ∧ mpl.toInt ≤ 24) : CtI l dC dI cI cJ base bB bO yX9_hasFrame cX9_hasFrame 3 .boolean 1 20 [.ref m0, .int x] [(m0, .inr (8, [.int mth, .int mst, .ref mp, .int mln, .ref mk, .int mts, .ref mti, .ref mtw, .ref mi, .int mmn, .ref mpo, .int mpd, .ref mpi, .int mpl, .int mcp, .ref mre, .ref mnn, .ref mwo, .ref mga, .ref mlo, .ref mro, .ref mle, .ref mra, .int mme, .ref mha, .int mch, .int mtm, .int mgo, .int mwa, .ref mba, .int mbl, .ref mon])), (mpi, .inl (cI, 26, .inl mpif))] (Unit) (fun (res : Int32) (u : Unit) => ((res.toInt = 1 ∧ FF mpif mpl.toInt x.toInt) ∨ res.toInt = 0) ∧ True) (fun (u : Unit) => [(m0, .inr (8, [.int mth, .int mst, .ref mp, .int mln, .ref mk, .int mts, .ref mti, .ref mtw, .ref mi, .int mmn, .ref mpo, .int mpd, .ref mpi, .int mpl, .int mcp, .ref mre, .ref mnn, .ref mwo, .ref mga, .ref mlo, .ref mro, .ref mle, .ref mra, .int mme, .ref mha, .int mch, .int mtm, .int mgo, .int mwa, .ref mba, .int mbl, .ref mon])), (mpi, .inl (cI, 26, .inl mpif))]) := by
  refine entI (by decide) (Nat.le_of_ble_eq_true rfl) ?_
  intro p e s m below meth c A Q ls hAt hret hP hD hS hl
  obtain ⟨hx, hb, hml, hown, hts, hA, hAb, hK, hE, hlocks, hin⟩ := hAt
  have hG : CG dC dI cI cJ base bB bO cX9_hasFrame 3 RX9 p s m (List.toArray [.ref m0, .int x]) c A := ⟨hx, hb, hml, hown, hts, hA, hAb, hK, hE⟩
  have hl : lv_has ls 3 [(0, .ref m0), (1, .int x)] := hl
  have c_0 : (0 : Int32).toInt = 0 := by decide
  have c_1 : (1 : Int32).toInt = 1 := by decide
  have c_2 : (2 : Int32).toInt = 2 := by decide
  have c_11 : (11 : Int32).toInt = 11 := by decide
  obtain ⟨H, hHe⟩ : ∃ H : Heap, H = s.heap := ⟨_, rfl⟩
  obtain ⟨locs, hle⟩ : ∃ z : List Loc, z = [] := ⟨_, rfl⟩
  rw [← hHe] at hP
  have hS : va_S A s.heap H locs := by rw [hHe, hle]; exact hS
  suffices hgo : W p l e { frames := 1, cells := 0, slots := 0, locals := 20 } s m (List.toArray [.ref m0, .int x]) below meth c H locs 0 0 Q (F0 m 0 ls []) by rw [hHe, hle] at hgo; exact hgo
  refine lv_aload_n hx hb dX9_hasFrame_0 rfl (lv_at hl 0 rfl) ?_
  refine va_get (D := (dC, dI)) (ci := 8) (v := .int mpl) (C := RX9) (T := TX9) (N := 32) hx hb hts inG_X9 hown hK hP 0 rfl rfl 13 (by decide) (hts _ fl_X9_94) (fun _ h9 => h9) rfl dX9_hasFrame_1 ?_
  refine lv_iconst (v := 1) hx hb dX9_hasFrame_4 (by decide) ?_
  refine lv_isub hx hb dX9_hasFrame_5 ?_
  refine lv_topi (fun v1 ev1 => ?_)
  try have hv1 : v1.toInt = mpl.toInt - (1 : Int32).toInt := I_subx ev1 (by omega)
  refine lv_istore_n (lv' := [(2, .int v1), (0, .ref m0), (1, .int x)]) hx hb dX9_hasFrame_6 rfl hl (by decide) rfl (fun ls hl => ?_)
  have J7 : ∀ (n : Nat) (L2_7 : Int32), (-1 ≤ L2_7.toInt ∧ L2_7.toInt ≤ 23) → (PLx mpif (L2_7.toInt + 1)) → (∀ w : Int, FF mpif (L2_7.toInt + 1) w → FF mpif mpl.toInt w) → (L2_7.toInt + 1) < (n : Int) → ∀ (H : Heap) (locs : List Loc) (ls : Array Slot), va_P (dC, dI) vwCl [(m0, .inr (8, [.int mth, .int mst, .ref mp, .int mln, .ref mk, .int mts, .ref mti, .ref mtw, .ref mi, .int mmn, .ref mpo, .int mpd, .ref mpi, .int mpl, .int mcp, .ref mre, .ref mnn, .ref mwo, .ref mga, .ref mlo, .ref mro, .ref mle, .ref mra, .int mme, .ref mha, .int mch, .int mtm, .int mgo, .int mwa, .ref mba, .int mbl, .ref mon])), (mpi, .inl (cI, 26, .inl mpif))] H → va_D A [(m0, .inr (8, [.int mth, .int mst, .ref mp, .int mln, .ref mk, .int mts, .ref mti, .ref mtw, .ref mi, .int mmn, .ref mpo, .int mpd, .ref mpi, .int mpl, .int mcp, .ref mre, .ref mnn, .ref mwo, .ref mga, .ref mlo, .ref mro, .ref mle, .ref mra, .int mme, .ref mha, .int mch, .int mtm, .int mgo, .int mwa, .ref mba, .int mbl, .ref mon])), (mpi, .inl (cI, 26, .inl mpif))] → va_S A s.heap H locs → lv_has ls 3 [(2, .int L2_7), (0, .ref m0), (1, .int x)] → W p l e { frames := 1, cells := 0, slots := 0, locals := 20 } s m (List.toArray [.ref m0, .int x]) below meth c H locs 0 0 Q (F0 m 7 ls []) := by
    intro n
    induction n with
    | zero =>
      intro L2_7 hi0_7 hi1_7 hi2_7 hm
      exact absurd hm (by omega)
    | succ n ih7 =>
      intro L2_7 hi0_7 hi1_7 hi2_7 hm7 H locs ls hP hD hS hl
      refine lv_iload_n hx hb dX9_hasFrame_7 rfl (lv_at hl 0 rfl) ?_
      refine lv_if_lt (tgt := 57) hx hb dX9_hasFrame_8 (by decide) (fun c2 => ?_) (fun c2 => ?_)
      · have c2' := I_lt c2
        refine lv_iload_n hx hb dX9_hasFrame_57 rfl (lv_at hl 0 rfl) ?_
        refine lv_if_lt (tgt := 75) hx hb dX9_hasFrame_58 (by decide) (fun c3 => ?_) (fun c3 => ?_)
        · have c3' := I_lt c3
          refine lv_iconst (v := 0) hx hb dX9_hasFrame_75 (by decide) ?_
          exact hret 0 () H locs 76 ls (by first | rfl | exact I_narz (by omega)) ⟨(show ((0 : Int32).toInt = 1 ∧ FF mpif mpl.toInt x.toInt) ∨ (0 : Int32).toInt = 0 from by first | (right; omega) | exact Or.inl ⟨by omega, hi2_7 _ (by have := PLx_fr hi1_7 (by omega) (x := _) (top_at e_ (by omega)) (by unfold isFr; omega) (by omega); rwa [show _.toInt = x.toInt by omega] at this)⟩), trivial⟩ hP hD hS dX9_hasFrame_76
        · have c3' := I_nlt c3
          refine lv_aload_n hx hb dX9_hasFrame_61 rfl (lv_at hl 1 rfl) ?_
          refine va_get (D := (dC, dI)) (ci := 8) (v := .ref mpi) (C := RX9) (T := TX9) (N := 32) hx hb hts inG_X9 hown hK hP 0 rfl rfl 12 (by decide) (hts _ fl_X9_28) (fun _ h9 => h9) rfl dX9_hasFrame_62 ?_
          refine lv_iload_n hx hb dX9_hasFrame_65 rfl (lv_at hl 0 rfl) ?_
          refine va_iald (t0 := 0) hx hb hK hP 1 (ha := rfl) (ht := rfl) (I_in (by omega) (by omega)) dX9_hasFrame_66 ?_
          refine lv_topi (fun v4 ev4 => ?_)
          try have h41 := I_eq (show v4 = _ from by rw [ev4, e_])
          refine lv_iload_n hx hb dX9_hasFrame_67 rfl (lv_at hl 2 rfl) ?_
          refine lv_icmp_ne (tgt := 75) hx hb dX9_hasFrame_68 (by decide) (fun c5 => ?_) (fun c5 => ?_)
          · have c5' := I_ne c5
            refine lv_iconst (v := 0) hx hb dX9_hasFrame_75 (by decide) ?_
            exact hret 0 () H locs 76 ls (by first | rfl | exact I_narz (by omega)) ⟨(show ((0 : Int32).toInt = 1 ∧ FF mpif mpl.toInt x.toInt) ∨ (0 : Int32).toInt = 0 from by first | (right; omega) | exact Or.inl ⟨by omega, hi2_7 _ (by have := PLx_fr hi1_7 (by omega) (x := _) (top_at e_ (by omega)) (by unfold isFr; omega) (by omega); rwa [show _.toInt = x.toInt by omega] at this)⟩), trivial⟩ hP hD hS dX9_hasFrame_76
          · have c5' := I_eq c5
            refine lv_iconst (v := 1) hx hb dX9_hasFrame_71 (by decide) ?_
            refine lv_goto (tgt := 76) hx hb dX9_hasFrame_72 (by decide) ?_
            exact hret 1 () H locs 76 ls (by first | rfl | exact I_narz (by omega)) ⟨(show ((1 : Int32).toInt = 1 ∧ FF mpif mpl.toInt x.toInt) ∨ (1 : Int32).toInt = 0 from by first | (right; omega) | exact Or.inl ⟨by omega, hi2_7 _ (by have := PLx_fr hi1_7 (by omega) (x := _) (top_at e_ (by omega)) (by unfold isFr; omega) (by omega); rwa [show _.toInt = x.toInt by omega] at this)⟩), trivial⟩ hP hD hS dX9_hasFrame_76
      · have c2' := I_nlt c2
        refine lv_aload_n hx hb dX9_hasFrame_11 rfl (lv_at hl 1 rfl) ?_
        refine va_get (D := (dC, dI)) (ci := 8) (v := .ref mpi) (C := RX9) (T := TX9) (N := 32) hx hb hts inG_X9 hown hK hP 0 rfl rfl 12 (by decide) (hts _ fl_X9_28) (fun _ h9 => h9) rfl dX9_hasFrame_12 ?_
        refine lv_iload_n hx hb dX9_hasFrame_15 rfl (lv_at hl 0 rfl) ?_
        refine va_iald (t0 := 0) hx hb hK hP 1 (ha := rfl) (ht := rfl) (I_in (by omega) (by omega)) dX9_hasFrame_16 ?_
        refine lv_topi (fun v6 ev6 => ?_)
        refine calOI (rest := []) (wr := [(m0, .inr (8, [.int mth, .int mst, .ref mp, .int mln, .ref mk, .int mts, .ref mti, .ref mtw, .ref mi, .int mmn, .ref mpo, .int mpd, .ref mpi, .int mpl, .int mcp, .ref mre, .ref mnn, .ref mwo, .ref mga, .ref mlo, .ref mro, .ref mle, .ref mra, .int mme, .ref mha, .int mch, .int mtm, .int mgo, .int mwa, .ref mba, .int mbl, .ref mon])), (mpi, .inl (cI, 26, .inl mpif))]) hG (c_X9_isFrame l dC dI cI cJ base bB bO v6 ) ml_X9_97 st_X9_isFrame ini_X9 cd_X9_isFrame hd_X9_isFrame.2 ⟨(Nat.le_of_ble_eq_true rfl), (Nat.le_of_ble_eq_true rfl)⟩ (Nat.le_of_ble_eq_true rfl) (Nat.le_of_ble_eq_true rfl) hP hD hS [] [0, 1] rfl rfl rfl rfl (by decide) hl.1 rfl (Nat.le_of_ble_eq_true rfl) dX9_hasFrame_17 (fun r7 u H locs hw8 hP hD hS => ?_)
        have hw8 : ((r7.toInt = 1 ∧ (v6.toInt = 0 ∨ v6.toInt = 9 ∨ v6.toInt = 10 ∨ v6.toInt = 11)) ∨ (r7.toInt = 0 ∧ ¬ v6.toInt = 0 ∧ ¬ v6.toInt = 9 ∧ ¬ v6.toInt = 10 ∧ ¬ v6.toInt = 11)) ∧ True := hw8
        obtain ⟨hp9, -⟩ := hw8
        have hP : va_P (dC, dI) vwCl [(m0, .inr (8, [.int mth, .int mst, .ref mp, .int mln, .ref mk, .int mts, .ref mti, .ref mtw, .ref mi, .int mmn, .ref mpo, .int mpd, .ref mpi, .int mpl, .int mcp, .ref mre, .ref mnn, .ref mwo, .ref mga, .ref mlo, .ref mro, .ref mle, .ref mra, .int mme, .ref mha, .int mch, .int mtm, .int mgo, .int mwa, .ref mba, .int mbl, .ref mon])), (mpi, .inl (cI, 26, .inl mpif))] H := hP
        have hD : va_D A [(m0, .inr (8, [.int mth, .int mst, .ref mp, .int mln, .ref mk, .int mts, .ref mti, .ref mtw, .ref mi, .int mmn, .ref mpo, .int mpd, .ref mpi, .int mpl, .int mcp, .ref mre, .ref mnn, .ref mwo, .ref mga, .ref mlo, .ref mro, .ref mle, .ref mra, .int mme, .ref mha, .int mch, .int mtm, .int mgo, .int mwa, .ref mba, .int mbl, .ref mon])), (mpi, .inl (cI, 26, .inl mpif))] := hD
        refine lv_if_eq (tgt := 34) hx hb dX9_hasFrame_20 (by decide) (fun c10 => ?_) (fun c10 => ?_)
        · have c10' := I_eq c10
          refine lv_iload_n hx hb dX9_hasFrame_34 rfl (lv_at hl 0 rfl) ?_
          refine lv_aload_n hx hb dX9_hasFrame_35 rfl (lv_at hl 1 rfl) ?_
          refine va_get (D := (dC, dI)) (ci := 8) (v := .ref mpi) (C := RX9) (T := TX9) (N := 32) hx hb hts inG_X9 hown hK hP 0 rfl rfl 12 (by decide) (hts _ fl_X9_28) (fun _ h9 => h9) rfl dX9_hasFrame_36 ?_
          refine lv_iload_n hx hb dX9_hasFrame_39 rfl (lv_at hl 0 rfl) ?_
          refine va_iald (t0 := 0) hx hb hK hP 1 (ha := rfl) (ht := rfl) (I_in (by omega) (by omega)) dX9_hasFrame_40 ?_
          refine lv_topi (fun v11 ev11 => ?_)
          have h31 := I_eq (show v11 = v6 from by rw [ev11, ev6])
          refine calOI (rest := [.int L2_7]) (wr := [(m0, .inr (8, [.int mth, .int mst, .ref mp, .int mln, .ref mk, .int mts, .ref mti, .ref mtw, .ref mi, .int mmn, .ref mpo, .int mpd, .ref mpi, .int mpl, .int mcp, .ref mre, .ref mnn, .ref mwo, .ref mga, .ref mlo, .ref mro, .ref mle, .ref mra, .int mme, .ref mha, .int mch, .int mtm, .int mgo, .int mwa, .ref mba, .int mbl, .ref mon])), (mpi, .inl (cI, 26, .inl mpif))]) hG (c_X9_isFrame l dC dI cI cJ base bB bO v11 ) ml_X9_97 st_X9_isFrame ini_X9 cd_X9_isFrame hd_X9_isFrame.2 ⟨(Nat.le_of_ble_eq_true rfl), (Nat.le_of_ble_eq_true rfl)⟩ (Nat.le_of_ble_eq_true rfl) (Nat.le_of_ble_eq_true rfl) hP hD hS [] [0, 1] rfl rfl rfl rfl (by decide) hl.1 rfl (Nat.le_of_ble_eq_true rfl) dX9_hasFrame_41 (fun r12 u H locs hw13 hP hD hS => ?_)
          have hw13 : ((r12.toInt = 1 ∧ (v11.toInt = 0 ∨ v11.toInt = 9 ∨ v11.toInt = 10 ∨ v11.toInt = 11)) ∨ (r12.toInt = 0 ∧ ¬ v11.toInt = 0 ∧ ¬ v11.toInt = 9 ∧ ¬ v11.toInt = 10 ∧ ¬ v11.toInt = 11)) ∧ True := hw13
          obtain ⟨hp14, -⟩ := hw13
          have hP : va_P (dC, dI) vwCl [(m0, .inr (8, [.int mth, .int mst, .ref mp, .int mln, .ref mk, .int mts, .ref mti, .ref mtw, .ref mi, .int mmn, .ref mpo, .int mpd, .ref mpi, .int mpl, .int mcp, .ref mre, .ref mnn, .ref mwo, .ref mga, .ref mlo, .ref mro, .ref mle, .ref mra, .int mme, .ref mha, .int mch, .int mtm, .int mgo, .int mwa, .ref mba, .int mbl, .ref mon])), (mpi, .inl (cI, 26, .inl mpif))] H := hP
          have hD : va_D A [(m0, .inr (8, [.int mth, .int mst, .ref mp, .int mln, .ref mk, .int mts, .ref mti, .ref mtw, .ref mi, .int mmn, .ref mpo, .int mpd, .ref mpi, .int mpl, .int mcp, .ref mre, .ref mnn, .ref mwo, .ref mga, .ref mlo, .ref mro, .ref mle, .ref mra, .int mme, .ref mha, .int mch, .int mtm, .int mgo, .int mwa, .ref mba, .int mbl, .ref mon])), (mpi, .inl (cI, 26, .inl mpif))] := hD
          refine lv_if_eq (tgt := 51) hx hb dX9_hasFrame_44 (by decide) (fun c15 => ?_) (fun c15 => ?_)
          · have c15' := I_eq c15
            refine lv_iconst (v := 1) hx hb dX9_hasFrame_51 (by decide) ?_
            refine lv_isub hx hb dX9_hasFrame_52 ?_
            refine lv_topi (fun v16 ev16 => ?_)
            try have hv16 : v16.toInt = L2_7.toInt - (1 : Int32).toInt := I_subx ev16 (by omega)
            refine lv_istore_n (lv' := [(2, .int v16), (0, .ref m0), (1, .int x)]) hx hb dX9_hasFrame_53 rfl hl (by decide) rfl (fun ls hl => ?_)
            refine lv_goto (tgt := 7) hx hb dX9_hasFrame_54 (by decide) ?_
            exact ih7 v16 (by first | assumption | omega) (by first | (rw [show v16.toInt + 1 = mpl.toInt by omega]; assumption) | exact (PLx_op hi1_7 (by omega) (x := v6) (top_at ev6 (by omega)) (by unfold isFr; omega) (by omega)).1 | exact (PLx_else hi1_7 (by omega) (x := v6) (top_at ev6 (by omega)) (by omega) (by omega)).1) (by first | (rw [show v16.toInt + 1 = mpl.toInt by omega]; exact fun w h => h) | exact fun w h => hi2_7 w ((PLx_op hi1_7 (by omega) (x := v6) (top_at ev6 (by omega)) (by unfold isFr; omega) (by omega)).2 w h) | exact fun w h => hi2_7 w ((PLx_else hi1_7 (by omega) (x := v6) (top_at ev6 (by omega)) (by omega) (by omega)).2 w h)) (by omega) H locs ls hP hD hS hl
          · have c15' := I_ne c15
            refine lv_iconst (v := 2) hx hb dX9_hasFrame_47 (by decide) ?_
            refine lv_goto (tgt := 52) hx hb dX9_hasFrame_48 (by decide) ?_
            refine lv_isub hx hb dX9_hasFrame_52 ?_
            refine lv_topi (fun v17 ev17 => ?_)
            try have hv17 : v17.toInt = L2_7.toInt - (2 : Int32).toInt := I_subx ev17 (by omega)
            refine lv_istore_n (lv' := [(2, .int v17), (0, .ref m0), (1, .int x)]) hx hb dX9_hasFrame_53 rfl hl (by decide) rfl (fun ls hl => ?_)
            refine lv_goto (tgt := 7) hx hb dX9_hasFrame_54 (by decide) ?_
            exact ih7 v17 (by first | assumption | omega) (by first | (rw [show v17.toInt + 1 = mpl.toInt by omega]; assumption) | exact (PLx_op hi1_7 (by omega) (x := v6) (top_at ev6 (by omega)) (by unfold isFr; omega) (by omega)).1 | exact (PLx_else hi1_7 (by omega) (x := v6) (top_at ev6 (by omega)) (by omega) (by omega)).1) (by first | (rw [show v17.toInt + 1 = mpl.toInt by omega]; exact fun w h => h) | exact fun w h => hi2_7 w ((PLx_op hi1_7 (by omega) (x := v6) (top_at ev6 (by omega)) (by unfold isFr; omega) (by omega)).2 w h) | exact fun w h => hi2_7 w ((PLx_else hi1_7 (by omega) (x := v6) (top_at ev6 (by omega)) (by omega) (by omega)).2 w h)) (by omega) H locs ls hP hD hS hl
        · have c10' := I_ne c10
          refine lv_aload_n hx hb dX9_hasFrame_23 rfl (lv_at hl 1 rfl) ?_
          refine va_get (D := (dC, dI)) (ci := 8) (v := .ref mpi) (C := RX9) (T := TX9) (N := 32) hx hb hts inG_X9 hown hK hP 0 rfl rfl 12 (by decide) (hts _ fl_X9_28) (fun _ h9 => h9) rfl dX9_hasFrame_24 ?_
          refine lv_iload_n hx hb dX9_hasFrame_27 rfl (lv_at hl 0 rfl) ?_
          refine va_iald (t0 := 0) hx hb hK hP 1 (ha := rfl) (ht := rfl) (I_in (by omega) (by omega)) dX9_hasFrame_28 ?_
          refine lv_topi (fun v18 ev18 => ?_)
          have h21 := I_eq (show v18 = v6 from by rw [ev18, ev6])
          refine lv_bipush (v := 11) hx hb dX9_hasFrame_29 (by decide) ?_
          refine lv_icmp_ne (tgt := 57) hx hb dX9_hasFrame_31 (by decide) (fun c19 => ?_) (fun c19 => ?_)
          · have c19' := I_ne c19
            refine lv_iload_n hx hb dX9_hasFrame_57 rfl (lv_at hl 0 rfl) ?_
            refine lv_if_lt (tgt := 75) hx hb dX9_hasFrame_58 (by decide) (fun c20 => ?_) (fun c20 => ?_)
            · have c20' := I_lt c20
              refine lv_iconst (v := 0) hx hb dX9_hasFrame_75 (by decide) ?_
              exact hret 0 () H locs 76 ls (by first | rfl | exact I_narz (by omega)) ⟨(show ((0 : Int32).toInt = 1 ∧ FF mpif mpl.toInt x.toInt) ∨ (0 : Int32).toInt = 0 from by first | (right; omega) | exact Or.inl ⟨by omega, hi2_7 _ (by have := PLx_fr hi1_7 (by omega) (x := v6) (top_at ev6 (by omega)) (by unfold isFr; omega) (by omega); rwa [show v6.toInt = x.toInt by omega] at this)⟩), trivial⟩ hP hD hS dX9_hasFrame_76
            · have c20' := I_nlt c20
              refine lv_aload_n hx hb dX9_hasFrame_61 rfl (lv_at hl 1 rfl) ?_
              refine va_get (D := (dC, dI)) (ci := 8) (v := .ref mpi) (C := RX9) (T := TX9) (N := 32) hx hb hts inG_X9 hown hK hP 0 rfl rfl 12 (by decide) (hts _ fl_X9_28) (fun _ h9 => h9) rfl dX9_hasFrame_62 ?_
              refine lv_iload_n hx hb dX9_hasFrame_65 rfl (lv_at hl 0 rfl) ?_
              refine va_iald (t0 := 0) hx hb hK hP 1 (ha := rfl) (ht := rfl) (I_in (by omega) (by omega)) dX9_hasFrame_66 ?_
              refine lv_topi (fun v21 ev21 => ?_)
              try have h41 := I_eq (show v21 = v6 from by rw [ev21, ev6])
              refine lv_iload_n hx hb dX9_hasFrame_67 rfl (lv_at hl 2 rfl) ?_
              refine lv_icmp_ne (tgt := 75) hx hb dX9_hasFrame_68 (by decide) (fun c22 => ?_) (fun c22 => ?_)
              · have c22' := I_ne c22
                refine lv_iconst (v := 0) hx hb dX9_hasFrame_75 (by decide) ?_
                exact hret 0 () H locs 76 ls (by first | rfl | exact I_narz (by omega)) ⟨(show ((0 : Int32).toInt = 1 ∧ FF mpif mpl.toInt x.toInt) ∨ (0 : Int32).toInt = 0 from by first | (right; omega) | exact Or.inl ⟨by omega, hi2_7 _ (by have := PLx_fr hi1_7 (by omega) (x := v6) (top_at ev6 (by omega)) (by unfold isFr; omega) (by omega); rwa [show v6.toInt = x.toInt by omega] at this)⟩), trivial⟩ hP hD hS dX9_hasFrame_76
              · have c22' := I_eq c22
                refine lv_iconst (v := 1) hx hb dX9_hasFrame_71 (by decide) ?_
                refine lv_goto (tgt := 76) hx hb dX9_hasFrame_72 (by decide) ?_
                exact hret 1 () H locs 76 ls (by first | rfl | exact I_narz (by omega)) ⟨(show ((1 : Int32).toInt = 1 ∧ FF mpif mpl.toInt x.toInt) ∨ (1 : Int32).toInt = 0 from by first | (right; omega) | exact Or.inl ⟨by omega, hi2_7 _ (by have := PLx_fr hi1_7 (by omega) (x := v6) (top_at ev6 (by omega)) (by unfold isFr; omega) (by omega); rwa [show v6.toInt = x.toInt by omega] at this)⟩), trivial⟩ hP hD hS dX9_hasFrame_76
          · have c19' := I_eq c19
            have hn2 := PLx_2 hi1_7 (by omega) (x := v6) (top_at ev6 (by omega)) (by omega)
            refine lv_iload_n hx hb dX9_hasFrame_34 rfl (lv_at hl 0 rfl) ?_
            refine lv_aload_n hx hb dX9_hasFrame_35 rfl (lv_at hl 1 rfl) ?_
            refine va_get (D := (dC, dI)) (ci := 8) (v := .ref mpi) (C := RX9) (T := TX9) (N := 32) hx hb hts inG_X9 hown hK hP 0 rfl rfl 12 (by decide) (hts _ fl_X9_28) (fun _ h9 => h9) rfl dX9_hasFrame_36 ?_
            refine lv_iload_n hx hb dX9_hasFrame_39 rfl (lv_at hl 0 rfl) ?_
            refine va_iald (t0 := 0) hx hb hK hP 1 (ha := rfl) (ht := rfl) (I_in (by omega) (by omega)) dX9_hasFrame_40 ?_
            refine lv_topi (fun v23 ev23 => ?_)
            have h31 := I_eq (show v23 = v6 from by rw [ev23, ev6])
            refine calOI (rest := [.int L2_7]) (wr := [(m0, .inr (8, [.int mth, .int mst, .ref mp, .int mln, .ref mk, .int mts, .ref mti, .ref mtw, .ref mi, .int mmn, .ref mpo, .int mpd, .ref mpi, .int mpl, .int mcp, .ref mre, .ref mnn, .ref mwo, .ref mga, .ref mlo, .ref mro, .ref mle, .ref mra, .int mme, .ref mha, .int mch, .int mtm, .int mgo, .int mwa, .ref mba, .int mbl, .ref mon])), (mpi, .inl (cI, 26, .inl mpif))]) hG (c_X9_isFrame l dC dI cI cJ base bB bO v23 ) ml_X9_97 st_X9_isFrame ini_X9 cd_X9_isFrame hd_X9_isFrame.2 ⟨(Nat.le_of_ble_eq_true rfl), (Nat.le_of_ble_eq_true rfl)⟩ (Nat.le_of_ble_eq_true rfl) (Nat.le_of_ble_eq_true rfl) hP hD hS [] [0, 1] rfl rfl rfl rfl (by decide) hl.1 rfl (Nat.le_of_ble_eq_true rfl) dX9_hasFrame_41 (fun r24 u H locs hw25 hP hD hS => ?_)
            have hw25 : ((r24.toInt = 1 ∧ (v23.toInt = 0 ∨ v23.toInt = 9 ∨ v23.toInt = 10 ∨ v23.toInt = 11)) ∨ (r24.toInt = 0 ∧ ¬ v23.toInt = 0 ∧ ¬ v23.toInt = 9 ∧ ¬ v23.toInt = 10 ∧ ¬ v23.toInt = 11)) ∧ True := hw25
            obtain ⟨hp26, -⟩ := hw25
            have hP : va_P (dC, dI) vwCl [(m0, .inr (8, [.int mth, .int mst, .ref mp, .int mln, .ref mk, .int mts, .ref mti, .ref mtw, .ref mi, .int mmn, .ref mpo, .int mpd, .ref mpi, .int mpl, .int mcp, .ref mre, .ref mnn, .ref mwo, .ref mga, .ref mlo, .ref mro, .ref mle, .ref mra, .int mme, .ref mha, .int mch, .int mtm, .int mgo, .int mwa, .ref mba, .int mbl, .ref mon])), (mpi, .inl (cI, 26, .inl mpif))] H := hP
            have hD : va_D A [(m0, .inr (8, [.int mth, .int mst, .ref mp, .int mln, .ref mk, .int mts, .ref mti, .ref mtw, .ref mi, .int mmn, .ref mpo, .int mpd, .ref mpi, .int mpl, .int mcp, .ref mre, .ref mnn, .ref mwo, .ref mga, .ref mlo, .ref mro, .ref mle, .ref mra, .int mme, .ref mha, .int mch, .int mtm, .int mgo, .int mwa, .ref mba, .int mbl, .ref mon])), (mpi, .inl (cI, 26, .inl mpif))] := hD
            refine lv_if_eq (tgt := 51) hx hb dX9_hasFrame_44 (by decide) (fun c27 => ?_) (fun c27 => ?_)
            · have c27' := I_eq c27
              refine lv_iconst (v := 1) hx hb dX9_hasFrame_51 (by decide) ?_
              refine lv_isub hx hb dX9_hasFrame_52 ?_
              refine lv_topi (fun v28 ev28 => ?_)
              try have hv28 : v28.toInt = L2_7.toInt - (1 : Int32).toInt := I_subx ev28 (by omega)
              refine lv_istore_n (lv' := [(2, .int v28), (0, .ref m0), (1, .int x)]) hx hb dX9_hasFrame_53 rfl hl (by decide) rfl (fun ls hl => ?_)
              refine lv_goto (tgt := 7) hx hb dX9_hasFrame_54 (by decide) ?_
              exact ih7 v28 (by first | assumption | omega) (by first | (rw [show v28.toInt + 1 = mpl.toInt by omega]; assumption) | exact (PLx_op hi1_7 (by omega) (x := v6) (top_at ev6 (by omega)) (by unfold isFr; omega) (by omega)).1 | exact (PLx_else hi1_7 (by omega) (x := v6) (top_at ev6 (by omega)) (by omega) (by omega)).1) (by first | (rw [show v28.toInt + 1 = mpl.toInt by omega]; exact fun w h => h) | exact fun w h => hi2_7 w ((PLx_op hi1_7 (by omega) (x := v6) (top_at ev6 (by omega)) (by unfold isFr; omega) (by omega)).2 w h) | exact fun w h => hi2_7 w ((PLx_else hi1_7 (by omega) (x := v6) (top_at ev6 (by omega)) (by omega) (by omega)).2 w h)) (by omega) H locs ls hP hD hS hl
            · have c27' := I_ne c27
              refine lv_iconst (v := 2) hx hb dX9_hasFrame_47 (by decide) ?_
              refine lv_goto (tgt := 52) hx hb dX9_hasFrame_48 (by decide) ?_
              refine lv_isub hx hb dX9_hasFrame_52 ?_
              refine lv_topi (fun v29 ev29 => ?_)
              try have hv29 : v29.toInt = L2_7.toInt - (2 : Int32).toInt := I_subx ev29 (by omega)
              refine lv_istore_n (lv' := [(2, .int v29), (0, .ref m0), (1, .int x)]) hx hb dX9_hasFrame_53 rfl hl (by decide) rfl (fun ls hl => ?_)
              refine lv_goto (tgt := 7) hx hb dX9_hasFrame_54 (by decide) ?_
              exact ih7 v29 (by first | assumption | omega) (by first | (rw [show v29.toInt + 1 = mpl.toInt by omega]; assumption) | exact (PLx_op hi1_7 (by omega) (x := v6) (top_at ev6 (by omega)) (by unfold isFr; omega) (by omega)).1 | exact (PLx_else hi1_7 (by omega) (x := v6) (top_at ev6 (by omega)) (by omega) (by omega)).1) (by first | (rw [show v29.toInt + 1 = mpl.toInt by omega]; exact fun w h => h) | exact fun w h => hi2_7 w ((PLx_op hi1_7 (by omega) (x := v6) (top_at ev6 (by omega)) (by unfold isFr; omega) (by omega)).2 w h) | exact fun w h => hi2_7 w ((PLx_else hi1_7 (by omega) (x := v6) (top_at ev6 (by omega)) (by omega) (by omega)).2 w h)) (by omega) H locs ls hP hD hS hl
  exact J7 ((v1.toInt + 1).toNat + 1) v1 (by first | assumption | omega) (by first | (rw [show v1.toInt + 1 = mpl.toInt by omega]; assumption) | exact (PLx_op hi1_7 (by omega) (x := v6) (top_at ev6 (by omega)) (by unfold isFr; omega) (by omega)).1 | exact (PLx_else hi1_7 (by omega) (x := v6) (top_at ev6 (by omega)) (by omega) (by omega)).1) (by first | (rw [show v1.toInt + 1 = mpl.toInt by omega]; exact fun w h => h) | exact fun w h => hi2_7 w ((PLx_op hi1_7 (by omega) (x := v6) (top_at ev6 (by omega)) (by unfold isFr; omega) (by omega)).2 w h) | exact fun w h => hi2_7 w ((PLx_else hi1_7 (by omega) (x := v6) (top_at ev6 (by omega)) (by omega) (by omega)).2 w h)) (by omega) H locs ls hP hD hS hl
set_option maxHeartbeats 4000000 in
set_option maxRecDepth 100000 in
theorem c_X9_behind (l : Launch) (dC : Nat → ClassId) (dI : Nat → Nat → Nat) (cI cJ : ClassId) (base bB bO : Nat) (m0 : Nat) (mth : Int32) (mst : Int32) (mp : Nat) (mln : Int32) (mk : Nat) (mts : Int32) (mti : Nat) (mtw : Nat) (mi : Nat) (mmn : Int32) (mpo : Nat) (mpd : Int32) (mpi : Nat) (mpl : Int32) (mcp : Int32) (mre : Nat) (mnn : Nat) (mwo : Nat) (mga : Nat) (mlo : Nat) (mro : Nat) (mle : Nat) (mra : Nat) (mme : Int32) (mha : Nat) (mch : Int32) (mtm : Int32) (mgo : Int32) (mwa : Int32) (mba : Nat) (mbl : Int32) (mon : Nat) (mpof : Nat → Int32) (mpif : Nat → Int32) (x : Int32) (K : Int) (hRD : RD mpof mpif mpd mpl 1 K) (hq1 : K ≤ 11) (hq2 : mcp.toInt = 0 ∨ mcp.toInt = 1) : CtI l dC dI cI cJ base bB bO yX9_behind cX9_behind 3 .int 3 61 [.ref m0, .int x] [(m0, .inr (8, [.int mth, .int mst, .ref mp, .int mln, .ref mk, .int mts, .ref mti, .ref mtw, .ref mi, .int mmn, .ref mpo, .int mpd, .ref mpi, .int mpl, .int mcp, .ref mre, .ref mnn, .ref mwo, .ref mga, .ref mlo, .ref mro, .ref mle, .ref mra, .int mme, .ref mha, .int mch, .int mtm, .int mgo, .int mwa, .ref mba, .int mbl, .ref mon])), (mpo, .inl (cI, 12, .inl mpof)), (mpi, .inl (cI, 26, .inl mpif))] ((Int32) × (Int32) × (Int32) × (Nat → Int32) × (Nat → Int32)) (fun (res : Int32) (u : (Int32) × (Int32) × (Int32) × (Nat → Int32) × (Nat → Int32)) => ((res.toInt = 3 ∧ RD u.2.2.2.1 u.2.2.2.2 u.1 u.2.1 1 (K + 1)) ∨ ((0 ≤ res.toInt ∧ res.toInt < 3) ∧ RD u.2.2.2.1 u.2.2.2.2 u.1 u.2.1 0 (K + 1)) ∨ res.toInt < 0) ∧ (u.2.2.1.toInt = 0 ∨ u.2.2.1.toInt = 1) ∧ True) (fun (u : (Int32) × (Int32) × (Int32) × (Nat → Int32) × (Nat → Int32)) => [(m0, .inr (8, [.int mth, .int mst, .ref mp, .int mln, .ref mk, .int mts, .ref mti, .ref mtw, .ref mi, .int mmn, .ref mpo, .int u.1, .ref mpi, .int u.2.1, .int u.2.2.1, .ref mre, .ref mnn, .ref mwo, .ref mga, .ref mlo, .ref mro, .ref mle, .ref mra, .int mme, .ref mha, .int mch, .int mtm, .int mgo, .int mwa, .ref mba, .int mbl, .ref mon])), (mpo, .inl (cI, 12, .inl u.2.2.2.1)), (mpi, .inl (cI, 26, .inl u.2.2.2.2))]) := by
  refine entI (by decide) (Nat.le_of_ble_eq_true rfl) ?_
  intro p e s m below meth c A Q ls hAt hret hP hD hS hl
  obtain ⟨hx, hb, hml, hown, hts, hA, hAb, hK, hE, hlocks, hin⟩ := hAt
  have hG : CG dC dI cI cJ base bB bO cX9_behind 3 RX9 p s m (List.toArray [.ref m0, .int x]) c A := ⟨hx, hb, hml, hown, hts, hA, hAb, hK, hE⟩
  have hl : lv_has ls 3 [(0, .ref m0), (1, .int x)] := hl
  have c_m1 : (-1 : Int32).toInt = -1 := by decide
  have c_0 : (0 : Int32).toInt = 0 := by decide
  have c_1 : (1 : Int32).toInt = 1 := by decide
  have c_2 : (2 : Int32).toInt = 2 := by decide
  have c_3 : (3 : Int32).toInt = 3 := by decide
  have c_4 : (4 : Int32).toInt = 4 := by decide
  have c_5 : (5 : Int32).toInt = 5 := by decide
  have c_6 : (6 : Int32).toInt = 6 := by decide
  have c_7 : (7 : Int32).toInt = 7 := by decide
  have c_9 : (9 : Int32).toInt = 9 := by decide
  have c_10 : (10 : Int32).toInt = 10 := by decide
  have c_11 : (11 : Int32).toInt = 11 := by decide
  obtain ⟨H, hHe⟩ : ∃ H : Heap, H = s.heap := ⟨_, rfl⟩
  obtain ⟨locs, hle⟩ : ∃ z : List Loc, z = [] := ⟨_, rfl⟩
  rw [← hHe] at hP
  have hS : va_S A s.heap H locs := by rw [hHe, hle]; exact hS
  suffices hgo : W p l e { frames := 3, cells := 0, slots := 0, locals := 61 } s m (List.toArray [.ref m0, .int x]) below meth c H locs 0 0 Q (F0 m 0 ls []) by rw [hHe, hle] at hgo; exact hgo
  have hrb := RD_b hRD
  have J33 : (x.toInt = 2 ∨ x.toInt = 3 ∨ x.toInt = 4 ∨ x.toInt = 5 ∨ x.toInt = 6) → ∀ (H : Heap) (locs : List Loc) (ls : Array Slot), va_P (dC, dI) vwCl [(m0, .inr (8, [.int mth, .int mst, .ref mp, .int mln, .ref mk, .int mts, .ref mti, .ref mtw, .ref mi, .int mmn, .ref mpo, .int mpd, .ref mpi, .int mpl, .int mcp, .ref mre, .ref mnn, .ref mwo, .ref mga, .ref mlo, .ref mro, .ref mle, .ref mra, .int mme, .ref mha, .int mch, .int mtm, .int mgo, .int mwa, .ref mba, .int mbl, .ref mon])), (mpo, .inl (cI, 12, .inl mpof)), (mpi, .inl (cI, 26, .inl mpif))] H → va_D A [(m0, .inr (8, [.int mth, .int mst, .ref mp, .int mln, .ref mk, .int mts, .ref mti, .ref mtw, .ref mi, .int mmn, .ref mpo, .int mpd, .ref mpi, .int mpl, .int mcp, .ref mre, .ref mnn, .ref mwo, .ref mga, .ref mlo, .ref mro, .ref mle, .ref mra, .int mme, .ref mha, .int mch, .int mtm, .int mgo, .int mwa, .ref mba, .int mbl, .ref mon])), (mpo, .inl (cI, 12, .inl mpof)), (mpi, .inl (cI, 26, .inl mpif))] → va_S A s.heap H locs → lv_has ls 3 [(0, .ref m0), (1, .int x)] → W p l e { frames := 3, cells := 0, slots := 0, locals := 61 } s m (List.toArray [.ref m0, .int x]) below meth c H locs 0 0 Q (F0 m 33 ls []) := by
    intro hi0_33 H locs ls hP hD hS hl
    refine lv_aload_n hx hb dX9_behind_33 rfl (lv_at hl 0 rfl) ?_
    refine lv_iload_n hx hb dX9_behind_34 rfl (lv_at hl 1 rfl) ?_
    refine lv_iconst (v := 4) hx hb dX9_behind_35 (by decide) ?_
    refine lv_icmp_ne (tgt := 43) hx hb dX9_behind_36 (by decide) (fun c1 => ?_) (fun c1 => ?_)
    · have c1' := I_ne c1
      refine lv_iconst (v := 4) hx hb dX9_behind_43 (by decide) ?_
      refine calV (rest := []) (wr := []) hG (c_X9_settle l dC dI cI cJ base bB bO m0 mth mst mp mln mk mts mti mtw mi mmn mpo mpd mpi mpl mcp mre mnn mwo mga mlo mro mle mra mme mha mch mtm mgo mwa mba mbl mon mpof mpif 4 K (by first | assumption | omega) (by first | assumption | omega) (by first | assumption | omega)) ml_X9_110 im_X9_settle se_X9_settle ini_X9 cd_X9_settle hd_X9_settle ⟨(Nat.le_of_ble_eq_true rfl), (Nat.le_of_ble_eq_true rfl)⟩ (Nat.le_of_ble_eq_true rfl) (Nat.le_of_ble_eq_true rfl) hP hD hS [0, 1, 2] [] rfl rfl rfl rfl (by decide) 8 0 rfl rfl hl.1 rfl (Nat.le_of_ble_eq_true rfl) dX9_behind_44 (fun u H locs hw2 hP hD hS => ?_)
      obtain ⟨mpd_3, mpl_4, mpof_5⟩ := u
      have hw2 : (RD mpof_5 mpif mpd_3 mpl_4 1 K) ∧ (mpl_4.toInt ≤ mpl.toInt) ∧ (mpl_4.toInt = 0 ∨ 1 < (4 : Int32).toInt ∨ isFr (mpif (mpl_4.toInt - 1).toNat).toInt) ∧ (∀ w : Int, FF mpif mpl.toInt w → FF mpif mpl_4.toInt w) ∧ True := hw2
      obtain ⟨hp6, hp7, hp8, hp9, -⟩ := hw2
      have hP : va_P (dC, dI) vwCl [(m0, .inr (8, [.int mth, .int mst, .ref mp, .int mln, .ref mk, .int mts, .ref mti, .ref mtw, .ref mi, .int mmn, .ref mpo, .int mpd_3, .ref mpi, .int mpl_4, .int mcp, .ref mre, .ref mnn, .ref mwo, .ref mga, .ref mlo, .ref mro, .ref mle, .ref mra, .int mme, .ref mha, .int mch, .int mtm, .int mgo, .int mwa, .ref mba, .int mbl, .ref mon])), (mpo, .inl (cI, 12, .inl mpof_5)), (mpi, .inl (cI, 26, .inl mpif))] H := hP
      have hD : va_D A [(m0, .inr (8, [.int mth, .int mst, .ref mp, .int mln, .ref mk, .int mts, .ref mti, .ref mtw, .ref mi, .int mmn, .ref mpo, .int mpd_3, .ref mpi, .int mpl_4, .int mcp, .ref mre, .ref mnn, .ref mwo, .ref mga, .ref mlo, .ref mro, .ref mle, .ref mra, .int mme, .ref mha, .int mch, .int mtm, .int mgo, .int mwa, .ref mba, .int mbl, .ref mon])), (mpo, .inl (cI, 12, .inl mpof_5)), (mpi, .inl (cI, 26, .inl mpif))] := hD
      have hse := hp6
      have hseb := RD_b hse
      refine lv_aload_n hx hb dX9_behind_47 rfl (lv_at hl 0 rfl) ?_
      refine lv_aload_n hx hb dX9_behind_48 rfl (lv_at hl 0 rfl) ?_
      refine va_get (D := (dC, dI)) (ci := 8) (v := .int mcp) (C := RX9) (T := TX9) (N := 32) hx hb hts inG_X9 hown hK hP 0 rfl rfl 14 (by decide) (hts _ fl_X9_106) (fun _ h9 => h9) rfl dX9_behind_49 ?_
      refine lv_if_ne (tgt := 66) hx hb dX9_behind_52 (by decide) (fun c10 => ?_) (fun c10 => ?_)
      · have c10' := I_ne c10
        refine lv_iconst (v := 1) hx hb dX9_behind_66 (by decide) ?_
        refine lv_goto (tgt := 71) hx hb dX9_behind_67 (by decide) ?_
        refine va_put (D := (dC, dI)) (ci := 8) (v := .int 1) (ty := .boolean) (C := RX9) (T := TX9) (N := 32) hx hb hts inG_X9 tyX9 tyX9_ok nmX9 hown hK hP hD hS 0 rfl rfl 14 (by decide) (hts _ fl_X9_106) (fun _ h9 => h9) rfl (by decide +kernel) (by first | rfl | exact I_narz (by omega)) rfl (Nat.le_of_ble_eq_true rfl) dX9_behind_71 (fun H locs hP hD hS => ?_)
        have hP : va_P (dC, dI) vwCl [(m0, .inr (8, [.int mth, .int mst, .ref mp, .int mln, .ref mk, .int mts, .ref mti, .ref mtw, .ref mi, .int mmn, .ref mpo, .int mpd_3, .ref mpi, .int mpl_4, .int 1, .ref mre, .ref mnn, .ref mwo, .ref mga, .ref mlo, .ref mro, .ref mle, .ref mra, .int mme, .ref mha, .int mch, .int mtm, .int mgo, .int mwa, .ref mba, .int mbl, .ref mon])), (mpo, .inl (cI, 12, .inl mpof_5)), (mpi, .inl (cI, 26, .inl mpif))] H := hP
        have hD : va_D A [(m0, .inr (8, [.int mth, .int mst, .ref mp, .int mln, .ref mk, .int mts, .ref mti, .ref mtw, .ref mi, .int mmn, .ref mpo, .int mpd_3, .ref mpi, .int mpl_4, .int 1, .ref mre, .ref mnn, .ref mwo, .ref mga, .ref mlo, .ref mro, .ref mle, .ref mra, .int mme, .ref mha, .int mch, .int mtm, .int mgo, .int mwa, .ref mba, .int mbl, .ref mon])), (mpo, .inl (cI, 12, .inl mpof_5)), (mpi, .inl (cI, 26, .inl mpif))] := hD
        refine lv_aload_n hx hb dX9_behind_74 rfl (lv_at hl 0 rfl) ?_
        refine va_get (D := (dC, dI)) (ci := 8) (v := .ref mpi) (C := RX9) (T := TX9) (N := 32) hx hb hts inG_X9 hown hK hP 0 rfl rfl 12 (by decide) (hts _ fl_X9_28) (fun _ h9 => h9) rfl dX9_behind_75 ?_
        refine lv_aload_n hx hb dX9_behind_78 rfl (lv_at hl 0 rfl) ?_
        refine va_get (D := (dC, dI)) (ci := 8) (v := .int mpl_4) (C := RX9) (T := TX9) (N := 32) hx hb hts inG_X9 hown hK hP 0 rfl rfl 13 (by decide) (hts _ fl_X9_94) (fun _ h9 => h9) rfl dX9_behind_79 ?_
        refine lv_iload_n hx hb dX9_behind_82 rfl (lv_at hl 1 rfl) ?_
        refine va_iast (t0 := 0) hx hb hK hP hD hS 2 (ha := rfl) (ht := rfl) (I_in (by omega) (by omega)) dX9_behind_83 (fun H locs hP hD hS => ?_)
        have hP : va_P (dC, dI) vwCl [(m0, .inr (8, [.int mth, .int mst, .ref mp, .int mln, .ref mk, .int mts, .ref mti, .ref mtw, .ref mi, .int mmn, .ref mpo, .int mpd_3, .ref mpi, .int mpl_4, .int 1, .ref mre, .ref mnn, .ref mwo, .ref mga, .ref mlo, .ref mro, .ref mle, .ref mra, .int mme, .ref mha, .int mch, .int mtm, .int mgo, .int mwa, .ref mba, .int mbl, .ref mon])), (mpo, .inl (cI, 12, .inl mpof_5)), (mpi, .inl (cI, 26, .inl (upd mpif mpl_4.toNatClampNeg x)))] H := hP
        have hD : va_D A [(m0, .inr (8, [.int mth, .int mst, .ref mp, .int mln, .ref mk, .int mts, .ref mti, .ref mtw, .ref mi, .int mmn, .ref mpo, .int mpd_3, .ref mpi, .int mpl_4, .int 1, .ref mre, .ref mnn, .ref mwo, .ref mga, .ref mlo, .ref mro, .ref mle, .ref mra, .int mme, .ref mha, .int mch, .int mtm, .int mgo, .int mwa, .ref mba, .int mbl, .ref mon])), (mpo, .inl (cI, 12, .inl mpof_5)), (mpi, .inl (cI, 26, .inl (upd mpif mpl_4.toNatClampNeg x)))] := hD
        generalize ef11 : upd mpif mpl_4.toNatClampNeg x = f11 at hP hD
        refine lv_aload_n hx hb dX9_behind_84 rfl (lv_at hl 0 rfl) ?_
        refine lv_dup hx hb dX9_behind_85 rfl ?_
        refine va_get (D := (dC, dI)) (ci := 8) (v := .int mpl_4) (C := RX9) (T := TX9) (N := 32) hx hb hts inG_X9 hown hK hP 0 rfl rfl 13 (by decide) (hts _ fl_X9_94) (fun _ h9 => h9) rfl dX9_behind_86 ?_
        refine lv_iconst (v := 1) hx hb dX9_behind_89 (by decide) ?_
        refine lv_iadd hx hb dX9_behind_90 ?_
        refine lv_topi (fun v12 ev12 => ?_)
        try have hv12 : v12.toInt = mpl_4.toInt + (1 : Int32).toInt := I_addx ev12 (by omega)
        refine va_put (D := (dC, dI)) (ci := 8) (v := .int v12) (ty := .int) (C := RX9) (T := TX9) (N := 32) hx hb hts inG_X9 tyX9 tyX9_ok nmX9 hown hK hP hD hS 0 rfl rfl 13 (by decide) (hts _ fl_X9_94) (fun _ h9 => h9) rfl (by decide +kernel) rfl rfl (Nat.le_of_ble_eq_true rfl) dX9_behind_91 (fun H locs hP hD hS => ?_)
        have hP : va_P (dC, dI) vwCl [(m0, .inr (8, [.int mth, .int mst, .ref mp, .int mln, .ref mk, .int mts, .ref mti, .ref mtw, .ref mi, .int mmn, .ref mpo, .int mpd_3, .ref mpi, .int v12, .int 1, .ref mre, .ref mnn, .ref mwo, .ref mga, .ref mlo, .ref mro, .ref mle, .ref mra, .int mme, .ref mha, .int mch, .int mtm, .int mgo, .int mwa, .ref mba, .int mbl, .ref mon])), (mpo, .inl (cI, 12, .inl mpof_5)), (mpi, .inl (cI, 26, .inl f11))] H := hP
        have hD : va_D A [(m0, .inr (8, [.int mth, .int mst, .ref mp, .int mln, .ref mk, .int mts, .ref mti, .ref mtw, .ref mi, .int mmn, .ref mpo, .int mpd_3, .ref mpi, .int v12, .int 1, .ref mre, .ref mnn, .ref mwo, .ref mga, .ref mlo, .ref mro, .ref mle, .ref mra, .int mme, .ref mha, .int mch, .int mtm, .int mgo, .int mwa, .ref mba, .int mbl, .ref mon])), (mpo, .inl (cI, 12, .inl mpof_5)), (mpi, .inl (cI, 26, .inl f11))] := hD
        refine lv_iconst (v := 2) hx hb dX9_behind_94 (by decide) ?_
        exact hret 2 (mpd_3, v12, 1, mpof_5, f11) H locs 95 ls rfl ⟨(show ((2 : Int32).toInt = 3 ∧ RD mpof_5 f11 mpd_3 v12 1 (K + 1)) ∨ ((0 ≤ (2 : Int32).toInt ∧ (2 : Int32).toInt < 3) ∧ RD mpof_5 f11 mpd_3 v12 0 (K + 1)) ∨ (2 : Int32).toInt < 0 from by exact Or.inr (Or.inl ⟨by omega, RD_op hse (by unfold isOp; omega) (by rw [if_neg (by omega)]) (by omega) ef11⟩)), (show (1 : Int32).toInt = 0 ∨ (1 : Int32).toInt = 1 from by first | rfl | assumption | omega), trivial⟩ hP hD hS dX9_behind_95
      · have c10' := I_eq c10
        refine lv_iload_n hx hb dX9_behind_55 rfl (lv_at hl 1 rfl) ?_
        refine lv_iconst (v := 5) hx hb dX9_behind_56 (by decide) ?_
        refine lv_icmp_eq (tgt := 66) hx hb dX9_behind_57 (by decide) (fun c13 => ?_) (fun c13 => ?_)
        · have c13' := I_eq c13
          refine lv_iconst (v := 1) hx hb dX9_behind_66 (by decide) ?_
          refine lv_goto (tgt := 71) hx hb dX9_behind_67 (by decide) ?_
          refine va_put (D := (dC, dI)) (ci := 8) (v := .int 1) (ty := .boolean) (C := RX9) (T := TX9) (N := 32) hx hb hts inG_X9 tyX9 tyX9_ok nmX9 hown hK hP hD hS 0 rfl rfl 14 (by decide) (hts _ fl_X9_106) (fun _ h9 => h9) rfl (by decide +kernel) (by first | rfl | exact I_narz (by omega)) rfl (Nat.le_of_ble_eq_true rfl) dX9_behind_71 (fun H locs hP hD hS => ?_)
          have hP : va_P (dC, dI) vwCl [(m0, .inr (8, [.int mth, .int mst, .ref mp, .int mln, .ref mk, .int mts, .ref mti, .ref mtw, .ref mi, .int mmn, .ref mpo, .int mpd_3, .ref mpi, .int mpl_4, .int 1, .ref mre, .ref mnn, .ref mwo, .ref mga, .ref mlo, .ref mro, .ref mle, .ref mra, .int mme, .ref mha, .int mch, .int mtm, .int mgo, .int mwa, .ref mba, .int mbl, .ref mon])), (mpo, .inl (cI, 12, .inl mpof_5)), (mpi, .inl (cI, 26, .inl mpif))] H := hP
          have hD : va_D A [(m0, .inr (8, [.int mth, .int mst, .ref mp, .int mln, .ref mk, .int mts, .ref mti, .ref mtw, .ref mi, .int mmn, .ref mpo, .int mpd_3, .ref mpi, .int mpl_4, .int 1, .ref mre, .ref mnn, .ref mwo, .ref mga, .ref mlo, .ref mro, .ref mle, .ref mra, .int mme, .ref mha, .int mch, .int mtm, .int mgo, .int mwa, .ref mba, .int mbl, .ref mon])), (mpo, .inl (cI, 12, .inl mpof_5)), (mpi, .inl (cI, 26, .inl mpif))] := hD
          refine lv_aload_n hx hb dX9_behind_74 rfl (lv_at hl 0 rfl) ?_
          refine va_get (D := (dC, dI)) (ci := 8) (v := .ref mpi) (C := RX9) (T := TX9) (N := 32) hx hb hts inG_X9 hown hK hP 0 rfl rfl 12 (by decide) (hts _ fl_X9_28) (fun _ h9 => h9) rfl dX9_behind_75 ?_
          refine lv_aload_n hx hb dX9_behind_78 rfl (lv_at hl 0 rfl) ?_
          refine va_get (D := (dC, dI)) (ci := 8) (v := .int mpl_4) (C := RX9) (T := TX9) (N := 32) hx hb hts inG_X9 hown hK hP 0 rfl rfl 13 (by decide) (hts _ fl_X9_94) (fun _ h9 => h9) rfl dX9_behind_79 ?_
          refine lv_iload_n hx hb dX9_behind_82 rfl (lv_at hl 1 rfl) ?_
          refine va_iast (t0 := 0) hx hb hK hP hD hS 2 (ha := rfl) (ht := rfl) (I_in (by omega) (by omega)) dX9_behind_83 (fun H locs hP hD hS => ?_)
          have hP : va_P (dC, dI) vwCl [(m0, .inr (8, [.int mth, .int mst, .ref mp, .int mln, .ref mk, .int mts, .ref mti, .ref mtw, .ref mi, .int mmn, .ref mpo, .int mpd_3, .ref mpi, .int mpl_4, .int 1, .ref mre, .ref mnn, .ref mwo, .ref mga, .ref mlo, .ref mro, .ref mle, .ref mra, .int mme, .ref mha, .int mch, .int mtm, .int mgo, .int mwa, .ref mba, .int mbl, .ref mon])), (mpo, .inl (cI, 12, .inl mpof_5)), (mpi, .inl (cI, 26, .inl (upd mpif mpl_4.toNatClampNeg x)))] H := hP
          have hD : va_D A [(m0, .inr (8, [.int mth, .int mst, .ref mp, .int mln, .ref mk, .int mts, .ref mti, .ref mtw, .ref mi, .int mmn, .ref mpo, .int mpd_3, .ref mpi, .int mpl_4, .int 1, .ref mre, .ref mnn, .ref mwo, .ref mga, .ref mlo, .ref mro, .ref mle, .ref mra, .int mme, .ref mha, .int mch, .int mtm, .int mgo, .int mwa, .ref mba, .int mbl, .ref mon])), (mpo, .inl (cI, 12, .inl mpof_5)), (mpi, .inl (cI, 26, .inl (upd mpif mpl_4.toNatClampNeg x)))] := hD
          generalize ef14 : upd mpif mpl_4.toNatClampNeg x = f14 at hP hD
          refine lv_aload_n hx hb dX9_behind_84 rfl (lv_at hl 0 rfl) ?_
          refine lv_dup hx hb dX9_behind_85 rfl ?_
          refine va_get (D := (dC, dI)) (ci := 8) (v := .int mpl_4) (C := RX9) (T := TX9) (N := 32) hx hb hts inG_X9 hown hK hP 0 rfl rfl 13 (by decide) (hts _ fl_X9_94) (fun _ h9 => h9) rfl dX9_behind_86 ?_
          refine lv_iconst (v := 1) hx hb dX9_behind_89 (by decide) ?_
          refine lv_iadd hx hb dX9_behind_90 ?_
          refine lv_topi (fun v15 ev15 => ?_)
          try have hv15 : v15.toInt = mpl_4.toInt + (1 : Int32).toInt := I_addx ev15 (by omega)
          refine va_put (D := (dC, dI)) (ci := 8) (v := .int v15) (ty := .int) (C := RX9) (T := TX9) (N := 32) hx hb hts inG_X9 tyX9 tyX9_ok nmX9 hown hK hP hD hS 0 rfl rfl 13 (by decide) (hts _ fl_X9_94) (fun _ h9 => h9) rfl (by decide +kernel) rfl rfl (Nat.le_of_ble_eq_true rfl) dX9_behind_91 (fun H locs hP hD hS => ?_)
          have hP : va_P (dC, dI) vwCl [(m0, .inr (8, [.int mth, .int mst, .ref mp, .int mln, .ref mk, .int mts, .ref mti, .ref mtw, .ref mi, .int mmn, .ref mpo, .int mpd_3, .ref mpi, .int v15, .int 1, .ref mre, .ref mnn, .ref mwo, .ref mga, .ref mlo, .ref mro, .ref mle, .ref mra, .int mme, .ref mha, .int mch, .int mtm, .int mgo, .int mwa, .ref mba, .int mbl, .ref mon])), (mpo, .inl (cI, 12, .inl mpof_5)), (mpi, .inl (cI, 26, .inl f14))] H := hP
          have hD : va_D A [(m0, .inr (8, [.int mth, .int mst, .ref mp, .int mln, .ref mk, .int mts, .ref mti, .ref mtw, .ref mi, .int mmn, .ref mpo, .int mpd_3, .ref mpi, .int v15, .int 1, .ref mre, .ref mnn, .ref mwo, .ref mga, .ref mlo, .ref mro, .ref mle, .ref mra, .int mme, .ref mha, .int mch, .int mtm, .int mgo, .int mwa, .ref mba, .int mbl, .ref mon])), (mpo, .inl (cI, 12, .inl mpof_5)), (mpi, .inl (cI, 26, .inl f14))] := hD
          refine lv_iconst (v := 2) hx hb dX9_behind_94 (by decide) ?_
          exact hret 2 (mpd_3, v15, 1, mpof_5, f14) H locs 95 ls rfl ⟨(show ((2 : Int32).toInt = 3 ∧ RD mpof_5 f14 mpd_3 v15 1 (K + 1)) ∨ ((0 ≤ (2 : Int32).toInt ∧ (2 : Int32).toInt < 3) ∧ RD mpof_5 f14 mpd_3 v15 0 (K + 1)) ∨ (2 : Int32).toInt < 0 from by exact Or.inr (Or.inl ⟨by omega, RD_op hse (by unfold isOp; omega) (by rw [if_neg (by omega)]) (by omega) ef14⟩)), (show (1 : Int32).toInt = 0 ∨ (1 : Int32).toInt = 1 from by first | rfl | assumption | omega), trivial⟩ hP hD hS dX9_behind_95
        · have c13' := I_ne c13
          refine lv_iload_n hx hb dX9_behind_60 rfl (lv_at hl 1 rfl) ?_
          refine lv_bipush (v := 6) hx hb dX9_behind_61 (by decide) ?_
          refine lv_icmp_ne (tgt := 70) hx hb dX9_behind_63 (by decide) (fun c16 => ?_) (fun c16 => ?_)
          · have c16' := I_ne c16
            refine lv_iconst (v := 0) hx hb dX9_behind_70 (by decide) ?_
            refine va_put (D := (dC, dI)) (ci := 8) (v := .int 0) (ty := .boolean) (C := RX9) (T := TX9) (N := 32) hx hb hts inG_X9 tyX9 tyX9_ok nmX9 hown hK hP hD hS 0 rfl rfl 14 (by decide) (hts _ fl_X9_106) (fun _ h9 => h9) rfl (by decide +kernel) (by first | rfl | exact I_narz (by omega)) rfl (Nat.le_of_ble_eq_true rfl) dX9_behind_71 (fun H locs hP hD hS => ?_)
            have hP : va_P (dC, dI) vwCl [(m0, .inr (8, [.int mth, .int mst, .ref mp, .int mln, .ref mk, .int mts, .ref mti, .ref mtw, .ref mi, .int mmn, .ref mpo, .int mpd_3, .ref mpi, .int mpl_4, .int 0, .ref mre, .ref mnn, .ref mwo, .ref mga, .ref mlo, .ref mro, .ref mle, .ref mra, .int mme, .ref mha, .int mch, .int mtm, .int mgo, .int mwa, .ref mba, .int mbl, .ref mon])), (mpo, .inl (cI, 12, .inl mpof_5)), (mpi, .inl (cI, 26, .inl mpif))] H := hP
            have hD : va_D A [(m0, .inr (8, [.int mth, .int mst, .ref mp, .int mln, .ref mk, .int mts, .ref mti, .ref mtw, .ref mi, .int mmn, .ref mpo, .int mpd_3, .ref mpi, .int mpl_4, .int 0, .ref mre, .ref mnn, .ref mwo, .ref mga, .ref mlo, .ref mro, .ref mle, .ref mra, .int mme, .ref mha, .int mch, .int mtm, .int mgo, .int mwa, .ref mba, .int mbl, .ref mon])), (mpo, .inl (cI, 12, .inl mpof_5)), (mpi, .inl (cI, 26, .inl mpif))] := hD
            refine lv_aload_n hx hb dX9_behind_74 rfl (lv_at hl 0 rfl) ?_
            refine va_get (D := (dC, dI)) (ci := 8) (v := .ref mpi) (C := RX9) (T := TX9) (N := 32) hx hb hts inG_X9 hown hK hP 0 rfl rfl 12 (by decide) (hts _ fl_X9_28) (fun _ h9 => h9) rfl dX9_behind_75 ?_
            refine lv_aload_n hx hb dX9_behind_78 rfl (lv_at hl 0 rfl) ?_
            refine va_get (D := (dC, dI)) (ci := 8) (v := .int mpl_4) (C := RX9) (T := TX9) (N := 32) hx hb hts inG_X9 hown hK hP 0 rfl rfl 13 (by decide) (hts _ fl_X9_94) (fun _ h9 => h9) rfl dX9_behind_79 ?_
            refine lv_iload_n hx hb dX9_behind_82 rfl (lv_at hl 1 rfl) ?_
            refine va_iast (t0 := 0) hx hb hK hP hD hS 2 (ha := rfl) (ht := rfl) (I_in (by omega) (by omega)) dX9_behind_83 (fun H locs hP hD hS => ?_)
            have hP : va_P (dC, dI) vwCl [(m0, .inr (8, [.int mth, .int mst, .ref mp, .int mln, .ref mk, .int mts, .ref mti, .ref mtw, .ref mi, .int mmn, .ref mpo, .int mpd_3, .ref mpi, .int mpl_4, .int 0, .ref mre, .ref mnn, .ref mwo, .ref mga, .ref mlo, .ref mro, .ref mle, .ref mra, .int mme, .ref mha, .int mch, .int mtm, .int mgo, .int mwa, .ref mba, .int mbl, .ref mon])), (mpo, .inl (cI, 12, .inl mpof_5)), (mpi, .inl (cI, 26, .inl (upd mpif mpl_4.toNatClampNeg x)))] H := hP
            have hD : va_D A [(m0, .inr (8, [.int mth, .int mst, .ref mp, .int mln, .ref mk, .int mts, .ref mti, .ref mtw, .ref mi, .int mmn, .ref mpo, .int mpd_3, .ref mpi, .int mpl_4, .int 0, .ref mre, .ref mnn, .ref mwo, .ref mga, .ref mlo, .ref mro, .ref mle, .ref mra, .int mme, .ref mha, .int mch, .int mtm, .int mgo, .int mwa, .ref mba, .int mbl, .ref mon])), (mpo, .inl (cI, 12, .inl mpof_5)), (mpi, .inl (cI, 26, .inl (upd mpif mpl_4.toNatClampNeg x)))] := hD
            generalize ef17 : upd mpif mpl_4.toNatClampNeg x = f17 at hP hD
            refine lv_aload_n hx hb dX9_behind_84 rfl (lv_at hl 0 rfl) ?_
            refine lv_dup hx hb dX9_behind_85 rfl ?_
            refine va_get (D := (dC, dI)) (ci := 8) (v := .int mpl_4) (C := RX9) (T := TX9) (N := 32) hx hb hts inG_X9 hown hK hP 0 rfl rfl 13 (by decide) (hts _ fl_X9_94) (fun _ h9 => h9) rfl dX9_behind_86 ?_
            refine lv_iconst (v := 1) hx hb dX9_behind_89 (by decide) ?_
            refine lv_iadd hx hb dX9_behind_90 ?_
            refine lv_topi (fun v18 ev18 => ?_)
            try have hv18 : v18.toInt = mpl_4.toInt + (1 : Int32).toInt := I_addx ev18 (by omega)
            refine va_put (D := (dC, dI)) (ci := 8) (v := .int v18) (ty := .int) (C := RX9) (T := TX9) (N := 32) hx hb hts inG_X9 tyX9 tyX9_ok nmX9 hown hK hP hD hS 0 rfl rfl 13 (by decide) (hts _ fl_X9_94) (fun _ h9 => h9) rfl (by decide +kernel) rfl rfl (Nat.le_of_ble_eq_true rfl) dX9_behind_91 (fun H locs hP hD hS => ?_)
            have hP : va_P (dC, dI) vwCl [(m0, .inr (8, [.int mth, .int mst, .ref mp, .int mln, .ref mk, .int mts, .ref mti, .ref mtw, .ref mi, .int mmn, .ref mpo, .int mpd_3, .ref mpi, .int v18, .int 0, .ref mre, .ref mnn, .ref mwo, .ref mga, .ref mlo, .ref mro, .ref mle, .ref mra, .int mme, .ref mha, .int mch, .int mtm, .int mgo, .int mwa, .ref mba, .int mbl, .ref mon])), (mpo, .inl (cI, 12, .inl mpof_5)), (mpi, .inl (cI, 26, .inl f17))] H := hP
            have hD : va_D A [(m0, .inr (8, [.int mth, .int mst, .ref mp, .int mln, .ref mk, .int mts, .ref mti, .ref mtw, .ref mi, .int mmn, .ref mpo, .int mpd_3, .ref mpi, .int v18, .int 0, .ref mre, .ref mnn, .ref mwo, .ref mga, .ref mlo, .ref mro, .ref mle, .ref mra, .int mme, .ref mha, .int mch, .int mtm, .int mgo, .int mwa, .ref mba, .int mbl, .ref mon])), (mpo, .inl (cI, 12, .inl mpof_5)), (mpi, .inl (cI, 26, .inl f17))] := hD
            refine lv_iconst (v := 2) hx hb dX9_behind_94 (by decide) ?_
            exact hret 2 (mpd_3, v18, 0, mpof_5, f17) H locs 95 ls rfl ⟨(show ((2 : Int32).toInt = 3 ∧ RD mpof_5 f17 mpd_3 v18 1 (K + 1)) ∨ ((0 ≤ (2 : Int32).toInt ∧ (2 : Int32).toInt < 3) ∧ RD mpof_5 f17 mpd_3 v18 0 (K + 1)) ∨ (2 : Int32).toInt < 0 from by exact Or.inr (Or.inl ⟨by omega, RD_op hse (by unfold isOp; omega) (by rw [if_neg (by omega)]) (by omega) ef17⟩)), (show (0 : Int32).toInt = 0 ∨ (0 : Int32).toInt = 1 from by first | rfl | assumption | omega), trivial⟩ hP hD hS dX9_behind_95
          · have c16' := I_eq c16
            refine lv_iconst (v := 1) hx hb dX9_behind_66 (by decide) ?_
            refine lv_goto (tgt := 71) hx hb dX9_behind_67 (by decide) ?_
            refine va_put (D := (dC, dI)) (ci := 8) (v := .int 1) (ty := .boolean) (C := RX9) (T := TX9) (N := 32) hx hb hts inG_X9 tyX9 tyX9_ok nmX9 hown hK hP hD hS 0 rfl rfl 14 (by decide) (hts _ fl_X9_106) (fun _ h9 => h9) rfl (by decide +kernel) (by first | rfl | exact I_narz (by omega)) rfl (Nat.le_of_ble_eq_true rfl) dX9_behind_71 (fun H locs hP hD hS => ?_)
            have hP : va_P (dC, dI) vwCl [(m0, .inr (8, [.int mth, .int mst, .ref mp, .int mln, .ref mk, .int mts, .ref mti, .ref mtw, .ref mi, .int mmn, .ref mpo, .int mpd_3, .ref mpi, .int mpl_4, .int 1, .ref mre, .ref mnn, .ref mwo, .ref mga, .ref mlo, .ref mro, .ref mle, .ref mra, .int mme, .ref mha, .int mch, .int mtm, .int mgo, .int mwa, .ref mba, .int mbl, .ref mon])), (mpo, .inl (cI, 12, .inl mpof_5)), (mpi, .inl (cI, 26, .inl mpif))] H := hP
            have hD : va_D A [(m0, .inr (8, [.int mth, .int mst, .ref mp, .int mln, .ref mk, .int mts, .ref mti, .ref mtw, .ref mi, .int mmn, .ref mpo, .int mpd_3, .ref mpi, .int mpl_4, .int 1, .ref mre, .ref mnn, .ref mwo, .ref mga, .ref mlo, .ref mro, .ref mle, .ref mra, .int mme, .ref mha, .int mch, .int mtm, .int mgo, .int mwa, .ref mba, .int mbl, .ref mon])), (mpo, .inl (cI, 12, .inl mpof_5)), (mpi, .inl (cI, 26, .inl mpif))] := hD
            refine lv_aload_n hx hb dX9_behind_74 rfl (lv_at hl 0 rfl) ?_
            refine va_get (D := (dC, dI)) (ci := 8) (v := .ref mpi) (C := RX9) (T := TX9) (N := 32) hx hb hts inG_X9 hown hK hP 0 rfl rfl 12 (by decide) (hts _ fl_X9_28) (fun _ h9 => h9) rfl dX9_behind_75 ?_
            refine lv_aload_n hx hb dX9_behind_78 rfl (lv_at hl 0 rfl) ?_
            refine va_get (D := (dC, dI)) (ci := 8) (v := .int mpl_4) (C := RX9) (T := TX9) (N := 32) hx hb hts inG_X9 hown hK hP 0 rfl rfl 13 (by decide) (hts _ fl_X9_94) (fun _ h9 => h9) rfl dX9_behind_79 ?_
            refine lv_iload_n hx hb dX9_behind_82 rfl (lv_at hl 1 rfl) ?_
            refine va_iast (t0 := 0) hx hb hK hP hD hS 2 (ha := rfl) (ht := rfl) (I_in (by omega) (by omega)) dX9_behind_83 (fun H locs hP hD hS => ?_)
            have hP : va_P (dC, dI) vwCl [(m0, .inr (8, [.int mth, .int mst, .ref mp, .int mln, .ref mk, .int mts, .ref mti, .ref mtw, .ref mi, .int mmn, .ref mpo, .int mpd_3, .ref mpi, .int mpl_4, .int 1, .ref mre, .ref mnn, .ref mwo, .ref mga, .ref mlo, .ref mro, .ref mle, .ref mra, .int mme, .ref mha, .int mch, .int mtm, .int mgo, .int mwa, .ref mba, .int mbl, .ref mon])), (mpo, .inl (cI, 12, .inl mpof_5)), (mpi, .inl (cI, 26, .inl (upd mpif mpl_4.toNatClampNeg x)))] H := hP
            have hD : va_D A [(m0, .inr (8, [.int mth, .int mst, .ref mp, .int mln, .ref mk, .int mts, .ref mti, .ref mtw, .ref mi, .int mmn, .ref mpo, .int mpd_3, .ref mpi, .int mpl_4, .int 1, .ref mre, .ref mnn, .ref mwo, .ref mga, .ref mlo, .ref mro, .ref mle, .ref mra, .int mme, .ref mha, .int mch, .int mtm, .int mgo, .int mwa, .ref mba, .int mbl, .ref mon])), (mpo, .inl (cI, 12, .inl mpof_5)), (mpi, .inl (cI, 26, .inl (upd mpif mpl_4.toNatClampNeg x)))] := hD
            generalize ef19 : upd mpif mpl_4.toNatClampNeg x = f19 at hP hD
            refine lv_aload_n hx hb dX9_behind_84 rfl (lv_at hl 0 rfl) ?_
            refine lv_dup hx hb dX9_behind_85 rfl ?_
            refine va_get (D := (dC, dI)) (ci := 8) (v := .int mpl_4) (C := RX9) (T := TX9) (N := 32) hx hb hts inG_X9 hown hK hP 0 rfl rfl 13 (by decide) (hts _ fl_X9_94) (fun _ h9 => h9) rfl dX9_behind_86 ?_
            refine lv_iconst (v := 1) hx hb dX9_behind_89 (by decide) ?_
            refine lv_iadd hx hb dX9_behind_90 ?_
            refine lv_topi (fun v20 ev20 => ?_)
            try have hv20 : v20.toInt = mpl_4.toInt + (1 : Int32).toInt := I_addx ev20 (by omega)
            refine va_put (D := (dC, dI)) (ci := 8) (v := .int v20) (ty := .int) (C := RX9) (T := TX9) (N := 32) hx hb hts inG_X9 tyX9 tyX9_ok nmX9 hown hK hP hD hS 0 rfl rfl 13 (by decide) (hts _ fl_X9_94) (fun _ h9 => h9) rfl (by decide +kernel) rfl rfl (Nat.le_of_ble_eq_true rfl) dX9_behind_91 (fun H locs hP hD hS => ?_)
            have hP : va_P (dC, dI) vwCl [(m0, .inr (8, [.int mth, .int mst, .ref mp, .int mln, .ref mk, .int mts, .ref mti, .ref mtw, .ref mi, .int mmn, .ref mpo, .int mpd_3, .ref mpi, .int v20, .int 1, .ref mre, .ref mnn, .ref mwo, .ref mga, .ref mlo, .ref mro, .ref mle, .ref mra, .int mme, .ref mha, .int mch, .int mtm, .int mgo, .int mwa, .ref mba, .int mbl, .ref mon])), (mpo, .inl (cI, 12, .inl mpof_5)), (mpi, .inl (cI, 26, .inl f19))] H := hP
            have hD : va_D A [(m0, .inr (8, [.int mth, .int mst, .ref mp, .int mln, .ref mk, .int mts, .ref mti, .ref mtw, .ref mi, .int mmn, .ref mpo, .int mpd_3, .ref mpi, .int v20, .int 1, .ref mre, .ref mnn, .ref mwo, .ref mga, .ref mlo, .ref mro, .ref mle, .ref mra, .int mme, .ref mha, .int mch, .int mtm, .int mgo, .int mwa, .ref mba, .int mbl, .ref mon])), (mpo, .inl (cI, 12, .inl mpof_5)), (mpi, .inl (cI, 26, .inl f19))] := hD
            refine lv_iconst (v := 2) hx hb dX9_behind_94 (by decide) ?_
            exact hret 2 (mpd_3, v20, 1, mpof_5, f19) H locs 95 ls rfl ⟨(show ((2 : Int32).toInt = 3 ∧ RD mpof_5 f19 mpd_3 v20 1 (K + 1)) ∨ ((0 ≤ (2 : Int32).toInt ∧ (2 : Int32).toInt < 3) ∧ RD mpof_5 f19 mpd_3 v20 0 (K + 1)) ∨ (2 : Int32).toInt < 0 from by exact Or.inr (Or.inl ⟨by omega, RD_op hse (by unfold isOp; omega) (by rw [if_neg (by omega)]) (by omega) ef19⟩)), (show (1 : Int32).toInt = 0 ∨ (1 : Int32).toInt = 1 from by first | rfl | assumption | omega), trivial⟩ hP hD hS dX9_behind_95
    · have c1' := I_eq c1
      refine lv_iconst (v := 5) hx hb dX9_behind_39 (by decide) ?_
      refine lv_goto (tgt := 44) hx hb dX9_behind_40 (by decide) ?_
      refine calV (rest := []) (wr := []) hG (c_X9_settle l dC dI cI cJ base bB bO m0 mth mst mp mln mk mts mti mtw mi mmn mpo mpd mpi mpl mcp mre mnn mwo mga mlo mro mle mra mme mha mch mtm mgo mwa mba mbl mon mpof mpif 5 K (by first | assumption | omega) (by first | assumption | omega) (by first | assumption | omega)) ml_X9_110 im_X9_settle se_X9_settle ini_X9 cd_X9_settle hd_X9_settle ⟨(Nat.le_of_ble_eq_true rfl), (Nat.le_of_ble_eq_true rfl)⟩ (Nat.le_of_ble_eq_true rfl) (Nat.le_of_ble_eq_true rfl) hP hD hS [0, 1, 2] [] rfl rfl rfl rfl (by decide) 8 0 rfl rfl hl.1 rfl (Nat.le_of_ble_eq_true rfl) dX9_behind_44 (fun u H locs hw21 hP hD hS => ?_)
      obtain ⟨mpd_22, mpl_23, mpof_24⟩ := u
      have hw21 : (RD mpof_24 mpif mpd_22 mpl_23 1 K) ∧ (mpl_23.toInt ≤ mpl.toInt) ∧ (mpl_23.toInt = 0 ∨ 1 < (5 : Int32).toInt ∨ isFr (mpif (mpl_23.toInt - 1).toNat).toInt) ∧ (∀ w : Int, FF mpif mpl.toInt w → FF mpif mpl_23.toInt w) ∧ True := hw21
      obtain ⟨hp25, hp26, hp27, hp28, -⟩ := hw21
      have hP : va_P (dC, dI) vwCl [(m0, .inr (8, [.int mth, .int mst, .ref mp, .int mln, .ref mk, .int mts, .ref mti, .ref mtw, .ref mi, .int mmn, .ref mpo, .int mpd_22, .ref mpi, .int mpl_23, .int mcp, .ref mre, .ref mnn, .ref mwo, .ref mga, .ref mlo, .ref mro, .ref mle, .ref mra, .int mme, .ref mha, .int mch, .int mtm, .int mgo, .int mwa, .ref mba, .int mbl, .ref mon])), (mpo, .inl (cI, 12, .inl mpof_24)), (mpi, .inl (cI, 26, .inl mpif))] H := hP
      have hD : va_D A [(m0, .inr (8, [.int mth, .int mst, .ref mp, .int mln, .ref mk, .int mts, .ref mti, .ref mtw, .ref mi, .int mmn, .ref mpo, .int mpd_22, .ref mpi, .int mpl_23, .int mcp, .ref mre, .ref mnn, .ref mwo, .ref mga, .ref mlo, .ref mro, .ref mle, .ref mra, .int mme, .ref mha, .int mch, .int mtm, .int mgo, .int mwa, .ref mba, .int mbl, .ref mon])), (mpo, .inl (cI, 12, .inl mpof_24)), (mpi, .inl (cI, 26, .inl mpif))] := hD
      have hse := hp25
      have hseb := RD_b hse
      refine lv_aload_n hx hb dX9_behind_47 rfl (lv_at hl 0 rfl) ?_
      refine lv_aload_n hx hb dX9_behind_48 rfl (lv_at hl 0 rfl) ?_
      refine va_get (D := (dC, dI)) (ci := 8) (v := .int mcp) (C := RX9) (T := TX9) (N := 32) hx hb hts inG_X9 hown hK hP 0 rfl rfl 14 (by decide) (hts _ fl_X9_106) (fun _ h9 => h9) rfl dX9_behind_49 ?_
      refine lv_if_ne (tgt := 66) hx hb dX9_behind_52 (by decide) (fun c29 => ?_) (fun c29 => ?_)
      · have c29' := I_ne c29
        refine lv_iconst (v := 1) hx hb dX9_behind_66 (by decide) ?_
        refine lv_goto (tgt := 71) hx hb dX9_behind_67 (by decide) ?_
        refine va_put (D := (dC, dI)) (ci := 8) (v := .int 1) (ty := .boolean) (C := RX9) (T := TX9) (N := 32) hx hb hts inG_X9 tyX9 tyX9_ok nmX9 hown hK hP hD hS 0 rfl rfl 14 (by decide) (hts _ fl_X9_106) (fun _ h9 => h9) rfl (by decide +kernel) (by first | rfl | exact I_narz (by omega)) rfl (Nat.le_of_ble_eq_true rfl) dX9_behind_71 (fun H locs hP hD hS => ?_)
        have hP : va_P (dC, dI) vwCl [(m0, .inr (8, [.int mth, .int mst, .ref mp, .int mln, .ref mk, .int mts, .ref mti, .ref mtw, .ref mi, .int mmn, .ref mpo, .int mpd_22, .ref mpi, .int mpl_23, .int 1, .ref mre, .ref mnn, .ref mwo, .ref mga, .ref mlo, .ref mro, .ref mle, .ref mra, .int mme, .ref mha, .int mch, .int mtm, .int mgo, .int mwa, .ref mba, .int mbl, .ref mon])), (mpo, .inl (cI, 12, .inl mpof_24)), (mpi, .inl (cI, 26, .inl mpif))] H := hP
        have hD : va_D A [(m0, .inr (8, [.int mth, .int mst, .ref mp, .int mln, .ref mk, .int mts, .ref mti, .ref mtw, .ref mi, .int mmn, .ref mpo, .int mpd_22, .ref mpi, .int mpl_23, .int 1, .ref mre, .ref mnn, .ref mwo, .ref mga, .ref mlo, .ref mro, .ref mle, .ref mra, .int mme, .ref mha, .int mch, .int mtm, .int mgo, .int mwa, .ref mba, .int mbl, .ref mon])), (mpo, .inl (cI, 12, .inl mpof_24)), (mpi, .inl (cI, 26, .inl mpif))] := hD
        refine lv_aload_n hx hb dX9_behind_74 rfl (lv_at hl 0 rfl) ?_
        refine va_get (D := (dC, dI)) (ci := 8) (v := .ref mpi) (C := RX9) (T := TX9) (N := 32) hx hb hts inG_X9 hown hK hP 0 rfl rfl 12 (by decide) (hts _ fl_X9_28) (fun _ h9 => h9) rfl dX9_behind_75 ?_
        refine lv_aload_n hx hb dX9_behind_78 rfl (lv_at hl 0 rfl) ?_
        refine va_get (D := (dC, dI)) (ci := 8) (v := .int mpl_23) (C := RX9) (T := TX9) (N := 32) hx hb hts inG_X9 hown hK hP 0 rfl rfl 13 (by decide) (hts _ fl_X9_94) (fun _ h9 => h9) rfl dX9_behind_79 ?_
        refine lv_iload_n hx hb dX9_behind_82 rfl (lv_at hl 1 rfl) ?_
        refine va_iast (t0 := 0) hx hb hK hP hD hS 2 (ha := rfl) (ht := rfl) (I_in (by omega) (by omega)) dX9_behind_83 (fun H locs hP hD hS => ?_)
        have hP : va_P (dC, dI) vwCl [(m0, .inr (8, [.int mth, .int mst, .ref mp, .int mln, .ref mk, .int mts, .ref mti, .ref mtw, .ref mi, .int mmn, .ref mpo, .int mpd_22, .ref mpi, .int mpl_23, .int 1, .ref mre, .ref mnn, .ref mwo, .ref mga, .ref mlo, .ref mro, .ref mle, .ref mra, .int mme, .ref mha, .int mch, .int mtm, .int mgo, .int mwa, .ref mba, .int mbl, .ref mon])), (mpo, .inl (cI, 12, .inl mpof_24)), (mpi, .inl (cI, 26, .inl (upd mpif mpl_23.toNatClampNeg x)))] H := hP
        have hD : va_D A [(m0, .inr (8, [.int mth, .int mst, .ref mp, .int mln, .ref mk, .int mts, .ref mti, .ref mtw, .ref mi, .int mmn, .ref mpo, .int mpd_22, .ref mpi, .int mpl_23, .int 1, .ref mre, .ref mnn, .ref mwo, .ref mga, .ref mlo, .ref mro, .ref mle, .ref mra, .int mme, .ref mha, .int mch, .int mtm, .int mgo, .int mwa, .ref mba, .int mbl, .ref mon])), (mpo, .inl (cI, 12, .inl mpof_24)), (mpi, .inl (cI, 26, .inl (upd mpif mpl_23.toNatClampNeg x)))] := hD
        generalize ef30 : upd mpif mpl_23.toNatClampNeg x = f30 at hP hD
        refine lv_aload_n hx hb dX9_behind_84 rfl (lv_at hl 0 rfl) ?_
        refine lv_dup hx hb dX9_behind_85 rfl ?_
        refine va_get (D := (dC, dI)) (ci := 8) (v := .int mpl_23) (C := RX9) (T := TX9) (N := 32) hx hb hts inG_X9 hown hK hP 0 rfl rfl 13 (by decide) (hts _ fl_X9_94) (fun _ h9 => h9) rfl dX9_behind_86 ?_
        refine lv_iconst (v := 1) hx hb dX9_behind_89 (by decide) ?_
        refine lv_iadd hx hb dX9_behind_90 ?_
        refine lv_topi (fun v31 ev31 => ?_)
        try have hv31 : v31.toInt = mpl_23.toInt + (1 : Int32).toInt := I_addx ev31 (by omega)
        refine va_put (D := (dC, dI)) (ci := 8) (v := .int v31) (ty := .int) (C := RX9) (T := TX9) (N := 32) hx hb hts inG_X9 tyX9 tyX9_ok nmX9 hown hK hP hD hS 0 rfl rfl 13 (by decide) (hts _ fl_X9_94) (fun _ h9 => h9) rfl (by decide +kernel) rfl rfl (Nat.le_of_ble_eq_true rfl) dX9_behind_91 (fun H locs hP hD hS => ?_)
        have hP : va_P (dC, dI) vwCl [(m0, .inr (8, [.int mth, .int mst, .ref mp, .int mln, .ref mk, .int mts, .ref mti, .ref mtw, .ref mi, .int mmn, .ref mpo, .int mpd_22, .ref mpi, .int v31, .int 1, .ref mre, .ref mnn, .ref mwo, .ref mga, .ref mlo, .ref mro, .ref mle, .ref mra, .int mme, .ref mha, .int mch, .int mtm, .int mgo, .int mwa, .ref mba, .int mbl, .ref mon])), (mpo, .inl (cI, 12, .inl mpof_24)), (mpi, .inl (cI, 26, .inl f30))] H := hP
        have hD : va_D A [(m0, .inr (8, [.int mth, .int mst, .ref mp, .int mln, .ref mk, .int mts, .ref mti, .ref mtw, .ref mi, .int mmn, .ref mpo, .int mpd_22, .ref mpi, .int v31, .int 1, .ref mre, .ref mnn, .ref mwo, .ref mga, .ref mlo, .ref mro, .ref mle, .ref mra, .int mme, .ref mha, .int mch, .int mtm, .int mgo, .int mwa, .ref mba, .int mbl, .ref mon])), (mpo, .inl (cI, 12, .inl mpof_24)), (mpi, .inl (cI, 26, .inl f30))] := hD
        refine lv_iconst (v := 2) hx hb dX9_behind_94 (by decide) ?_
        exact hret 2 (mpd_22, v31, 1, mpof_24, f30) H locs 95 ls rfl ⟨(show ((2 : Int32).toInt = 3 ∧ RD mpof_24 f30 mpd_22 v31 1 (K + 1)) ∨ ((0 ≤ (2 : Int32).toInt ∧ (2 : Int32).toInt < 3) ∧ RD mpof_24 f30 mpd_22 v31 0 (K + 1)) ∨ (2 : Int32).toInt < 0 from by exact Or.inr (Or.inl ⟨by omega, RD_op hse (by unfold isOp; omega) (by rw [if_neg (by omega)]) (by omega) ef30⟩)), (show (1 : Int32).toInt = 0 ∨ (1 : Int32).toInt = 1 from by first | rfl | assumption | omega), trivial⟩ hP hD hS dX9_behind_95
      · have c29' := I_eq c29
        refine lv_iload_n hx hb dX9_behind_55 rfl (lv_at hl 1 rfl) ?_
        refine lv_iconst (v := 5) hx hb dX9_behind_56 (by decide) ?_
        refine lv_icmp_eq (tgt := 66) hx hb dX9_behind_57 (by decide) (fun c32 => ?_) (fun c32 => ?_)
        · have c32' := I_eq c32
          refine lv_iconst (v := 1) hx hb dX9_behind_66 (by decide) ?_
          refine lv_goto (tgt := 71) hx hb dX9_behind_67 (by decide) ?_
          refine va_put (D := (dC, dI)) (ci := 8) (v := .int 1) (ty := .boolean) (C := RX9) (T := TX9) (N := 32) hx hb hts inG_X9 tyX9 tyX9_ok nmX9 hown hK hP hD hS 0 rfl rfl 14 (by decide) (hts _ fl_X9_106) (fun _ h9 => h9) rfl (by decide +kernel) (by first | rfl | exact I_narz (by omega)) rfl (Nat.le_of_ble_eq_true rfl) dX9_behind_71 (fun H locs hP hD hS => ?_)
          have hP : va_P (dC, dI) vwCl [(m0, .inr (8, [.int mth, .int mst, .ref mp, .int mln, .ref mk, .int mts, .ref mti, .ref mtw, .ref mi, .int mmn, .ref mpo, .int mpd_22, .ref mpi, .int mpl_23, .int 1, .ref mre, .ref mnn, .ref mwo, .ref mga, .ref mlo, .ref mro, .ref mle, .ref mra, .int mme, .ref mha, .int mch, .int mtm, .int mgo, .int mwa, .ref mba, .int mbl, .ref mon])), (mpo, .inl (cI, 12, .inl mpof_24)), (mpi, .inl (cI, 26, .inl mpif))] H := hP
          have hD : va_D A [(m0, .inr (8, [.int mth, .int mst, .ref mp, .int mln, .ref mk, .int mts, .ref mti, .ref mtw, .ref mi, .int mmn, .ref mpo, .int mpd_22, .ref mpi, .int mpl_23, .int 1, .ref mre, .ref mnn, .ref mwo, .ref mga, .ref mlo, .ref mro, .ref mle, .ref mra, .int mme, .ref mha, .int mch, .int mtm, .int mgo, .int mwa, .ref mba, .int mbl, .ref mon])), (mpo, .inl (cI, 12, .inl mpof_24)), (mpi, .inl (cI, 26, .inl mpif))] := hD
          refine lv_aload_n hx hb dX9_behind_74 rfl (lv_at hl 0 rfl) ?_
          refine va_get (D := (dC, dI)) (ci := 8) (v := .ref mpi) (C := RX9) (T := TX9) (N := 32) hx hb hts inG_X9 hown hK hP 0 rfl rfl 12 (by decide) (hts _ fl_X9_28) (fun _ h9 => h9) rfl dX9_behind_75 ?_
          refine lv_aload_n hx hb dX9_behind_78 rfl (lv_at hl 0 rfl) ?_
          refine va_get (D := (dC, dI)) (ci := 8) (v := .int mpl_23) (C := RX9) (T := TX9) (N := 32) hx hb hts inG_X9 hown hK hP 0 rfl rfl 13 (by decide) (hts _ fl_X9_94) (fun _ h9 => h9) rfl dX9_behind_79 ?_
          refine lv_iload_n hx hb dX9_behind_82 rfl (lv_at hl 1 rfl) ?_
          refine va_iast (t0 := 0) hx hb hK hP hD hS 2 (ha := rfl) (ht := rfl) (I_in (by omega) (by omega)) dX9_behind_83 (fun H locs hP hD hS => ?_)
          have hP : va_P (dC, dI) vwCl [(m0, .inr (8, [.int mth, .int mst, .ref mp, .int mln, .ref mk, .int mts, .ref mti, .ref mtw, .ref mi, .int mmn, .ref mpo, .int mpd_22, .ref mpi, .int mpl_23, .int 1, .ref mre, .ref mnn, .ref mwo, .ref mga, .ref mlo, .ref mro, .ref mle, .ref mra, .int mme, .ref mha, .int mch, .int mtm, .int mgo, .int mwa, .ref mba, .int mbl, .ref mon])), (mpo, .inl (cI, 12, .inl mpof_24)), (mpi, .inl (cI, 26, .inl (upd mpif mpl_23.toNatClampNeg x)))] H := hP
          have hD : va_D A [(m0, .inr (8, [.int mth, .int mst, .ref mp, .int mln, .ref mk, .int mts, .ref mti, .ref mtw, .ref mi, .int mmn, .ref mpo, .int mpd_22, .ref mpi, .int mpl_23, .int 1, .ref mre, .ref mnn, .ref mwo, .ref mga, .ref mlo, .ref mro, .ref mle, .ref mra, .int mme, .ref mha, .int mch, .int mtm, .int mgo, .int mwa, .ref mba, .int mbl, .ref mon])), (mpo, .inl (cI, 12, .inl mpof_24)), (mpi, .inl (cI, 26, .inl (upd mpif mpl_23.toNatClampNeg x)))] := hD
          generalize ef33 : upd mpif mpl_23.toNatClampNeg x = f33 at hP hD
          refine lv_aload_n hx hb dX9_behind_84 rfl (lv_at hl 0 rfl) ?_
          refine lv_dup hx hb dX9_behind_85 rfl ?_
          refine va_get (D := (dC, dI)) (ci := 8) (v := .int mpl_23) (C := RX9) (T := TX9) (N := 32) hx hb hts inG_X9 hown hK hP 0 rfl rfl 13 (by decide) (hts _ fl_X9_94) (fun _ h9 => h9) rfl dX9_behind_86 ?_
          refine lv_iconst (v := 1) hx hb dX9_behind_89 (by decide) ?_
          refine lv_iadd hx hb dX9_behind_90 ?_
          refine lv_topi (fun v34 ev34 => ?_)
          try have hv34 : v34.toInt = mpl_23.toInt + (1 : Int32).toInt := I_addx ev34 (by omega)
          refine va_put (D := (dC, dI)) (ci := 8) (v := .int v34) (ty := .int) (C := RX9) (T := TX9) (N := 32) hx hb hts inG_X9 tyX9 tyX9_ok nmX9 hown hK hP hD hS 0 rfl rfl 13 (by decide) (hts _ fl_X9_94) (fun _ h9 => h9) rfl (by decide +kernel) rfl rfl (Nat.le_of_ble_eq_true rfl) dX9_behind_91 (fun H locs hP hD hS => ?_)
          have hP : va_P (dC, dI) vwCl [(m0, .inr (8, [.int mth, .int mst, .ref mp, .int mln, .ref mk, .int mts, .ref mti, .ref mtw, .ref mi, .int mmn, .ref mpo, .int mpd_22, .ref mpi, .int v34, .int 1, .ref mre, .ref mnn, .ref mwo, .ref mga, .ref mlo, .ref mro, .ref mle, .ref mra, .int mme, .ref mha, .int mch, .int mtm, .int mgo, .int mwa, .ref mba, .int mbl, .ref mon])), (mpo, .inl (cI, 12, .inl mpof_24)), (mpi, .inl (cI, 26, .inl f33))] H := hP
          have hD : va_D A [(m0, .inr (8, [.int mth, .int mst, .ref mp, .int mln, .ref mk, .int mts, .ref mti, .ref mtw, .ref mi, .int mmn, .ref mpo, .int mpd_22, .ref mpi, .int v34, .int 1, .ref mre, .ref mnn, .ref mwo, .ref mga, .ref mlo, .ref mro, .ref mle, .ref mra, .int mme, .ref mha, .int mch, .int mtm, .int mgo, .int mwa, .ref mba, .int mbl, .ref mon])), (mpo, .inl (cI, 12, .inl mpof_24)), (mpi, .inl (cI, 26, .inl f33))] := hD
          refine lv_iconst (v := 2) hx hb dX9_behind_94 (by decide) ?_
          exact hret 2 (mpd_22, v34, 1, mpof_24, f33) H locs 95 ls rfl ⟨(show ((2 : Int32).toInt = 3 ∧ RD mpof_24 f33 mpd_22 v34 1 (K + 1)) ∨ ((0 ≤ (2 : Int32).toInt ∧ (2 : Int32).toInt < 3) ∧ RD mpof_24 f33 mpd_22 v34 0 (K + 1)) ∨ (2 : Int32).toInt < 0 from by exact Or.inr (Or.inl ⟨by omega, RD_op hse (by unfold isOp; omega) (by rw [if_neg (by omega)]) (by omega) ef33⟩)), (show (1 : Int32).toInt = 0 ∨ (1 : Int32).toInt = 1 from by first | rfl | assumption | omega), trivial⟩ hP hD hS dX9_behind_95
        · have c32' := I_ne c32
          refine lv_iload_n hx hb dX9_behind_60 rfl (lv_at hl 1 rfl) ?_
          refine lv_bipush (v := 6) hx hb dX9_behind_61 (by decide) ?_
          refine lv_icmp_ne (tgt := 70) hx hb dX9_behind_63 (by decide) (fun c35 => ?_) (fun c35 => ?_)
          · have c35' := I_ne c35
            refine lv_iconst (v := 0) hx hb dX9_behind_70 (by decide) ?_
            refine va_put (D := (dC, dI)) (ci := 8) (v := .int 0) (ty := .boolean) (C := RX9) (T := TX9) (N := 32) hx hb hts inG_X9 tyX9 tyX9_ok nmX9 hown hK hP hD hS 0 rfl rfl 14 (by decide) (hts _ fl_X9_106) (fun _ h9 => h9) rfl (by decide +kernel) (by first | rfl | exact I_narz (by omega)) rfl (Nat.le_of_ble_eq_true rfl) dX9_behind_71 (fun H locs hP hD hS => ?_)
            have hP : va_P (dC, dI) vwCl [(m0, .inr (8, [.int mth, .int mst, .ref mp, .int mln, .ref mk, .int mts, .ref mti, .ref mtw, .ref mi, .int mmn, .ref mpo, .int mpd_22, .ref mpi, .int mpl_23, .int 0, .ref mre, .ref mnn, .ref mwo, .ref mga, .ref mlo, .ref mro, .ref mle, .ref mra, .int mme, .ref mha, .int mch, .int mtm, .int mgo, .int mwa, .ref mba, .int mbl, .ref mon])), (mpo, .inl (cI, 12, .inl mpof_24)), (mpi, .inl (cI, 26, .inl mpif))] H := hP
            have hD : va_D A [(m0, .inr (8, [.int mth, .int mst, .ref mp, .int mln, .ref mk, .int mts, .ref mti, .ref mtw, .ref mi, .int mmn, .ref mpo, .int mpd_22, .ref mpi, .int mpl_23, .int 0, .ref mre, .ref mnn, .ref mwo, .ref mga, .ref mlo, .ref mro, .ref mle, .ref mra, .int mme, .ref mha, .int mch, .int mtm, .int mgo, .int mwa, .ref mba, .int mbl, .ref mon])), (mpo, .inl (cI, 12, .inl mpof_24)), (mpi, .inl (cI, 26, .inl mpif))] := hD
            refine lv_aload_n hx hb dX9_behind_74 rfl (lv_at hl 0 rfl) ?_
            refine va_get (D := (dC, dI)) (ci := 8) (v := .ref mpi) (C := RX9) (T := TX9) (N := 32) hx hb hts inG_X9 hown hK hP 0 rfl rfl 12 (by decide) (hts _ fl_X9_28) (fun _ h9 => h9) rfl dX9_behind_75 ?_
            refine lv_aload_n hx hb dX9_behind_78 rfl (lv_at hl 0 rfl) ?_
            refine va_get (D := (dC, dI)) (ci := 8) (v := .int mpl_23) (C := RX9) (T := TX9) (N := 32) hx hb hts inG_X9 hown hK hP 0 rfl rfl 13 (by decide) (hts _ fl_X9_94) (fun _ h9 => h9) rfl dX9_behind_79 ?_
            refine lv_iload_n hx hb dX9_behind_82 rfl (lv_at hl 1 rfl) ?_
            refine va_iast (t0 := 0) hx hb hK hP hD hS 2 (ha := rfl) (ht := rfl) (I_in (by omega) (by omega)) dX9_behind_83 (fun H locs hP hD hS => ?_)
            have hP : va_P (dC, dI) vwCl [(m0, .inr (8, [.int mth, .int mst, .ref mp, .int mln, .ref mk, .int mts, .ref mti, .ref mtw, .ref mi, .int mmn, .ref mpo, .int mpd_22, .ref mpi, .int mpl_23, .int 0, .ref mre, .ref mnn, .ref mwo, .ref mga, .ref mlo, .ref mro, .ref mle, .ref mra, .int mme, .ref mha, .int mch, .int mtm, .int mgo, .int mwa, .ref mba, .int mbl, .ref mon])), (mpo, .inl (cI, 12, .inl mpof_24)), (mpi, .inl (cI, 26, .inl (upd mpif mpl_23.toNatClampNeg x)))] H := hP
            have hD : va_D A [(m0, .inr (8, [.int mth, .int mst, .ref mp, .int mln, .ref mk, .int mts, .ref mti, .ref mtw, .ref mi, .int mmn, .ref mpo, .int mpd_22, .ref mpi, .int mpl_23, .int 0, .ref mre, .ref mnn, .ref mwo, .ref mga, .ref mlo, .ref mro, .ref mle, .ref mra, .int mme, .ref mha, .int mch, .int mtm, .int mgo, .int mwa, .ref mba, .int mbl, .ref mon])), (mpo, .inl (cI, 12, .inl mpof_24)), (mpi, .inl (cI, 26, .inl (upd mpif mpl_23.toNatClampNeg x)))] := hD
            generalize ef36 : upd mpif mpl_23.toNatClampNeg x = f36 at hP hD
            refine lv_aload_n hx hb dX9_behind_84 rfl (lv_at hl 0 rfl) ?_
            refine lv_dup hx hb dX9_behind_85 rfl ?_
            refine va_get (D := (dC, dI)) (ci := 8) (v := .int mpl_23) (C := RX9) (T := TX9) (N := 32) hx hb hts inG_X9 hown hK hP 0 rfl rfl 13 (by decide) (hts _ fl_X9_94) (fun _ h9 => h9) rfl dX9_behind_86 ?_
            refine lv_iconst (v := 1) hx hb dX9_behind_89 (by decide) ?_
            refine lv_iadd hx hb dX9_behind_90 ?_
            refine lv_topi (fun v37 ev37 => ?_)
            try have hv37 : v37.toInt = mpl_23.toInt + (1 : Int32).toInt := I_addx ev37 (by omega)
            refine va_put (D := (dC, dI)) (ci := 8) (v := .int v37) (ty := .int) (C := RX9) (T := TX9) (N := 32) hx hb hts inG_X9 tyX9 tyX9_ok nmX9 hown hK hP hD hS 0 rfl rfl 13 (by decide) (hts _ fl_X9_94) (fun _ h9 => h9) rfl (by decide +kernel) rfl rfl (Nat.le_of_ble_eq_true rfl) dX9_behind_91 (fun H locs hP hD hS => ?_)
            have hP : va_P (dC, dI) vwCl [(m0, .inr (8, [.int mth, .int mst, .ref mp, .int mln, .ref mk, .int mts, .ref mti, .ref mtw, .ref mi, .int mmn, .ref mpo, .int mpd_22, .ref mpi, .int v37, .int 0, .ref mre, .ref mnn, .ref mwo, .ref mga, .ref mlo, .ref mro, .ref mle, .ref mra, .int mme, .ref mha, .int mch, .int mtm, .int mgo, .int mwa, .ref mba, .int mbl, .ref mon])), (mpo, .inl (cI, 12, .inl mpof_24)), (mpi, .inl (cI, 26, .inl f36))] H := hP
            have hD : va_D A [(m0, .inr (8, [.int mth, .int mst, .ref mp, .int mln, .ref mk, .int mts, .ref mti, .ref mtw, .ref mi, .int mmn, .ref mpo, .int mpd_22, .ref mpi, .int v37, .int 0, .ref mre, .ref mnn, .ref mwo, .ref mga, .ref mlo, .ref mro, .ref mle, .ref mra, .int mme, .ref mha, .int mch, .int mtm, .int mgo, .int mwa, .ref mba, .int mbl, .ref mon])), (mpo, .inl (cI, 12, .inl mpof_24)), (mpi, .inl (cI, 26, .inl f36))] := hD
            refine lv_iconst (v := 2) hx hb dX9_behind_94 (by decide) ?_
            exact hret 2 (mpd_22, v37, 0, mpof_24, f36) H locs 95 ls rfl ⟨(show ((2 : Int32).toInt = 3 ∧ RD mpof_24 f36 mpd_22 v37 1 (K + 1)) ∨ ((0 ≤ (2 : Int32).toInt ∧ (2 : Int32).toInt < 3) ∧ RD mpof_24 f36 mpd_22 v37 0 (K + 1)) ∨ (2 : Int32).toInt < 0 from by exact Or.inr (Or.inl ⟨by omega, RD_op hse (by unfold isOp; omega) (by rw [if_neg (by omega)]) (by omega) ef36⟩)), (show (0 : Int32).toInt = 0 ∨ (0 : Int32).toInt = 1 from by first | rfl | assumption | omega), trivial⟩ hP hD hS dX9_behind_95
          · have c35' := I_eq c35
            refine lv_iconst (v := 1) hx hb dX9_behind_66 (by decide) ?_
            refine lv_goto (tgt := 71) hx hb dX9_behind_67 (by decide) ?_
            refine va_put (D := (dC, dI)) (ci := 8) (v := .int 1) (ty := .boolean) (C := RX9) (T := TX9) (N := 32) hx hb hts inG_X9 tyX9 tyX9_ok nmX9 hown hK hP hD hS 0 rfl rfl 14 (by decide) (hts _ fl_X9_106) (fun _ h9 => h9) rfl (by decide +kernel) (by first | rfl | exact I_narz (by omega)) rfl (Nat.le_of_ble_eq_true rfl) dX9_behind_71 (fun H locs hP hD hS => ?_)
            have hP : va_P (dC, dI) vwCl [(m0, .inr (8, [.int mth, .int mst, .ref mp, .int mln, .ref mk, .int mts, .ref mti, .ref mtw, .ref mi, .int mmn, .ref mpo, .int mpd_22, .ref mpi, .int mpl_23, .int 1, .ref mre, .ref mnn, .ref mwo, .ref mga, .ref mlo, .ref mro, .ref mle, .ref mra, .int mme, .ref mha, .int mch, .int mtm, .int mgo, .int mwa, .ref mba, .int mbl, .ref mon])), (mpo, .inl (cI, 12, .inl mpof_24)), (mpi, .inl (cI, 26, .inl mpif))] H := hP
            have hD : va_D A [(m0, .inr (8, [.int mth, .int mst, .ref mp, .int mln, .ref mk, .int mts, .ref mti, .ref mtw, .ref mi, .int mmn, .ref mpo, .int mpd_22, .ref mpi, .int mpl_23, .int 1, .ref mre, .ref mnn, .ref mwo, .ref mga, .ref mlo, .ref mro, .ref mle, .ref mra, .int mme, .ref mha, .int mch, .int mtm, .int mgo, .int mwa, .ref mba, .int mbl, .ref mon])), (mpo, .inl (cI, 12, .inl mpof_24)), (mpi, .inl (cI, 26, .inl mpif))] := hD
            refine lv_aload_n hx hb dX9_behind_74 rfl (lv_at hl 0 rfl) ?_
            refine va_get (D := (dC, dI)) (ci := 8) (v := .ref mpi) (C := RX9) (T := TX9) (N := 32) hx hb hts inG_X9 hown hK hP 0 rfl rfl 12 (by decide) (hts _ fl_X9_28) (fun _ h9 => h9) rfl dX9_behind_75 ?_
            refine lv_aload_n hx hb dX9_behind_78 rfl (lv_at hl 0 rfl) ?_
            refine va_get (D := (dC, dI)) (ci := 8) (v := .int mpl_23) (C := RX9) (T := TX9) (N := 32) hx hb hts inG_X9 hown hK hP 0 rfl rfl 13 (by decide) (hts _ fl_X9_94) (fun _ h9 => h9) rfl dX9_behind_79 ?_
            refine lv_iload_n hx hb dX9_behind_82 rfl (lv_at hl 1 rfl) ?_
            refine va_iast (t0 := 0) hx hb hK hP hD hS 2 (ha := rfl) (ht := rfl) (I_in (by omega) (by omega)) dX9_behind_83 (fun H locs hP hD hS => ?_)
            have hP : va_P (dC, dI) vwCl [(m0, .inr (8, [.int mth, .int mst, .ref mp, .int mln, .ref mk, .int mts, .ref mti, .ref mtw, .ref mi, .int mmn, .ref mpo, .int mpd_22, .ref mpi, .int mpl_23, .int 1, .ref mre, .ref mnn, .ref mwo, .ref mga, .ref mlo, .ref mro, .ref mle, .ref mra, .int mme, .ref mha, .int mch, .int mtm, .int mgo, .int mwa, .ref mba, .int mbl, .ref mon])), (mpo, .inl (cI, 12, .inl mpof_24)), (mpi, .inl (cI, 26, .inl (upd mpif mpl_23.toNatClampNeg x)))] H := hP
            have hD : va_D A [(m0, .inr (8, [.int mth, .int mst, .ref mp, .int mln, .ref mk, .int mts, .ref mti, .ref mtw, .ref mi, .int mmn, .ref mpo, .int mpd_22, .ref mpi, .int mpl_23, .int 1, .ref mre, .ref mnn, .ref mwo, .ref mga, .ref mlo, .ref mro, .ref mle, .ref mra, .int mme, .ref mha, .int mch, .int mtm, .int mgo, .int mwa, .ref mba, .int mbl, .ref mon])), (mpo, .inl (cI, 12, .inl mpof_24)), (mpi, .inl (cI, 26, .inl (upd mpif mpl_23.toNatClampNeg x)))] := hD
            generalize ef38 : upd mpif mpl_23.toNatClampNeg x = f38 at hP hD
            refine lv_aload_n hx hb dX9_behind_84 rfl (lv_at hl 0 rfl) ?_
            refine lv_dup hx hb dX9_behind_85 rfl ?_
            refine va_get (D := (dC, dI)) (ci := 8) (v := .int mpl_23) (C := RX9) (T := TX9) (N := 32) hx hb hts inG_X9 hown hK hP 0 rfl rfl 13 (by decide) (hts _ fl_X9_94) (fun _ h9 => h9) rfl dX9_behind_86 ?_
            refine lv_iconst (v := 1) hx hb dX9_behind_89 (by decide) ?_
            refine lv_iadd hx hb dX9_behind_90 ?_
            refine lv_topi (fun v39 ev39 => ?_)
            try have hv39 : v39.toInt = mpl_23.toInt + (1 : Int32).toInt := I_addx ev39 (by omega)
            refine va_put (D := (dC, dI)) (ci := 8) (v := .int v39) (ty := .int) (C := RX9) (T := TX9) (N := 32) hx hb hts inG_X9 tyX9 tyX9_ok nmX9 hown hK hP hD hS 0 rfl rfl 13 (by decide) (hts _ fl_X9_94) (fun _ h9 => h9) rfl (by decide +kernel) rfl rfl (Nat.le_of_ble_eq_true rfl) dX9_behind_91 (fun H locs hP hD hS => ?_)
            have hP : va_P (dC, dI) vwCl [(m0, .inr (8, [.int mth, .int mst, .ref mp, .int mln, .ref mk, .int mts, .ref mti, .ref mtw, .ref mi, .int mmn, .ref mpo, .int mpd_22, .ref mpi, .int v39, .int 1, .ref mre, .ref mnn, .ref mwo, .ref mga, .ref mlo, .ref mro, .ref mle, .ref mra, .int mme, .ref mha, .int mch, .int mtm, .int mgo, .int mwa, .ref mba, .int mbl, .ref mon])), (mpo, .inl (cI, 12, .inl mpof_24)), (mpi, .inl (cI, 26, .inl f38))] H := hP
            have hD : va_D A [(m0, .inr (8, [.int mth, .int mst, .ref mp, .int mln, .ref mk, .int mts, .ref mti, .ref mtw, .ref mi, .int mmn, .ref mpo, .int mpd_22, .ref mpi, .int v39, .int 1, .ref mre, .ref mnn, .ref mwo, .ref mga, .ref mlo, .ref mro, .ref mle, .ref mra, .int mme, .ref mha, .int mch, .int mtm, .int mgo, .int mwa, .ref mba, .int mbl, .ref mon])), (mpo, .inl (cI, 12, .inl mpof_24)), (mpi, .inl (cI, 26, .inl f38))] := hD
            refine lv_iconst (v := 2) hx hb dX9_behind_94 (by decide) ?_
            exact hret 2 (mpd_22, v39, 1, mpof_24, f38) H locs 95 ls rfl ⟨(show ((2 : Int32).toInt = 3 ∧ RD mpof_24 f38 mpd_22 v39 1 (K + 1)) ∨ ((0 ≤ (2 : Int32).toInt ∧ (2 : Int32).toInt < 3) ∧ RD mpof_24 f38 mpd_22 v39 0 (K + 1)) ∨ (2 : Int32).toInt < 0 from by exact Or.inr (Or.inl ⟨by omega, RD_op hse (by unfold isOp; omega) (by rw [if_neg (by omega)]) (by omega) ef38⟩)), (show (1 : Int32).toInt = 0 ∨ (1 : Int32).toInt = 1 from by first | rfl | assumption | omega), trivial⟩ hP hD hS dX9_behind_95
  have J96 : ∀ (H : Heap) (locs : List Loc) (ls : Array Slot), va_P (dC, dI) vwCl [(m0, .inr (8, [.int mth, .int mst, .ref mp, .int mln, .ref mk, .int mts, .ref mti, .ref mtw, .ref mi, .int mmn, .ref mpo, .int mpd, .ref mpi, .int mpl, .int mcp, .ref mre, .ref mnn, .ref mwo, .ref mga, .ref mlo, .ref mro, .ref mle, .ref mra, .int mme, .ref mha, .int mch, .int mtm, .int mgo, .int mwa, .ref mba, .int mbl, .ref mon])), (mpo, .inl (cI, 12, .inl mpof)), (mpi, .inl (cI, 26, .inl mpif))] H → va_D A [(m0, .inr (8, [.int mth, .int mst, .ref mp, .int mln, .ref mk, .int mts, .ref mti, .ref mtw, .ref mi, .int mmn, .ref mpo, .int mpd, .ref mpi, .int mpl, .int mcp, .ref mre, .ref mnn, .ref mwo, .ref mga, .ref mlo, .ref mro, .ref mle, .ref mra, .int mme, .ref mha, .int mch, .int mtm, .int mgo, .int mwa, .ref mba, .int mbl, .ref mon])), (mpo, .inl (cI, 12, .inl mpof)), (mpi, .inl (cI, 26, .inl mpif))] → va_S A s.heap H locs → lv_has ls 3 [(0, .ref m0), (1, .int x)] → W p l e { frames := 3, cells := 0, slots := 0, locals := 61 } s m (List.toArray [.ref m0, .int x]) below meth c H locs 0 0 Q (F0 m 96 ls []) := by
    intro  H locs ls hP hD hS hl
    refine lv_iload_n hx hb dX9_behind_96 rfl (lv_at hl 1 rfl) ?_
    refine lv_bipush (v := 7) hx hb dX9_behind_97 (by decide) ?_
    refine lv_icmp_ne (tgt := 135) hx hb dX9_behind_99 (by decide) (fun c40 => ?_) (fun c40 => ?_)
    · have c40' := I_ne c40
      refine lv_iload_n hx hb dX9_behind_135 rfl (lv_at hl 1 rfl) ?_
      refine lv_iconst (v := 1) hx hb dX9_behind_136 (by decide) ?_
      refine lv_icmp_ne (tgt := 144) hx hb dX9_behind_137 (by decide) (fun c41 => ?_) (fun c41 => ?_)
      · have c41' := I_ne c41
        refine lv_iload_n hx hb dX9_behind_144 rfl (lv_at hl 1 rfl) ?_
        refine lv_bipush (v := 10) hx hb dX9_behind_145 (by decide) ?_
        refine lv_icmp_ne (tgt := 155) hx hb dX9_behind_147 (by decide) (fun c42 => ?_) (fun c42 => ?_)
        · have c42' := I_ne c42
          refine lv_iload_n hx hb dX9_behind_155 rfl (lv_at hl 1 rfl) ?_
          refine lv_bipush (v := 11) hx hb dX9_behind_156 (by decide) ?_
          refine lv_icmp_ne (tgt := 166) hx hb dX9_behind_158 (by decide) (fun c43 => ?_) (fun c43 => ?_)
          · have c43' := I_ne c43
            refine lv_iconst (v := (-1)) hx hb dX9_behind_166 (by decide) ?_
            refine lv_istore_n (lv' := [(2, .int (-1)), (0, .ref m0), (1, .int x)]) hx hb dX9_behind_167 rfl hl (by decide) rfl (fun ls hl => ?_)
            refine lv_iload_n hx hb dX9_behind_168 rfl (lv_at hl 0 rfl) ?_
            refine lv_if_lt (tgt := 180) hx hb dX9_behind_169 (by decide) (fun c44 => ?_) (fun c44 => ?_)
            · have c44' := I_lt c44
              refine lv_iconst (v := (-1)) hx hb dX9_behind_180 (by decide) ?_
              exact hret (-1) (mpd, mpl, mcp, mpof, mpif) H locs 181 ls rfl ⟨(show ((-1 : Int32).toInt = 3 ∧ RD mpof mpif mpd mpl 1 (K + 1)) ∨ ((0 ≤ (-1 : Int32).toInt ∧ (-1 : Int32).toInt < 3) ∧ RD mpof mpif mpd mpl 0 (K + 1)) ∨ (-1 : Int32).toInt < 0 from by exact Or.inr (Or.inr (by omega))), (show mcp.toInt = 0 ∨ mcp.toInt = 1 from by first | rfl | assumption | omega), trivial⟩ hP hD hS dX9_behind_181
            · have c44' := I_nlt c44
              exact absurd c44 (by decide)
          · have c43' := I_eq c43
            refine lv_bipush (v := 10) hx hb dX9_behind_161 (by decide) ?_
            refine lv_goto (tgt := 167) hx hb dX9_behind_163 (by decide) ?_
            refine lv_istore_n (lv' := [(2, .int 10), (0, .ref m0), (1, .int x)]) hx hb dX9_behind_167 rfl hl (by decide) rfl (fun ls hl => ?_)
            refine lv_iload_n hx hb dX9_behind_168 rfl (lv_at hl 0 rfl) ?_
            refine lv_if_lt (tgt := 180) hx hb dX9_behind_169 (by decide) (fun c45 => ?_) (fun c45 => ?_)
            · have c45' := I_lt c45
              exact absurd c45 (by decide)
            · have c45' := I_nlt c45
              refine lv_aload_n hx hb dX9_behind_172 rfl (lv_at hl 1 rfl) ?_
              refine lv_iload_n hx hb dX9_behind_173 rfl (lv_at hl 0 rfl) ?_
              refine calI (rest := []) (wr := [(mpo, .inl (cI, 12, .inl mpof))]) hG (c_X9_hasFrame l dC dI cI cJ base bB bO m0 mth mst mp mln mk mts mti mtw mi mmn mpo mpd mpi mpl mcp mre mnn mwo mga mlo mro mle mra mme mha mch mtm mgo mwa mba mbl mon mpif 10 (by exact RD_x hRD) (by first | assumption | omega)) ml_X9_131 im_X9_hasFrame se_X9_hasFrame ini_X9 cd_X9_hasFrame hd_X9_hasFrame ⟨(Nat.le_of_ble_eq_true rfl), (Nat.le_of_ble_eq_true rfl)⟩ (Nat.le_of_ble_eq_true rfl) (Nat.le_of_ble_eq_true rfl) hP hD hS [0, 2] [1] rfl rfl rfl rfl (by decide) 8 0 rfl rfl hl.1 rfl (Nat.le_of_ble_eq_true rfl) dX9_behind_174 (fun r46 u H locs hw47 hP hD hS => ?_)
              have hw47 : ((r46.toInt = 1 ∧ FF mpif mpl.toInt (10 : Int32).toInt) ∨ r46.toInt = 0) ∧ True := hw47
              obtain ⟨hp48, -⟩ := hw47
              have hP : va_P (dC, dI) vwCl [(mpo, .inl (cI, 12, .inl mpof)), (m0, .inr (8, [.int mth, .int mst, .ref mp, .int mln, .ref mk, .int mts, .ref mti, .ref mtw, .ref mi, .int mmn, .ref mpo, .int mpd, .ref mpi, .int mpl, .int mcp, .ref mre, .ref mnn, .ref mwo, .ref mga, .ref mlo, .ref mro, .ref mle, .ref mra, .int mme, .ref mha, .int mch, .int mtm, .int mgo, .int mwa, .ref mba, .int mbl, .ref mon])), (mpi, .inl (cI, 26, .inl mpif))] H := hP
              have hD : va_D A [(mpo, .inl (cI, 12, .inl mpof)), (m0, .inr (8, [.int mth, .int mst, .ref mp, .int mln, .ref mk, .int mts, .ref mti, .ref mtw, .ref mi, .int mmn, .ref mpo, .int mpd, .ref mpi, .int mpl, .int mcp, .ref mre, .ref mnn, .ref mwo, .ref mga, .ref mlo, .ref mro, .ref mle, .ref mra, .int mme, .ref mha, .int mch, .int mtm, .int mgo, .int mwa, .ref mba, .int mbl, .ref mon])), (mpi, .inl (cI, 26, .inl mpif))] := hD
              have hhf := hp48
              refine lv_if_ne (tgt := 182) hx hb dX9_behind_177 (by decide) (fun c49 => ?_) (fun c49 => ?_)
              · have c49' := I_ne c49
                refine lv_aload_n hx hb dX9_behind_182 rfl (lv_at hl 1 rfl) ?_
                refine calI (rest := []) (wr := []) hG (c_X9_close l dC dI cI cJ base bB bO m0 mth mst mp mln mk mts mti mtw mi mmn mpo mpd mpi mpl mcp mre mnn mwo mga mlo mro mle mra mme mha mch mtm mgo mwa mba mbl mon mpof mpif K (by first | assumption | omega) (by first | assumption | omega)) ml_X9_124 im_X9_close se_X9_close ini_X9 cd_X9_close hd_X9_close ⟨(Nat.le_of_ble_eq_true rfl), (Nat.le_of_ble_eq_true rfl)⟩ (Nat.le_of_ble_eq_true rfl) (Nat.le_of_ble_eq_true rfl) hP hD hS [1, 0, 2] [] rfl rfl rfl rfl (by decide) 8 1 rfl rfl hl.1 rfl (Nat.le_of_ble_eq_true rfl) dX9_behind_183 (fun r50 u H locs hw51 hP hD hS => ?_)
                obtain ⟨mpd_52, mpl_53, mpof_54⟩ := u
                have hw51 : (RD mpof_54 mpif mpd_52 mpl_53 1 K) ∧ ((mpl_53.toInt = 0 ∧ r50.toInt = -1) ∨ (0 < mpl_53.toInt ∧ (r50.toInt = 0 ∨ r50.toInt = 9 ∨ r50.toInt = 10))) ∧ (mpl_53.toInt = 0 ∨ r50 = mpif (mpl_53.toInt - 1).toNat) ∧ (∀ w : Int, FF mpif mpl.toInt w → FF mpif mpl_53.toInt w) ∧ True := hw51
                obtain ⟨hp55, hp56, hp57, hp58, -⟩ := hw51
                have hP : va_P (dC, dI) vwCl [(m0, .inr (8, [.int mth, .int mst, .ref mp, .int mln, .ref mk, .int mts, .ref mti, .ref mtw, .ref mi, .int mmn, .ref mpo, .int mpd_52, .ref mpi, .int mpl_53, .int mcp, .ref mre, .ref mnn, .ref mwo, .ref mga, .ref mlo, .ref mro, .ref mle, .ref mra, .int mme, .ref mha, .int mch, .int mtm, .int mgo, .int mwa, .ref mba, .int mbl, .ref mon])), (mpo, .inl (cI, 12, .inl mpof_54)), (mpi, .inl (cI, 26, .inl mpif))] H := hP
                have hD : va_D A [(m0, .inr (8, [.int mth, .int mst, .ref mp, .int mln, .ref mk, .int mts, .ref mti, .ref mtw, .ref mi, .int mmn, .ref mpo, .int mpd_52, .ref mpi, .int mpl_53, .int mcp, .ref mre, .ref mnn, .ref mwo, .ref mga, .ref mlo, .ref mro, .ref mle, .ref mra, .int mme, .ref mha, .int mch, .int mtm, .int mgo, .int mwa, .ref mba, .int mbl, .ref mon])), (mpo, .inl (cI, 12, .inl mpof_54)), (mpi, .inl (cI, 26, .inl mpif))] := hD
                have hcl := hp55
                have hclb := RD_b hcl
                have hFF : FF mpif mpl_53.toInt (10 : Int32).toInt := by rcases hhf with h | h; exact hp58 _ h.2; exact absurd h (by omega)
                have hp0 := FF_pos hFF
                have htop : r50 = mpif (mpl_53.toInt - 1).toNat := by rcases hp57 with h | h; exact absurd h (by omega); exact h
                have hrw := FF_top hFF htop (by unfold isFr; omega) (by omega)
                have hp2 := RD_top hcl hp0 htop (by unfold isFr; omega)
                refine lv_pop hx hb dX9_behind_186 rfl ?_
                refine lv_iload_n hx hb dX9_behind_187 rfl (lv_at hl 2 rfl) ?_
                refine lv_iconst (v := 1) hx hb dX9_behind_188 (by decide) ?_
                refine lv_icmp_ne (tgt := 226) hx hb dX9_behind_189 (by decide) (fun c59 => ?_) (fun c59 => ?_)
                · have c59' := I_ne c59
                  refine lv_aload_n hx hb dX9_behind_226 rfl (lv_at hl 1 rfl) ?_
                  refine va_get (D := (dC, dI)) (ci := 8) (v := .ref mpi) (C := RX9) (T := TX9) (N := 32) hx hb hts inG_X9 hown hK hP 0 rfl rfl 12 (by decide) (hts _ fl_X9_28) (fun _ h9 => h9) rfl dX9_behind_227 ?_
                  refine lv_aload_n hx hb dX9_behind_230 rfl (lv_at hl 1 rfl) ?_
                  refine va_get (D := (dC, dI)) (ci := 8) (v := .int mpl_53) (C := RX9) (T := TX9) (N := 32) hx hb hts inG_X9 hown hK hP 0 rfl rfl 13 (by decide) (hts _ fl_X9_94) (fun _ h9 => h9) rfl dX9_behind_231 ?_
                  refine lv_iconst (v := 1) hx hb dX9_behind_234 (by decide) ?_
                  refine lv_isub hx hb dX9_behind_235 ?_
                  refine lv_topi (fun v60 ev60 => ?_)
                  try have hv60 : v60.toInt = mpl_53.toInt - (1 : Int32).toInt := I_subx ev60 (by omega)
                  refine lv_iload_n hx hb dX9_behind_236 rfl (lv_at hl 2 rfl) ?_
                  refine va_iast (t0 := 0) hx hb hK hP hD hS 2 (ha := rfl) (ht := rfl) (I_in (by omega) (by omega)) dX9_behind_237 (fun H locs hP hD hS => ?_)
                  have hP : va_P (dC, dI) vwCl [(m0, .inr (8, [.int mth, .int mst, .ref mp, .int mln, .ref mk, .int mts, .ref mti, .ref mtw, .ref mi, .int mmn, .ref mpo, .int mpd_52, .ref mpi, .int mpl_53, .int mcp, .ref mre, .ref mnn, .ref mwo, .ref mga, .ref mlo, .ref mro, .ref mle, .ref mra, .int mme, .ref mha, .int mch, .int mtm, .int mgo, .int mwa, .ref mba, .int mbl, .ref mon])), (mpo, .inl (cI, 12, .inl mpof_54)), (mpi, .inl (cI, 26, .inl (upd mpif v60.toNatClampNeg x)))] H := hP
                  have hD : va_D A [(m0, .inr (8, [.int mth, .int mst, .ref mp, .int mln, .ref mk, .int mts, .ref mti, .ref mtw, .ref mi, .int mmn, .ref mpo, .int mpd_52, .ref mpi, .int mpl_53, .int mcp, .ref mre, .ref mnn, .ref mwo, .ref mga, .ref mlo, .ref mro, .ref mle, .ref mra, .int mme, .ref mha, .int mch, .int mtm, .int mgo, .int mwa, .ref mba, .int mbl, .ref mon])), (mpo, .inl (cI, 12, .inl mpof_54)), (mpi, .inl (cI, 26, .inl (upd mpif v60.toNatClampNeg x)))] := hD
                  generalize ef61 : upd mpif v60.toNatClampNeg x = f61 at hP hD
                  refine lv_aload_n hx hb dX9_behind_238 rfl (lv_at hl 1 rfl) ?_
                  refine lv_iconst (v := 0) hx hb dX9_behind_239 (by decide) ?_
                  refine va_put (D := (dC, dI)) (ci := 8) (v := .int 0) (ty := .boolean) (C := RX9) (T := TX9) (N := 32) hx hb hts inG_X9 tyX9 tyX9_ok nmX9 hown hK hP hD hS 0 rfl rfl 14 (by decide) (hts _ fl_X9_106) (fun _ h9 => h9) rfl (by decide +kernel) (by first | rfl | exact I_narz (by omega)) rfl (Nat.le_of_ble_eq_true rfl) dX9_behind_240 (fun H locs hP hD hS => ?_)
                  have hP : va_P (dC, dI) vwCl [(m0, .inr (8, [.int mth, .int mst, .ref mp, .int mln, .ref mk, .int mts, .ref mti, .ref mtw, .ref mi, .int mmn, .ref mpo, .int mpd_52, .ref mpi, .int mpl_53, .int 0, .ref mre, .ref mnn, .ref mwo, .ref mga, .ref mlo, .ref mro, .ref mle, .ref mra, .int mme, .ref mha, .int mch, .int mtm, .int mgo, .int mwa, .ref mba, .int mbl, .ref mon])), (mpo, .inl (cI, 12, .inl mpof_54)), (mpi, .inl (cI, 26, .inl f61))] H := hP
                  have hD : va_D A [(m0, .inr (8, [.int mth, .int mst, .ref mp, .int mln, .ref mk, .int mts, .ref mti, .ref mtw, .ref mi, .int mmn, .ref mpo, .int mpd_52, .ref mpi, .int mpl_53, .int 0, .ref mre, .ref mnn, .ref mwo, .ref mga, .ref mlo, .ref mro, .ref mle, .ref mra, .int mme, .ref mha, .int mch, .int mtm, .int mgo, .int mwa, .ref mba, .int mbl, .ref mon])), (mpo, .inl (cI, 12, .inl mpof_54)), (mpi, .inl (cI, 26, .inl f61))] := hD
                  refine lv_iconst (v := 0) hx hb dX9_behind_243 (by decide) ?_
                  exact hret 0 (mpd_52, mpl_53, 0, mpof_54, f61) H locs 244 ls rfl ⟨(show ((0 : Int32).toInt = 3 ∧ RD mpof_54 f61 mpd_52 mpl_53 1 (K + 1)) ∨ ((0 ≤ (0 : Int32).toInt ∧ (0 : Int32).toInt < 3) ∧ RD mpof_54 f61 mpd_52 mpl_53 0 (K + 1)) ∨ (0 : Int32).toInt < 0 from by exact Or.inr (Or.inl ⟨by omega, RD_up (RD_turn hcl hp0 htop (by omega) (i2 := v60) (by omega) ef61) (by omega)⟩)), (show (0 : Int32).toInt = 0 ∨ (0 : Int32).toInt = 1 from by first | rfl | assumption | omega), trivial⟩ hP hD hS dX9_behind_244
                · have c59' := I_eq c59
                  refine lv_aload_n hx hb dX9_behind_192 rfl (lv_at hl 1 rfl) ?_
                  refine lv_dup hx hb dX9_behind_193 rfl ?_
                  refine va_get (D := (dC, dI)) (ci := 8) (v := .int mpl_53) (C := RX9) (T := TX9) (N := 32) hx hb hts inG_X9 hown hK hP 0 rfl rfl 13 (by decide) (hts _ fl_X9_94) (fun _ h9 => h9) rfl dX9_behind_194 ?_
                  refine lv_iconst (v := 2) hx hb dX9_behind_197 (by decide) ?_
                  refine lv_isub hx hb dX9_behind_198 ?_
                  refine lv_topi (fun v62 ev62 => ?_)
                  try have hv62 : v62.toInt = mpl_53.toInt - (2 : Int32).toInt := I_subx ev62 (by omega)
                  refine va_put (D := (dC, dI)) (ci := 8) (v := .int v62) (ty := .int) (C := RX9) (T := TX9) (N := 32) hx hb hts inG_X9 tyX9 tyX9_ok nmX9 hown hK hP hD hS 0 rfl rfl 13 (by decide) (hts _ fl_X9_94) (fun _ h9 => h9) rfl (by decide +kernel) rfl rfl (Nat.le_of_ble_eq_true rfl) dX9_behind_199 (fun H locs hP hD hS => ?_)
                  have hP : va_P (dC, dI) vwCl [(m0, .inr (8, [.int mth, .int mst, .ref mp, .int mln, .ref mk, .int mts, .ref mti, .ref mtw, .ref mi, .int mmn, .ref mpo, .int mpd_52, .ref mpi, .int v62, .int mcp, .ref mre, .ref mnn, .ref mwo, .ref mga, .ref mlo, .ref mro, .ref mle, .ref mra, .int mme, .ref mha, .int mch, .int mtm, .int mgo, .int mwa, .ref mba, .int mbl, .ref mon])), (mpo, .inl (cI, 12, .inl mpof_54)), (mpi, .inl (cI, 26, .inl mpif))] H := hP
                  have hD : va_D A [(m0, .inr (8, [.int mth, .int mst, .ref mp, .int mln, .ref mk, .int mts, .ref mti, .ref mtw, .ref mi, .int mmn, .ref mpo, .int mpd_52, .ref mpi, .int v62, .int mcp, .ref mre, .ref mnn, .ref mwo, .ref mga, .ref mlo, .ref mro, .ref mle, .ref mra, .int mme, .ref mha, .int mch, .int mtm, .int mgo, .int mwa, .ref mba, .int mbl, .ref mon])), (mpo, .inl (cI, 12, .inl mpof_54)), (mpi, .inl (cI, 26, .inl mpif))] := hD
                  refine lv_aload_n hx hb dX9_behind_202 rfl (lv_at hl 1 rfl) ?_
                  refine lv_aload_n hx hb dX9_behind_203 rfl (lv_at hl 1 rfl) ?_
                  refine va_get (D := (dC, dI)) (ci := 8) (v := .ref mpi) (C := RX9) (T := TX9) (N := 32) hx hb hts inG_X9 hown hK hP 0 rfl rfl 12 (by decide) (hts _ fl_X9_28) (fun _ h9 => h9) rfl dX9_behind_204 ?_
                  refine lv_aload_n hx hb dX9_behind_207 rfl (lv_at hl 1 rfl) ?_
                  refine va_get (D := (dC, dI)) (ci := 8) (v := .int v62) (C := RX9) (T := TX9) (N := 32) hx hb hts inG_X9 hown hK hP 0 rfl rfl 13 (by decide) (hts _ fl_X9_94) (fun _ h9 => h9) rfl dX9_behind_208 ?_
                  refine va_iald (t0 := 0) hx hb hK hP 2 (ha := rfl) (ht := rfl) (I_in (by omega) (by omega)) dX9_behind_211 ?_
                  refine lv_topi (fun v63 ev63 => ?_)
                  refine lv_iconst (v := 1) hx hb dX9_behind_212 (by decide) ?_
                  refine lv_icmp_ne (tgt := 220) hx hb dX9_behind_213 (by decide) (fun c64 => ?_) (fun c64 => ?_)
                  · have c64' := I_ne c64
                    refine lv_iconst (v := 0) hx hb dX9_behind_220 (by decide) ?_
                    refine va_put (D := (dC, dI)) (ci := 8) (v := .int 0) (ty := .boolean) (C := RX9) (T := TX9) (N := 32) hx hb hts inG_X9 tyX9 tyX9_ok nmX9 hown hK hP hD hS 0 rfl rfl 14 (by decide) (hts _ fl_X9_106) (fun _ h9 => h9) rfl (by decide +kernel) (by first | rfl | exact I_narz (by omega)) rfl (Nat.le_of_ble_eq_true rfl) dX9_behind_221 (fun H locs hP hD hS => ?_)
                    have hP : va_P (dC, dI) vwCl [(m0, .inr (8, [.int mth, .int mst, .ref mp, .int mln, .ref mk, .int mts, .ref mti, .ref mtw, .ref mi, .int mmn, .ref mpo, .int mpd_52, .ref mpi, .int v62, .int 0, .ref mre, .ref mnn, .ref mwo, .ref mga, .ref mlo, .ref mro, .ref mle, .ref mra, .int mme, .ref mha, .int mch, .int mtm, .int mgo, .int mwa, .ref mba, .int mbl, .ref mon])), (mpo, .inl (cI, 12, .inl mpof_54)), (mpi, .inl (cI, 26, .inl mpif))] H := hP
                    have hD : va_D A [(m0, .inr (8, [.int mth, .int mst, .ref mp, .int mln, .ref mk, .int mts, .ref mti, .ref mtw, .ref mi, .int mmn, .ref mpo, .int mpd_52, .ref mpi, .int v62, .int 0, .ref mre, .ref mnn, .ref mwo, .ref mga, .ref mlo, .ref mro, .ref mle, .ref mra, .int mme, .ref mha, .int mch, .int mtm, .int mgo, .int mwa, .ref mba, .int mbl, .ref mon])), (mpo, .inl (cI, 12, .inl mpof_54)), (mpi, .inl (cI, 26, .inl mpif))] := hD
                    refine lv_iconst (v := 3) hx hb dX9_behind_224 (by decide) ?_
                    exact hret 3 (mpd_52, v62, 0, mpof_54, mpif) H locs 225 ls rfl ⟨(show ((3 : Int32).toInt = 3 ∧ RD mpof_54 mpif mpd_52 v62 1 (K + 1)) ∨ ((0 ≤ (3 : Int32).toInt ∧ (3 : Int32).toInt < 3) ∧ RD mpof_54 mpif mpd_52 v62 0 (K + 1)) ∨ (3 : Int32).toInt < 0 from by exact Or.inl ⟨by omega, RD_up (RD_close hcl hp0 htop (by omega) (by omega)) (by omega)⟩), (show (0 : Int32).toInt = 0 ∨ (0 : Int32).toInt = 1 from by first | rfl | assumption | omega), trivial⟩ hP hD hS dX9_behind_225
                  · have c64' := I_eq c64
                    refine lv_iconst (v := 1) hx hb dX9_behind_216 (by decide) ?_
                    refine lv_goto (tgt := 221) hx hb dX9_behind_217 (by decide) ?_
                    refine va_put (D := (dC, dI)) (ci := 8) (v := .int 1) (ty := .boolean) (C := RX9) (T := TX9) (N := 32) hx hb hts inG_X9 tyX9 tyX9_ok nmX9 hown hK hP hD hS 0 rfl rfl 14 (by decide) (hts _ fl_X9_106) (fun _ h9 => h9) rfl (by decide +kernel) (by first | rfl | exact I_narz (by omega)) rfl (Nat.le_of_ble_eq_true rfl) dX9_behind_221 (fun H locs hP hD hS => ?_)
                    have hP : va_P (dC, dI) vwCl [(m0, .inr (8, [.int mth, .int mst, .ref mp, .int mln, .ref mk, .int mts, .ref mti, .ref mtw, .ref mi, .int mmn, .ref mpo, .int mpd_52, .ref mpi, .int v62, .int 1, .ref mre, .ref mnn, .ref mwo, .ref mga, .ref mlo, .ref mro, .ref mle, .ref mra, .int mme, .ref mha, .int mch, .int mtm, .int mgo, .int mwa, .ref mba, .int mbl, .ref mon])), (mpo, .inl (cI, 12, .inl mpof_54)), (mpi, .inl (cI, 26, .inl mpif))] H := hP
                    have hD : va_D A [(m0, .inr (8, [.int mth, .int mst, .ref mp, .int mln, .ref mk, .int mts, .ref mti, .ref mtw, .ref mi, .int mmn, .ref mpo, .int mpd_52, .ref mpi, .int v62, .int 1, .ref mre, .ref mnn, .ref mwo, .ref mga, .ref mlo, .ref mro, .ref mle, .ref mra, .int mme, .ref mha, .int mch, .int mtm, .int mgo, .int mwa, .ref mba, .int mbl, .ref mon])), (mpo, .inl (cI, 12, .inl mpof_54)), (mpi, .inl (cI, 26, .inl mpif))] := hD
                    refine lv_iconst (v := 3) hx hb dX9_behind_224 (by decide) ?_
                    exact hret 3 (mpd_52, v62, 1, mpof_54, mpif) H locs 225 ls rfl ⟨(show ((3 : Int32).toInt = 3 ∧ RD mpof_54 mpif mpd_52 v62 1 (K + 1)) ∨ ((0 ≤ (3 : Int32).toInt ∧ (3 : Int32).toInt < 3) ∧ RD mpof_54 mpif mpd_52 v62 0 (K + 1)) ∨ (3 : Int32).toInt < 0 from by exact Or.inl ⟨by omega, RD_up (RD_close hcl hp0 htop (by omega) (by omega)) (by omega)⟩), (show (1 : Int32).toInt = 0 ∨ (1 : Int32).toInt = 1 from by first | rfl | assumption | omega), trivial⟩ hP hD hS dX9_behind_225
              · have c49' := I_eq c49
                refine lv_iconst (v := (-1)) hx hb dX9_behind_180 (by decide) ?_
                exact hret (-1) (mpd, mpl, mcp, mpof, mpif) H locs 181 ls rfl ⟨(show ((-1 : Int32).toInt = 3 ∧ RD mpof mpif mpd mpl 1 (K + 1)) ∨ ((0 ≤ (-1 : Int32).toInt ∧ (-1 : Int32).toInt < 3) ∧ RD mpof mpif mpd mpl 0 (K + 1)) ∨ (-1 : Int32).toInt < 0 from by exact Or.inr (Or.inr (by omega))), (show mcp.toInt = 0 ∨ mcp.toInt = 1 from by first | rfl | assumption | omega), trivial⟩ (hP.sub (ws' := [(m0, .inr (8, [.int mth, .int mst, .ref mp, .int mln, .ref mk, .int mts, .ref mti, .ref mtw, .ref mi, .int mmn, .ref mpo, .int mpd, .ref mpi, .int mpl, .int mcp, .ref mre, .ref mnn, .ref mwo, .ref mga, .ref mlo, .ref mro, .ref mle, .ref mra, .int mme, .ref mha, .int mch, .int mtm, .int mgo, .int mwa, .ref mba, .int mbl, .ref mon])), (mpo, .inl (cI, 12, .inl mpof)), (mpi, .inl (cI, 26, .inl mpif))]) [1, 0, 2] rfl) (hD.sub (ws' := [(m0, .inr (8, [.int mth, .int mst, .ref mp, .int mln, .ref mk, .int mts, .ref mti, .ref mtw, .ref mi, .int mmn, .ref mpo, .int mpd, .ref mpi, .int mpl, .int mcp, .ref mre, .ref mnn, .ref mwo, .ref mga, .ref mlo, .ref mro, .ref mle, .ref mra, .int mme, .ref mha, .int mch, .int mtm, .int mgo, .int mwa, .ref mba, .int mbl, .ref mon])), (mpo, .inl (cI, 12, .inl mpof)), (mpi, .inl (cI, 26, .inl mpif))]) [1, 0, 2] (by decide) rfl) hS dX9_behind_181
        · have c42' := I_eq c42
          refine lv_bipush (v := 9) hx hb dX9_behind_150 (by decide) ?_
          refine lv_goto (tgt := 167) hx hb dX9_behind_152 (by decide) ?_
          refine lv_istore_n (lv' := [(2, .int 9), (0, .ref m0), (1, .int x)]) hx hb dX9_behind_167 rfl hl (by decide) rfl (fun ls hl => ?_)
          refine lv_iload_n hx hb dX9_behind_168 rfl (lv_at hl 0 rfl) ?_
          refine lv_if_lt (tgt := 180) hx hb dX9_behind_169 (by decide) (fun c65 => ?_) (fun c65 => ?_)
          · have c65' := I_lt c65
            exact absurd c65 (by decide)
          · have c65' := I_nlt c65
            refine lv_aload_n hx hb dX9_behind_172 rfl (lv_at hl 1 rfl) ?_
            refine lv_iload_n hx hb dX9_behind_173 rfl (lv_at hl 0 rfl) ?_
            refine calI (rest := []) (wr := [(mpo, .inl (cI, 12, .inl mpof))]) hG (c_X9_hasFrame l dC dI cI cJ base bB bO m0 mth mst mp mln mk mts mti mtw mi mmn mpo mpd mpi mpl mcp mre mnn mwo mga mlo mro mle mra mme mha mch mtm mgo mwa mba mbl mon mpif 9 (by exact RD_x hRD) (by first | assumption | omega)) ml_X9_131 im_X9_hasFrame se_X9_hasFrame ini_X9 cd_X9_hasFrame hd_X9_hasFrame ⟨(Nat.le_of_ble_eq_true rfl), (Nat.le_of_ble_eq_true rfl)⟩ (Nat.le_of_ble_eq_true rfl) (Nat.le_of_ble_eq_true rfl) hP hD hS [0, 2] [1] rfl rfl rfl rfl (by decide) 8 0 rfl rfl hl.1 rfl (Nat.le_of_ble_eq_true rfl) dX9_behind_174 (fun r66 u H locs hw67 hP hD hS => ?_)
            have hw67 : ((r66.toInt = 1 ∧ FF mpif mpl.toInt (9 : Int32).toInt) ∨ r66.toInt = 0) ∧ True := hw67
            obtain ⟨hp68, -⟩ := hw67
            have hP : va_P (dC, dI) vwCl [(mpo, .inl (cI, 12, .inl mpof)), (m0, .inr (8, [.int mth, .int mst, .ref mp, .int mln, .ref mk, .int mts, .ref mti, .ref mtw, .ref mi, .int mmn, .ref mpo, .int mpd, .ref mpi, .int mpl, .int mcp, .ref mre, .ref mnn, .ref mwo, .ref mga, .ref mlo, .ref mro, .ref mle, .ref mra, .int mme, .ref mha, .int mch, .int mtm, .int mgo, .int mwa, .ref mba, .int mbl, .ref mon])), (mpi, .inl (cI, 26, .inl mpif))] H := hP
            have hD : va_D A [(mpo, .inl (cI, 12, .inl mpof)), (m0, .inr (8, [.int mth, .int mst, .ref mp, .int mln, .ref mk, .int mts, .ref mti, .ref mtw, .ref mi, .int mmn, .ref mpo, .int mpd, .ref mpi, .int mpl, .int mcp, .ref mre, .ref mnn, .ref mwo, .ref mga, .ref mlo, .ref mro, .ref mle, .ref mra, .int mme, .ref mha, .int mch, .int mtm, .int mgo, .int mwa, .ref mba, .int mbl, .ref mon])), (mpi, .inl (cI, 26, .inl mpif))] := hD
            have hhf := hp68
            refine lv_if_ne (tgt := 182) hx hb dX9_behind_177 (by decide) (fun c69 => ?_) (fun c69 => ?_)
            · have c69' := I_ne c69
              refine lv_aload_n hx hb dX9_behind_182 rfl (lv_at hl 1 rfl) ?_
              refine calI (rest := []) (wr := []) hG (c_X9_close l dC dI cI cJ base bB bO m0 mth mst mp mln mk mts mti mtw mi mmn mpo mpd mpi mpl mcp mre mnn mwo mga mlo mro mle mra mme mha mch mtm mgo mwa mba mbl mon mpof mpif K (by first | assumption | omega) (by first | assumption | omega)) ml_X9_124 im_X9_close se_X9_close ini_X9 cd_X9_close hd_X9_close ⟨(Nat.le_of_ble_eq_true rfl), (Nat.le_of_ble_eq_true rfl)⟩ (Nat.le_of_ble_eq_true rfl) (Nat.le_of_ble_eq_true rfl) hP hD hS [1, 0, 2] [] rfl rfl rfl rfl (by decide) 8 1 rfl rfl hl.1 rfl (Nat.le_of_ble_eq_true rfl) dX9_behind_183 (fun r70 u H locs hw71 hP hD hS => ?_)
              obtain ⟨mpd_72, mpl_73, mpof_74⟩ := u
              have hw71 : (RD mpof_74 mpif mpd_72 mpl_73 1 K) ∧ ((mpl_73.toInt = 0 ∧ r70.toInt = -1) ∨ (0 < mpl_73.toInt ∧ (r70.toInt = 0 ∨ r70.toInt = 9 ∨ r70.toInt = 10))) ∧ (mpl_73.toInt = 0 ∨ r70 = mpif (mpl_73.toInt - 1).toNat) ∧ (∀ w : Int, FF mpif mpl.toInt w → FF mpif mpl_73.toInt w) ∧ True := hw71
              obtain ⟨hp75, hp76, hp77, hp78, -⟩ := hw71
              have hP : va_P (dC, dI) vwCl [(m0, .inr (8, [.int mth, .int mst, .ref mp, .int mln, .ref mk, .int mts, .ref mti, .ref mtw, .ref mi, .int mmn, .ref mpo, .int mpd_72, .ref mpi, .int mpl_73, .int mcp, .ref mre, .ref mnn, .ref mwo, .ref mga, .ref mlo, .ref mro, .ref mle, .ref mra, .int mme, .ref mha, .int mch, .int mtm, .int mgo, .int mwa, .ref mba, .int mbl, .ref mon])), (mpo, .inl (cI, 12, .inl mpof_74)), (mpi, .inl (cI, 26, .inl mpif))] H := hP
              have hD : va_D A [(m0, .inr (8, [.int mth, .int mst, .ref mp, .int mln, .ref mk, .int mts, .ref mti, .ref mtw, .ref mi, .int mmn, .ref mpo, .int mpd_72, .ref mpi, .int mpl_73, .int mcp, .ref mre, .ref mnn, .ref mwo, .ref mga, .ref mlo, .ref mro, .ref mle, .ref mra, .int mme, .ref mha, .int mch, .int mtm, .int mgo, .int mwa, .ref mba, .int mbl, .ref mon])), (mpo, .inl (cI, 12, .inl mpof_74)), (mpi, .inl (cI, 26, .inl mpif))] := hD
              have hcl := hp75
              have hclb := RD_b hcl
              have hFF : FF mpif mpl_73.toInt (9 : Int32).toInt := by rcases hhf with h | h; exact hp78 _ h.2; exact absurd h (by omega)
              have hp0 := FF_pos hFF
              have htop : r70 = mpif (mpl_73.toInt - 1).toNat := by rcases hp77 with h | h; exact absurd h (by omega); exact h
              have hrw := FF_top hFF htop (by unfold isFr; omega) (by omega)
              have hp2 := RD_top hcl hp0 htop (by unfold isFr; omega)
              refine lv_pop hx hb dX9_behind_186 rfl ?_
              refine lv_iload_n hx hb dX9_behind_187 rfl (lv_at hl 2 rfl) ?_
              refine lv_iconst (v := 1) hx hb dX9_behind_188 (by decide) ?_
              refine lv_icmp_ne (tgt := 226) hx hb dX9_behind_189 (by decide) (fun c79 => ?_) (fun c79 => ?_)
              · have c79' := I_ne c79
                refine lv_aload_n hx hb dX9_behind_226 rfl (lv_at hl 1 rfl) ?_
                refine va_get (D := (dC, dI)) (ci := 8) (v := .ref mpi) (C := RX9) (T := TX9) (N := 32) hx hb hts inG_X9 hown hK hP 0 rfl rfl 12 (by decide) (hts _ fl_X9_28) (fun _ h9 => h9) rfl dX9_behind_227 ?_
                refine lv_aload_n hx hb dX9_behind_230 rfl (lv_at hl 1 rfl) ?_
                refine va_get (D := (dC, dI)) (ci := 8) (v := .int mpl_73) (C := RX9) (T := TX9) (N := 32) hx hb hts inG_X9 hown hK hP 0 rfl rfl 13 (by decide) (hts _ fl_X9_94) (fun _ h9 => h9) rfl dX9_behind_231 ?_
                refine lv_iconst (v := 1) hx hb dX9_behind_234 (by decide) ?_
                refine lv_isub hx hb dX9_behind_235 ?_
                refine lv_topi (fun v80 ev80 => ?_)
                try have hv80 : v80.toInt = mpl_73.toInt - (1 : Int32).toInt := I_subx ev80 (by omega)
                refine lv_iload_n hx hb dX9_behind_236 rfl (lv_at hl 2 rfl) ?_
                refine va_iast (t0 := 0) hx hb hK hP hD hS 2 (ha := rfl) (ht := rfl) (I_in (by omega) (by omega)) dX9_behind_237 (fun H locs hP hD hS => ?_)
                have hP : va_P (dC, dI) vwCl [(m0, .inr (8, [.int mth, .int mst, .ref mp, .int mln, .ref mk, .int mts, .ref mti, .ref mtw, .ref mi, .int mmn, .ref mpo, .int mpd_72, .ref mpi, .int mpl_73, .int mcp, .ref mre, .ref mnn, .ref mwo, .ref mga, .ref mlo, .ref mro, .ref mle, .ref mra, .int mme, .ref mha, .int mch, .int mtm, .int mgo, .int mwa, .ref mba, .int mbl, .ref mon])), (mpo, .inl (cI, 12, .inl mpof_74)), (mpi, .inl (cI, 26, .inl (upd mpif v80.toNatClampNeg x)))] H := hP
                have hD : va_D A [(m0, .inr (8, [.int mth, .int mst, .ref mp, .int mln, .ref mk, .int mts, .ref mti, .ref mtw, .ref mi, .int mmn, .ref mpo, .int mpd_72, .ref mpi, .int mpl_73, .int mcp, .ref mre, .ref mnn, .ref mwo, .ref mga, .ref mlo, .ref mro, .ref mle, .ref mra, .int mme, .ref mha, .int mch, .int mtm, .int mgo, .int mwa, .ref mba, .int mbl, .ref mon])), (mpo, .inl (cI, 12, .inl mpof_74)), (mpi, .inl (cI, 26, .inl (upd mpif v80.toNatClampNeg x)))] := hD
                generalize ef81 : upd mpif v80.toNatClampNeg x = f81 at hP hD
                refine lv_aload_n hx hb dX9_behind_238 rfl (lv_at hl 1 rfl) ?_
                refine lv_iconst (v := 0) hx hb dX9_behind_239 (by decide) ?_
                refine va_put (D := (dC, dI)) (ci := 8) (v := .int 0) (ty := .boolean) (C := RX9) (T := TX9) (N := 32) hx hb hts inG_X9 tyX9 tyX9_ok nmX9 hown hK hP hD hS 0 rfl rfl 14 (by decide) (hts _ fl_X9_106) (fun _ h9 => h9) rfl (by decide +kernel) (by first | rfl | exact I_narz (by omega)) rfl (Nat.le_of_ble_eq_true rfl) dX9_behind_240 (fun H locs hP hD hS => ?_)
                have hP : va_P (dC, dI) vwCl [(m0, .inr (8, [.int mth, .int mst, .ref mp, .int mln, .ref mk, .int mts, .ref mti, .ref mtw, .ref mi, .int mmn, .ref mpo, .int mpd_72, .ref mpi, .int mpl_73, .int 0, .ref mre, .ref mnn, .ref mwo, .ref mga, .ref mlo, .ref mro, .ref mle, .ref mra, .int mme, .ref mha, .int mch, .int mtm, .int mgo, .int mwa, .ref mba, .int mbl, .ref mon])), (mpo, .inl (cI, 12, .inl mpof_74)), (mpi, .inl (cI, 26, .inl f81))] H := hP
                have hD : va_D A [(m0, .inr (8, [.int mth, .int mst, .ref mp, .int mln, .ref mk, .int mts, .ref mti, .ref mtw, .ref mi, .int mmn, .ref mpo, .int mpd_72, .ref mpi, .int mpl_73, .int 0, .ref mre, .ref mnn, .ref mwo, .ref mga, .ref mlo, .ref mro, .ref mle, .ref mra, .int mme, .ref mha, .int mch, .int mtm, .int mgo, .int mwa, .ref mba, .int mbl, .ref mon])), (mpo, .inl (cI, 12, .inl mpof_74)), (mpi, .inl (cI, 26, .inl f81))] := hD
                refine lv_iconst (v := 0) hx hb dX9_behind_243 (by decide) ?_
                exact hret 0 (mpd_72, mpl_73, 0, mpof_74, f81) H locs 244 ls rfl ⟨(show ((0 : Int32).toInt = 3 ∧ RD mpof_74 f81 mpd_72 mpl_73 1 (K + 1)) ∨ ((0 ≤ (0 : Int32).toInt ∧ (0 : Int32).toInt < 3) ∧ RD mpof_74 f81 mpd_72 mpl_73 0 (K + 1)) ∨ (0 : Int32).toInt < 0 from by exact Or.inr (Or.inl ⟨by omega, RD_up (RD_turn hcl hp0 htop (by omega) (i2 := v80) (by omega) ef81) (by omega)⟩)), (show (0 : Int32).toInt = 0 ∨ (0 : Int32).toInt = 1 from by first | rfl | assumption | omega), trivial⟩ hP hD hS dX9_behind_244
              · have c79' := I_eq c79
                refine lv_aload_n hx hb dX9_behind_192 rfl (lv_at hl 1 rfl) ?_
                refine lv_dup hx hb dX9_behind_193 rfl ?_
                refine va_get (D := (dC, dI)) (ci := 8) (v := .int mpl_73) (C := RX9) (T := TX9) (N := 32) hx hb hts inG_X9 hown hK hP 0 rfl rfl 13 (by decide) (hts _ fl_X9_94) (fun _ h9 => h9) rfl dX9_behind_194 ?_
                refine lv_iconst (v := 2) hx hb dX9_behind_197 (by decide) ?_
                refine lv_isub hx hb dX9_behind_198 ?_
                refine lv_topi (fun v82 ev82 => ?_)
                try have hv82 : v82.toInt = mpl_73.toInt - (2 : Int32).toInt := I_subx ev82 (by omega)
                refine va_put (D := (dC, dI)) (ci := 8) (v := .int v82) (ty := .int) (C := RX9) (T := TX9) (N := 32) hx hb hts inG_X9 tyX9 tyX9_ok nmX9 hown hK hP hD hS 0 rfl rfl 13 (by decide) (hts _ fl_X9_94) (fun _ h9 => h9) rfl (by decide +kernel) rfl rfl (Nat.le_of_ble_eq_true rfl) dX9_behind_199 (fun H locs hP hD hS => ?_)
                have hP : va_P (dC, dI) vwCl [(m0, .inr (8, [.int mth, .int mst, .ref mp, .int mln, .ref mk, .int mts, .ref mti, .ref mtw, .ref mi, .int mmn, .ref mpo, .int mpd_72, .ref mpi, .int v82, .int mcp, .ref mre, .ref mnn, .ref mwo, .ref mga, .ref mlo, .ref mro, .ref mle, .ref mra, .int mme, .ref mha, .int mch, .int mtm, .int mgo, .int mwa, .ref mba, .int mbl, .ref mon])), (mpo, .inl (cI, 12, .inl mpof_74)), (mpi, .inl (cI, 26, .inl mpif))] H := hP
                have hD : va_D A [(m0, .inr (8, [.int mth, .int mst, .ref mp, .int mln, .ref mk, .int mts, .ref mti, .ref mtw, .ref mi, .int mmn, .ref mpo, .int mpd_72, .ref mpi, .int v82, .int mcp, .ref mre, .ref mnn, .ref mwo, .ref mga, .ref mlo, .ref mro, .ref mle, .ref mra, .int mme, .ref mha, .int mch, .int mtm, .int mgo, .int mwa, .ref mba, .int mbl, .ref mon])), (mpo, .inl (cI, 12, .inl mpof_74)), (mpi, .inl (cI, 26, .inl mpif))] := hD
                refine lv_aload_n hx hb dX9_behind_202 rfl (lv_at hl 1 rfl) ?_
                refine lv_aload_n hx hb dX9_behind_203 rfl (lv_at hl 1 rfl) ?_
                refine va_get (D := (dC, dI)) (ci := 8) (v := .ref mpi) (C := RX9) (T := TX9) (N := 32) hx hb hts inG_X9 hown hK hP 0 rfl rfl 12 (by decide) (hts _ fl_X9_28) (fun _ h9 => h9) rfl dX9_behind_204 ?_
                refine lv_aload_n hx hb dX9_behind_207 rfl (lv_at hl 1 rfl) ?_
                refine va_get (D := (dC, dI)) (ci := 8) (v := .int v82) (C := RX9) (T := TX9) (N := 32) hx hb hts inG_X9 hown hK hP 0 rfl rfl 13 (by decide) (hts _ fl_X9_94) (fun _ h9 => h9) rfl dX9_behind_208 ?_
                refine va_iald (t0 := 0) hx hb hK hP 2 (ha := rfl) (ht := rfl) (I_in (by omega) (by omega)) dX9_behind_211 ?_
                refine lv_topi (fun v83 ev83 => ?_)
                refine lv_iconst (v := 1) hx hb dX9_behind_212 (by decide) ?_
                refine lv_icmp_ne (tgt := 220) hx hb dX9_behind_213 (by decide) (fun c84 => ?_) (fun c84 => ?_)
                · have c84' := I_ne c84
                  refine lv_iconst (v := 0) hx hb dX9_behind_220 (by decide) ?_
                  refine va_put (D := (dC, dI)) (ci := 8) (v := .int 0) (ty := .boolean) (C := RX9) (T := TX9) (N := 32) hx hb hts inG_X9 tyX9 tyX9_ok nmX9 hown hK hP hD hS 0 rfl rfl 14 (by decide) (hts _ fl_X9_106) (fun _ h9 => h9) rfl (by decide +kernel) (by first | rfl | exact I_narz (by omega)) rfl (Nat.le_of_ble_eq_true rfl) dX9_behind_221 (fun H locs hP hD hS => ?_)
                  have hP : va_P (dC, dI) vwCl [(m0, .inr (8, [.int mth, .int mst, .ref mp, .int mln, .ref mk, .int mts, .ref mti, .ref mtw, .ref mi, .int mmn, .ref mpo, .int mpd_72, .ref mpi, .int v82, .int 0, .ref mre, .ref mnn, .ref mwo, .ref mga, .ref mlo, .ref mro, .ref mle, .ref mra, .int mme, .ref mha, .int mch, .int mtm, .int mgo, .int mwa, .ref mba, .int mbl, .ref mon])), (mpo, .inl (cI, 12, .inl mpof_74)), (mpi, .inl (cI, 26, .inl mpif))] H := hP
                  have hD : va_D A [(m0, .inr (8, [.int mth, .int mst, .ref mp, .int mln, .ref mk, .int mts, .ref mti, .ref mtw, .ref mi, .int mmn, .ref mpo, .int mpd_72, .ref mpi, .int v82, .int 0, .ref mre, .ref mnn, .ref mwo, .ref mga, .ref mlo, .ref mro, .ref mle, .ref mra, .int mme, .ref mha, .int mch, .int mtm, .int mgo, .int mwa, .ref mba, .int mbl, .ref mon])), (mpo, .inl (cI, 12, .inl mpof_74)), (mpi, .inl (cI, 26, .inl mpif))] := hD
                  refine lv_iconst (v := 3) hx hb dX9_behind_224 (by decide) ?_
                  exact hret 3 (mpd_72, v82, 0, mpof_74, mpif) H locs 225 ls rfl ⟨(show ((3 : Int32).toInt = 3 ∧ RD mpof_74 mpif mpd_72 v82 1 (K + 1)) ∨ ((0 ≤ (3 : Int32).toInt ∧ (3 : Int32).toInt < 3) ∧ RD mpof_74 mpif mpd_72 v82 0 (K + 1)) ∨ (3 : Int32).toInt < 0 from by exact Or.inl ⟨by omega, RD_up (RD_close hcl hp0 htop (by omega) (by omega)) (by omega)⟩), (show (0 : Int32).toInt = 0 ∨ (0 : Int32).toInt = 1 from by first | rfl | assumption | omega), trivial⟩ hP hD hS dX9_behind_225
                · have c84' := I_eq c84
                  refine lv_iconst (v := 1) hx hb dX9_behind_216 (by decide) ?_
                  refine lv_goto (tgt := 221) hx hb dX9_behind_217 (by decide) ?_
                  refine va_put (D := (dC, dI)) (ci := 8) (v := .int 1) (ty := .boolean) (C := RX9) (T := TX9) (N := 32) hx hb hts inG_X9 tyX9 tyX9_ok nmX9 hown hK hP hD hS 0 rfl rfl 14 (by decide) (hts _ fl_X9_106) (fun _ h9 => h9) rfl (by decide +kernel) (by first | rfl | exact I_narz (by omega)) rfl (Nat.le_of_ble_eq_true rfl) dX9_behind_221 (fun H locs hP hD hS => ?_)
                  have hP : va_P (dC, dI) vwCl [(m0, .inr (8, [.int mth, .int mst, .ref mp, .int mln, .ref mk, .int mts, .ref mti, .ref mtw, .ref mi, .int mmn, .ref mpo, .int mpd_72, .ref mpi, .int v82, .int 1, .ref mre, .ref mnn, .ref mwo, .ref mga, .ref mlo, .ref mro, .ref mle, .ref mra, .int mme, .ref mha, .int mch, .int mtm, .int mgo, .int mwa, .ref mba, .int mbl, .ref mon])), (mpo, .inl (cI, 12, .inl mpof_74)), (mpi, .inl (cI, 26, .inl mpif))] H := hP
                  have hD : va_D A [(m0, .inr (8, [.int mth, .int mst, .ref mp, .int mln, .ref mk, .int mts, .ref mti, .ref mtw, .ref mi, .int mmn, .ref mpo, .int mpd_72, .ref mpi, .int v82, .int 1, .ref mre, .ref mnn, .ref mwo, .ref mga, .ref mlo, .ref mro, .ref mle, .ref mra, .int mme, .ref mha, .int mch, .int mtm, .int mgo, .int mwa, .ref mba, .int mbl, .ref mon])), (mpo, .inl (cI, 12, .inl mpof_74)), (mpi, .inl (cI, 26, .inl mpif))] := hD
                  refine lv_iconst (v := 3) hx hb dX9_behind_224 (by decide) ?_
                  exact hret 3 (mpd_72, v82, 1, mpof_74, mpif) H locs 225 ls rfl ⟨(show ((3 : Int32).toInt = 3 ∧ RD mpof_74 mpif mpd_72 v82 1 (K + 1)) ∨ ((0 ≤ (3 : Int32).toInt ∧ (3 : Int32).toInt < 3) ∧ RD mpof_74 mpif mpd_72 v82 0 (K + 1)) ∨ (3 : Int32).toInt < 0 from by exact Or.inl ⟨by omega, RD_up (RD_close hcl hp0 htop (by omega) (by omega)) (by omega)⟩), (show (1 : Int32).toInt = 0 ∨ (1 : Int32).toInt = 1 from by first | rfl | assumption | omega), trivial⟩ hP hD hS dX9_behind_225
            · have c69' := I_eq c69
              refine lv_iconst (v := (-1)) hx hb dX9_behind_180 (by decide) ?_
              exact hret (-1) (mpd, mpl, mcp, mpof, mpif) H locs 181 ls rfl ⟨(show ((-1 : Int32).toInt = 3 ∧ RD mpof mpif mpd mpl 1 (K + 1)) ∨ ((0 ≤ (-1 : Int32).toInt ∧ (-1 : Int32).toInt < 3) ∧ RD mpof mpif mpd mpl 0 (K + 1)) ∨ (-1 : Int32).toInt < 0 from by exact Or.inr (Or.inr (by omega))), (show mcp.toInt = 0 ∨ mcp.toInt = 1 from by first | rfl | assumption | omega), trivial⟩ (hP.sub (ws' := [(m0, .inr (8, [.int mth, .int mst, .ref mp, .int mln, .ref mk, .int mts, .ref mti, .ref mtw, .ref mi, .int mmn, .ref mpo, .int mpd, .ref mpi, .int mpl, .int mcp, .ref mre, .ref mnn, .ref mwo, .ref mga, .ref mlo, .ref mro, .ref mle, .ref mra, .int mme, .ref mha, .int mch, .int mtm, .int mgo, .int mwa, .ref mba, .int mbl, .ref mon])), (mpo, .inl (cI, 12, .inl mpof)), (mpi, .inl (cI, 26, .inl mpif))]) [1, 0, 2] rfl) (hD.sub (ws' := [(m0, .inr (8, [.int mth, .int mst, .ref mp, .int mln, .ref mk, .int mts, .ref mti, .ref mtw, .ref mi, .int mmn, .ref mpo, .int mpd, .ref mpi, .int mpl, .int mcp, .ref mre, .ref mnn, .ref mwo, .ref mga, .ref mlo, .ref mro, .ref mle, .ref mra, .int mme, .ref mha, .int mch, .int mtm, .int mgo, .int mwa, .ref mba, .int mbl, .ref mon])), (mpo, .inl (cI, 12, .inl mpof)), (mpi, .inl (cI, 26, .inl mpif))]) [1, 0, 2] (by decide) rfl) hS dX9_behind_181
      · have c41' := I_eq c41
        refine lv_iconst (v := 0) hx hb dX9_behind_140 (by decide) ?_
        refine lv_goto (tgt := 167) hx hb dX9_behind_141 (by decide) ?_
        refine lv_istore_n (lv' := [(2, .int 0), (0, .ref m0), (1, .int x)]) hx hb dX9_behind_167 rfl hl (by decide) rfl (fun ls hl => ?_)
        refine lv_iload_n hx hb dX9_behind_168 rfl (lv_at hl 0 rfl) ?_
        refine lv_if_lt (tgt := 180) hx hb dX9_behind_169 (by decide) (fun c85 => ?_) (fun c85 => ?_)
        · have c85' := I_lt c85
          exact absurd c85 (by decide)
        · have c85' := I_nlt c85
          refine lv_aload_n hx hb dX9_behind_172 rfl (lv_at hl 1 rfl) ?_
          refine lv_iload_n hx hb dX9_behind_173 rfl (lv_at hl 0 rfl) ?_
          refine calI (rest := []) (wr := [(mpo, .inl (cI, 12, .inl mpof))]) hG (c_X9_hasFrame l dC dI cI cJ base bB bO m0 mth mst mp mln mk mts mti mtw mi mmn mpo mpd mpi mpl mcp mre mnn mwo mga mlo mro mle mra mme mha mch mtm mgo mwa mba mbl mon mpif 0 (by exact RD_x hRD) (by first | assumption | omega)) ml_X9_131 im_X9_hasFrame se_X9_hasFrame ini_X9 cd_X9_hasFrame hd_X9_hasFrame ⟨(Nat.le_of_ble_eq_true rfl), (Nat.le_of_ble_eq_true rfl)⟩ (Nat.le_of_ble_eq_true rfl) (Nat.le_of_ble_eq_true rfl) hP hD hS [0, 2] [1] rfl rfl rfl rfl (by decide) 8 0 rfl rfl hl.1 rfl (Nat.le_of_ble_eq_true rfl) dX9_behind_174 (fun r86 u H locs hw87 hP hD hS => ?_)
          have hw87 : ((r86.toInt = 1 ∧ FF mpif mpl.toInt (0 : Int32).toInt) ∨ r86.toInt = 0) ∧ True := hw87
          obtain ⟨hp88, -⟩ := hw87
          have hP : va_P (dC, dI) vwCl [(mpo, .inl (cI, 12, .inl mpof)), (m0, .inr (8, [.int mth, .int mst, .ref mp, .int mln, .ref mk, .int mts, .ref mti, .ref mtw, .ref mi, .int mmn, .ref mpo, .int mpd, .ref mpi, .int mpl, .int mcp, .ref mre, .ref mnn, .ref mwo, .ref mga, .ref mlo, .ref mro, .ref mle, .ref mra, .int mme, .ref mha, .int mch, .int mtm, .int mgo, .int mwa, .ref mba, .int mbl, .ref mon])), (mpi, .inl (cI, 26, .inl mpif))] H := hP
          have hD : va_D A [(mpo, .inl (cI, 12, .inl mpof)), (m0, .inr (8, [.int mth, .int mst, .ref mp, .int mln, .ref mk, .int mts, .ref mti, .ref mtw, .ref mi, .int mmn, .ref mpo, .int mpd, .ref mpi, .int mpl, .int mcp, .ref mre, .ref mnn, .ref mwo, .ref mga, .ref mlo, .ref mro, .ref mle, .ref mra, .int mme, .ref mha, .int mch, .int mtm, .int mgo, .int mwa, .ref mba, .int mbl, .ref mon])), (mpi, .inl (cI, 26, .inl mpif))] := hD
          have hhf := hp88
          refine lv_if_ne (tgt := 182) hx hb dX9_behind_177 (by decide) (fun c89 => ?_) (fun c89 => ?_)
          · have c89' := I_ne c89
            refine lv_aload_n hx hb dX9_behind_182 rfl (lv_at hl 1 rfl) ?_
            refine calI (rest := []) (wr := []) hG (c_X9_close l dC dI cI cJ base bB bO m0 mth mst mp mln mk mts mti mtw mi mmn mpo mpd mpi mpl mcp mre mnn mwo mga mlo mro mle mra mme mha mch mtm mgo mwa mba mbl mon mpof mpif K (by first | assumption | omega) (by first | assumption | omega)) ml_X9_124 im_X9_close se_X9_close ini_X9 cd_X9_close hd_X9_close ⟨(Nat.le_of_ble_eq_true rfl), (Nat.le_of_ble_eq_true rfl)⟩ (Nat.le_of_ble_eq_true rfl) (Nat.le_of_ble_eq_true rfl) hP hD hS [1, 0, 2] [] rfl rfl rfl rfl (by decide) 8 1 rfl rfl hl.1 rfl (Nat.le_of_ble_eq_true rfl) dX9_behind_183 (fun r90 u H locs hw91 hP hD hS => ?_)
            obtain ⟨mpd_92, mpl_93, mpof_94⟩ := u
            have hw91 : (RD mpof_94 mpif mpd_92 mpl_93 1 K) ∧ ((mpl_93.toInt = 0 ∧ r90.toInt = -1) ∨ (0 < mpl_93.toInt ∧ (r90.toInt = 0 ∨ r90.toInt = 9 ∨ r90.toInt = 10))) ∧ (mpl_93.toInt = 0 ∨ r90 = mpif (mpl_93.toInt - 1).toNat) ∧ (∀ w : Int, FF mpif mpl.toInt w → FF mpif mpl_93.toInt w) ∧ True := hw91
            obtain ⟨hp95, hp96, hp97, hp98, -⟩ := hw91
            have hP : va_P (dC, dI) vwCl [(m0, .inr (8, [.int mth, .int mst, .ref mp, .int mln, .ref mk, .int mts, .ref mti, .ref mtw, .ref mi, .int mmn, .ref mpo, .int mpd_92, .ref mpi, .int mpl_93, .int mcp, .ref mre, .ref mnn, .ref mwo, .ref mga, .ref mlo, .ref mro, .ref mle, .ref mra, .int mme, .ref mha, .int mch, .int mtm, .int mgo, .int mwa, .ref mba, .int mbl, .ref mon])), (mpo, .inl (cI, 12, .inl mpof_94)), (mpi, .inl (cI, 26, .inl mpif))] H := hP
            have hD : va_D A [(m0, .inr (8, [.int mth, .int mst, .ref mp, .int mln, .ref mk, .int mts, .ref mti, .ref mtw, .ref mi, .int mmn, .ref mpo, .int mpd_92, .ref mpi, .int mpl_93, .int mcp, .ref mre, .ref mnn, .ref mwo, .ref mga, .ref mlo, .ref mro, .ref mle, .ref mra, .int mme, .ref mha, .int mch, .int mtm, .int mgo, .int mwa, .ref mba, .int mbl, .ref mon])), (mpo, .inl (cI, 12, .inl mpof_94)), (mpi, .inl (cI, 26, .inl mpif))] := hD
            have hcl := hp95
            have hclb := RD_b hcl
            have hFF : FF mpif mpl_93.toInt (0 : Int32).toInt := by rcases hhf with h | h; exact hp98 _ h.2; exact absurd h (by omega)
            have hp0 := FF_pos hFF
            have htop : r90 = mpif (mpl_93.toInt - 1).toNat := by rcases hp97 with h | h; exact absurd h (by omega); exact h
            have hrw := FF_top hFF htop (by unfold isFr; omega) (by omega)
            have hp2 := RD_top hcl hp0 htop (by unfold isFr; omega)
            refine lv_pop hx hb dX9_behind_186 rfl ?_
            refine lv_iload_n hx hb dX9_behind_187 rfl (lv_at hl 2 rfl) ?_
            refine lv_iconst (v := 1) hx hb dX9_behind_188 (by decide) ?_
            refine lv_icmp_ne (tgt := 226) hx hb dX9_behind_189 (by decide) (fun c99 => ?_) (fun c99 => ?_)
            · have c99' := I_ne c99
              refine lv_aload_n hx hb dX9_behind_226 rfl (lv_at hl 1 rfl) ?_
              refine va_get (D := (dC, dI)) (ci := 8) (v := .ref mpi) (C := RX9) (T := TX9) (N := 32) hx hb hts inG_X9 hown hK hP 0 rfl rfl 12 (by decide) (hts _ fl_X9_28) (fun _ h9 => h9) rfl dX9_behind_227 ?_
              refine lv_aload_n hx hb dX9_behind_230 rfl (lv_at hl 1 rfl) ?_
              refine va_get (D := (dC, dI)) (ci := 8) (v := .int mpl_93) (C := RX9) (T := TX9) (N := 32) hx hb hts inG_X9 hown hK hP 0 rfl rfl 13 (by decide) (hts _ fl_X9_94) (fun _ h9 => h9) rfl dX9_behind_231 ?_
              refine lv_iconst (v := 1) hx hb dX9_behind_234 (by decide) ?_
              refine lv_isub hx hb dX9_behind_235 ?_
              refine lv_topi (fun v100 ev100 => ?_)
              try have hv100 : v100.toInt = mpl_93.toInt - (1 : Int32).toInt := I_subx ev100 (by omega)
              refine lv_iload_n hx hb dX9_behind_236 rfl (lv_at hl 2 rfl) ?_
              refine va_iast (t0 := 0) hx hb hK hP hD hS 2 (ha := rfl) (ht := rfl) (I_in (by omega) (by omega)) dX9_behind_237 (fun H locs hP hD hS => ?_)
              have hP : va_P (dC, dI) vwCl [(m0, .inr (8, [.int mth, .int mst, .ref mp, .int mln, .ref mk, .int mts, .ref mti, .ref mtw, .ref mi, .int mmn, .ref mpo, .int mpd_92, .ref mpi, .int mpl_93, .int mcp, .ref mre, .ref mnn, .ref mwo, .ref mga, .ref mlo, .ref mro, .ref mle, .ref mra, .int mme, .ref mha, .int mch, .int mtm, .int mgo, .int mwa, .ref mba, .int mbl, .ref mon])), (mpo, .inl (cI, 12, .inl mpof_94)), (mpi, .inl (cI, 26, .inl (upd mpif v100.toNatClampNeg x)))] H := hP
              have hD : va_D A [(m0, .inr (8, [.int mth, .int mst, .ref mp, .int mln, .ref mk, .int mts, .ref mti, .ref mtw, .ref mi, .int mmn, .ref mpo, .int mpd_92, .ref mpi, .int mpl_93, .int mcp, .ref mre, .ref mnn, .ref mwo, .ref mga, .ref mlo, .ref mro, .ref mle, .ref mra, .int mme, .ref mha, .int mch, .int mtm, .int mgo, .int mwa, .ref mba, .int mbl, .ref mon])), (mpo, .inl (cI, 12, .inl mpof_94)), (mpi, .inl (cI, 26, .inl (upd mpif v100.toNatClampNeg x)))] := hD
              generalize ef101 : upd mpif v100.toNatClampNeg x = f101 at hP hD
              refine lv_aload_n hx hb dX9_behind_238 rfl (lv_at hl 1 rfl) ?_
              refine lv_iconst (v := 0) hx hb dX9_behind_239 (by decide) ?_
              refine va_put (D := (dC, dI)) (ci := 8) (v := .int 0) (ty := .boolean) (C := RX9) (T := TX9) (N := 32) hx hb hts inG_X9 tyX9 tyX9_ok nmX9 hown hK hP hD hS 0 rfl rfl 14 (by decide) (hts _ fl_X9_106) (fun _ h9 => h9) rfl (by decide +kernel) (by first | rfl | exact I_narz (by omega)) rfl (Nat.le_of_ble_eq_true rfl) dX9_behind_240 (fun H locs hP hD hS => ?_)
              have hP : va_P (dC, dI) vwCl [(m0, .inr (8, [.int mth, .int mst, .ref mp, .int mln, .ref mk, .int mts, .ref mti, .ref mtw, .ref mi, .int mmn, .ref mpo, .int mpd_92, .ref mpi, .int mpl_93, .int 0, .ref mre, .ref mnn, .ref mwo, .ref mga, .ref mlo, .ref mro, .ref mle, .ref mra, .int mme, .ref mha, .int mch, .int mtm, .int mgo, .int mwa, .ref mba, .int mbl, .ref mon])), (mpo, .inl (cI, 12, .inl mpof_94)), (mpi, .inl (cI, 26, .inl f101))] H := hP
              have hD : va_D A [(m0, .inr (8, [.int mth, .int mst, .ref mp, .int mln, .ref mk, .int mts, .ref mti, .ref mtw, .ref mi, .int mmn, .ref mpo, .int mpd_92, .ref mpi, .int mpl_93, .int 0, .ref mre, .ref mnn, .ref mwo, .ref mga, .ref mlo, .ref mro, .ref mle, .ref mra, .int mme, .ref mha, .int mch, .int mtm, .int mgo, .int mwa, .ref mba, .int mbl, .ref mon])), (mpo, .inl (cI, 12, .inl mpof_94)), (mpi, .inl (cI, 26, .inl f101))] := hD
              refine lv_iconst (v := 0) hx hb dX9_behind_243 (by decide) ?_
              exact hret 0 (mpd_92, mpl_93, 0, mpof_94, f101) H locs 244 ls rfl ⟨(show ((0 : Int32).toInt = 3 ∧ RD mpof_94 f101 mpd_92 mpl_93 1 (K + 1)) ∨ ((0 ≤ (0 : Int32).toInt ∧ (0 : Int32).toInt < 3) ∧ RD mpof_94 f101 mpd_92 mpl_93 0 (K + 1)) ∨ (0 : Int32).toInt < 0 from by exact Or.inr (Or.inl ⟨by omega, RD_up (RD_turn hcl hp0 htop (by omega) (i2 := v100) (by omega) ef101) (by omega)⟩)), (show (0 : Int32).toInt = 0 ∨ (0 : Int32).toInt = 1 from by first | rfl | assumption | omega), trivial⟩ hP hD hS dX9_behind_244
            · have c99' := I_eq c99
              refine lv_aload_n hx hb dX9_behind_192 rfl (lv_at hl 1 rfl) ?_
              refine lv_dup hx hb dX9_behind_193 rfl ?_
              refine va_get (D := (dC, dI)) (ci := 8) (v := .int mpl_93) (C := RX9) (T := TX9) (N := 32) hx hb hts inG_X9 hown hK hP 0 rfl rfl 13 (by decide) (hts _ fl_X9_94) (fun _ h9 => h9) rfl dX9_behind_194 ?_
              refine lv_iconst (v := 2) hx hb dX9_behind_197 (by decide) ?_
              refine lv_isub hx hb dX9_behind_198 ?_
              refine lv_topi (fun v102 ev102 => ?_)
              try have hv102 : v102.toInt = mpl_93.toInt - (2 : Int32).toInt := I_subx ev102 (by omega)
              refine va_put (D := (dC, dI)) (ci := 8) (v := .int v102) (ty := .int) (C := RX9) (T := TX9) (N := 32) hx hb hts inG_X9 tyX9 tyX9_ok nmX9 hown hK hP hD hS 0 rfl rfl 13 (by decide) (hts _ fl_X9_94) (fun _ h9 => h9) rfl (by decide +kernel) rfl rfl (Nat.le_of_ble_eq_true rfl) dX9_behind_199 (fun H locs hP hD hS => ?_)
              have hP : va_P (dC, dI) vwCl [(m0, .inr (8, [.int mth, .int mst, .ref mp, .int mln, .ref mk, .int mts, .ref mti, .ref mtw, .ref mi, .int mmn, .ref mpo, .int mpd_92, .ref mpi, .int v102, .int mcp, .ref mre, .ref mnn, .ref mwo, .ref mga, .ref mlo, .ref mro, .ref mle, .ref mra, .int mme, .ref mha, .int mch, .int mtm, .int mgo, .int mwa, .ref mba, .int mbl, .ref mon])), (mpo, .inl (cI, 12, .inl mpof_94)), (mpi, .inl (cI, 26, .inl mpif))] H := hP
              have hD : va_D A [(m0, .inr (8, [.int mth, .int mst, .ref mp, .int mln, .ref mk, .int mts, .ref mti, .ref mtw, .ref mi, .int mmn, .ref mpo, .int mpd_92, .ref mpi, .int v102, .int mcp, .ref mre, .ref mnn, .ref mwo, .ref mga, .ref mlo, .ref mro, .ref mle, .ref mra, .int mme, .ref mha, .int mch, .int mtm, .int mgo, .int mwa, .ref mba, .int mbl, .ref mon])), (mpo, .inl (cI, 12, .inl mpof_94)), (mpi, .inl (cI, 26, .inl mpif))] := hD
              refine lv_aload_n hx hb dX9_behind_202 rfl (lv_at hl 1 rfl) ?_
              refine lv_aload_n hx hb dX9_behind_203 rfl (lv_at hl 1 rfl) ?_
              refine va_get (D := (dC, dI)) (ci := 8) (v := .ref mpi) (C := RX9) (T := TX9) (N := 32) hx hb hts inG_X9 hown hK hP 0 rfl rfl 12 (by decide) (hts _ fl_X9_28) (fun _ h9 => h9) rfl dX9_behind_204 ?_
              refine lv_aload_n hx hb dX9_behind_207 rfl (lv_at hl 1 rfl) ?_
              refine va_get (D := (dC, dI)) (ci := 8) (v := .int v102) (C := RX9) (T := TX9) (N := 32) hx hb hts inG_X9 hown hK hP 0 rfl rfl 13 (by decide) (hts _ fl_X9_94) (fun _ h9 => h9) rfl dX9_behind_208 ?_
              refine va_iald (t0 := 0) hx hb hK hP 2 (ha := rfl) (ht := rfl) (I_in (by omega) (by omega)) dX9_behind_211 ?_
              refine lv_topi (fun v103 ev103 => ?_)
              refine lv_iconst (v := 1) hx hb dX9_behind_212 (by decide) ?_
              refine lv_icmp_ne (tgt := 220) hx hb dX9_behind_213 (by decide) (fun c104 => ?_) (fun c104 => ?_)
              · have c104' := I_ne c104
                refine lv_iconst (v := 0) hx hb dX9_behind_220 (by decide) ?_
                refine va_put (D := (dC, dI)) (ci := 8) (v := .int 0) (ty := .boolean) (C := RX9) (T := TX9) (N := 32) hx hb hts inG_X9 tyX9 tyX9_ok nmX9 hown hK hP hD hS 0 rfl rfl 14 (by decide) (hts _ fl_X9_106) (fun _ h9 => h9) rfl (by decide +kernel) (by first | rfl | exact I_narz (by omega)) rfl (Nat.le_of_ble_eq_true rfl) dX9_behind_221 (fun H locs hP hD hS => ?_)
                have hP : va_P (dC, dI) vwCl [(m0, .inr (8, [.int mth, .int mst, .ref mp, .int mln, .ref mk, .int mts, .ref mti, .ref mtw, .ref mi, .int mmn, .ref mpo, .int mpd_92, .ref mpi, .int v102, .int 0, .ref mre, .ref mnn, .ref mwo, .ref mga, .ref mlo, .ref mro, .ref mle, .ref mra, .int mme, .ref mha, .int mch, .int mtm, .int mgo, .int mwa, .ref mba, .int mbl, .ref mon])), (mpo, .inl (cI, 12, .inl mpof_94)), (mpi, .inl (cI, 26, .inl mpif))] H := hP
                have hD : va_D A [(m0, .inr (8, [.int mth, .int mst, .ref mp, .int mln, .ref mk, .int mts, .ref mti, .ref mtw, .ref mi, .int mmn, .ref mpo, .int mpd_92, .ref mpi, .int v102, .int 0, .ref mre, .ref mnn, .ref mwo, .ref mga, .ref mlo, .ref mro, .ref mle, .ref mra, .int mme, .ref mha, .int mch, .int mtm, .int mgo, .int mwa, .ref mba, .int mbl, .ref mon])), (mpo, .inl (cI, 12, .inl mpof_94)), (mpi, .inl (cI, 26, .inl mpif))] := hD
                refine lv_iconst (v := 3) hx hb dX9_behind_224 (by decide) ?_
                exact hret 3 (mpd_92, v102, 0, mpof_94, mpif) H locs 225 ls rfl ⟨(show ((3 : Int32).toInt = 3 ∧ RD mpof_94 mpif mpd_92 v102 1 (K + 1)) ∨ ((0 ≤ (3 : Int32).toInt ∧ (3 : Int32).toInt < 3) ∧ RD mpof_94 mpif mpd_92 v102 0 (K + 1)) ∨ (3 : Int32).toInt < 0 from by exact Or.inl ⟨by omega, RD_up (RD_close hcl hp0 htop (by omega) (by omega)) (by omega)⟩), (show (0 : Int32).toInt = 0 ∨ (0 : Int32).toInt = 1 from by first | rfl | assumption | omega), trivial⟩ hP hD hS dX9_behind_225
              · have c104' := I_eq c104
                refine lv_iconst (v := 1) hx hb dX9_behind_216 (by decide) ?_
                refine lv_goto (tgt := 221) hx hb dX9_behind_217 (by decide) ?_
                refine va_put (D := (dC, dI)) (ci := 8) (v := .int 1) (ty := .boolean) (C := RX9) (T := TX9) (N := 32) hx hb hts inG_X9 tyX9 tyX9_ok nmX9 hown hK hP hD hS 0 rfl rfl 14 (by decide) (hts _ fl_X9_106) (fun _ h9 => h9) rfl (by decide +kernel) (by first | rfl | exact I_narz (by omega)) rfl (Nat.le_of_ble_eq_true rfl) dX9_behind_221 (fun H locs hP hD hS => ?_)
                have hP : va_P (dC, dI) vwCl [(m0, .inr (8, [.int mth, .int mst, .ref mp, .int mln, .ref mk, .int mts, .ref mti, .ref mtw, .ref mi, .int mmn, .ref mpo, .int mpd_92, .ref mpi, .int v102, .int 1, .ref mre, .ref mnn, .ref mwo, .ref mga, .ref mlo, .ref mro, .ref mle, .ref mra, .int mme, .ref mha, .int mch, .int mtm, .int mgo, .int mwa, .ref mba, .int mbl, .ref mon])), (mpo, .inl (cI, 12, .inl mpof_94)), (mpi, .inl (cI, 26, .inl mpif))] H := hP
                have hD : va_D A [(m0, .inr (8, [.int mth, .int mst, .ref mp, .int mln, .ref mk, .int mts, .ref mti, .ref mtw, .ref mi, .int mmn, .ref mpo, .int mpd_92, .ref mpi, .int v102, .int 1, .ref mre, .ref mnn, .ref mwo, .ref mga, .ref mlo, .ref mro, .ref mle, .ref mra, .int mme, .ref mha, .int mch, .int mtm, .int mgo, .int mwa, .ref mba, .int mbl, .ref mon])), (mpo, .inl (cI, 12, .inl mpof_94)), (mpi, .inl (cI, 26, .inl mpif))] := hD
                refine lv_iconst (v := 3) hx hb dX9_behind_224 (by decide) ?_
                exact hret 3 (mpd_92, v102, 1, mpof_94, mpif) H locs 225 ls rfl ⟨(show ((3 : Int32).toInt = 3 ∧ RD mpof_94 mpif mpd_92 v102 1 (K + 1)) ∨ ((0 ≤ (3 : Int32).toInt ∧ (3 : Int32).toInt < 3) ∧ RD mpof_94 mpif mpd_92 v102 0 (K + 1)) ∨ (3 : Int32).toInt < 0 from by exact Or.inl ⟨by omega, RD_up (RD_close hcl hp0 htop (by omega) (by omega)) (by omega)⟩), (show (1 : Int32).toInt = 0 ∨ (1 : Int32).toInt = 1 from by first | rfl | assumption | omega), trivial⟩ hP hD hS dX9_behind_225
          · have c89' := I_eq c89
            refine lv_iconst (v := (-1)) hx hb dX9_behind_180 (by decide) ?_
            exact hret (-1) (mpd, mpl, mcp, mpof, mpif) H locs 181 ls rfl ⟨(show ((-1 : Int32).toInt = 3 ∧ RD mpof mpif mpd mpl 1 (K + 1)) ∨ ((0 ≤ (-1 : Int32).toInt ∧ (-1 : Int32).toInt < 3) ∧ RD mpof mpif mpd mpl 0 (K + 1)) ∨ (-1 : Int32).toInt < 0 from by exact Or.inr (Or.inr (by omega))), (show mcp.toInt = 0 ∨ mcp.toInt = 1 from by first | rfl | assumption | omega), trivial⟩ (hP.sub (ws' := [(m0, .inr (8, [.int mth, .int mst, .ref mp, .int mln, .ref mk, .int mts, .ref mti, .ref mtw, .ref mi, .int mmn, .ref mpo, .int mpd, .ref mpi, .int mpl, .int mcp, .ref mre, .ref mnn, .ref mwo, .ref mga, .ref mlo, .ref mro, .ref mle, .ref mra, .int mme, .ref mha, .int mch, .int mtm, .int mgo, .int mwa, .ref mba, .int mbl, .ref mon])), (mpo, .inl (cI, 12, .inl mpof)), (mpi, .inl (cI, 26, .inl mpif))]) [1, 0, 2] rfl) (hD.sub (ws' := [(m0, .inr (8, [.int mth, .int mst, .ref mp, .int mln, .ref mk, .int mts, .ref mti, .ref mtw, .ref mi, .int mmn, .ref mpo, .int mpd, .ref mpi, .int mpl, .int mcp, .ref mre, .ref mnn, .ref mwo, .ref mga, .ref mlo, .ref mro, .ref mle, .ref mra, .int mme, .ref mha, .int mch, .int mtm, .int mgo, .int mwa, .ref mba, .int mbl, .ref mon])), (mpo, .inl (cI, 12, .inl mpof)), (mpi, .inl (cI, 26, .inl mpif))]) [1, 0, 2] (by decide) rfl) hS dX9_behind_181
    · have c40' := I_eq c40
      refine lv_aload_n hx hb dX9_behind_102 rfl (lv_at hl 0 rfl) ?_
      refine lv_iconst (v := 1) hx hb dX9_behind_103 (by decide) ?_
      refine calV (rest := []) (wr := []) hG (c_X9_settle l dC dI cI cJ base bB bO m0 mth mst mp mln mk mts mti mtw mi mmn mpo mpd mpi mpl mcp mre mnn mwo mga mlo mro mle mra mme mha mch mtm mgo mwa mba mbl mon mpof mpif 1 K (by first | assumption | omega) (by first | assumption | omega) (by first | assumption | omega)) ml_X9_110 im_X9_settle se_X9_settle ini_X9 cd_X9_settle hd_X9_settle ⟨(Nat.le_of_ble_eq_true rfl), (Nat.le_of_ble_eq_true rfl)⟩ (Nat.le_of_ble_eq_true rfl) (Nat.le_of_ble_eq_true rfl) hP hD hS [0, 1, 2] [] rfl rfl rfl rfl (by decide) 8 0 rfl rfl hl.1 rfl (Nat.le_of_ble_eq_true rfl) dX9_behind_104 (fun u H locs hw105 hP hD hS => ?_)
      obtain ⟨mpd_106, mpl_107, mpof_108⟩ := u
      have hw105 : (RD mpof_108 mpif mpd_106 mpl_107 1 K) ∧ (mpl_107.toInt ≤ mpl.toInt) ∧ (mpl_107.toInt = 0 ∨ 1 < (1 : Int32).toInt ∨ isFr (mpif (mpl_107.toInt - 1).toNat).toInt) ∧ (∀ w : Int, FF mpif mpl.toInt w → FF mpif mpl_107.toInt w) ∧ True := hw105
      obtain ⟨hp109, hp110, hp111, hp112, -⟩ := hw105
      have hP : va_P (dC, dI) vwCl [(m0, .inr (8, [.int mth, .int mst, .ref mp, .int mln, .ref mk, .int mts, .ref mti, .ref mtw, .ref mi, .int mmn, .ref mpo, .int mpd_106, .ref mpi, .int mpl_107, .int mcp, .ref mre, .ref mnn, .ref mwo, .ref mga, .ref mlo, .ref mro, .ref mle, .ref mra, .int mme, .ref mha, .int mch, .int mtm, .int mgo, .int mwa, .ref mba, .int mbl, .ref mon])), (mpo, .inl (cI, 12, .inl mpof_108)), (mpi, .inl (cI, 26, .inl mpif))] H := hP
      have hD : va_D A [(m0, .inr (8, [.int mth, .int mst, .ref mp, .int mln, .ref mk, .int mts, .ref mti, .ref mtw, .ref mi, .int mmn, .ref mpo, .int mpd_106, .ref mpi, .int mpl_107, .int mcp, .ref mre, .ref mnn, .ref mwo, .ref mga, .ref mlo, .ref mro, .ref mle, .ref mra, .int mme, .ref mha, .int mch, .int mtm, .int mgo, .int mwa, .ref mba, .int mbl, .ref mon])), (mpo, .inl (cI, 12, .inl mpof_108)), (mpi, .inl (cI, 26, .inl mpif))] := hD
      have hse := hp109
      have hseb := RD_b hse
      refine lv_aload_n hx hb dX9_behind_107 rfl (lv_at hl 0 rfl) ?_
      refine lv_iconst (v := 0) hx hb dX9_behind_108 (by decide) ?_
      refine va_put (D := (dC, dI)) (ci := 8) (v := .int 0) (ty := .boolean) (C := RX9) (T := TX9) (N := 32) hx hb hts inG_X9 tyX9 tyX9_ok nmX9 hown hK hP hD hS 0 rfl rfl 14 (by decide) (hts _ fl_X9_106) (fun _ h9 => h9) rfl (by decide +kernel) (by first | rfl | exact I_narz (by omega)) rfl (Nat.le_of_ble_eq_true rfl) dX9_behind_109 (fun H locs hP hD hS => ?_)
      have hP : va_P (dC, dI) vwCl [(m0, .inr (8, [.int mth, .int mst, .ref mp, .int mln, .ref mk, .int mts, .ref mti, .ref mtw, .ref mi, .int mmn, .ref mpo, .int mpd_106, .ref mpi, .int mpl_107, .int 0, .ref mre, .ref mnn, .ref mwo, .ref mga, .ref mlo, .ref mro, .ref mle, .ref mra, .int mme, .ref mha, .int mch, .int mtm, .int mgo, .int mwa, .ref mba, .int mbl, .ref mon])), (mpo, .inl (cI, 12, .inl mpof_108)), (mpi, .inl (cI, 26, .inl mpif))] H := hP
      have hD : va_D A [(m0, .inr (8, [.int mth, .int mst, .ref mp, .int mln, .ref mk, .int mts, .ref mti, .ref mtw, .ref mi, .int mmn, .ref mpo, .int mpd_106, .ref mpi, .int mpl_107, .int 0, .ref mre, .ref mnn, .ref mwo, .ref mga, .ref mlo, .ref mro, .ref mle, .ref mra, .int mme, .ref mha, .int mch, .int mtm, .int mgo, .int mwa, .ref mba, .int mbl, .ref mon])), (mpo, .inl (cI, 12, .inl mpof_108)), (mpi, .inl (cI, 26, .inl mpif))] := hD
      refine lv_aload_n hx hb dX9_behind_112 rfl (lv_at hl 0 rfl) ?_
      refine va_get (D := (dC, dI)) (ci := 8) (v := .ref mpi) (C := RX9) (T := TX9) (N := 32) hx hb hts inG_X9 hown hK hP 0 rfl rfl 12 (by decide) (hts _ fl_X9_28) (fun _ h9 => h9) rfl dX9_behind_113 ?_
      refine lv_aload_n hx hb dX9_behind_116 rfl (lv_at hl 0 rfl) ?_
      refine va_get (D := (dC, dI)) (ci := 8) (v := .int mpl_107) (C := RX9) (T := TX9) (N := 32) hx hb hts inG_X9 hown hK hP 0 rfl rfl 13 (by decide) (hts _ fl_X9_94) (fun _ h9 => h9) rfl dX9_behind_117 ?_
      refine lv_bipush (v := 7) hx hb dX9_behind_120 (by decide) ?_
      refine va_iast (t0 := 0) hx hb hK hP hD hS 2 (ha := rfl) (ht := rfl) (I_in (by omega) (by omega)) dX9_behind_122 (fun H locs hP hD hS => ?_)
      have hP : va_P (dC, dI) vwCl [(m0, .inr (8, [.int mth, .int mst, .ref mp, .int mln, .ref mk, .int mts, .ref mti, .ref mtw, .ref mi, .int mmn, .ref mpo, .int mpd_106, .ref mpi, .int mpl_107, .int 0, .ref mre, .ref mnn, .ref mwo, .ref mga, .ref mlo, .ref mro, .ref mle, .ref mra, .int mme, .ref mha, .int mch, .int mtm, .int mgo, .int mwa, .ref mba, .int mbl, .ref mon])), (mpo, .inl (cI, 12, .inl mpof_108)), (mpi, .inl (cI, 26, .inl (upd mpif mpl_107.toNatClampNeg 7)))] H := hP
      have hD : va_D A [(m0, .inr (8, [.int mth, .int mst, .ref mp, .int mln, .ref mk, .int mts, .ref mti, .ref mtw, .ref mi, .int mmn, .ref mpo, .int mpd_106, .ref mpi, .int mpl_107, .int 0, .ref mre, .ref mnn, .ref mwo, .ref mga, .ref mlo, .ref mro, .ref mle, .ref mra, .int mme, .ref mha, .int mch, .int mtm, .int mgo, .int mwa, .ref mba, .int mbl, .ref mon])), (mpo, .inl (cI, 12, .inl mpof_108)), (mpi, .inl (cI, 26, .inl (upd mpif mpl_107.toNatClampNeg 7)))] := hD
      generalize ef113 : upd mpif mpl_107.toNatClampNeg 7 = f113 at hP hD
      refine lv_aload_n hx hb dX9_behind_123 rfl (lv_at hl 0 rfl) ?_
      refine lv_dup hx hb dX9_behind_124 rfl ?_
      refine va_get (D := (dC, dI)) (ci := 8) (v := .int mpl_107) (C := RX9) (T := TX9) (N := 32) hx hb hts inG_X9 hown hK hP 0 rfl rfl 13 (by decide) (hts _ fl_X9_94) (fun _ h9 => h9) rfl dX9_behind_125 ?_
      refine lv_iconst (v := 1) hx hb dX9_behind_128 (by decide) ?_
      refine lv_iadd hx hb dX9_behind_129 ?_
      refine lv_topi (fun v114 ev114 => ?_)
      try have hv114 : v114.toInt = mpl_107.toInt + (1 : Int32).toInt := I_addx ev114 (by omega)
      refine va_put (D := (dC, dI)) (ci := 8) (v := .int v114) (ty := .int) (C := RX9) (T := TX9) (N := 32) hx hb hts inG_X9 tyX9 tyX9_ok nmX9 hown hK hP hD hS 0 rfl rfl 13 (by decide) (hts _ fl_X9_94) (fun _ h9 => h9) rfl (by decide +kernel) rfl rfl (Nat.le_of_ble_eq_true rfl) dX9_behind_130 (fun H locs hP hD hS => ?_)
      have hP : va_P (dC, dI) vwCl [(m0, .inr (8, [.int mth, .int mst, .ref mp, .int mln, .ref mk, .int mts, .ref mti, .ref mtw, .ref mi, .int mmn, .ref mpo, .int mpd_106, .ref mpi, .int v114, .int 0, .ref mre, .ref mnn, .ref mwo, .ref mga, .ref mlo, .ref mro, .ref mle, .ref mra, .int mme, .ref mha, .int mch, .int mtm, .int mgo, .int mwa, .ref mba, .int mbl, .ref mon])), (mpo, .inl (cI, 12, .inl mpof_108)), (mpi, .inl (cI, 26, .inl f113))] H := hP
      have hD : va_D A [(m0, .inr (8, [.int mth, .int mst, .ref mp, .int mln, .ref mk, .int mts, .ref mti, .ref mtw, .ref mi, .int mmn, .ref mpo, .int mpd_106, .ref mpi, .int v114, .int 0, .ref mre, .ref mnn, .ref mwo, .ref mga, .ref mlo, .ref mro, .ref mle, .ref mra, .int mme, .ref mha, .int mch, .int mtm, .int mgo, .int mwa, .ref mba, .int mbl, .ref mon])), (mpo, .inl (cI, 12, .inl mpof_108)), (mpi, .inl (cI, 26, .inl f113))] := hD
      refine lv_iconst (v := 1) hx hb dX9_behind_133 (by decide) ?_
      exact hret 1 (mpd_106, v114, 0, mpof_108, f113) H locs 134 ls rfl ⟨(show ((1 : Int32).toInt = 3 ∧ RD mpof_108 f113 mpd_106 v114 1 (K + 1)) ∨ ((0 ≤ (1 : Int32).toInt ∧ (1 : Int32).toInt < 3) ∧ RD mpof_108 f113 mpd_106 v114 0 (K + 1)) ∨ (1 : Int32).toInt < 0 from by exact Or.inr (Or.inl ⟨by omega, RD_op hse (by unfold isOp; omega) (by decide) (by omega) ef113⟩)), (show (0 : Int32).toInt = 0 ∨ (0 : Int32).toInt = 1 from by first | rfl | assumption | omega), trivial⟩ hP hD hS dX9_behind_134
  refine lv_iload_n hx hb dX9_behind_0 rfl (lv_at hl 1 rfl) ?_
  refine lv_iconst (v := 4) hx hb dX9_behind_1 (by decide) ?_
  refine lv_icmp_eq (tgt := 33) hx hb dX9_behind_2 (by decide) (fun c115 => ?_) (fun c115 => ?_)
  · have c115' := I_eq c115
    exact J33  (by first | assumption | omega) H locs ls hP hD hS hl
  · have c115' := I_ne c115
    refine lv_iload_n hx hb dX9_behind_5 rfl (lv_at hl 1 rfl) ?_
    refine lv_iconst (v := 2) hx hb dX9_behind_6 (by decide) ?_
    refine lv_icmp_eq (tgt := 33) hx hb dX9_behind_7 (by decide) (fun c116 => ?_) (fun c116 => ?_)
    · have c116' := I_eq c116
      exact J33  (by first | assumption | omega) H locs ls hP hD hS hl
    · have c116' := I_ne c116
      refine lv_iload_n hx hb dX9_behind_10 rfl (lv_at hl 1 rfl) ?_
      refine lv_iconst (v := 3) hx hb dX9_behind_11 (by decide) ?_
      refine lv_icmp_eq (tgt := 33) hx hb dX9_behind_12 (by decide) (fun c117 => ?_) (fun c117 => ?_)
      · have c117' := I_eq c117
        exact J33  (by first | assumption | omega) H locs ls hP hD hS hl
      · have c117' := I_ne c117
        refine lv_iload_n hx hb dX9_behind_15 rfl (lv_at hl 1 rfl) ?_
        refine lv_iconst (v := 5) hx hb dX9_behind_16 (by decide) ?_
        refine lv_icmp_eq (tgt := 26) hx hb dX9_behind_17 (by decide) (fun c118 => ?_) (fun c118 => ?_)
        · have c118' := I_eq c118
          refine lv_aload_n hx hb dX9_behind_26 rfl (lv_at hl 0 rfl) ?_
          refine va_get (D := (dC, dI)) (ci := 8) (v := .int mcp) (C := RX9) (T := TX9) (N := 32) hx hb hts inG_X9 hown hK hP 0 rfl rfl 14 (by decide) (hts _ fl_X9_106) (fun _ h9 => h9) rfl dX9_behind_27 ?_
          refine lv_if_ne (tgt := 96) hx hb dX9_behind_30 (by decide) (fun c119 => ?_) (fun c119 => ?_)
          · have c119' := I_ne c119
            exact J96   H locs ls hP hD hS hl
          · have c119' := I_eq c119
            exact J33  (by first | assumption | omega) H locs ls hP hD hS hl
        · have c118' := I_ne c118
          refine lv_iload_n hx hb dX9_behind_20 rfl (lv_at hl 1 rfl) ?_
          refine lv_bipush (v := 6) hx hb dX9_behind_21 (by decide) ?_
          refine lv_icmp_ne (tgt := 96) hx hb dX9_behind_23 (by decide) (fun c120 => ?_) (fun c120 => ?_)
          · have c120' := I_ne c120
            exact J96   H locs ls hP hD hS hl
          · have c120' := I_eq c120
            refine lv_aload_n hx hb dX9_behind_26 rfl (lv_at hl 0 rfl) ?_
            refine va_get (D := (dC, dI)) (ci := 8) (v := .int mcp) (C := RX9) (T := TX9) (N := 32) hx hb hts inG_X9 hown hK hP 0 rfl rfl 14 (by decide) (hts _ fl_X9_106) (fun _ h9 => h9) rfl dX9_behind_27 ?_
            refine lv_if_ne (tgt := 96) hx hb dX9_behind_30 (by decide) (fun c121 => ?_) (fun c121 => ?_)
            · have c121' := I_ne c121
              exact J96   H locs ls hP hD hS hl
            · have c121' := I_eq c121
              exact J33  (by first | assumption | omega) H locs ls hP hD hS hl
set_option maxHeartbeats 4000000 in
set_option maxRecDepth 100000 in
theorem c_X9_read (l : Launch) (dC : Nat → ClassId) (dI : Nat → Nat → Nat) (cI cJ : ClassId) (base bB bO : Nat) (m0 : Nat) (mth : Int32) (mst : Int32) (mp : Nat) (mln : Int32) (mk : Nat) (mts : Int32) (mti : Nat) (mtw : Nat) (mi : Nat) (mmn : Int32) (mpo : Nat) (mpd : Int32) (mpi : Nat) (mpl : Int32) (mcp : Int32) (mre : Nat) (mnn : Nat) (mwo : Nat) (mga : Nat) (mlo : Nat) (mro : Nat) (mle : Nat) (mra : Nat) (mme : Int32) (mha : Nat) (mch : Int32) (mtm : Int32) (mgo : Int32) (mwa : Int32) (mba : Nat) (mbl : Int32) (mon : Nat) (mif : Nat → Int32) (mpof : Nat → Int32) (mpif : Nat → Int32) (hq0 : 0 ≤ mmn.toInt ∧ mmn.toInt ≤ 12) : CtI l dC dI cI cJ base bB bO yX9_read cX9_read 3 .int 4 83 [.ref m0] [(m0, .inr (8, [.int mth, .int mst, .ref mp, .int mln, .ref mk, .int mts, .ref mti, .ref mtw, .ref mi, .int mmn, .ref mpo, .int mpd, .ref mpi, .int mpl, .int mcp, .ref mre, .ref mnn, .ref mwo, .ref mga, .ref mlo, .ref mro, .ref mle, .ref mra, .int mme, .ref mha, .int mch, .int mtm, .int mgo, .int mwa, .ref mba, .int mbl, .ref mon])), (mi, .inl (cI, 12, .inl mif)), (mpo, .inl (cI, 12, .inl mpof)), (mpi, .inl (cI, 26, .inl mpif))] ((Int32) × (Int32) × (Int32) × (Nat → Int32) × (Nat → Int32)) (fun (res : Int32) (u : (Int32) × (Int32) × (Int32) × (Nat → Int32) × (Nat → Int32)) => (¬ res.toInt = -1 ∨ (0 ≤ u.1.toInt ∧ u.1.toInt ≤ 12)) ∧ (¬ res.toInt = -1 ∨ WFn u.2.2.2.1 u.1.toInt.toNat) ∧ (u.2.2.1.toInt = 0 ∨ u.2.2.1.toInt = 1) ∧ True) (fun (u : (Int32) × (Int32) × (Int32) × (Nat → Int32) × (Nat → Int32)) => [(m0, .inr (8, [.int mth, .int mst, .ref mp, .int mln, .ref mk, .int mts, .ref mti, .ref mtw, .ref mi, .int mmn, .ref mpo, .int u.1, .ref mpi, .int u.2.1, .int u.2.2.1, .ref mre, .ref mnn, .ref mwo, .ref mga, .ref mlo, .ref mro, .ref mle, .ref mra, .int mme, .ref mha, .int mch, .int mtm, .int mgo, .int mwa, .ref mba, .int mbl, .ref mon])), (mi, .inl (cI, 12, .inl mif)), (mpo, .inl (cI, 12, .inl u.2.2.2.1)), (mpi, .inl (cI, 26, .inl u.2.2.2.2))]) := by
  refine entI (by decide) (Nat.le_of_ble_eq_true rfl) ?_
  intro p e s m below meth c A Q ls hAt hret hP hD hS hl
  obtain ⟨hx, hb, hml, hown, hts, hA, hAb, hK, hE, hlocks, hin⟩ := hAt
  have hG : CG dC dI cI cJ base bB bO cX9_read 3 RX9 p s m (List.toArray [.ref m0]) c A := ⟨hx, hb, hml, hown, hts, hA, hAb, hK, hE⟩
  have hl : lv_has ls 3 [(0, .ref m0)] := hl
  have c_m1 : (-1 : Int32).toInt = -1 := by decide
  have c_0 : (0 : Int32).toInt = 0 := by decide
  have c_1 : (1 : Int32).toInt = 1 := by decide
  have c_3 : (3 : Int32).toInt = 3 := by decide
  obtain ⟨H, hHe⟩ : ∃ H : Heap, H = s.heap := ⟨_, rfl⟩
  obtain ⟨locs, hle⟩ : ∃ z : List Loc, z = [] := ⟨_, rfl⟩
  rw [← hHe] at hP
  have hS : va_S A s.heap H locs := by rw [hHe, hle]; exact hS
  suffices hgo : W p l e { frames := 4, cells := 0, slots := 0, locals := 83 } s m (List.toArray [.ref m0]) below meth c H locs 0 0 Q (F0 m 0 ls []) by rw [hHe, hle] at hgo; exact hgo
  refine lv_aload_n hx hb dX9_read_0 rfl (lv_at hl 0 rfl) ?_
  refine lv_iconst (v := 0) hx hb dX9_read_1 (by decide) ?_
  refine va_put (D := (dC, dI)) (ci := 8) (v := .int 0) (ty := .int) (C := RX9) (T := TX9) (N := 32) hx hb hts inG_X9 tyX9 tyX9_ok nmX9 hown hK hP hD hS 0 rfl rfl 11 (by decide) (hts _ fl_X9_103) (fun _ h9 => h9) rfl (by decide +kernel) rfl rfl (Nat.le_of_ble_eq_true rfl) dX9_read_2 (fun H locs hP hD hS => ?_)
  have hP : va_P (dC, dI) vwCl [(m0, .inr (8, [.int mth, .int mst, .ref mp, .int mln, .ref mk, .int mts, .ref mti, .ref mtw, .ref mi, .int mmn, .ref mpo, .int 0, .ref mpi, .int mpl, .int mcp, .ref mre, .ref mnn, .ref mwo, .ref mga, .ref mlo, .ref mro, .ref mle, .ref mra, .int mme, .ref mha, .int mch, .int mtm, .int mgo, .int mwa, .ref mba, .int mbl, .ref mon])), (mi, .inl (cI, 12, .inl mif)), (mpo, .inl (cI, 12, .inl mpof)), (mpi, .inl (cI, 26, .inl mpif))] H := hP
  have hD : va_D A [(m0, .inr (8, [.int mth, .int mst, .ref mp, .int mln, .ref mk, .int mts, .ref mti, .ref mtw, .ref mi, .int mmn, .ref mpo, .int 0, .ref mpi, .int mpl, .int mcp, .ref mre, .ref mnn, .ref mwo, .ref mga, .ref mlo, .ref mro, .ref mle, .ref mra, .int mme, .ref mha, .int mch, .int mtm, .int mgo, .int mwa, .ref mba, .int mbl, .ref mon])), (mi, .inl (cI, 12, .inl mif)), (mpo, .inl (cI, 12, .inl mpof)), (mpi, .inl (cI, 26, .inl mpif))] := hD
  refine lv_aload_n hx hb dX9_read_5 rfl (lv_at hl 0 rfl) ?_
  refine lv_iconst (v := 0) hx hb dX9_read_6 (by decide) ?_
  refine va_put (D := (dC, dI)) (ci := 8) (v := .int 0) (ty := .int) (C := RX9) (T := TX9) (N := 32) hx hb hts inG_X9 tyX9 tyX9_ok nmX9 hown hK hP hD hS 0 rfl rfl 13 (by decide) (hts _ fl_X9_94) (fun _ h9 => h9) rfl (by decide +kernel) rfl rfl (Nat.le_of_ble_eq_true rfl) dX9_read_7 (fun H locs hP hD hS => ?_)
  have hP : va_P (dC, dI) vwCl [(m0, .inr (8, [.int mth, .int mst, .ref mp, .int mln, .ref mk, .int mts, .ref mti, .ref mtw, .ref mi, .int mmn, .ref mpo, .int 0, .ref mpi, .int 0, .int mcp, .ref mre, .ref mnn, .ref mwo, .ref mga, .ref mlo, .ref mro, .ref mle, .ref mra, .int mme, .ref mha, .int mch, .int mtm, .int mgo, .int mwa, .ref mba, .int mbl, .ref mon])), (mi, .inl (cI, 12, .inl mif)), (mpo, .inl (cI, 12, .inl mpof)), (mpi, .inl (cI, 26, .inl mpif))] H := hP
  have hD : va_D A [(m0, .inr (8, [.int mth, .int mst, .ref mp, .int mln, .ref mk, .int mts, .ref mti, .ref mtw, .ref mi, .int mmn, .ref mpo, .int 0, .ref mpi, .int 0, .int mcp, .ref mre, .ref mnn, .ref mwo, .ref mga, .ref mlo, .ref mro, .ref mle, .ref mra, .int mme, .ref mha, .int mch, .int mtm, .int mgo, .int mwa, .ref mba, .int mbl, .ref mon])), (mi, .inl (cI, 12, .inl mif)), (mpo, .inl (cI, 12, .inl mpof)), (mpi, .inl (cI, 26, .inl mpif))] := hD
  refine lv_aload_n hx hb dX9_read_10 rfl (lv_at hl 0 rfl) ?_
  refine lv_iconst (v := 0) hx hb dX9_read_11 (by decide) ?_
  refine va_put (D := (dC, dI)) (ci := 8) (v := .int 0) (ty := .boolean) (C := RX9) (T := TX9) (N := 32) hx hb hts inG_X9 tyX9 tyX9_ok nmX9 hown hK hP hD hS 0 rfl rfl 14 (by decide) (hts _ fl_X9_106) (fun _ h9 => h9) rfl (by decide +kernel) (by first | rfl | exact I_narz (by omega)) rfl (Nat.le_of_ble_eq_true rfl) dX9_read_12 (fun H locs hP hD hS => ?_)
  have hP : va_P (dC, dI) vwCl [(m0, .inr (8, [.int mth, .int mst, .ref mp, .int mln, .ref mk, .int mts, .ref mti, .ref mtw, .ref mi, .int mmn, .ref mpo, .int 0, .ref mpi, .int 0, .int 0, .ref mre, .ref mnn, .ref mwo, .ref mga, .ref mlo, .ref mro, .ref mle, .ref mra, .int mme, .ref mha, .int mch, .int mtm, .int mgo, .int mwa, .ref mba, .int mbl, .ref mon])), (mi, .inl (cI, 12, .inl mif)), (mpo, .inl (cI, 12, .inl mpof)), (mpi, .inl (cI, 26, .inl mpif))] H := hP
  have hD : va_D A [(m0, .inr (8, [.int mth, .int mst, .ref mp, .int mln, .ref mk, .int mts, .ref mti, .ref mtw, .ref mi, .int mmn, .ref mpo, .int 0, .ref mpi, .int 0, .int 0, .ref mre, .ref mnn, .ref mwo, .ref mga, .ref mlo, .ref mro, .ref mle, .ref mra, .int mme, .ref mha, .int mch, .int mtm, .int mgo, .int mwa, .ref mba, .int mbl, .ref mon])), (mi, .inl (cI, 12, .inl mif)), (mpo, .inl (cI, 12, .inl mpof)), (mpi, .inl (cI, 26, .inl mpif))] := hD
  refine lv_iconst (v := 0) hx hb dX9_read_15 (by decide) ?_
  refine lv_istore_n (lv' := [(1, .int 0), (0, .ref m0)]) hx hb dX9_read_16 rfl hl (by decide) rfl (fun ls hl => ?_)
  refine lv_iconst (v := 0) hx hb dX9_read_17 (by decide) ?_
  refine lv_istore_n (lv' := [(2, .int 0), (1, .int 0), (0, .ref m0)]) hx hb dX9_read_18 rfl hl (by decide) rfl (fun ls hl => ?_)
  have J19 : ∀ (n : Nat) (L2_19 : Int32) (L1_19 : Int32) (mpd_19 : Int32) (mpl_19 : Int32) (mcp_19 : Int32) (mpof_19 : Nat → Int32) (mpif_19 : Nat → Int32), (0 ≤ L2_19.toInt ∧ L2_19.toInt ≤ mmn.toInt) → ((L1_19.toInt = 3 ∧ RD mpof_19 mpif_19 mpd_19 mpl_19 1 L2_19.toInt) ∨ ((0 ≤ L1_19.toInt ∧ L1_19.toInt < 3) ∧ RD mpof_19 mpif_19 mpd_19 mpl_19 0 L2_19.toInt)) → (mcp_19.toInt = 0 ∨ mcp_19.toInt = 1) → (12 - L2_19.toInt) < (n : Int) → ∀ (H : Heap) (locs : List Loc) (ls : Array Slot), va_P (dC, dI) vwCl [(m0, .inr (8, [.int mth, .int mst, .ref mp, .int mln, .ref mk, .int mts, .ref mti, .ref mtw, .ref mi, .int mmn, .ref mpo, .int mpd_19, .ref mpi, .int mpl_19, .int mcp_19, .ref mre, .ref mnn, .ref mwo, .ref mga, .ref mlo, .ref mro, .ref mle, .ref mra, .int mme, .ref mha, .int mch, .int mtm, .int mgo, .int mwa, .ref mba, .int mbl, .ref mon])), (mi, .inl (cI, 12, .inl mif)), (mpo, .inl (cI, 12, .inl mpof_19)), (mpi, .inl (cI, 26, .inl mpif_19))] H → va_D A [(m0, .inr (8, [.int mth, .int mst, .ref mp, .int mln, .ref mk, .int mts, .ref mti, .ref mtw, .ref mi, .int mmn, .ref mpo, .int mpd_19, .ref mpi, .int mpl_19, .int mcp_19, .ref mre, .ref mnn, .ref mwo, .ref mga, .ref mlo, .ref mro, .ref mle, .ref mra, .int mme, .ref mha, .int mch, .int mtm, .int mgo, .int mwa, .ref mba, .int mbl, .ref mon])), (mi, .inl (cI, 12, .inl mif)), (mpo, .inl (cI, 12, .inl mpof_19)), (mpi, .inl (cI, 26, .inl mpif_19))] → va_S A s.heap H locs → lv_has ls 3 [(2, .int L2_19), (1, .int L1_19), (0, .ref m0)] → W p l e { frames := 4, cells := 0, slots := 0, locals := 83 } s m (List.toArray [.ref m0]) below meth c H locs 0 0 Q (F0 m 19 ls []) := by
    intro n
    induction n with
    | zero =>
      intro L2_19 L1_19 mpd_19 mpl_19 mcp_19 mpof_19 mpif_19 hi0_19 hi1_19 hi2_19 hm
      exact absurd hm (by omega)
    | succ n ih19 =>
      intro L2_19 L1_19 mpd_19 mpl_19 mcp_19 mpof_19 mpif_19 hi0_19 hi1_19 hi2_19 hm19 H locs ls hP hD hS hl
      refine lv_iload_n hx hb dX9_read_19 rfl (lv_at hl 0 rfl) ?_
      refine lv_aload_n hx hb dX9_read_20 rfl (lv_at hl 2 rfl) ?_
      refine va_get (D := (dC, dI)) (ci := 8) (v := .int mmn) (C := RX9) (T := TX9) (N := 32) hx hb hts inG_X9 hown hK hP 0 rfl rfl 9 (by decide) (hts _ fl_X9_114) (fun _ h9 => h9) rfl dX9_read_21 ?_
      refine lv_icmp_ge (tgt := 69) hx hb dX9_read_24 (by decide) (fun c1 => ?_) (fun c1 => ?_)
      · have c1' := I_le c1
        refine lv_iload_n hx hb dX9_read_69 rfl (lv_at hl 1 rfl) ?_
        refine lv_iconst (v := 3) hx hb dX9_read_70 (by decide) ?_
        refine lv_icmp_ne (tgt := 82) hx hb dX9_read_71 (by decide) (fun c2 => ?_) (fun c2 => ?_)
        · have c2' := I_ne c2
          refine lv_aload_n hx hb dX9_read_82 rfl (lv_at hl 2 rfl) ?_
          refine va_get (D := (dC, dI)) (ci := 8) (v := .int mmn) (C := RX9) (T := TX9) (N := 32) hx hb hts inG_X9 hown hK hP 0 rfl rfl 9 (by decide) (hts _ fl_X9_114) (fun _ h9 => h9) rfl dX9_read_83 ?_
          refine lv_goto (tgt := 90) hx hb dX9_read_86 (by decide) ?_
          exact hret mmn (mpd_19, mpl_19, mcp_19, mpof_19, mpif_19) H locs 90 ls rfl ⟨(show ¬ mmn.toInt = -1 ∨ (0 ≤ mpd_19.toInt ∧ mpd_19.toInt ≤ 12) from by omega), (show ¬ mmn.toInt = -1 ∨ WFn mpof_19 mpd_19.toInt.toNat from by first | (left; omega) | (right; exact RD_w hcl)), (show mcp_19.toInt = 0 ∨ mcp_19.toInt = 1 from by first | rfl | assumption | omega), trivial⟩ hP hD hS dX9_read_90
        · have c2' := I_eq c2
          refine lv_aload_n hx hb dX9_read_74 rfl (lv_at hl 2 rfl) ?_
          refine calI (rest := []) (wr := [(mi, .inl (cI, 12, .inl mif))]) hG (c_X9_close l dC dI cI cJ base bB bO m0 mth mst mp mln mk mts mti mtw mi mmn mpo mpd_19 mpi mpl_19 mcp_19 mre mnn mwo mga mlo mro mle mra mme mha mch mtm mgo mwa mba mbl mon mpof_19 mpif_19 L2_19.toInt (by rcases hi1_19 with h | h; exact h.2; exact absurd h.1 (by omega)) (by first | assumption | omega)) ml_X9_124 im_X9_close se_X9_close ini_X9 cd_X9_close hd_X9_close ⟨(Nat.le_of_ble_eq_true rfl), (Nat.le_of_ble_eq_true rfl)⟩ (Nat.le_of_ble_eq_true rfl) (Nat.le_of_ble_eq_true rfl) hP hD hS [0, 2, 3] [1] rfl rfl rfl rfl (by decide) 8 0 rfl rfl hl.1 rfl (Nat.le_of_ble_eq_true rfl) dX9_read_75 (fun r3 u H locs hw4 hP hD hS => ?_)
          obtain ⟨mpd_5, mpl_6, mpof_7⟩ := u
          have hw4 : (RD mpof_7 mpif_19 mpd_5 mpl_6 1 L2_19.toInt) ∧ ((mpl_6.toInt = 0 ∧ r3.toInt = -1) ∨ (0 < mpl_6.toInt ∧ (r3.toInt = 0 ∨ r3.toInt = 9 ∨ r3.toInt = 10))) ∧ (mpl_6.toInt = 0 ∨ r3 = mpif_19 (mpl_6.toInt - 1).toNat) ∧ (∀ w : Int, FF mpif_19 mpl_19.toInt w → FF mpif_19 mpl_6.toInt w) ∧ True := hw4
          obtain ⟨hp8, hp9, hp10, hp11, -⟩ := hw4
          have hP : va_P (dC, dI) vwCl [(mi, .inl (cI, 12, .inl mif)), (m0, .inr (8, [.int mth, .int mst, .ref mp, .int mln, .ref mk, .int mts, .ref mti, .ref mtw, .ref mi, .int mmn, .ref mpo, .int mpd_5, .ref mpi, .int mpl_6, .int mcp_19, .ref mre, .ref mnn, .ref mwo, .ref mga, .ref mlo, .ref mro, .ref mle, .ref mra, .int mme, .ref mha, .int mch, .int mtm, .int mgo, .int mwa, .ref mba, .int mbl, .ref mon])), (mpo, .inl (cI, 12, .inl mpof_7)), (mpi, .inl (cI, 26, .inl mpif_19))] H := hP
          have hD : va_D A [(mi, .inl (cI, 12, .inl mif)), (m0, .inr (8, [.int mth, .int mst, .ref mp, .int mln, .ref mk, .int mts, .ref mti, .ref mtw, .ref mi, .int mmn, .ref mpo, .int mpd_5, .ref mpi, .int mpl_6, .int mcp_19, .ref mre, .ref mnn, .ref mwo, .ref mga, .ref mlo, .ref mro, .ref mle, .ref mra, .int mme, .ref mha, .int mch, .int mtm, .int mgo, .int mwa, .ref mba, .int mbl, .ref mon])), (mpo, .inl (cI, 12, .inl mpof_7)), (mpi, .inl (cI, 26, .inl mpif_19))] := hD
          have hcl := hp8
          have hclb := RD_b hcl
          refine lv_iconst (v := (-1)) hx hb dX9_read_78 (by decide) ?_
          refine lv_icmp_eq (tgt := 89) hx hb dX9_read_79 (by decide) (fun c12 => ?_) (fun c12 => ?_)
          · have c12' := I_eq c12
            refine lv_iconst (v := (-1)) hx hb dX9_read_89 (by decide) ?_
            exact hret (-1) (mpd_5, mpl_6, mcp_19, mpof_7, mpif_19) H locs 90 ls rfl ⟨(show ¬ (-1 : Int32).toInt = -1 ∨ (0 ≤ mpd_5.toInt ∧ mpd_5.toInt ≤ 12) from by omega), (show ¬ (-1 : Int32).toInt = -1 ∨ WFn mpof_7 mpd_5.toInt.toNat from by first | (left; omega) | (right; exact RD_w hcl)), (show mcp_19.toInt = 0 ∨ mcp_19.toInt = 1 from by first | rfl | assumption | omega), trivial⟩ (hP.sub (ws' := [(m0, .inr (8, [.int mth, .int mst, .ref mp, .int mln, .ref mk, .int mts, .ref mti, .ref mtw, .ref mi, .int mmn, .ref mpo, .int mpd_5, .ref mpi, .int mpl_6, .int mcp_19, .ref mre, .ref mnn, .ref mwo, .ref mga, .ref mlo, .ref mro, .ref mle, .ref mra, .int mme, .ref mha, .int mch, .int mtm, .int mgo, .int mwa, .ref mba, .int mbl, .ref mon])), (mi, .inl (cI, 12, .inl mif)), (mpo, .inl (cI, 12, .inl mpof_7)), (mpi, .inl (cI, 26, .inl mpif_19))]) [1, 0, 2, 3] rfl) (hD.sub (ws' := [(m0, .inr (8, [.int mth, .int mst, .ref mp, .int mln, .ref mk, .int mts, .ref mti, .ref mtw, .ref mi, .int mmn, .ref mpo, .int mpd_5, .ref mpi, .int mpl_6, .int mcp_19, .ref mre, .ref mnn, .ref mwo, .ref mga, .ref mlo, .ref mro, .ref mle, .ref mra, .int mme, .ref mha, .int mch, .int mtm, .int mgo, .int mwa, .ref mba, .int mbl, .ref mon])), (mi, .inl (cI, 12, .inl mif)), (mpo, .inl (cI, 12, .inl mpof_7)), (mpi, .inl (cI, 26, .inl mpif_19))]) [1, 0, 2, 3] (by decide) rfl) hS dX9_read_90
          · have c12' := I_ne c12
            refine lv_aload_n hx hb dX9_read_82 rfl (lv_at hl 2 rfl) ?_
            refine va_get (D := (dC, dI)) (ci := 8) (v := .int mmn) (C := RX9) (T := TX9) (N := 32) hx hb hts inG_X9 hown hK hP 1 rfl rfl 9 (by decide) (hts _ fl_X9_114) (fun _ h9 => h9) rfl dX9_read_83 ?_
            refine lv_goto (tgt := 90) hx hb dX9_read_86 (by decide) ?_
            exact hret mmn (mpd_5, mpl_6, mcp_19, mpof_7, mpif_19) H locs 90 ls rfl ⟨(show ¬ mmn.toInt = -1 ∨ (0 ≤ mpd_5.toInt ∧ mpd_5.toInt ≤ 12) from by omega), (show ¬ mmn.toInt = -1 ∨ WFn mpof_7 mpd_5.toInt.toNat from by first | (left; omega) | (right; exact RD_w hcl)), (show mcp_19.toInt = 0 ∨ mcp_19.toInt = 1 from by first | rfl | assumption | omega), trivial⟩ (hP.sub (ws' := [(m0, .inr (8, [.int mth, .int mst, .ref mp, .int mln, .ref mk, .int mts, .ref mti, .ref mtw, .ref mi, .int mmn, .ref mpo, .int mpd_5, .ref mpi, .int mpl_6, .int mcp_19, .ref mre, .ref mnn, .ref mwo, .ref mga, .ref mlo, .ref mro, .ref mle, .ref mra, .int mme, .ref mha, .int mch, .int mtm, .int mgo, .int mwa, .ref mba, .int mbl, .ref mon])), (mi, .inl (cI, 12, .inl mif)), (mpo, .inl (cI, 12, .inl mpof_7)), (mpi, .inl (cI, 26, .inl mpif_19))]) [1, 0, 2, 3] rfl) (hD.sub (ws' := [(m0, .inr (8, [.int mth, .int mst, .ref mp, .int mln, .ref mk, .int mts, .ref mti, .ref mtw, .ref mi, .int mmn, .ref mpo, .int mpd_5, .ref mpi, .int mpl_6, .int mcp_19, .ref mre, .ref mnn, .ref mwo, .ref mga, .ref mlo, .ref mro, .ref mle, .ref mra, .int mme, .ref mha, .int mch, .int mtm, .int mgo, .int mwa, .ref mba, .int mbl, .ref mon])), (mi, .inl (cI, 12, .inl mif)), (mpo, .inl (cI, 12, .inl mpof_7)), (mpi, .inl (cI, 26, .inl mpif_19))]) [1, 0, 2, 3] (by decide) rfl) hS dX9_read_90
      · have c1' := I_nle c1
        refine lv_iload_n hx hb dX9_read_27 rfl (lv_at hl 1 rfl) ?_
        refine lv_iconst (v := 3) hx hb dX9_read_28 (by decide) ?_
        refine lv_icmp_ne (tgt := 45) hx hb dX9_read_29 (by decide) (fun c13 => ?_) (fun c13 => ?_)
        · have c13' := I_ne c13
          refine lv_aload_n hx hb dX9_read_45 rfl (lv_at hl 2 rfl) ?_
          refine lv_aload_n hx hb dX9_read_46 rfl (lv_at hl 2 rfl) ?_
          refine va_get (D := (dC, dI)) (ci := 8) (v := .ref mi) (C := RX9) (T := TX9) (N := 32) hx hb hts inG_X9 hown hK hP 0 rfl rfl 8 (by decide) (hts _ fl_X9_22) (fun _ h9 => h9) rfl dX9_read_47 ?_
          refine lv_iload_n hx hb dX9_read_50 rfl (lv_at hl 0 rfl) ?_
          refine va_iald (t0 := 0) hx hb hK hP 1 (ha := rfl) (ht := rfl) (I_in (by omega) (by omega)) dX9_read_51 ?_
          refine lv_topi (fun v14 ev14 => ?_)
          refine lv_iload_n hx hb dX9_read_52 rfl (lv_at hl 1 rfl) ?_
          refine calI (rest := []) (wr := [(mi, .inl (cI, 12, .inl mif))]) hG (c_X9_ahead l dC dI cI cJ base bB bO m0 mth mst mp mln mk mts mti mtw mi mmn mpo mpd_19 mpi mpl_19 mcp_19 mre mnn mwo mga mlo mro mle mra mme mha mch mtm mgo mwa mba mbl mon mpof_19 mpif_19 v14 L1_19 L2_19.toInt (by rcases hi1_19 with h | h; exact absurd h.1 (by omega); exact h.2) (by first | assumption | omega) (by first | assumption | omega)) ml_X9_120 im_X9_ahead se_X9_ahead ini_X9 cd_X9_ahead hd_X9_ahead ⟨(Nat.le_of_ble_eq_true rfl), (Nat.le_of_ble_eq_true rfl)⟩ (Nat.le_of_ble_eq_true rfl) (Nat.le_of_ble_eq_true rfl) hP hD hS [0, 2, 3] [1] rfl rfl rfl rfl (by decide) 8 0 rfl rfl hl.1 rfl (Nat.le_of_ble_eq_true rfl) dX9_read_53 (fun r15 u H locs hw16 hP hD hS => ?_)
          obtain ⟨mpd_17, mpl_18, mcp_19, mpof_20, mpif_21⟩ := u
          have hw16 : ((r15.toInt = 3 ∧ RD mpof_20 mpif_21 mpd_17 mpl_18 1 (L2_19.toInt + 1)) ∨ ((0 ≤ r15.toInt ∧ r15.toInt < 3) ∧ RD mpof_20 mpif_21 mpd_17 mpl_18 0 (L2_19.toInt + 1)) ∨ r15.toInt < 0) ∧ (mcp_19.toInt = 0 ∨ mcp_19.toInt = 1) ∧ True := hw16
          obtain ⟨hp22, hp23, -⟩ := hw16
          have hP : va_P (dC, dI) vwCl [(mi, .inl (cI, 12, .inl mif)), (m0, .inr (8, [.int mth, .int mst, .ref mp, .int mln, .ref mk, .int mts, .ref mti, .ref mtw, .ref mi, .int mmn, .ref mpo, .int mpd_17, .ref mpi, .int mpl_18, .int mcp_19, .ref mre, .ref mnn, .ref mwo, .ref mga, .ref mlo, .ref mro, .ref mle, .ref mra, .int mme, .ref mha, .int mch, .int mtm, .int mgo, .int mwa, .ref mba, .int mbl, .ref mon])), (mpo, .inl (cI, 12, .inl mpof_20)), (mpi, .inl (cI, 26, .inl mpif_21))] H := hP
          have hD : va_D A [(mi, .inl (cI, 12, .inl mif)), (m0, .inr (8, [.int mth, .int mst, .ref mp, .int mln, .ref mk, .int mts, .ref mti, .ref mtw, .ref mi, .int mmn, .ref mpo, .int mpd_17, .ref mpi, .int mpl_18, .int mcp_19, .ref mre, .ref mnn, .ref mwo, .ref mga, .ref mlo, .ref mro, .ref mle, .ref mra, .int mme, .ref mha, .int mch, .int mtm, .int mgo, .int mwa, .ref mba, .int mbl, .ref mon])), (mpo, .inl (cI, 12, .inl mpof_20)), (mpi, .inl (cI, 26, .inl mpif_21))] := hD
          have hst := hp22
          refine lv_istore_n (lv' := [(1, .int r15), (2, .int L2_19), (0, .ref m0)]) hx hb dX9_read_56 rfl hl (by decide) rfl (fun ls hl => ?_)
          refine lv_iload_n hx hb dX9_read_57 rfl (lv_at hl 0 rfl) ?_
          refine lv_if_ge (tgt := 63) hx hb dX9_read_58 (by decide) (fun c24 => ?_) (fun c24 => ?_)
          · have c24' := I_le c24
            obtain ⟨v25, ev25⟩ : ∃ y : Int32, y = L2_19 + 1 := ⟨_, rfl⟩
            try have hv25 : v25.toInt = L2_19.toInt + (1 : Int32).toInt := I_addx ev25 (by omega)
            refine lv_iinc (v := v25) (lv' := [(2, .int v25), (1, .int r15), (0, .ref m0)]) hx hb dX9_read_63 hl (k := 1) rfl (by rw [ev25]; rfl) (by decide) rfl (fun ls hl => ?_)
            refine lv_goto (tgt := 19) hx hb dX9_read_66 (by decide) ?_
            exact ih19 v25 r15 mpd_17 mpl_18 mcp_19 mpof_20 mpif_21 (by first | assumption | omega) (by first | exact Or.inr ⟨by omega, RD_up (RD_0 (by omega) (by omega)) (by omega)⟩ | (rcases hst with h | h | h; exact Or.inl ⟨h.1, RD_up h.2 (by omega)⟩; exact Or.inr ⟨h.1, RD_up h.2 (by omega)⟩; exact absurd h (by omega))) (by first | assumption | omega) (by omega) H locs ls (hP.sub (ws' := [(m0, .inr (8, [.int mth, .int mst, .ref mp, .int mln, .ref mk, .int mts, .ref mti, .ref mtw, .ref mi, .int mmn, .ref mpo, .int mpd_17, .ref mpi, .int mpl_18, .int mcp_19, .ref mre, .ref mnn, .ref mwo, .ref mga, .ref mlo, .ref mro, .ref mle, .ref mra, .int mme, .ref mha, .int mch, .int mtm, .int mgo, .int mwa, .ref mba, .int mbl, .ref mon])), (mi, .inl (cI, 12, .inl mif)), (mpo, .inl (cI, 12, .inl mpof_20)), (mpi, .inl (cI, 26, .inl mpif_21))]) [1, 0, 2, 3] rfl) (hD.sub (ws' := [(m0, .inr (8, [.int mth, .int mst, .ref mp, .int mln, .ref mk, .int mts, .ref mti, .ref mtw, .ref mi, .int mmn, .ref mpo, .int mpd_17, .ref mpi, .int mpl_18, .int mcp_19, .ref mre, .ref mnn, .ref mwo, .ref mga, .ref mlo, .ref mro, .ref mle, .ref mra, .int mme, .ref mha, .int mch, .int mtm, .int mgo, .int mwa, .ref mba, .int mbl, .ref mon])), (mi, .inl (cI, 12, .inl mif)), (mpo, .inl (cI, 12, .inl mpof_20)), (mpi, .inl (cI, 26, .inl mpif_21))]) [1, 0, 2, 3] (by decide) rfl) hS hl
          · have c24' := I_nle c24
            refine lv_iload_n hx hb dX9_read_61 rfl (lv_at hl 1 rfl) ?_
            exact hret L2_19 (mpd_17, mpl_18, mcp_19, mpof_20, mpif_21) H locs 62 ls rfl ⟨(show ¬ L2_19.toInt = -1 ∨ (0 ≤ mpd_17.toInt ∧ mpd_17.toInt ≤ 12) from by omega), (show ¬ L2_19.toInt = -1 ∨ WFn mpof_20 mpd_17.toInt.toNat from by first | (left; omega) | (right; exact RD_w hcl)), (show mcp_19.toInt = 0 ∨ mcp_19.toInt = 1 from by first | rfl | assumption | omega), trivial⟩ (hP.sub (ws' := [(m0, .inr (8, [.int mth, .int mst, .ref mp, .int mln, .ref mk, .int mts, .ref mti, .ref mtw, .ref mi, .int mmn, .ref mpo, .int mpd_17, .ref mpi, .int mpl_18, .int mcp_19, .ref mre, .ref mnn, .ref mwo, .ref mga, .ref mlo, .ref mro, .ref mle, .ref mra, .int mme, .ref mha, .int mch, .int mtm, .int mgo, .int mwa, .ref mba, .int mbl, .ref mon])), (mi, .inl (cI, 12, .inl mif)), (mpo, .inl (cI, 12, .inl mpof_20)), (mpi, .inl (cI, 26, .inl mpif_21))]) [1, 0, 2, 3] rfl) (hD.sub (ws' := [(m0, .inr (8, [.int mth, .int mst, .ref mp, .int mln, .ref mk, .int mts, .ref mti, .ref mtw, .ref mi, .int mmn, .ref mpo, .int mpd_17, .ref mpi, .int mpl_18, .int mcp_19, .ref mre, .ref mnn, .ref mwo, .ref mga, .ref mlo, .ref mro, .ref mle, .ref mra, .int mme, .ref mha, .int mch, .int mtm, .int mgo, .int mwa, .ref mba, .int mbl, .ref mon])), (mi, .inl (cI, 12, .inl mif)), (mpo, .inl (cI, 12, .inl mpof_20)), (mpi, .inl (cI, 26, .inl mpif_21))]) [1, 0, 2, 3] (by decide) rfl) hS dX9_read_62
        · have c13' := I_eq c13
          refine lv_aload_n hx hb dX9_read_32 rfl (lv_at hl 2 rfl) ?_
          refine lv_aload_n hx hb dX9_read_33 rfl (lv_at hl 2 rfl) ?_
          refine va_get (D := (dC, dI)) (ci := 8) (v := .ref mi) (C := RX9) (T := TX9) (N := 32) hx hb hts inG_X9 hown hK hP 0 rfl rfl 8 (by decide) (hts _ fl_X9_22) (fun _ h9 => h9) rfl dX9_read_34 ?_
          refine lv_iload_n hx hb dX9_read_37 rfl (lv_at hl 0 rfl) ?_
          refine va_iald (t0 := 0) hx hb hK hP 1 (ha := rfl) (ht := rfl) (I_in (by omega) (by omega)) dX9_read_38 ?_
          refine lv_topi (fun v26 ev26 => ?_)
          refine calI (rest := []) (wr := [(mi, .inl (cI, 12, .inl mif))]) hG (c_X9_behind l dC dI cI cJ base bB bO m0 mth mst mp mln mk mts mti mtw mi mmn mpo mpd_19 mpi mpl_19 mcp_19 mre mnn mwo mga mlo mro mle mra mme mha mch mtm mgo mwa mba mbl mon mpof_19 mpif_19 v26 L2_19.toInt (by rcases hi1_19 with h | h; exact h.2; exact absurd h.1 (by omega)) (by first | assumption | omega) (by first | assumption | omega)) ml_X9_117 im_X9_behind se_X9_behind ini_X9 cd_X9_behind hd_X9_behind ⟨(Nat.le_of_ble_eq_true rfl), (Nat.le_of_ble_eq_true rfl)⟩ (Nat.le_of_ble_eq_true rfl) (Nat.le_of_ble_eq_true rfl) hP hD hS [0, 2, 3] [1] rfl rfl rfl rfl (by decide) 8 0 rfl rfl hl.1 rfl (Nat.le_of_ble_eq_true rfl) dX9_read_39 (fun r27 u H locs hw28 hP hD hS => ?_)
          obtain ⟨mpd_29, mpl_30, mcp_31, mpof_32, mpif_33⟩ := u
          have hw28 : ((r27.toInt = 3 ∧ RD mpof_32 mpif_33 mpd_29 mpl_30 1 (L2_19.toInt + 1)) ∨ ((0 ≤ r27.toInt ∧ r27.toInt < 3) ∧ RD mpof_32 mpif_33 mpd_29 mpl_30 0 (L2_19.toInt + 1)) ∨ r27.toInt < 0) ∧ (mcp_31.toInt = 0 ∨ mcp_31.toInt = 1) ∧ True := hw28
          obtain ⟨hp34, hp35, -⟩ := hw28
          have hP : va_P (dC, dI) vwCl [(mi, .inl (cI, 12, .inl mif)), (m0, .inr (8, [.int mth, .int mst, .ref mp, .int mln, .ref mk, .int mts, .ref mti, .ref mtw, .ref mi, .int mmn, .ref mpo, .int mpd_29, .ref mpi, .int mpl_30, .int mcp_31, .ref mre, .ref mnn, .ref mwo, .ref mga, .ref mlo, .ref mro, .ref mle, .ref mra, .int mme, .ref mha, .int mch, .int mtm, .int mgo, .int mwa, .ref mba, .int mbl, .ref mon])), (mpo, .inl (cI, 12, .inl mpof_32)), (mpi, .inl (cI, 26, .inl mpif_33))] H := hP
          have hD : va_D A [(mi, .inl (cI, 12, .inl mif)), (m0, .inr (8, [.int mth, .int mst, .ref mp, .int mln, .ref mk, .int mts, .ref mti, .ref mtw, .ref mi, .int mmn, .ref mpo, .int mpd_29, .ref mpi, .int mpl_30, .int mcp_31, .ref mre, .ref mnn, .ref mwo, .ref mga, .ref mlo, .ref mro, .ref mle, .ref mra, .int mme, .ref mha, .int mch, .int mtm, .int mgo, .int mwa, .ref mba, .int mbl, .ref mon])), (mpo, .inl (cI, 12, .inl mpof_32)), (mpi, .inl (cI, 26, .inl mpif_33))] := hD
          have hst := hp34
          refine lv_goto (tgt := 56) hx hb dX9_read_42 (by decide) ?_
          refine lv_istore_n (lv' := [(1, .int r27), (2, .int L2_19), (0, .ref m0)]) hx hb dX9_read_56 rfl hl (by decide) rfl (fun ls hl => ?_)
          refine lv_iload_n hx hb dX9_read_57 rfl (lv_at hl 0 rfl) ?_
          refine lv_if_ge (tgt := 63) hx hb dX9_read_58 (by decide) (fun c36 => ?_) (fun c36 => ?_)
          · have c36' := I_le c36
            obtain ⟨v37, ev37⟩ : ∃ y : Int32, y = L2_19 + 1 := ⟨_, rfl⟩
            try have hv37 : v37.toInt = L2_19.toInt + (1 : Int32).toInt := I_addx ev37 (by omega)
            refine lv_iinc (v := v37) (lv' := [(2, .int v37), (1, .int r27), (0, .ref m0)]) hx hb dX9_read_63 hl (k := 1) rfl (by rw [ev37]; rfl) (by decide) rfl (fun ls hl => ?_)
            refine lv_goto (tgt := 19) hx hb dX9_read_66 (by decide) ?_
            exact ih19 v37 r27 mpd_29 mpl_30 mcp_31 mpof_32 mpif_33 (by first | assumption | omega) (by first | exact Or.inr ⟨by omega, RD_up (RD_0 (by omega) (by omega)) (by omega)⟩ | (rcases hst with h | h | h; exact Or.inl ⟨h.1, RD_up h.2 (by omega)⟩; exact Or.inr ⟨h.1, RD_up h.2 (by omega)⟩; exact absurd h (by omega))) (by first | assumption | omega) (by omega) H locs ls (hP.sub (ws' := [(m0, .inr (8, [.int mth, .int mst, .ref mp, .int mln, .ref mk, .int mts, .ref mti, .ref mtw, .ref mi, .int mmn, .ref mpo, .int mpd_29, .ref mpi, .int mpl_30, .int mcp_31, .ref mre, .ref mnn, .ref mwo, .ref mga, .ref mlo, .ref mro, .ref mle, .ref mra, .int mme, .ref mha, .int mch, .int mtm, .int mgo, .int mwa, .ref mba, .int mbl, .ref mon])), (mi, .inl (cI, 12, .inl mif)), (mpo, .inl (cI, 12, .inl mpof_32)), (mpi, .inl (cI, 26, .inl mpif_33))]) [1, 0, 2, 3] rfl) (hD.sub (ws' := [(m0, .inr (8, [.int mth, .int mst, .ref mp, .int mln, .ref mk, .int mts, .ref mti, .ref mtw, .ref mi, .int mmn, .ref mpo, .int mpd_29, .ref mpi, .int mpl_30, .int mcp_31, .ref mre, .ref mnn, .ref mwo, .ref mga, .ref mlo, .ref mro, .ref mle, .ref mra, .int mme, .ref mha, .int mch, .int mtm, .int mgo, .int mwa, .ref mba, .int mbl, .ref mon])), (mi, .inl (cI, 12, .inl mif)), (mpo, .inl (cI, 12, .inl mpof_32)), (mpi, .inl (cI, 26, .inl mpif_33))]) [1, 0, 2, 3] (by decide) rfl) hS hl
          · have c36' := I_nle c36
            refine lv_iload_n hx hb dX9_read_61 rfl (lv_at hl 1 rfl) ?_
            exact hret L2_19 (mpd_29, mpl_30, mcp_31, mpof_32, mpif_33) H locs 62 ls rfl ⟨(show ¬ L2_19.toInt = -1 ∨ (0 ≤ mpd_29.toInt ∧ mpd_29.toInt ≤ 12) from by omega), (show ¬ L2_19.toInt = -1 ∨ WFn mpof_32 mpd_29.toInt.toNat from by first | (left; omega) | (right; exact RD_w hcl)), (show mcp_31.toInt = 0 ∨ mcp_31.toInt = 1 from by first | rfl | assumption | omega), trivial⟩ (hP.sub (ws' := [(m0, .inr (8, [.int mth, .int mst, .ref mp, .int mln, .ref mk, .int mts, .ref mti, .ref mtw, .ref mi, .int mmn, .ref mpo, .int mpd_29, .ref mpi, .int mpl_30, .int mcp_31, .ref mre, .ref mnn, .ref mwo, .ref mga, .ref mlo, .ref mro, .ref mle, .ref mra, .int mme, .ref mha, .int mch, .int mtm, .int mgo, .int mwa, .ref mba, .int mbl, .ref mon])), (mi, .inl (cI, 12, .inl mif)), (mpo, .inl (cI, 12, .inl mpof_32)), (mpi, .inl (cI, 26, .inl mpif_33))]) [1, 0, 2, 3] rfl) (hD.sub (ws' := [(m0, .inr (8, [.int mth, .int mst, .ref mp, .int mln, .ref mk, .int mts, .ref mti, .ref mtw, .ref mi, .int mmn, .ref mpo, .int mpd_29, .ref mpi, .int mpl_30, .int mcp_31, .ref mre, .ref mnn, .ref mwo, .ref mga, .ref mlo, .ref mro, .ref mle, .ref mra, .int mme, .ref mha, .int mch, .int mtm, .int mgo, .int mwa, .ref mba, .int mbl, .ref mon])), (mi, .inl (cI, 12, .inl mif)), (mpo, .inl (cI, 12, .inl mpof_32)), (mpi, .inl (cI, 26, .inl mpif_33))]) [1, 0, 2, 3] (by decide) rfl) hS dX9_read_62
  exact J19 ((12 - (0 : Int32).toInt).toNat + 1) 0 0 0 0 0 mpof mpif (by first | assumption | omega) (by first | exact Or.inr ⟨by omega, RD_up (RD_0 (by omega) (by omega)) (by omega)⟩ | (rcases hst with h | h | h; exact Or.inl ⟨h.1, RD_up h.2 (by omega)⟩; exact Or.inr ⟨h.1, RD_up h.2 (by omega)⟩; exact absurd h (by omega))) (by first | assumption | omega) (by omega) H locs ls hP hD hS hl
set_option maxHeartbeats 4000000 in
set_option maxRecDepth 100000 in
theorem c_X9_kindOf (l : Launch) (dC : Nat → ClassId) (dI : Nat → Nat → Nat) (cI cJ : ClassId) (base bB bO : Nat) (m0 : Nat) (mth : Int32) (mst : Int32) (mp : Nat) (mln : Int32) (mk : Nat) (mts : Int32) (mti : Nat) (mtw : Nat) (mi : Nat) (mmn : Int32) (mpo : Nat) (mpd : Int32) (mpi : Nat) (mpl : Int32) (mcp : Int32) (mre : Nat) (mnn : Nat) (mwo : Nat) (mga : Nat) (mlo : Nat) (mro : Nat) (mle : Nat) (mra : Nat) (mme : Int32) (mha : Nat) (mch : Int32) (mtm : Int32) (mgo : Int32) (mwa : Int32) (mba : Nat) (mbl : Int32) (mon : Nat) (mkf : Nat → Int32) (mpof : Nat → Int32) (mref : Nat → Int32) (hWF : WFn mpof mpd.toInt.toNat) (hq1 : 0 ≤ mpd.toInt ∧ mpd.toInt ≤ 12) : CtI l dC dI cI cJ base bB bO yX9_kindOf cX9_kindOf 5 .int 0 0 [.ref m0] [(m0, .inr (8, [.int mth, .int mst, .ref mp, .int mln, .ref mk, .int mts, .ref mti, .ref mtw, .ref mi, .int mmn, .ref mpo, .int mpd, .ref mpi, .int mpl, .int mcp, .ref mre, .ref mnn, .ref mwo, .ref mga, .ref mlo, .ref mro, .ref mle, .ref mra, .int mme, .ref mha, .int mch, .int mtm, .int mgo, .int mwa, .ref mba, .int mbl, .ref mon])), (mk, .inl (cI, 4, .inl mkf)), (mpo, .inl (cI, 12, .inl mpof)), (mre, .inl (cI, 12, .inl mref))] ((Nat → Int32)) (fun (res : Int32) (u : (Nat → Int32)) => True) (fun (u : (Nat → Int32)) => [(m0, .inr (8, [.int mth, .int mst, .ref mp, .int mln, .ref mk, .int mts, .ref mti, .ref mtw, .ref mi, .int mmn, .ref mpo, .int mpd, .ref mpi, .int mpl, .int mcp, .ref mre, .ref mnn, .ref mwo, .ref mga, .ref mlo, .ref mro, .ref mle, .ref mra, .int mme, .ref mha, .int mch, .int mtm, .int mgo, .int mwa, .ref mba, .int mbl, .ref mon])), (mk, .inl (cI, 4, .inl mkf)), (mpo, .inl (cI, 12, .inl mpof)), (mre, .inl (cI, 12, .inl u))]) := by
  refine entI (by decide) (Nat.le_of_ble_eq_true rfl) ?_
  intro p e s m below meth c A Q ls hAt hret hP hD hS hl
  obtain ⟨hx, hb, hml, hown, hts, hA, hAb, hK, hE, hlocks, hin⟩ := hAt
  have hG : CG dC dI cI cJ base bB bO cX9_kindOf 5 RX9 p s m (List.toArray [.ref m0]) c A := ⟨hx, hb, hml, hown, hts, hA, hAb, hK, hE⟩
  have hl : lv_has ls 5 [(0, .ref m0)] := hl
  have c_m2 : (-2 : Int32).toInt = -2 := by decide
  have c_m1 : (-1 : Int32).toInt = -1 := by decide
  have c_0 : (0 : Int32).toInt = 0 := by decide
  have c_1 : (1 : Int32).toInt = 1 := by decide
  have c_2 : (2 : Int32).toInt = 2 := by decide
  have c_3 : (3 : Int32).toInt = 3 := by decide
  have c_4 : (4 : Int32).toInt = 4 := by decide
  have c_6 : (6 : Int32).toInt = 6 := by decide
  have c_7 : (7 : Int32).toInt = 7 := by decide
  have c_8 : (8 : Int32).toInt = 8 := by decide
  have c_9 : (9 : Int32).toInt = 9 := by decide
  have c_12 : (12 : Int32).toInt = 12 := by decide
  have c_14 : (14 : Int32).toInt = 14 := by decide
  have c_18 : (18 : Int32).toInt = 18 := by decide
  obtain ⟨H, hHe⟩ : ∃ H : Heap, H = s.heap := ⟨_, rfl⟩
  obtain ⟨locs, hle⟩ : ∃ z : List Loc, z = [] := ⟨_, rfl⟩
  rw [← hHe] at hP
  have hS : va_S A s.heap H locs := by rw [hHe, hle]; exact hS
  suffices hgo : W p l e { frames := 0, cells := 0, slots := 0, locals := 0 } s m (List.toArray [.ref m0]) below meth c H locs 0 0 Q (F0 m 0 ls []) by rw [hHe, hle] at hgo; exact hgo
  refine lv_iconst (v := 0) hx hb dX9_kindOf_0 (by decide) ?_
  refine lv_istore_n (lv' := [(1, .int 0), (0, .ref m0)]) hx hb dX9_kindOf_1 rfl hl (by decide) rfl (fun ls hl => ?_)
  refine lv_iconst (v := 0) hx hb dX9_kindOf_2 (by decide) ?_
  refine lv_istore_n (lv' := [(2, .int 0), (1, .int 0), (0, .ref m0)]) hx hb dX9_kindOf_3 rfl hl (by decide) rfl (fun ls hl => ?_)
  have J4 : ∀ (n : Nat) (L2_4 : Int32) (L1_4 : Int32) (mref_4 : Nat → Int32), (0 ≤ L2_4.toInt ∧ L2_4.toInt ≤ mpd.toInt) → (L1_4.toInt = hg mpof L2_4.toNatClampNeg) → (0 ≤ L1_4.toInt ∧ L1_4.toInt ≤ L2_4.toInt) → (12 - L2_4.toInt) < (n : Int) → ∀ (H : Heap) (locs : List Loc) (ls : Array Slot), va_P (dC, dI) vwCl [(m0, .inr (8, [.int mth, .int mst, .ref mp, .int mln, .ref mk, .int mts, .ref mti, .ref mtw, .ref mi, .int mmn, .ref mpo, .int mpd, .ref mpi, .int mpl, .int mcp, .ref mre, .ref mnn, .ref mwo, .ref mga, .ref mlo, .ref mro, .ref mle, .ref mra, .int mme, .ref mha, .int mch, .int mtm, .int mgo, .int mwa, .ref mba, .int mbl, .ref mon])), (mk, .inl (cI, 4, .inl mkf)), (mpo, .inl (cI, 12, .inl mpof)), (mre, .inl (cI, 12, .inl mref_4))] H → va_D A [(m0, .inr (8, [.int mth, .int mst, .ref mp, .int mln, .ref mk, .int mts, .ref mti, .ref mtw, .ref mi, .int mmn, .ref mpo, .int mpd, .ref mpi, .int mpl, .int mcp, .ref mre, .ref mnn, .ref mwo, .ref mga, .ref mlo, .ref mro, .ref mle, .ref mra, .int mme, .ref mha, .int mch, .int mtm, .int mgo, .int mwa, .ref mba, .int mbl, .ref mon])), (mk, .inl (cI, 4, .inl mkf)), (mpo, .inl (cI, 12, .inl mpof)), (mre, .inl (cI, 12, .inl mref_4))] → va_S A s.heap H locs → lv_has ls 5 [(2, .int L2_4), (1, .int L1_4), (0, .ref m0)] → W p l e { frames := 0, cells := 0, slots := 0, locals := 0 } s m (List.toArray [.ref m0]) below meth c H locs 0 0 Q (F0 m 4 ls []) := by
    intro n
    induction n with
    | zero =>
      intro L2_4 L1_4 mref_4 hi0_4 hi1_4 hi2_4 hm
      exact absurd hm (by omega)
    | succ n ih4 =>
      intro L2_4 L1_4 mref_4 hi0_4 hi1_4 hi2_4 hm4 H locs ls hP hD hS hl
      refine lv_iload_n hx hb dX9_kindOf_4 rfl (lv_at hl 0 rfl) ?_
      refine lv_aload_n hx hb dX9_kindOf_5 rfl (lv_at hl 2 rfl) ?_
      refine va_get (D := (dC, dI)) (ci := 8) (v := .int mpd) (C := RX9) (T := TX9) (N := 32) hx hb hts inG_X9 hown hK hP 0 rfl rfl 11 (by decide) (hts _ fl_X9_103) (fun _ h9 => h9) rfl dX9_kindOf_6 ?_
      refine lv_icmp_ge (tgt := 234) hx hb dX9_kindOf_9 (by decide) (fun c1 => ?_) (fun c1 => ?_)
      · have c1' := I_le c1
        refine lv_aload_n hx hb dX9_kindOf_234 rfl (lv_at hl 2 rfl) ?_
        refine va_get (D := (dC, dI)) (ci := 8) (v := .ref mre) (C := RX9) (T := TX9) (N := 32) hx hb hts inG_X9 hown hK hP 0 rfl rfl 15 (by decide) (hts _ fl_X9_31) (fun _ h9 => h9) rfl dX9_kindOf_235 ?_
        refine lv_iconst (v := 0) hx hb dX9_kindOf_238 (by decide) ?_
        refine va_iald (t0 := 0) hx hb hK hP 3 (ha := rfl) (ht := rfl) (I_in (by omega) (by omega)) dX9_kindOf_239 ?_
        refine lv_topi (fun v2 ev2 => ?_)
        exact hret v2 mref_4 H locs 240 ls rfl trivial hP hD hS dX9_kindOf_240
      · have c1' := I_nle c1
        refine lv_aload_n hx hb dX9_kindOf_12 rfl (lv_at hl 2 rfl) ?_
        refine va_get (D := (dC, dI)) (ci := 8) (v := .ref mpo) (C := RX9) (T := TX9) (N := 32) hx hb hts inG_X9 hown hK hP 0 rfl rfl 10 (by decide) (hts _ fl_X9_25) (fun _ h9 => h9) rfl dX9_kindOf_13 ?_
        refine lv_iload_n hx hb dX9_kindOf_16 rfl (lv_at hl 0 rfl) ?_
        refine va_iald (t0 := 0) hx hb hK hP 2 (ha := rfl) (ht := rfl) (I_in (by omega) (by omega)) dX9_kindOf_17 ?_
        refine lv_topi (fun v3 ev3 => ?_)
        obtain ⟨hn1, hd1⟩ := WFn_get hWF (by omega) (by omega) ev3
        have hna := nd_all v3.toInt
        refine lv_istore_n (lv' := [(3, .int v3), (2, .int L2_4), (1, .int L1_4), (0, .ref m0)]) hx hb dX9_kindOf_18 rfl hl (by decide) rfl (fun ls hl => ?_)
        have J228 : ∀ (L1_228 : Int32) (mref_228 : Nat → Int32), (L1_228.toInt = hg mpof L2_4.toNatClampNeg + dl v3.toInt) → (1 ≤ L1_228.toInt ∧ L1_228.toInt ≤ L2_4.toInt + 1) → ∀ (H : Heap) (locs : List Loc) (ls : Array Slot), va_P (dC, dI) vwCl [(m0, .inr (8, [.int mth, .int mst, .ref mp, .int mln, .ref mk, .int mts, .ref mti, .ref mtw, .ref mi, .int mmn, .ref mpo, .int mpd, .ref mpi, .int mpl, .int mcp, .ref mre, .ref mnn, .ref mwo, .ref mga, .ref mlo, .ref mro, .ref mle, .ref mra, .int mme, .ref mha, .int mch, .int mtm, .int mgo, .int mwa, .ref mba, .int mbl, .ref mon])), (mk, .inl (cI, 4, .inl mkf)), (mpo, .inl (cI, 12, .inl mpof)), (mre, .inl (cI, 12, .inl mref_228))] H → va_D A [(m0, .inr (8, [.int mth, .int mst, .ref mp, .int mln, .ref mk, .int mts, .ref mti, .ref mtw, .ref mi, .int mmn, .ref mpo, .int mpd, .ref mpi, .int mpl, .int mcp, .ref mre, .ref mnn, .ref mwo, .ref mga, .ref mlo, .ref mro, .ref mle, .ref mra, .int mme, .ref mha, .int mch, .int mtm, .int mgo, .int mwa, .ref mba, .int mbl, .ref mon])), (mk, .inl (cI, 4, .inl mkf)), (mpo, .inl (cI, 12, .inl mpof)), (mre, .inl (cI, 12, .inl mref_228))] → va_S A s.heap H locs → lv_has ls 5 [(3, .int v3), (2, .int L2_4), (1, .int L1_228), (0, .ref m0)] → W p l e { frames := 0, cells := 0, slots := 0, locals := 0 } s m (List.toArray [.ref m0]) below meth c H locs 0 0 Q (F0 m 228 ls []) := by
          intro L1_228 mref_228 hi0_228 hi1_228 H locs ls hP hD hS hl
          obtain ⟨v4, ev4⟩ : ∃ y : Int32, y = L2_4 + 1 := ⟨_, rfl⟩
          try have hv4 : v4.toInt = L2_4.toInt + (1 : Int32).toInt := I_addx ev4 (by omega)
          refine lv_iinc (v := v4) (lv' := [(2, .int v4), (3, .int v3), (1, .int L1_228), (0, .ref m0)]) hx hb dX9_kindOf_228 hl (k := 1) rfl (by rw [ev4]; rfl) (by decide) rfl (fun ls hl => ?_)
          refine lv_goto (tgt := 4) hx hb dX9_kindOf_231 (by decide) ?_
          exact ih4 v4 L1_228 mref_228 (by first | assumption | omega) (by first | (rw [hd1 v4 (by omega)]; omega) | (rw [hg_0 mpof (by omega)]; omega)) (by first | assumption | omega) (by omega) H locs ls hP hD hS (lv_sub hl [0, 2, 3] rfl)
        refine lv_iload_n hx hb dX9_kindOf_19 rfl (lv_at hl 0 rfl) ?_
        refine lv_bipush (v := 12) hx hb dX9_kindOf_20 (by decide) ?_
        refine lv_icmp_lt (tgt := 66) hx hb dX9_kindOf_22 (by decide) (fun c5 => ?_) (fun c5 => ?_)
        · have c5' := I_lt c5
          refine lv_iload_n hx hb dX9_kindOf_66 rfl (lv_at hl 0 rfl) ?_
          refine lv_bipush (v := 8) hx hb dX9_kindOf_67 (by decide) ?_
          refine lv_icmp_ne (tgt := 86) hx hb dX9_kindOf_69 (by decide) (fun c6 => ?_) (fun c6 => ?_)
          · have c6' := I_ne c6
            refine lv_iload_n hx hb dX9_kindOf_86 rfl (lv_at hl 0 rfl) ?_
            refine lv_bipush (v := 9) hx hb dX9_kindOf_87 (by decide) ?_
            refine lv_icmp_ne (tgt := 143) hx hb dX9_kindOf_89 (by decide) (fun c7 => ?_) (fun c7 => ?_)
            · have c7' := I_ne c7
              obtain ⟨v8, ev8⟩ : ∃ y : Int32, y = L1_4 + (-1) := ⟨_, rfl⟩
              try have hv8 : v8.toInt = L1_4.toInt + (-1 : Int32).toInt := I_addx ev8 (by omega)
              refine lv_iinc (v := v8) (lv' := [(1, .int v8), (3, .int v3), (2, .int L2_4), (0, .ref m0)]) hx hb dX9_kindOf_143 hl (k := 2) rfl (by rw [ev8]; rfl) (by decide) rfl (fun ls hl => ?_)
              refine lv_iload_n hx hb dX9_kindOf_146 rfl (lv_at hl 1 rfl) ?_
              refine lv_bipush (v := 7) hx hb dX9_kindOf_147 (by decide) ?_
              refine lv_icmp_ne (tgt := 156) hx hb dX9_kindOf_149 (by decide) (fun c9 => ?_) (fun c9 => ?_)
              · have c9' := I_ne c9
                refine lv_iload_n hx hb dX9_kindOf_156 rfl (lv_at hl 1 rfl) ?_
                refine lv_bipush (v := 6) hx hb dX9_kindOf_157 (by decide) ?_
                refine lv_icmp_ne (tgt := 171) hx hb dX9_kindOf_159 (by decide) (fun c10 => ?_) (fun c10 => ?_)
                · have c10' := I_ne c10
                  refine lv_iconst (v := 0) hx hb dX9_kindOf_171 (by decide) ?_
                  refine lv_istore (lv' := [(4, .int 0), (1, .int v8), (3, .int v3), (2, .int L2_4), (0, .ref m0)]) hx hb dX9_kindOf_172 hl (by decide) rfl (fun ls hl => ?_)
                  refine lv_aload_n hx hb dX9_kindOf_174 rfl (lv_at hl 4 rfl) ?_
                  refine va_get (D := (dC, dI)) (ci := 8) (v := .ref mre) (C := RX9) (T := TX9) (N := 32) hx hb hts inG_X9 hown hK hP 0 rfl rfl 15 (by decide) (hts _ fl_X9_31) (fun _ h9 => h9) rfl dX9_kindOf_175 ?_
                  refine lv_iload_n hx hb dX9_kindOf_178 rfl (lv_at hl 1 rfl) ?_
                  refine lv_iconst (v := 1) hx hb dX9_kindOf_179 (by decide) ?_
                  refine lv_isub hx hb dX9_kindOf_180 ?_
                  refine lv_topi (fun v11 ev11 => ?_)
                  try have hv11 : v11.toInt = v8.toInt - (1 : Int32).toInt := I_subx ev11 (by omega)
                  refine va_iald (t0 := 0) hx hb hK hP 3 (ha := rfl) (ht := rfl) (I_in (by omega) (by omega)) dX9_kindOf_181 ?_
                  refine lv_topi (fun v12 ev12 => ?_)
                  refine lv_iload hx hb dX9_kindOf_182 (lv_at hl 0 rfl) ?_
                  refine lv_icmp_ne (tgt := 198) hx hb dX9_kindOf_184 (by decide) (fun c13 => ?_) (fun c13 => ?_)
                  · have c13' := I_ne c13
                    refine lv_iconst (v := (-1)) hx hb dX9_kindOf_198 (by decide) ?_
                    exact hret (-1) mref_4 H locs 199 ls rfl trivial hP hD hS dX9_kindOf_199
                  · have c13' := I_eq c13
                    refine lv_aload_n hx hb dX9_kindOf_187 rfl (lv_at hl 4 rfl) ?_
                    refine va_get (D := (dC, dI)) (ci := 8) (v := .ref mre) (C := RX9) (T := TX9) (N := 32) hx hb hts inG_X9 hown hK hP 0 rfl rfl 15 (by decide) (hts _ fl_X9_31) (fun _ h9 => h9) rfl dX9_kindOf_188 ?_
                    refine lv_iload_n hx hb dX9_kindOf_191 rfl (lv_at hl 1 rfl) ?_
                    refine va_iald (t0 := 0) hx hb hK hP 3 (ha := rfl) (ht := rfl) (I_in (by omega) (by omega)) dX9_kindOf_192 ?_
                    refine lv_topi (fun v14 ev14 => ?_)
                    refine lv_iload hx hb dX9_kindOf_193 (lv_at hl 0 rfl) ?_
                    refine lv_icmp_eq (tgt := 200) hx hb dX9_kindOf_195 (by decide) (fun c15 => ?_) (fun c15 => ?_)
                    · have c15' := I_eq c15
                      refine lv_aload_n hx hb dX9_kindOf_200 rfl (lv_at hl 4 rfl) ?_
                      refine va_get (D := (dC, dI)) (ci := 8) (v := .ref mre) (C := RX9) (T := TX9) (N := 32) hx hb hts inG_X9 hown hK hP 0 rfl rfl 15 (by decide) (hts _ fl_X9_31) (fun _ h9 => h9) rfl dX9_kindOf_201 ?_
                      refine lv_iload_n hx hb dX9_kindOf_204 rfl (lv_at hl 1 rfl) ?_
                      refine lv_iconst (v := 1) hx hb dX9_kindOf_205 (by decide) ?_
                      refine lv_isub hx hb dX9_kindOf_206 ?_
                      refine lv_topi (fun v16 ev16 => ?_)
                      try have hv16 : v16.toInt = v8.toInt - (1 : Int32).toInt := I_subx ev16 (by omega)
                      refine lv_iload_n hx hb dX9_kindOf_207 rfl (lv_at hl 2 rfl) ?_
                      refine lv_iconst (v := 2) hx hb dX9_kindOf_208 (by decide) ?_
                      refine lv_icmp_eq (tgt := 222) hx hb dX9_kindOf_209 (by decide) (fun c17 => ?_) (fun c17 => ?_)
                      · have c17' := I_eq c17
                        refine lv_iconst (v := 0) hx hb dX9_kindOf_222 (by decide) ?_
                        refine lv_goto (tgt := 227) hx hb dX9_kindOf_223 (by decide) ?_
                        refine va_iast (t0 := 0) hx hb hK hP hD hS 3 (ha := rfl) (ht := rfl) (I_in (by omega) (by omega)) dX9_kindOf_227 (fun H locs hP hD hS => ?_)
                        have hP : va_P (dC, dI) vwCl [(m0, .inr (8, [.int mth, .int mst, .ref mp, .int mln, .ref mk, .int mts, .ref mti, .ref mtw, .ref mi, .int mmn, .ref mpo, .int mpd, .ref mpi, .int mpl, .int mcp, .ref mre, .ref mnn, .ref mwo, .ref mga, .ref mlo, .ref mro, .ref mle, .ref mra, .int mme, .ref mha, .int mch, .int mtm, .int mgo, .int mwa, .ref mba, .int mbl, .ref mon])), (mk, .inl (cI, 4, .inl mkf)), (mpo, .inl (cI, 12, .inl mpof)), (mre, .inl (cI, 12, .inl (upd mref_4 v16.toNatClampNeg 0)))] H := hP
                        have hD : va_D A [(m0, .inr (8, [.int mth, .int mst, .ref mp, .int mln, .ref mk, .int mts, .ref mti, .ref mtw, .ref mi, .int mmn, .ref mpo, .int mpd, .ref mpi, .int mpl, .int mcp, .ref mre, .ref mnn, .ref mwo, .ref mga, .ref mlo, .ref mro, .ref mle, .ref mra, .int mme, .ref mha, .int mch, .int mtm, .int mgo, .int mwa, .ref mba, .int mbl, .ref mon])), (mk, .inl (cI, 4, .inl mkf)), (mpo, .inl (cI, 12, .inl mpof)), (mre, .inl (cI, 12, .inl (upd mref_4 v16.toNatClampNeg 0)))] := hD
                        generalize ef18 : upd mref_4 v16.toNatClampNeg 0 = f18 at hP hD
                        exact J228 v8 f18 (by first | assumption | omega) (by first | assumption | omega) H locs ls hP hD hS (lv_sub hl [2, 3, 1, 4] rfl)
                      · have c17' := I_ne c17
                        refine lv_iload_n hx hb dX9_kindOf_212 rfl (lv_at hl 2 rfl) ?_
                        refine lv_iconst (v := 3) hx hb dX9_kindOf_213 (by decide) ?_
                        refine lv_icmp_eq (tgt := 222) hx hb dX9_kindOf_214 (by decide) (fun c19 => ?_) (fun c19 => ?_)
                        · have c19' := I_eq c19
                          refine lv_iconst (v := 0) hx hb dX9_kindOf_222 (by decide) ?_
                          refine lv_goto (tgt := 227) hx hb dX9_kindOf_223 (by decide) ?_
                          refine va_iast (t0 := 0) hx hb hK hP hD hS 3 (ha := rfl) (ht := rfl) (I_in (by omega) (by omega)) dX9_kindOf_227 (fun H locs hP hD hS => ?_)
                          have hP : va_P (dC, dI) vwCl [(m0, .inr (8, [.int mth, .int mst, .ref mp, .int mln, .ref mk, .int mts, .ref mti, .ref mtw, .ref mi, .int mmn, .ref mpo, .int mpd, .ref mpi, .int mpl, .int mcp, .ref mre, .ref mnn, .ref mwo, .ref mga, .ref mlo, .ref mro, .ref mle, .ref mra, .int mme, .ref mha, .int mch, .int mtm, .int mgo, .int mwa, .ref mba, .int mbl, .ref mon])), (mk, .inl (cI, 4, .inl mkf)), (mpo, .inl (cI, 12, .inl mpof)), (mre, .inl (cI, 12, .inl (upd mref_4 v16.toNatClampNeg 0)))] H := hP
                          have hD : va_D A [(m0, .inr (8, [.int mth, .int mst, .ref mp, .int mln, .ref mk, .int mts, .ref mti, .ref mtw, .ref mi, .int mmn, .ref mpo, .int mpd, .ref mpi, .int mpl, .int mcp, .ref mre, .ref mnn, .ref mwo, .ref mga, .ref mlo, .ref mro, .ref mle, .ref mra, .int mme, .ref mha, .int mch, .int mtm, .int mgo, .int mwa, .ref mba, .int mbl, .ref mon])), (mk, .inl (cI, 4, .inl mkf)), (mpo, .inl (cI, 12, .inl mpof)), (mre, .inl (cI, 12, .inl (upd mref_4 v16.toNatClampNeg 0)))] := hD
                          generalize ef20 : upd mref_4 v16.toNatClampNeg 0 = f20 at hP hD
                          exact J228 v8 f20 (by first | assumption | omega) (by first | assumption | omega) H locs ls hP hD hS (lv_sub hl [2, 3, 1, 4] rfl)
                        · have c19' := I_ne c19
                          refine lv_iload_n hx hb dX9_kindOf_217 rfl (lv_at hl 2 rfl) ?_
                          refine lv_iconst (v := 4) hx hb dX9_kindOf_218 (by decide) ?_
                          refine lv_icmp_ne (tgt := 226) hx hb dX9_kindOf_219 (by decide) (fun c21 => ?_) (fun c21 => ?_)
                          · have c21' := I_ne c21
                            refine lv_iconst (v := 1) hx hb dX9_kindOf_226 (by decide) ?_
                            refine va_iast (t0 := 0) hx hb hK hP hD hS 3 (ha := rfl) (ht := rfl) (I_in (by omega) (by omega)) dX9_kindOf_227 (fun H locs hP hD hS => ?_)
                            have hP : va_P (dC, dI) vwCl [(m0, .inr (8, [.int mth, .int mst, .ref mp, .int mln, .ref mk, .int mts, .ref mti, .ref mtw, .ref mi, .int mmn, .ref mpo, .int mpd, .ref mpi, .int mpl, .int mcp, .ref mre, .ref mnn, .ref mwo, .ref mga, .ref mlo, .ref mro, .ref mle, .ref mra, .int mme, .ref mha, .int mch, .int mtm, .int mgo, .int mwa, .ref mba, .int mbl, .ref mon])), (mk, .inl (cI, 4, .inl mkf)), (mpo, .inl (cI, 12, .inl mpof)), (mre, .inl (cI, 12, .inl (upd mref_4 v16.toNatClampNeg 1)))] H := hP
                            have hD : va_D A [(m0, .inr (8, [.int mth, .int mst, .ref mp, .int mln, .ref mk, .int mts, .ref mti, .ref mtw, .ref mi, .int mmn, .ref mpo, .int mpd, .ref mpi, .int mpl, .int mcp, .ref mre, .ref mnn, .ref mwo, .ref mga, .ref mlo, .ref mro, .ref mle, .ref mra, .int mme, .ref mha, .int mch, .int mtm, .int mgo, .int mwa, .ref mba, .int mbl, .ref mon])), (mk, .inl (cI, 4, .inl mkf)), (mpo, .inl (cI, 12, .inl mpof)), (mre, .inl (cI, 12, .inl (upd mref_4 v16.toNatClampNeg 1)))] := hD
                            generalize ef22 : upd mref_4 v16.toNatClampNeg 1 = f22 at hP hD
                            exact J228 v8 f22 (by first | assumption | omega) (by first | assumption | omega) H locs ls hP hD hS (lv_sub hl [2, 3, 1, 4] rfl)
                          · have c21' := I_eq c21
                            refine lv_iconst (v := 0) hx hb dX9_kindOf_222 (by decide) ?_
                            refine lv_goto (tgt := 227) hx hb dX9_kindOf_223 (by decide) ?_
                            refine va_iast (t0 := 0) hx hb hK hP hD hS 3 (ha := rfl) (ht := rfl) (I_in (by omega) (by omega)) dX9_kindOf_227 (fun H locs hP hD hS => ?_)
                            have hP : va_P (dC, dI) vwCl [(m0, .inr (8, [.int mth, .int mst, .ref mp, .int mln, .ref mk, .int mts, .ref mti, .ref mtw, .ref mi, .int mmn, .ref mpo, .int mpd, .ref mpi, .int mpl, .int mcp, .ref mre, .ref mnn, .ref mwo, .ref mga, .ref mlo, .ref mro, .ref mle, .ref mra, .int mme, .ref mha, .int mch, .int mtm, .int mgo, .int mwa, .ref mba, .int mbl, .ref mon])), (mk, .inl (cI, 4, .inl mkf)), (mpo, .inl (cI, 12, .inl mpof)), (mre, .inl (cI, 12, .inl (upd mref_4 v16.toNatClampNeg 0)))] H := hP
                            have hD : va_D A [(m0, .inr (8, [.int mth, .int mst, .ref mp, .int mln, .ref mk, .int mts, .ref mti, .ref mtw, .ref mi, .int mmn, .ref mpo, .int mpd, .ref mpi, .int mpl, .int mcp, .ref mre, .ref mnn, .ref mwo, .ref mga, .ref mlo, .ref mro, .ref mle, .ref mra, .int mme, .ref mha, .int mch, .int mtm, .int mgo, .int mwa, .ref mba, .int mbl, .ref mon])), (mk, .inl (cI, 4, .inl mkf)), (mpo, .inl (cI, 12, .inl mpof)), (mre, .inl (cI, 12, .inl (upd mref_4 v16.toNatClampNeg 0)))] := hD
                            generalize ef23 : upd mref_4 v16.toNatClampNeg 0 = f23 at hP hD
                            exact J228 v8 f23 (by first | assumption | omega) (by first | assumption | omega) H locs ls hP hD hS (lv_sub hl [2, 3, 1, 4] rfl)
                    · have c15' := I_ne c15
                      refine lv_iconst (v := (-1)) hx hb dX9_kindOf_198 (by decide) ?_
                      exact hret (-1) mref_4 H locs 199 ls rfl trivial hP hD hS dX9_kindOf_199
                · have c10' := I_eq c10
                  refine lv_aload_n hx hb dX9_kindOf_162 rfl (lv_at hl 3 rfl) ?_
                  refine va_get (D := (dC, dI)) (ci := 8) (v := .ref mre) (C := RX9) (T := TX9) (N := 32) hx hb hts inG_X9 hown hK hP 0 rfl rfl 15 (by decide) (hts _ fl_X9_31) (fun _ h9 => h9) rfl dX9_kindOf_163 ?_
                  refine lv_iload_n hx hb dX9_kindOf_166 rfl (lv_at hl 0 rfl) ?_
                  refine va_iald (t0 := 0) hx hb hK hP 3 (ha := rfl) (ht := rfl) (I_in (by omega) (by omega)) dX9_kindOf_167 ?_
                  refine lv_topi (fun v24 ev24 => ?_)
                  refine lv_goto (tgt := 172) hx hb dX9_kindOf_168 (by decide) ?_
                  refine lv_istore (lv' := [(4, .int v24), (1, .int v8), (3, .int v3), (2, .int L2_4), (0, .ref m0)]) hx hb dX9_kindOf_172 hl (by decide) rfl (fun ls hl => ?_)
                  refine lv_aload_n hx hb dX9_kindOf_174 rfl (lv_at hl 4 rfl) ?_
                  refine va_get (D := (dC, dI)) (ci := 8) (v := .ref mre) (C := RX9) (T := TX9) (N := 32) hx hb hts inG_X9 hown hK hP 0 rfl rfl 15 (by decide) (hts _ fl_X9_31) (fun _ h9 => h9) rfl dX9_kindOf_175 ?_
                  refine lv_iload_n hx hb dX9_kindOf_178 rfl (lv_at hl 1 rfl) ?_
                  refine lv_iconst (v := 1) hx hb dX9_kindOf_179 (by decide) ?_
                  refine lv_isub hx hb dX9_kindOf_180 ?_
                  refine lv_topi (fun v25 ev25 => ?_)
                  try have hv25 : v25.toInt = v8.toInt - (1 : Int32).toInt := I_subx ev25 (by omega)
                  refine va_iald (t0 := 0) hx hb hK hP 3 (ha := rfl) (ht := rfl) (I_in (by omega) (by omega)) dX9_kindOf_181 ?_
                  refine lv_topi (fun v26 ev26 => ?_)
                  refine lv_iload hx hb dX9_kindOf_182 (lv_at hl 0 rfl) ?_
                  refine lv_icmp_ne (tgt := 198) hx hb dX9_kindOf_184 (by decide) (fun c27 => ?_) (fun c27 => ?_)
                  · have c27' := I_ne c27
                    refine lv_iconst (v := (-1)) hx hb dX9_kindOf_198 (by decide) ?_
                    exact hret (-1) mref_4 H locs 199 ls rfl trivial hP hD hS dX9_kindOf_199
                  · have c27' := I_eq c27
                    refine lv_aload_n hx hb dX9_kindOf_187 rfl (lv_at hl 4 rfl) ?_
                    refine va_get (D := (dC, dI)) (ci := 8) (v := .ref mre) (C := RX9) (T := TX9) (N := 32) hx hb hts inG_X9 hown hK hP 0 rfl rfl 15 (by decide) (hts _ fl_X9_31) (fun _ h9 => h9) rfl dX9_kindOf_188 ?_
                    refine lv_iload_n hx hb dX9_kindOf_191 rfl (lv_at hl 1 rfl) ?_
                    refine va_iald (t0 := 0) hx hb hK hP 3 (ha := rfl) (ht := rfl) (I_in (by omega) (by omega)) dX9_kindOf_192 ?_
                    refine lv_topi (fun v28 ev28 => ?_)
                    refine lv_iload hx hb dX9_kindOf_193 (lv_at hl 0 rfl) ?_
                    refine lv_icmp_eq (tgt := 200) hx hb dX9_kindOf_195 (by decide) (fun c29 => ?_) (fun c29 => ?_)
                    · have c29' := I_eq c29
                      refine lv_aload_n hx hb dX9_kindOf_200 rfl (lv_at hl 4 rfl) ?_
                      refine va_get (D := (dC, dI)) (ci := 8) (v := .ref mre) (C := RX9) (T := TX9) (N := 32) hx hb hts inG_X9 hown hK hP 0 rfl rfl 15 (by decide) (hts _ fl_X9_31) (fun _ h9 => h9) rfl dX9_kindOf_201 ?_
                      refine lv_iload_n hx hb dX9_kindOf_204 rfl (lv_at hl 1 rfl) ?_
                      refine lv_iconst (v := 1) hx hb dX9_kindOf_205 (by decide) ?_
                      refine lv_isub hx hb dX9_kindOf_206 ?_
                      refine lv_topi (fun v30 ev30 => ?_)
                      try have hv30 : v30.toInt = v8.toInt - (1 : Int32).toInt := I_subx ev30 (by omega)
                      refine lv_iload_n hx hb dX9_kindOf_207 rfl (lv_at hl 2 rfl) ?_
                      refine lv_iconst (v := 2) hx hb dX9_kindOf_208 (by decide) ?_
                      refine lv_icmp_eq (tgt := 222) hx hb dX9_kindOf_209 (by decide) (fun c31 => ?_) (fun c31 => ?_)
                      · have c31' := I_eq c31
                        refine lv_iconst (v := 0) hx hb dX9_kindOf_222 (by decide) ?_
                        refine lv_goto (tgt := 227) hx hb dX9_kindOf_223 (by decide) ?_
                        refine va_iast (t0 := 0) hx hb hK hP hD hS 3 (ha := rfl) (ht := rfl) (I_in (by omega) (by omega)) dX9_kindOf_227 (fun H locs hP hD hS => ?_)
                        have hP : va_P (dC, dI) vwCl [(m0, .inr (8, [.int mth, .int mst, .ref mp, .int mln, .ref mk, .int mts, .ref mti, .ref mtw, .ref mi, .int mmn, .ref mpo, .int mpd, .ref mpi, .int mpl, .int mcp, .ref mre, .ref mnn, .ref mwo, .ref mga, .ref mlo, .ref mro, .ref mle, .ref mra, .int mme, .ref mha, .int mch, .int mtm, .int mgo, .int mwa, .ref mba, .int mbl, .ref mon])), (mk, .inl (cI, 4, .inl mkf)), (mpo, .inl (cI, 12, .inl mpof)), (mre, .inl (cI, 12, .inl (upd mref_4 v30.toNatClampNeg 0)))] H := hP
                        have hD : va_D A [(m0, .inr (8, [.int mth, .int mst, .ref mp, .int mln, .ref mk, .int mts, .ref mti, .ref mtw, .ref mi, .int mmn, .ref mpo, .int mpd, .ref mpi, .int mpl, .int mcp, .ref mre, .ref mnn, .ref mwo, .ref mga, .ref mlo, .ref mro, .ref mle, .ref mra, .int mme, .ref mha, .int mch, .int mtm, .int mgo, .int mwa, .ref mba, .int mbl, .ref mon])), (mk, .inl (cI, 4, .inl mkf)), (mpo, .inl (cI, 12, .inl mpof)), (mre, .inl (cI, 12, .inl (upd mref_4 v30.toNatClampNeg 0)))] := hD
                        generalize ef32 : upd mref_4 v30.toNatClampNeg 0 = f32 at hP hD
                        exact J228 v8 f32 (by first | assumption | omega) (by first | assumption | omega) H locs ls hP hD hS (lv_sub hl [2, 3, 1, 4] rfl)
                      · have c31' := I_ne c31
                        refine lv_iload_n hx hb dX9_kindOf_212 rfl (lv_at hl 2 rfl) ?_
                        refine lv_iconst (v := 3) hx hb dX9_kindOf_213 (by decide) ?_
                        refine lv_icmp_eq (tgt := 222) hx hb dX9_kindOf_214 (by decide) (fun c33 => ?_) (fun c33 => ?_)
                        · have c33' := I_eq c33
                          refine lv_iconst (v := 0) hx hb dX9_kindOf_222 (by decide) ?_
                          refine lv_goto (tgt := 227) hx hb dX9_kindOf_223 (by decide) ?_
                          refine va_iast (t0 := 0) hx hb hK hP hD hS 3 (ha := rfl) (ht := rfl) (I_in (by omega) (by omega)) dX9_kindOf_227 (fun H locs hP hD hS => ?_)
                          have hP : va_P (dC, dI) vwCl [(m0, .inr (8, [.int mth, .int mst, .ref mp, .int mln, .ref mk, .int mts, .ref mti, .ref mtw, .ref mi, .int mmn, .ref mpo, .int mpd, .ref mpi, .int mpl, .int mcp, .ref mre, .ref mnn, .ref mwo, .ref mga, .ref mlo, .ref mro, .ref mle, .ref mra, .int mme, .ref mha, .int mch, .int mtm, .int mgo, .int mwa, .ref mba, .int mbl, .ref mon])), (mk, .inl (cI, 4, .inl mkf)), (mpo, .inl (cI, 12, .inl mpof)), (mre, .inl (cI, 12, .inl (upd mref_4 v30.toNatClampNeg 0)))] H := hP
                          have hD : va_D A [(m0, .inr (8, [.int mth, .int mst, .ref mp, .int mln, .ref mk, .int mts, .ref mti, .ref mtw, .ref mi, .int mmn, .ref mpo, .int mpd, .ref mpi, .int mpl, .int mcp, .ref mre, .ref mnn, .ref mwo, .ref mga, .ref mlo, .ref mro, .ref mle, .ref mra, .int mme, .ref mha, .int mch, .int mtm, .int mgo, .int mwa, .ref mba, .int mbl, .ref mon])), (mk, .inl (cI, 4, .inl mkf)), (mpo, .inl (cI, 12, .inl mpof)), (mre, .inl (cI, 12, .inl (upd mref_4 v30.toNatClampNeg 0)))] := hD
                          generalize ef34 : upd mref_4 v30.toNatClampNeg 0 = f34 at hP hD
                          exact J228 v8 f34 (by first | assumption | omega) (by first | assumption | omega) H locs ls hP hD hS (lv_sub hl [2, 3, 1, 4] rfl)
                        · have c33' := I_ne c33
                          refine lv_iload_n hx hb dX9_kindOf_217 rfl (lv_at hl 2 rfl) ?_
                          refine lv_iconst (v := 4) hx hb dX9_kindOf_218 (by decide) ?_
                          refine lv_icmp_ne (tgt := 226) hx hb dX9_kindOf_219 (by decide) (fun c35 => ?_) (fun c35 => ?_)
                          · have c35' := I_ne c35
                            refine lv_iconst (v := 1) hx hb dX9_kindOf_226 (by decide) ?_
                            refine va_iast (t0 := 0) hx hb hK hP hD hS 3 (ha := rfl) (ht := rfl) (I_in (by omega) (by omega)) dX9_kindOf_227 (fun H locs hP hD hS => ?_)
                            have hP : va_P (dC, dI) vwCl [(m0, .inr (8, [.int mth, .int mst, .ref mp, .int mln, .ref mk, .int mts, .ref mti, .ref mtw, .ref mi, .int mmn, .ref mpo, .int mpd, .ref mpi, .int mpl, .int mcp, .ref mre, .ref mnn, .ref mwo, .ref mga, .ref mlo, .ref mro, .ref mle, .ref mra, .int mme, .ref mha, .int mch, .int mtm, .int mgo, .int mwa, .ref mba, .int mbl, .ref mon])), (mk, .inl (cI, 4, .inl mkf)), (mpo, .inl (cI, 12, .inl mpof)), (mre, .inl (cI, 12, .inl (upd mref_4 v30.toNatClampNeg 1)))] H := hP
                            have hD : va_D A [(m0, .inr (8, [.int mth, .int mst, .ref mp, .int mln, .ref mk, .int mts, .ref mti, .ref mtw, .ref mi, .int mmn, .ref mpo, .int mpd, .ref mpi, .int mpl, .int mcp, .ref mre, .ref mnn, .ref mwo, .ref mga, .ref mlo, .ref mro, .ref mle, .ref mra, .int mme, .ref mha, .int mch, .int mtm, .int mgo, .int mwa, .ref mba, .int mbl, .ref mon])), (mk, .inl (cI, 4, .inl mkf)), (mpo, .inl (cI, 12, .inl mpof)), (mre, .inl (cI, 12, .inl (upd mref_4 v30.toNatClampNeg 1)))] := hD
                            generalize ef36 : upd mref_4 v30.toNatClampNeg 1 = f36 at hP hD
                            exact J228 v8 f36 (by first | assumption | omega) (by first | assumption | omega) H locs ls hP hD hS (lv_sub hl [2, 3, 1, 4] rfl)
                          · have c35' := I_eq c35
                            refine lv_iconst (v := 0) hx hb dX9_kindOf_222 (by decide) ?_
                            refine lv_goto (tgt := 227) hx hb dX9_kindOf_223 (by decide) ?_
                            refine va_iast (t0 := 0) hx hb hK hP hD hS 3 (ha := rfl) (ht := rfl) (I_in (by omega) (by omega)) dX9_kindOf_227 (fun H locs hP hD hS => ?_)
                            have hP : va_P (dC, dI) vwCl [(m0, .inr (8, [.int mth, .int mst, .ref mp, .int mln, .ref mk, .int mts, .ref mti, .ref mtw, .ref mi, .int mmn, .ref mpo, .int mpd, .ref mpi, .int mpl, .int mcp, .ref mre, .ref mnn, .ref mwo, .ref mga, .ref mlo, .ref mro, .ref mle, .ref mra, .int mme, .ref mha, .int mch, .int mtm, .int mgo, .int mwa, .ref mba, .int mbl, .ref mon])), (mk, .inl (cI, 4, .inl mkf)), (mpo, .inl (cI, 12, .inl mpof)), (mre, .inl (cI, 12, .inl (upd mref_4 v30.toNatClampNeg 0)))] H := hP
                            have hD : va_D A [(m0, .inr (8, [.int mth, .int mst, .ref mp, .int mln, .ref mk, .int mts, .ref mti, .ref mtw, .ref mi, .int mmn, .ref mpo, .int mpd, .ref mpi, .int mpl, .int mcp, .ref mre, .ref mnn, .ref mwo, .ref mga, .ref mlo, .ref mro, .ref mle, .ref mra, .int mme, .ref mha, .int mch, .int mtm, .int mgo, .int mwa, .ref mba, .int mbl, .ref mon])), (mk, .inl (cI, 4, .inl mkf)), (mpo, .inl (cI, 12, .inl mpof)), (mre, .inl (cI, 12, .inl (upd mref_4 v30.toNatClampNeg 0)))] := hD
                            generalize ef37 : upd mref_4 v30.toNatClampNeg 0 = f37 at hP hD
                            exact J228 v8 f37 (by first | assumption | omega) (by first | assumption | omega) H locs ls hP hD hS (lv_sub hl [2, 3, 1, 4] rfl)
                    · have c29' := I_ne c29
                      refine lv_iconst (v := (-1)) hx hb dX9_kindOf_198 (by decide) ?_
                      exact hret (-1) mref_4 H locs 199 ls rfl trivial hP hD hS dX9_kindOf_199
              · have c9' := I_eq c9
                refine lv_iconst (v := 1) hx hb dX9_kindOf_152 (by decide) ?_
                refine lv_goto (tgt := 172) hx hb dX9_kindOf_153 (by decide) ?_
                refine lv_istore (lv' := [(4, .int 1), (1, .int v8), (3, .int v3), (2, .int L2_4), (0, .ref m0)]) hx hb dX9_kindOf_172 hl (by decide) rfl (fun ls hl => ?_)
                refine lv_aload_n hx hb dX9_kindOf_174 rfl (lv_at hl 4 rfl) ?_
                refine va_get (D := (dC, dI)) (ci := 8) (v := .ref mre) (C := RX9) (T := TX9) (N := 32) hx hb hts inG_X9 hown hK hP 0 rfl rfl 15 (by decide) (hts _ fl_X9_31) (fun _ h9 => h9) rfl dX9_kindOf_175 ?_
                refine lv_iload_n hx hb dX9_kindOf_178 rfl (lv_at hl 1 rfl) ?_
                refine lv_iconst (v := 1) hx hb dX9_kindOf_179 (by decide) ?_
                refine lv_isub hx hb dX9_kindOf_180 ?_
                refine lv_topi (fun v38 ev38 => ?_)
                try have hv38 : v38.toInt = v8.toInt - (1 : Int32).toInt := I_subx ev38 (by omega)
                refine va_iald (t0 := 0) hx hb hK hP 3 (ha := rfl) (ht := rfl) (I_in (by omega) (by omega)) dX9_kindOf_181 ?_
                refine lv_topi (fun v39 ev39 => ?_)
                refine lv_iload hx hb dX9_kindOf_182 (lv_at hl 0 rfl) ?_
                refine lv_icmp_ne (tgt := 198) hx hb dX9_kindOf_184 (by decide) (fun c40 => ?_) (fun c40 => ?_)
                · have c40' := I_ne c40
                  refine lv_iconst (v := (-1)) hx hb dX9_kindOf_198 (by decide) ?_
                  exact hret (-1) mref_4 H locs 199 ls rfl trivial hP hD hS dX9_kindOf_199
                · have c40' := I_eq c40
                  refine lv_aload_n hx hb dX9_kindOf_187 rfl (lv_at hl 4 rfl) ?_
                  refine va_get (D := (dC, dI)) (ci := 8) (v := .ref mre) (C := RX9) (T := TX9) (N := 32) hx hb hts inG_X9 hown hK hP 0 rfl rfl 15 (by decide) (hts _ fl_X9_31) (fun _ h9 => h9) rfl dX9_kindOf_188 ?_
                  refine lv_iload_n hx hb dX9_kindOf_191 rfl (lv_at hl 1 rfl) ?_
                  refine va_iald (t0 := 0) hx hb hK hP 3 (ha := rfl) (ht := rfl) (I_in (by omega) (by omega)) dX9_kindOf_192 ?_
                  refine lv_topi (fun v41 ev41 => ?_)
                  refine lv_iload hx hb dX9_kindOf_193 (lv_at hl 0 rfl) ?_
                  refine lv_icmp_eq (tgt := 200) hx hb dX9_kindOf_195 (by decide) (fun c42 => ?_) (fun c42 => ?_)
                  · have c42' := I_eq c42
                    refine lv_aload_n hx hb dX9_kindOf_200 rfl (lv_at hl 4 rfl) ?_
                    refine va_get (D := (dC, dI)) (ci := 8) (v := .ref mre) (C := RX9) (T := TX9) (N := 32) hx hb hts inG_X9 hown hK hP 0 rfl rfl 15 (by decide) (hts _ fl_X9_31) (fun _ h9 => h9) rfl dX9_kindOf_201 ?_
                    refine lv_iload_n hx hb dX9_kindOf_204 rfl (lv_at hl 1 rfl) ?_
                    refine lv_iconst (v := 1) hx hb dX9_kindOf_205 (by decide) ?_
                    refine lv_isub hx hb dX9_kindOf_206 ?_
                    refine lv_topi (fun v43 ev43 => ?_)
                    try have hv43 : v43.toInt = v8.toInt - (1 : Int32).toInt := I_subx ev43 (by omega)
                    refine lv_iload_n hx hb dX9_kindOf_207 rfl (lv_at hl 2 rfl) ?_
                    refine lv_iconst (v := 2) hx hb dX9_kindOf_208 (by decide) ?_
                    refine lv_icmp_eq (tgt := 222) hx hb dX9_kindOf_209 (by decide) (fun c44 => ?_) (fun c44 => ?_)
                    · have c44' := I_eq c44
                      refine lv_iconst (v := 0) hx hb dX9_kindOf_222 (by decide) ?_
                      refine lv_goto (tgt := 227) hx hb dX9_kindOf_223 (by decide) ?_
                      refine va_iast (t0 := 0) hx hb hK hP hD hS 3 (ha := rfl) (ht := rfl) (I_in (by omega) (by omega)) dX9_kindOf_227 (fun H locs hP hD hS => ?_)
                      have hP : va_P (dC, dI) vwCl [(m0, .inr (8, [.int mth, .int mst, .ref mp, .int mln, .ref mk, .int mts, .ref mti, .ref mtw, .ref mi, .int mmn, .ref mpo, .int mpd, .ref mpi, .int mpl, .int mcp, .ref mre, .ref mnn, .ref mwo, .ref mga, .ref mlo, .ref mro, .ref mle, .ref mra, .int mme, .ref mha, .int mch, .int mtm, .int mgo, .int mwa, .ref mba, .int mbl, .ref mon])), (mk, .inl (cI, 4, .inl mkf)), (mpo, .inl (cI, 12, .inl mpof)), (mre, .inl (cI, 12, .inl (upd mref_4 v43.toNatClampNeg 0)))] H := hP
                      have hD : va_D A [(m0, .inr (8, [.int mth, .int mst, .ref mp, .int mln, .ref mk, .int mts, .ref mti, .ref mtw, .ref mi, .int mmn, .ref mpo, .int mpd, .ref mpi, .int mpl, .int mcp, .ref mre, .ref mnn, .ref mwo, .ref mga, .ref mlo, .ref mro, .ref mle, .ref mra, .int mme, .ref mha, .int mch, .int mtm, .int mgo, .int mwa, .ref mba, .int mbl, .ref mon])), (mk, .inl (cI, 4, .inl mkf)), (mpo, .inl (cI, 12, .inl mpof)), (mre, .inl (cI, 12, .inl (upd mref_4 v43.toNatClampNeg 0)))] := hD
                      generalize ef45 : upd mref_4 v43.toNatClampNeg 0 = f45 at hP hD
                      exact J228 v8 f45 (by first | assumption | omega) (by first | assumption | omega) H locs ls hP hD hS (lv_sub hl [2, 3, 1, 4] rfl)
                    · have c44' := I_ne c44
                      refine lv_iload_n hx hb dX9_kindOf_212 rfl (lv_at hl 2 rfl) ?_
                      refine lv_iconst (v := 3) hx hb dX9_kindOf_213 (by decide) ?_
                      refine lv_icmp_eq (tgt := 222) hx hb dX9_kindOf_214 (by decide) (fun c46 => ?_) (fun c46 => ?_)
                      · have c46' := I_eq c46
                        refine lv_iconst (v := 0) hx hb dX9_kindOf_222 (by decide) ?_
                        refine lv_goto (tgt := 227) hx hb dX9_kindOf_223 (by decide) ?_
                        refine va_iast (t0 := 0) hx hb hK hP hD hS 3 (ha := rfl) (ht := rfl) (I_in (by omega) (by omega)) dX9_kindOf_227 (fun H locs hP hD hS => ?_)
                        have hP : va_P (dC, dI) vwCl [(m0, .inr (8, [.int mth, .int mst, .ref mp, .int mln, .ref mk, .int mts, .ref mti, .ref mtw, .ref mi, .int mmn, .ref mpo, .int mpd, .ref mpi, .int mpl, .int mcp, .ref mre, .ref mnn, .ref mwo, .ref mga, .ref mlo, .ref mro, .ref mle, .ref mra, .int mme, .ref mha, .int mch, .int mtm, .int mgo, .int mwa, .ref mba, .int mbl, .ref mon])), (mk, .inl (cI, 4, .inl mkf)), (mpo, .inl (cI, 12, .inl mpof)), (mre, .inl (cI, 12, .inl (upd mref_4 v43.toNatClampNeg 0)))] H := hP
                        have hD : va_D A [(m0, .inr (8, [.int mth, .int mst, .ref mp, .int mln, .ref mk, .int mts, .ref mti, .ref mtw, .ref mi, .int mmn, .ref mpo, .int mpd, .ref mpi, .int mpl, .int mcp, .ref mre, .ref mnn, .ref mwo, .ref mga, .ref mlo, .ref mro, .ref mle, .ref mra, .int mme, .ref mha, .int mch, .int mtm, .int mgo, .int mwa, .ref mba, .int mbl, .ref mon])), (mk, .inl (cI, 4, .inl mkf)), (mpo, .inl (cI, 12, .inl mpof)), (mre, .inl (cI, 12, .inl (upd mref_4 v43.toNatClampNeg 0)))] := hD
                        generalize ef47 : upd mref_4 v43.toNatClampNeg 0 = f47 at hP hD
                        exact J228 v8 f47 (by first | assumption | omega) (by first | assumption | omega) H locs ls hP hD hS (lv_sub hl [2, 3, 1, 4] rfl)
                      · have c46' := I_ne c46
                        refine lv_iload_n hx hb dX9_kindOf_217 rfl (lv_at hl 2 rfl) ?_
                        refine lv_iconst (v := 4) hx hb dX9_kindOf_218 (by decide) ?_
                        refine lv_icmp_ne (tgt := 226) hx hb dX9_kindOf_219 (by decide) (fun c48 => ?_) (fun c48 => ?_)
                        · have c48' := I_ne c48
                          refine lv_iconst (v := 1) hx hb dX9_kindOf_226 (by decide) ?_
                          refine va_iast (t0 := 0) hx hb hK hP hD hS 3 (ha := rfl) (ht := rfl) (I_in (by omega) (by omega)) dX9_kindOf_227 (fun H locs hP hD hS => ?_)
                          have hP : va_P (dC, dI) vwCl [(m0, .inr (8, [.int mth, .int mst, .ref mp, .int mln, .ref mk, .int mts, .ref mti, .ref mtw, .ref mi, .int mmn, .ref mpo, .int mpd, .ref mpi, .int mpl, .int mcp, .ref mre, .ref mnn, .ref mwo, .ref mga, .ref mlo, .ref mro, .ref mle, .ref mra, .int mme, .ref mha, .int mch, .int mtm, .int mgo, .int mwa, .ref mba, .int mbl, .ref mon])), (mk, .inl (cI, 4, .inl mkf)), (mpo, .inl (cI, 12, .inl mpof)), (mre, .inl (cI, 12, .inl (upd mref_4 v43.toNatClampNeg 1)))] H := hP
                          have hD : va_D A [(m0, .inr (8, [.int mth, .int mst, .ref mp, .int mln, .ref mk, .int mts, .ref mti, .ref mtw, .ref mi, .int mmn, .ref mpo, .int mpd, .ref mpi, .int mpl, .int mcp, .ref mre, .ref mnn, .ref mwo, .ref mga, .ref mlo, .ref mro, .ref mle, .ref mra, .int mme, .ref mha, .int mch, .int mtm, .int mgo, .int mwa, .ref mba, .int mbl, .ref mon])), (mk, .inl (cI, 4, .inl mkf)), (mpo, .inl (cI, 12, .inl mpof)), (mre, .inl (cI, 12, .inl (upd mref_4 v43.toNatClampNeg 1)))] := hD
                          generalize ef49 : upd mref_4 v43.toNatClampNeg 1 = f49 at hP hD
                          exact J228 v8 f49 (by first | assumption | omega) (by first | assumption | omega) H locs ls hP hD hS (lv_sub hl [2, 3, 1, 4] rfl)
                        · have c48' := I_eq c48
                          refine lv_iconst (v := 0) hx hb dX9_kindOf_222 (by decide) ?_
                          refine lv_goto (tgt := 227) hx hb dX9_kindOf_223 (by decide) ?_
                          refine va_iast (t0 := 0) hx hb hK hP hD hS 3 (ha := rfl) (ht := rfl) (I_in (by omega) (by omega)) dX9_kindOf_227 (fun H locs hP hD hS => ?_)
                          have hP : va_P (dC, dI) vwCl [(m0, .inr (8, [.int mth, .int mst, .ref mp, .int mln, .ref mk, .int mts, .ref mti, .ref mtw, .ref mi, .int mmn, .ref mpo, .int mpd, .ref mpi, .int mpl, .int mcp, .ref mre, .ref mnn, .ref mwo, .ref mga, .ref mlo, .ref mro, .ref mle, .ref mra, .int mme, .ref mha, .int mch, .int mtm, .int mgo, .int mwa, .ref mba, .int mbl, .ref mon])), (mk, .inl (cI, 4, .inl mkf)), (mpo, .inl (cI, 12, .inl mpof)), (mre, .inl (cI, 12, .inl (upd mref_4 v43.toNatClampNeg 0)))] H := hP
                          have hD : va_D A [(m0, .inr (8, [.int mth, .int mst, .ref mp, .int mln, .ref mk, .int mts, .ref mti, .ref mtw, .ref mi, .int mmn, .ref mpo, .int mpd, .ref mpi, .int mpl, .int mcp, .ref mre, .ref mnn, .ref mwo, .ref mga, .ref mlo, .ref mro, .ref mle, .ref mra, .int mme, .ref mha, .int mch, .int mtm, .int mgo, .int mwa, .ref mba, .int mbl, .ref mon])), (mk, .inl (cI, 4, .inl mkf)), (mpo, .inl (cI, 12, .inl mpof)), (mre, .inl (cI, 12, .inl (upd mref_4 v43.toNatClampNeg 0)))] := hD
                          generalize ef50 : upd mref_4 v43.toNatClampNeg 0 = f50 at hP hD
                          exact J228 v8 f50 (by first | assumption | omega) (by first | assumption | omega) H locs ls hP hD hS (lv_sub hl [2, 3, 1, 4] rfl)
                  · have c42' := I_ne c42
                    refine lv_iconst (v := (-1)) hx hb dX9_kindOf_198 (by decide) ?_
                    exact hret (-1) mref_4 H locs 199 ls rfl trivial hP hD hS dX9_kindOf_199
            · have c7' := I_eq c7
              obtain ⟨v51, ev51⟩ : ∃ y : Int32, y = L1_4 + (-2) := ⟨_, rfl⟩
              try have hv51 : v51.toInt = L1_4.toInt + (-2 : Int32).toInt := I_addx ev51 (by omega)
              refine lv_iinc (v := v51) (lv' := [(1, .int v51), (3, .int v3), (2, .int L2_4), (0, .ref m0)]) hx hb dX9_kindOf_92 hl (k := 2) rfl (by rw [ev51]; rfl) (by decide) rfl (fun ls hl => ?_)
              refine lv_aload_n hx hb dX9_kindOf_95 rfl (lv_at hl 3 rfl) ?_
              refine va_get (D := (dC, dI)) (ci := 8) (v := .ref mre) (C := RX9) (T := TX9) (N := 32) hx hb hts inG_X9 hown hK hP 0 rfl rfl 15 (by decide) (hts _ fl_X9_31) (fun _ h9 => h9) rfl dX9_kindOf_96 ?_
              refine lv_iload_n hx hb dX9_kindOf_99 rfl (lv_at hl 0 rfl) ?_
              refine lv_iconst (v := 1) hx hb dX9_kindOf_100 (by decide) ?_
              refine lv_isub hx hb dX9_kindOf_101 ?_
              refine lv_topi (fun v52 ev52 => ?_)
              try have hv52 : v52.toInt = v51.toInt - (1 : Int32).toInt := I_subx ev52 (by omega)
              refine va_iald (t0 := 0) hx hb hK hP 3 (ha := rfl) (ht := rfl) (I_in (by omega) (by omega)) dX9_kindOf_102 ?_
              refine lv_topi (fun v53 ev53 => ?_)
              refine lv_iconst (v := 1) hx hb dX9_kindOf_103 (by decide) ?_
              refine lv_icmp_ne (tgt := 124) hx hb dX9_kindOf_104 (by decide) (fun c54 => ?_) (fun c54 => ?_)
              · have c54' := I_ne c54
                refine lv_iconst (v := (-1)) hx hb dX9_kindOf_124 (by decide) ?_
                exact hret (-1) mref_4 H locs 125 ls rfl trivial hP hD hS dX9_kindOf_125
              · have c54' := I_eq c54
                refine lv_aload_n hx hb dX9_kindOf_107 rfl (lv_at hl 3 rfl) ?_
                refine va_get (D := (dC, dI)) (ci := 8) (v := .ref mre) (C := RX9) (T := TX9) (N := 32) hx hb hts inG_X9 hown hK hP 0 rfl rfl 15 (by decide) (hts _ fl_X9_31) (fun _ h9 => h9) rfl dX9_kindOf_108 ?_
                refine lv_iload_n hx hb dX9_kindOf_111 rfl (lv_at hl 0 rfl) ?_
                refine va_iald (t0 := 0) hx hb hK hP 3 (ha := rfl) (ht := rfl) (I_in (by omega) (by omega)) dX9_kindOf_112 ?_
                refine lv_topi (fun v55 ev55 => ?_)
                refine lv_aload_n hx hb dX9_kindOf_113 rfl (lv_at hl 3 rfl) ?_
                refine va_get (D := (dC, dI)) (ci := 8) (v := .ref mre) (C := RX9) (T := TX9) (N := 32) hx hb hts inG_X9 hown hK hP 0 rfl rfl 15 (by decide) (hts _ fl_X9_31) (fun _ h9 => h9) rfl dX9_kindOf_114 ?_
                refine lv_iload_n hx hb dX9_kindOf_117 rfl (lv_at hl 0 rfl) ?_
                refine lv_iconst (v := 1) hx hb dX9_kindOf_118 (by decide) ?_
                refine lv_iadd hx hb dX9_kindOf_119 ?_
                refine lv_topi (fun v56 ev56 => ?_)
                try have hv56 : v56.toInt = v51.toInt + (1 : Int32).toInt := I_addx ev56 (by omega)
                refine va_iald (t0 := 0) hx hb hK hP 3 (ha := rfl) (ht := rfl) (I_in (by omega) (by omega)) dX9_kindOf_120 ?_
                refine lv_topi (fun v57 ev57 => ?_)
                refine lv_icmp_eq (tgt := 126) hx hb dX9_kindOf_121 (by decide) (fun c58 => ?_) (fun c58 => ?_)
                · have c58' := I_eq c58
                  refine lv_aload_n hx hb dX9_kindOf_126 rfl (lv_at hl 3 rfl) ?_
                  refine va_get (D := (dC, dI)) (ci := 8) (v := .ref mre) (C := RX9) (T := TX9) (N := 32) hx hb hts inG_X9 hown hK hP 0 rfl rfl 15 (by decide) (hts _ fl_X9_31) (fun _ h9 => h9) rfl dX9_kindOf_127 ?_
                  refine lv_iload_n hx hb dX9_kindOf_130 rfl (lv_at hl 0 rfl) ?_
                  refine lv_iconst (v := 1) hx hb dX9_kindOf_131 (by decide) ?_
                  refine lv_isub hx hb dX9_kindOf_132 ?_
                  refine lv_topi (fun v59 ev59 => ?_)
                  try have hv59 : v59.toInt = v51.toInt - (1 : Int32).toInt := I_subx ev59 (by omega)
                  refine lv_aload_n hx hb dX9_kindOf_133 rfl (lv_at hl 3 rfl) ?_
                  refine va_get (D := (dC, dI)) (ci := 8) (v := .ref mre) (C := RX9) (T := TX9) (N := 32) hx hb hts inG_X9 hown hK hP 0 rfl rfl 15 (by decide) (hts _ fl_X9_31) (fun _ h9 => h9) rfl dX9_kindOf_134 ?_
                  refine lv_iload_n hx hb dX9_kindOf_137 rfl (lv_at hl 0 rfl) ?_
                  refine va_iald (t0 := 0) hx hb hK hP 3 (ha := rfl) (ht := rfl) (I_in (by omega) (by omega)) dX9_kindOf_138 ?_
                  refine lv_topi (fun v60 ev60 => ?_)
                  refine va_iast (t0 := 0) hx hb hK hP hD hS 3 (ha := rfl) (ht := rfl) (I_in (by omega) (by omega)) dX9_kindOf_139 (fun H locs hP hD hS => ?_)
                  have hP : va_P (dC, dI) vwCl [(m0, .inr (8, [.int mth, .int mst, .ref mp, .int mln, .ref mk, .int mts, .ref mti, .ref mtw, .ref mi, .int mmn, .ref mpo, .int mpd, .ref mpi, .int mpl, .int mcp, .ref mre, .ref mnn, .ref mwo, .ref mga, .ref mlo, .ref mro, .ref mle, .ref mra, .int mme, .ref mha, .int mch, .int mtm, .int mgo, .int mwa, .ref mba, .int mbl, .ref mon])), (mk, .inl (cI, 4, .inl mkf)), (mpo, .inl (cI, 12, .inl mpof)), (mre, .inl (cI, 12, .inl (upd mref_4 v59.toNatClampNeg v60)))] H := hP
                  have hD : va_D A [(m0, .inr (8, [.int mth, .int mst, .ref mp, .int mln, .ref mk, .int mts, .ref mti, .ref mtw, .ref mi, .int mmn, .ref mpo, .int mpd, .ref mpi, .int mpl, .int mcp, .ref mre, .ref mnn, .ref mwo, .ref mga, .ref mlo, .ref mro, .ref mle, .ref mra, .int mme, .ref mha, .int mch, .int mtm, .int mgo, .int mwa, .ref mba, .int mbl, .ref mon])), (mk, .inl (cI, 4, .inl mkf)), (mpo, .inl (cI, 12, .inl mpof)), (mre, .inl (cI, 12, .inl (upd mref_4 v59.toNatClampNeg v60)))] := hD
                  generalize ef61 : upd mref_4 v59.toNatClampNeg v60 = f61 at hP hD
                  refine lv_goto (tgt := 228) hx hb dX9_kindOf_140 (by decide) ?_
                  exact J228 v51 f61 (by first | assumption | omega) (by first | assumption | omega) H locs ls hP hD hS (lv_sub hl [1, 2, 0, 3] rfl)
                · have c58' := I_ne c58
                  refine lv_iconst (v := (-1)) hx hb dX9_kindOf_124 (by decide) ?_
                  exact hret (-1) mref_4 H locs 125 ls rfl trivial hP hD hS dX9_kindOf_125
          · have c6' := I_eq c6
            refine lv_aload_n hx hb dX9_kindOf_72 rfl (lv_at hl 3 rfl) ?_
            refine va_get (D := (dC, dI)) (ci := 8) (v := .ref mre) (C := RX9) (T := TX9) (N := 32) hx hb hts inG_X9 hown hK hP 0 rfl rfl 15 (by decide) (hts _ fl_X9_31) (fun _ h9 => h9) rfl dX9_kindOf_73 ?_
            refine lv_iload_n hx hb dX9_kindOf_76 rfl (lv_at hl 2 rfl) ?_
            refine lv_iconst (v := 1) hx hb dX9_kindOf_77 (by decide) ?_
            refine lv_isub hx hb dX9_kindOf_78 ?_
            refine lv_topi (fun v62 ev62 => ?_)
            try have hv62 : v62.toInt = L1_4.toInt - (1 : Int32).toInt := I_subx ev62 (by omega)
            refine va_iald (t0 := 0) hx hb hK hP 3 (ha := rfl) (ht := rfl) (I_in (by omega) (by omega)) dX9_kindOf_79 ?_
            refine lv_topi (fun v63 ev63 => ?_)
            refine lv_iconst (v := 1) hx hb dX9_kindOf_80 (by decide) ?_
            refine lv_icmp_eq (tgt := 228) hx hb dX9_kindOf_81 (by decide) (fun c64 => ?_) (fun c64 => ?_)
            · have c64' := I_eq c64
              exact J228 L1_4 mref_4 (by first | assumption | omega) (by first | assumption | omega) H locs ls hP hD hS hl
            · have c64' := I_ne c64
              refine lv_iconst (v := (-1)) hx hb dX9_kindOf_84 (by decide) ?_
              exact hret (-1) mref_4 H locs 85 ls rfl trivial hP hD hS dX9_kindOf_85
        · have c5' := I_nlt c5
          refine lv_aload_n hx hb dX9_kindOf_25 rfl (lv_at hl 3 rfl) ?_
          refine va_get (D := (dC, dI)) (ci := 8) (v := .ref mre) (C := RX9) (T := TX9) (N := 32) hx hb hts inG_X9 hown hK hP 0 rfl rfl 15 (by decide) (hts _ fl_X9_31) (fun _ h9 => h9) rfl dX9_kindOf_26 ?_
          refine lv_iload_n hx hb dX9_kindOf_29 rfl (lv_at hl 2 rfl) ?_
          refine lv_iload_n hx hb dX9_kindOf_30 rfl (lv_at hl 0 rfl) ?_
          refine lv_bipush (v := 14) hx hb dX9_kindOf_31 (by decide) ?_
          refine lv_icmp_ge (tgt := 40) hx hb dX9_kindOf_33 (by decide) (fun c65 => ?_) (fun c65 => ?_)
          · have c65' := I_le c65
            refine lv_iload_n hx hb dX9_kindOf_40 rfl (lv_at hl 0 rfl) ?_
            refine lv_bipush (v := 18) hx hb dX9_kindOf_41 (by decide) ?_
            refine lv_icmp_ge (tgt := 58) hx hb dX9_kindOf_43 (by decide) (fun c66 => ?_) (fun c66 => ?_)
            · have c66' := I_le c66
              refine lv_iconst (v := 0) hx hb dX9_kindOf_58 (by decide) ?_
              refine va_iast (t0 := 0) hx hb hK hP hD hS 3 (ha := rfl) (ht := rfl) (I_in (by omega) (by omega)) dX9_kindOf_59 (fun H locs hP hD hS => ?_)
              have hP : va_P (dC, dI) vwCl [(m0, .inr (8, [.int mth, .int mst, .ref mp, .int mln, .ref mk, .int mts, .ref mti, .ref mtw, .ref mi, .int mmn, .ref mpo, .int mpd, .ref mpi, .int mpl, .int mcp, .ref mre, .ref mnn, .ref mwo, .ref mga, .ref mlo, .ref mro, .ref mle, .ref mra, .int mme, .ref mha, .int mch, .int mtm, .int mgo, .int mwa, .ref mba, .int mbl, .ref mon])), (mk, .inl (cI, 4, .inl mkf)), (mpo, .inl (cI, 12, .inl mpof)), (mre, .inl (cI, 12, .inl (upd mref_4 L1_4.toNatClampNeg 0)))] H := hP
              have hD : va_D A [(m0, .inr (8, [.int mth, .int mst, .ref mp, .int mln, .ref mk, .int mts, .ref mti, .ref mtw, .ref mi, .int mmn, .ref mpo, .int mpd, .ref mpi, .int mpl, .int mcp, .ref mre, .ref mnn, .ref mwo, .ref mga, .ref mlo, .ref mro, .ref mle, .ref mra, .int mme, .ref mha, .int mch, .int mtm, .int mgo, .int mwa, .ref mba, .int mbl, .ref mon])), (mk, .inl (cI, 4, .inl mkf)), (mpo, .inl (cI, 12, .inl mpof)), (mre, .inl (cI, 12, .inl (upd mref_4 L1_4.toNatClampNeg 0)))] := hD
              generalize ef67 : upd mref_4 L1_4.toNatClampNeg 0 = f67 at hP hD
              obtain ⟨v68, ev68⟩ : ∃ y : Int32, y = L1_4 + 1 := ⟨_, rfl⟩
              try have hv68 : v68.toInt = L1_4.toInt + (1 : Int32).toInt := I_addx ev68 (by omega)
              refine lv_iinc (v := v68) (lv' := [(1, .int v68), (3, .int v3), (2, .int L2_4), (0, .ref m0)]) hx hb dX9_kindOf_60 hl (k := 2) rfl (by rw [ev68]; rfl) (by decide) rfl (fun ls hl => ?_)
              refine lv_goto (tgt := 228) hx hb dX9_kindOf_63 (by decide) ?_
              exact J228 v68 f67 (by first | assumption | omega) (by first | assumption | omega) H locs ls hP hD hS (lv_sub hl [1, 2, 0, 3] rfl)
            · have c66' := I_nle c66
              refine lv_aload_n hx hb dX9_kindOf_46 rfl (lv_at hl 3 rfl) ?_
              refine va_get (D := (dC, dI)) (ci := 8) (v := .ref mk) (C := RX9) (T := TX9) (N := 32) hx hb hts inG_X9 hown hK hP 0 rfl rfl 4 (by decide) (hts _ fl_X9_13) (fun _ h9 => h9) rfl dX9_kindOf_47 ?_
              refine lv_iload_n hx hb dX9_kindOf_50 rfl (lv_at hl 0 rfl) ?_
              refine lv_bipush (v := 14) hx hb dX9_kindOf_51 (by decide) ?_
              refine lv_isub hx hb dX9_kindOf_53 ?_
              refine lv_topi (fun v69 ev69 => ?_)
              try have hv69 : v69.toInt = v3.toInt - (14 : Int32).toInt := I_subx ev69 (by omega)
              refine va_iald (t0 := 0) hx hb hK hP 1 (ha := rfl) (ht := rfl) (I_in (by omega) (by omega)) dX9_kindOf_54 ?_
              refine lv_topi (fun v70 ev70 => ?_)
              refine lv_goto (tgt := 59) hx hb dX9_kindOf_55 (by decide) ?_
              refine va_iast (t0 := 0) hx hb hK hP hD hS 3 (ha := rfl) (ht := rfl) (I_in (by omega) (by omega)) dX9_kindOf_59 (fun H locs hP hD hS => ?_)
              have hP : va_P (dC, dI) vwCl [(m0, .inr (8, [.int mth, .int mst, .ref mp, .int mln, .ref mk, .int mts, .ref mti, .ref mtw, .ref mi, .int mmn, .ref mpo, .int mpd, .ref mpi, .int mpl, .int mcp, .ref mre, .ref mnn, .ref mwo, .ref mga, .ref mlo, .ref mro, .ref mle, .ref mra, .int mme, .ref mha, .int mch, .int mtm, .int mgo, .int mwa, .ref mba, .int mbl, .ref mon])), (mk, .inl (cI, 4, .inl mkf)), (mpo, .inl (cI, 12, .inl mpof)), (mre, .inl (cI, 12, .inl (upd mref_4 L1_4.toNatClampNeg v70)))] H := hP
              have hD : va_D A [(m0, .inr (8, [.int mth, .int mst, .ref mp, .int mln, .ref mk, .int mts, .ref mti, .ref mtw, .ref mi, .int mmn, .ref mpo, .int mpd, .ref mpi, .int mpl, .int mcp, .ref mre, .ref mnn, .ref mwo, .ref mga, .ref mlo, .ref mro, .ref mle, .ref mra, .int mme, .ref mha, .int mch, .int mtm, .int mgo, .int mwa, .ref mba, .int mbl, .ref mon])), (mk, .inl (cI, 4, .inl mkf)), (mpo, .inl (cI, 12, .inl mpof)), (mre, .inl (cI, 12, .inl (upd mref_4 L1_4.toNatClampNeg v70)))] := hD
              generalize ef71 : upd mref_4 L1_4.toNatClampNeg v70 = f71 at hP hD
              obtain ⟨v72, ev72⟩ : ∃ y : Int32, y = L1_4 + 1 := ⟨_, rfl⟩
              try have hv72 : v72.toInt = L1_4.toInt + (1 : Int32).toInt := I_addx ev72 (by omega)
              refine lv_iinc (v := v72) (lv' := [(1, .int v72), (3, .int v3), (2, .int L2_4), (0, .ref m0)]) hx hb dX9_kindOf_60 hl (k := 2) rfl (by rw [ev72]; rfl) (by decide) rfl (fun ls hl => ?_)
              refine lv_goto (tgt := 228) hx hb dX9_kindOf_63 (by decide) ?_
              exact J228 v72 f71 (by first | assumption | omega) (by first | assumption | omega) H locs ls hP hD hS (lv_sub hl [1, 2, 0, 3] rfl)
          · have c65' := I_nle c65
            refine lv_iconst (v := 1) hx hb dX9_kindOf_36 (by decide) ?_
            refine lv_goto (tgt := 59) hx hb dX9_kindOf_37 (by decide) ?_
            refine va_iast (t0 := 0) hx hb hK hP hD hS 3 (ha := rfl) (ht := rfl) (I_in (by omega) (by omega)) dX9_kindOf_59 (fun H locs hP hD hS => ?_)
            have hP : va_P (dC, dI) vwCl [(m0, .inr (8, [.int mth, .int mst, .ref mp, .int mln, .ref mk, .int mts, .ref mti, .ref mtw, .ref mi, .int mmn, .ref mpo, .int mpd, .ref mpi, .int mpl, .int mcp, .ref mre, .ref mnn, .ref mwo, .ref mga, .ref mlo, .ref mro, .ref mle, .ref mra, .int mme, .ref mha, .int mch, .int mtm, .int mgo, .int mwa, .ref mba, .int mbl, .ref mon])), (mk, .inl (cI, 4, .inl mkf)), (mpo, .inl (cI, 12, .inl mpof)), (mre, .inl (cI, 12, .inl (upd mref_4 L1_4.toNatClampNeg 1)))] H := hP
            have hD : va_D A [(m0, .inr (8, [.int mth, .int mst, .ref mp, .int mln, .ref mk, .int mts, .ref mti, .ref mtw, .ref mi, .int mmn, .ref mpo, .int mpd, .ref mpi, .int mpl, .int mcp, .ref mre, .ref mnn, .ref mwo, .ref mga, .ref mlo, .ref mro, .ref mle, .ref mra, .int mme, .ref mha, .int mch, .int mtm, .int mgo, .int mwa, .ref mba, .int mbl, .ref mon])), (mk, .inl (cI, 4, .inl mkf)), (mpo, .inl (cI, 12, .inl mpof)), (mre, .inl (cI, 12, .inl (upd mref_4 L1_4.toNatClampNeg 1)))] := hD
            generalize ef73 : upd mref_4 L1_4.toNatClampNeg 1 = f73 at hP hD
            obtain ⟨v74, ev74⟩ : ∃ y : Int32, y = L1_4 + 1 := ⟨_, rfl⟩
            try have hv74 : v74.toInt = L1_4.toInt + (1 : Int32).toInt := I_addx ev74 (by omega)
            refine lv_iinc (v := v74) (lv' := [(1, .int v74), (3, .int v3), (2, .int L2_4), (0, .ref m0)]) hx hb dX9_kindOf_60 hl (k := 2) rfl (by rw [ev74]; rfl) (by decide) rfl (fun ls hl => ?_)
            refine lv_goto (tgt := 228) hx hb dX9_kindOf_63 (by decide) ?_
            exact J228 v74 f73 (by first | assumption | omega) (by first | assumption | omega) H locs ls hP hD hS (lv_sub hl [1, 2, 0, 3] rfl)
  exact J4 ((12 - (0 : Int32).toInt).toNat + 1) 0 0 mref (by first | assumption | omega) (by first | (rw [hd1 (0 : Int32) (by omega)]; omega) | (rw [hg_0 mpof (by omega)]; omega)) (by first | assumption | omega) (by omega) H locs ls hP hD hS hl
set_option maxHeartbeats 4000000 in
set_option maxRecDepth 100000 in
theorem c_X9_valueOf (l : Launch) (dC : Nat → ClassId) (dI : Nat → Nat → Nat) (cI cJ : ClassId) (base bB bO : Nat) (m0 : Nat) (mth : Int32) (mst : Int32) (mp : Nat) (mln : Int32) (mk : Nat) (mts : Int32) (mti : Nat) (mtw : Nat) (mi : Nat) (mmn : Int32) (mpo : Nat) (mpd : Int32) (mpi : Nat) (mpl : Int32) (mcp : Int32) (mre : Nat) (mnn : Nat) (mwo : Nat) (mga : Nat) (mlo : Nat) (mro : Nat) (mle : Nat) (mra : Nat) (mme : Int32) (mha : Nat) (mch : Int32) (mtm : Int32) (mgo : Int32) (mwa : Int32) (mba : Nat) (mbl : Int32) (mon : Nat) (mkf : Nat → Int32) (mpof : Nat → Int32) (mnnf : Nat → Int32) (mwof : Nat → Int64) (hWF : WFn mpof mpd.toInt.toNat) (hq1 : 0 ≤ mpd.toInt ∧ mpd.toInt ≤ 12) : CtI l dC dI cI cJ base bB bO yX9_valueOf cX9_valueOf 8 .int 1 25 [.ref m0] [(m0, .inr (8, [.int mth, .int mst, .ref mp, .int mln, .ref mk, .int mts, .ref mti, .ref mtw, .ref mi, .int mmn, .ref mpo, .int mpd, .ref mpi, .int mpl, .int mcp, .ref mre, .ref mnn, .ref mwo, .ref mga, .ref mlo, .ref mro, .ref mle, .ref mra, .int mme, .ref mha, .int mch, .int mtm, .int mgo, .int mwa, .ref mba, .int mbl, .ref mon])), (mk, .inl (cI, 4, .inl mkf)), (mpo, .inl (cI, 12, .inl mpof)), (mnn, .inl (cI, 4, .inl mnnf)), (mwo, .inl (cJ, 12, .inr (.inl mwof)))] ((Nat → Int64)) (fun (res : Int32) (u : (Nat → Int64)) => True) (fun (u : (Nat → Int64)) => [(m0, .inr (8, [.int mth, .int mst, .ref mp, .int mln, .ref mk, .int mts, .ref mti, .ref mtw, .ref mi, .int mmn, .ref mpo, .int mpd, .ref mpi, .int mpl, .int mcp, .ref mre, .ref mnn, .ref mwo, .ref mga, .ref mlo, .ref mro, .ref mle, .ref mra, .int mme, .ref mha, .int mch, .int mtm, .int mgo, .int mwa, .ref mba, .int mbl, .ref mon])), (mk, .inl (cI, 4, .inl mkf)), (mpo, .inl (cI, 12, .inl mpof)), (mnn, .inl (cI, 4, .inl mnnf)), (mwo, .inl (cJ, 12, .inr (.inl u)))]) := by
  refine entI (by decide) (Nat.le_of_ble_eq_true rfl) ?_
  intro p e s m below meth c A Q ls hAt hret hP hD hS hl
  obtain ⟨hx, hb, hml, hown, hts, hA, hAb, hK, hE, hlocks, hin⟩ := hAt
  have hG : CG dC dI cI cJ base bB bO cX9_valueOf 8 RX9 p s m (List.toArray [.ref m0]) c A := ⟨hx, hb, hml, hown, hts, hA, hAb, hK, hE⟩
  have hl : lv_has ls 8 [(0, .ref m0)] := hl
  have c_m2000000 : (-2000000 : Int32).toInt = -2000000 := by decide
  have c_m2 : (-2 : Int32).toInt = -2 := by decide
  have c_m1 : (-1 : Int32).toInt = -1 := by decide
  have c_0 : (0 : Int32).toInt = 0 := by decide
  have c_1 : (1 : Int32).toInt = 1 := by decide
  have c_2 : (2 : Int32).toInt = 2 := by decide
  have c_3 : (3 : Int32).toInt = 3 := by decide
  have c_4 : (4 : Int32).toInt = 4 := by decide
  have c_5 : (5 : Int32).toInt = 5 := by decide
  have c_7 : (7 : Int32).toInt = 7 := by decide
  have c_8 : (8 : Int32).toInt = 8 := by decide
  have c_9 : (9 : Int32).toInt = 9 := by decide
  have c_12 : (12 : Int32).toInt = 12 := by decide
  have c_14 : (14 : Int32).toInt = 14 := by decide
  have c_18 : (18 : Int32).toInt = 18 := by decide
  have cl_m1000000 : (-1000000 : Int64).toInt = -1000000 := by decide
  have cl_0 : (0 : Int64).toInt = 0 := by decide
  have cl_1 : (1 : Int64).toInt = 1 := by decide
  have cl_1000000 : (1000000 : Int64).toInt = 1000000 := by decide
  obtain ⟨H, hHe⟩ : ∃ H : Heap, H = s.heap := ⟨_, rfl⟩
  obtain ⟨locs, hle⟩ : ∃ z : List Loc, z = [] := ⟨_, rfl⟩
  rw [← hHe] at hP
  have hS : va_S A s.heap H locs := by rw [hHe, hle]; exact hS
  suffices hgo : W p l e { frames := 1, cells := 0, slots := 0, locals := 25 } s m (List.toArray [.ref m0]) below meth c H locs 0 0 Q (F0 m 0 ls []) by rw [hHe, hle] at hgo; exact hgo
  refine lv_iconst (v := 0) hx hb dX9_valueOf_0 (by decide) ?_
  refine lv_istore_n (lv' := [(1, .int 0), (0, .ref m0)]) hx hb dX9_valueOf_1 rfl hl (by decide) rfl (fun ls hl => ?_)
  refine lv_iconst (v := 0) hx hb dX9_valueOf_2 (by decide) ?_
  refine lv_istore_n (lv' := [(2, .int 0), (1, .int 0), (0, .ref m0)]) hx hb dX9_valueOf_3 rfl hl (by decide) rfl (fun ls hl => ?_)
  have J4 : ∀ (n : Nat) (L2_4 : Int32) (L1_4 : Int32) (mwof_4 : Nat → Int64), (0 ≤ L2_4.toInt ∧ L2_4.toInt ≤ mpd.toInt) → (L1_4.toInt = hg mpof L2_4.toNatClampNeg) → (0 ≤ L1_4.toInt ∧ L1_4.toInt ≤ L2_4.toInt) → (12 - L2_4.toInt) < (n : Int) → ∀ (H : Heap) (locs : List Loc) (ls : Array Slot), va_P (dC, dI) vwCl [(m0, .inr (8, [.int mth, .int mst, .ref mp, .int mln, .ref mk, .int mts, .ref mti, .ref mtw, .ref mi, .int mmn, .ref mpo, .int mpd, .ref mpi, .int mpl, .int mcp, .ref mre, .ref mnn, .ref mwo, .ref mga, .ref mlo, .ref mro, .ref mle, .ref mra, .int mme, .ref mha, .int mch, .int mtm, .int mgo, .int mwa, .ref mba, .int mbl, .ref mon])), (mk, .inl (cI, 4, .inl mkf)), (mpo, .inl (cI, 12, .inl mpof)), (mnn, .inl (cI, 4, .inl mnnf)), (mwo, .inl (cJ, 12, .inr (.inl mwof_4)))] H → va_D A [(m0, .inr (8, [.int mth, .int mst, .ref mp, .int mln, .ref mk, .int mts, .ref mti, .ref mtw, .ref mi, .int mmn, .ref mpo, .int mpd, .ref mpi, .int mpl, .int mcp, .ref mre, .ref mnn, .ref mwo, .ref mga, .ref mlo, .ref mro, .ref mle, .ref mra, .int mme, .ref mha, .int mch, .int mtm, .int mgo, .int mwa, .ref mba, .int mbl, .ref mon])), (mk, .inl (cI, 4, .inl mkf)), (mpo, .inl (cI, 12, .inl mpof)), (mnn, .inl (cI, 4, .inl mnnf)), (mwo, .inl (cJ, 12, .inr (.inl mwof_4)))] → va_S A s.heap H locs → lv_has ls 8 [(2, .int L2_4), (1, .int L1_4), (0, .ref m0)] → W p l e { frames := 1, cells := 0, slots := 0, locals := 25 } s m (List.toArray [.ref m0]) below meth c H locs 0 0 Q (F0 m 4 ls []) := by
    intro n
    induction n with
    | zero =>
      intro L2_4 L1_4 mwof_4 hi0_4 hi1_4 hi2_4 hm
      exact absurd hm (by omega)
    | succ n ih4 =>
      intro L2_4 L1_4 mwof_4 hi0_4 hi1_4 hi2_4 hm4 H locs ls hP hD hS hl
      refine lv_iload_n hx hb dX9_valueOf_4 rfl (lv_at hl 0 rfl) ?_
      refine lv_aload_n hx hb dX9_valueOf_5 rfl (lv_at hl 2 rfl) ?_
      refine va_get (D := (dC, dI)) (ci := 8) (v := .int mpd) (C := RX9) (T := TX9) (N := 32) hx hb hts inG_X9 hown hK hP 0 rfl rfl 11 (by decide) (hts _ fl_X9_103) (fun _ h9 => h9) rfl dX9_valueOf_6 ?_
      refine lv_icmp_ge (tgt := 331) hx hb dX9_valueOf_9 (by decide) (fun c1 => ?_) (fun c1 => ?_)
      · have c1' := I_le c1
        refine lv_aload_n hx hb dX9_valueOf_331 rfl (lv_at hl 2 rfl) ?_
        refine va_get (D := (dC, dI)) (ci := 8) (v := .ref mwo) (C := RX9) (T := TX9) (N := 32) hx hb hts inG_X9 hown hK hP 0 rfl rfl 17 (by decide) (hts _ fl_X9_37) (fun _ h9 => h9) rfl dX9_valueOf_332 ?_
        refine lv_iconst (v := 0) hx hb dX9_valueOf_335 (by decide) ?_
        refine va_lald (t0 := 1) hx hb hK hP 4 (ha := rfl) (ht := rfl) (I_in (by omega) (by omega)) dX9_valueOf_336 ?_
        refine lv_topl (fun w2 ew2 => ?_)
        obtain ⟨v3, ev3⟩ : ∃ z : Int32, Int64.toInt32 w2 = z := ⟨_, rfl⟩
        refine lv_l2i (v := v3) hx hb dX9_valueOf_337 ev3 ?_
        exact hret v3 mwof_4 H locs 338 ls rfl trivial hP hD hS dX9_valueOf_338
      · have c1' := I_nle c1
        refine lv_aload_n hx hb dX9_valueOf_12 rfl (lv_at hl 2 rfl) ?_
        refine va_get (D := (dC, dI)) (ci := 8) (v := .ref mpo) (C := RX9) (T := TX9) (N := 32) hx hb hts inG_X9 hown hK hP 0 rfl rfl 10 (by decide) (hts _ fl_X9_25) (fun _ h9 => h9) rfl dX9_valueOf_13 ?_
        refine lv_iload_n hx hb dX9_valueOf_16 rfl (lv_at hl 0 rfl) ?_
        refine va_iald (t0 := 0) hx hb hK hP 2 (ha := rfl) (ht := rfl) (I_in (by omega) (by omega)) dX9_valueOf_17 ?_
        refine lv_topi (fun v4 ev4 => ?_)
        obtain ⟨hn1, hd1⟩ := WFn_get hWF (by omega) (by omega) ev4
        have hna := nd_all v4.toInt
        refine lv_istore_n (lv' := [(3, .int v4), (2, .int L2_4), (1, .int L1_4), (0, .ref m0)]) hx hb dX9_valueOf_18 rfl hl (by decide) rfl (fun ls hl => ?_)
        have J302 : ∀ (L1_302 : Int32) (mwof_302 : Nat → Int64), (L1_302.toInt = hg mpof L2_4.toNatClampNeg + dl v4.toInt) → (1 ≤ L1_302.toInt ∧ L1_302.toInt ≤ L2_4.toInt + 1) → ∀ (H : Heap) (locs : List Loc) (ls : Array Slot), va_P (dC, dI) vwCl [(m0, .inr (8, [.int mth, .int mst, .ref mp, .int mln, .ref mk, .int mts, .ref mti, .ref mtw, .ref mi, .int mmn, .ref mpo, .int mpd, .ref mpi, .int mpl, .int mcp, .ref mre, .ref mnn, .ref mwo, .ref mga, .ref mlo, .ref mro, .ref mle, .ref mra, .int mme, .ref mha, .int mch, .int mtm, .int mgo, .int mwa, .ref mba, .int mbl, .ref mon])), (mk, .inl (cI, 4, .inl mkf)), (mpo, .inl (cI, 12, .inl mpof)), (mnn, .inl (cI, 4, .inl mnnf)), (mwo, .inl (cJ, 12, .inr (.inl mwof_302)))] H → va_D A [(m0, .inr (8, [.int mth, .int mst, .ref mp, .int mln, .ref mk, .int mts, .ref mti, .ref mtw, .ref mi, .int mmn, .ref mpo, .int mpd, .ref mpi, .int mpl, .int mcp, .ref mre, .ref mnn, .ref mwo, .ref mga, .ref mlo, .ref mro, .ref mle, .ref mra, .int mme, .ref mha, .int mch, .int mtm, .int mgo, .int mwa, .ref mba, .int mbl, .ref mon])), (mk, .inl (cI, 4, .inl mkf)), (mpo, .inl (cI, 12, .inl mpof)), (mnn, .inl (cI, 4, .inl mnnf)), (mwo, .inl (cJ, 12, .inr (.inl mwof_302)))] → va_S A s.heap H locs → lv_has ls 8 [(3, .int v4), (2, .int L2_4), (1, .int L1_302), (0, .ref m0)] → W p l e { frames := 1, cells := 0, slots := 0, locals := 25 } s m (List.toArray [.ref m0]) below meth c H locs 0 0 Q (F0 m 302 ls []) := by
          intro L1_302 mwof_302 hi0_302 hi1_302 H locs ls hP hD hS hl
          refine lv_aload_n hx hb dX9_valueOf_302 rfl (lv_at hl 3 rfl) ?_
          refine va_get (D := (dC, dI)) (ci := 8) (v := .ref mwo) (C := RX9) (T := TX9) (N := 32) hx hb hts inG_X9 hown hK hP 0 rfl rfl 17 (by decide) (hts _ fl_X9_37) (fun _ h9 => h9) rfl dX9_valueOf_303 ?_
          refine lv_iload_n hx hb dX9_valueOf_306 rfl (lv_at hl 2 rfl) ?_
          refine lv_iconst (v := 1) hx hb dX9_valueOf_307 (by decide) ?_
          refine lv_isub hx hb dX9_valueOf_308 ?_
          refine lv_topi (fun v5 ev5 => ?_)
          try have hv5 : v5.toInt = L1_302.toInt - (1 : Int32).toInt := I_subx ev5 (by omega)
          refine va_lald (t0 := 1) hx hb hK hP 4 (ha := rfl) (ht := rfl) (I_in (by omega) (by omega)) dX9_valueOf_309 ?_
          refine lv_topl (fun w6 ew6 => ?_)
          refine lv_ldc2 (v := (-1000000)) hx hb hown (hts _ k_X9_134) dX9_valueOf_310 ?_
          refine lv_ldc2 (v := 1000000) hx hb hown (hts _ k_X9_136) dX9_valueOf_313 ?_
          refine calOI (rest := []) (wr := [(m0, .inr (8, [.int mth, .int mst, .ref mp, .int mln, .ref mk, .int mts, .ref mti, .ref mtw, .ref mi, .int mmn, .ref mpo, .int mpd, .ref mpi, .int mpl, .int mcp, .ref mre, .ref mnn, .ref mwo, .ref mga, .ref mlo, .ref mro, .ref mle, .ref mra, .int mme, .ref mha, .int mch, .int mtm, .int mgo, .int mwa, .ref mba, .int mbl, .ref mon])), (mk, .inl (cI, 4, .inl mkf)), (mpo, .inl (cI, 12, .inl mpof)), (mnn, .inl (cI, 4, .inl mnnf)), (mwo, .inl (cJ, 12, .inr (.inl mwof_302)))]) hG (c_X9_in l dC dI cI cJ base bB bO w6 (-1000000) 1000000 ) ml_X9_77 st_X9_in ini_X9 cd_X9_in hd_X9_in.2 ⟨(Nat.le_of_ble_eq_true rfl), (Nat.le_of_ble_eq_true rfl)⟩ (Nat.le_of_ble_eq_true rfl) (Nat.le_of_ble_eq_true rfl) hP hD hS [] [0, 1, 2, 3, 4] rfl rfl rfl rfl (by decide) hl.1 rfl (Nat.le_of_ble_eq_true rfl) dX9_valueOf_316 (fun r7 u H locs hw8 hP hD hS => ?_)
          have hw8 : ((r7.toInt = 1 ∧ (-1000000 : Int64).toInt ≤ w6.toInt ∧ w6.toInt ≤ (1000000 : Int64).toInt) ∨ (r7.toInt = 0 ∧ (w6.toInt < (-1000000 : Int64).toInt ∨ (1000000 : Int64).toInt < w6.toInt))) ∧ True := hw8
          obtain ⟨hp9, -⟩ := hw8
          have hP : va_P (dC, dI) vwCl [(m0, .inr (8, [.int mth, .int mst, .ref mp, .int mln, .ref mk, .int mts, .ref mti, .ref mtw, .ref mi, .int mmn, .ref mpo, .int mpd, .ref mpi, .int mpl, .int mcp, .ref mre, .ref mnn, .ref mwo, .ref mga, .ref mlo, .ref mro, .ref mle, .ref mra, .int mme, .ref mha, .int mch, .int mtm, .int mgo, .int mwa, .ref mba, .int mbl, .ref mon])), (mk, .inl (cI, 4, .inl mkf)), (mpo, .inl (cI, 12, .inl mpof)), (mnn, .inl (cI, 4, .inl mnnf)), (mwo, .inl (cJ, 12, .inr (.inl mwof_302)))] H := hP
          have hD : va_D A [(m0, .inr (8, [.int mth, .int mst, .ref mp, .int mln, .ref mk, .int mts, .ref mti, .ref mtw, .ref mi, .int mmn, .ref mpo, .int mpd, .ref mpi, .int mpl, .int mcp, .ref mre, .ref mnn, .ref mwo, .ref mga, .ref mlo, .ref mro, .ref mle, .ref mra, .int mme, .ref mha, .int mch, .int mtm, .int mgo, .int mwa, .ref mba, .int mbl, .ref mon])), (mk, .inl (cI, 4, .inl mkf)), (mpo, .inl (cI, 12, .inl mpof)), (mnn, .inl (cI, 4, .inl mnnf)), (mwo, .inl (cJ, 12, .inr (.inl mwof_302)))] := hD
          refine lv_if_ne (tgt := 325) hx hb dX9_valueOf_319 (by decide) (fun c10 => ?_) (fun c10 => ?_)
          · have c10' := I_ne c10
            obtain ⟨v11, ev11⟩ : ∃ y : Int32, y = L2_4 + 1 := ⟨_, rfl⟩
            try have hv11 : v11.toInt = L2_4.toInt + (1 : Int32).toInt := I_addx ev11 (by omega)
            refine lv_iinc (v := v11) (lv' := [(2, .int v11), (3, .int v4), (1, .int L1_302), (0, .ref m0)]) hx hb dX9_valueOf_325 hl (k := 1) rfl (by rw [ev11]; rfl) (by decide) rfl (fun ls hl => ?_)
            refine lv_goto (tgt := 4) hx hb dX9_valueOf_328 (by decide) ?_
            exact ih4 v11 L1_302 mwof_302 (by first | assumption | omega) (by first | (rw [hd1 v11 (by omega)]; omega) | (rw [hg_0 mpof (by omega)]; omega)) (by first | assumption | omega) (by omega) H locs ls hP hD hS (lv_sub hl [0, 2, 3] rfl)
          · have c10' := I_eq c10
            refine lv_ldc (v := (-2000000)) hx hb hown (hts _ k_X9_138) dX9_valueOf_322 ?_
            exact hret (-2000000) mwof_302 H locs 324 ls rfl trivial hP hD hS dX9_valueOf_324
        refine lv_iload_n hx hb dX9_valueOf_19 rfl (lv_at hl 0 rfl) ?_
        refine lv_bipush (v := 12) hx hb dX9_valueOf_20 (by decide) ?_
        refine lv_icmp_lt (tgt := 122) hx hb dX9_valueOf_22 (by decide) (fun c12 => ?_) (fun c12 => ?_)
        · have c12' := I_lt c12
          refine lv_iload_n hx hb dX9_valueOf_122 rfl (lv_at hl 0 rfl) ?_
          refine lv_bipush (v := 8) hx hb dX9_valueOf_123 (by decide) ?_
          refine lv_icmp_ne (tgt := 149) hx hb dX9_valueOf_125 (by decide) (fun c13 => ?_) (fun c13 => ?_)
          · have c13' := I_ne c13
            refine lv_iload_n hx hb dX9_valueOf_149 rfl (lv_at hl 0 rfl) ?_
            refine lv_bipush (v := 9) hx hb dX9_valueOf_150 (by decide) ?_
            refine lv_icmp_ne (tgt := 199) hx hb dX9_valueOf_152 (by decide) (fun c14 => ?_) (fun c14 => ?_)
            · have c14' := I_ne c14
              obtain ⟨v15, ev15⟩ : ∃ y : Int32, y = L1_4 + (-1) := ⟨_, rfl⟩
              try have hv15 : v15.toInt = L1_4.toInt + (-1 : Int32).toInt := I_addx ev15 (by omega)
              refine lv_iinc (v := v15) (lv' := [(1, .int v15), (3, .int v4), (2, .int L2_4), (0, .ref m0)]) hx hb dX9_valueOf_199 hl (k := 2) rfl (by rw [ev15]; rfl) (by decide) rfl (fun ls hl => ?_)
              refine lv_aload_n hx hb dX9_valueOf_202 rfl (lv_at hl 3 rfl) ?_
              refine va_get (D := (dC, dI)) (ci := 8) (v := .ref mwo) (C := RX9) (T := TX9) (N := 32) hx hb hts inG_X9 hown hK hP 0 rfl rfl 17 (by decide) (hts _ fl_X9_37) (fun _ h9 => h9) rfl dX9_valueOf_203 ?_
              refine lv_iload_n hx hb dX9_valueOf_206 rfl (lv_at hl 0 rfl) ?_
              refine lv_iconst (v := 1) hx hb dX9_valueOf_207 (by decide) ?_
              refine lv_isub hx hb dX9_valueOf_208 ?_
              refine lv_topi (fun v16 ev16 => ?_)
              try have hv16 : v16.toInt = v15.toInt - (1 : Int32).toInt := I_subx ev16 (by omega)
              refine va_lald (t0 := 1) hx hb hK hP 4 (ha := rfl) (ht := rfl) (I_in (by omega) (by omega)) dX9_valueOf_209 ?_
              refine lv_topl (fun w17 ew17 => ?_)
              refine lv_lstore (lv' := [(4, .long w17), (1, .int v15), (3, .int v4), (2, .int L2_4), (0, .ref m0)]) hx hb dX9_valueOf_210 hl (by decide) rfl (fun ls hl => ?_)
              refine lv_aload_n hx hb dX9_valueOf_212 rfl (lv_at hl 4 rfl) ?_
              refine va_get (D := (dC, dI)) (ci := 8) (v := .ref mwo) (C := RX9) (T := TX9) (N := 32) hx hb hts inG_X9 hown hK hP 0 rfl rfl 17 (by decide) (hts _ fl_X9_37) (fun _ h9 => h9) rfl dX9_valueOf_213 ?_
              refine lv_iload_n hx hb dX9_valueOf_216 rfl (lv_at hl 1 rfl) ?_
              refine va_lald (t0 := 1) hx hb hK hP 4 (ha := rfl) (ht := rfl) (I_in (by omega) (by omega)) dX9_valueOf_217 ?_
              refine lv_topl (fun w18 ew18 => ?_)
              refine lv_lstore (lv' := [(6, .long w18), (4, .long w17), (1, .int v15), (3, .int v4), (2, .int L2_4), (0, .ref m0)]) hx hb dX9_valueOf_218 hl (by decide) rfl (fun ls hl => ?_)
              refine lv_aload_n hx hb dX9_valueOf_220 rfl (lv_at hl 5 rfl) ?_
              refine va_get (D := (dC, dI)) (ci := 8) (v := .ref mwo) (C := RX9) (T := TX9) (N := 32) hx hb hts inG_X9 hown hK hP 0 rfl rfl 17 (by decide) (hts _ fl_X9_37) (fun _ h9 => h9) rfl dX9_valueOf_221 ?_
              refine lv_iload_n hx hb dX9_valueOf_224 rfl (lv_at hl 2 rfl) ?_
              refine lv_iconst (v := 1) hx hb dX9_valueOf_225 (by decide) ?_
              refine lv_isub hx hb dX9_valueOf_226 ?_
              refine lv_topi (fun v19 ev19 => ?_)
              try have hv19 : v19.toInt = v15.toInt - (1 : Int32).toInt := I_subx ev19 (by omega)
              refine lv_iload_n hx hb dX9_valueOf_227 rfl (lv_at hl 3 rfl) ?_
              refine lv_iconst (v := 2) hx hb dX9_valueOf_228 (by decide) ?_
              refine lv_icmp_ne (tgt := 240) hx hb dX9_valueOf_229 (by decide) (fun c20 => ?_) (fun c20 => ?_)
              · have c20' := I_ne c20
                refine lv_iload_n hx hb dX9_valueOf_240 rfl (lv_at hl 3 rfl) ?_
                refine lv_iconst (v := 3) hx hb dX9_valueOf_241 (by decide) ?_
                refine lv_icmp_ne (tgt := 253) hx hb dX9_valueOf_242 (by decide) (fun c21 => ?_) (fun c21 => ?_)
                · have c21' := I_ne c21
                  refine lv_iload_n hx hb dX9_valueOf_253 rfl (lv_at hl 3 rfl) ?_
                  refine lv_iconst (v := 4) hx hb dX9_valueOf_254 (by decide) ?_
                  refine lv_icmp_eq (tgt := 264) hx hb dX9_valueOf_255 (by decide) (fun c22 => ?_) (fun c22 => ?_)
                  · have c22' := I_eq c22
                    refine lv_lload hx hb dX9_valueOf_264 (lv_at hl 1 rfl) ?_
                    refine lv_lload hx hb dX9_valueOf_266 (lv_at hl 0 rfl) ?_
                    refine lv_lmul hx hb dX9_valueOf_268 ?_
                    refine lv_topl (fun w23 ew23 => ?_)
                    refine lv_goto (tgt := 301) hx hb dX9_valueOf_269 (by decide) ?_
                    refine va_last (t0 := 1) hx hb hK hP hD hS 4 (ha := rfl) (ht := rfl) (I_in (by omega) (by omega)) dX9_valueOf_301 (fun H locs hP hD hS => ?_)
                    have hP : va_P (dC, dI) vwCl [(m0, .inr (8, [.int mth, .int mst, .ref mp, .int mln, .ref mk, .int mts, .ref mti, .ref mtw, .ref mi, .int mmn, .ref mpo, .int mpd, .ref mpi, .int mpl, .int mcp, .ref mre, .ref mnn, .ref mwo, .ref mga, .ref mlo, .ref mro, .ref mle, .ref mra, .int mme, .ref mha, .int mch, .int mtm, .int mgo, .int mwa, .ref mba, .int mbl, .ref mon])), (mk, .inl (cI, 4, .inl mkf)), (mpo, .inl (cI, 12, .inl mpof)), (mnn, .inl (cI, 4, .inl mnnf)), (mwo, .inl (cJ, 12, .inr (.inl (vp_updL mwof_4 v19.toNatClampNeg w23))))] H := hP
                    have hD : va_D A [(m0, .inr (8, [.int mth, .int mst, .ref mp, .int mln, .ref mk, .int mts, .ref mti, .ref mtw, .ref mi, .int mmn, .ref mpo, .int mpd, .ref mpi, .int mpl, .int mcp, .ref mre, .ref mnn, .ref mwo, .ref mga, .ref mlo, .ref mro, .ref mle, .ref mra, .int mme, .ref mha, .int mch, .int mtm, .int mgo, .int mwa, .ref mba, .int mbl, .ref mon])), (mk, .inl (cI, 4, .inl mkf)), (mpo, .inl (cI, 12, .inl mpof)), (mnn, .inl (cI, 4, .inl mnnf)), (mwo, .inl (cJ, 12, .inr (.inl (vp_updL mwof_4 v19.toNatClampNeg w23))))] := hD
                    generalize ef24 : vp_updL mwof_4 v19.toNatClampNeg w23 = f24 at hP hD
                    exact J302 v15 f24 (by first | assumption | omega) (by first | assumption | omega) H locs ls hP hD hS (lv_sub hl [3, 4, 2, 5] rfl)
                  · have c22' := I_ne c22
                    refine lv_iload_n hx hb dX9_valueOf_258 rfl (lv_at hl 3 rfl) ?_
                    refine lv_bipush (v := 7) hx hb dX9_valueOf_259 (by decide) ?_
                    refine lv_icmp_ne (tgt := 272) hx hb dX9_valueOf_261 (by decide) (fun c25 => ?_) (fun c25 => ?_)
                    · have c25' := I_ne c25
                      refine lv_iload_n hx hb dX9_valueOf_272 rfl (lv_at hl 3 rfl) ?_
                      refine lv_iconst (v := 5) hx hb dX9_valueOf_273 (by decide) ?_
                      refine lv_icmp_ne (tgt := 288) hx hb dX9_valueOf_274 (by decide) (fun c26 => ?_) (fun c26 => ?_)
                      · have c26' := I_ne c26
                        refine lv_lload hx hb dX9_valueOf_288 (lv_at hl 1 rfl) ?_
                        refine lv_lload hx hb dX9_valueOf_290 (lv_at hl 0 rfl) ?_
                        refine W.lcmp hx hb dX9_valueOf_292 ?_
                        refine lv_topi (fun v27 ev27 => ?_)
                        have hv27 := J_cmp w17 w18
                        rw [← ev27] at hv27
                        refine lv_if_ne (tgt := 300) hx hb dX9_valueOf_293 (by decide) (fun c28 => ?_) (fun c28 => ?_)
                        · have c28' := I_ne c28
                          refine lv_lconst (v := 0) hx hb dX9_valueOf_300 (by decide) ?_
                          refine va_last (t0 := 1) hx hb hK hP hD hS 4 (ha := rfl) (ht := rfl) (I_in (by omega) (by omega)) dX9_valueOf_301 (fun H locs hP hD hS => ?_)
                          have hP : va_P (dC, dI) vwCl [(m0, .inr (8, [.int mth, .int mst, .ref mp, .int mln, .ref mk, .int mts, .ref mti, .ref mtw, .ref mi, .int mmn, .ref mpo, .int mpd, .ref mpi, .int mpl, .int mcp, .ref mre, .ref mnn, .ref mwo, .ref mga, .ref mlo, .ref mro, .ref mle, .ref mra, .int mme, .ref mha, .int mch, .int mtm, .int mgo, .int mwa, .ref mba, .int mbl, .ref mon])), (mk, .inl (cI, 4, .inl mkf)), (mpo, .inl (cI, 12, .inl mpof)), (mnn, .inl (cI, 4, .inl mnnf)), (mwo, .inl (cJ, 12, .inr (.inl (vp_updL mwof_4 v19.toNatClampNeg 0))))] H := hP
                          have hD : va_D A [(m0, .inr (8, [.int mth, .int mst, .ref mp, .int mln, .ref mk, .int mts, .ref mti, .ref mtw, .ref mi, .int mmn, .ref mpo, .int mpd, .ref mpi, .int mpl, .int mcp, .ref mre, .ref mnn, .ref mwo, .ref mga, .ref mlo, .ref mro, .ref mle, .ref mra, .int mme, .ref mha, .int mch, .int mtm, .int mgo, .int mwa, .ref mba, .int mbl, .ref mon])), (mk, .inl (cI, 4, .inl mkf)), (mpo, .inl (cI, 12, .inl mpof)), (mnn, .inl (cI, 4, .inl mnnf)), (mwo, .inl (cJ, 12, .inr (.inl (vp_updL mwof_4 v19.toNatClampNeg 0))))] := hD
                          generalize ef29 : vp_updL mwof_4 v19.toNatClampNeg 0 = f29 at hP hD
                          exact J302 v15 f29 (by first | assumption | omega) (by first | assumption | omega) H locs ls hP hD hS (lv_sub hl [3, 4, 2, 5] rfl)
                        · have c28' := I_eq c28
                          refine lv_lconst (v := 1) hx hb dX9_valueOf_296 (by decide) ?_
                          refine lv_goto (tgt := 301) hx hb dX9_valueOf_297 (by decide) ?_
                          refine va_last (t0 := 1) hx hb hK hP hD hS 4 (ha := rfl) (ht := rfl) (I_in (by omega) (by omega)) dX9_valueOf_301 (fun H locs hP hD hS => ?_)
                          have hP : va_P (dC, dI) vwCl [(m0, .inr (8, [.int mth, .int mst, .ref mp, .int mln, .ref mk, .int mts, .ref mti, .ref mtw, .ref mi, .int mmn, .ref mpo, .int mpd, .ref mpi, .int mpl, .int mcp, .ref mre, .ref mnn, .ref mwo, .ref mga, .ref mlo, .ref mro, .ref mle, .ref mra, .int mme, .ref mha, .int mch, .int mtm, .int mgo, .int mwa, .ref mba, .int mbl, .ref mon])), (mk, .inl (cI, 4, .inl mkf)), (mpo, .inl (cI, 12, .inl mpof)), (mnn, .inl (cI, 4, .inl mnnf)), (mwo, .inl (cJ, 12, .inr (.inl (vp_updL mwof_4 v19.toNatClampNeg 1))))] H := hP
                          have hD : va_D A [(m0, .inr (8, [.int mth, .int mst, .ref mp, .int mln, .ref mk, .int mts, .ref mti, .ref mtw, .ref mi, .int mmn, .ref mpo, .int mpd, .ref mpi, .int mpl, .int mcp, .ref mre, .ref mnn, .ref mwo, .ref mga, .ref mlo, .ref mro, .ref mle, .ref mra, .int mme, .ref mha, .int mch, .int mtm, .int mgo, .int mwa, .ref mba, .int mbl, .ref mon])), (mk, .inl (cI, 4, .inl mkf)), (mpo, .inl (cI, 12, .inl mpof)), (mnn, .inl (cI, 4, .inl mnnf)), (mwo, .inl (cJ, 12, .inr (.inl (vp_updL mwof_4 v19.toNatClampNeg 1))))] := hD
                          generalize ef30 : vp_updL mwof_4 v19.toNatClampNeg 1 = f30 at hP hD
                          exact J302 v15 f30 (by first | assumption | omega) (by first | assumption | omega) H locs ls hP hD hS (lv_sub hl [3, 4, 2, 5] rfl)
                      · have c26' := I_eq c26
                        refine lv_lload hx hb dX9_valueOf_277 (lv_at hl 1 rfl) ?_
                        refine lv_lload hx hb dX9_valueOf_279 (lv_at hl 0 rfl) ?_
                        refine W.lcmp hx hb dX9_valueOf_281 ?_
                        refine lv_topi (fun v31 ev31 => ?_)
                        have hv31 := J_cmp w17 w18
                        rw [← ev31] at hv31
                        refine lv_if_ge (tgt := 300) hx hb dX9_valueOf_282 (by decide) (fun c32 => ?_) (fun c32 => ?_)
                        · have c32' := I_le c32
                          refine lv_lconst (v := 0) hx hb dX9_valueOf_300 (by decide) ?_
                          refine va_last (t0 := 1) hx hb hK hP hD hS 4 (ha := rfl) (ht := rfl) (I_in (by omega) (by omega)) dX9_valueOf_301 (fun H locs hP hD hS => ?_)
                          have hP : va_P (dC, dI) vwCl [(m0, .inr (8, [.int mth, .int mst, .ref mp, .int mln, .ref mk, .int mts, .ref mti, .ref mtw, .ref mi, .int mmn, .ref mpo, .int mpd, .ref mpi, .int mpl, .int mcp, .ref mre, .ref mnn, .ref mwo, .ref mga, .ref mlo, .ref mro, .ref mle, .ref mra, .int mme, .ref mha, .int mch, .int mtm, .int mgo, .int mwa, .ref mba, .int mbl, .ref mon])), (mk, .inl (cI, 4, .inl mkf)), (mpo, .inl (cI, 12, .inl mpof)), (mnn, .inl (cI, 4, .inl mnnf)), (mwo, .inl (cJ, 12, .inr (.inl (vp_updL mwof_4 v19.toNatClampNeg 0))))] H := hP
                          have hD : va_D A [(m0, .inr (8, [.int mth, .int mst, .ref mp, .int mln, .ref mk, .int mts, .ref mti, .ref mtw, .ref mi, .int mmn, .ref mpo, .int mpd, .ref mpi, .int mpl, .int mcp, .ref mre, .ref mnn, .ref mwo, .ref mga, .ref mlo, .ref mro, .ref mle, .ref mra, .int mme, .ref mha, .int mch, .int mtm, .int mgo, .int mwa, .ref mba, .int mbl, .ref mon])), (mk, .inl (cI, 4, .inl mkf)), (mpo, .inl (cI, 12, .inl mpof)), (mnn, .inl (cI, 4, .inl mnnf)), (mwo, .inl (cJ, 12, .inr (.inl (vp_updL mwof_4 v19.toNatClampNeg 0))))] := hD
                          generalize ef33 : vp_updL mwof_4 v19.toNatClampNeg 0 = f33 at hP hD
                          exact J302 v15 f33 (by first | assumption | omega) (by first | assumption | omega) H locs ls hP hD hS (lv_sub hl [3, 4, 2, 5] rfl)
                        · have c32' := I_nle c32
                          refine lv_goto (tgt := 296) hx hb dX9_valueOf_285 (by decide) ?_
                          refine lv_lconst (v := 1) hx hb dX9_valueOf_296 (by decide) ?_
                          refine lv_goto (tgt := 301) hx hb dX9_valueOf_297 (by decide) ?_
                          refine va_last (t0 := 1) hx hb hK hP hD hS 4 (ha := rfl) (ht := rfl) (I_in (by omega) (by omega)) dX9_valueOf_301 (fun H locs hP hD hS => ?_)
                          have hP : va_P (dC, dI) vwCl [(m0, .inr (8, [.int mth, .int mst, .ref mp, .int mln, .ref mk, .int mts, .ref mti, .ref mtw, .ref mi, .int mmn, .ref mpo, .int mpd, .ref mpi, .int mpl, .int mcp, .ref mre, .ref mnn, .ref mwo, .ref mga, .ref mlo, .ref mro, .ref mle, .ref mra, .int mme, .ref mha, .int mch, .int mtm, .int mgo, .int mwa, .ref mba, .int mbl, .ref mon])), (mk, .inl (cI, 4, .inl mkf)), (mpo, .inl (cI, 12, .inl mpof)), (mnn, .inl (cI, 4, .inl mnnf)), (mwo, .inl (cJ, 12, .inr (.inl (vp_updL mwof_4 v19.toNatClampNeg 1))))] H := hP
                          have hD : va_D A [(m0, .inr (8, [.int mth, .int mst, .ref mp, .int mln, .ref mk, .int mts, .ref mti, .ref mtw, .ref mi, .int mmn, .ref mpo, .int mpd, .ref mpi, .int mpl, .int mcp, .ref mre, .ref mnn, .ref mwo, .ref mga, .ref mlo, .ref mro, .ref mle, .ref mra, .int mme, .ref mha, .int mch, .int mtm, .int mgo, .int mwa, .ref mba, .int mbl, .ref mon])), (mk, .inl (cI, 4, .inl mkf)), (mpo, .inl (cI, 12, .inl mpof)), (mnn, .inl (cI, 4, .inl mnnf)), (mwo, .inl (cJ, 12, .inr (.inl (vp_updL mwof_4 v19.toNatClampNeg 1))))] := hD
                          generalize ef34 : vp_updL mwof_4 v19.toNatClampNeg 1 = f34 at hP hD
                          exact J302 v15 f34 (by first | assumption | omega) (by first | assumption | omega) H locs ls hP hD hS (lv_sub hl [3, 4, 2, 5] rfl)
                    · have c25' := I_eq c25
                      refine lv_lload hx hb dX9_valueOf_264 (lv_at hl 1 rfl) ?_
                      refine lv_lload hx hb dX9_valueOf_266 (lv_at hl 0 rfl) ?_
                      refine lv_lmul hx hb dX9_valueOf_268 ?_
                      refine lv_topl (fun w35 ew35 => ?_)
                      refine lv_goto (tgt := 301) hx hb dX9_valueOf_269 (by decide) ?_
                      refine va_last (t0 := 1) hx hb hK hP hD hS 4 (ha := rfl) (ht := rfl) (I_in (by omega) (by omega)) dX9_valueOf_301 (fun H locs hP hD hS => ?_)
                      have hP : va_P (dC, dI) vwCl [(m0, .inr (8, [.int mth, .int mst, .ref mp, .int mln, .ref mk, .int mts, .ref mti, .ref mtw, .ref mi, .int mmn, .ref mpo, .int mpd, .ref mpi, .int mpl, .int mcp, .ref mre, .ref mnn, .ref mwo, .ref mga, .ref mlo, .ref mro, .ref mle, .ref mra, .int mme, .ref mha, .int mch, .int mtm, .int mgo, .int mwa, .ref mba, .int mbl, .ref mon])), (mk, .inl (cI, 4, .inl mkf)), (mpo, .inl (cI, 12, .inl mpof)), (mnn, .inl (cI, 4, .inl mnnf)), (mwo, .inl (cJ, 12, .inr (.inl (vp_updL mwof_4 v19.toNatClampNeg w35))))] H := hP
                      have hD : va_D A [(m0, .inr (8, [.int mth, .int mst, .ref mp, .int mln, .ref mk, .int mts, .ref mti, .ref mtw, .ref mi, .int mmn, .ref mpo, .int mpd, .ref mpi, .int mpl, .int mcp, .ref mre, .ref mnn, .ref mwo, .ref mga, .ref mlo, .ref mro, .ref mle, .ref mra, .int mme, .ref mha, .int mch, .int mtm, .int mgo, .int mwa, .ref mba, .int mbl, .ref mon])), (mk, .inl (cI, 4, .inl mkf)), (mpo, .inl (cI, 12, .inl mpof)), (mnn, .inl (cI, 4, .inl mnnf)), (mwo, .inl (cJ, 12, .inr (.inl (vp_updL mwof_4 v19.toNatClampNeg w35))))] := hD
                      generalize ef36 : vp_updL mwof_4 v19.toNatClampNeg w35 = f36 at hP hD
                      exact J302 v15 f36 (by first | assumption | omega) (by first | assumption | omega) H locs ls hP hD hS (lv_sub hl [3, 4, 2, 5] rfl)
                · have c21' := I_eq c21
                  refine lv_lload hx hb dX9_valueOf_245 (lv_at hl 1 rfl) ?_
                  refine lv_lload hx hb dX9_valueOf_247 (lv_at hl 0 rfl) ?_
                  refine lv_lsub hx hb dX9_valueOf_249 ?_
                  refine lv_topl (fun w37 ew37 => ?_)
                  try have hw37 : w37.toInt = w17.toInt - w18.toInt := J_subx ew37 (by omega)
                  refine lv_goto (tgt := 301) hx hb dX9_valueOf_250 (by decide) ?_
                  refine va_last (t0 := 1) hx hb hK hP hD hS 4 (ha := rfl) (ht := rfl) (I_in (by omega) (by omega)) dX9_valueOf_301 (fun H locs hP hD hS => ?_)
                  have hP : va_P (dC, dI) vwCl [(m0, .inr (8, [.int mth, .int mst, .ref mp, .int mln, .ref mk, .int mts, .ref mti, .ref mtw, .ref mi, .int mmn, .ref mpo, .int mpd, .ref mpi, .int mpl, .int mcp, .ref mre, .ref mnn, .ref mwo, .ref mga, .ref mlo, .ref mro, .ref mle, .ref mra, .int mme, .ref mha, .int mch, .int mtm, .int mgo, .int mwa, .ref mba, .int mbl, .ref mon])), (mk, .inl (cI, 4, .inl mkf)), (mpo, .inl (cI, 12, .inl mpof)), (mnn, .inl (cI, 4, .inl mnnf)), (mwo, .inl (cJ, 12, .inr (.inl (vp_updL mwof_4 v19.toNatClampNeg w37))))] H := hP
                  have hD : va_D A [(m0, .inr (8, [.int mth, .int mst, .ref mp, .int mln, .ref mk, .int mts, .ref mti, .ref mtw, .ref mi, .int mmn, .ref mpo, .int mpd, .ref mpi, .int mpl, .int mcp, .ref mre, .ref mnn, .ref mwo, .ref mga, .ref mlo, .ref mro, .ref mle, .ref mra, .int mme, .ref mha, .int mch, .int mtm, .int mgo, .int mwa, .ref mba, .int mbl, .ref mon])), (mk, .inl (cI, 4, .inl mkf)), (mpo, .inl (cI, 12, .inl mpof)), (mnn, .inl (cI, 4, .inl mnnf)), (mwo, .inl (cJ, 12, .inr (.inl (vp_updL mwof_4 v19.toNatClampNeg w37))))] := hD
                  generalize ef38 : vp_updL mwof_4 v19.toNatClampNeg w37 = f38 at hP hD
                  exact J302 v15 f38 (by first | assumption | omega) (by first | assumption | omega) H locs ls hP hD hS (lv_sub hl [3, 4, 2, 5] rfl)
              · have c20' := I_eq c20
                refine lv_lload hx hb dX9_valueOf_232 (lv_at hl 1 rfl) ?_
                refine lv_lload hx hb dX9_valueOf_234 (lv_at hl 0 rfl) ?_
                refine lv_ladd hx hb dX9_valueOf_236 ?_
                refine lv_topl (fun w39 ew39 => ?_)
                refine lv_goto (tgt := 301) hx hb dX9_valueOf_237 (by decide) ?_
                refine va_last (t0 := 1) hx hb hK hP hD hS 4 (ha := rfl) (ht := rfl) (I_in (by omega) (by omega)) dX9_valueOf_301 (fun H locs hP hD hS => ?_)
                have hP : va_P (dC, dI) vwCl [(m0, .inr (8, [.int mth, .int mst, .ref mp, .int mln, .ref mk, .int mts, .ref mti, .ref mtw, .ref mi, .int mmn, .ref mpo, .int mpd, .ref mpi, .int mpl, .int mcp, .ref mre, .ref mnn, .ref mwo, .ref mga, .ref mlo, .ref mro, .ref mle, .ref mra, .int mme, .ref mha, .int mch, .int mtm, .int mgo, .int mwa, .ref mba, .int mbl, .ref mon])), (mk, .inl (cI, 4, .inl mkf)), (mpo, .inl (cI, 12, .inl mpof)), (mnn, .inl (cI, 4, .inl mnnf)), (mwo, .inl (cJ, 12, .inr (.inl (vp_updL mwof_4 v19.toNatClampNeg w39))))] H := hP
                have hD : va_D A [(m0, .inr (8, [.int mth, .int mst, .ref mp, .int mln, .ref mk, .int mts, .ref mti, .ref mtw, .ref mi, .int mmn, .ref mpo, .int mpd, .ref mpi, .int mpl, .int mcp, .ref mre, .ref mnn, .ref mwo, .ref mga, .ref mlo, .ref mro, .ref mle, .ref mra, .int mme, .ref mha, .int mch, .int mtm, .int mgo, .int mwa, .ref mba, .int mbl, .ref mon])), (mk, .inl (cI, 4, .inl mkf)), (mpo, .inl (cI, 12, .inl mpof)), (mnn, .inl (cI, 4, .inl mnnf)), (mwo, .inl (cJ, 12, .inr (.inl (vp_updL mwof_4 v19.toNatClampNeg w39))))] := hD
                generalize ef40 : vp_updL mwof_4 v19.toNatClampNeg w39 = f40 at hP hD
                exact J302 v15 f40 (by first | assumption | omega) (by first | assumption | omega) H locs ls hP hD hS (lv_sub hl [3, 4, 2, 5] rfl)
            · have c14' := I_eq c14
              obtain ⟨v41, ev41⟩ : ∃ y : Int32, y = L1_4 + (-2) := ⟨_, rfl⟩
              try have hv41 : v41.toInt = L1_4.toInt + (-2 : Int32).toInt := I_addx ev41 (by omega)
              refine lv_iinc (v := v41) (lv' := [(1, .int v41), (3, .int v4), (2, .int L2_4), (0, .ref m0)]) hx hb dX9_valueOf_155 hl (k := 2) rfl (by rw [ev41]; rfl) (by decide) rfl (fun ls hl => ?_)
              refine lv_aload_n hx hb dX9_valueOf_158 rfl (lv_at hl 3 rfl) ?_
              refine va_get (D := (dC, dI)) (ci := 8) (v := .ref mwo) (C := RX9) (T := TX9) (N := 32) hx hb hts inG_X9 hown hK hP 0 rfl rfl 17 (by decide) (hts _ fl_X9_37) (fun _ h9 => h9) rfl dX9_valueOf_159 ?_
              refine lv_iload_n hx hb dX9_valueOf_162 rfl (lv_at hl 0 rfl) ?_
              refine lv_iconst (v := 1) hx hb dX9_valueOf_163 (by decide) ?_
              refine lv_isub hx hb dX9_valueOf_164 ?_
              refine lv_topi (fun v42 ev42 => ?_)
              try have hv42 : v42.toInt = v41.toInt - (1 : Int32).toInt := I_subx ev42 (by omega)
              refine lv_aload_n hx hb dX9_valueOf_165 rfl (lv_at hl 3 rfl) ?_
              refine va_get (D := (dC, dI)) (ci := 8) (v := .ref mwo) (C := RX9) (T := TX9) (N := 32) hx hb hts inG_X9 hown hK hP 0 rfl rfl 17 (by decide) (hts _ fl_X9_37) (fun _ h9 => h9) rfl dX9_valueOf_166 ?_
              refine lv_iload_n hx hb dX9_valueOf_169 rfl (lv_at hl 0 rfl) ?_
              refine lv_iconst (v := 1) hx hb dX9_valueOf_170 (by decide) ?_
              refine lv_isub hx hb dX9_valueOf_171 ?_
              refine lv_topi (fun v43 ev43 => ?_)
              try have hv43 : v43.toInt = v41.toInt - (1 : Int32).toInt := I_subx ev43 (by omega)
              refine va_lald (t0 := 1) hx hb hK hP 4 (ha := rfl) (ht := rfl) (I_in (by omega) (by omega)) dX9_valueOf_172 ?_
              refine lv_topl (fun w44 ew44 => ?_)
              refine lv_lconst (v := 1) hx hb dX9_valueOf_173 (by decide) ?_
              refine W.lcmp hx hb dX9_valueOf_174 ?_
              refine lv_topi (fun v45 ev45 => ?_)
              have hv45 := J_cmp w44 (1 : Int64)
              rw [← ev45] at hv45
              refine lv_if_ne (tgt := 187) hx hb dX9_valueOf_175 (by decide) (fun c46 => ?_) (fun c46 => ?_)
              · have c46' := I_ne c46
                refine lv_aload_n hx hb dX9_valueOf_187 rfl (lv_at hl 3 rfl) ?_
                refine va_get (D := (dC, dI)) (ci := 8) (v := .ref mwo) (C := RX9) (T := TX9) (N := 32) hx hb hts inG_X9 hown hK hP 0 rfl rfl 17 (by decide) (hts _ fl_X9_37) (fun _ h9 => h9) rfl dX9_valueOf_188 ?_
                refine lv_iload_n hx hb dX9_valueOf_191 rfl (lv_at hl 0 rfl) ?_
                refine lv_iconst (v := 1) hx hb dX9_valueOf_192 (by decide) ?_
                refine lv_iadd hx hb dX9_valueOf_193 ?_
                refine lv_topi (fun v47 ev47 => ?_)
                try have hv47 : v47.toInt = v41.toInt + (1 : Int32).toInt := I_addx ev47 (by omega)
                refine va_lald (t0 := 1) hx hb hK hP 4 (ha := rfl) (ht := rfl) (I_in (by omega) (by omega)) dX9_valueOf_194 ?_
                refine lv_topl (fun w48 ew48 => ?_)
                refine va_last (t0 := 1) hx hb hK hP hD hS 4 (ha := rfl) (ht := rfl) (I_in (by omega) (by omega)) dX9_valueOf_195 (fun H locs hP hD hS => ?_)
                have hP : va_P (dC, dI) vwCl [(m0, .inr (8, [.int mth, .int mst, .ref mp, .int mln, .ref mk, .int mts, .ref mti, .ref mtw, .ref mi, .int mmn, .ref mpo, .int mpd, .ref mpi, .int mpl, .int mcp, .ref mre, .ref mnn, .ref mwo, .ref mga, .ref mlo, .ref mro, .ref mle, .ref mra, .int mme, .ref mha, .int mch, .int mtm, .int mgo, .int mwa, .ref mba, .int mbl, .ref mon])), (mk, .inl (cI, 4, .inl mkf)), (mpo, .inl (cI, 12, .inl mpof)), (mnn, .inl (cI, 4, .inl mnnf)), (mwo, .inl (cJ, 12, .inr (.inl (vp_updL mwof_4 v42.toNatClampNeg w48))))] H := hP
                have hD : va_D A [(m0, .inr (8, [.int mth, .int mst, .ref mp, .int mln, .ref mk, .int mts, .ref mti, .ref mtw, .ref mi, .int mmn, .ref mpo, .int mpd, .ref mpi, .int mpl, .int mcp, .ref mre, .ref mnn, .ref mwo, .ref mga, .ref mlo, .ref mro, .ref mle, .ref mra, .int mme, .ref mha, .int mch, .int mtm, .int mgo, .int mwa, .ref mba, .int mbl, .ref mon])), (mk, .inl (cI, 4, .inl mkf)), (mpo, .inl (cI, 12, .inl mpof)), (mnn, .inl (cI, 4, .inl mnnf)), (mwo, .inl (cJ, 12, .inr (.inl (vp_updL mwof_4 v42.toNatClampNeg w48))))] := hD
                generalize ef49 : vp_updL mwof_4 v42.toNatClampNeg w48 = f49 at hP hD
                refine lv_goto (tgt := 302) hx hb dX9_valueOf_196 (by decide) ?_
                exact J302 v41 f49 (by first | assumption | omega) (by first | assumption | omega) H locs ls hP hD hS (lv_sub hl [1, 2, 0, 3] rfl)
              · have c46' := I_eq c46
                refine lv_aload_n hx hb dX9_valueOf_178 rfl (lv_at hl 3 rfl) ?_
                refine va_get (D := (dC, dI)) (ci := 8) (v := .ref mwo) (C := RX9) (T := TX9) (N := 32) hx hb hts inG_X9 hown hK hP 0 rfl rfl 17 (by decide) (hts _ fl_X9_37) (fun _ h9 => h9) rfl dX9_valueOf_179 ?_
                refine lv_iload_n hx hb dX9_valueOf_182 rfl (lv_at hl 0 rfl) ?_
                refine va_lald (t0 := 1) hx hb hK hP 4 (ha := rfl) (ht := rfl) (I_in (by omega) (by omega)) dX9_valueOf_183 ?_
                refine lv_topl (fun w50 ew50 => ?_)
                refine lv_goto (tgt := 195) hx hb dX9_valueOf_184 (by decide) ?_
                refine va_last (t0 := 1) hx hb hK hP hD hS 4 (ha := rfl) (ht := rfl) (I_in (by omega) (by omega)) dX9_valueOf_195 (fun H locs hP hD hS => ?_)
                have hP : va_P (dC, dI) vwCl [(m0, .inr (8, [.int mth, .int mst, .ref mp, .int mln, .ref mk, .int mts, .ref mti, .ref mtw, .ref mi, .int mmn, .ref mpo, .int mpd, .ref mpi, .int mpl, .int mcp, .ref mre, .ref mnn, .ref mwo, .ref mga, .ref mlo, .ref mro, .ref mle, .ref mra, .int mme, .ref mha, .int mch, .int mtm, .int mgo, .int mwa, .ref mba, .int mbl, .ref mon])), (mk, .inl (cI, 4, .inl mkf)), (mpo, .inl (cI, 12, .inl mpof)), (mnn, .inl (cI, 4, .inl mnnf)), (mwo, .inl (cJ, 12, .inr (.inl (vp_updL mwof_4 v42.toNatClampNeg w50))))] H := hP
                have hD : va_D A [(m0, .inr (8, [.int mth, .int mst, .ref mp, .int mln, .ref mk, .int mts, .ref mti, .ref mtw, .ref mi, .int mmn, .ref mpo, .int mpd, .ref mpi, .int mpl, .int mcp, .ref mre, .ref mnn, .ref mwo, .ref mga, .ref mlo, .ref mro, .ref mle, .ref mra, .int mme, .ref mha, .int mch, .int mtm, .int mgo, .int mwa, .ref mba, .int mbl, .ref mon])), (mk, .inl (cI, 4, .inl mkf)), (mpo, .inl (cI, 12, .inl mpof)), (mnn, .inl (cI, 4, .inl mnnf)), (mwo, .inl (cJ, 12, .inr (.inl (vp_updL mwof_4 v42.toNatClampNeg w50))))] := hD
                generalize ef51 : vp_updL mwof_4 v42.toNatClampNeg w50 = f51 at hP hD
                refine lv_goto (tgt := 302) hx hb dX9_valueOf_196 (by decide) ?_
                exact J302 v41 f51 (by first | assumption | omega) (by first | assumption | omega) H locs ls hP hD hS (lv_sub hl [1, 2, 0, 3] rfl)
          · have c13' := I_eq c13
            refine lv_aload_n hx hb dX9_valueOf_128 rfl (lv_at hl 3 rfl) ?_
            refine va_get (D := (dC, dI)) (ci := 8) (v := .ref mwo) (C := RX9) (T := TX9) (N := 32) hx hb hts inG_X9 hown hK hP 0 rfl rfl 17 (by decide) (hts _ fl_X9_37) (fun _ h9 => h9) rfl dX9_valueOf_129 ?_
            refine lv_iload_n hx hb dX9_valueOf_132 rfl (lv_at hl 2 rfl) ?_
            refine lv_iconst (v := 1) hx hb dX9_valueOf_133 (by decide) ?_
            refine lv_isub hx hb dX9_valueOf_134 ?_
            refine lv_topi (fun v52 ev52 => ?_)
            try have hv52 : v52.toInt = L1_4.toInt - (1 : Int32).toInt := I_subx ev52 (by omega)
            refine lv_lconst (v := 1) hx hb dX9_valueOf_135 (by decide) ?_
            refine lv_aload_n hx hb dX9_valueOf_136 rfl (lv_at hl 3 rfl) ?_
            refine va_get (D := (dC, dI)) (ci := 8) (v := .ref mwo) (C := RX9) (T := TX9) (N := 32) hx hb hts inG_X9 hown hK hP 0 rfl rfl 17 (by decide) (hts _ fl_X9_37) (fun _ h9 => h9) rfl dX9_valueOf_137 ?_
            refine lv_iload_n hx hb dX9_valueOf_140 rfl (lv_at hl 2 rfl) ?_
            refine lv_iconst (v := 1) hx hb dX9_valueOf_141 (by decide) ?_
            refine lv_isub hx hb dX9_valueOf_142 ?_
            refine lv_topi (fun v53 ev53 => ?_)
            try have hv53 : v53.toInt = L1_4.toInt - (1 : Int32).toInt := I_subx ev53 (by omega)
            refine va_lald (t0 := 1) hx hb hK hP 4 (ha := rfl) (ht := rfl) (I_in (by omega) (by omega)) dX9_valueOf_143 ?_
            refine lv_topl (fun w54 ew54 => ?_)
            refine lv_lsub hx hb dX9_valueOf_144 ?_
            refine lv_topl (fun w55 ew55 => ?_)
            try have hw55 : w55.toInt = (1 : Int64).toInt - w54.toInt := J_subx ew55 (by omega)
            refine va_last (t0 := 1) hx hb hK hP hD hS 4 (ha := rfl) (ht := rfl) (I_in (by omega) (by omega)) dX9_valueOf_145 (fun H locs hP hD hS => ?_)
            have hP : va_P (dC, dI) vwCl [(m0, .inr (8, [.int mth, .int mst, .ref mp, .int mln, .ref mk, .int mts, .ref mti, .ref mtw, .ref mi, .int mmn, .ref mpo, .int mpd, .ref mpi, .int mpl, .int mcp, .ref mre, .ref mnn, .ref mwo, .ref mga, .ref mlo, .ref mro, .ref mle, .ref mra, .int mme, .ref mha, .int mch, .int mtm, .int mgo, .int mwa, .ref mba, .int mbl, .ref mon])), (mk, .inl (cI, 4, .inl mkf)), (mpo, .inl (cI, 12, .inl mpof)), (mnn, .inl (cI, 4, .inl mnnf)), (mwo, .inl (cJ, 12, .inr (.inl (vp_updL mwof_4 v52.toNatClampNeg w55))))] H := hP
            have hD : va_D A [(m0, .inr (8, [.int mth, .int mst, .ref mp, .int mln, .ref mk, .int mts, .ref mti, .ref mtw, .ref mi, .int mmn, .ref mpo, .int mpd, .ref mpi, .int mpl, .int mcp, .ref mre, .ref mnn, .ref mwo, .ref mga, .ref mlo, .ref mro, .ref mle, .ref mra, .int mme, .ref mha, .int mch, .int mtm, .int mgo, .int mwa, .ref mba, .int mbl, .ref mon])), (mk, .inl (cI, 4, .inl mkf)), (mpo, .inl (cI, 12, .inl mpof)), (mnn, .inl (cI, 4, .inl mnnf)), (mwo, .inl (cJ, 12, .inr (.inl (vp_updL mwof_4 v52.toNatClampNeg w55))))] := hD
            generalize ef56 : vp_updL mwof_4 v52.toNatClampNeg w55 = f56 at hP hD
            refine lv_goto (tgt := 302) hx hb dX9_valueOf_146 (by decide) ?_
            exact J302 L1_4 f56 (by first | assumption | omega) (by first | assumption | omega) H locs ls hP hD hS hl
        · have c12' := I_nlt c12
          have J69 : ∀ (L4_69 : Int32), ∀ (H : Heap) (locs : List Loc) (ls : Array Slot), va_P (dC, dI) vwCl [(m0, .inr (8, [.int mth, .int mst, .ref mp, .int mln, .ref mk, .int mts, .ref mti, .ref mtw, .ref mi, .int mmn, .ref mpo, .int mpd, .ref mpi, .int mpl, .int mcp, .ref mre, .ref mnn, .ref mwo, .ref mga, .ref mlo, .ref mro, .ref mle, .ref mra, .int mme, .ref mha, .int mch, .int mtm, .int mgo, .int mwa, .ref mba, .int mbl, .ref mon])), (mk, .inl (cI, 4, .inl mkf)), (mpo, .inl (cI, 12, .inl mpof)), (mnn, .inl (cI, 4, .inl mnnf)), (mwo, .inl (cJ, 12, .inr (.inl mwof_4)))] H → va_D A [(m0, .inr (8, [.int mth, .int mst, .ref mp, .int mln, .ref mk, .int mts, .ref mti, .ref mtw, .ref mi, .int mmn, .ref mpo, .int mpd, .ref mpi, .int mpl, .int mcp, .ref mre, .ref mnn, .ref mwo, .ref mga, .ref mlo, .ref mro, .ref mle, .ref mra, .int mme, .ref mha, .int mch, .int mtm, .int mgo, .int mwa, .ref mba, .int mbl, .ref mon])), (mk, .inl (cI, 4, .inl mkf)), (mpo, .inl (cI, 12, .inl mpof)), (mnn, .inl (cI, 4, .inl mnnf)), (mwo, .inl (cJ, 12, .inr (.inl mwof_4)))] → va_S A s.heap H locs → lv_has ls 8 [(3, .int v4), (2, .int L2_4), (1, .int L1_4), (0, .ref m0), (4, .int L4_69)] → W p l e { frames := 1, cells := 0, slots := 0, locals := 25 } s m (List.toArray [.ref m0]) below meth c H locs 0 0 Q (F0 m 69 ls []) := by
            intro L4_69 H locs ls hP hD hS hl
            refine lv_aload_n hx hb dX9_valueOf_69 rfl (lv_at hl 3 rfl) ?_
            refine va_get (D := (dC, dI)) (ci := 8) (v := .ref mwo) (C := RX9) (T := TX9) (N := 32) hx hb hts inG_X9 hown hK hP 0 rfl rfl 17 (by decide) (hts _ fl_X9_37) (fun _ h9 => h9) rfl dX9_valueOf_70 ?_
            refine lv_iload_n hx hb dX9_valueOf_73 rfl (lv_at hl 2 rfl) ?_
            refine lv_iload_n hx hb dX9_valueOf_74 rfl (lv_at hl 0 rfl) ?_
            refine lv_bipush (v := 14) hx hb dX9_valueOf_75 (by decide) ?_
            refine lv_icmp_lt (tgt := 112) hx hb dX9_valueOf_77 (by decide) (fun c57 => ?_) (fun c57 => ?_)
            · have c57' := I_lt c57
              refine lv_iload hx hb dX9_valueOf_112 (lv_at hl 4 rfl) ?_
              obtain ⟨w58, ew58⟩ : ∃ z : Int64, Int32.toInt64 L4_69 = z := ⟨_, rfl⟩
              have hw58 := J_of L4_69
              rw [ew58] at hw58
              refine lv_i2l (v := w58) hx hb dX9_valueOf_114 ew58 ?_
              refine va_last (t0 := 1) hx hb hK hP hD hS 4 (ha := rfl) (ht := rfl) (I_in (by omega) (by omega)) dX9_valueOf_115 (fun H locs hP hD hS => ?_)
              have hP : va_P (dC, dI) vwCl [(m0, .inr (8, [.int mth, .int mst, .ref mp, .int mln, .ref mk, .int mts, .ref mti, .ref mtw, .ref mi, .int mmn, .ref mpo, .int mpd, .ref mpi, .int mpl, .int mcp, .ref mre, .ref mnn, .ref mwo, .ref mga, .ref mlo, .ref mro, .ref mle, .ref mra, .int mme, .ref mha, .int mch, .int mtm, .int mgo, .int mwa, .ref mba, .int mbl, .ref mon])), (mk, .inl (cI, 4, .inl mkf)), (mpo, .inl (cI, 12, .inl mpof)), (mnn, .inl (cI, 4, .inl mnnf)), (mwo, .inl (cJ, 12, .inr (.inl (vp_updL mwof_4 L1_4.toNatClampNeg w58))))] H := hP
              have hD : va_D A [(m0, .inr (8, [.int mth, .int mst, .ref mp, .int mln, .ref mk, .int mts, .ref mti, .ref mtw, .ref mi, .int mmn, .ref mpo, .int mpd, .ref mpi, .int mpl, .int mcp, .ref mre, .ref mnn, .ref mwo, .ref mga, .ref mlo, .ref mro, .ref mle, .ref mra, .int mme, .ref mha, .int mch, .int mtm, .int mgo, .int mwa, .ref mba, .int mbl, .ref mon])), (mk, .inl (cI, 4, .inl mkf)), (mpo, .inl (cI, 12, .inl mpof)), (mnn, .inl (cI, 4, .inl mnnf)), (mwo, .inl (cJ, 12, .inr (.inl (vp_updL mwof_4 L1_4.toNatClampNeg w58))))] := hD
              generalize ef59 : vp_updL mwof_4 L1_4.toNatClampNeg w58 = f59 at hP hD
              obtain ⟨v60, ev60⟩ : ∃ y : Int32, y = L1_4 + 1 := ⟨_, rfl⟩
              try have hv60 : v60.toInt = L1_4.toInt + (1 : Int32).toInt := I_addx ev60 (by omega)
              refine lv_iinc (v := v60) (lv' := [(1, .int v60), (3, .int v4), (2, .int L2_4), (0, .ref m0), (4, .int L4_69)]) hx hb dX9_valueOf_116 hl (k := 2) rfl (by rw [ev60]; rfl) (by decide) rfl (fun ls hl => ?_)
              refine lv_goto (tgt := 302) hx hb dX9_valueOf_119 (by decide) ?_
              exact J302 v60 f59 (by first | assumption | omega) (by first | assumption | omega) H locs ls hP hD hS (lv_sub hl [1, 2, 0, 3] rfl)
            · have c57' := I_nlt c57
              refine lv_iload_n hx hb dX9_valueOf_80 rfl (lv_at hl 0 rfl) ?_
              refine lv_bipush (v := 18) hx hb dX9_valueOf_81 (by decide) ?_
              refine lv_icmp_ge (tgt := 112) hx hb dX9_valueOf_83 (by decide) (fun c61 => ?_) (fun c61 => ?_)
              · have c61' := I_le c61
                refine lv_iload hx hb dX9_valueOf_112 (lv_at hl 4 rfl) ?_
                obtain ⟨w62, ew62⟩ : ∃ z : Int64, Int32.toInt64 L4_69 = z := ⟨_, rfl⟩
                have hw62 := J_of L4_69
                rw [ew62] at hw62
                refine lv_i2l (v := w62) hx hb dX9_valueOf_114 ew62 ?_
                refine va_last (t0 := 1) hx hb hK hP hD hS 4 (ha := rfl) (ht := rfl) (I_in (by omega) (by omega)) dX9_valueOf_115 (fun H locs hP hD hS => ?_)
                have hP : va_P (dC, dI) vwCl [(m0, .inr (8, [.int mth, .int mst, .ref mp, .int mln, .ref mk, .int mts, .ref mti, .ref mtw, .ref mi, .int mmn, .ref mpo, .int mpd, .ref mpi, .int mpl, .int mcp, .ref mre, .ref mnn, .ref mwo, .ref mga, .ref mlo, .ref mro, .ref mle, .ref mra, .int mme, .ref mha, .int mch, .int mtm, .int mgo, .int mwa, .ref mba, .int mbl, .ref mon])), (mk, .inl (cI, 4, .inl mkf)), (mpo, .inl (cI, 12, .inl mpof)), (mnn, .inl (cI, 4, .inl mnnf)), (mwo, .inl (cJ, 12, .inr (.inl (vp_updL mwof_4 L1_4.toNatClampNeg w62))))] H := hP
                have hD : va_D A [(m0, .inr (8, [.int mth, .int mst, .ref mp, .int mln, .ref mk, .int mts, .ref mti, .ref mtw, .ref mi, .int mmn, .ref mpo, .int mpd, .ref mpi, .int mpl, .int mcp, .ref mre, .ref mnn, .ref mwo, .ref mga, .ref mlo, .ref mro, .ref mle, .ref mra, .int mme, .ref mha, .int mch, .int mtm, .int mgo, .int mwa, .ref mba, .int mbl, .ref mon])), (mk, .inl (cI, 4, .inl mkf)), (mpo, .inl (cI, 12, .inl mpof)), (mnn, .inl (cI, 4, .inl mnnf)), (mwo, .inl (cJ, 12, .inr (.inl (vp_updL mwof_4 L1_4.toNatClampNeg w62))))] := hD
                generalize ef63 : vp_updL mwof_4 L1_4.toNatClampNeg w62 = f63 at hP hD
                obtain ⟨v64, ev64⟩ : ∃ y : Int32, y = L1_4 + 1 := ⟨_, rfl⟩
                try have hv64 : v64.toInt = L1_4.toInt + (1 : Int32).toInt := I_addx ev64 (by omega)
                refine lv_iinc (v := v64) (lv' := [(1, .int v64), (3, .int v4), (2, .int L2_4), (0, .ref m0), (4, .int L4_69)]) hx hb dX9_valueOf_116 hl (k := 2) rfl (by rw [ev64]; rfl) (by decide) rfl (fun ls hl => ?_)
                refine lv_goto (tgt := 302) hx hb dX9_valueOf_119 (by decide) ?_
                exact J302 v64 f63 (by first | assumption | omega) (by first | assumption | omega) H locs ls hP hD hS (lv_sub hl [1, 2, 0, 3] rfl)
              · have c61' := I_nle c61
                refine lv_aload_n hx hb dX9_valueOf_86 rfl (lv_at hl 3 rfl) ?_
                refine va_get (D := (dC, dI)) (ci := 8) (v := .ref mk) (C := RX9) (T := TX9) (N := 32) hx hb hts inG_X9 hown hK hP 0 rfl rfl 4 (by decide) (hts _ fl_X9_13) (fun _ h9 => h9) rfl dX9_valueOf_87 ?_
                refine lv_iload_n hx hb dX9_valueOf_90 rfl (lv_at hl 0 rfl) ?_
                refine lv_bipush (v := 14) hx hb dX9_valueOf_91 (by decide) ?_
                refine lv_isub hx hb dX9_valueOf_93 ?_
                refine lv_topi (fun v65 ev65 => ?_)
                try have hv65 : v65.toInt = v4.toInt - (14 : Int32).toInt := I_subx ev65 (by omega)
                refine va_iald (t0 := 0) hx hb hK hP 1 (ha := rfl) (ht := rfl) (I_in (by omega) (by omega)) dX9_valueOf_94 ?_
                refine lv_topi (fun v66 ev66 => ?_)
                refine lv_iconst (v := 1) hx hb dX9_valueOf_95 (by decide) ?_
                refine lv_icmp_ne (tgt := 112) hx hb dX9_valueOf_96 (by decide) (fun c67 => ?_) (fun c67 => ?_)
                · have c67' := I_ne c67
                  refine lv_iload hx hb dX9_valueOf_112 (lv_at hl 4 rfl) ?_
                  obtain ⟨w68, ew68⟩ : ∃ z : Int64, Int32.toInt64 L4_69 = z := ⟨_, rfl⟩
                  have hw68 := J_of L4_69
                  rw [ew68] at hw68
                  refine lv_i2l (v := w68) hx hb dX9_valueOf_114 ew68 ?_
                  refine va_last (t0 := 1) hx hb hK hP hD hS 4 (ha := rfl) (ht := rfl) (I_in (by omega) (by omega)) dX9_valueOf_115 (fun H locs hP hD hS => ?_)
                  have hP : va_P (dC, dI) vwCl [(m0, .inr (8, [.int mth, .int mst, .ref mp, .int mln, .ref mk, .int mts, .ref mti, .ref mtw, .ref mi, .int mmn, .ref mpo, .int mpd, .ref mpi, .int mpl, .int mcp, .ref mre, .ref mnn, .ref mwo, .ref mga, .ref mlo, .ref mro, .ref mle, .ref mra, .int mme, .ref mha, .int mch, .int mtm, .int mgo, .int mwa, .ref mba, .int mbl, .ref mon])), (mk, .inl (cI, 4, .inl mkf)), (mpo, .inl (cI, 12, .inl mpof)), (mnn, .inl (cI, 4, .inl mnnf)), (mwo, .inl (cJ, 12, .inr (.inl (vp_updL mwof_4 L1_4.toNatClampNeg w68))))] H := hP
                  have hD : va_D A [(m0, .inr (8, [.int mth, .int mst, .ref mp, .int mln, .ref mk, .int mts, .ref mti, .ref mtw, .ref mi, .int mmn, .ref mpo, .int mpd, .ref mpi, .int mpl, .int mcp, .ref mre, .ref mnn, .ref mwo, .ref mga, .ref mlo, .ref mro, .ref mle, .ref mra, .int mme, .ref mha, .int mch, .int mtm, .int mgo, .int mwa, .ref mba, .int mbl, .ref mon])), (mk, .inl (cI, 4, .inl mkf)), (mpo, .inl (cI, 12, .inl mpof)), (mnn, .inl (cI, 4, .inl mnnf)), (mwo, .inl (cJ, 12, .inr (.inl (vp_updL mwof_4 L1_4.toNatClampNeg w68))))] := hD
                  generalize ef69 : vp_updL mwof_4 L1_4.toNatClampNeg w68 = f69 at hP hD
                  obtain ⟨v70, ev70⟩ : ∃ y : Int32, y = L1_4 + 1 := ⟨_, rfl⟩
                  try have hv70 : v70.toInt = L1_4.toInt + (1 : Int32).toInt := I_addx ev70 (by omega)
                  refine lv_iinc (v := v70) (lv' := [(1, .int v70), (3, .int v4), (2, .int L2_4), (0, .ref m0), (4, .int L4_69)]) hx hb dX9_valueOf_116 hl (k := 2) rfl (by rw [ev70]; rfl) (by decide) rfl (fun ls hl => ?_)
                  refine lv_goto (tgt := 302) hx hb dX9_valueOf_119 (by decide) ?_
                  exact J302 v70 f69 (by first | assumption | omega) (by first | assumption | omega) H locs ls hP hD hS (lv_sub hl [1, 2, 0, 3] rfl)
                · have c67' := I_eq c67
                  refine lv_iload hx hb dX9_valueOf_99 (lv_at hl 4 rfl) ?_
                  refine lv_if_eq (tgt := 108) hx hb dX9_valueOf_101 (by decide) (fun c71 => ?_) (fun c71 => ?_)
                  · have c71' := I_eq c71
                    refine lv_lconst (v := 0) hx hb dX9_valueOf_108 (by decide) ?_
                    refine lv_goto (tgt := 115) hx hb dX9_valueOf_109 (by decide) ?_
                    refine va_last (t0 := 1) hx hb hK hP hD hS 4 (ha := rfl) (ht := rfl) (I_in (by omega) (by omega)) dX9_valueOf_115 (fun H locs hP hD hS => ?_)
                    have hP : va_P (dC, dI) vwCl [(m0, .inr (8, [.int mth, .int mst, .ref mp, .int mln, .ref mk, .int mts, .ref mti, .ref mtw, .ref mi, .int mmn, .ref mpo, .int mpd, .ref mpi, .int mpl, .int mcp, .ref mre, .ref mnn, .ref mwo, .ref mga, .ref mlo, .ref mro, .ref mle, .ref mra, .int mme, .ref mha, .int mch, .int mtm, .int mgo, .int mwa, .ref mba, .int mbl, .ref mon])), (mk, .inl (cI, 4, .inl mkf)), (mpo, .inl (cI, 12, .inl mpof)), (mnn, .inl (cI, 4, .inl mnnf)), (mwo, .inl (cJ, 12, .inr (.inl (vp_updL mwof_4 L1_4.toNatClampNeg 0))))] H := hP
                    have hD : va_D A [(m0, .inr (8, [.int mth, .int mst, .ref mp, .int mln, .ref mk, .int mts, .ref mti, .ref mtw, .ref mi, .int mmn, .ref mpo, .int mpd, .ref mpi, .int mpl, .int mcp, .ref mre, .ref mnn, .ref mwo, .ref mga, .ref mlo, .ref mro, .ref mle, .ref mra, .int mme, .ref mha, .int mch, .int mtm, .int mgo, .int mwa, .ref mba, .int mbl, .ref mon])), (mk, .inl (cI, 4, .inl mkf)), (mpo, .inl (cI, 12, .inl mpof)), (mnn, .inl (cI, 4, .inl mnnf)), (mwo, .inl (cJ, 12, .inr (.inl (vp_updL mwof_4 L1_4.toNatClampNeg 0))))] := hD
                    generalize ef72 : vp_updL mwof_4 L1_4.toNatClampNeg 0 = f72 at hP hD
                    obtain ⟨v73, ev73⟩ : ∃ y : Int32, y = L1_4 + 1 := ⟨_, rfl⟩
                    try have hv73 : v73.toInt = L1_4.toInt + (1 : Int32).toInt := I_addx ev73 (by omega)
                    refine lv_iinc (v := v73) (lv' := [(1, .int v73), (3, .int v4), (2, .int L2_4), (0, .ref m0), (4, .int L4_69)]) hx hb dX9_valueOf_116 hl (k := 2) rfl (by rw [ev73]; rfl) (by decide) rfl (fun ls hl => ?_)
                    refine lv_goto (tgt := 302) hx hb dX9_valueOf_119 (by decide) ?_
                    exact J302 v73 f72 (by first | assumption | omega) (by first | assumption | omega) H locs ls hP hD hS (lv_sub hl [1, 2, 0, 3] rfl)
                  · have c71' := I_ne c71
                    refine lv_lconst (v := 1) hx hb dX9_valueOf_104 (by decide) ?_
                    refine lv_goto (tgt := 115) hx hb dX9_valueOf_105 (by decide) ?_
                    refine va_last (t0 := 1) hx hb hK hP hD hS 4 (ha := rfl) (ht := rfl) (I_in (by omega) (by omega)) dX9_valueOf_115 (fun H locs hP hD hS => ?_)
                    have hP : va_P (dC, dI) vwCl [(m0, .inr (8, [.int mth, .int mst, .ref mp, .int mln, .ref mk, .int mts, .ref mti, .ref mtw, .ref mi, .int mmn, .ref mpo, .int mpd, .ref mpi, .int mpl, .int mcp, .ref mre, .ref mnn, .ref mwo, .ref mga, .ref mlo, .ref mro, .ref mle, .ref mra, .int mme, .ref mha, .int mch, .int mtm, .int mgo, .int mwa, .ref mba, .int mbl, .ref mon])), (mk, .inl (cI, 4, .inl mkf)), (mpo, .inl (cI, 12, .inl mpof)), (mnn, .inl (cI, 4, .inl mnnf)), (mwo, .inl (cJ, 12, .inr (.inl (vp_updL mwof_4 L1_4.toNatClampNeg 1))))] H := hP
                    have hD : va_D A [(m0, .inr (8, [.int mth, .int mst, .ref mp, .int mln, .ref mk, .int mts, .ref mti, .ref mtw, .ref mi, .int mmn, .ref mpo, .int mpd, .ref mpi, .int mpl, .int mcp, .ref mre, .ref mnn, .ref mwo, .ref mga, .ref mlo, .ref mro, .ref mle, .ref mra, .int mme, .ref mha, .int mch, .int mtm, .int mgo, .int mwa, .ref mba, .int mbl, .ref mon])), (mk, .inl (cI, 4, .inl mkf)), (mpo, .inl (cI, 12, .inl mpof)), (mnn, .inl (cI, 4, .inl mnnf)), (mwo, .inl (cJ, 12, .inr (.inl (vp_updL mwof_4 L1_4.toNatClampNeg 1))))] := hD
                    generalize ef74 : vp_updL mwof_4 L1_4.toNatClampNeg 1 = f74 at hP hD
                    obtain ⟨v75, ev75⟩ : ∃ y : Int32, y = L1_4 + 1 := ⟨_, rfl⟩
                    try have hv75 : v75.toInt = L1_4.toInt + (1 : Int32).toInt := I_addx ev75 (by omega)
                    refine lv_iinc (v := v75) (lv' := [(1, .int v75), (3, .int v4), (2, .int L2_4), (0, .ref m0), (4, .int L4_69)]) hx hb dX9_valueOf_116 hl (k := 2) rfl (by rw [ev75]; rfl) (by decide) rfl (fun ls hl => ?_)
                    refine lv_goto (tgt := 302) hx hb dX9_valueOf_119 (by decide) ?_
                    exact J302 v75 f74 (by first | assumption | omega) (by first | assumption | omega) H locs ls hP hD hS (lv_sub hl [1, 2, 0, 3] rfl)
          refine lv_iload_n hx hb dX9_valueOf_25 rfl (lv_at hl 0 rfl) ?_
          refine lv_bipush (v := 18) hx hb dX9_valueOf_26 (by decide) ?_
          refine lv_icmp_lt (tgt := 38) hx hb dX9_valueOf_28 (by decide) (fun c76 => ?_) (fun c76 => ?_)
          · have c76' := I_lt c76
            refine lv_iload_n hx hb dX9_valueOf_38 rfl (lv_at hl 0 rfl) ?_
            refine lv_bipush (v := 14) hx hb dX9_valueOf_39 (by decide) ?_
            refine lv_icmp_lt (tgt := 56) hx hb dX9_valueOf_41 (by decide) (fun c77 => ?_) (fun c77 => ?_)
            · have c77' := I_lt c77
              refine lv_iload_n hx hb dX9_valueOf_56 rfl (lv_at hl 0 rfl) ?_
              refine lv_bipush (v := 12) hx hb dX9_valueOf_57 (by decide) ?_
              refine lv_icmp_ne (tgt := 66) hx hb dX9_valueOf_59 (by decide) (fun c78 => ?_) (fun c78 => ?_)
              · have c78' := I_ne c78
                refine lv_iconst (v := 0) hx hb dX9_valueOf_66 (by decide) ?_
                refine lv_istore (lv' := [(4, .int 0), (3, .int v4), (2, .int L2_4), (1, .int L1_4), (0, .ref m0)]) hx hb dX9_valueOf_67 hl (by decide) rfl (fun ls hl => ?_)
                exact J69 0  H locs ls hP hD hS (lv_sub hl [1, 2, 3, 4, 0] rfl)
              · have c78' := I_eq c78
                refine lv_iconst (v := 1) hx hb dX9_valueOf_62 (by decide) ?_
                refine lv_goto (tgt := 67) hx hb dX9_valueOf_63 (by decide) ?_
                refine lv_istore (lv' := [(4, .int 1), (3, .int v4), (2, .int L2_4), (1, .int L1_4), (0, .ref m0)]) hx hb dX9_valueOf_67 hl (by decide) rfl (fun ls hl => ?_)
                exact J69 1  H locs ls hP hD hS (lv_sub hl [1, 2, 3, 4, 0] rfl)
            · have c77' := I_nlt c77
              refine lv_aload_n hx hb dX9_valueOf_44 rfl (lv_at hl 3 rfl) ?_
              refine va_get (D := (dC, dI)) (ci := 8) (v := .ref mnn) (C := RX9) (T := TX9) (N := 32) hx hb hts inG_X9 hown hK hP 0 rfl rfl 16 (by decide) (hts _ fl_X9_34) (fun _ h9 => h9) rfl dX9_valueOf_45 ?_
              refine lv_iload_n hx hb dX9_valueOf_48 rfl (lv_at hl 0 rfl) ?_
              refine lv_bipush (v := 14) hx hb dX9_valueOf_49 (by decide) ?_
              refine lv_isub hx hb dX9_valueOf_51 ?_
              refine lv_topi (fun v79 ev79 => ?_)
              try have hv79 : v79.toInt = v4.toInt - (14 : Int32).toInt := I_subx ev79 (by omega)
              refine va_iald (t0 := 0) hx hb hK hP 3 (ha := rfl) (ht := rfl) (I_in (by omega) (by omega)) dX9_valueOf_52 ?_
              refine lv_topi (fun v80 ev80 => ?_)
              refine lv_goto (tgt := 67) hx hb dX9_valueOf_53 (by decide) ?_
              refine lv_istore (lv' := [(4, .int v80), (3, .int v4), (2, .int L2_4), (1, .int L1_4), (0, .ref m0)]) hx hb dX9_valueOf_67 hl (by decide) rfl (fun ls hl => ?_)
              exact J69 v80  H locs ls hP hD hS (lv_sub hl [1, 2, 3, 4, 0] rfl)
          · have c76' := I_nlt c76
            refine lv_iload_n hx hb dX9_valueOf_31 rfl (lv_at hl 0 rfl) ?_
            refine lv_bipush (v := 18) hx hb dX9_valueOf_32 (by decide) ?_
            refine lv_isub hx hb dX9_valueOf_34 ?_
            refine lv_topi (fun v81 ev81 => ?_)
            try have hv81 : v81.toInt = v4.toInt - (18 : Int32).toInt := I_subx ev81 (by omega)
            refine lv_goto (tgt := 67) hx hb dX9_valueOf_35 (by decide) ?_
            refine lv_istore (lv' := [(4, .int v81), (3, .int v4), (2, .int L2_4), (1, .int L1_4), (0, .ref m0)]) hx hb dX9_valueOf_67 hl (by decide) rfl (fun ls hl => ?_)
            exact J69 v81  H locs ls hP hD hS (lv_sub hl [1, 2, 3, 4, 0] rfl)
  exact J4 ((12 - (0 : Int32).toInt).toNat + 1) 0 0 mwof (by first | assumption | omega) (by first | (rw [hd1 (0 : Int32) (by omega)]; omega) | (rw [hg_0 mpof (by omega)]; omega)) (by first | assumption | omega) (by omega) H locs ls hP hD hS hl
