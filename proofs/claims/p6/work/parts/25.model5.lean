set_option maxHeartbeats 4000000 in
set_option maxRecDepth 100000 in
theorem c_X9_isMending (l : Launch) (dC : Nat → ClassId) (dI : Nat → Nat → Nat) (cI cJ : ClassId) (base bB bO : Nat) (m0 : Nat) (mth : Int32) (mst : Int32) (mp : Nat) (mln : Int32) (mk : Nat) (mts : Int32) (mti : Nat) (mtw : Nat) (mi : Nat) (mmn : Int32) (mpo : Nat) (mpd : Int32) (mpi : Nat) (mpl : Int32) (mcp : Int32) (mre : Nat) (mnn : Nat) (mwo : Nat) (mga : Nat) (mlo : Nat) (mro : Nat) (mle : Nat) (mra : Nat) (mme : Int32) (mha : Nat) (mch : Int32) (mtm : Int32) (mgo : Int32) (mwa : Int32) (mba : Nat) (mbl : Int32) (mon : Nat) (i : Int32) (hq0 : 0 ≤ mme.toInt ∧ mme.toInt ≤ 300) : CtI l dC dI cI cJ base bB bO yX9_isMending cX9_isMending 2 .boolean 1 25 [.ref m0, .int i] [(m0, .inr (8, [.int mth, .int mst, .ref mp, .int mln, .ref mk, .int mts, .ref mti, .ref mtw, .ref mi, .int mmn, .ref mpo, .int mpd, .ref mpi, .int mpl, .int mcp, .ref mre, .ref mnn, .ref mwo, .ref mga, .ref mlo, .ref mro, .ref mle, .ref mra, .int mme, .ref mha, .int mch, .int mtm, .int mgo, .int mwa, .ref mba, .int mbl, .ref mon]))] (Unit) (fun (res : Int32) (u : Unit) => ((res.toInt = 1 ∧ 0 ≤ i.toInt ∧ i.toInt < mme.toInt) ∨ (res.toInt = 0 ∧ (i.toInt < 0 ∨ mme.toInt ≤ i.toInt))) ∧ True) (fun (u : Unit) => [(m0, .inr (8, [.int mth, .int mst, .ref mp, .int mln, .ref mk, .int mts, .ref mti, .ref mtw, .ref mi, .int mmn, .ref mpo, .int mpd, .ref mpi, .int mpl, .int mcp, .ref mre, .ref mnn, .ref mwo, .ref mga, .ref mlo, .ref mro, .ref mle, .ref mra, .int mme, .ref mha, .int mch, .int mtm, .int mgo, .int mwa, .ref mba, .int mbl, .ref mon]))]) := by
  refine entI (by decide) (Nat.le_of_ble_eq_true rfl) ?_
  intro p e s m below meth c A Q ls hAt hret hP hD hS hl
  obtain ⟨hx, hb, hml, hown, hts, hA, hAb, hK, hE, hlocks, hin⟩ := hAt
  have hG : CG dC dI cI cJ base bB bO cX9_isMending 2 RX9 p s m (List.toArray [.ref m0, .int i]) c A := ⟨hx, hb, hml, hown, hts, hA, hAb, hK, hE⟩
  have hl : lv_has ls 2 [(0, .ref m0), (1, .int i)] := hl
  have c_0 : (0 : Int32).toInt = 0 := by decide
  have c_1 : (1 : Int32).toInt = 1 := by decide
  have cl_0 : (0 : Int64).toInt = 0 := by decide
  have cl_1 : (1 : Int64).toInt = 1 := by decide
  obtain ⟨H, hHe⟩ : ∃ H : Heap, H = s.heap := ⟨_, rfl⟩
  obtain ⟨locs, hle⟩ : ∃ z : List Loc, z = [] := ⟨_, rfl⟩
  rw [← hHe] at hP
  have hS : va_S A s.heap H locs := by rw [hHe, hle]; exact hS
  suffices hgo : W p l e { frames := 1, cells := 0, slots := 0, locals := 25 } s m (List.toArray [.ref m0, .int i]) below meth c H locs 0 0 Q (F0 m 0 ls []) by rw [hHe, hle] at hgo; exact hgo
  refine lv_iload_n hx hb dX9_isMending_0 rfl (lv_at hl 1 rfl) ?_
  obtain ⟨w1, ew1⟩ : ∃ z : Int64, Int32.toInt64 i = z := ⟨_, rfl⟩
  have hw1 := J_of i
  rw [ew1] at hw1
  refine lv_i2l (v := w1) hx hb dX9_isMending_1 ew1 ?_
  refine lv_lconst (v := 0) hx hb dX9_isMending_2 (by decide) ?_
  refine lv_aload_n hx hb dX9_isMending_3 rfl (lv_at hl 0 rfl) ?_
  refine va_get (D := (dC, dI)) (ci := 8) (v := .int mme) (C := RX9) (T := TX9) (N := 32) hx hb hts inG_X9 hown hK hP 0 rfl rfl 23 (by decide) (hts _ fl_X9_174) (fun _ h9 => h9) rfl dX9_isMending_4 ?_
  obtain ⟨w2, ew2⟩ : ∃ z : Int64, Int32.toInt64 mme = z := ⟨_, rfl⟩
  have hw2 := J_of mme
  rw [ew2] at hw2
  refine lv_i2l (v := w2) hx hb dX9_isMending_7 ew2 ?_
  refine lv_lconst (v := 1) hx hb dX9_isMending_8 (by decide) ?_
  refine lv_lsub hx hb dX9_isMending_9 ?_
  refine lv_topl (fun w3 ew3 => ?_)
  try have hw3 : w3.toInt = w2.toInt - (1 : Int64).toInt := J_subx ew3 (by omega)
  refine calOI (rest := []) (wr := [(m0, .inr (8, [.int mth, .int mst, .ref mp, .int mln, .ref mk, .int mts, .ref mti, .ref mtw, .ref mi, .int mmn, .ref mpo, .int mpd, .ref mpi, .int mpl, .int mcp, .ref mre, .ref mnn, .ref mwo, .ref mga, .ref mlo, .ref mro, .ref mle, .ref mra, .int mme, .ref mha, .int mch, .int mtm, .int mgo, .int mwa, .ref mba, .int mbl, .ref mon]))]) hG (c_X9_in l dC dI cI cJ base bB bO w1 0 w3 ) ml_X9_77 st_X9_in ini_X9 cd_X9_in hd_X9_in.2 ⟨(Nat.le_of_ble_eq_true rfl), (Nat.le_of_ble_eq_true rfl)⟩ (Nat.le_of_ble_eq_true rfl) (Nat.le_of_ble_eq_true rfl) hP hD hS [] [0] rfl rfl rfl rfl (by decide) hl.1 rfl (Nat.le_of_ble_eq_true rfl) dX9_isMending_10 (fun r4 u H locs hw5 hP hD hS => ?_)
  have hw5 : ((r4.toInt = 1 ∧ (0 : Int64).toInt ≤ w1.toInt ∧ w1.toInt ≤ w3.toInt) ∨ (r4.toInt = 0 ∧ (w1.toInt < (0 : Int64).toInt ∨ w3.toInt < w1.toInt))) ∧ True := hw5
  obtain ⟨hp6, -⟩ := hw5
  have hP : va_P (dC, dI) vwCl [(m0, .inr (8, [.int mth, .int mst, .ref mp, .int mln, .ref mk, .int mts, .ref mti, .ref mtw, .ref mi, .int mmn, .ref mpo, .int mpd, .ref mpi, .int mpl, .int mcp, .ref mre, .ref mnn, .ref mwo, .ref mga, .ref mlo, .ref mro, .ref mle, .ref mra, .int mme, .ref mha, .int mch, .int mtm, .int mgo, .int mwa, .ref mba, .int mbl, .ref mon]))] H := hP
  have hD : va_D A [(m0, .inr (8, [.int mth, .int mst, .ref mp, .int mln, .ref mk, .int mts, .ref mti, .ref mtw, .ref mi, .int mmn, .ref mpo, .int mpd, .ref mpi, .int mpl, .int mcp, .ref mre, .ref mnn, .ref mwo, .ref mga, .ref mlo, .ref mro, .ref mle, .ref mra, .int mme, .ref mha, .int mch, .int mtm, .int mgo, .int mwa, .ref mba, .int mbl, .ref mon]))] := hD
  exact hret r4 () H locs 13 ls (by first | rfl | exact I_narz (by omega)) ⟨(show (r4.toInt = 1 ∧ 0 ≤ i.toInt ∧ i.toInt < mme.toInt) ∨ (r4.toInt = 0 ∧ (i.toInt < 0 ∨ mme.toInt ≤ i.toInt)) from by first | rfl | assumption | omega), trivial⟩ hP hD hS dX9_isMending_13
set_option maxHeartbeats 4000000 in
set_option maxRecDepth 100000 in
theorem c_X9_changes (l : Launch) (dC : Nat → ClassId) (dI : Nat → Nat → Nat) (cI cJ : ClassId) (base bB bO : Nat) (m0 : Nat) (mth : Int32) (mst : Int32) (mp : Nat) (mln : Int32) (mk : Nat) (mts : Int32) (mti : Nat) (mtw : Nat) (mi : Nat) (mmn : Int32) (mpo : Nat) (mpd : Int32) (mpi : Nat) (mpl : Int32) (mcp : Int32) (mre : Nat) (mnn : Nat) (mwo : Nat) (mga : Nat) (mlo : Nat) (mro : Nat) (mle : Nat) (mra : Nat) (mme : Int32) (mha : Nat) (mch : Int32) (mtm : Int32) (mgo : Int32) (mwa : Int32) (mba : Nat) (mbl : Int32) (mon : Nat)  : CtI l dC dI cI cJ base bB bO yX9_changes cX9_changes 1 .int 0 0 [.ref m0] [(m0, .inr (8, [.int mth, .int mst, .ref mp, .int mln, .ref mk, .int mts, .ref mti, .ref mtw, .ref mi, .int mmn, .ref mpo, .int mpd, .ref mpi, .int mpl, .int mcp, .ref mre, .ref mnn, .ref mwo, .ref mga, .ref mlo, .ref mro, .ref mle, .ref mra, .int mme, .ref mha, .int mch, .int mtm, .int mgo, .int mwa, .ref mba, .int mbl, .ref mon]))] ((Int32)) (fun (res : Int32) (u : (Int32)) => True) (fun (u : (Int32)) => [(m0, .inr (8, [.int u, .int mst, .ref mp, .int mln, .ref mk, .int mts, .ref mti, .ref mtw, .ref mi, .int mmn, .ref mpo, .int mpd, .ref mpi, .int mpl, .int mcp, .ref mre, .ref mnn, .ref mwo, .ref mga, .ref mlo, .ref mro, .ref mle, .ref mra, .int mme, .ref mha, .int mch, .int mtm, .int mgo, .int mwa, .ref mba, .int mbl, .ref mon]))]) := by
  refine entI (by decide) (Nat.le_of_ble_eq_true rfl) ?_
  intro p e s m below meth c A Q ls hAt hret hP hD hS hl
  obtain ⟨hx, hb, hml, hown, hts, hA, hAb, hK, hE, hlocks, hin⟩ := hAt
  have hG : CG dC dI cI cJ base bB bO cX9_changes 1 RX9 p s m (List.toArray [.ref m0]) c A := ⟨hx, hb, hml, hown, hts, hA, hAb, hK, hE⟩
  have hl : lv_has ls 1 [(0, .ref m0)] := hl
  have c_m1 : (-1 : Int32).toInt = -1 := by decide
  have c_0 : (0 : Int32).toInt = 0 := by decide
  have c_1 : (1 : Int32).toInt = 1 := by decide
  obtain ⟨H, hHe⟩ : ∃ H : Heap, H = s.heap := ⟨_, rfl⟩
  obtain ⟨locs, hle⟩ : ∃ z : List Loc, z = [] := ⟨_, rfl⟩
  rw [← hHe] at hP
  have hS : va_S A s.heap H locs := by rw [hHe, hle]; exact hS
  suffices hgo : W p l e { frames := 0, cells := 0, slots := 0, locals := 0 } s m (List.toArray [.ref m0]) below meth c H locs 0 0 Q (F0 m 0 ls []) by rw [hHe, hle] at hgo; exact hgo
  refine lv_aload_n hx hb dX9_changes_0 rfl (lv_at hl 0 rfl) ?_
  refine lv_iconst (v := 0) hx hb dX9_changes_1 (by decide) ?_
  refine va_put (D := (dC, dI)) (ci := 8) (v := .int 0) (ty := .int) (C := RX9) (T := TX9) (N := 32) hx hb hts inG_X9 tyX9 tyX9_ok nmX9 hown hK hP hD hS 0 rfl rfl 0 (by decide) (hts _ fl_X9_69) (fun _ h9 => h9) rfl (by decide +kernel) rfl rfl (Nat.le_of_ble_eq_true rfl) dX9_changes_2 (fun H locs hP hD hS => ?_)
  have hP : va_P (dC, dI) vwCl [(m0, .inr (8, [.int 0, .int mst, .ref mp, .int mln, .ref mk, .int mts, .ref mti, .ref mtw, .ref mi, .int mmn, .ref mpo, .int mpd, .ref mpi, .int mpl, .int mcp, .ref mre, .ref mnn, .ref mwo, .ref mga, .ref mlo, .ref mro, .ref mle, .ref mra, .int mme, .ref mha, .int mch, .int mtm, .int mgo, .int mwa, .ref mba, .int mbl, .ref mon]))] H := hP
  have hD : va_D A [(m0, .inr (8, [.int 0, .int mst, .ref mp, .int mln, .ref mk, .int mts, .ref mti, .ref mtw, .ref mi, .int mmn, .ref mpo, .int mpd, .ref mpi, .int mpl, .int mcp, .ref mre, .ref mnn, .ref mwo, .ref mga, .ref mlo, .ref mro, .ref mle, .ref mra, .int mme, .ref mha, .int mch, .int mtm, .int mgo, .int mwa, .ref mba, .int mbl, .ref mon]))] := hD
  refine lv_aload_n hx hb dX9_changes_5 rfl (lv_at hl 0 rfl) ?_
  refine va_get (D := (dC, dI)) (ci := 8) (v := .int mme) (C := RX9) (T := TX9) (N := 32) hx hb hts inG_X9 hown hK hP 0 rfl rfl 23 (by decide) (hts _ fl_X9_174) (fun _ h9 => h9) rfl dX9_changes_6 ?_
  refine lv_if_ne (tgt := 16) hx hb dX9_changes_9 (by decide) (fun c1 => ?_) (fun c1 => ?_)
  · have c1' := I_ne c1
    refine lv_aload_n hx hb dX9_changes_16 rfl (lv_at hl 0 rfl) ?_
    refine va_get (D := (dC, dI)) (ci := 8) (v := .int mch) (C := RX9) (T := TX9) (N := 32) hx hb hts inG_X9 hown hK hP 0 rfl rfl 25 (by decide) (hts _ fl_X9_59) (fun _ h9 => h9) rfl dX9_changes_17 ?_
    exact hret mch 0 H locs 20 ls rfl trivial hP hD hS dX9_changes_20
  · have c1' := I_eq c1
    refine lv_iconst (v := (-1)) hx hb dX9_changes_12 (by decide) ?_
    refine lv_goto (tgt := 20) hx hb dX9_changes_13 (by decide) ?_
    exact hret (-1) 0 H locs 20 ls rfl trivial hP hD hS dX9_changes_20
set_option maxHeartbeats 4000000 in
set_option maxRecDepth 100000 in
theorem c_X9_mending (l : Launch) (dC : Nat → ClassId) (dI : Nat → Nat → Nat) (cI cJ : ClassId) (base bB bO : Nat) (m0 : Nat) (mth : Int32) (mst : Int32) (mp : Nat) (mln : Int32) (mk : Nat) (mts : Int32) (mti : Nat) (mtw : Nat) (mi : Nat) (mmn : Int32) (mpo : Nat) (mpd : Int32) (mpi : Nat) (mpl : Int32) (mcp : Int32) (mre : Nat) (mnn : Nat) (mwo : Nat) (mga : Nat) (mlo : Nat) (mro : Nat) (mle : Nat) (mra : Nat) (mme : Int32) (mha : Nat) (mch : Int32) (mtm : Int32) (mgo : Int32) (mwa : Int32) (mba : Nat) (mbl : Int32) (mon : Nat) (mrof : Nat → Int32) (mlef : Nat → Int32) (i : Int32) (x : Int32) (hq0 : 0 ≤ mme.toInt ∧ mme.toInt ≤ 300) (hq1 : ∀ j : Nat, 0 ≤ (mlef j).toInt ∧ (mlef j).toInt ≤ 12) : CtI l dC dI cI cJ base bB bO yX9_mending cX9_mending 3 .int 2 46 [.ref m0, .int i, .int x] [(m0, .inr (8, [.int mth, .int mst, .ref mp, .int mln, .ref mk, .int mts, .ref mti, .ref mtw, .ref mi, .int mmn, .ref mpo, .int mpd, .ref mpi, .int mpl, .int mcp, .ref mre, .ref mnn, .ref mwo, .ref mga, .ref mlo, .ref mro, .ref mle, .ref mra, .int mme, .ref mha, .int mch, .int mtm, .int mgo, .int mwa, .ref mba, .int mbl, .ref mon])), (mro, .inl (cI, 3600, .inl mrof)), (mle, .inl (cI, 300, .inl mlef))] ((Int32)) (fun (res : Int32) (u : (Int32)) => True) (fun (u : (Int32)) => [(m0, .inr (8, [.int u, .int mst, .ref mp, .int mln, .ref mk, .int mts, .ref mti, .ref mtw, .ref mi, .int mmn, .ref mpo, .int mpd, .ref mpi, .int mpl, .int mcp, .ref mre, .ref mnn, .ref mwo, .ref mga, .ref mlo, .ref mro, .ref mle, .ref mra, .int mme, .ref mha, .int mch, .int mtm, .int mgo, .int mwa, .ref mba, .int mbl, .ref mon])), (mro, .inl (cI, 3600, .inl mrof)), (mle, .inl (cI, 300, .inl mlef))]) := by
  refine entI (by decide) (Nat.le_of_ble_eq_true rfl) ?_
  intro p e s m below meth c A Q ls hAt hret hP hD hS hl
  obtain ⟨hx, hb, hml, hown, hts, hA, hAb, hK, hE, hlocks, hin⟩ := hAt
  have hG : CG dC dI cI cJ base bB bO cX9_mending 3 RX9 p s m (List.toArray [.ref m0, .int i, .int x]) c A := ⟨hx, hb, hml, hown, hts, hA, hAb, hK, hE⟩
  have hl : lv_has ls 3 [(0, .ref m0), (1, .int i), (2, .int x)] := hl
  have c_m1 : (-1 : Int32).toInt = -1 := by decide
  have c_0 : (0 : Int32).toInt = 0 := by decide
  have c_1 : (1 : Int32).toInt = 1 := by decide
  have c_12 : (12 : Int32).toInt = 12 := by decide
  have cl_0 : (0 : Int64).toInt = 0 := by decide
  have cl_1 : (1 : Int64).toInt = 1 := by decide
  obtain ⟨H, hHe⟩ : ∃ H : Heap, H = s.heap := ⟨_, rfl⟩
  obtain ⟨locs, hle⟩ : ∃ z : List Loc, z = [] := ⟨_, rfl⟩
  rw [← hHe] at hP
  have hS : va_S A s.heap H locs := by rw [hHe, hle]; exact hS
  suffices hgo : W p l e { frames := 2, cells := 0, slots := 0, locals := 46 } s m (List.toArray [.ref m0, .int i, .int x]) below meth c H locs 0 0 Q (F0 m 0 ls []) by rw [hHe, hle] at hgo; exact hgo
  refine lv_aload_n hx hb dX9_mending_0 rfl (lv_at hl 0 rfl) ?_
  refine lv_iconst (v := 0) hx hb dX9_mending_1 (by decide) ?_
  refine va_put (D := (dC, dI)) (ci := 8) (v := .int 0) (ty := .int) (C := RX9) (T := TX9) (N := 32) hx hb hts inG_X9 tyX9 tyX9_ok nmX9 hown hK hP hD hS 0 rfl rfl 0 (by decide) (hts _ fl_X9_69) (fun _ h9 => h9) rfl (by decide +kernel) rfl rfl (Nat.le_of_ble_eq_true rfl) dX9_mending_2 (fun H locs hP hD hS => ?_)
  have hP : va_P (dC, dI) vwCl [(m0, .inr (8, [.int 0, .int mst, .ref mp, .int mln, .ref mk, .int mts, .ref mti, .ref mtw, .ref mi, .int mmn, .ref mpo, .int mpd, .ref mpi, .int mpl, .int mcp, .ref mre, .ref mnn, .ref mwo, .ref mga, .ref mlo, .ref mro, .ref mle, .ref mra, .int mme, .ref mha, .int mch, .int mtm, .int mgo, .int mwa, .ref mba, .int mbl, .ref mon])), (mro, .inl (cI, 3600, .inl mrof)), (mle, .inl (cI, 300, .inl mlef))] H := hP
  have hD : va_D A [(m0, .inr (8, [.int 0, .int mst, .ref mp, .int mln, .ref mk, .int mts, .ref mti, .ref mtw, .ref mi, .int mmn, .ref mpo, .int mpd, .ref mpi, .int mpl, .int mcp, .ref mre, .ref mnn, .ref mwo, .ref mga, .ref mlo, .ref mro, .ref mle, .ref mra, .int mme, .ref mha, .int mch, .int mtm, .int mgo, .int mwa, .ref mba, .int mbl, .ref mon])), (mro, .inl (cI, 3600, .inl mrof)), (mle, .inl (cI, 300, .inl mlef))] := hD
  refine lv_aload_n hx hb dX9_mending_5 rfl (lv_at hl 0 rfl) ?_
  refine lv_iload_n hx hb dX9_mending_6 rfl (lv_at hl 1 rfl) ?_
  refine calI (rest := []) (wr := [(mro, .inl (cI, 3600, .inl mrof)), (mle, .inl (cI, 300, .inl mlef))]) hG (c_X9_isMending l dC dI cI cJ base bB bO m0 0 mst mp mln mk mts mti mtw mi mmn mpo mpd mpi mpl mcp mre mnn mwo mga mlo mro mle mra mme mha mch mtm mgo mwa mba mbl mon i (by first | assumption | omega)) ml_X9_211 im_X9_isMending se_X9_isMending ini_X9 cd_X9_isMending hd_X9_isMending ⟨(Nat.le_of_ble_eq_true rfl), (Nat.le_of_ble_eq_true rfl)⟩ (Nat.le_of_ble_eq_true rfl) (Nat.le_of_ble_eq_true rfl) hP hD hS [0] [1, 2] rfl rfl rfl rfl (by decide) 8 0 rfl rfl hl.1 rfl (Nat.le_of_ble_eq_true rfl) dX9_mending_7 (fun r1 u H locs hw2 hP hD hS => ?_)
  have hw2 : ((r1.toInt = 1 ∧ 0 ≤ i.toInt ∧ i.toInt < mme.toInt) ∨ (r1.toInt = 0 ∧ (i.toInt < 0 ∨ mme.toInt ≤ i.toInt))) ∧ True := hw2
  obtain ⟨hp3, -⟩ := hw2
  have hP : va_P (dC, dI) vwCl [(mro, .inl (cI, 3600, .inl mrof)), (mle, .inl (cI, 300, .inl mlef)), (m0, .inr (8, [.int 0, .int mst, .ref mp, .int mln, .ref mk, .int mts, .ref mti, .ref mtw, .ref mi, .int mmn, .ref mpo, .int mpd, .ref mpi, .int mpl, .int mcp, .ref mre, .ref mnn, .ref mwo, .ref mga, .ref mlo, .ref mro, .ref mle, .ref mra, .int mme, .ref mha, .int mch, .int mtm, .int mgo, .int mwa, .ref mba, .int mbl, .ref mon]))] H := hP
  have hD : va_D A [(mro, .inl (cI, 3600, .inl mrof)), (mle, .inl (cI, 300, .inl mlef)), (m0, .inr (8, [.int 0, .int mst, .ref mp, .int mln, .ref mk, .int mts, .ref mti, .ref mtw, .ref mi, .int mmn, .ref mpo, .int mpd, .ref mpi, .int mpl, .int mcp, .ref mre, .ref mnn, .ref mwo, .ref mga, .ref mlo, .ref mro, .ref mle, .ref mra, .int mme, .ref mha, .int mch, .int mtm, .int mgo, .int mwa, .ref mba, .int mbl, .ref mon]))] := hD
  refine lv_if_ne (tgt := 15) hx hb dX9_mending_10 (by decide) (fun c4 => ?_) (fun c4 => ?_)
  · have c4' := I_ne c4
    refine lv_iload_n hx hb dX9_mending_15 rfl (lv_at hl 2 rfl) ?_
    refine lv_iconst (v := (-1)) hx hb dX9_mending_16 (by decide) ?_
    refine lv_icmp_ne (tgt := 29) hx hb dX9_mending_17 (by decide) (fun c5 => ?_) (fun c5 => ?_)
    · have c5' := I_ne c5
      refine lv_iload_n hx hb dX9_mending_29 rfl (lv_at hl 2 rfl) ?_
      obtain ⟨w6, ew6⟩ : ∃ z : Int64, Int32.toInt64 x = z := ⟨_, rfl⟩
      have hw6 := J_of x
      rw [ew6] at hw6
      refine lv_i2l (v := w6) hx hb dX9_mending_30 ew6 ?_
      refine lv_lconst (v := 0) hx hb dX9_mending_31 (by decide) ?_
      refine lv_aload_n hx hb dX9_mending_32 rfl (lv_at hl 0 rfl) ?_
      refine va_get (D := (dC, dI)) (ci := 8) (v := .ref mle) (C := RX9) (T := TX9) (N := 32) hx hb hts inG_X9 hown hK hP 2 rfl rfl 21 (by decide) (hts _ fl_X9_50) (fun _ h9 => h9) rfl dX9_mending_33 ?_
      refine lv_iload_n hx hb dX9_mending_36 rfl (lv_at hl 1 rfl) ?_
      refine va_iald (t0 := 0) hx hb hK hP 1 (ha := rfl) (ht := rfl) (I_in (by omega) (by omega)) dX9_mending_37 ?_
      refine lv_topi (fun v7 ev7 => ?_)
      have fv7 := hq1 i.toNatClampNeg
      rw [← ev7] at fv7
      obtain ⟨w8, ew8⟩ : ∃ z : Int64, Int32.toInt64 v7 = z := ⟨_, rfl⟩
      have hw8 := J_of v7
      rw [ew8] at hw8
      refine lv_i2l (v := w8) hx hb dX9_mending_38 ew8 ?_
      refine lv_lconst (v := 1) hx hb dX9_mending_39 (by decide) ?_
      refine lv_lsub hx hb dX9_mending_40 ?_
      refine lv_topl (fun w9 ew9 => ?_)
      try have hw9 : w9.toInt = w8.toInt - (1 : Int64).toInt := J_subx ew9 (by omega)
      refine calOI (rest := []) (wr := [(mro, .inl (cI, 3600, .inl mrof)), (mle, .inl (cI, 300, .inl mlef)), (m0, .inr (8, [.int 0, .int mst, .ref mp, .int mln, .ref mk, .int mts, .ref mti, .ref mtw, .ref mi, .int mmn, .ref mpo, .int mpd, .ref mpi, .int mpl, .int mcp, .ref mre, .ref mnn, .ref mwo, .ref mga, .ref mlo, .ref mro, .ref mle, .ref mra, .int mme, .ref mha, .int mch, .int mtm, .int mgo, .int mwa, .ref mba, .int mbl, .ref mon]))]) hG (c_X9_in l dC dI cI cJ base bB bO w6 0 w9 ) ml_X9_77 st_X9_in ini_X9 cd_X9_in hd_X9_in.2 ⟨(Nat.le_of_ble_eq_true rfl), (Nat.le_of_ble_eq_true rfl)⟩ (Nat.le_of_ble_eq_true rfl) (Nat.le_of_ble_eq_true rfl) hP hD hS [] [0, 1, 2] rfl rfl rfl rfl (by decide) hl.1 rfl (Nat.le_of_ble_eq_true rfl) dX9_mending_41 (fun r10 u H locs hw11 hP hD hS => ?_)
      have hw11 : ((r10.toInt = 1 ∧ (0 : Int64).toInt ≤ w6.toInt ∧ w6.toInt ≤ w9.toInt) ∨ (r10.toInt = 0 ∧ (w6.toInt < (0 : Int64).toInt ∨ w9.toInt < w6.toInt))) ∧ True := hw11
      obtain ⟨hp12, -⟩ := hw11
      have hP : va_P (dC, dI) vwCl [(mro, .inl (cI, 3600, .inl mrof)), (mle, .inl (cI, 300, .inl mlef)), (m0, .inr (8, [.int 0, .int mst, .ref mp, .int mln, .ref mk, .int mts, .ref mti, .ref mtw, .ref mi, .int mmn, .ref mpo, .int mpd, .ref mpi, .int mpl, .int mcp, .ref mre, .ref mnn, .ref mwo, .ref mga, .ref mlo, .ref mro, .ref mle, .ref mra, .int mme, .ref mha, .int mch, .int mtm, .int mgo, .int mwa, .ref mba, .int mbl, .ref mon]))] H := hP
      have hD : va_D A [(mro, .inl (cI, 3600, .inl mrof)), (mle, .inl (cI, 300, .inl mlef)), (m0, .inr (8, [.int 0, .int mst, .ref mp, .int mln, .ref mk, .int mts, .ref mti, .ref mtw, .ref mi, .int mmn, .ref mpo, .int mpd, .ref mpi, .int mpl, .int mcp, .ref mre, .ref mnn, .ref mwo, .ref mga, .ref mlo, .ref mro, .ref mle, .ref mra, .int mme, .ref mha, .int mch, .int mtm, .int mgo, .int mwa, .ref mba, .int mbl, .ref mon]))] := hD
      refine lv_if_eq (tgt := 61) hx hb dX9_mending_44 (by decide) (fun c13 => ?_) (fun c13 => ?_)
      · have c13' := I_eq c13
        refine lv_iconst (v := (-1)) hx hb dX9_mending_61 (by decide) ?_
        exact hret (-1) 0 H locs 62 ls rfl trivial (hP.sub (ws' := [(m0, .inr (8, [.int 0, .int mst, .ref mp, .int mln, .ref mk, .int mts, .ref mti, .ref mtw, .ref mi, .int mmn, .ref mpo, .int mpd, .ref mpi, .int mpl, .int mcp, .ref mre, .ref mnn, .ref mwo, .ref mga, .ref mlo, .ref mro, .ref mle, .ref mra, .int mme, .ref mha, .int mch, .int mtm, .int mgo, .int mwa, .ref mba, .int mbl, .ref mon])), (mro, .inl (cI, 3600, .inl mrof)), (mle, .inl (cI, 300, .inl mlef))]) [2, 0, 1] rfl) (hD.sub (ws' := [(m0, .inr (8, [.int 0, .int mst, .ref mp, .int mln, .ref mk, .int mts, .ref mti, .ref mtw, .ref mi, .int mmn, .ref mpo, .int mpd, .ref mpi, .int mpl, .int mcp, .ref mre, .ref mnn, .ref mwo, .ref mga, .ref mlo, .ref mro, .ref mle, .ref mra, .int mme, .ref mha, .int mch, .int mtm, .int mgo, .int mwa, .ref mba, .int mbl, .ref mon])), (mro, .inl (cI, 3600, .inl mrof)), (mle, .inl (cI, 300, .inl mlef))]) [2, 0, 1] (by decide) rfl) hS dX9_mending_62
      · have c13' := I_ne c13
        refine lv_aload_n hx hb dX9_mending_47 rfl (lv_at hl 0 rfl) ?_
        refine va_get (D := (dC, dI)) (ci := 8) (v := .ref mro) (C := RX9) (T := TX9) (N := 32) hx hb hts inG_X9 hown hK hP 2 rfl rfl 20 (by decide) (hts _ fl_X9_47) (fun _ h9 => h9) rfl dX9_mending_48 ?_
        refine lv_bipush (v := 12) hx hb dX9_mending_51 (by decide) ?_
        refine lv_iload_n hx hb dX9_mending_53 rfl (lv_at hl 1 rfl) ?_
        refine lv_imul hx hb dX9_mending_54 ?_
        refine lv_topi (fun v14 ev14 => ?_)
        try have hv14 := I_mulxl (12) ev14 (by decide) (by omega)
        refine lv_iload_n hx hb dX9_mending_55 rfl (lv_at hl 2 rfl) ?_
        refine lv_iadd hx hb dX9_mending_56 ?_
        refine lv_topi (fun v15 ev15 => ?_)
        try have hv15 : v15.toInt = v14.toInt + x.toInt := I_addx ev15 (by omega)
        refine va_iald (t0 := 0) hx hb hK hP 0 (ha := rfl) (ht := rfl) (I_in (by omega) (by omega)) dX9_mending_57 ?_
        refine lv_topi (fun v16 ev16 => ?_)
        refine lv_goto (tgt := 62) hx hb dX9_mending_58 (by decide) ?_
        exact hret v16 0 H locs 62 ls rfl trivial (hP.sub (ws' := [(m0, .inr (8, [.int 0, .int mst, .ref mp, .int mln, .ref mk, .int mts, .ref mti, .ref mtw, .ref mi, .int mmn, .ref mpo, .int mpd, .ref mpi, .int mpl, .int mcp, .ref mre, .ref mnn, .ref mwo, .ref mga, .ref mlo, .ref mro, .ref mle, .ref mra, .int mme, .ref mha, .int mch, .int mtm, .int mgo, .int mwa, .ref mba, .int mbl, .ref mon])), (mro, .inl (cI, 3600, .inl mrof)), (mle, .inl (cI, 300, .inl mlef))]) [2, 0, 1] rfl) (hD.sub (ws' := [(m0, .inr (8, [.int 0, .int mst, .ref mp, .int mln, .ref mk, .int mts, .ref mti, .ref mtw, .ref mi, .int mmn, .ref mpo, .int mpd, .ref mpi, .int mpl, .int mcp, .ref mre, .ref mnn, .ref mwo, .ref mga, .ref mlo, .ref mro, .ref mle, .ref mra, .int mme, .ref mha, .int mch, .int mtm, .int mgo, .int mwa, .ref mba, .int mbl, .ref mon])), (mro, .inl (cI, 3600, .inl mrof)), (mle, .inl (cI, 300, .inl mlef))]) [2, 0, 1] (by decide) rfl) hS dX9_mending_62
    · have c5' := I_eq c5
      refine lv_aload_n hx hb dX9_mending_20 rfl (lv_at hl 0 rfl) ?_
      refine va_get (D := (dC, dI)) (ci := 8) (v := .ref mle) (C := RX9) (T := TX9) (N := 32) hx hb hts inG_X9 hown hK hP 2 rfl rfl 21 (by decide) (hts _ fl_X9_50) (fun _ h9 => h9) rfl dX9_mending_21 ?_
      refine lv_iload_n hx hb dX9_mending_24 rfl (lv_at hl 1 rfl) ?_
      refine va_iald (t0 := 0) hx hb hK hP 1 (ha := rfl) (ht := rfl) (I_in (by omega) (by omega)) dX9_mending_25 ?_
      refine lv_topi (fun v17 ev17 => ?_)
      have fv17 := hq1 i.toNatClampNeg
      rw [← ev17] at fv17
      refine lv_goto (tgt := 62) hx hb dX9_mending_26 (by decide) ?_
      exact hret v17 0 H locs 62 ls rfl trivial (hP.sub (ws' := [(m0, .inr (8, [.int 0, .int mst, .ref mp, .int mln, .ref mk, .int mts, .ref mti, .ref mtw, .ref mi, .int mmn, .ref mpo, .int mpd, .ref mpi, .int mpl, .int mcp, .ref mre, .ref mnn, .ref mwo, .ref mga, .ref mlo, .ref mro, .ref mle, .ref mra, .int mme, .ref mha, .int mch, .int mtm, .int mgo, .int mwa, .ref mba, .int mbl, .ref mon])), (mro, .inl (cI, 3600, .inl mrof)), (mle, .inl (cI, 300, .inl mlef))]) [2, 0, 1] rfl) (hD.sub (ws' := [(m0, .inr (8, [.int 0, .int mst, .ref mp, .int mln, .ref mk, .int mts, .ref mti, .ref mtw, .ref mi, .int mmn, .ref mpo, .int mpd, .ref mpi, .int mpl, .int mcp, .ref mre, .ref mnn, .ref mwo, .ref mga, .ref mlo, .ref mro, .ref mle, .ref mra, .int mme, .ref mha, .int mch, .int mtm, .int mgo, .int mwa, .ref mba, .int mbl, .ref mon])), (mro, .inl (cI, 3600, .inl mrof)), (mle, .inl (cI, 300, .inl mlef))]) [2, 0, 1] (by decide) rfl) hS dX9_mending_62
  · have c4' := I_eq c4
    refine lv_iconst (v := (-1)) hx hb dX9_mending_13 (by decide) ?_
    exact hret (-1) 0 H locs 14 ls rfl trivial (hP.sub (ws' := [(m0, .inr (8, [.int 0, .int mst, .ref mp, .int mln, .ref mk, .int mts, .ref mti, .ref mtw, .ref mi, .int mmn, .ref mpo, .int mpd, .ref mpi, .int mpl, .int mcp, .ref mre, .ref mnn, .ref mwo, .ref mga, .ref mlo, .ref mro, .ref mle, .ref mra, .int mme, .ref mha, .int mch, .int mtm, .int mgo, .int mwa, .ref mba, .int mbl, .ref mon])), (mro, .inl (cI, 3600, .inl mrof)), (mle, .inl (cI, 300, .inl mlef))]) [2, 0, 1] rfl) (hD.sub (ws' := [(m0, .inr (8, [.int 0, .int mst, .ref mp, .int mln, .ref mk, .int mts, .ref mti, .ref mtw, .ref mi, .int mmn, .ref mpo, .int mpd, .ref mpi, .int mpl, .int mcp, .ref mre, .ref mnn, .ref mwo, .ref mga, .ref mlo, .ref mro, .ref mle, .ref mra, .int mme, .ref mha, .int mch, .int mtm, .int mgo, .int mwa, .ref mba, .int mbl, .ref mon])), (mro, .inl (cI, 3600, .inl mrof)), (mle, .inl (cI, 300, .inl mlef))]) [2, 0, 1] (by decide) rfl) hS dX9_mending_14
set_option maxHeartbeats 4000000 in
set_option maxRecDepth 100000 in
theorem c_X9_rank (l : Launch) (dC : Nat → ClassId) (dI : Nat → Nat → Nat) (cI cJ : ClassId) (base bB bO : Nat) (m0 : Nat) (mth : Int32) (mst : Int32) (mp : Nat) (mln : Int32) (mk : Nat) (mts : Int32) (mti : Nat) (mtw : Nat) (mi : Nat) (mmn : Int32) (mpo : Nat) (mpd : Int32) (mpi : Nat) (mpl : Int32) (mcp : Int32) (mre : Nat) (mnn : Nat) (mwo : Nat) (mga : Nat) (mlo : Nat) (mro : Nat) (mle : Nat) (mra : Nat) (mme : Int32) (mha : Nat) (mch : Int32) (mtm : Int32) (mgo : Int32) (mwa : Int32) (mba : Nat) (mbl : Int32) (mon : Nat) (mraf : Nat → Int32) (i : Int32) (hq0 : 0 ≤ mme.toInt ∧ mme.toInt ≤ 300) : CtI l dC dI cI cJ base bB bO yX9_rank cX9_rank 2 .int 2 46 [.ref m0, .int i] [(m0, .inr (8, [.int mth, .int mst, .ref mp, .int mln, .ref mk, .int mts, .ref mti, .ref mtw, .ref mi, .int mmn, .ref mpo, .int mpd, .ref mpi, .int mpl, .int mcp, .ref mre, .ref mnn, .ref mwo, .ref mga, .ref mlo, .ref mro, .ref mle, .ref mra, .int mme, .ref mha, .int mch, .int mtm, .int mgo, .int mwa, .ref mba, .int mbl, .ref mon])), (mra, .inl (cI, 300, .inl mraf))] ((Int32)) (fun (res : Int32) (u : (Int32)) => True) (fun (u : (Int32)) => [(m0, .inr (8, [.int u, .int mst, .ref mp, .int mln, .ref mk, .int mts, .ref mti, .ref mtw, .ref mi, .int mmn, .ref mpo, .int mpd, .ref mpi, .int mpl, .int mcp, .ref mre, .ref mnn, .ref mwo, .ref mga, .ref mlo, .ref mro, .ref mle, .ref mra, .int mme, .ref mha, .int mch, .int mtm, .int mgo, .int mwa, .ref mba, .int mbl, .ref mon])), (mra, .inl (cI, 300, .inl mraf))]) := by
  refine entI (by decide) (Nat.le_of_ble_eq_true rfl) ?_
  intro p e s m below meth c A Q ls hAt hret hP hD hS hl
  obtain ⟨hx, hb, hml, hown, hts, hA, hAb, hK, hE, hlocks, hin⟩ := hAt
  have hG : CG dC dI cI cJ base bB bO cX9_rank 2 RX9 p s m (List.toArray [.ref m0, .int i]) c A := ⟨hx, hb, hml, hown, hts, hA, hAb, hK, hE⟩
  have hl : lv_has ls 2 [(0, .ref m0), (1, .int i)] := hl
  have c_m1 : (-1 : Int32).toInt = -1 := by decide
  have c_0 : (0 : Int32).toInt = 0 := by decide
  have c_1 : (1 : Int32).toInt = 1 := by decide
  obtain ⟨H, hHe⟩ : ∃ H : Heap, H = s.heap := ⟨_, rfl⟩
  obtain ⟨locs, hle⟩ : ∃ z : List Loc, z = [] := ⟨_, rfl⟩
  rw [← hHe] at hP
  have hS : va_S A s.heap H locs := by rw [hHe, hle]; exact hS
  suffices hgo : W p l e { frames := 2, cells := 0, slots := 0, locals := 46 } s m (List.toArray [.ref m0, .int i]) below meth c H locs 0 0 Q (F0 m 0 ls []) by rw [hHe, hle] at hgo; exact hgo
  refine lv_aload_n hx hb dX9_rank_0 rfl (lv_at hl 0 rfl) ?_
  refine lv_iconst (v := 0) hx hb dX9_rank_1 (by decide) ?_
  refine va_put (D := (dC, dI)) (ci := 8) (v := .int 0) (ty := .int) (C := RX9) (T := TX9) (N := 32) hx hb hts inG_X9 tyX9 tyX9_ok nmX9 hown hK hP hD hS 0 rfl rfl 0 (by decide) (hts _ fl_X9_69) (fun _ h9 => h9) rfl (by decide +kernel) rfl rfl (Nat.le_of_ble_eq_true rfl) dX9_rank_2 (fun H locs hP hD hS => ?_)
  have hP : va_P (dC, dI) vwCl [(m0, .inr (8, [.int 0, .int mst, .ref mp, .int mln, .ref mk, .int mts, .ref mti, .ref mtw, .ref mi, .int mmn, .ref mpo, .int mpd, .ref mpi, .int mpl, .int mcp, .ref mre, .ref mnn, .ref mwo, .ref mga, .ref mlo, .ref mro, .ref mle, .ref mra, .int mme, .ref mha, .int mch, .int mtm, .int mgo, .int mwa, .ref mba, .int mbl, .ref mon])), (mra, .inl (cI, 300, .inl mraf))] H := hP
  have hD : va_D A [(m0, .inr (8, [.int 0, .int mst, .ref mp, .int mln, .ref mk, .int mts, .ref mti, .ref mtw, .ref mi, .int mmn, .ref mpo, .int mpd, .ref mpi, .int mpl, .int mcp, .ref mre, .ref mnn, .ref mwo, .ref mga, .ref mlo, .ref mro, .ref mle, .ref mra, .int mme, .ref mha, .int mch, .int mtm, .int mgo, .int mwa, .ref mba, .int mbl, .ref mon])), (mra, .inl (cI, 300, .inl mraf))] := hD
  refine lv_aload_n hx hb dX9_rank_5 rfl (lv_at hl 0 rfl) ?_
  refine lv_iload_n hx hb dX9_rank_6 rfl (lv_at hl 1 rfl) ?_
  refine calI (rest := []) (wr := [(mra, .inl (cI, 300, .inl mraf))]) hG (c_X9_isMending l dC dI cI cJ base bB bO m0 0 mst mp mln mk mts mti mtw mi mmn mpo mpd mpi mpl mcp mre mnn mwo mga mlo mro mle mra mme mha mch mtm mgo mwa mba mbl mon i (by first | assumption | omega)) ml_X9_211 im_X9_isMending se_X9_isMending ini_X9 cd_X9_isMending hd_X9_isMending ⟨(Nat.le_of_ble_eq_true rfl), (Nat.le_of_ble_eq_true rfl)⟩ (Nat.le_of_ble_eq_true rfl) (Nat.le_of_ble_eq_true rfl) hP hD hS [0] [1] rfl rfl rfl rfl (by decide) 8 0 rfl rfl hl.1 rfl (Nat.le_of_ble_eq_true rfl) dX9_rank_7 (fun r1 u H locs hw2 hP hD hS => ?_)
  have hw2 : ((r1.toInt = 1 ∧ 0 ≤ i.toInt ∧ i.toInt < mme.toInt) ∨ (r1.toInt = 0 ∧ (i.toInt < 0 ∨ mme.toInt ≤ i.toInt))) ∧ True := hw2
  obtain ⟨hp3, -⟩ := hw2
  have hP : va_P (dC, dI) vwCl [(mra, .inl (cI, 300, .inl mraf)), (m0, .inr (8, [.int 0, .int mst, .ref mp, .int mln, .ref mk, .int mts, .ref mti, .ref mtw, .ref mi, .int mmn, .ref mpo, .int mpd, .ref mpi, .int mpl, .int mcp, .ref mre, .ref mnn, .ref mwo, .ref mga, .ref mlo, .ref mro, .ref mle, .ref mra, .int mme, .ref mha, .int mch, .int mtm, .int mgo, .int mwa, .ref mba, .int mbl, .ref mon]))] H := hP
  have hD : va_D A [(mra, .inl (cI, 300, .inl mraf)), (m0, .inr (8, [.int 0, .int mst, .ref mp, .int mln, .ref mk, .int mts, .ref mti, .ref mtw, .ref mi, .int mmn, .ref mpo, .int mpd, .ref mpi, .int mpl, .int mcp, .ref mre, .ref mnn, .ref mwo, .ref mga, .ref mlo, .ref mro, .ref mle, .ref mra, .int mme, .ref mha, .int mch, .int mtm, .int mgo, .int mwa, .ref mba, .int mbl, .ref mon]))] := hD
  refine lv_if_eq (tgt := 22) hx hb dX9_rank_10 (by decide) (fun c4 => ?_) (fun c4 => ?_)
  · have c4' := I_eq c4
    refine lv_iconst (v := (-1)) hx hb dX9_rank_22 (by decide) ?_
    exact hret (-1) 0 H locs 23 ls rfl trivial (hP.sub (ws' := [(m0, .inr (8, [.int 0, .int mst, .ref mp, .int mln, .ref mk, .int mts, .ref mti, .ref mtw, .ref mi, .int mmn, .ref mpo, .int mpd, .ref mpi, .int mpl, .int mcp, .ref mre, .ref mnn, .ref mwo, .ref mga, .ref mlo, .ref mro, .ref mle, .ref mra, .int mme, .ref mha, .int mch, .int mtm, .int mgo, .int mwa, .ref mba, .int mbl, .ref mon])), (mra, .inl (cI, 300, .inl mraf))]) [1, 0] rfl) (hD.sub (ws' := [(m0, .inr (8, [.int 0, .int mst, .ref mp, .int mln, .ref mk, .int mts, .ref mti, .ref mtw, .ref mi, .int mmn, .ref mpo, .int mpd, .ref mpi, .int mpl, .int mcp, .ref mre, .ref mnn, .ref mwo, .ref mga, .ref mlo, .ref mro, .ref mle, .ref mra, .int mme, .ref mha, .int mch, .int mtm, .int mgo, .int mwa, .ref mba, .int mbl, .ref mon])), (mra, .inl (cI, 300, .inl mraf))]) [1, 0] (by decide) rfl) hS dX9_rank_23
  · have c4' := I_ne c4
    refine lv_aload_n hx hb dX9_rank_13 rfl (lv_at hl 0 rfl) ?_
    refine va_get (D := (dC, dI)) (ci := 8) (v := .ref mra) (C := RX9) (T := TX9) (N := 32) hx hb hts inG_X9 hown hK hP 1 rfl rfl 22 (by decide) (hts _ fl_X9_53) (fun _ h9 => h9) rfl dX9_rank_14 ?_
    refine lv_iload_n hx hb dX9_rank_17 rfl (lv_at hl 1 rfl) ?_
    refine va_iald (t0 := 0) hx hb hK hP 0 (ha := rfl) (ht := rfl) (I_in (by omega) (by omega)) dX9_rank_18 ?_
    refine lv_topi (fun v5 ev5 => ?_)
    refine lv_goto (tgt := 23) hx hb dX9_rank_19 (by decide) ?_
    exact hret v5 0 H locs 23 ls rfl trivial (hP.sub (ws' := [(m0, .inr (8, [.int 0, .int mst, .ref mp, .int mln, .ref mk, .int mts, .ref mti, .ref mtw, .ref mi, .int mmn, .ref mpo, .int mpd, .ref mpi, .int mpl, .int mcp, .ref mre, .ref mnn, .ref mwo, .ref mga, .ref mlo, .ref mro, .ref mle, .ref mra, .int mme, .ref mha, .int mch, .int mtm, .int mgo, .int mwa, .ref mba, .int mbl, .ref mon])), (mra, .inl (cI, 300, .inl mraf))]) [1, 0] rfl) (hD.sub (ws' := [(m0, .inr (8, [.int 0, .int mst, .ref mp, .int mln, .ref mk, .int mts, .ref mti, .ref mtw, .ref mi, .int mmn, .ref mpo, .int mpd, .ref mpi, .int mpl, .int mcp, .ref mre, .ref mnn, .ref mwo, .ref mga, .ref mlo, .ref mro, .ref mle, .ref mra, .int mme, .ref mha, .int mch, .int mtm, .int mgo, .int mwa, .ref mba, .int mbl, .ref mon])), (mra, .inl (cI, 300, .inl mraf))]) [1, 0] (by decide) rfl) hS dX9_rank_23
set_option maxHeartbeats 4000000 in
set_option maxRecDepth 100000 in
theorem c_X9_readMending (l : Launch) (dC : Nat → ClassId) (dI : Nat → Nat → Nat) (cI cJ : ClassId) (base bB bO : Nat) (m0 : Nat) (mth : Int32) (mst : Int32) (mp : Nat) (mln : Int32) (mk : Nat) (mts : Int32) (mti : Nat) (mtw : Nat) (mi : Nat) (mmn : Int32) (mpo : Nat) (mpd : Int32) (mpi : Nat) (mpl : Int32) (mcp : Int32) (mre : Nat) (mnn : Nat) (mwo : Nat) (mga : Nat) (mlo : Nat) (mro : Nat) (mle : Nat) (mra : Nat) (mme : Int32) (mha : Nat) (mch : Int32) (mtm : Int32) (mgo : Int32) (mwa : Int32) (mba : Nat) (mbl : Int32) (mon : Nat) (mkf : Nat → Int32) (mif : Nat → Int32) (mpof : Nat → Int32) (mpif : Nat → Int32) (mref : Nat → Int32) (mrof : Nat → Int32) (mlef : Nat → Int32) (i : Int32) (hq0 : ∀ j : Nat, 0 ≤ (mlef j).toInt ∧ (mlef j).toInt ≤ 12) (hq1 : 0 ≤ i.toInt ∧ i.toInt < 300) : CtI l dC dI cI cJ base bB bO yX9_readMending cX9_readMending 3 .int 5 105 [.ref m0, .int i] [(m0, .inr (8, [.int mth, .int mst, .ref mp, .int mln, .ref mk, .int mts, .ref mti, .ref mtw, .ref mi, .int mmn, .ref mpo, .int mpd, .ref mpi, .int mpl, .int mcp, .ref mre, .ref mnn, .ref mwo, .ref mga, .ref mlo, .ref mro, .ref mle, .ref mra, .int mme, .ref mha, .int mch, .int mtm, .int mgo, .int mwa, .ref mba, .int mbl, .ref mon])), (mk, .inl (cI, 4, .inl mkf)), (mi, .inl (cI, 12, .inl mif)), (mpo, .inl (cI, 12, .inl mpof)), (mpi, .inl (cI, 26, .inl mpif)), (mre, .inl (cI, 12, .inl mref)), (mro, .inl (cI, 3600, .inl mrof)), (mle, .inl (cI, 300, .inl mlef))] ((Int32) × (Nat → Int32) × (Int32) × (Int32) × (Int32) × (Nat → Int32) × (Nat → Int32) × (Nat → Int32)) (fun (res : Int32) (u : (Int32) × (Nat → Int32) × (Int32) × (Int32) × (Int32) × (Nat → Int32) × (Nat → Int32) × (Nat → Int32)) => (res.toInt < 0 ∨ (0 ≤ u.2.2.1.toInt ∧ u.2.2.1.toInt ≤ 12)) ∧ (res.toInt < 0 ∨ WFn u.2.2.2.2.2.1 u.2.2.1.toInt.toNat) ∧ (0 ≤ u.1.toInt ∧ u.1.toInt ≤ 12) ∧ (u.2.2.2.2.1.toInt = 0 ∨ u.2.2.2.2.1.toInt = 1) ∧ True) (fun (u : (Int32) × (Nat → Int32) × (Int32) × (Int32) × (Int32) × (Nat → Int32) × (Nat → Int32) × (Nat → Int32)) => [(m0, .inr (8, [.int mth, .int mst, .ref mp, .int mln, .ref mk, .int mts, .ref mti, .ref mtw, .ref mi, .int u.1, .ref mpo, .int u.2.2.1, .ref mpi, .int u.2.2.2.1, .int u.2.2.2.2.1, .ref mre, .ref mnn, .ref mwo, .ref mga, .ref mlo, .ref mro, .ref mle, .ref mra, .int mme, .ref mha, .int mch, .int mtm, .int mgo, .int mwa, .ref mba, .int mbl, .ref mon])), (mk, .inl (cI, 4, .inl mkf)), (mi, .inl (cI, 12, .inl u.2.1)), (mpo, .inl (cI, 12, .inl u.2.2.2.2.2.1)), (mpi, .inl (cI, 26, .inl u.2.2.2.2.2.2.1)), (mre, .inl (cI, 12, .inl u.2.2.2.2.2.2.2)), (mro, .inl (cI, 3600, .inl mrof)), (mle, .inl (cI, 300, .inl mlef))]) := by
  refine entI (by decide) (Nat.le_of_ble_eq_true rfl) ?_
  intro p e s m below meth c A Q ls hAt hret hP hD hS hl
  obtain ⟨hx, hb, hml, hown, hts, hA, hAb, hK, hE, hlocks, hin⟩ := hAt
  have hG : CG dC dI cI cJ base bB bO cX9_readMending 3 RX9 p s m (List.toArray [.ref m0, .int i]) c A := ⟨hx, hb, hml, hown, hts, hA, hAb, hK, hE⟩
  have hl : lv_has ls 3 [(0, .ref m0), (1, .int i)] := hl
  have c_m1 : (-1 : Int32).toInt = -1 := by decide
  have c_0 : (0 : Int32).toInt = 0 := by decide
  have c_1 : (1 : Int32).toInt = 1 := by decide
  have c_12 : (12 : Int32).toInt = 12 := by decide
  obtain ⟨H, hHe⟩ : ∃ H : Heap, H = s.heap := ⟨_, rfl⟩
  obtain ⟨locs, hle⟩ : ∃ z : List Loc, z = [] := ⟨_, rfl⟩
  rw [← hHe] at hP
  have hS : va_S A s.heap H locs := by rw [hHe, hle]; exact hS
  suffices hgo : W p l e { frames := 5, cells := 0, slots := 0, locals := 105 } s m (List.toArray [.ref m0, .int i]) below meth c H locs 0 0 Q (F0 m 0 ls []) by rw [hHe, hle] at hgo; exact hgo
  refine lv_aload_n hx hb dX9_readMending_0 rfl (lv_at hl 0 rfl) ?_
  refine lv_aload_n hx hb dX9_readMending_1 rfl (lv_at hl 0 rfl) ?_
  refine va_get (D := (dC, dI)) (ci := 8) (v := .ref mle) (C := RX9) (T := TX9) (N := 32) hx hb hts inG_X9 hown hK hP 0 rfl rfl 21 (by decide) (hts _ fl_X9_50) (fun _ h9 => h9) rfl dX9_readMending_2 ?_
  refine lv_iload_n hx hb dX9_readMending_5 rfl (lv_at hl 1 rfl) ?_
  refine va_iald (t0 := 0) hx hb hK hP 7 (ha := rfl) (ht := rfl) (I_in (by omega) (by omega)) dX9_readMending_6 ?_
  refine lv_topi (fun v1 ev1 => ?_)
  have fv1 := hq0 i.toNatClampNeg
  rw [← ev1] at fv1
  refine va_put (D := (dC, dI)) (ci := 8) (v := .int v1) (ty := .int) (C := RX9) (T := TX9) (N := 32) hx hb hts inG_X9 tyX9 tyX9_ok nmX9 hown hK hP hD hS 0 rfl rfl 9 (by decide) (hts _ fl_X9_114) (fun _ h9 => h9) rfl (by decide +kernel) rfl rfl (Nat.le_of_ble_eq_true rfl) dX9_readMending_7 (fun H locs hP hD hS => ?_)
  have hP : va_P (dC, dI) vwCl [(m0, .inr (8, [.int mth, .int mst, .ref mp, .int mln, .ref mk, .int mts, .ref mti, .ref mtw, .ref mi, .int v1, .ref mpo, .int mpd, .ref mpi, .int mpl, .int mcp, .ref mre, .ref mnn, .ref mwo, .ref mga, .ref mlo, .ref mro, .ref mle, .ref mra, .int mme, .ref mha, .int mch, .int mtm, .int mgo, .int mwa, .ref mba, .int mbl, .ref mon])), (mk, .inl (cI, 4, .inl mkf)), (mi, .inl (cI, 12, .inl mif)), (mpo, .inl (cI, 12, .inl mpof)), (mpi, .inl (cI, 26, .inl mpif)), (mre, .inl (cI, 12, .inl mref)), (mro, .inl (cI, 3600, .inl mrof)), (mle, .inl (cI, 300, .inl mlef))] H := hP
  have hD : va_D A [(m0, .inr (8, [.int mth, .int mst, .ref mp, .int mln, .ref mk, .int mts, .ref mti, .ref mtw, .ref mi, .int v1, .ref mpo, .int mpd, .ref mpi, .int mpl, .int mcp, .ref mre, .ref mnn, .ref mwo, .ref mga, .ref mlo, .ref mro, .ref mle, .ref mra, .int mme, .ref mha, .int mch, .int mtm, .int mgo, .int mwa, .ref mba, .int mbl, .ref mon])), (mk, .inl (cI, 4, .inl mkf)), (mi, .inl (cI, 12, .inl mif)), (mpo, .inl (cI, 12, .inl mpof)), (mpi, .inl (cI, 26, .inl mpif)), (mre, .inl (cI, 12, .inl mref)), (mro, .inl (cI, 3600, .inl mrof)), (mle, .inl (cI, 300, .inl mlef))] := hD
  refine lv_iconst (v := 0) hx hb dX9_readMending_10 (by decide) ?_
  refine lv_istore_n (lv' := [(2, .int 0), (0, .ref m0), (1, .int i)]) hx hb dX9_readMending_11 rfl hl (by decide) rfl (fun ls hl => ?_)
  have J12 : ∀ (n : Nat) (L2_12 : Int32) (mif_12 : Nat → Int32), (0 ≤ L2_12.toInt ∧ L2_12.toInt ≤ 12) → (12 - L2_12.toInt) < (n : Int) → ∀ (H : Heap) (locs : List Loc) (ls : Array Slot), va_P (dC, dI) vwCl [(m0, .inr (8, [.int mth, .int mst, .ref mp, .int mln, .ref mk, .int mts, .ref mti, .ref mtw, .ref mi, .int v1, .ref mpo, .int mpd, .ref mpi, .int mpl, .int mcp, .ref mre, .ref mnn, .ref mwo, .ref mga, .ref mlo, .ref mro, .ref mle, .ref mra, .int mme, .ref mha, .int mch, .int mtm, .int mgo, .int mwa, .ref mba, .int mbl, .ref mon])), (mk, .inl (cI, 4, .inl mkf)), (mi, .inl (cI, 12, .inl mif_12)), (mpo, .inl (cI, 12, .inl mpof)), (mpi, .inl (cI, 26, .inl mpif)), (mre, .inl (cI, 12, .inl mref)), (mro, .inl (cI, 3600, .inl mrof)), (mle, .inl (cI, 300, .inl mlef))] H → va_D A [(m0, .inr (8, [.int mth, .int mst, .ref mp, .int mln, .ref mk, .int mts, .ref mti, .ref mtw, .ref mi, .int v1, .ref mpo, .int mpd, .ref mpi, .int mpl, .int mcp, .ref mre, .ref mnn, .ref mwo, .ref mga, .ref mlo, .ref mro, .ref mle, .ref mra, .int mme, .ref mha, .int mch, .int mtm, .int mgo, .int mwa, .ref mba, .int mbl, .ref mon])), (mk, .inl (cI, 4, .inl mkf)), (mi, .inl (cI, 12, .inl mif_12)), (mpo, .inl (cI, 12, .inl mpof)), (mpi, .inl (cI, 26, .inl mpif)), (mre, .inl (cI, 12, .inl mref)), (mro, .inl (cI, 3600, .inl mrof)), (mle, .inl (cI, 300, .inl mlef))] → va_S A s.heap H locs → lv_has ls 3 [(2, .int L2_12), (0, .ref m0), (1, .int i)] → W p l e { frames := 5, cells := 0, slots := 0, locals := 105 } s m (List.toArray [.ref m0, .int i]) below meth c H locs 0 0 Q (F0 m 12 ls []) := by
    intro n
    induction n with
    | zero =>
      intro L2_12 mif_12 hi0_12 hm
      exact absurd hm (by omega)
    | succ n ih12 =>
      intro L2_12 mif_12 hi0_12 hm12 H locs ls hP hD hS hl
      refine lv_iload_n hx hb dX9_readMending_12 rfl (lv_at hl 0 rfl) ?_
      refine lv_aload_n hx hb dX9_readMending_13 rfl (lv_at hl 1 rfl) ?_
      refine va_get (D := (dC, dI)) (ci := 8) (v := .int v1) (C := RX9) (T := TX9) (N := 32) hx hb hts inG_X9 hown hK hP 0 rfl rfl 9 (by decide) (hts _ fl_X9_114) (fun _ h9 => h9) rfl dX9_readMending_14 ?_
      refine lv_icmp_ge (tgt := 43) hx hb dX9_readMending_17 (by decide) (fun c2 => ?_) (fun c2 => ?_)
      · have c2' := I_le c2
        refine lv_aload_n hx hb dX9_readMending_43 rfl (lv_at hl 1 rfl) ?_
        refine calI (rest := []) (wr := [(mk, .inl (cI, 4, .inl mkf)), (mre, .inl (cI, 12, .inl mref)), (mro, .inl (cI, 3600, .inl mrof)), (mle, .inl (cI, 300, .inl mlef))]) hG (c_X9_read l dC dI cI cJ base bB bO m0 mth mst mp mln mk mts mti mtw mi v1 mpo mpd mpi mpl mcp mre mnn mwo mga mlo mro mle mra mme mha mch mtm mgo mwa mba mbl mon mif_12 mpof mpif (by first | assumption | omega)) ml_X9_142 im_X9_read se_X9_read ini_X9 cd_X9_read hd_X9_read ⟨(Nat.le_of_ble_eq_true rfl), (Nat.le_of_ble_eq_true rfl)⟩ (Nat.le_of_ble_eq_true rfl) (Nat.le_of_ble_eq_true rfl) hP hD hS [0, 2, 3, 4] [1, 5, 6, 7] rfl rfl rfl rfl (by decide) 8 0 rfl rfl hl.1 rfl (Nat.le_of_ble_eq_true rfl) dX9_readMending_44 (fun r3 u H locs hw4 hP hD hS => ?_)
        obtain ⟨mpd_5, mpl_6, mcp_7, mpof_8, mpif_9⟩ := u
        have hw4 : (¬ r3.toInt = -1 ∨ (0 ≤ mpd_5.toInt ∧ mpd_5.toInt ≤ 12)) ∧ (¬ r3.toInt = -1 ∨ WFn mpof_8 mpd_5.toInt.toNat) ∧ (mcp_7.toInt = 0 ∨ mcp_7.toInt = 1) ∧ True := hw4
        obtain ⟨hp10, hp11, hp12, -⟩ := hw4
        have hP : va_P (dC, dI) vwCl [(mk, .inl (cI, 4, .inl mkf)), (mre, .inl (cI, 12, .inl mref)), (mro, .inl (cI, 3600, .inl mrof)), (mle, .inl (cI, 300, .inl mlef)), (m0, .inr (8, [.int mth, .int mst, .ref mp, .int mln, .ref mk, .int mts, .ref mti, .ref mtw, .ref mi, .int v1, .ref mpo, .int mpd_5, .ref mpi, .int mpl_6, .int mcp_7, .ref mre, .ref mnn, .ref mwo, .ref mga, .ref mlo, .ref mro, .ref mle, .ref mra, .int mme, .ref mha, .int mch, .int mtm, .int mgo, .int mwa, .ref mba, .int mbl, .ref mon])), (mi, .inl (cI, 12, .inl mif_12)), (mpo, .inl (cI, 12, .inl mpof_8)), (mpi, .inl (cI, 26, .inl mpif_9))] H := hP
        have hD : va_D A [(mk, .inl (cI, 4, .inl mkf)), (mre, .inl (cI, 12, .inl mref)), (mro, .inl (cI, 3600, .inl mrof)), (mle, .inl (cI, 300, .inl mlef)), (m0, .inr (8, [.int mth, .int mst, .ref mp, .int mln, .ref mk, .int mts, .ref mti, .ref mtw, .ref mi, .int v1, .ref mpo, .int mpd_5, .ref mpi, .int mpl_6, .int mcp_7, .ref mre, .ref mnn, .ref mwo, .ref mga, .ref mlo, .ref mro, .ref mle, .ref mra, .int mme, .ref mha, .int mch, .int mtm, .int mgo, .int mwa, .ref mba, .int mbl, .ref mon])), (mi, .inl (cI, 12, .inl mif_12)), (mpo, .inl (cI, 12, .inl mpof_8)), (mpi, .inl (cI, 26, .inl mpif_9))] := hD
        have hr0 := hp10
        have hr1 := hp11
        refine lv_iconst (v := (-1)) hx hb dX9_readMending_47 (by decide) ?_
        refine lv_icmp_eq (tgt := 55) hx hb dX9_readMending_48 (by decide) (fun c13 => ?_) (fun c13 => ?_)
        · have c13' := I_eq c13
          refine lv_aload_n hx hb dX9_readMending_55 rfl (lv_at hl 1 rfl) ?_
          refine calI (rest := []) (wr := [(mro, .inl (cI, 3600, .inl mrof)), (mle, .inl (cI, 300, .inl mlef)), (mi, .inl (cI, 12, .inl mif_12)), (mpi, .inl (cI, 26, .inl mpif_9))]) hG (c_X9_kindOf l dC dI cI cJ base bB bO m0 mth mst mp mln mk mts mti mtw mi v1 mpo mpd_5 mpi mpl_6 mcp_7 mre mnn mwo mga mlo mro mle mra mme mha mch mtm mgo mwa mba mbl mon mkf mpof_8 mref (by rcases hr1 with h | h; exact absurd (by omega) h; exact h) (by first | assumption | omega)) ml_X9_145 im_X9_kindOf se_X9_kindOf ini_X9 cd_X9_kindOf hd_X9_kindOf ⟨(Nat.le_of_ble_eq_true rfl), (Nat.le_of_ble_eq_true rfl)⟩ (Nat.le_of_ble_eq_true rfl) (Nat.le_of_ble_eq_true rfl) hP hD hS [4, 0, 6, 1] [2, 3, 5, 7] rfl rfl rfl rfl (by decide) 8 4 rfl rfl hl.1 rfl (Nat.le_of_ble_eq_true rfl) dX9_readMending_56 (fun r14 u H locs hw15 hP hD hS => ?_)
          obtain ⟨mref_16, rfl⟩ : ∃ z, z = u := ⟨_, rfl⟩
          have hP : va_P (dC, dI) vwCl [(mro, .inl (cI, 3600, .inl mrof)), (mle, .inl (cI, 300, .inl mlef)), (mi, .inl (cI, 12, .inl mif_12)), (mpi, .inl (cI, 26, .inl mpif_9)), (m0, .inr (8, [.int mth, .int mst, .ref mp, .int mln, .ref mk, .int mts, .ref mti, .ref mtw, .ref mi, .int v1, .ref mpo, .int mpd_5, .ref mpi, .int mpl_6, .int mcp_7, .ref mre, .ref mnn, .ref mwo, .ref mga, .ref mlo, .ref mro, .ref mle, .ref mra, .int mme, .ref mha, .int mch, .int mtm, .int mgo, .int mwa, .ref mba, .int mbl, .ref mon])), (mk, .inl (cI, 4, .inl mkf)), (mpo, .inl (cI, 12, .inl mpof_8)), (mre, .inl (cI, 12, .inl mref_16))] H := hP
          have hD : va_D A [(mro, .inl (cI, 3600, .inl mrof)), (mle, .inl (cI, 300, .inl mlef)), (mi, .inl (cI, 12, .inl mif_12)), (mpi, .inl (cI, 26, .inl mpif_9)), (m0, .inr (8, [.int mth, .int mst, .ref mp, .int mln, .ref mk, .int mts, .ref mti, .ref mtw, .ref mi, .int v1, .ref mpo, .int mpd_5, .ref mpi, .int mpl_6, .int mcp_7, .ref mre, .ref mnn, .ref mwo, .ref mga, .ref mlo, .ref mro, .ref mle, .ref mra, .int mme, .ref mha, .int mch, .int mtm, .int mgo, .int mwa, .ref mba, .int mbl, .ref mon])), (mk, .inl (cI, 4, .inl mkf)), (mpo, .inl (cI, 12, .inl mpof_8)), (mre, .inl (cI, 12, .inl mref_16))] := hD
          exact hret r14 (v1, mif_12, mpd_5, mpl_6, mcp_7, mpof_8, mpif_9, mref_16) H locs 59 ls rfl ⟨(show r14.toInt < 0 ∨ (0 ≤ mpd_5.toInt ∧ mpd_5.toInt ≤ 12) from by first | omega | (right; omega)), (show r14.toInt < 0 ∨ WFn mpof_8 mpd_5.toInt.toNat from by first | (left; omega) | (right; rcases hr1 with h | h; exact absurd (by omega) h; exact h)), (show 0 ≤ v1.toInt ∧ v1.toInt ≤ 12 from by first | rfl | assumption | omega), (show mcp_7.toInt = 0 ∨ mcp_7.toInt = 1 from by first | rfl | assumption | omega), trivial⟩ (hP.sub (ws' := [(m0, .inr (8, [.int mth, .int mst, .ref mp, .int mln, .ref mk, .int mts, .ref mti, .ref mtw, .ref mi, .int v1, .ref mpo, .int mpd_5, .ref mpi, .int mpl_6, .int mcp_7, .ref mre, .ref mnn, .ref mwo, .ref mga, .ref mlo, .ref mro, .ref mle, .ref mra, .int mme, .ref mha, .int mch, .int mtm, .int mgo, .int mwa, .ref mba, .int mbl, .ref mon])), (mk, .inl (cI, 4, .inl mkf)), (mi, .inl (cI, 12, .inl mif_12)), (mpo, .inl (cI, 12, .inl mpof_8)), (mpi, .inl (cI, 26, .inl mpif_9)), (mre, .inl (cI, 12, .inl mref_16)), (mro, .inl (cI, 3600, .inl mrof)), (mle, .inl (cI, 300, .inl mlef))]) [4, 5, 2, 6, 3, 7, 0, 1] rfl) (hD.sub (ws' := [(m0, .inr (8, [.int mth, .int mst, .ref mp, .int mln, .ref mk, .int mts, .ref mti, .ref mtw, .ref mi, .int v1, .ref mpo, .int mpd_5, .ref mpi, .int mpl_6, .int mcp_7, .ref mre, .ref mnn, .ref mwo, .ref mga, .ref mlo, .ref mro, .ref mle, .ref mra, .int mme, .ref mha, .int mch, .int mtm, .int mgo, .int mwa, .ref mba, .int mbl, .ref mon])), (mk, .inl (cI, 4, .inl mkf)), (mi, .inl (cI, 12, .inl mif_12)), (mpo, .inl (cI, 12, .inl mpof_8)), (mpi, .inl (cI, 26, .inl mpif_9)), (mre, .inl (cI, 12, .inl mref_16)), (mro, .inl (cI, 3600, .inl mrof)), (mle, .inl (cI, 300, .inl mlef))]) [4, 5, 2, 6, 3, 7, 0, 1] (by decide) rfl) hS dX9_readMending_59
        · have c13' := I_ne c13
          refine lv_iconst (v := (-1)) hx hb dX9_readMending_51 (by decide) ?_
          refine lv_goto (tgt := 59) hx hb dX9_readMending_52 (by decide) ?_
          exact hret (-1) (v1, mif_12, mpd_5, mpl_6, mcp_7, mpof_8, mpif_9, mref) H locs 59 ls rfl ⟨(show (-1 : Int32).toInt < 0 ∨ (0 ≤ mpd_5.toInt ∧ mpd_5.toInt ≤ 12) from by first | omega | (right; omega)), (show (-1 : Int32).toInt < 0 ∨ WFn mpof_8 mpd_5.toInt.toNat from by first | (left; omega) | (right; rcases hr1 with h | h; exact absurd (by omega) h; exact h)), (show 0 ≤ v1.toInt ∧ v1.toInt ≤ 12 from by first | rfl | assumption | omega), (show mcp_7.toInt = 0 ∨ mcp_7.toInt = 1 from by first | rfl | assumption | omega), trivial⟩ (hP.sub (ws' := [(m0, .inr (8, [.int mth, .int mst, .ref mp, .int mln, .ref mk, .int mts, .ref mti, .ref mtw, .ref mi, .int v1, .ref mpo, .int mpd_5, .ref mpi, .int mpl_6, .int mcp_7, .ref mre, .ref mnn, .ref mwo, .ref mga, .ref mlo, .ref mro, .ref mle, .ref mra, .int mme, .ref mha, .int mch, .int mtm, .int mgo, .int mwa, .ref mba, .int mbl, .ref mon])), (mk, .inl (cI, 4, .inl mkf)), (mi, .inl (cI, 12, .inl mif_12)), (mpo, .inl (cI, 12, .inl mpof_8)), (mpi, .inl (cI, 26, .inl mpif_9)), (mre, .inl (cI, 12, .inl mref)), (mro, .inl (cI, 3600, .inl mrof)), (mle, .inl (cI, 300, .inl mlef))]) [4, 0, 5, 6, 7, 1, 2, 3] rfl) (hD.sub (ws' := [(m0, .inr (8, [.int mth, .int mst, .ref mp, .int mln, .ref mk, .int mts, .ref mti, .ref mtw, .ref mi, .int v1, .ref mpo, .int mpd_5, .ref mpi, .int mpl_6, .int mcp_7, .ref mre, .ref mnn, .ref mwo, .ref mga, .ref mlo, .ref mro, .ref mle, .ref mra, .int mme, .ref mha, .int mch, .int mtm, .int mgo, .int mwa, .ref mba, .int mbl, .ref mon])), (mk, .inl (cI, 4, .inl mkf)), (mi, .inl (cI, 12, .inl mif_12)), (mpo, .inl (cI, 12, .inl mpof_8)), (mpi, .inl (cI, 26, .inl mpif_9)), (mre, .inl (cI, 12, .inl mref)), (mro, .inl (cI, 3600, .inl mrof)), (mle, .inl (cI, 300, .inl mlef))]) [4, 0, 5, 6, 7, 1, 2, 3] (by decide) rfl) hS dX9_readMending_59
      · have c2' := I_nle c2
        refine lv_aload_n hx hb dX9_readMending_20 rfl (lv_at hl 1 rfl) ?_
        refine va_get (D := (dC, dI)) (ci := 8) (v := .ref mi) (C := RX9) (T := TX9) (N := 32) hx hb hts inG_X9 hown hK hP 0 rfl rfl 8 (by decide) (hts _ fl_X9_22) (fun _ h9 => h9) rfl dX9_readMending_21 ?_
        refine lv_iload_n hx hb dX9_readMending_24 rfl (lv_at hl 0 rfl) ?_
        refine lv_aload_n hx hb dX9_readMending_25 rfl (lv_at hl 1 rfl) ?_
        refine va_get (D := (dC, dI)) (ci := 8) (v := .ref mro) (C := RX9) (T := TX9) (N := 32) hx hb hts inG_X9 hown hK hP 0 rfl rfl 20 (by decide) (hts _ fl_X9_47) (fun _ h9 => h9) rfl dX9_readMending_26 ?_
        refine lv_bipush (v := 12) hx hb dX9_readMending_29 (by decide) ?_
        refine lv_iload_n hx hb dX9_readMending_31 rfl (lv_at hl 2 rfl) ?_
        refine lv_imul hx hb dX9_readMending_32 ?_
        refine lv_topi (fun v17 ev17 => ?_)
        try have hv17 := I_mulxl (12) ev17 (by decide) (by omega)
        refine lv_iload_n hx hb dX9_readMending_33 rfl (lv_at hl 0 rfl) ?_
        refine lv_iadd hx hb dX9_readMending_34 ?_
        refine lv_topi (fun v18 ev18 => ?_)
        try have hv18 : v18.toInt = v17.toInt + L2_12.toInt := I_addx ev18 (by omega)
        refine va_iald (t0 := 0) hx hb hK hP 6 (ha := rfl) (ht := rfl) (I_in (by omega) (by omega)) dX9_readMending_35 ?_
        refine lv_topi (fun v19 ev19 => ?_)
        refine va_iast (t0 := 0) hx hb hK hP hD hS 2 (ha := rfl) (ht := rfl) (I_in (by omega) (by omega)) dX9_readMending_36 (fun H locs hP hD hS => ?_)
        have hP : va_P (dC, dI) vwCl [(m0, .inr (8, [.int mth, .int mst, .ref mp, .int mln, .ref mk, .int mts, .ref mti, .ref mtw, .ref mi, .int v1, .ref mpo, .int mpd, .ref mpi, .int mpl, .int mcp, .ref mre, .ref mnn, .ref mwo, .ref mga, .ref mlo, .ref mro, .ref mle, .ref mra, .int mme, .ref mha, .int mch, .int mtm, .int mgo, .int mwa, .ref mba, .int mbl, .ref mon])), (mk, .inl (cI, 4, .inl mkf)), (mi, .inl (cI, 12, .inl (upd mif_12 L2_12.toNatClampNeg v19))), (mpo, .inl (cI, 12, .inl mpof)), (mpi, .inl (cI, 26, .inl mpif)), (mre, .inl (cI, 12, .inl mref)), (mro, .inl (cI, 3600, .inl mrof)), (mle, .inl (cI, 300, .inl mlef))] H := hP
        have hD : va_D A [(m0, .inr (8, [.int mth, .int mst, .ref mp, .int mln, .ref mk, .int mts, .ref mti, .ref mtw, .ref mi, .int v1, .ref mpo, .int mpd, .ref mpi, .int mpl, .int mcp, .ref mre, .ref mnn, .ref mwo, .ref mga, .ref mlo, .ref mro, .ref mle, .ref mra, .int mme, .ref mha, .int mch, .int mtm, .int mgo, .int mwa, .ref mba, .int mbl, .ref mon])), (mk, .inl (cI, 4, .inl mkf)), (mi, .inl (cI, 12, .inl (upd mif_12 L2_12.toNatClampNeg v19))), (mpo, .inl (cI, 12, .inl mpof)), (mpi, .inl (cI, 26, .inl mpif)), (mre, .inl (cI, 12, .inl mref)), (mro, .inl (cI, 3600, .inl mrof)), (mle, .inl (cI, 300, .inl mlef))] := hD
        generalize ef20 : upd mif_12 L2_12.toNatClampNeg v19 = f20 at hP hD
        obtain ⟨v21, ev21⟩ : ∃ y : Int32, y = L2_12 + 1 := ⟨_, rfl⟩
        try have hv21 : v21.toInt = L2_12.toInt + (1 : Int32).toInt := I_addx ev21 (by omega)
        refine lv_iinc (v := v21) (lv' := [(2, .int v21), (0, .ref m0), (1, .int i)]) hx hb dX9_readMending_37 hl (k := 0) rfl (by rw [ev21]; rfl) (by decide) rfl (fun ls hl => ?_)
        refine lv_goto (tgt := 12) hx hb dX9_readMending_40 (by decide) ?_
        exact ih12 v21 f20 (by first | assumption | omega) (by omega) H locs ls hP hD hS hl
  exact J12 ((12 - (0 : Int32).toInt).toNat + 1) 0 mif (by first | assumption | omega) (by omega) H locs ls hP hD hS hl
set_option maxHeartbeats 4000000 in
set_option maxRecDepth 100000 in
theorem c_X9_setInputs (l : Launch) (dC : Nat → ClassId) (dI : Nat → Nat → Nat) (cI cJ : ClassId) (base bB bO : Nat) (m0 : Nat) (mth : Int32) (mst : Int32) (mp : Nat) (mln : Int32) (mk : Nat) (mts : Int32) (mti : Nat) (mtw : Nat) (mi : Nat) (mmn : Int32) (mpo : Nat) (mpd : Int32) (mpi : Nat) (mpl : Int32) (mcp : Int32) (mre : Nat) (mnn : Nat) (mwo : Nat) (mga : Nat) (mlo : Nat) (mro : Nat) (mle : Nat) (mra : Nat) (mme : Int32) (mha : Nat) (mch : Int32) (mtm : Int32) (mgo : Int32) (mwa : Int32) (mba : Nat) (mbl : Int32) (mon : Nat) (mnnf : Nat → Int32) (x : Int32)  : CtV l dC dI cI cJ base bB bO yX9_setInputs cX9_setInputs 4 0 0 0 0 [.ref m0, .int x] [(m0, .inr (8, [.int mth, .int mst, .ref mp, .int mln, .ref mk, .int mts, .ref mti, .ref mtw, .ref mi, .int mmn, .ref mpo, .int mpd, .ref mpi, .int mpl, .int mcp, .ref mre, .ref mnn, .ref mwo, .ref mga, .ref mlo, .ref mro, .ref mle, .ref mra, .int mme, .ref mha, .int mch, .int mtm, .int mgo, .int mwa, .ref mba, .int mbl, .ref mon])), (mnn, .inl (cI, 4, .inl mnnf))] ((Nat → Int32)) (fun (u : (Nat → Int32)) => True) (fun (u : (Nat → Int32)) => [(m0, .inr (8, [.int mth, .int mst, .ref mp, .int mln, .ref mk, .int mts, .ref mti, .ref mtw, .ref mi, .int mmn, .ref mpo, .int mpd, .ref mpi, .int mpl, .int mcp, .ref mre, .ref mnn, .ref mwo, .ref mga, .ref mlo, .ref mro, .ref mle, .ref mra, .int mme, .ref mha, .int mch, .int mtm, .int mgo, .int mwa, .ref mba, .int mbl, .ref mon])), (mnn, .inl (cI, 4, .inl u))]) := by
  refine entV (by decide) (Nat.le_of_ble_eq_true rfl) ?_
  intro p e s m below meth c A Q ls hAt hret hP hD hS hl
  obtain ⟨hx, hb, hml, hown, hts, hA, hAb, hK, hE, hlocks, hin⟩ := hAt
  have hG : CG dC dI cI cJ base bB bO cX9_setInputs 4 RX9 p s m (List.toArray [.ref m0, .int x]) c A := ⟨hx, hb, hml, hown, hts, hA, hAb, hK, hE⟩
  have hl : lv_has ls 4 [(0, .ref m0), (1, .int x)] := hl
  have c_m1 : (-1 : Int32).toInt = -1 := by decide
  have c_0 : (0 : Int32).toInt = 0 := by decide
  have c_1 : (1 : Int32).toInt = 1 := by decide
  have c_2 : (2 : Int32).toInt = 2 := by decide
  have c_3 : (3 : Int32).toInt = 3 := by decide
  have c_5 : (5 : Int32).toInt = 5 := by decide
  obtain ⟨H, hHe⟩ : ∃ H : Heap, H = s.heap := ⟨_, rfl⟩
  obtain ⟨locs, hle⟩ : ∃ z : List Loc, z = [] := ⟨_, rfl⟩
  rw [← hHe] at hP
  have hS : va_S A s.heap H locs := by rw [hHe, hle]; exact hS
  suffices hgo : W p l e { frames := 0, cells := 0, slots := 0, locals := 0 } s m (List.toArray [.ref m0, .int x]) below meth c H locs 0 0 Q (F0 m 0 ls []) by rw [hHe, hle] at hgo; exact hgo
  refine lv_iload_n hx hb dX9_setInputs_0 rfl (lv_at hl 1 rfl) ?_
  refine lv_istore_n (lv' := [(2, .int x), (0, .ref m0), (1, .int x)]) hx hb dX9_setInputs_1 rfl hl (by decide) rfl (fun ls hl => ?_)
  refine lv_iconst (v := 3) hx hb dX9_setInputs_2 (by decide) ?_
  refine lv_istore_n (lv' := [(3, .int 3), (2, .int x), (0, .ref m0), (1, .int x)]) hx hb dX9_setInputs_3 rfl hl (by decide) rfl (fun ls hl => ?_)
  have J4 : ∀ (n : Nat) (L3_4 : Int32) (L2_4 : Int32) (mnnf_4 : Nat → Int32), (-1 ≤ L3_4.toInt ∧ L3_4.toInt ≤ 3) → (L3_4.toInt + 1) < (n : Int) → ∀ (H : Heap) (locs : List Loc) (ls : Array Slot), va_P (dC, dI) vwCl [(m0, .inr (8, [.int mth, .int mst, .ref mp, .int mln, .ref mk, .int mts, .ref mti, .ref mtw, .ref mi, .int mmn, .ref mpo, .int mpd, .ref mpi, .int mpl, .int mcp, .ref mre, .ref mnn, .ref mwo, .ref mga, .ref mlo, .ref mro, .ref mle, .ref mra, .int mme, .ref mha, .int mch, .int mtm, .int mgo, .int mwa, .ref mba, .int mbl, .ref mon])), (mnn, .inl (cI, 4, .inl mnnf_4))] H → va_D A [(m0, .inr (8, [.int mth, .int mst, .ref mp, .int mln, .ref mk, .int mts, .ref mti, .ref mtw, .ref mi, .int mmn, .ref mpo, .int mpd, .ref mpi, .int mpl, .int mcp, .ref mre, .ref mnn, .ref mwo, .ref mga, .ref mlo, .ref mro, .ref mle, .ref mra, .int mme, .ref mha, .int mch, .int mtm, .int mgo, .int mwa, .ref mba, .int mbl, .ref mon])), (mnn, .inl (cI, 4, .inl mnnf_4))] → va_S A s.heap H locs → lv_has ls 4 [(3, .int L3_4), (2, .int L2_4), (0, .ref m0), (1, .int x)] → W p l e { frames := 0, cells := 0, slots := 0, locals := 0 } s m (List.toArray [.ref m0, .int x]) below meth c H locs 0 0 Q (F0 m 4 ls []) := by
    intro n
    induction n with
    | zero =>
      intro L3_4 L2_4 mnnf_4 hi0_4 hm
      exact absurd hm (by omega)
    | succ n ih4 =>
      intro L3_4 L2_4 mnnf_4 hi0_4 hm4 H locs ls hP hD hS hl
      refine lv_iload_n hx hb dX9_setInputs_4 rfl (lv_at hl 0 rfl) ?_
      refine lv_if_lt (tgt := 29) hx hb dX9_setInputs_5 (by decide) (fun c1 => ?_) (fun c1 => ?_)
      · have c1' := I_lt c1
        exact hret mnnf_4 H locs 29 ls trivial hP hD hS dX9_setInputs_29
      · have c1' := I_nlt c1
        refine lv_aload_n hx hb dX9_setInputs_8 rfl (lv_at hl 2 rfl) ?_
        refine va_get (D := (dC, dI)) (ci := 8) (v := .ref mnn) (C := RX9) (T := TX9) (N := 32) hx hb hts inG_X9 hown hK hP 0 rfl rfl 16 (by decide) (hts _ fl_X9_34) (fun _ h9 => h9) rfl dX9_setInputs_9 ?_
        refine lv_iload_n hx hb dX9_setInputs_12 rfl (lv_at hl 0 rfl) ?_
        refine lv_iload_n hx hb dX9_setInputs_13 rfl (lv_at hl 1 rfl) ?_
        refine lv_iconst (v := 5) hx hb dX9_setInputs_14 (by decide) ?_
        refine lv_irem hx hb dX9_setInputs_15 (by decide) ?_
        refine lv_topi (fun v2 ev2 => ?_)
        have hv2 := I_irem L2_4 (5 : Int32) 5 (by decide) (by decide)
        rw [← ev2] at hv2
        try replace hv2 := hv2 (by omega)
        refine lv_iconst (v := 2) hx hb dX9_setInputs_16 (by decide) ?_
        refine lv_isub hx hb dX9_setInputs_17 ?_
        refine lv_topi (fun v3 ev3 => ?_)
        try have hv3 : v3.toInt = v2.toInt - (2 : Int32).toInt := I_subx ev3 (by omega)
        refine va_iast (t0 := 0) hx hb hK hP hD hS 1 (ha := rfl) (ht := rfl) (I_in (by omega) (by omega)) dX9_setInputs_18 (fun H locs hP hD hS => ?_)
        have hP : va_P (dC, dI) vwCl [(m0, .inr (8, [.int mth, .int mst, .ref mp, .int mln, .ref mk, .int mts, .ref mti, .ref mtw, .ref mi, .int mmn, .ref mpo, .int mpd, .ref mpi, .int mpl, .int mcp, .ref mre, .ref mnn, .ref mwo, .ref mga, .ref mlo, .ref mro, .ref mle, .ref mra, .int mme, .ref mha, .int mch, .int mtm, .int mgo, .int mwa, .ref mba, .int mbl, .ref mon])), (mnn, .inl (cI, 4, .inl (upd mnnf_4 L3_4.toNatClampNeg v3)))] H := hP
        have hD : va_D A [(m0, .inr (8, [.int mth, .int mst, .ref mp, .int mln, .ref mk, .int mts, .ref mti, .ref mtw, .ref mi, .int mmn, .ref mpo, .int mpd, .ref mpi, .int mpl, .int mcp, .ref mre, .ref mnn, .ref mwo, .ref mga, .ref mlo, .ref mro, .ref mle, .ref mra, .int mme, .ref mha, .int mch, .int mtm, .int mgo, .int mwa, .ref mba, .int mbl, .ref mon])), (mnn, .inl (cI, 4, .inl (upd mnnf_4 L3_4.toNatClampNeg v3)))] := hD
        generalize ef4 : upd mnnf_4 L3_4.toNatClampNeg v3 = f4 at hP hD
        refine lv_iload_n hx hb dX9_setInputs_19 rfl (lv_at hl 1 rfl) ?_
        refine lv_iconst (v := 5) hx hb dX9_setInputs_20 (by decide) ?_
        refine lv_idiv hx hb dX9_setInputs_21 (by decide) ?_
        refine lv_topi (fun v5 ev5 => ?_)
        have hv5 := I_idiv L2_4 (5 : Int32) 5 (by decide) (by decide)
        rw [← ev5] at hv5
        try replace hv5 := hv5 (by omega)
        refine lv_istore_n (lv' := [(2, .int v5), (3, .int L3_4), (0, .ref m0), (1, .int x)]) hx hb dX9_setInputs_22 rfl hl (by decide) rfl (fun ls hl => ?_)
        obtain ⟨v6, ev6⟩ : ∃ y : Int32, y = L3_4 + (-1) := ⟨_, rfl⟩
        try have hv6 : v6.toInt = L3_4.toInt + (-1 : Int32).toInt := I_addx ev6 (by omega)
        refine lv_iinc (v := v6) (lv' := [(3, .int v6), (2, .int v5), (0, .ref m0), (1, .int x)]) hx hb dX9_setInputs_23 hl (k := 1) rfl (by rw [ev6]; rfl) (by decide) rfl (fun ls hl => ?_)
        refine lv_goto (tgt := 4) hx hb dX9_setInputs_26 (by decide) ?_
        exact ih4 v6 v5 f4 (by first | assumption | omega) (by omega) H locs ls hP hD hS hl
  exact J4 (((3 : Int32).toInt + 1).toNat + 1) 3 x mnnf (by first | assumption | omega) (by omega) H locs ls hP hD hS hl
set_option maxHeartbeats 20000000 in
set_option maxRecDepth 100000 in
theorem c_X9_apart (l : Launch) (dC : Nat → ClassId) (dI : Nat → Nat → Nat) (cI cJ : ClassId) (base bB bO : Nat) (m0 : Nat) (mth : Int32) (mst : Int32) (mp : Nat) (mln : Int32) (mk : Nat) (mts : Int32) (mti : Nat) (mtw : Nat) (mi : Nat) (mmn : Int32) (mpo : Nat) (mpd : Int32) (mpi : Nat) (mpl : Int32) (mcp : Int32) (mre : Nat) (mnn : Nat) (mwo : Nat) (mga : Nat) (mlo : Nat) (mro : Nat) (mle : Nat) (mra : Nat) (mme : Int32) (mha : Nat) (mch : Int32) (mtm : Int32) (mgo : Int32) (mwa : Int32) (mba : Nat) (mbl : Int32) (mon : Nat) (mkf : Nat → Int32) (mif : Nat → Int32) (mpof : Nat → Int32) (mpif : Nat → Int32) (mref : Nat → Int32) (mnnf : Nat → Int32) (mwof : Nat → Int64) (mrof : Nat → Int32) (mlef : Nat → Int32) (monf : Nat → Int32) (i : Int32) (x : Int32) (hq0 : ∀ j : Nat, 0 ≤ (mlef j).toInt ∧ (mlef j).toInt ≤ 12) (hq1 : 0 ≤ mme.toInt ∧ mme.toInt ≤ 300) (hq2 : 0 ≤ mmn.toInt ∧ mmn.toInt ≤ 12) (hq3 : mcp.toInt = 0 ∨ mcp.toInt = 1) : CtI l dC dI cI cJ base bB bO yX9_apart cX9_apart 6 .int 6 127 [.ref m0, .int i, .int x] [(m0, .inr (8, [.int mth, .int mst, .ref mp, .int mln, .ref mk, .int mts, .ref mti, .ref mtw, .ref mi, .int mmn, .ref mpo, .int mpd, .ref mpi, .int mpl, .int mcp, .ref mre, .ref mnn, .ref mwo, .ref mga, .ref mlo, .ref mro, .ref mle, .ref mra, .int mme, .ref mha, .int mch, .int mtm, .int mgo, .int mwa, .ref mba, .int mbl, .ref mon])), (mk, .inl (cI, 4, .inl mkf)), (mi, .inl (cI, 12, .inl mif)), (mpo, .inl (cI, 12, .inl mpof)), (mpi, .inl (cI, 26, .inl mpif)), (mre, .inl (cI, 12, .inl mref)), (mnn, .inl (cI, 4, .inl mnnf)), (mwo, .inl (cJ, 12, .inr (.inl mwof))), (mro, .inl (cI, 3600, .inl mrof)), (mle, .inl (cI, 300, .inl mlef)), (mon, .inl (cI, 625, .inl monf))] ((Int32) × (Int32) × (Nat → Int32) × (Int32) × (Int32) × (Int32) × (Nat → Int32) × (Nat → Int32) × (Nat → Int32) × (Nat → Int32) × (Nat → Int64) × (Nat → Int32)) (fun (res : Int32) (u : (Int32) × (Int32) × (Nat → Int32) × (Int32) × (Int32) × (Int32) × (Nat → Int32) × (Nat → Int32) × (Nat → Int32) × (Nat → Int32) × (Nat → Int64) × (Nat → Int32)) => (0 ≤ u.2.1.toInt ∧ u.2.1.toInt ≤ 12) ∧ (u.2.2.2.2.2.1.toInt = 0 ∨ u.2.2.2.2.2.1.toInt = 1) ∧ True) (fun (u : (Int32) × (Int32) × (Nat → Int32) × (Int32) × (Int32) × (Int32) × (Nat → Int32) × (Nat → Int32) × (Nat → Int32) × (Nat → Int32) × (Nat → Int64) × (Nat → Int32)) => [(m0, .inr (8, [.int u.1, .int mst, .ref mp, .int mln, .ref mk, .int mts, .ref mti, .ref mtw, .ref mi, .int u.2.1, .ref mpo, .int u.2.2.2.1, .ref mpi, .int u.2.2.2.2.1, .int u.2.2.2.2.2.1, .ref mre, .ref mnn, .ref mwo, .ref mga, .ref mlo, .ref mro, .ref mle, .ref mra, .int mme, .ref mha, .int mch, .int mtm, .int mgo, .int mwa, .ref mba, .int mbl, .ref mon])), (mk, .inl (cI, 4, .inl mkf)), (mi, .inl (cI, 12, .inl u.2.2.1)), (mpo, .inl (cI, 12, .inl u.2.2.2.2.2.2.1)), (mpi, .inl (cI, 26, .inl u.2.2.2.2.2.2.2.1)), (mre, .inl (cI, 12, .inl u.2.2.2.2.2.2.2.2.1)), (mnn, .inl (cI, 4, .inl u.2.2.2.2.2.2.2.2.2.1)), (mwo, .inl (cJ, 12, .inr (.inl u.2.2.2.2.2.2.2.2.2.2.1))), (mro, .inl (cI, 3600, .inl mrof)), (mle, .inl (cI, 300, .inl mlef)), (mon, .inl (cI, 625, .inl u.2.2.2.2.2.2.2.2.2.2.2))]) := by
  refine entI (by decide) (Nat.le_of_ble_eq_true rfl) ?_
  intro p e s m below meth c A Q ls hAt hret hP hD hS hl
  obtain ⟨hx, hb, hml, hown, hts, hA, hAb, hK, hE, hlocks, hin⟩ := hAt
  have hG : CG dC dI cI cJ base bB bO cX9_apart 6 RX9 p s m (List.toArray [.ref m0, .int i, .int x]) c A := ⟨hx, hb, hml, hown, hts, hA, hAb, hK, hE⟩
  have hl : lv_has ls 6 [(0, .ref m0), (1, .int i), (2, .int x)] := hl
  have c_m6 : (-6 : Int32).toInt = -6 := by decide
  have c_m2 : (-2 : Int32).toInt = -2 := by decide
  have c_m1 : (-1 : Int32).toInt = -1 := by decide
  have c_0 : (0 : Int32).toInt = 0 := by decide
  have c_1 : (1 : Int32).toInt = 1 := by decide
  have c_625 : (625 : Int32).toInt = 625 := by decide
  obtain ⟨H, hHe⟩ : ∃ H : Heap, H = s.heap := ⟨_, rfl⟩
  obtain ⟨locs, hle⟩ : ∃ z : List Loc, z = [] := ⟨_, rfl⟩
  rw [← hHe] at hP
  have hS : va_S A s.heap H locs := by rw [hHe, hle]; exact hS
  suffices hgo : W p l e { frames := 6, cells := 0, slots := 0, locals := 127 } s m (List.toArray [.ref m0, .int i, .int x]) below meth c H locs 0 0 Q (F0 m 0 ls []) by rw [hHe, hle] at hgo; exact hgo
  refine lv_aload_n hx hb dX9_apart_0 rfl (lv_at hl 0 rfl) ?_
  refine lv_iconst (v := 0) hx hb dX9_apart_1 (by decide) ?_
  refine va_put (D := (dC, dI)) (ci := 8) (v := .int 0) (ty := .int) (C := RX9) (T := TX9) (N := 32) hx hb hts inG_X9 tyX9 tyX9_ok nmX9 hown hK hP hD hS 0 rfl rfl 0 (by decide) (hts _ fl_X9_69) (fun _ h9 => h9) rfl (by decide +kernel) rfl rfl (Nat.le_of_ble_eq_true rfl) dX9_apart_2 (fun H locs hP hD hS => ?_)
  have hP : va_P (dC, dI) vwCl [(m0, .inr (8, [.int 0, .int mst, .ref mp, .int mln, .ref mk, .int mts, .ref mti, .ref mtw, .ref mi, .int mmn, .ref mpo, .int mpd, .ref mpi, .int mpl, .int mcp, .ref mre, .ref mnn, .ref mwo, .ref mga, .ref mlo, .ref mro, .ref mle, .ref mra, .int mme, .ref mha, .int mch, .int mtm, .int mgo, .int mwa, .ref mba, .int mbl, .ref mon])), (mk, .inl (cI, 4, .inl mkf)), (mi, .inl (cI, 12, .inl mif)), (mpo, .inl (cI, 12, .inl mpof)), (mpi, .inl (cI, 26, .inl mpif)), (mre, .inl (cI, 12, .inl mref)), (mnn, .inl (cI, 4, .inl mnnf)), (mwo, .inl (cJ, 12, .inr (.inl mwof))), (mro, .inl (cI, 3600, .inl mrof)), (mle, .inl (cI, 300, .inl mlef)), (mon, .inl (cI, 625, .inl monf))] H := hP
  have hD : va_D A [(m0, .inr (8, [.int 0, .int mst, .ref mp, .int mln, .ref mk, .int mts, .ref mti, .ref mtw, .ref mi, .int mmn, .ref mpo, .int mpd, .ref mpi, .int mpl, .int mcp, .ref mre, .ref mnn, .ref mwo, .ref mga, .ref mlo, .ref mro, .ref mle, .ref mra, .int mme, .ref mha, .int mch, .int mtm, .int mgo, .int mwa, .ref mba, .int mbl, .ref mon])), (mk, .inl (cI, 4, .inl mkf)), (mi, .inl (cI, 12, .inl mif)), (mpo, .inl (cI, 12, .inl mpof)), (mpi, .inl (cI, 26, .inl mpif)), (mre, .inl (cI, 12, .inl mref)), (mnn, .inl (cI, 4, .inl mnnf)), (mwo, .inl (cJ, 12, .inr (.inl mwof))), (mro, .inl (cI, 3600, .inl mrof)), (mle, .inl (cI, 300, .inl mlef)), (mon, .inl (cI, 625, .inl monf))] := hD
  refine lv_aload_n hx hb dX9_apart_5 rfl (lv_at hl 0 rfl) ?_
  refine lv_iload_n hx hb dX9_apart_6 rfl (lv_at hl 1 rfl) ?_
  refine calI (rest := []) (wr := [(mk, .inl (cI, 4, .inl mkf)), (mi, .inl (cI, 12, .inl mif)), (mpo, .inl (cI, 12, .inl mpof)), (mpi, .inl (cI, 26, .inl mpif)), (mre, .inl (cI, 12, .inl mref)), (mnn, .inl (cI, 4, .inl mnnf)), (mwo, .inl (cJ, 12, .inr (.inl mwof))), (mro, .inl (cI, 3600, .inl mrof)), (mle, .inl (cI, 300, .inl mlef)), (mon, .inl (cI, 625, .inl monf))]) hG (c_X9_isMending l dC dI cI cJ base bB bO m0 0 mst mp mln mk mts mti mtw mi mmn mpo mpd mpi mpl mcp mre mnn mwo mga mlo mro mle mra mme mha mch mtm mgo mwa mba mbl mon i (by first | assumption | omega)) ml_X9_211 im_X9_isMending se_X9_isMending ini_X9 cd_X9_isMending hd_X9_isMending ⟨(Nat.le_of_ble_eq_true rfl), (Nat.le_of_ble_eq_true rfl)⟩ (Nat.le_of_ble_eq_true rfl) (Nat.le_of_ble_eq_true rfl) hP hD hS [0] [1, 2, 3, 4, 5, 6, 7, 8, 9, 10] rfl rfl rfl rfl (by decide) 8 0 rfl rfl hl.1 rfl (Nat.le_of_ble_eq_true rfl) dX9_apart_7 (fun r1 u H locs hw2 hP hD hS => ?_)
  have hw2 : ((r1.toInt = 1 ∧ 0 ≤ i.toInt ∧ i.toInt < mme.toInt) ∨ (r1.toInt = 0 ∧ (i.toInt < 0 ∨ mme.toInt ≤ i.toInt))) ∧ True := hw2
  obtain ⟨hp3, -⟩ := hw2
  have hP : va_P (dC, dI) vwCl [(mk, .inl (cI, 4, .inl mkf)), (mi, .inl (cI, 12, .inl mif)), (mpo, .inl (cI, 12, .inl mpof)), (mpi, .inl (cI, 26, .inl mpif)), (mre, .inl (cI, 12, .inl mref)), (mnn, .inl (cI, 4, .inl mnnf)), (mwo, .inl (cJ, 12, .inr (.inl mwof))), (mro, .inl (cI, 3600, .inl mrof)), (mle, .inl (cI, 300, .inl mlef)), (mon, .inl (cI, 625, .inl monf)), (m0, .inr (8, [.int 0, .int mst, .ref mp, .int mln, .ref mk, .int mts, .ref mti, .ref mtw, .ref mi, .int mmn, .ref mpo, .int mpd, .ref mpi, .int mpl, .int mcp, .ref mre, .ref mnn, .ref mwo, .ref mga, .ref mlo, .ref mro, .ref mle, .ref mra, .int mme, .ref mha, .int mch, .int mtm, .int mgo, .int mwa, .ref mba, .int mbl, .ref mon]))] H := hP
  have hD : va_D A [(mk, .inl (cI, 4, .inl mkf)), (mi, .inl (cI, 12, .inl mif)), (mpo, .inl (cI, 12, .inl mpof)), (mpi, .inl (cI, 26, .inl mpif)), (mre, .inl (cI, 12, .inl mref)), (mnn, .inl (cI, 4, .inl mnnf)), (mwo, .inl (cJ, 12, .inr (.inl mwof))), (mro, .inl (cI, 3600, .inl mrof)), (mle, .inl (cI, 300, .inl mlef)), (mon, .inl (cI, 625, .inl monf)), (m0, .inr (8, [.int 0, .int mst, .ref mp, .int mln, .ref mk, .int mts, .ref mti, .ref mtw, .ref mi, .int mmn, .ref mpo, .int mpd, .ref mpi, .int mpl, .int mcp, .ref mre, .ref mnn, .ref mwo, .ref mga, .ref mlo, .ref mro, .ref mle, .ref mra, .int mme, .ref mha, .int mch, .int mtm, .int mgo, .int mwa, .ref mba, .int mbl, .ref mon]))] := hD
  refine lv_if_eq (tgt := 21) hx hb dX9_apart_10 (by decide) (fun c4 => ?_) (fun c4 => ?_)
  · have c4' := I_eq c4
    refine lv_bipush (v := (-2)) hx hb dX9_apart_21 (by decide) ?_
    exact hret (-2) (0, mmn, mif, mpd, mpl, mcp, mpof, mpif, mref, mnnf, mwof, monf) H locs 23 ls rfl ⟨(show 0 ≤ mmn.toInt ∧ mmn.toInt ≤ 12 from by first | rfl | assumption | omega), (show mcp.toInt = 0 ∨ mcp.toInt = 1 from by first | rfl | assumption | omega), trivial⟩ (hP.sub (ws' := [(m0, .inr (8, [.int 0, .int mst, .ref mp, .int mln, .ref mk, .int mts, .ref mti, .ref mtw, .ref mi, .int mmn, .ref mpo, .int mpd, .ref mpi, .int mpl, .int mcp, .ref mre, .ref mnn, .ref mwo, .ref mga, .ref mlo, .ref mro, .ref mle, .ref mra, .int mme, .ref mha, .int mch, .int mtm, .int mgo, .int mwa, .ref mba, .int mbl, .ref mon])), (mk, .inl (cI, 4, .inl mkf)), (mi, .inl (cI, 12, .inl mif)), (mpo, .inl (cI, 12, .inl mpof)), (mpi, .inl (cI, 26, .inl mpif)), (mre, .inl (cI, 12, .inl mref)), (mnn, .inl (cI, 4, .inl mnnf)), (mwo, .inl (cJ, 12, .inr (.inl mwof))), (mro, .inl (cI, 3600, .inl mrof)), (mle, .inl (cI, 300, .inl mlef)), (mon, .inl (cI, 625, .inl monf))]) [10, 0, 1, 2, 3, 4, 5, 6, 7, 8, 9] rfl) (hD.sub (ws' := [(m0, .inr (8, [.int 0, .int mst, .ref mp, .int mln, .ref mk, .int mts, .ref mti, .ref mtw, .ref mi, .int mmn, .ref mpo, .int mpd, .ref mpi, .int mpl, .int mcp, .ref mre, .ref mnn, .ref mwo, .ref mga, .ref mlo, .ref mro, .ref mle, .ref mra, .int mme, .ref mha, .int mch, .int mtm, .int mgo, .int mwa, .ref mba, .int mbl, .ref mon])), (mk, .inl (cI, 4, .inl mkf)), (mi, .inl (cI, 12, .inl mif)), (mpo, .inl (cI, 12, .inl mpof)), (mpi, .inl (cI, 26, .inl mpif)), (mre, .inl (cI, 12, .inl mref)), (mnn, .inl (cI, 4, .inl mnnf)), (mwo, .inl (cJ, 12, .inr (.inl mwof))), (mro, .inl (cI, 3600, .inl mrof)), (mle, .inl (cI, 300, .inl mlef)), (mon, .inl (cI, 625, .inl monf))]) [10, 0, 1, 2, 3, 4, 5, 6, 7, 8, 9] (by decide) rfl) hS dX9_apart_23
  · have c4' := I_ne c4
    refine lv_aload_n hx hb dX9_apart_13 rfl (lv_at hl 0 rfl) ?_
    refine lv_iload_n hx hb dX9_apart_14 rfl (lv_at hl 2 rfl) ?_
    refine calI (rest := []) (wr := [(mk, .inl (cI, 4, .inl mkf)), (mi, .inl (cI, 12, .inl mif)), (mpo, .inl (cI, 12, .inl mpof)), (mpi, .inl (cI, 26, .inl mpif)), (mre, .inl (cI, 12, .inl mref)), (mnn, .inl (cI, 4, .inl mnnf)), (mwo, .inl (cJ, 12, .inr (.inl mwof))), (mro, .inl (cI, 3600, .inl mrof)), (mle, .inl (cI, 300, .inl mlef)), (mon, .inl (cI, 625, .inl monf))]) hG (c_X9_isMending l dC dI cI cJ base bB bO m0 0 mst mp mln mk mts mti mtw mi mmn mpo mpd mpi mpl mcp mre mnn mwo mga mlo mro mle mra mme mha mch mtm mgo mwa mba mbl mon x (by first | assumption | omega)) ml_X9_211 im_X9_isMending se_X9_isMending ini_X9 cd_X9_isMending hd_X9_isMending ⟨(Nat.le_of_ble_eq_true rfl), (Nat.le_of_ble_eq_true rfl)⟩ (Nat.le_of_ble_eq_true rfl) (Nat.le_of_ble_eq_true rfl) hP hD hS [10] [0, 1, 2, 3, 4, 5, 6, 7, 8, 9] rfl rfl rfl rfl (by decide) 8 10 rfl rfl hl.1 rfl (Nat.le_of_ble_eq_true rfl) dX9_apart_15 (fun r5 u H locs hw6 hP hD hS => ?_)
    have hw6 : ((r5.toInt = 1 ∧ 0 ≤ x.toInt ∧ x.toInt < mme.toInt) ∨ (r5.toInt = 0 ∧ (x.toInt < 0 ∨ mme.toInt ≤ x.toInt))) ∧ True := hw6
    obtain ⟨hp7, -⟩ := hw6
    have hP : va_P (dC, dI) vwCl [(mk, .inl (cI, 4, .inl mkf)), (mi, .inl (cI, 12, .inl mif)), (mpo, .inl (cI, 12, .inl mpof)), (mpi, .inl (cI, 26, .inl mpif)), (mre, .inl (cI, 12, .inl mref)), (mnn, .inl (cI, 4, .inl mnnf)), (mwo, .inl (cJ, 12, .inr (.inl mwof))), (mro, .inl (cI, 3600, .inl mrof)), (mle, .inl (cI, 300, .inl mlef)), (mon, .inl (cI, 625, .inl monf)), (m0, .inr (8, [.int 0, .int mst, .ref mp, .int mln, .ref mk, .int mts, .ref mti, .ref mtw, .ref mi, .int mmn, .ref mpo, .int mpd, .ref mpi, .int mpl, .int mcp, .ref mre, .ref mnn, .ref mwo, .ref mga, .ref mlo, .ref mro, .ref mle, .ref mra, .int mme, .ref mha, .int mch, .int mtm, .int mgo, .int mwa, .ref mba, .int mbl, .ref mon]))] H := hP
    have hD : va_D A [(mk, .inl (cI, 4, .inl mkf)), (mi, .inl (cI, 12, .inl mif)), (mpo, .inl (cI, 12, .inl mpof)), (mpi, .inl (cI, 26, .inl mpif)), (mre, .inl (cI, 12, .inl mref)), (mnn, .inl (cI, 4, .inl mnnf)), (mwo, .inl (cJ, 12, .inr (.inl mwof))), (mro, .inl (cI, 3600, .inl mrof)), (mle, .inl (cI, 300, .inl mlef)), (mon, .inl (cI, 625, .inl monf)), (m0, .inr (8, [.int 0, .int mst, .ref mp, .int mln, .ref mk, .int mts, .ref mti, .ref mtw, .ref mi, .int mmn, .ref mpo, .int mpd, .ref mpi, .int mpl, .int mcp, .ref mre, .ref mnn, .ref mwo, .ref mga, .ref mlo, .ref mro, .ref mle, .ref mra, .int mme, .ref mha, .int mch, .int mtm, .int mgo, .int mwa, .ref mba, .int mbl, .ref mon]))] := hD
    refine lv_if_ne (tgt := 24) hx hb dX9_apart_18 (by decide) (fun c8 => ?_) (fun c8 => ?_)
    · have c8' := I_ne c8
      refine lv_aload_n hx hb dX9_apart_24 rfl (lv_at hl 0 rfl) ?_
      refine lv_iload_n hx hb dX9_apart_25 rfl (lv_at hl 1 rfl) ?_
      refine calI (rest := []) (wr := [(mnn, .inl (cI, 4, .inl mnnf)), (mwo, .inl (cJ, 12, .inr (.inl mwof))), (mon, .inl (cI, 625, .inl monf))]) hG (c_X9_readMending l dC dI cI cJ base bB bO m0 0 mst mp mln mk mts mti mtw mi mmn mpo mpd mpi mpl mcp mre mnn mwo mga mlo mro mle mra mme mha mch mtm mgo mwa mba mbl mon mkf mif mpof mpif mref mrof mlef i (by first | assumption | omega) (by first | assumption | omega)) ml_X9_214 im_X9_readMending se_X9_readMending ini_X9 cd_X9_readMending hd_X9_readMending ⟨(Nat.le_of_ble_eq_true rfl), (Nat.le_of_ble_eq_true rfl)⟩ (Nat.le_of_ble_eq_true rfl) (Nat.le_of_ble_eq_true rfl) hP hD hS [10, 0, 1, 2, 3, 4, 7, 8] [5, 6, 9] rfl rfl rfl rfl (by decide) 8 10 rfl rfl hl.1 rfl (Nat.le_of_ble_eq_true rfl) dX9_apart_26 (fun r9 u H locs hw10 hP hD hS => ?_)
      obtain ⟨mmn_11, mif_12, mpd_13, mpl_14, mcp_15, mpof_16, mpif_17, mref_18⟩ := u
      have hw10 : (r9.toInt < 0 ∨ (0 ≤ mpd_13.toInt ∧ mpd_13.toInt ≤ 12)) ∧ (r9.toInt < 0 ∨ WFn mpof_16 mpd_13.toInt.toNat) ∧ (0 ≤ mmn_11.toInt ∧ mmn_11.toInt ≤ 12) ∧ (mcp_15.toInt = 0 ∨ mcp_15.toInt = 1) ∧ True := hw10
      obtain ⟨hp19, hp20, hp21, hp22, -⟩ := hw10
      have hP : va_P (dC, dI) vwCl [(mnn, .inl (cI, 4, .inl mnnf)), (mwo, .inl (cJ, 12, .inr (.inl mwof))), (mon, .inl (cI, 625, .inl monf)), (m0, .inr (8, [.int 0, .int mst, .ref mp, .int mln, .ref mk, .int mts, .ref mti, .ref mtw, .ref mi, .int mmn_11, .ref mpo, .int mpd_13, .ref mpi, .int mpl_14, .int mcp_15, .ref mre, .ref mnn, .ref mwo, .ref mga, .ref mlo, .ref mro, .ref mle, .ref mra, .int mme, .ref mha, .int mch, .int mtm, .int mgo, .int mwa, .ref mba, .int mbl, .ref mon])), (mk, .inl (cI, 4, .inl mkf)), (mi, .inl (cI, 12, .inl mif_12)), (mpo, .inl (cI, 12, .inl mpof_16)), (mpi, .inl (cI, 26, .inl mpif_17)), (mre, .inl (cI, 12, .inl mref_18)), (mro, .inl (cI, 3600, .inl mrof)), (mle, .inl (cI, 300, .inl mlef))] H := hP
      have hD : va_D A [(mnn, .inl (cI, 4, .inl mnnf)), (mwo, .inl (cJ, 12, .inr (.inl mwof))), (mon, .inl (cI, 625, .inl monf)), (m0, .inr (8, [.int 0, .int mst, .ref mp, .int mln, .ref mk, .int mts, .ref mti, .ref mtw, .ref mi, .int mmn_11, .ref mpo, .int mpd_13, .ref mpi, .int mpl_14, .int mcp_15, .ref mre, .ref mnn, .ref mwo, .ref mga, .ref mlo, .ref mro, .ref mle, .ref mra, .int mme, .ref mha, .int mch, .int mtm, .int mgo, .int mwa, .ref mba, .int mbl, .ref mon])), (mk, .inl (cI, 4, .inl mkf)), (mi, .inl (cI, 12, .inl mif_12)), (mpo, .inl (cI, 12, .inl mpof_16)), (mpi, .inl (cI, 26, .inl mpif_17)), (mre, .inl (cI, 12, .inl mref_18)), (mro, .inl (cI, 3600, .inl mrof)), (mle, .inl (cI, 300, .inl mlef))] := hD
      have hr0 := hp19
      have hr1 := hp20
      refine lv_istore_n (lv' := [(3, .int r9), (0, .ref m0), (1, .int i), (2, .int x)]) hx hb dX9_apart_29 rfl hl (by decide) rfl (fun ls hl => ?_)
      refine lv_iload_n hx hb dX9_apart_30 rfl (lv_at hl 0 rfl) ?_
      refine lv_if_ge (tgt := 37) hx hb dX9_apart_31 (by decide) (fun c23 => ?_) (fun c23 => ?_)
      · have c23' := I_le c23
        refine lv_iconst (v := 0) hx hb dX9_apart_37 (by decide) ?_
        refine lv_istore (lv' := [(4, .int 0), (3, .int r9), (0, .ref m0), (1, .int i), (2, .int x)]) hx hb dX9_apart_38 hl (by decide) rfl (fun ls hl => ?_)
        have J40 : ∀ (n : Nat) (L4_40 : Int32) (mnnf_40 : Nat → Int32) (mwof_40 : Nat → Int64) (monf_40 : Nat → Int32), (0 ≤ L4_40.toInt ∧ L4_40.toInt ≤ 625) → (625 - L4_40.toInt) < (n : Int) → ∀ (H : Heap) (locs : List Loc) (ls : Array Slot), va_P (dC, dI) vwCl [(mnn, .inl (cI, 4, .inl mnnf_40)), (mwo, .inl (cJ, 12, .inr (.inl mwof_40))), (mon, .inl (cI, 625, .inl monf_40)), (m0, .inr (8, [.int 0, .int mst, .ref mp, .int mln, .ref mk, .int mts, .ref mti, .ref mtw, .ref mi, .int mmn_11, .ref mpo, .int mpd_13, .ref mpi, .int mpl_14, .int mcp_15, .ref mre, .ref mnn, .ref mwo, .ref mga, .ref mlo, .ref mro, .ref mle, .ref mra, .int mme, .ref mha, .int mch, .int mtm, .int mgo, .int mwa, .ref mba, .int mbl, .ref mon])), (mk, .inl (cI, 4, .inl mkf)), (mi, .inl (cI, 12, .inl mif_12)), (mpo, .inl (cI, 12, .inl mpof_16)), (mpi, .inl (cI, 26, .inl mpif_17)), (mre, .inl (cI, 12, .inl mref_18)), (mro, .inl (cI, 3600, .inl mrof)), (mle, .inl (cI, 300, .inl mlef))] H → va_D A [(mnn, .inl (cI, 4, .inl mnnf_40)), (mwo, .inl (cJ, 12, .inr (.inl mwof_40))), (mon, .inl (cI, 625, .inl monf_40)), (m0, .inr (8, [.int 0, .int mst, .ref mp, .int mln, .ref mk, .int mts, .ref mti, .ref mtw, .ref mi, .int mmn_11, .ref mpo, .int mpd_13, .ref mpi, .int mpl_14, .int mcp_15, .ref mre, .ref mnn, .ref mwo, .ref mga, .ref mlo, .ref mro, .ref mle, .ref mra, .int mme, .ref mha, .int mch, .int mtm, .int mgo, .int mwa, .ref mba, .int mbl, .ref mon])), (mk, .inl (cI, 4, .inl mkf)), (mi, .inl (cI, 12, .inl mif_12)), (mpo, .inl (cI, 12, .inl mpof_16)), (mpi, .inl (cI, 26, .inl mpif_17)), (mre, .inl (cI, 12, .inl mref_18)), (mro, .inl (cI, 3600, .inl mrof)), (mle, .inl (cI, 300, .inl mlef))] → va_S A s.heap H locs → lv_has ls 6 [(4, .int L4_40), (3, .int r9), (0, .ref m0), (1, .int i), (2, .int x)] → W p l e { frames := 6, cells := 0, slots := 0, locals := 127 } s m (List.toArray [.ref m0, .int i, .int x]) below meth c H locs 0 0 Q (F0 m 40 ls []) := by
          intro n
          induction n with
          | zero =>
            intro L4_40 mnnf_40 mwof_40 monf_40 hi0_40 hm
            exact absurd hm (by omega)
          | succ n ih40 =>
            intro L4_40 mnnf_40 mwof_40 monf_40 hi0_40 hm40 H locs ls hP hD hS hl
            refine lv_iload hx hb dX9_apart_40 (lv_at hl 0 rfl) ?_
            refine lv_sipush (v := 625) hx hb dX9_apart_42 (by decide) ?_
            refine lv_icmp_ge (tgt := 71) hx hb dX9_apart_45 (by decide) (fun c24 => ?_) (fun c24 => ?_)
            · have c24' := I_le c24
              refine lv_aload_n hx hb dX9_apart_71 rfl (lv_at hl 2 rfl) ?_
              refine lv_iload_n hx hb dX9_apart_72 rfl (lv_at hl 4 rfl) ?_
              refine calI (rest := []) (wr := [(mnn, .inl (cI, 4, .inl mnnf_40)), (mwo, .inl (cJ, 12, .inr (.inl mwof_40))), (mon, .inl (cI, 625, .inl monf_40))]) hG (c_X9_readMending l dC dI cI cJ base bB bO m0 0 mst mp mln mk mts mti mtw mi mmn_11 mpo mpd_13 mpi mpl_14 mcp_15 mre mnn mwo mga mlo mro mle mra mme mha mch mtm mgo mwa mba mbl mon mkf mif_12 mpof_16 mpif_17 mref_18 mrof mlef x (by first | assumption | omega) (by first | assumption | omega)) ml_X9_214 im_X9_readMending se_X9_readMending ini_X9 cd_X9_readMending hd_X9_readMending ⟨(Nat.le_of_ble_eq_true rfl), (Nat.le_of_ble_eq_true rfl)⟩ (Nat.le_of_ble_eq_true rfl) (Nat.le_of_ble_eq_true rfl) hP hD hS [3, 4, 5, 6, 7, 8, 9, 10] [0, 1, 2] rfl rfl rfl rfl (by decide) 8 3 rfl rfl hl.1 rfl (Nat.le_of_ble_eq_true rfl) dX9_apart_73 (fun r25 u H locs hw26 hP hD hS => ?_)
              obtain ⟨mmn_27, mif_28, mpd_29, mpl_30, mcp_31, mpof_32, mpif_33, mref_34⟩ := u
              have hw26 : (r25.toInt < 0 ∨ (0 ≤ mpd_29.toInt ∧ mpd_29.toInt ≤ 12)) ∧ (r25.toInt < 0 ∨ WFn mpof_32 mpd_29.toInt.toNat) ∧ (0 ≤ mmn_27.toInt ∧ mmn_27.toInt ≤ 12) ∧ (mcp_31.toInt = 0 ∨ mcp_31.toInt = 1) ∧ True := hw26
              obtain ⟨hp35, hp36, hp37, hp38, -⟩ := hw26
              have hP : va_P (dC, dI) vwCl [(mnn, .inl (cI, 4, .inl mnnf_40)), (mwo, .inl (cJ, 12, .inr (.inl mwof_40))), (mon, .inl (cI, 625, .inl monf_40)), (m0, .inr (8, [.int 0, .int mst, .ref mp, .int mln, .ref mk, .int mts, .ref mti, .ref mtw, .ref mi, .int mmn_27, .ref mpo, .int mpd_29, .ref mpi, .int mpl_30, .int mcp_31, .ref mre, .ref mnn, .ref mwo, .ref mga, .ref mlo, .ref mro, .ref mle, .ref mra, .int mme, .ref mha, .int mch, .int mtm, .int mgo, .int mwa, .ref mba, .int mbl, .ref mon])), (mk, .inl (cI, 4, .inl mkf)), (mi, .inl (cI, 12, .inl mif_28)), (mpo, .inl (cI, 12, .inl mpof_32)), (mpi, .inl (cI, 26, .inl mpif_33)), (mre, .inl (cI, 12, .inl mref_34)), (mro, .inl (cI, 3600, .inl mrof)), (mle, .inl (cI, 300, .inl mlef))] H := hP
              have hD : va_D A [(mnn, .inl (cI, 4, .inl mnnf_40)), (mwo, .inl (cJ, 12, .inr (.inl mwof_40))), (mon, .inl (cI, 625, .inl monf_40)), (m0, .inr (8, [.int 0, .int mst, .ref mp, .int mln, .ref mk, .int mts, .ref mti, .ref mtw, .ref mi, .int mmn_27, .ref mpo, .int mpd_29, .ref mpi, .int mpl_30, .int mcp_31, .ref mre, .ref mnn, .ref mwo, .ref mga, .ref mlo, .ref mro, .ref mle, .ref mra, .int mme, .ref mha, .int mch, .int mtm, .int mgo, .int mwa, .ref mba, .int mbl, .ref mon])), (mk, .inl (cI, 4, .inl mkf)), (mi, .inl (cI, 12, .inl mif_28)), (mpo, .inl (cI, 12, .inl mpof_32)), (mpi, .inl (cI, 26, .inl mpif_33)), (mre, .inl (cI, 12, .inl mref_34)), (mro, .inl (cI, 3600, .inl mrof)), (mle, .inl (cI, 300, .inl mlef))] := hD
              have hr0 := hp35
              have hr1 := hp36
              refine lv_istore (lv' := [(4, .int r25), (3, .int r9), (0, .ref m0), (1, .int i), (2, .int x)]) hx hb dX9_apart_76 hl (by decide) rfl (fun ls hl => ?_)
              refine lv_iload hx hb dX9_apart_78 (lv_at hl 0 rfl) ?_
              refine lv_if_ge (tgt := 86) hx hb dX9_apart_80 (by decide) (fun c39 => ?_) (fun c39 => ?_)
              · have c39' := I_le c39
                refine lv_iload hx hb dX9_apart_86 (lv_at hl 0 rfl) ?_
                refine lv_iload_n hx hb dX9_apart_88 rfl (lv_at hl 1 rfl) ?_
                refine lv_icmp_eq (tgt := 94) hx hb dX9_apart_89 (by decide) (fun c40 => ?_) (fun c40 => ?_)
                · have c40' := I_eq c40
                  refine lv_iconst (v := 0) hx hb dX9_apart_94 (by decide) ?_
                  refine lv_istore (lv' := [(5, .int 0), (4, .int r25), (3, .int r9), (0, .ref m0), (1, .int i), (2, .int x)]) hx hb dX9_apart_95 hl (by decide) rfl (fun ls hl => ?_)
                  have J97 : ∀ (n : Nat) (L5_97 : Int32) (mnnf_97 : Nat → Int32) (mwof_97 : Nat → Int64), (0 ≤ L5_97.toInt ∧ L5_97.toInt ≤ 625) → (625 - L5_97.toInt) < (n : Int) → ∀ (H : Heap) (locs : List Loc) (ls : Array Slot), va_P (dC, dI) vwCl [(mnn, .inl (cI, 4, .inl mnnf_97)), (mwo, .inl (cJ, 12, .inr (.inl mwof_97))), (mon, .inl (cI, 625, .inl monf_40)), (m0, .inr (8, [.int 0, .int mst, .ref mp, .int mln, .ref mk, .int mts, .ref mti, .ref mtw, .ref mi, .int mmn_27, .ref mpo, .int mpd_29, .ref mpi, .int mpl_30, .int mcp_31, .ref mre, .ref mnn, .ref mwo, .ref mga, .ref mlo, .ref mro, .ref mle, .ref mra, .int mme, .ref mha, .int mch, .int mtm, .int mgo, .int mwa, .ref mba, .int mbl, .ref mon])), (mk, .inl (cI, 4, .inl mkf)), (mi, .inl (cI, 12, .inl mif_28)), (mpo, .inl (cI, 12, .inl mpof_32)), (mpi, .inl (cI, 26, .inl mpif_33)), (mre, .inl (cI, 12, .inl mref_34)), (mro, .inl (cI, 3600, .inl mrof)), (mle, .inl (cI, 300, .inl mlef))] H → va_D A [(mnn, .inl (cI, 4, .inl mnnf_97)), (mwo, .inl (cJ, 12, .inr (.inl mwof_97))), (mon, .inl (cI, 625, .inl monf_40)), (m0, .inr (8, [.int 0, .int mst, .ref mp, .int mln, .ref mk, .int mts, .ref mti, .ref mtw, .ref mi, .int mmn_27, .ref mpo, .int mpd_29, .ref mpi, .int mpl_30, .int mcp_31, .ref mre, .ref mnn, .ref mwo, .ref mga, .ref mlo, .ref mro, .ref mle, .ref mra, .int mme, .ref mha, .int mch, .int mtm, .int mgo, .int mwa, .ref mba, .int mbl, .ref mon])), (mk, .inl (cI, 4, .inl mkf)), (mi, .inl (cI, 12, .inl mif_28)), (mpo, .inl (cI, 12, .inl mpof_32)), (mpi, .inl (cI, 26, .inl mpif_33)), (mre, .inl (cI, 12, .inl mref_34)), (mro, .inl (cI, 3600, .inl mrof)), (mle, .inl (cI, 300, .inl mlef))] → va_S A s.heap H locs → lv_has ls 6 [(5, .int L5_97), (4, .int r25), (3, .int r9), (0, .ref m0), (1, .int i), (2, .int x)] → W p l e { frames := 6, cells := 0, slots := 0, locals := 127 } s m (List.toArray [.ref m0, .int i, .int x]) below meth c H locs 0 0 Q (F0 m 97 ls []) := by
                    intro n
                    induction n with
                    | zero =>
                      intro L5_97 mnnf_97 mwof_97 hi0_97 hm
                      exact absurd hm (by omega)
                    | succ n ih97 =>
                      intro L5_97 mnnf_97 mwof_97 hi0_97 hm97 H locs ls hP hD hS hl
                      refine lv_iload hx hb dX9_apart_97 (lv_at hl 0 rfl) ?_
                      refine lv_sipush (v := 625) hx hb dX9_apart_99 (by decide) ?_
                      refine lv_icmp_ge (tgt := 134) hx hb dX9_apart_102 (by decide) (fun c41 => ?_) (fun c41 => ?_)
                      · have c41' := I_le c41
                        refine lv_iconst (v := (-1)) hx hb dX9_apart_134 (by decide) ?_
                        exact hret (-1) (0, mmn_27, mif_28, mpd_29, mpl_30, mcp_31, mpof_32, mpif_33, mref_34, mnnf_97, mwof_97, monf_40) H locs 135 ls rfl ⟨(show 0 ≤ mmn_27.toInt ∧ mmn_27.toInt ≤ 12 from by first | rfl | assumption | omega), (show mcp_31.toInt = 0 ∨ mcp_31.toInt = 1 from by first | rfl | assumption | omega), trivial⟩ (hP.sub (ws' := [(m0, .inr (8, [.int 0, .int mst, .ref mp, .int mln, .ref mk, .int mts, .ref mti, .ref mtw, .ref mi, .int mmn_27, .ref mpo, .int mpd_29, .ref mpi, .int mpl_30, .int mcp_31, .ref mre, .ref mnn, .ref mwo, .ref mga, .ref mlo, .ref mro, .ref mle, .ref mra, .int mme, .ref mha, .int mch, .int mtm, .int mgo, .int mwa, .ref mba, .int mbl, .ref mon])), (mk, .inl (cI, 4, .inl mkf)), (mi, .inl (cI, 12, .inl mif_28)), (mpo, .inl (cI, 12, .inl mpof_32)), (mpi, .inl (cI, 26, .inl mpif_33)), (mre, .inl (cI, 12, .inl mref_34)), (mnn, .inl (cI, 4, .inl mnnf_97)), (mwo, .inl (cJ, 12, .inr (.inl mwof_97))), (mro, .inl (cI, 3600, .inl mrof)), (mle, .inl (cI, 300, .inl mlef)), (mon, .inl (cI, 625, .inl monf_40))]) [3, 4, 5, 6, 7, 8, 0, 1, 9, 10, 2] rfl) (hD.sub (ws' := [(m0, .inr (8, [.int 0, .int mst, .ref mp, .int mln, .ref mk, .int mts, .ref mti, .ref mtw, .ref mi, .int mmn_27, .ref mpo, .int mpd_29, .ref mpi, .int mpl_30, .int mcp_31, .ref mre, .ref mnn, .ref mwo, .ref mga, .ref mlo, .ref mro, .ref mle, .ref mra, .int mme, .ref mha, .int mch, .int mtm, .int mgo, .int mwa, .ref mba, .int mbl, .ref mon])), (mk, .inl (cI, 4, .inl mkf)), (mi, .inl (cI, 12, .inl mif_28)), (mpo, .inl (cI, 12, .inl mpof_32)), (mpi, .inl (cI, 26, .inl mpif_33)), (mre, .inl (cI, 12, .inl mref_34)), (mnn, .inl (cI, 4, .inl mnnf_97)), (mwo, .inl (cJ, 12, .inr (.inl mwof_97))), (mro, .inl (cI, 3600, .inl mrof)), (mle, .inl (cI, 300, .inl mlef)), (mon, .inl (cI, 625, .inl monf_40))]) [3, 4, 5, 6, 7, 8, 0, 1, 9, 10, 2] (by decide) rfl) hS dX9_apart_135
                      · have c41' := I_nle c41
                        refine lv_aload_n hx hb dX9_apart_105 rfl (lv_at hl 3 rfl) ?_
                        refine lv_iload hx hb dX9_apart_106 (lv_at hl 0 rfl) ?_
                        refine calV (rest := []) (wr := [(mwo, .inl (cJ, 12, .inr (.inl mwof_97))), (mon, .inl (cI, 625, .inl monf_40)), (mk, .inl (cI, 4, .inl mkf)), (mi, .inl (cI, 12, .inl mif_28)), (mpo, .inl (cI, 12, .inl mpof_32)), (mpi, .inl (cI, 26, .inl mpif_33)), (mre, .inl (cI, 12, .inl mref_34)), (mro, .inl (cI, 3600, .inl mrof)), (mle, .inl (cI, 300, .inl mlef))]) hG (c_X9_setInputs l dC dI cI cJ base bB bO m0 0 mst mp mln mk mts mti mtw mi mmn_27 mpo mpd_29 mpi mpl_30 mcp_31 mre mnn mwo mga mlo mro mle mra mme mha mch mtm mgo mwa mba mbl mon mnnf_97 L5_97 ) ml_X9_217 im_X9_setInputs se_X9_setInputs ini_X9 cd_X9_setInputs hd_X9_setInputs ⟨(Nat.le_of_ble_eq_true rfl), (Nat.le_of_ble_eq_true rfl)⟩ (Nat.le_of_ble_eq_true rfl) (Nat.le_of_ble_eq_true rfl) hP hD hS [3, 0] [1, 2, 4, 5, 6, 7, 8, 9, 10] rfl rfl rfl rfl (by decide) 8 3 rfl rfl hl.1 rfl (Nat.le_of_ble_eq_true rfl) dX9_apart_108 (fun u H locs hw42 hP hD hS => ?_)
                        obtain ⟨mnnf_43, rfl⟩ : ∃ z, z = u := ⟨_, rfl⟩
                        have hP : va_P (dC, dI) vwCl [(mwo, .inl (cJ, 12, .inr (.inl mwof_97))), (mon, .inl (cI, 625, .inl monf_40)), (mk, .inl (cI, 4, .inl mkf)), (mi, .inl (cI, 12, .inl mif_28)), (mpo, .inl (cI, 12, .inl mpof_32)), (mpi, .inl (cI, 26, .inl mpif_33)), (mre, .inl (cI, 12, .inl mref_34)), (mro, .inl (cI, 3600, .inl mrof)), (mle, .inl (cI, 300, .inl mlef)), (m0, .inr (8, [.int 0, .int mst, .ref mp, .int mln, .ref mk, .int mts, .ref mti, .ref mtw, .ref mi, .int mmn_27, .ref mpo, .int mpd_29, .ref mpi, .int mpl_30, .int mcp_31, .ref mre, .ref mnn, .ref mwo, .ref mga, .ref mlo, .ref mro, .ref mle, .ref mra, .int mme, .ref mha, .int mch, .int mtm, .int mgo, .int mwa, .ref mba, .int mbl, .ref mon])), (mnn, .inl (cI, 4, .inl mnnf_43))] H := hP
                        have hD : va_D A [(mwo, .inl (cJ, 12, .inr (.inl mwof_97))), (mon, .inl (cI, 625, .inl monf_40)), (mk, .inl (cI, 4, .inl mkf)), (mi, .inl (cI, 12, .inl mif_28)), (mpo, .inl (cI, 12, .inl mpof_32)), (mpi, .inl (cI, 26, .inl mpif_33)), (mre, .inl (cI, 12, .inl mref_34)), (mro, .inl (cI, 3600, .inl mrof)), (mle, .inl (cI, 300, .inl mlef)), (m0, .inr (8, [.int 0, .int mst, .ref mp, .int mln, .ref mk, .int mts, .ref mti, .ref mtw, .ref mi, .int mmn_27, .ref mpo, .int mpd_29, .ref mpi, .int mpl_30, .int mcp_31, .ref mre, .ref mnn, .ref mwo, .ref mga, .ref mlo, .ref mro, .ref mle, .ref mra, .int mme, .ref mha, .int mch, .int mtm, .int mgo, .int mwa, .ref mba, .int mbl, .ref mon])), (mnn, .inl (cI, 4, .inl mnnf_43))] := hD
                        refine lv_aload_n hx hb dX9_apart_111 rfl (lv_at hl 3 rfl) ?_
                        refine calI (rest := []) (wr := [(mon, .inl (cI, 625, .inl monf_40)), (mi, .inl (cI, 12, .inl mif_28)), (mpi, .inl (cI, 26, .inl mpif_33)), (mre, .inl (cI, 12, .inl mref_34)), (mro, .inl (cI, 3600, .inl mrof)), (mle, .inl (cI, 300, .inl mlef))]) hG (c_X9_valueOf l dC dI cI cJ base bB bO m0 0 mst mp mln mk mts mti mtw mi mmn_27 mpo mpd_29 mpi mpl_30 mcp_31 mre mnn mwo mga mlo mro mle mra mme mha mch mtm mgo mwa mba mbl mon mkf mpof_32 mnnf_43 mwof_97 (by rcases hr1 with h | h; exact absurd h (by omega); exact h) (by first | assumption | omega)) ml_X9_148 im_X9_valueOf se_X9_valueOf ini_X9 cd_X9_valueOf hd_X9_valueOf ⟨(Nat.le_of_ble_eq_true rfl), (Nat.le_of_ble_eq_true rfl)⟩ (Nat.le_of_ble_eq_true rfl) (Nat.le_of_ble_eq_true rfl) hP hD hS [9, 2, 4, 10, 0] [1, 3, 5, 6, 7, 8] rfl rfl rfl rfl (by decide) 8 9 rfl rfl hl.1 rfl (Nat.le_of_ble_eq_true rfl) dX9_apart_112 (fun r44 u H locs hw45 hP hD hS => ?_)
                        obtain ⟨mwof_46, rfl⟩ : ∃ z, z = u := ⟨_, rfl⟩
                        have hP : va_P (dC, dI) vwCl [(mon, .inl (cI, 625, .inl monf_40)), (mi, .inl (cI, 12, .inl mif_28)), (mpi, .inl (cI, 26, .inl mpif_33)), (mre, .inl (cI, 12, .inl mref_34)), (mro, .inl (cI, 3600, .inl mrof)), (mle, .inl (cI, 300, .inl mlef)), (m0, .inr (8, [.int 0, .int mst, .ref mp, .int mln, .ref mk, .int mts, .ref mti, .ref mtw, .ref mi, .int mmn_27, .ref mpo, .int mpd_29, .ref mpi, .int mpl_30, .int mcp_31, .ref mre, .ref mnn, .ref mwo, .ref mga, .ref mlo, .ref mro, .ref mle, .ref mra, .int mme, .ref mha, .int mch, .int mtm, .int mgo, .int mwa, .ref mba, .int mbl, .ref mon])), (mk, .inl (cI, 4, .inl mkf)), (mpo, .inl (cI, 12, .inl mpof_32)), (mnn, .inl (cI, 4, .inl mnnf_43)), (mwo, .inl (cJ, 12, .inr (.inl mwof_46)))] H := hP
                        have hD : va_D A [(mon, .inl (cI, 625, .inl monf_40)), (mi, .inl (cI, 12, .inl mif_28)), (mpi, .inl (cI, 26, .inl mpif_33)), (mre, .inl (cI, 12, .inl mref_34)), (mro, .inl (cI, 3600, .inl mrof)), (mle, .inl (cI, 300, .inl mlef)), (m0, .inr (8, [.int 0, .int mst, .ref mp, .int mln, .ref mk, .int mts, .ref mti, .ref mtw, .ref mi, .int mmn_27, .ref mpo, .int mpd_29, .ref mpi, .int mpl_30, .int mcp_31, .ref mre, .ref mnn, .ref mwo, .ref mga, .ref mlo, .ref mro, .ref mle, .ref mra, .int mme, .ref mha, .int mch, .int mtm, .int mgo, .int mwa, .ref mba, .int mbl, .ref mon])), (mk, .inl (cI, 4, .inl mkf)), (mpo, .inl (cI, 12, .inl mpof_32)), (mnn, .inl (cI, 4, .inl mnnf_43)), (mwo, .inl (cJ, 12, .inr (.inl mwof_46)))] := hD
                        refine lv_aload_n hx hb dX9_apart_115 rfl (lv_at hl 3 rfl) ?_
                        refine va_get (D := (dC, dI)) (ci := 8) (v := .ref mon) (C := RX9) (T := TX9) (N := 32) hx hb hts inG_X9 hown hK hP 6 rfl rfl 31 (by decide) (hts _ fl_X9_66) (fun _ h9 => h9) rfl dX9_apart_116 ?_
                        refine lv_iload hx hb dX9_apart_119 (lv_at hl 0 rfl) ?_
                        refine va_iald (t0 := 0) hx hb hK hP 0 (ha := rfl) (ht := rfl) (I_in (by omega) (by omega)) dX9_apart_121 ?_
                        refine lv_topi (fun v47 ev47 => ?_)
                        refine lv_icmp_eq (tgt := 128) hx hb dX9_apart_122 (by decide) (fun c48 => ?_) (fun c48 => ?_)
                        · have c48' := I_eq c48
                          obtain ⟨v49, ev49⟩ : ∃ y : Int32, y = L5_97 + 1 := ⟨_, rfl⟩
                          try have hv49 : v49.toInt = L5_97.toInt + (1 : Int32).toInt := I_addx ev49 (by omega)
                          refine lv_iinc (v := v49) (lv' := [(5, .int v49), (4, .int r25), (3, .int r9), (0, .ref m0), (1, .int i), (2, .int x)]) hx hb dX9_apart_128 hl (k := 0) rfl (by rw [ev49]; rfl) (by decide) rfl (fun ls hl => ?_)
                          refine lv_goto (tgt := 97) hx hb dX9_apart_131 (by decide) ?_
                          exact ih97 v49 mnnf_43 mwof_46 (by first | assumption | omega) (by omega) H locs ls (hP.sub (ws' := [(mnn, .inl (cI, 4, .inl mnnf_43)), (mwo, .inl (cJ, 12, .inr (.inl mwof_46))), (mon, .inl (cI, 625, .inl monf_40)), (m0, .inr (8, [.int 0, .int mst, .ref mp, .int mln, .ref mk, .int mts, .ref mti, .ref mtw, .ref mi, .int mmn_27, .ref mpo, .int mpd_29, .ref mpi, .int mpl_30, .int mcp_31, .ref mre, .ref mnn, .ref mwo, .ref mga, .ref mlo, .ref mro, .ref mle, .ref mra, .int mme, .ref mha, .int mch, .int mtm, .int mgo, .int mwa, .ref mba, .int mbl, .ref mon])), (mk, .inl (cI, 4, .inl mkf)), (mi, .inl (cI, 12, .inl mif_28)), (mpo, .inl (cI, 12, .inl mpof_32)), (mpi, .inl (cI, 26, .inl mpif_33)), (mre, .inl (cI, 12, .inl mref_34)), (mro, .inl (cI, 3600, .inl mrof)), (mle, .inl (cI, 300, .inl mlef))]) [9, 10, 0, 6, 7, 1, 8, 2, 3, 4, 5] rfl) (hD.sub (ws' := [(mnn, .inl (cI, 4, .inl mnnf_43)), (mwo, .inl (cJ, 12, .inr (.inl mwof_46))), (mon, .inl (cI, 625, .inl monf_40)), (m0, .inr (8, [.int 0, .int mst, .ref mp, .int mln, .ref mk, .int mts, .ref mti, .ref mtw, .ref mi, .int mmn_27, .ref mpo, .int mpd_29, .ref mpi, .int mpl_30, .int mcp_31, .ref mre, .ref mnn, .ref mwo, .ref mga, .ref mlo, .ref mro, .ref mle, .ref mra, .int mme, .ref mha, .int mch, .int mtm, .int mgo, .int mwa, .ref mba, .int mbl, .ref mon])), (mk, .inl (cI, 4, .inl mkf)), (mi, .inl (cI, 12, .inl mif_28)), (mpo, .inl (cI, 12, .inl mpof_32)), (mpi, .inl (cI, 26, .inl mpif_33)), (mre, .inl (cI, 12, .inl mref_34)), (mro, .inl (cI, 3600, .inl mrof)), (mle, .inl (cI, 300, .inl mlef))]) [9, 10, 0, 6, 7, 1, 8, 2, 3, 4, 5] (by decide) rfl) hS hl
                        · have c48' := I_ne c48
                          refine lv_iload hx hb dX9_apart_125 (lv_at hl 0 rfl) ?_
                          exact hret L5_97 (0, mmn_27, mif_28, mpd_29, mpl_30, mcp_31, mpof_32, mpif_33, mref_34, mnnf_43, mwof_46, monf_40) H locs 127 ls rfl ⟨(show 0 ≤ mmn_27.toInt ∧ mmn_27.toInt ≤ 12 from by first | rfl | assumption | omega), (show mcp_31.toInt = 0 ∨ mcp_31.toInt = 1 from by first | rfl | assumption | omega), trivial⟩ (hP.sub (ws' := [(m0, .inr (8, [.int 0, .int mst, .ref mp, .int mln, .ref mk, .int mts, .ref mti, .ref mtw, .ref mi, .int mmn_27, .ref mpo, .int mpd_29, .ref mpi, .int mpl_30, .int mcp_31, .ref mre, .ref mnn, .ref mwo, .ref mga, .ref mlo, .ref mro, .ref mle, .ref mra, .int mme, .ref mha, .int mch, .int mtm, .int mgo, .int mwa, .ref mba, .int mbl, .ref mon])), (mk, .inl (cI, 4, .inl mkf)), (mi, .inl (cI, 12, .inl mif_28)), (mpo, .inl (cI, 12, .inl mpof_32)), (mpi, .inl (cI, 26, .inl mpif_33)), (mre, .inl (cI, 12, .inl mref_34)), (mnn, .inl (cI, 4, .inl mnnf_43)), (mwo, .inl (cJ, 12, .inr (.inl mwof_46))), (mro, .inl (cI, 3600, .inl mrof)), (mle, .inl (cI, 300, .inl mlef)), (mon, .inl (cI, 625, .inl monf_40))]) [6, 7, 1, 8, 2, 3, 9, 10, 4, 5, 0] rfl) (hD.sub (ws' := [(m0, .inr (8, [.int 0, .int mst, .ref mp, .int mln, .ref mk, .int mts, .ref mti, .ref mtw, .ref mi, .int mmn_27, .ref mpo, .int mpd_29, .ref mpi, .int mpl_30, .int mcp_31, .ref mre, .ref mnn, .ref mwo, .ref mga, .ref mlo, .ref mro, .ref mle, .ref mra, .int mme, .ref mha, .int mch, .int mtm, .int mgo, .int mwa, .ref mba, .int mbl, .ref mon])), (mk, .inl (cI, 4, .inl mkf)), (mi, .inl (cI, 12, .inl mif_28)), (mpo, .inl (cI, 12, .inl mpof_32)), (mpi, .inl (cI, 26, .inl mpif_33)), (mre, .inl (cI, 12, .inl mref_34)), (mnn, .inl (cI, 4, .inl mnnf_43)), (mwo, .inl (cJ, 12, .inr (.inl mwof_46))), (mro, .inl (cI, 3600, .inl mrof)), (mle, .inl (cI, 300, .inl mlef)), (mon, .inl (cI, 625, .inl monf_40))]) [6, 7, 1, 8, 2, 3, 9, 10, 4, 5, 0] (by decide) rfl) hS dX9_apart_127
                  exact J97 ((625 - (0 : Int32).toInt).toNat + 1) 0 mnnf_40 mwof_40 (by first | assumption | omega) (by omega) H locs ls hP hD hS hl
                · have c40' := I_ne c40
                  refine lv_iconst (v := 0) hx hb dX9_apart_92 (by decide) ?_
                  exact hret 0 (0, mmn_27, mif_28, mpd_29, mpl_30, mcp_31, mpof_32, mpif_33, mref_34, mnnf_40, mwof_40, monf_40) H locs 93 ls rfl ⟨(show 0 ≤ mmn_27.toInt ∧ mmn_27.toInt ≤ 12 from by first | rfl | assumption | omega), (show mcp_31.toInt = 0 ∨ mcp_31.toInt = 1 from by first | rfl | assumption | omega), trivial⟩ (hP.sub (ws' := [(m0, .inr (8, [.int 0, .int mst, .ref mp, .int mln, .ref mk, .int mts, .ref mti, .ref mtw, .ref mi, .int mmn_27, .ref mpo, .int mpd_29, .ref mpi, .int mpl_30, .int mcp_31, .ref mre, .ref mnn, .ref mwo, .ref mga, .ref mlo, .ref mro, .ref mle, .ref mra, .int mme, .ref mha, .int mch, .int mtm, .int mgo, .int mwa, .ref mba, .int mbl, .ref mon])), (mk, .inl (cI, 4, .inl mkf)), (mi, .inl (cI, 12, .inl mif_28)), (mpo, .inl (cI, 12, .inl mpof_32)), (mpi, .inl (cI, 26, .inl mpif_33)), (mre, .inl (cI, 12, .inl mref_34)), (mnn, .inl (cI, 4, .inl mnnf_40)), (mwo, .inl (cJ, 12, .inr (.inl mwof_40))), (mro, .inl (cI, 3600, .inl mrof)), (mle, .inl (cI, 300, .inl mlef)), (mon, .inl (cI, 625, .inl monf_40))]) [3, 4, 5, 6, 7, 8, 0, 1, 9, 10, 2] rfl) (hD.sub (ws' := [(m0, .inr (8, [.int 0, .int mst, .ref mp, .int mln, .ref mk, .int mts, .ref mti, .ref mtw, .ref mi, .int mmn_27, .ref mpo, .int mpd_29, .ref mpi, .int mpl_30, .int mcp_31, .ref mre, .ref mnn, .ref mwo, .ref mga, .ref mlo, .ref mro, .ref mle, .ref mra, .int mme, .ref mha, .int mch, .int mtm, .int mgo, .int mwa, .ref mba, .int mbl, .ref mon])), (mk, .inl (cI, 4, .inl mkf)), (mi, .inl (cI, 12, .inl mif_28)), (mpo, .inl (cI, 12, .inl mpof_32)), (mpi, .inl (cI, 26, .inl mpif_33)), (mre, .inl (cI, 12, .inl mref_34)), (mnn, .inl (cI, 4, .inl mnnf_40)), (mwo, .inl (cJ, 12, .inr (.inl mwof_40))), (mro, .inl (cI, 3600, .inl mrof)), (mle, .inl (cI, 300, .inl mlef)), (mon, .inl (cI, 625, .inl monf_40))]) [3, 4, 5, 6, 7, 8, 0, 1, 9, 10, 2] (by decide) rfl) hS dX9_apart_93
              · have c39' := I_nle c39
                refine lv_bipush (v := (-6)) hx hb dX9_apart_83 (by decide) ?_
                exact hret (-6) (0, mmn_27, mif_28, mpd_29, mpl_30, mcp_31, mpof_32, mpif_33, mref_34, mnnf_40, mwof_40, monf_40) H locs 85 ls rfl ⟨(show 0 ≤ mmn_27.toInt ∧ mmn_27.toInt ≤ 12 from by first | rfl | assumption | omega), (show mcp_31.toInt = 0 ∨ mcp_31.toInt = 1 from by first | rfl | assumption | omega), trivial⟩ (hP.sub (ws' := [(m0, .inr (8, [.int 0, .int mst, .ref mp, .int mln, .ref mk, .int mts, .ref mti, .ref mtw, .ref mi, .int mmn_27, .ref mpo, .int mpd_29, .ref mpi, .int mpl_30, .int mcp_31, .ref mre, .ref mnn, .ref mwo, .ref mga, .ref mlo, .ref mro, .ref mle, .ref mra, .int mme, .ref mha, .int mch, .int mtm, .int mgo, .int mwa, .ref mba, .int mbl, .ref mon])), (mk, .inl (cI, 4, .inl mkf)), (mi, .inl (cI, 12, .inl mif_28)), (mpo, .inl (cI, 12, .inl mpof_32)), (mpi, .inl (cI, 26, .inl mpif_33)), (mre, .inl (cI, 12, .inl mref_34)), (mnn, .inl (cI, 4, .inl mnnf_40)), (mwo, .inl (cJ, 12, .inr (.inl mwof_40))), (mro, .inl (cI, 3600, .inl mrof)), (mle, .inl (cI, 300, .inl mlef)), (mon, .inl (cI, 625, .inl monf_40))]) [3, 4, 5, 6, 7, 8, 0, 1, 9, 10, 2] rfl) (hD.sub (ws' := [(m0, .inr (8, [.int 0, .int mst, .ref mp, .int mln, .ref mk, .int mts, .ref mti, .ref mtw, .ref mi, .int mmn_27, .ref mpo, .int mpd_29, .ref mpi, .int mpl_30, .int mcp_31, .ref mre, .ref mnn, .ref mwo, .ref mga, .ref mlo, .ref mro, .ref mle, .ref mra, .int mme, .ref mha, .int mch, .int mtm, .int mgo, .int mwa, .ref mba, .int mbl, .ref mon])), (mk, .inl (cI, 4, .inl mkf)), (mi, .inl (cI, 12, .inl mif_28)), (mpo, .inl (cI, 12, .inl mpof_32)), (mpi, .inl (cI, 26, .inl mpif_33)), (mre, .inl (cI, 12, .inl mref_34)), (mnn, .inl (cI, 4, .inl mnnf_40)), (mwo, .inl (cJ, 12, .inr (.inl mwof_40))), (mro, .inl (cI, 3600, .inl mrof)), (mle, .inl (cI, 300, .inl mlef)), (mon, .inl (cI, 625, .inl monf_40))]) [3, 4, 5, 6, 7, 8, 0, 1, 9, 10, 2] (by decide) rfl) hS dX9_apart_85
            · have c24' := I_nle c24
              refine lv_aload_n hx hb dX9_apart_48 rfl (lv_at hl 2 rfl) ?_
              refine lv_iload hx hb dX9_apart_49 (lv_at hl 0 rfl) ?_
              refine calV (rest := []) (wr := [(mwo, .inl (cJ, 12, .inr (.inl mwof_40))), (mon, .inl (cI, 625, .inl monf_40)), (mk, .inl (cI, 4, .inl mkf)), (mi, .inl (cI, 12, .inl mif_12)), (mpo, .inl (cI, 12, .inl mpof_16)), (mpi, .inl (cI, 26, .inl mpif_17)), (mre, .inl (cI, 12, .inl mref_18)), (mro, .inl (cI, 3600, .inl mrof)), (mle, .inl (cI, 300, .inl mlef))]) hG (c_X9_setInputs l dC dI cI cJ base bB bO m0 0 mst mp mln mk mts mti mtw mi mmn_11 mpo mpd_13 mpi mpl_14 mcp_15 mre mnn mwo mga mlo mro mle mra mme mha mch mtm mgo mwa mba mbl mon mnnf_40 L4_40 ) ml_X9_217 im_X9_setInputs se_X9_setInputs ini_X9 cd_X9_setInputs hd_X9_setInputs ⟨(Nat.le_of_ble_eq_true rfl), (Nat.le_of_ble_eq_true rfl)⟩ (Nat.le_of_ble_eq_true rfl) (Nat.le_of_ble_eq_true rfl) hP hD hS [3, 0] [1, 2, 4, 5, 6, 7, 8, 9, 10] rfl rfl rfl rfl (by decide) 8 3 rfl rfl hl.1 rfl (Nat.le_of_ble_eq_true rfl) dX9_apart_51 (fun u H locs hw50 hP hD hS => ?_)
              obtain ⟨mnnf_51, rfl⟩ : ∃ z, z = u := ⟨_, rfl⟩
              have hP : va_P (dC, dI) vwCl [(mwo, .inl (cJ, 12, .inr (.inl mwof_40))), (mon, .inl (cI, 625, .inl monf_40)), (mk, .inl (cI, 4, .inl mkf)), (mi, .inl (cI, 12, .inl mif_12)), (mpo, .inl (cI, 12, .inl mpof_16)), (mpi, .inl (cI, 26, .inl mpif_17)), (mre, .inl (cI, 12, .inl mref_18)), (mro, .inl (cI, 3600, .inl mrof)), (mle, .inl (cI, 300, .inl mlef)), (m0, .inr (8, [.int 0, .int mst, .ref mp, .int mln, .ref mk, .int mts, .ref mti, .ref mtw, .ref mi, .int mmn_11, .ref mpo, .int mpd_13, .ref mpi, .int mpl_14, .int mcp_15, .ref mre, .ref mnn, .ref mwo, .ref mga, .ref mlo, .ref mro, .ref mle, .ref mra, .int mme, .ref mha, .int mch, .int mtm, .int mgo, .int mwa, .ref mba, .int mbl, .ref mon])), (mnn, .inl (cI, 4, .inl mnnf_51))] H := hP
              have hD : va_D A [(mwo, .inl (cJ, 12, .inr (.inl mwof_40))), (mon, .inl (cI, 625, .inl monf_40)), (mk, .inl (cI, 4, .inl mkf)), (mi, .inl (cI, 12, .inl mif_12)), (mpo, .inl (cI, 12, .inl mpof_16)), (mpi, .inl (cI, 26, .inl mpif_17)), (mre, .inl (cI, 12, .inl mref_18)), (mro, .inl (cI, 3600, .inl mrof)), (mle, .inl (cI, 300, .inl mlef)), (m0, .inr (8, [.int 0, .int mst, .ref mp, .int mln, .ref mk, .int mts, .ref mti, .ref mtw, .ref mi, .int mmn_11, .ref mpo, .int mpd_13, .ref mpi, .int mpl_14, .int mcp_15, .ref mre, .ref mnn, .ref mwo, .ref mga, .ref mlo, .ref mro, .ref mle, .ref mra, .int mme, .ref mha, .int mch, .int mtm, .int mgo, .int mwa, .ref mba, .int mbl, .ref mon])), (mnn, .inl (cI, 4, .inl mnnf_51))] := hD
              refine lv_aload_n hx hb dX9_apart_54 rfl (lv_at hl 2 rfl) ?_
              refine va_get (D := (dC, dI)) (ci := 8) (v := .ref mon) (C := RX9) (T := TX9) (N := 32) hx hb hts inG_X9 hown hK hP 9 rfl rfl 31 (by decide) (hts _ fl_X9_66) (fun _ h9 => h9) rfl dX9_apart_55 ?_
              refine lv_iload hx hb dX9_apart_58 (lv_at hl 0 rfl) ?_
              refine lv_aload_n hx hb dX9_apart_60 rfl (lv_at hl 2 rfl) ?_
              refine calI (rest := [.int L4_40, .ref mon]) (wr := [(mon, .inl (cI, 625, .inl monf_40)), (mi, .inl (cI, 12, .inl mif_12)), (mpi, .inl (cI, 26, .inl mpif_17)), (mre, .inl (cI, 12, .inl mref_18)), (mro, .inl (cI, 3600, .inl mrof)), (mle, .inl (cI, 300, .inl mlef))]) hG (c_X9_valueOf l dC dI cI cJ base bB bO m0 0 mst mp mln mk mts mti mtw mi mmn_11 mpo mpd_13 mpi mpl_14 mcp_15 mre mnn mwo mga mlo mro mle mra mme mha mch mtm mgo mwa mba mbl mon mkf mpof_16 mnnf_51 mwof_40 (by rcases hr1 with h | h; exact absurd h (by omega); exact h) (by first | assumption | omega)) ml_X9_148 im_X9_valueOf se_X9_valueOf ini_X9 cd_X9_valueOf hd_X9_valueOf ⟨(Nat.le_of_ble_eq_true rfl), (Nat.le_of_ble_eq_true rfl)⟩ (Nat.le_of_ble_eq_true rfl) (Nat.le_of_ble_eq_true rfl) hP hD hS [9, 2, 4, 10, 0] [1, 3, 5, 6, 7, 8] rfl rfl rfl rfl (by decide) 8 9 rfl rfl hl.1 rfl (Nat.le_of_ble_eq_true rfl) dX9_apart_61 (fun r52 u H locs hw53 hP hD hS => ?_)
              obtain ⟨mwof_54, rfl⟩ : ∃ z, z = u := ⟨_, rfl⟩
              have hP : va_P (dC, dI) vwCl [(mon, .inl (cI, 625, .inl monf_40)), (mi, .inl (cI, 12, .inl mif_12)), (mpi, .inl (cI, 26, .inl mpif_17)), (mre, .inl (cI, 12, .inl mref_18)), (mro, .inl (cI, 3600, .inl mrof)), (mle, .inl (cI, 300, .inl mlef)), (m0, .inr (8, [.int 0, .int mst, .ref mp, .int mln, .ref mk, .int mts, .ref mti, .ref mtw, .ref mi, .int mmn_11, .ref mpo, .int mpd_13, .ref mpi, .int mpl_14, .int mcp_15, .ref mre, .ref mnn, .ref mwo, .ref mga, .ref mlo, .ref mro, .ref mle, .ref mra, .int mme, .ref mha, .int mch, .int mtm, .int mgo, .int mwa, .ref mba, .int mbl, .ref mon])), (mk, .inl (cI, 4, .inl mkf)), (mpo, .inl (cI, 12, .inl mpof_16)), (mnn, .inl (cI, 4, .inl mnnf_51)), (mwo, .inl (cJ, 12, .inr (.inl mwof_54)))] H := hP
              have hD : va_D A [(mon, .inl (cI, 625, .inl monf_40)), (mi, .inl (cI, 12, .inl mif_12)), (mpi, .inl (cI, 26, .inl mpif_17)), (mre, .inl (cI, 12, .inl mref_18)), (mro, .inl (cI, 3600, .inl mrof)), (mle, .inl (cI, 300, .inl mlef)), (m0, .inr (8, [.int 0, .int mst, .ref mp, .int mln, .ref mk, .int mts, .ref mti, .ref mtw, .ref mi, .int mmn_11, .ref mpo, .int mpd_13, .ref mpi, .int mpl_14, .int mcp_15, .ref mre, .ref mnn, .ref mwo, .ref mga, .ref mlo, .ref mro, .ref mle, .ref mra, .int mme, .ref mha, .int mch, .int mtm, .int mgo, .int mwa, .ref mba, .int mbl, .ref mon])), (mk, .inl (cI, 4, .inl mkf)), (mpo, .inl (cI, 12, .inl mpof_16)), (mnn, .inl (cI, 4, .inl mnnf_51)), (mwo, .inl (cJ, 12, .inr (.inl mwof_54)))] := hD
              refine va_iast (t0 := 0) hx hb hK hP hD hS 0 (ha := rfl) (ht := rfl) (I_in (by omega) (by omega)) dX9_apart_64 (fun H locs hP hD hS => ?_)
              have hP : va_P (dC, dI) vwCl [(mon, .inl (cI, 625, .inl (upd monf_40 L4_40.toNatClampNeg r52))), (mi, .inl (cI, 12, .inl mif_12)), (mpi, .inl (cI, 26, .inl mpif_17)), (mre, .inl (cI, 12, .inl mref_18)), (mro, .inl (cI, 3600, .inl mrof)), (mle, .inl (cI, 300, .inl mlef)), (m0, .inr (8, [.int 0, .int mst, .ref mp, .int mln, .ref mk, .int mts, .ref mti, .ref mtw, .ref mi, .int mmn_11, .ref mpo, .int mpd_13, .ref mpi, .int mpl_14, .int mcp_15, .ref mre, .ref mnn, .ref mwo, .ref mga, .ref mlo, .ref mro, .ref mle, .ref mra, .int mme, .ref mha, .int mch, .int mtm, .int mgo, .int mwa, .ref mba, .int mbl, .ref mon])), (mk, .inl (cI, 4, .inl mkf)), (mpo, .inl (cI, 12, .inl mpof_16)), (mnn, .inl (cI, 4, .inl mnnf_51)), (mwo, .inl (cJ, 12, .inr (.inl mwof_54)))] H := hP
              have hD : va_D A [(mon, .inl (cI, 625, .inl (upd monf_40 L4_40.toNatClampNeg r52))), (mi, .inl (cI, 12, .inl mif_12)), (mpi, .inl (cI, 26, .inl mpif_17)), (mre, .inl (cI, 12, .inl mref_18)), (mro, .inl (cI, 3600, .inl mrof)), (mle, .inl (cI, 300, .inl mlef)), (m0, .inr (8, [.int 0, .int mst, .ref mp, .int mln, .ref mk, .int mts, .ref mti, .ref mtw, .ref mi, .int mmn_11, .ref mpo, .int mpd_13, .ref mpi, .int mpl_14, .int mcp_15, .ref mre, .ref mnn, .ref mwo, .ref mga, .ref mlo, .ref mro, .ref mle, .ref mra, .int mme, .ref mha, .int mch, .int mtm, .int mgo, .int mwa, .ref mba, .int mbl, .ref mon])), (mk, .inl (cI, 4, .inl mkf)), (mpo, .inl (cI, 12, .inl mpof_16)), (mnn, .inl (cI, 4, .inl mnnf_51)), (mwo, .inl (cJ, 12, .inr (.inl mwof_54)))] := hD
              generalize ef55 : upd monf_40 L4_40.toNatClampNeg r52 = f55 at hP hD
              obtain ⟨v56, ev56⟩ : ∃ y : Int32, y = L4_40 + 1 := ⟨_, rfl⟩
              try have hv56 : v56.toInt = L4_40.toInt + (1 : Int32).toInt := I_addx ev56 (by omega)
              refine lv_iinc (v := v56) (lv' := [(4, .int v56), (3, .int r9), (0, .ref m0), (1, .int i), (2, .int x)]) hx hb dX9_apart_65 hl (k := 0) rfl (by rw [ev56]; rfl) (by decide) rfl (fun ls hl => ?_)
              refine lv_goto (tgt := 40) hx hb dX9_apart_68 (by decide) ?_
              exact ih40 v56 mnnf_51 mwof_54 f55 (by first | assumption | omega) (by omega) H locs ls (hP.sub (ws' := [(mnn, .inl (cI, 4, .inl mnnf_51)), (mwo, .inl (cJ, 12, .inr (.inl mwof_54))), (mon, .inl (cI, 625, .inl f55)), (m0, .inr (8, [.int 0, .int mst, .ref mp, .int mln, .ref mk, .int mts, .ref mti, .ref mtw, .ref mi, .int mmn_11, .ref mpo, .int mpd_13, .ref mpi, .int mpl_14, .int mcp_15, .ref mre, .ref mnn, .ref mwo, .ref mga, .ref mlo, .ref mro, .ref mle, .ref mra, .int mme, .ref mha, .int mch, .int mtm, .int mgo, .int mwa, .ref mba, .int mbl, .ref mon])), (mk, .inl (cI, 4, .inl mkf)), (mi, .inl (cI, 12, .inl mif_12)), (mpo, .inl (cI, 12, .inl mpof_16)), (mpi, .inl (cI, 26, .inl mpif_17)), (mre, .inl (cI, 12, .inl mref_18)), (mro, .inl (cI, 3600, .inl mrof)), (mle, .inl (cI, 300, .inl mlef))]) [9, 10, 0, 6, 7, 1, 8, 2, 3, 4, 5] rfl) (hD.sub (ws' := [(mnn, .inl (cI, 4, .inl mnnf_51)), (mwo, .inl (cJ, 12, .inr (.inl mwof_54))), (mon, .inl (cI, 625, .inl f55)), (m0, .inr (8, [.int 0, .int mst, .ref mp, .int mln, .ref mk, .int mts, .ref mti, .ref mtw, .ref mi, .int mmn_11, .ref mpo, .int mpd_13, .ref mpi, .int mpl_14, .int mcp_15, .ref mre, .ref mnn, .ref mwo, .ref mga, .ref mlo, .ref mro, .ref mle, .ref mra, .int mme, .ref mha, .int mch, .int mtm, .int mgo, .int mwa, .ref mba, .int mbl, .ref mon])), (mk, .inl (cI, 4, .inl mkf)), (mi, .inl (cI, 12, .inl mif_12)), (mpo, .inl (cI, 12, .inl mpof_16)), (mpi, .inl (cI, 26, .inl mpif_17)), (mre, .inl (cI, 12, .inl mref_18)), (mro, .inl (cI, 3600, .inl mrof)), (mle, .inl (cI, 300, .inl mlef))]) [9, 10, 0, 6, 7, 1, 8, 2, 3, 4, 5] (by decide) rfl) hS hl
        exact J40 ((625 - (0 : Int32).toInt).toNat + 1) 0 mnnf mwof monf (by first | assumption | omega) (by omega) H locs ls hP hD hS hl
      · have c23' := I_nle c23
        refine lv_bipush (v := (-6)) hx hb dX9_apart_34 (by decide) ?_
        exact hret (-6) (0, mmn_11, mif_12, mpd_13, mpl_14, mcp_15, mpof_16, mpif_17, mref_18, mnnf, mwof, monf) H locs 36 ls rfl ⟨(show 0 ≤ mmn_11.toInt ∧ mmn_11.toInt ≤ 12 from by first | rfl | assumption | omega), (show mcp_15.toInt = 0 ∨ mcp_15.toInt = 1 from by first | rfl | assumption | omega), trivial⟩ (hP.sub (ws' := [(m0, .inr (8, [.int 0, .int mst, .ref mp, .int mln, .ref mk, .int mts, .ref mti, .ref mtw, .ref mi, .int mmn_11, .ref mpo, .int mpd_13, .ref mpi, .int mpl_14, .int mcp_15, .ref mre, .ref mnn, .ref mwo, .ref mga, .ref mlo, .ref mro, .ref mle, .ref mra, .int mme, .ref mha, .int mch, .int mtm, .int mgo, .int mwa, .ref mba, .int mbl, .ref mon])), (mk, .inl (cI, 4, .inl mkf)), (mi, .inl (cI, 12, .inl mif_12)), (mpo, .inl (cI, 12, .inl mpof_16)), (mpi, .inl (cI, 26, .inl mpif_17)), (mre, .inl (cI, 12, .inl mref_18)), (mnn, .inl (cI, 4, .inl mnnf)), (mwo, .inl (cJ, 12, .inr (.inl mwof))), (mro, .inl (cI, 3600, .inl mrof)), (mle, .inl (cI, 300, .inl mlef)), (mon, .inl (cI, 625, .inl monf))]) [3, 4, 5, 6, 7, 8, 0, 1, 9, 10, 2] rfl) (hD.sub (ws' := [(m0, .inr (8, [.int 0, .int mst, .ref mp, .int mln, .ref mk, .int mts, .ref mti, .ref mtw, .ref mi, .int mmn_11, .ref mpo, .int mpd_13, .ref mpi, .int mpl_14, .int mcp_15, .ref mre, .ref mnn, .ref mwo, .ref mga, .ref mlo, .ref mro, .ref mle, .ref mra, .int mme, .ref mha, .int mch, .int mtm, .int mgo, .int mwa, .ref mba, .int mbl, .ref mon])), (mk, .inl (cI, 4, .inl mkf)), (mi, .inl (cI, 12, .inl mif_12)), (mpo, .inl (cI, 12, .inl mpof_16)), (mpi, .inl (cI, 26, .inl mpif_17)), (mre, .inl (cI, 12, .inl mref_18)), (mnn, .inl (cI, 4, .inl mnnf)), (mwo, .inl (cJ, 12, .inr (.inl mwof))), (mro, .inl (cI, 3600, .inl mrof)), (mle, .inl (cI, 300, .inl mlef)), (mon, .inl (cI, 625, .inl monf))]) [3, 4, 5, 6, 7, 8, 0, 1, 9, 10, 2] (by decide) rfl) hS dX9_apart_36
    · have c8' := I_eq c8
      refine lv_bipush (v := (-2)) hx hb dX9_apart_21 (by decide) ?_
      exact hret (-2) (0, mmn, mif, mpd, mpl, mcp, mpof, mpif, mref, mnnf, mwof, monf) H locs 23 ls rfl ⟨(show 0 ≤ mmn.toInt ∧ mmn.toInt ≤ 12 from by first | rfl | assumption | omega), (show mcp.toInt = 0 ∨ mcp.toInt = 1 from by first | rfl | assumption | omega), trivial⟩ (hP.sub (ws' := [(m0, .inr (8, [.int 0, .int mst, .ref mp, .int mln, .ref mk, .int mts, .ref mti, .ref mtw, .ref mi, .int mmn, .ref mpo, .int mpd, .ref mpi, .int mpl, .int mcp, .ref mre, .ref mnn, .ref mwo, .ref mga, .ref mlo, .ref mro, .ref mle, .ref mra, .int mme, .ref mha, .int mch, .int mtm, .int mgo, .int mwa, .ref mba, .int mbl, .ref mon])), (mk, .inl (cI, 4, .inl mkf)), (mi, .inl (cI, 12, .inl mif)), (mpo, .inl (cI, 12, .inl mpof)), (mpi, .inl (cI, 26, .inl mpif)), (mre, .inl (cI, 12, .inl mref)), (mnn, .inl (cI, 4, .inl mnnf)), (mwo, .inl (cJ, 12, .inr (.inl mwof))), (mro, .inl (cI, 3600, .inl mrof)), (mle, .inl (cI, 300, .inl mlef)), (mon, .inl (cI, 625, .inl monf))]) [10, 0, 1, 2, 3, 4, 5, 6, 7, 8, 9] rfl) (hD.sub (ws' := [(m0, .inr (8, [.int 0, .int mst, .ref mp, .int mln, .ref mk, .int mts, .ref mti, .ref mtw, .ref mi, .int mmn, .ref mpo, .int mpd, .ref mpi, .int mpl, .int mcp, .ref mre, .ref mnn, .ref mwo, .ref mga, .ref mlo, .ref mro, .ref mle, .ref mra, .int mme, .ref mha, .int mch, .int mtm, .int mgo, .int mwa, .ref mba, .int mbl, .ref mon])), (mk, .inl (cI, 4, .inl mkf)), (mi, .inl (cI, 12, .inl mif)), (mpo, .inl (cI, 12, .inl mpof)), (mpi, .inl (cI, 26, .inl mpif)), (mre, .inl (cI, 12, .inl mref)), (mnn, .inl (cI, 4, .inl mnnf)), (mwo, .inl (cJ, 12, .inr (.inl mwof))), (mro, .inl (cI, 3600, .inl mrof)), (mle, .inl (cI, 300, .inl mlef)), (mon, .inl (cI, 625, .inl monf))]) [10, 0, 1, 2, 3, 4, 5, 6, 7, 8, 9] (by decide) rfl) hS dX9_apart_23
set_option maxHeartbeats 4000000 in
set_option maxRecDepth 100000 in
theorem c_X9_take (l : Launch) (dC : Nat → ClassId) (dI : Nat → Nat → Nat) (cI cJ : ClassId) (base bB bO : Nat) (m0 : Nat) (mth : Int32) (mst : Int32) (mp : Nat) (mln : Int32) (mk : Nat) (mts : Int32) (mti : Nat) (mtw : Nat) (mi : Nat) (mmn : Int32) (mpo : Nat) (mpd : Int32) (mpi : Nat) (mpl : Int32) (mcp : Int32) (mre : Nat) (mnn : Nat) (mwo : Nat) (mga : Nat) (mlo : Nat) (mro : Nat) (mle : Nat) (mra : Nat) (mme : Int32) (mha : Nat) (mch : Int32) (mtm : Int32) (mgo : Int32) (mwa : Int32) (mba : Nat) (mbl : Int32) (mon : Nat) (mpf : Nat → Int32) (mgaf : Nat → Int32) (mlof : Nat → Int32) (mrof : Nat → Int32) (mlef : Nat → Int32) (mhaf : Nat → Int32) (i : Int32) (hq0 : 0 ≤ mln.toInt ∧ mln.toInt ≤ 10) (hq1 : 0 ≤ mme.toInt ∧ mme.toInt ≤ 300) (hq2 : ∀ j : Nat, 0 ≤ (mlef j).toInt ∧ (mlef j).toInt ≤ 12) : CtI l dC dI cI cJ base bB bO yX9_take cX9_take 4 .int 2 46 [.ref m0, .int i] [(m0, .inr (8, [.int mth, .int mst, .ref mp, .int mln, .ref mk, .int mts, .ref mti, .ref mtw, .ref mi, .int mmn, .ref mpo, .int mpd, .ref mpi, .int mpl, .int mcp, .ref mre, .ref mnn, .ref mwo, .ref mga, .ref mlo, .ref mro, .ref mle, .ref mra, .int mme, .ref mha, .int mch, .int mtm, .int mgo, .int mwa, .ref mba, .int mbl, .ref mon])), (mp, .inl (cI, 10, .inl mpf)), (mga, .inl (cI, 28, .inl mgaf)), (mlo, .inl (cI, 28, .inl mlof)), (mro, .inl (cI, 3600, .inl mrof)), (mle, .inl (cI, 300, .inl mlef)), (mha, .inl (cI, 28, .inl mhaf))] ((Int32) × (Int32) × (Int32) × (Nat → Int32) × (Nat → Int32) × (Nat → Int32) × (Int32)) (fun (res : Int32) (u : (Int32) × (Int32) × (Int32) × (Nat → Int32) × (Nat → Int32) × (Nat → Int32) × (Int32)) => (0 ≤ u.2.2.1.toInt ∧ u.2.2.1.toInt ≤ 10) ∧ (0 ≤ u.2.2.2.2.2.2.toInt ∧ u.2.2.2.2.2.2.toInt ≤ 300) ∧ True) (fun (u : (Int32) × (Int32) × (Int32) × (Nat → Int32) × (Nat → Int32) × (Nat → Int32) × (Int32)) => [(m0, .inr (8, [.int u.1, .int u.2.1, .ref mp, .int u.2.2.1, .ref mk, .int mts, .ref mti, .ref mtw, .ref mi, .int mmn, .ref mpo, .int mpd, .ref mpi, .int mpl, .int mcp, .ref mre, .ref mnn, .ref mwo, .ref mga, .ref mlo, .ref mro, .ref mle, .ref mra, .int u.2.2.2.2.2.2, .ref mha, .int mch, .int mtm, .int mgo, .int mwa, .ref mba, .int mbl, .ref mon])), (mp, .inl (cI, 10, .inl u.2.2.2.1)), (mga, .inl (cI, 28, .inl u.2.2.2.2.1)), (mlo, .inl (cI, 28, .inl u.2.2.2.2.2.1)), (mro, .inl (cI, 3600, .inl mrof)), (mle, .inl (cI, 300, .inl mlef)), (mha, .inl (cI, 28, .inl mhaf))]) := by
  refine entI (by decide) (Nat.le_of_ble_eq_true rfl) ?_
  intro p e s m below meth c A Q ls hAt hret hP hD hS hl
  obtain ⟨hx, hb, hml, hown, hts, hA, hAb, hK, hE, hlocks, hin⟩ := hAt
  have hG : CG dC dI cI cJ base bB bO cX9_take 4 RX9 p s m (List.toArray [.ref m0, .int i]) c A := ⟨hx, hb, hml, hown, hts, hA, hAb, hK, hE⟩
  have hl : lv_has ls 4 [(0, .ref m0), (1, .int i)] := hl
  have c_m5 : (-5 : Int32).toInt = -5 := by decide
  have c_m2 : (-2 : Int32).toInt = -2 := by decide
  have c_0 : (0 : Int32).toInt = 0 := by decide
  have c_1 : (1 : Int32).toInt = 1 := by decide
  have c_10 : (10 : Int32).toInt = 10 := by decide
  have c_12 : (12 : Int32).toInt = 12 := by decide
  have c_28 : (28 : Int32).toInt = 28 := by decide
  obtain ⟨H, hHe⟩ : ∃ H : Heap, H = s.heap := ⟨_, rfl⟩
  obtain ⟨locs, hle⟩ : ∃ z : List Loc, z = [] := ⟨_, rfl⟩
  rw [← hHe] at hP
  have hS : va_S A s.heap H locs := by rw [hHe, hle]; exact hS
  suffices hgo : W p l e { frames := 2, cells := 0, slots := 0, locals := 46 } s m (List.toArray [.ref m0, .int i]) below meth c H locs 0 0 Q (F0 m 0 ls []) by rw [hHe, hle] at hgo; exact hgo
  refine lv_aload_n hx hb dX9_take_0 rfl (lv_at hl 0 rfl) ?_
  refine lv_iconst (v := 0) hx hb dX9_take_1 (by decide) ?_
  refine va_put (D := (dC, dI)) (ci := 8) (v := .int 0) (ty := .int) (C := RX9) (T := TX9) (N := 32) hx hb hts inG_X9 tyX9 tyX9_ok nmX9 hown hK hP hD hS 0 rfl rfl 0 (by decide) (hts _ fl_X9_69) (fun _ h9 => h9) rfl (by decide +kernel) rfl rfl (Nat.le_of_ble_eq_true rfl) dX9_take_2 (fun H locs hP hD hS => ?_)
  have hP : va_P (dC, dI) vwCl [(m0, .inr (8, [.int 0, .int mst, .ref mp, .int mln, .ref mk, .int mts, .ref mti, .ref mtw, .ref mi, .int mmn, .ref mpo, .int mpd, .ref mpi, .int mpl, .int mcp, .ref mre, .ref mnn, .ref mwo, .ref mga, .ref mlo, .ref mro, .ref mle, .ref mra, .int mme, .ref mha, .int mch, .int mtm, .int mgo, .int mwa, .ref mba, .int mbl, .ref mon])), (mp, .inl (cI, 10, .inl mpf)), (mga, .inl (cI, 28, .inl mgaf)), (mlo, .inl (cI, 28, .inl mlof)), (mro, .inl (cI, 3600, .inl mrof)), (mle, .inl (cI, 300, .inl mlef)), (mha, .inl (cI, 28, .inl mhaf))] H := hP
  have hD : va_D A [(m0, .inr (8, [.int 0, .int mst, .ref mp, .int mln, .ref mk, .int mts, .ref mti, .ref mtw, .ref mi, .int mmn, .ref mpo, .int mpd, .ref mpi, .int mpl, .int mcp, .ref mre, .ref mnn, .ref mwo, .ref mga, .ref mlo, .ref mro, .ref mle, .ref mra, .int mme, .ref mha, .int mch, .int mtm, .int mgo, .int mwa, .ref mba, .int mbl, .ref mon])), (mp, .inl (cI, 10, .inl mpf)), (mga, .inl (cI, 28, .inl mgaf)), (mlo, .inl (cI, 28, .inl mlof)), (mro, .inl (cI, 3600, .inl mrof)), (mle, .inl (cI, 300, .inl mlef)), (mha, .inl (cI, 28, .inl mhaf))] := hD
  refine lv_aload_n hx hb dX9_take_5 rfl (lv_at hl 0 rfl) ?_
  refine lv_iload_n hx hb dX9_take_6 rfl (lv_at hl 1 rfl) ?_
  refine calI (rest := []) (wr := [(mp, .inl (cI, 10, .inl mpf)), (mga, .inl (cI, 28, .inl mgaf)), (mlo, .inl (cI, 28, .inl mlof)), (mro, .inl (cI, 3600, .inl mrof)), (mle, .inl (cI, 300, .inl mlef)), (mha, .inl (cI, 28, .inl mhaf))]) hG (c_X9_isMending l dC dI cI cJ base bB bO m0 0 mst mp mln mk mts mti mtw mi mmn mpo mpd mpi mpl mcp mre mnn mwo mga mlo mro mle mra mme mha mch mtm mgo mwa mba mbl mon i (by first | assumption | omega)) ml_X9_211 im_X9_isMending se_X9_isMending ini_X9 cd_X9_isMending hd_X9_isMending ⟨(Nat.le_of_ble_eq_true rfl), (Nat.le_of_ble_eq_true rfl)⟩ (Nat.le_of_ble_eq_true rfl) (Nat.le_of_ble_eq_true rfl) hP hD hS [0] [1, 2, 3, 4, 5, 6] rfl rfl rfl rfl (by decide) 8 0 rfl rfl hl.1 rfl (Nat.le_of_ble_eq_true rfl) dX9_take_7 (fun r1 u H locs hw2 hP hD hS => ?_)
  have hw2 : ((r1.toInt = 1 ∧ 0 ≤ i.toInt ∧ i.toInt < mme.toInt) ∨ (r1.toInt = 0 ∧ (i.toInt < 0 ∨ mme.toInt ≤ i.toInt))) ∧ True := hw2
  obtain ⟨hp3, -⟩ := hw2
  have hP : va_P (dC, dI) vwCl [(mp, .inl (cI, 10, .inl mpf)), (mga, .inl (cI, 28, .inl mgaf)), (mlo, .inl (cI, 28, .inl mlof)), (mro, .inl (cI, 3600, .inl mrof)), (mle, .inl (cI, 300, .inl mlef)), (mha, .inl (cI, 28, .inl mhaf)), (m0, .inr (8, [.int 0, .int mst, .ref mp, .int mln, .ref mk, .int mts, .ref mti, .ref mtw, .ref mi, .int mmn, .ref mpo, .int mpd, .ref mpi, .int mpl, .int mcp, .ref mre, .ref mnn, .ref mwo, .ref mga, .ref mlo, .ref mro, .ref mle, .ref mra, .int mme, .ref mha, .int mch, .int mtm, .int mgo, .int mwa, .ref mba, .int mbl, .ref mon]))] H := hP
  have hD : va_D A [(mp, .inl (cI, 10, .inl mpf)), (mga, .inl (cI, 28, .inl mgaf)), (mlo, .inl (cI, 28, .inl mlof)), (mro, .inl (cI, 3600, .inl mrof)), (mle, .inl (cI, 300, .inl mlef)), (mha, .inl (cI, 28, .inl mhaf)), (m0, .inr (8, [.int 0, .int mst, .ref mp, .int mln, .ref mk, .int mts, .ref mti, .ref mtw, .ref mi, .int mmn, .ref mpo, .int mpd, .ref mpi, .int mpl, .int mcp, .ref mre, .ref mnn, .ref mwo, .ref mga, .ref mlo, .ref mro, .ref mle, .ref mra, .int mme, .ref mha, .int mch, .int mtm, .int mgo, .int mwa, .ref mba, .int mbl, .ref mon]))] := hD
  refine lv_if_ne (tgt := 20) hx hb dX9_take_10 (by decide) (fun c4 => ?_) (fun c4 => ?_)
  · have c4' := I_ne c4
    refine lv_aload_n hx hb dX9_take_20 rfl (lv_at hl 0 rfl) ?_
    refine va_get (D := (dC, dI)) (ci := 8) (v := .ref mle) (C := RX9) (T := TX9) (N := 32) hx hb hts inG_X9 hown hK hP 6 rfl rfl 21 (by decide) (hts _ fl_X9_50) (fun _ h9 => h9) rfl dX9_take_21 ?_
    refine lv_iload_n hx hb dX9_take_24 rfl (lv_at hl 1 rfl) ?_
    refine va_iald (t0 := 0) hx hb hK hP 4 (ha := rfl) (ht := rfl) (I_in (by omega) (by omega)) dX9_take_25 ?_
    refine lv_topi (fun v5 ev5 => ?_)
    have fv5 := hq2 i.toNatClampNeg
    rw [← ev5] at fv5
    refine lv_bipush (v := 10) hx hb dX9_take_26 (by decide) ?_
    refine lv_icmp_le (tgt := 38) hx hb dX9_take_28 (by decide) (fun c6 => ?_) (fun c6 => ?_)
    · have c6' := I_le c6
      refine lv_iconst (v := 0) hx hb dX9_take_38 (by decide) ?_
      refine lv_istore_n (lv' := [(2, .int 0), (0, .ref m0), (1, .int i)]) hx hb dX9_take_39 rfl hl (by decide) rfl (fun ls hl => ?_)
      have J40 : ∀ (n : Nat) (L2_40 : Int32) (mgaf_40 : Nat → Int32) (mlof_40 : Nat → Int32), (0 ≤ L2_40.toInt ∧ L2_40.toInt ≤ 28) → (28 - L2_40.toInt) < (n : Int) → ∀ (H : Heap) (locs : List Loc) (ls : Array Slot), va_P (dC, dI) vwCl [(mp, .inl (cI, 10, .inl mpf)), (mga, .inl (cI, 28, .inl mgaf_40)), (mlo, .inl (cI, 28, .inl mlof_40)), (mro, .inl (cI, 3600, .inl mrof)), (mle, .inl (cI, 300, .inl mlef)), (mha, .inl (cI, 28, .inl mhaf)), (m0, .inr (8, [.int 0, .int mst, .ref mp, .int mln, .ref mk, .int mts, .ref mti, .ref mtw, .ref mi, .int mmn, .ref mpo, .int mpd, .ref mpi, .int mpl, .int mcp, .ref mre, .ref mnn, .ref mwo, .ref mga, .ref mlo, .ref mro, .ref mle, .ref mra, .int mme, .ref mha, .int mch, .int mtm, .int mgo, .int mwa, .ref mba, .int mbl, .ref mon]))] H → va_D A [(mp, .inl (cI, 10, .inl mpf)), (mga, .inl (cI, 28, .inl mgaf_40)), (mlo, .inl (cI, 28, .inl mlof_40)), (mro, .inl (cI, 3600, .inl mrof)), (mle, .inl (cI, 300, .inl mlef)), (mha, .inl (cI, 28, .inl mhaf)), (m0, .inr (8, [.int 0, .int mst, .ref mp, .int mln, .ref mk, .int mts, .ref mti, .ref mtw, .ref mi, .int mmn, .ref mpo, .int mpd, .ref mpi, .int mpl, .int mcp, .ref mre, .ref mnn, .ref mwo, .ref mga, .ref mlo, .ref mro, .ref mle, .ref mra, .int mme, .ref mha, .int mch, .int mtm, .int mgo, .int mwa, .ref mba, .int mbl, .ref mon]))] → va_S A s.heap H locs → lv_has ls 4 [(2, .int L2_40), (0, .ref m0), (1, .int i)] → W p l e { frames := 2, cells := 0, slots := 0, locals := 46 } s m (List.toArray [.ref m0, .int i]) below meth c H locs 0 0 Q (F0 m 40 ls []) := by
        intro n
        induction n with
        | zero =>
          intro L2_40 mgaf_40 mlof_40 hi0_40 hm
          exact absurd hm (by omega)
        | succ n ih40 =>
          intro L2_40 mgaf_40 mlof_40 hi0_40 hm40 H locs ls hP hD hS hl
          refine lv_iload_n hx hb dX9_take_40 rfl (lv_at hl 0 rfl) ?_
          refine lv_bipush (v := 28) hx hb dX9_take_41 (by decide) ?_
          refine lv_icmp_ge (tgt := 115) hx hb dX9_take_43 (by decide) (fun c7 => ?_) (fun c7 => ?_)
          · have c7' := I_le c7
            refine lv_aload_n hx hb dX9_take_115 rfl (lv_at hl 1 rfl) ?_
            refine lv_aload_n hx hb dX9_take_116 rfl (lv_at hl 1 rfl) ?_
            refine va_get (D := (dC, dI)) (ci := 8) (v := .ref mle) (C := RX9) (T := TX9) (N := 32) hx hb hts inG_X9 hown hK hP 6 rfl rfl 21 (by decide) (hts _ fl_X9_50) (fun _ h9 => h9) rfl dX9_take_117 ?_
            refine lv_iload_n hx hb dX9_take_120 rfl (lv_at hl 2 rfl) ?_
            refine va_iald (t0 := 0) hx hb hK hP 4 (ha := rfl) (ht := rfl) (I_in (by omega) (by omega)) dX9_take_121 ?_
            refine lv_topi (fun v8 ev8 => ?_)
            have fv8 := hq2 i.toNatClampNeg
            rw [← ev8] at fv8
            have hsame := I_eq (show v8 = v5 from by rw [ev8, ev5])
            refine va_put (D := (dC, dI)) (ci := 8) (v := .int v8) (ty := .int) (C := RX9) (T := TX9) (N := 32) hx hb hts inG_X9 tyX9 tyX9_ok nmX9 hown hK hP hD hS 6 rfl rfl 3 (by decide) (hts _ fl_X9_89) (fun _ h9 => h9) rfl (by decide +kernel) rfl rfl (Nat.le_of_ble_eq_true rfl) dX9_take_122 (fun H locs hP hD hS => ?_)
            have hP : va_P (dC, dI) vwCl [(mp, .inl (cI, 10, .inl mpf)), (mga, .inl (cI, 28, .inl mgaf_40)), (mlo, .inl (cI, 28, .inl mlof_40)), (mro, .inl (cI, 3600, .inl mrof)), (mle, .inl (cI, 300, .inl mlef)), (mha, .inl (cI, 28, .inl mhaf)), (m0, .inr (8, [.int 0, .int mst, .ref mp, .int v8, .ref mk, .int mts, .ref mti, .ref mtw, .ref mi, .int mmn, .ref mpo, .int mpd, .ref mpi, .int mpl, .int mcp, .ref mre, .ref mnn, .ref mwo, .ref mga, .ref mlo, .ref mro, .ref mle, .ref mra, .int mme, .ref mha, .int mch, .int mtm, .int mgo, .int mwa, .ref mba, .int mbl, .ref mon]))] H := hP
            have hD : va_D A [(mp, .inl (cI, 10, .inl mpf)), (mga, .inl (cI, 28, .inl mgaf_40)), (mlo, .inl (cI, 28, .inl mlof_40)), (mro, .inl (cI, 3600, .inl mrof)), (mle, .inl (cI, 300, .inl mlef)), (mha, .inl (cI, 28, .inl mhaf)), (m0, .inr (8, [.int 0, .int mst, .ref mp, .int v8, .ref mk, .int mts, .ref mti, .ref mtw, .ref mi, .int mmn, .ref mpo, .int mpd, .ref mpi, .int mpl, .int mcp, .ref mre, .ref mnn, .ref mwo, .ref mga, .ref mlo, .ref mro, .ref mle, .ref mra, .int mme, .ref mha, .int mch, .int mtm, .int mgo, .int mwa, .ref mba, .int mbl, .ref mon]))] := hD
            refine lv_iconst (v := 0) hx hb dX9_take_125 (by decide) ?_
            refine lv_istore_n (lv' := [(2, .int 0), (0, .ref m0), (1, .int i)]) hx hb dX9_take_126 rfl hl (by decide) rfl (fun ls hl => ?_)
            have J127 : ∀ (n : Nat) (L2_127 : Int32) (mpf_127 : Nat → Int32), (0 ≤ L2_127.toInt ∧ L2_127.toInt ≤ 10) → (10 - L2_127.toInt) < (n : Int) → ∀ (H : Heap) (locs : List Loc) (ls : Array Slot), va_P (dC, dI) vwCl [(mp, .inl (cI, 10, .inl mpf_127)), (mga, .inl (cI, 28, .inl mgaf_40)), (mlo, .inl (cI, 28, .inl mlof_40)), (mro, .inl (cI, 3600, .inl mrof)), (mle, .inl (cI, 300, .inl mlef)), (mha, .inl (cI, 28, .inl mhaf)), (m0, .inr (8, [.int 0, .int mst, .ref mp, .int v8, .ref mk, .int mts, .ref mti, .ref mtw, .ref mi, .int mmn, .ref mpo, .int mpd, .ref mpi, .int mpl, .int mcp, .ref mre, .ref mnn, .ref mwo, .ref mga, .ref mlo, .ref mro, .ref mle, .ref mra, .int mme, .ref mha, .int mch, .int mtm, .int mgo, .int mwa, .ref mba, .int mbl, .ref mon]))] H → va_D A [(mp, .inl (cI, 10, .inl mpf_127)), (mga, .inl (cI, 28, .inl mgaf_40)), (mlo, .inl (cI, 28, .inl mlof_40)), (mro, .inl (cI, 3600, .inl mrof)), (mle, .inl (cI, 300, .inl mlef)), (mha, .inl (cI, 28, .inl mhaf)), (m0, .inr (8, [.int 0, .int mst, .ref mp, .int v8, .ref mk, .int mts, .ref mti, .ref mtw, .ref mi, .int mmn, .ref mpo, .int mpd, .ref mpi, .int mpl, .int mcp, .ref mre, .ref mnn, .ref mwo, .ref mga, .ref mlo, .ref mro, .ref mle, .ref mra, .int mme, .ref mha, .int mch, .int mtm, .int mgo, .int mwa, .ref mba, .int mbl, .ref mon]))] → va_S A s.heap H locs → lv_has ls 4 [(2, .int L2_127), (0, .ref m0), (1, .int i)] → W p l e { frames := 2, cells := 0, slots := 0, locals := 46 } s m (List.toArray [.ref m0, .int i]) below meth c H locs 0 0 Q (F0 m 127 ls []) := by
              intro n
              induction n with
              | zero =>
                intro L2_127 mpf_127 hi0_127 hm
                exact absurd hm (by omega)
              | succ n ih127 =>
                intro L2_127 mpf_127 hi0_127 hm127 H locs ls hP hD hS hl
                refine lv_iload_n hx hb dX9_take_127 rfl (lv_at hl 0 rfl) ?_
                refine lv_aload_n hx hb dX9_take_128 rfl (lv_at hl 1 rfl) ?_
                refine va_get (D := (dC, dI)) (ci := 8) (v := .int v8) (C := RX9) (T := TX9) (N := 32) hx hb hts inG_X9 hown hK hP 6 rfl rfl 3 (by decide) (hts _ fl_X9_89) (fun _ h9 => h9) rfl dX9_take_129 ?_
                refine lv_icmp_ge (tgt := 158) hx hb dX9_take_132 (by decide) (fun c9 => ?_) (fun c9 => ?_)
                · have c9' := I_le c9
                  refine lv_aload_n hx hb dX9_take_158 rfl (lv_at hl 1 rfl) ?_
                  refine lv_iconst (v := 0) hx hb dX9_take_159 (by decide) ?_
                  refine va_put (D := (dC, dI)) (ci := 8) (v := .int 0) (ty := .int) (C := RX9) (T := TX9) (N := 32) hx hb hts inG_X9 tyX9 tyX9_ok nmX9 hown hK hP hD hS 6 rfl rfl 23 (by decide) (hts _ fl_X9_174) (fun _ h9 => h9) rfl (by decide +kernel) rfl rfl (Nat.le_of_ble_eq_true rfl) dX9_take_160 (fun H locs hP hD hS => ?_)
                  have hP : va_P (dC, dI) vwCl [(mp, .inl (cI, 10, .inl mpf_127)), (mga, .inl (cI, 28, .inl mgaf_40)), (mlo, .inl (cI, 28, .inl mlof_40)), (mro, .inl (cI, 3600, .inl mrof)), (mle, .inl (cI, 300, .inl mlef)), (mha, .inl (cI, 28, .inl mhaf)), (m0, .inr (8, [.int 0, .int mst, .ref mp, .int v8, .ref mk, .int mts, .ref mti, .ref mtw, .ref mi, .int mmn, .ref mpo, .int mpd, .ref mpi, .int mpl, .int mcp, .ref mre, .ref mnn, .ref mwo, .ref mga, .ref mlo, .ref mro, .ref mle, .ref mra, .int 0, .ref mha, .int mch, .int mtm, .int mgo, .int mwa, .ref mba, .int mbl, .ref mon]))] H := hP
                  have hD : va_D A [(mp, .inl (cI, 10, .inl mpf_127)), (mga, .inl (cI, 28, .inl mgaf_40)), (mlo, .inl (cI, 28, .inl mlof_40)), (mro, .inl (cI, 3600, .inl mrof)), (mle, .inl (cI, 300, .inl mlef)), (mha, .inl (cI, 28, .inl mhaf)), (m0, .inr (8, [.int 0, .int mst, .ref mp, .int v8, .ref mk, .int mts, .ref mti, .ref mtw, .ref mi, .int mmn, .ref mpo, .int mpd, .ref mpi, .int mpl, .int mcp, .ref mre, .ref mnn, .ref mwo, .ref mga, .ref mlo, .ref mro, .ref mle, .ref mra, .int 0, .ref mha, .int mch, .int mtm, .int mgo, .int mwa, .ref mba, .int mbl, .ref mon]))] := hD
                  refine lv_aload_n hx hb dX9_take_163 rfl (lv_at hl 1 rfl) ?_
                  refine lv_aload_n hx hb dX9_take_164 rfl (lv_at hl 1 rfl) ?_
                  refine va_get (D := (dC, dI)) (ci := 8) (v := .int v8) (C := RX9) (T := TX9) (N := 32) hx hb hts inG_X9 hown hK hP 6 rfl rfl 3 (by decide) (hts _ fl_X9_89) (fun _ h9 => h9) rfl dX9_take_165 ?_
                  refine calI (rest := []) (wr := [(mp, .inl (cI, 10, .inl mpf_127)), (mga, .inl (cI, 28, .inl mgaf_40)), (mlo, .inl (cI, 28, .inl mlof_40)), (mro, .inl (cI, 3600, .inl mrof)), (mle, .inl (cI, 300, .inl mlef)), (mha, .inl (cI, 28, .inl mhaf))]) hG (c_X9_told l dC dI cI cJ base bB bO m0 0 mst mp v8 mk mts mti mtw mi mmn mpo mpd mpi mpl mcp mre mnn mwo mga mlo mro mle mra 0 mha mch mtm mgo mwa mba mbl mon v8 ) ml_X9_85 im_X9_told se_X9_told ini_X9 cd_X9_told hd_X9_told ⟨(Nat.le_of_ble_eq_true rfl), (Nat.le_of_ble_eq_true rfl)⟩ (Nat.le_of_ble_eq_true rfl) (Nat.le_of_ble_eq_true rfl) hP hD hS [6] [0, 1, 2, 3, 4, 5] rfl rfl rfl rfl (by decide) 8 6 rfl rfl hl.1 rfl (Nat.le_of_ble_eq_true rfl) dX9_take_168 (fun r10 u H locs hw11 hP hD hS => ?_)
                  obtain ⟨mst_12, rfl⟩ : ∃ z, z = u := ⟨_, rfl⟩
                  have hw11 : (r10 = v8) ∧ True := hw11
                  obtain ⟨hp13, -⟩ := hw11
                  have hp13t := I_eq hp13
                  have hP : va_P (dC, dI) vwCl [(mp, .inl (cI, 10, .inl mpf_127)), (mga, .inl (cI, 28, .inl mgaf_40)), (mlo, .inl (cI, 28, .inl mlof_40)), (mro, .inl (cI, 3600, .inl mrof)), (mle, .inl (cI, 300, .inl mlef)), (mha, .inl (cI, 28, .inl mhaf)), (m0, .inr (8, [.int 0, .int mst_12, .ref mp, .int v8, .ref mk, .int mts, .ref mti, .ref mtw, .ref mi, .int mmn, .ref mpo, .int mpd, .ref mpi, .int mpl, .int mcp, .ref mre, .ref mnn, .ref mwo, .ref mga, .ref mlo, .ref mro, .ref mle, .ref mra, .int 0, .ref mha, .int mch, .int mtm, .int mgo, .int mwa, .ref mba, .int mbl, .ref mon]))] H := hP
                  have hD : va_D A [(mp, .inl (cI, 10, .inl mpf_127)), (mga, .inl (cI, 28, .inl mgaf_40)), (mlo, .inl (cI, 28, .inl mlof_40)), (mro, .inl (cI, 3600, .inl mrof)), (mle, .inl (cI, 300, .inl mlef)), (mha, .inl (cI, 28, .inl mhaf)), (m0, .inr (8, [.int 0, .int mst_12, .ref mp, .int v8, .ref mk, .int mts, .ref mti, .ref mtw, .ref mi, .int mmn, .ref mpo, .int mpd, .ref mpi, .int mpl, .int mcp, .ref mre, .ref mnn, .ref mwo, .ref mga, .ref mlo, .ref mro, .ref mle, .ref mra, .int 0, .ref mha, .int mch, .int mtm, .int mgo, .int mwa, .ref mba, .int mbl, .ref mon]))] := hD
                  exact hret r10 (0, mst_12, v8, mpf_127, mgaf_40, mlof_40, 0) H locs 171 ls rfl ⟨(show 0 ≤ v8.toInt ∧ v8.toInt ≤ 10 from by first | rfl | assumption | omega), (show 0 ≤ (0 : Int32).toInt ∧ (0 : Int32).toInt ≤ 300 from by first | rfl | assumption | omega), trivial⟩ (hP.sub (ws' := [(m0, .inr (8, [.int 0, .int mst_12, .ref mp, .int v8, .ref mk, .int mts, .ref mti, .ref mtw, .ref mi, .int mmn, .ref mpo, .int mpd, .ref mpi, .int mpl, .int mcp, .ref mre, .ref mnn, .ref mwo, .ref mga, .ref mlo, .ref mro, .ref mle, .ref mra, .int 0, .ref mha, .int mch, .int mtm, .int mgo, .int mwa, .ref mba, .int mbl, .ref mon])), (mp, .inl (cI, 10, .inl mpf_127)), (mga, .inl (cI, 28, .inl mgaf_40)), (mlo, .inl (cI, 28, .inl mlof_40)), (mro, .inl (cI, 3600, .inl mrof)), (mle, .inl (cI, 300, .inl mlef)), (mha, .inl (cI, 28, .inl mhaf))]) [6, 0, 1, 2, 3, 4, 5] rfl) (hD.sub (ws' := [(m0, .inr (8, [.int 0, .int mst_12, .ref mp, .int v8, .ref mk, .int mts, .ref mti, .ref mtw, .ref mi, .int mmn, .ref mpo, .int mpd, .ref mpi, .int mpl, .int mcp, .ref mre, .ref mnn, .ref mwo, .ref mga, .ref mlo, .ref mro, .ref mle, .ref mra, .int 0, .ref mha, .int mch, .int mtm, .int mgo, .int mwa, .ref mba, .int mbl, .ref mon])), (mp, .inl (cI, 10, .inl mpf_127)), (mga, .inl (cI, 28, .inl mgaf_40)), (mlo, .inl (cI, 28, .inl mlof_40)), (mro, .inl (cI, 3600, .inl mrof)), (mle, .inl (cI, 300, .inl mlef)), (mha, .inl (cI, 28, .inl mhaf))]) [6, 0, 1, 2, 3, 4, 5] (by decide) rfl) hS dX9_take_171
                · have c9' := I_nle c9
                  refine lv_aload_n hx hb dX9_take_135 rfl (lv_at hl 1 rfl) ?_
                  refine va_get (D := (dC, dI)) (ci := 8) (v := .ref mp) (C := RX9) (T := TX9) (N := 32) hx hb hts inG_X9 hown hK hP 6 rfl rfl 2 (by decide) (hts _ fl_X9_7) (fun _ h9 => h9) rfl dX9_take_136 ?_
                  refine lv_iload_n hx hb dX9_take_139 rfl (lv_at hl 0 rfl) ?_
                  refine lv_aload_n hx hb dX9_take_140 rfl (lv_at hl 1 rfl) ?_
                  refine va_get (D := (dC, dI)) (ci := 8) (v := .ref mro) (C := RX9) (T := TX9) (N := 32) hx hb hts inG_X9 hown hK hP 6 rfl rfl 20 (by decide) (hts _ fl_X9_47) (fun _ h9 => h9) rfl dX9_take_141 ?_
                  refine lv_bipush (v := 12) hx hb dX9_take_144 (by decide) ?_
                  refine lv_iload_n hx hb dX9_take_146 rfl (lv_at hl 2 rfl) ?_
                  refine lv_imul hx hb dX9_take_147 ?_
                  refine lv_topi (fun v14 ev14 => ?_)
                  try have hv14 := I_mulxl (12) ev14 (by decide) (by omega)
                  refine lv_iload_n hx hb dX9_take_148 rfl (lv_at hl 0 rfl) ?_
                  refine lv_iadd hx hb dX9_take_149 ?_
                  refine lv_topi (fun v15 ev15 => ?_)
                  try have hv15 : v15.toInt = v14.toInt + L2_127.toInt := I_addx ev15 (by omega)
                  refine va_iald (t0 := 0) hx hb hK hP 3 (ha := rfl) (ht := rfl) (I_in (by omega) (by omega)) dX9_take_150 ?_
                  refine lv_topi (fun v16 ev16 => ?_)
                  refine va_iast (t0 := 0) hx hb hK hP hD hS 0 (ha := rfl) (ht := rfl) (I_in (by omega) (by omega)) dX9_take_151 (fun H locs hP hD hS => ?_)
                  have hP : va_P (dC, dI) vwCl [(mp, .inl (cI, 10, .inl (upd mpf_127 L2_127.toNatClampNeg v16))), (mga, .inl (cI, 28, .inl mgaf_40)), (mlo, .inl (cI, 28, .inl mlof_40)), (mro, .inl (cI, 3600, .inl mrof)), (mle, .inl (cI, 300, .inl mlef)), (mha, .inl (cI, 28, .inl mhaf)), (m0, .inr (8, [.int 0, .int mst, .ref mp, .int v8, .ref mk, .int mts, .ref mti, .ref mtw, .ref mi, .int mmn, .ref mpo, .int mpd, .ref mpi, .int mpl, .int mcp, .ref mre, .ref mnn, .ref mwo, .ref mga, .ref mlo, .ref mro, .ref mle, .ref mra, .int mme, .ref mha, .int mch, .int mtm, .int mgo, .int mwa, .ref mba, .int mbl, .ref mon]))] H := hP
                  have hD : va_D A [(mp, .inl (cI, 10, .inl (upd mpf_127 L2_127.toNatClampNeg v16))), (mga, .inl (cI, 28, .inl mgaf_40)), (mlo, .inl (cI, 28, .inl mlof_40)), (mro, .inl (cI, 3600, .inl mrof)), (mle, .inl (cI, 300, .inl mlef)), (mha, .inl (cI, 28, .inl mhaf)), (m0, .inr (8, [.int 0, .int mst, .ref mp, .int v8, .ref mk, .int mts, .ref mti, .ref mtw, .ref mi, .int mmn, .ref mpo, .int mpd, .ref mpi, .int mpl, .int mcp, .ref mre, .ref mnn, .ref mwo, .ref mga, .ref mlo, .ref mro, .ref mle, .ref mra, .int mme, .ref mha, .int mch, .int mtm, .int mgo, .int mwa, .ref mba, .int mbl, .ref mon]))] := hD
                  generalize ef17 : upd mpf_127 L2_127.toNatClampNeg v16 = f17 at hP hD
                  obtain ⟨v18, ev18⟩ : ∃ y : Int32, y = L2_127 + 1 := ⟨_, rfl⟩
                  try have hv18 : v18.toInt = L2_127.toInt + (1 : Int32).toInt := I_addx ev18 (by omega)
                  refine lv_iinc (v := v18) (lv' := [(2, .int v18), (0, .ref m0), (1, .int i)]) hx hb dX9_take_152 hl (k := 0) rfl (by rw [ev18]; rfl) (by decide) rfl (fun ls hl => ?_)
                  refine lv_goto (tgt := 127) hx hb dX9_take_155 (by decide) ?_
                  exact ih127 v18 f17 (by first | assumption | omega) (by omega) H locs ls hP hD hS hl
            exact J127 ((10 - (0 : Int32).toInt).toNat + 1) 0 mpf (by first | assumption | omega) (by omega) H locs ls hP hD hS hl
          · have c7' := I_nle c7
            refine lv_aload_n hx hb dX9_take_46 rfl (lv_at hl 1 rfl) ?_
            refine va_get (D := (dC, dI)) (ci := 8) (v := .ref mro) (C := RX9) (T := TX9) (N := 32) hx hb hts inG_X9 hown hK hP 6 rfl rfl 20 (by decide) (hts _ fl_X9_47) (fun _ h9 => h9) rfl dX9_take_47 ?_
            refine lv_bipush (v := 12) hx hb dX9_take_50 (by decide) ?_
            refine lv_iload_n hx hb dX9_take_52 rfl (lv_at hl 2 rfl) ?_
            refine lv_imul hx hb dX9_take_53 ?_
            refine lv_topi (fun v19 ev19 => ?_)
            try have hv19 := I_mulxl (12) ev19 (by decide) (by omega)
            refine lv_aload_n hx hb dX9_take_54 rfl (lv_at hl 1 rfl) ?_
            refine va_get (D := (dC, dI)) (ci := 8) (v := .ref mle) (C := RX9) (T := TX9) (N := 32) hx hb hts inG_X9 hown hK hP 6 rfl rfl 21 (by decide) (hts _ fl_X9_50) (fun _ h9 => h9) rfl dX9_take_55 ?_
            refine lv_iload_n hx hb dX9_take_58 rfl (lv_at hl 2 rfl) ?_
            refine va_iald (t0 := 0) hx hb hK hP 4 (ha := rfl) (ht := rfl) (I_in (by omega) (by omega)) dX9_take_59 ?_
            refine lv_topi (fun v20 ev20 => ?_)
            have fv20 := hq2 i.toNatClampNeg
            rw [← ev20] at fv20
            refine lv_iload_n hx hb dX9_take_60 rfl (lv_at hl 0 rfl) ?_
            refine calOI (rest := []) (wr := [(mp, .inl (cI, 10, .inl mpf)), (mga, .inl (cI, 28, .inl mgaf_40)), (mlo, .inl (cI, 28, .inl mlof_40)), (mle, .inl (cI, 300, .inl mlef)), (mha, .inl (cI, 28, .inl mhaf)), (m0, .inr (8, [.int 0, .int mst, .ref mp, .int mln, .ref mk, .int mts, .ref mti, .ref mtw, .ref mi, .int mmn, .ref mpo, .int mpd, .ref mpi, .int mpl, .int mcp, .ref mre, .ref mnn, .ref mwo, .ref mga, .ref mlo, .ref mro, .ref mle, .ref mra, .int mme, .ref mha, .int mch, .int mtm, .int mgo, .int mwa, .ref mba, .int mbl, .ref mon]))]) hG (c_X9_often_b l dC dI cI cJ base bB bO mro mrof v19 v20 L2_40 (by first | assumption | omega)) ml_X9_189 st_X9_often ini_X9 cd_X9_often hd_X9_often.2 ⟨(Nat.le_of_ble_eq_true rfl), (Nat.le_of_ble_eq_true rfl)⟩ (Nat.le_of_ble_eq_true rfl) (Nat.le_of_ble_eq_true rfl) hP hD hS [3] [0, 1, 2, 4, 5, 6] rfl rfl rfl rfl (by decide) hl.1 rfl (Nat.le_of_ble_eq_true rfl) dX9_take_61 (fun r21 u H locs hw22 hP hD hS => ?_)
            have hP : va_P (dC, dI) vwCl [(mp, .inl (cI, 10, .inl mpf)), (mga, .inl (cI, 28, .inl mgaf_40)), (mlo, .inl (cI, 28, .inl mlof_40)), (mle, .inl (cI, 300, .inl mlef)), (mha, .inl (cI, 28, .inl mhaf)), (m0, .inr (8, [.int 0, .int mst, .ref mp, .int mln, .ref mk, .int mts, .ref mti, .ref mtw, .ref mi, .int mmn, .ref mpo, .int mpd, .ref mpi, .int mpl, .int mcp, .ref mre, .ref mnn, .ref mwo, .ref mga, .ref mlo, .ref mro, .ref mle, .ref mra, .int mme, .ref mha, .int mch, .int mtm, .int mgo, .int mwa, .ref mba, .int mbl, .ref mon])), (mro, .inl (cI, 3600, .inl mrof))] H := hP
            have hD : va_D A [(mp, .inl (cI, 10, .inl mpf)), (mga, .inl (cI, 28, .inl mgaf_40)), (mlo, .inl (cI, 28, .inl mlof_40)), (mle, .inl (cI, 300, .inl mlef)), (mha, .inl (cI, 28, .inl mhaf)), (m0, .inr (8, [.int 0, .int mst, .ref mp, .int mln, .ref mk, .int mts, .ref mti, .ref mtw, .ref mi, .int mmn, .ref mpo, .int mpd, .ref mpi, .int mpl, .int mcp, .ref mre, .ref mnn, .ref mwo, .ref mga, .ref mlo, .ref mro, .ref mle, .ref mra, .int mme, .ref mha, .int mch, .int mtm, .int mgo, .int mwa, .ref mba, .int mbl, .ref mon])), (mro, .inl (cI, 3600, .inl mrof))] := hD
            refine lv_aload_n hx hb dX9_take_64 rfl (lv_at hl 1 rfl) ?_
            refine va_get (D := (dC, dI)) (ci := 8) (v := .ref mha) (C := RX9) (T := TX9) (N := 32) hx hb hts inG_X9 hown hK hP 5 rfl rfl 24 (by decide) (hts _ fl_X9_56) (fun _ h9 => h9) rfl dX9_take_65 ?_
            refine lv_iload_n hx hb dX9_take_68 rfl (lv_at hl 0 rfl) ?_
            refine va_iald (t0 := 0) hx hb hK hP 4 (ha := rfl) (ht := rfl) (I_in (by omega) (by omega)) dX9_take_69 ?_
            refine lv_topi (fun v23 ev23 => ?_)
            refine lv_isub hx hb dX9_take_70 ?_
            refine lv_topi (fun v24 ev24 => ?_)
            try have hv24 : v24.toInt = r21.toInt - v23.toInt := I_subx ev24 (by omega)
            refine lv_istore_n (lv' := [(3, .int v24), (2, .int L2_40), (0, .ref m0), (1, .int i)]) hx hb dX9_take_71 rfl hl (by decide) rfl (fun ls hl => ?_)
            have J90 : ∀ (mgaf_90 : Nat → Int32), ∀ (H : Heap) (locs : List Loc) (ls : Array Slot), va_P (dC, dI) vwCl [(mp, .inl (cI, 10, .inl mpf)), (mga, .inl (cI, 28, .inl mgaf_90)), (mlo, .inl (cI, 28, .inl mlof_40)), (mle, .inl (cI, 300, .inl mlef)), (mha, .inl (cI, 28, .inl mhaf)), (m0, .inr (8, [.int 0, .int mst, .ref mp, .int mln, .ref mk, .int mts, .ref mti, .ref mtw, .ref mi, .int mmn, .ref mpo, .int mpd, .ref mpi, .int mpl, .int mcp, .ref mre, .ref mnn, .ref mwo, .ref mga, .ref mlo, .ref mro, .ref mle, .ref mra, .int mme, .ref mha, .int mch, .int mtm, .int mgo, .int mwa, .ref mba, .int mbl, .ref mon])), (mro, .inl (cI, 3600, .inl mrof))] H → va_D A [(mp, .inl (cI, 10, .inl mpf)), (mga, .inl (cI, 28, .inl mgaf_90)), (mlo, .inl (cI, 28, .inl mlof_40)), (mle, .inl (cI, 300, .inl mlef)), (mha, .inl (cI, 28, .inl mhaf)), (m0, .inr (8, [.int 0, .int mst, .ref mp, .int mln, .ref mk, .int mts, .ref mti, .ref mtw, .ref mi, .int mmn, .ref mpo, .int mpd, .ref mpi, .int mpl, .int mcp, .ref mre, .ref mnn, .ref mwo, .ref mga, .ref mlo, .ref mro, .ref mle, .ref mra, .int mme, .ref mha, .int mch, .int mtm, .int mgo, .int mwa, .ref mba, .int mbl, .ref mon])), (mro, .inl (cI, 3600, .inl mrof))] → va_S A s.heap H locs → lv_has ls 4 [(3, .int v24), (2, .int L2_40), (0, .ref m0), (1, .int i)] → W p l e { frames := 2, cells := 0, slots := 0, locals := 46 } s m (List.toArray [.ref m0, .int i]) below meth c H locs 0 0 Q (F0 m 90 ls []) := by
              intro mgaf_90 H locs ls hP hD hS hl
              refine lv_aload_n hx hb dX9_take_90 rfl (lv_at hl 2 rfl) ?_
              refine va_get (D := (dC, dI)) (ci := 8) (v := .ref mlo) (C := RX9) (T := TX9) (N := 32) hx hb hts inG_X9 hown hK hP 5 rfl rfl 19 (by decide) (hts _ fl_X9_44) (fun _ h9 => h9) rfl dX9_take_91 ?_
              refine lv_iload_n hx hb dX9_take_94 rfl (lv_at hl 1 rfl) ?_
              refine lv_dup2_11 hx hb dX9_take_95 rfl rfl ?_
              refine va_iald (t0 := 0) hx hb hK hP 2 (ha := rfl) (ht := rfl) (I_in (by omega) (by omega)) dX9_take_96 ?_
              refine lv_topi (fun v25 ev25 => ?_)
              refine lv_iload_n hx hb dX9_take_97 rfl (lv_at hl 0 rfl) ?_
              refine lv_if_ge (tgt := 106) hx hb dX9_take_98 (by decide) (fun c26 => ?_) (fun c26 => ?_)
              · have c26' := I_le c26
                refine lv_iconst (v := 0) hx hb dX9_take_106 (by decide) ?_
                refine lv_iadd hx hb dX9_take_107 ?_
                refine lv_topi (fun v27 ev27 => ?_)
                try have hv27 : v27.toInt = v25.toInt + (0 : Int32).toInt := I_addx ev27 (by omega)
                refine va_iast (t0 := 0) hx hb hK hP hD hS 2 (ha := rfl) (ht := rfl) (I_in (by omega) (by omega)) dX9_take_108 (fun H locs hP hD hS => ?_)
                have hP : va_P (dC, dI) vwCl [(mp, .inl (cI, 10, .inl mpf)), (mga, .inl (cI, 28, .inl mgaf_90)), (mlo, .inl (cI, 28, .inl (upd mlof_40 L2_40.toNatClampNeg v27))), (mle, .inl (cI, 300, .inl mlef)), (mha, .inl (cI, 28, .inl mhaf)), (m0, .inr (8, [.int 0, .int mst, .ref mp, .int mln, .ref mk, .int mts, .ref mti, .ref mtw, .ref mi, .int mmn, .ref mpo, .int mpd, .ref mpi, .int mpl, .int mcp, .ref mre, .ref mnn, .ref mwo, .ref mga, .ref mlo, .ref mro, .ref mle, .ref mra, .int mme, .ref mha, .int mch, .int mtm, .int mgo, .int mwa, .ref mba, .int mbl, .ref mon])), (mro, .inl (cI, 3600, .inl mrof))] H := hP
                have hD : va_D A [(mp, .inl (cI, 10, .inl mpf)), (mga, .inl (cI, 28, .inl mgaf_90)), (mlo, .inl (cI, 28, .inl (upd mlof_40 L2_40.toNatClampNeg v27))), (mle, .inl (cI, 300, .inl mlef)), (mha, .inl (cI, 28, .inl mhaf)), (m0, .inr (8, [.int 0, .int mst, .ref mp, .int mln, .ref mk, .int mts, .ref mti, .ref mtw, .ref mi, .int mmn, .ref mpo, .int mpd, .ref mpi, .int mpl, .int mcp, .ref mre, .ref mnn, .ref mwo, .ref mga, .ref mlo, .ref mro, .ref mle, .ref mra, .int mme, .ref mha, .int mch, .int mtm, .int mgo, .int mwa, .ref mba, .int mbl, .ref mon])), (mro, .inl (cI, 3600, .inl mrof))] := hD
                generalize ef28 : upd mlof_40 L2_40.toNatClampNeg v27 = f28 at hP hD
                obtain ⟨v29, ev29⟩ : ∃ y : Int32, y = L2_40 + 1 := ⟨_, rfl⟩
                try have hv29 : v29.toInt = L2_40.toInt + (1 : Int32).toInt := I_addx ev29 (by omega)
                refine lv_iinc (v := v29) (lv' := [(2, .int v29), (3, .int v24), (0, .ref m0), (1, .int i)]) hx hb dX9_take_109 hl (k := 1) rfl (by rw [ev29]; rfl) (by decide) rfl (fun ls hl => ?_)
                refine lv_goto (tgt := 40) hx hb dX9_take_112 (by decide) ?_
                exact ih40 v29 mgaf_90 f28 (by first | assumption | omega) (by omega) H locs ls (hP.sub (ws' := [(mp, .inl (cI, 10, .inl mpf)), (mga, .inl (cI, 28, .inl mgaf_90)), (mlo, .inl (cI, 28, .inl f28)), (mro, .inl (cI, 3600, .inl mrof)), (mle, .inl (cI, 300, .inl mlef)), (mha, .inl (cI, 28, .inl mhaf)), (m0, .inr (8, [.int 0, .int mst, .ref mp, .int mln, .ref mk, .int mts, .ref mti, .ref mtw, .ref mi, .int mmn, .ref mpo, .int mpd, .ref mpi, .int mpl, .int mcp, .ref mre, .ref mnn, .ref mwo, .ref mga, .ref mlo, .ref mro, .ref mle, .ref mra, .int mme, .ref mha, .int mch, .int mtm, .int mgo, .int mwa, .ref mba, .int mbl, .ref mon]))]) [0, 1, 2, 6, 3, 4, 5] rfl) (hD.sub (ws' := [(mp, .inl (cI, 10, .inl mpf)), (mga, .inl (cI, 28, .inl mgaf_90)), (mlo, .inl (cI, 28, .inl f28)), (mro, .inl (cI, 3600, .inl mrof)), (mle, .inl (cI, 300, .inl mlef)), (mha, .inl (cI, 28, .inl mhaf)), (m0, .inr (8, [.int 0, .int mst, .ref mp, .int mln, .ref mk, .int mts, .ref mti, .ref mtw, .ref mi, .int mmn, .ref mpo, .int mpd, .ref mpi, .int mpl, .int mcp, .ref mre, .ref mnn, .ref mwo, .ref mga, .ref mlo, .ref mro, .ref mle, .ref mra, .int mme, .ref mha, .int mch, .int mtm, .int mgo, .int mwa, .ref mba, .int mbl, .ref mon]))]) [0, 1, 2, 6, 3, 4, 5] (by decide) rfl) hS (lv_sub hl [0, 2, 3] rfl)
              · have c26' := I_nle c26
                refine lv_iload_n hx hb dX9_take_101 rfl (lv_at hl 0 rfl) ?_
                refine lv_ineg hx hb dX9_take_102 ?_
                refine lv_topi (fun v30 ev30 => ?_)
                refine lv_goto (tgt := 107) hx hb dX9_take_103 (by decide) ?_
                refine lv_iadd hx hb dX9_take_107 ?_
                refine lv_topi (fun v31 ev31 => ?_)
                try have hv31 : v31.toInt = v25.toInt + v30.toInt := I_addx ev31 (by omega)
                refine va_iast (t0 := 0) hx hb hK hP hD hS 2 (ha := rfl) (ht := rfl) (I_in (by omega) (by omega)) dX9_take_108 (fun H locs hP hD hS => ?_)
                have hP : va_P (dC, dI) vwCl [(mp, .inl (cI, 10, .inl mpf)), (mga, .inl (cI, 28, .inl mgaf_90)), (mlo, .inl (cI, 28, .inl (upd mlof_40 L2_40.toNatClampNeg v31))), (mle, .inl (cI, 300, .inl mlef)), (mha, .inl (cI, 28, .inl mhaf)), (m0, .inr (8, [.int 0, .int mst, .ref mp, .int mln, .ref mk, .int mts, .ref mti, .ref mtw, .ref mi, .int mmn, .ref mpo, .int mpd, .ref mpi, .int mpl, .int mcp, .ref mre, .ref mnn, .ref mwo, .ref mga, .ref mlo, .ref mro, .ref mle, .ref mra, .int mme, .ref mha, .int mch, .int mtm, .int mgo, .int mwa, .ref mba, .int mbl, .ref mon])), (mro, .inl (cI, 3600, .inl mrof))] H := hP
                have hD : va_D A [(mp, .inl (cI, 10, .inl mpf)), (mga, .inl (cI, 28, .inl mgaf_90)), (mlo, .inl (cI, 28, .inl (upd mlof_40 L2_40.toNatClampNeg v31))), (mle, .inl (cI, 300, .inl mlef)), (mha, .inl (cI, 28, .inl mhaf)), (m0, .inr (8, [.int 0, .int mst, .ref mp, .int mln, .ref mk, .int mts, .ref mti, .ref mtw, .ref mi, .int mmn, .ref mpo, .int mpd, .ref mpi, .int mpl, .int mcp, .ref mre, .ref mnn, .ref mwo, .ref mga, .ref mlo, .ref mro, .ref mle, .ref mra, .int mme, .ref mha, .int mch, .int mtm, .int mgo, .int mwa, .ref mba, .int mbl, .ref mon])), (mro, .inl (cI, 3600, .inl mrof))] := hD
                generalize ef32 : upd mlof_40 L2_40.toNatClampNeg v31 = f32 at hP hD
                obtain ⟨v33, ev33⟩ : ∃ y : Int32, y = L2_40 + 1 := ⟨_, rfl⟩
                try have hv33 : v33.toInt = L2_40.toInt + (1 : Int32).toInt := I_addx ev33 (by omega)
                refine lv_iinc (v := v33) (lv' := [(2, .int v33), (3, .int v24), (0, .ref m0), (1, .int i)]) hx hb dX9_take_109 hl (k := 1) rfl (by rw [ev33]; rfl) (by decide) rfl (fun ls hl => ?_)
                refine lv_goto (tgt := 40) hx hb dX9_take_112 (by decide) ?_
                exact ih40 v33 mgaf_90 f32 (by first | assumption | omega) (by omega) H locs ls (hP.sub (ws' := [(mp, .inl (cI, 10, .inl mpf)), (mga, .inl (cI, 28, .inl mgaf_90)), (mlo, .inl (cI, 28, .inl f32)), (mro, .inl (cI, 3600, .inl mrof)), (mle, .inl (cI, 300, .inl mlef)), (mha, .inl (cI, 28, .inl mhaf)), (m0, .inr (8, [.int 0, .int mst, .ref mp, .int mln, .ref mk, .int mts, .ref mti, .ref mtw, .ref mi, .int mmn, .ref mpo, .int mpd, .ref mpi, .int mpl, .int mcp, .ref mre, .ref mnn, .ref mwo, .ref mga, .ref mlo, .ref mro, .ref mle, .ref mra, .int mme, .ref mha, .int mch, .int mtm, .int mgo, .int mwa, .ref mba, .int mbl, .ref mon]))]) [0, 1, 2, 6, 3, 4, 5] rfl) (hD.sub (ws' := [(mp, .inl (cI, 10, .inl mpf)), (mga, .inl (cI, 28, .inl mgaf_90)), (mlo, .inl (cI, 28, .inl f32)), (mro, .inl (cI, 3600, .inl mrof)), (mle, .inl (cI, 300, .inl mlef)), (mha, .inl (cI, 28, .inl mhaf)), (m0, .inr (8, [.int 0, .int mst, .ref mp, .int mln, .ref mk, .int mts, .ref mti, .ref mtw, .ref mi, .int mmn, .ref mpo, .int mpd, .ref mpi, .int mpl, .int mcp, .ref mre, .ref mnn, .ref mwo, .ref mga, .ref mlo, .ref mro, .ref mle, .ref mra, .int mme, .ref mha, .int mch, .int mtm, .int mgo, .int mwa, .ref mba, .int mbl, .ref mon]))]) [0, 1, 2, 6, 3, 4, 5] (by decide) rfl) hS (lv_sub hl [0, 2, 3] rfl)
            refine lv_aload_n hx hb dX9_take_72 rfl (lv_at hl 2 rfl) ?_
            refine va_get (D := (dC, dI)) (ci := 8) (v := .ref mga) (C := RX9) (T := TX9) (N := 32) hx hb hts inG_X9 hown hK hP 5 rfl rfl 18 (by decide) (hts _ fl_X9_41) (fun _ h9 => h9) rfl dX9_take_73 ?_
            refine lv_iload_n hx hb dX9_take_76 rfl (lv_at hl 1 rfl) ?_
            refine lv_dup2_11 hx hb dX9_take_77 rfl rfl ?_
            refine va_iald (t0 := 0) hx hb hK hP 1 (ha := rfl) (ht := rfl) (I_in (by omega) (by omega)) dX9_take_78 ?_
            refine lv_topi (fun v34 ev34 => ?_)
            refine lv_iload_n hx hb dX9_take_79 rfl (lv_at hl 0 rfl) ?_
            refine lv_if_le (tgt := 87) hx hb dX9_take_80 (by decide) (fun c35 => ?_) (fun c35 => ?_)
            · have c35' := I_le c35
              refine lv_iconst (v := 0) hx hb dX9_take_87 (by decide) ?_
              refine lv_iadd hx hb dX9_take_88 ?_
              refine lv_topi (fun v36 ev36 => ?_)
              try have hv36 : v36.toInt = v34.toInt + (0 : Int32).toInt := I_addx ev36 (by omega)
              refine va_iast (t0 := 0) hx hb hK hP hD hS 1 (ha := rfl) (ht := rfl) (I_in (by omega) (by omega)) dX9_take_89 (fun H locs hP hD hS => ?_)
              have hP : va_P (dC, dI) vwCl [(mp, .inl (cI, 10, .inl mpf)), (mga, .inl (cI, 28, .inl (upd mgaf_40 L2_40.toNatClampNeg v36))), (mlo, .inl (cI, 28, .inl mlof_40)), (mle, .inl (cI, 300, .inl mlef)), (mha, .inl (cI, 28, .inl mhaf)), (m0, .inr (8, [.int 0, .int mst, .ref mp, .int mln, .ref mk, .int mts, .ref mti, .ref mtw, .ref mi, .int mmn, .ref mpo, .int mpd, .ref mpi, .int mpl, .int mcp, .ref mre, .ref mnn, .ref mwo, .ref mga, .ref mlo, .ref mro, .ref mle, .ref mra, .int mme, .ref mha, .int mch, .int mtm, .int mgo, .int mwa, .ref mba, .int mbl, .ref mon])), (mro, .inl (cI, 3600, .inl mrof))] H := hP
              have hD : va_D A [(mp, .inl (cI, 10, .inl mpf)), (mga, .inl (cI, 28, .inl (upd mgaf_40 L2_40.toNatClampNeg v36))), (mlo, .inl (cI, 28, .inl mlof_40)), (mle, .inl (cI, 300, .inl mlef)), (mha, .inl (cI, 28, .inl mhaf)), (m0, .inr (8, [.int 0, .int mst, .ref mp, .int mln, .ref mk, .int mts, .ref mti, .ref mtw, .ref mi, .int mmn, .ref mpo, .int mpd, .ref mpi, .int mpl, .int mcp, .ref mre, .ref mnn, .ref mwo, .ref mga, .ref mlo, .ref mro, .ref mle, .ref mra, .int mme, .ref mha, .int mch, .int mtm, .int mgo, .int mwa, .ref mba, .int mbl, .ref mon])), (mro, .inl (cI, 3600, .inl mrof))] := hD
              generalize ef37 : upd mgaf_40 L2_40.toNatClampNeg v36 = f37 at hP hD
              exact J90 f37  H locs ls hP hD hS hl
            · have c35' := I_nle c35
              refine lv_iload_n hx hb dX9_take_83 rfl (lv_at hl 0 rfl) ?_
              refine lv_goto (tgt := 88) hx hb dX9_take_84 (by decide) ?_
              refine lv_iadd hx hb dX9_take_88 ?_
              refine lv_topi (fun v38 ev38 => ?_)
              try have hv38 : v38.toInt = v34.toInt + v24.toInt := I_addx ev38 (by omega)
              refine va_iast (t0 := 0) hx hb hK hP hD hS 1 (ha := rfl) (ht := rfl) (I_in (by omega) (by omega)) dX9_take_89 (fun H locs hP hD hS => ?_)
              have hP : va_P (dC, dI) vwCl [(mp, .inl (cI, 10, .inl mpf)), (mga, .inl (cI, 28, .inl (upd mgaf_40 L2_40.toNatClampNeg v38))), (mlo, .inl (cI, 28, .inl mlof_40)), (mle, .inl (cI, 300, .inl mlef)), (mha, .inl (cI, 28, .inl mhaf)), (m0, .inr (8, [.int 0, .int mst, .ref mp, .int mln, .ref mk, .int mts, .ref mti, .ref mtw, .ref mi, .int mmn, .ref mpo, .int mpd, .ref mpi, .int mpl, .int mcp, .ref mre, .ref mnn, .ref mwo, .ref mga, .ref mlo, .ref mro, .ref mle, .ref mra, .int mme, .ref mha, .int mch, .int mtm, .int mgo, .int mwa, .ref mba, .int mbl, .ref mon])), (mro, .inl (cI, 3600, .inl mrof))] H := hP
              have hD : va_D A [(mp, .inl (cI, 10, .inl mpf)), (mga, .inl (cI, 28, .inl (upd mgaf_40 L2_40.toNatClampNeg v38))), (mlo, .inl (cI, 28, .inl mlof_40)), (mle, .inl (cI, 300, .inl mlef)), (mha, .inl (cI, 28, .inl mhaf)), (m0, .inr (8, [.int 0, .int mst, .ref mp, .int mln, .ref mk, .int mts, .ref mti, .ref mtw, .ref mi, .int mmn, .ref mpo, .int mpd, .ref mpi, .int mpl, .int mcp, .ref mre, .ref mnn, .ref mwo, .ref mga, .ref mlo, .ref mro, .ref mle, .ref mra, .int mme, .ref mha, .int mch, .int mtm, .int mgo, .int mwa, .ref mba, .int mbl, .ref mon])), (mro, .inl (cI, 3600, .inl mrof))] := hD
              generalize ef39 : upd mgaf_40 L2_40.toNatClampNeg v38 = f39 at hP hD
              exact J90 f39  H locs ls hP hD hS hl
      exact J40 ((28 - (0 : Int32).toInt).toNat + 1) 0 mgaf mlof (by first | assumption | omega) (by omega) H locs ls hP hD hS hl
    · have c6' := I_nle c6
      refine lv_aload_n hx hb dX9_take_31 rfl (lv_at hl 0 rfl) ?_
      refine lv_bipush (v := (-5)) hx hb dX9_take_32 (by decide) ?_
      refine calI (rest := []) (wr := [(mp, .inl (cI, 10, .inl mpf)), (mga, .inl (cI, 28, .inl mgaf)), (mlo, .inl (cI, 28, .inl mlof)), (mro, .inl (cI, 3600, .inl mrof)), (mle, .inl (cI, 300, .inl mlef)), (mha, .inl (cI, 28, .inl mhaf))]) hG (c_X9_told l dC dI cI cJ base bB bO m0 0 mst mp mln mk mts mti mtw mi mmn mpo mpd mpi mpl mcp mre mnn mwo mga mlo mro mle mra mme mha mch mtm mgo mwa mba mbl mon (-5) ) ml_X9_85 im_X9_told se_X9_told ini_X9 cd_X9_told hd_X9_told ⟨(Nat.le_of_ble_eq_true rfl), (Nat.le_of_ble_eq_true rfl)⟩ (Nat.le_of_ble_eq_true rfl) (Nat.le_of_ble_eq_true rfl) hP hD hS [6] [0, 1, 2, 3, 4, 5] rfl rfl rfl rfl (by decide) 8 6 rfl rfl hl.1 rfl (Nat.le_of_ble_eq_true rfl) dX9_take_34 (fun r40 u H locs hw41 hP hD hS => ?_)
      obtain ⟨mst_42, rfl⟩ : ∃ z, z = u := ⟨_, rfl⟩
      have hw41 : (r40 = (-5 : Int32)) ∧ True := hw41
      obtain ⟨hp43, -⟩ := hw41
      have hp43t := I_eq hp43
      have hP : va_P (dC, dI) vwCl [(mp, .inl (cI, 10, .inl mpf)), (mga, .inl (cI, 28, .inl mgaf)), (mlo, .inl (cI, 28, .inl mlof)), (mro, .inl (cI, 3600, .inl mrof)), (mle, .inl (cI, 300, .inl mlef)), (mha, .inl (cI, 28, .inl mhaf)), (m0, .inr (8, [.int 0, .int mst_42, .ref mp, .int mln, .ref mk, .int mts, .ref mti, .ref mtw, .ref mi, .int mmn, .ref mpo, .int mpd, .ref mpi, .int mpl, .int mcp, .ref mre, .ref mnn, .ref mwo, .ref mga, .ref mlo, .ref mro, .ref mle, .ref mra, .int mme, .ref mha, .int mch, .int mtm, .int mgo, .int mwa, .ref mba, .int mbl, .ref mon]))] H := hP
      have hD : va_D A [(mp, .inl (cI, 10, .inl mpf)), (mga, .inl (cI, 28, .inl mgaf)), (mlo, .inl (cI, 28, .inl mlof)), (mro, .inl (cI, 3600, .inl mrof)), (mle, .inl (cI, 300, .inl mlef)), (mha, .inl (cI, 28, .inl mhaf)), (m0, .inr (8, [.int 0, .int mst_42, .ref mp, .int mln, .ref mk, .int mts, .ref mti, .ref mtw, .ref mi, .int mmn, .ref mpo, .int mpd, .ref mpi, .int mpl, .int mcp, .ref mre, .ref mnn, .ref mwo, .ref mga, .ref mlo, .ref mro, .ref mle, .ref mra, .int mme, .ref mha, .int mch, .int mtm, .int mgo, .int mwa, .ref mba, .int mbl, .ref mon]))] := hD
      exact hret r40 (0, mst_42, mln, mpf, mgaf, mlof, mme) H locs 37 ls rfl ⟨(show 0 ≤ mln.toInt ∧ mln.toInt ≤ 10 from by first | rfl | assumption | omega), (show 0 ≤ mme.toInt ∧ mme.toInt ≤ 300 from by first | rfl | assumption | omega), trivial⟩ (hP.sub (ws' := [(m0, .inr (8, [.int 0, .int mst_42, .ref mp, .int mln, .ref mk, .int mts, .ref mti, .ref mtw, .ref mi, .int mmn, .ref mpo, .int mpd, .ref mpi, .int mpl, .int mcp, .ref mre, .ref mnn, .ref mwo, .ref mga, .ref mlo, .ref mro, .ref mle, .ref mra, .int mme, .ref mha, .int mch, .int mtm, .int mgo, .int mwa, .ref mba, .int mbl, .ref mon])), (mp, .inl (cI, 10, .inl mpf)), (mga, .inl (cI, 28, .inl mgaf)), (mlo, .inl (cI, 28, .inl mlof)), (mro, .inl (cI, 3600, .inl mrof)), (mle, .inl (cI, 300, .inl mlef)), (mha, .inl (cI, 28, .inl mhaf))]) [6, 0, 1, 2, 3, 4, 5] rfl) (hD.sub (ws' := [(m0, .inr (8, [.int 0, .int mst_42, .ref mp, .int mln, .ref mk, .int mts, .ref mti, .ref mtw, .ref mi, .int mmn, .ref mpo, .int mpd, .ref mpi, .int mpl, .int mcp, .ref mre, .ref mnn, .ref mwo, .ref mga, .ref mlo, .ref mro, .ref mle, .ref mra, .int mme, .ref mha, .int mch, .int mtm, .int mgo, .int mwa, .ref mba, .int mbl, .ref mon])), (mp, .inl (cI, 10, .inl mpf)), (mga, .inl (cI, 28, .inl mgaf)), (mlo, .inl (cI, 28, .inl mlof)), (mro, .inl (cI, 3600, .inl mrof)), (mle, .inl (cI, 300, .inl mlef)), (mha, .inl (cI, 28, .inl mhaf))]) [6, 0, 1, 2, 3, 4, 5] (by decide) rfl) hS dX9_take_37
  · have c4' := I_eq c4
    refine lv_aload_n hx hb dX9_take_13 rfl (lv_at hl 0 rfl) ?_
    refine lv_bipush (v := (-2)) hx hb dX9_take_14 (by decide) ?_
    refine calI (rest := []) (wr := [(mp, .inl (cI, 10, .inl mpf)), (mga, .inl (cI, 28, .inl mgaf)), (mlo, .inl (cI, 28, .inl mlof)), (mro, .inl (cI, 3600, .inl mrof)), (mle, .inl (cI, 300, .inl mlef)), (mha, .inl (cI, 28, .inl mhaf))]) hG (c_X9_told l dC dI cI cJ base bB bO m0 0 mst mp mln mk mts mti mtw mi mmn mpo mpd mpi mpl mcp mre mnn mwo mga mlo mro mle mra mme mha mch mtm mgo mwa mba mbl mon (-2) ) ml_X9_85 im_X9_told se_X9_told ini_X9 cd_X9_told hd_X9_told ⟨(Nat.le_of_ble_eq_true rfl), (Nat.le_of_ble_eq_true rfl)⟩ (Nat.le_of_ble_eq_true rfl) (Nat.le_of_ble_eq_true rfl) hP hD hS [6] [0, 1, 2, 3, 4, 5] rfl rfl rfl rfl (by decide) 8 6 rfl rfl hl.1 rfl (Nat.le_of_ble_eq_true rfl) dX9_take_16 (fun r44 u H locs hw45 hP hD hS => ?_)
    obtain ⟨mst_46, rfl⟩ : ∃ z, z = u := ⟨_, rfl⟩
    have hw45 : (r44 = (-2 : Int32)) ∧ True := hw45
    obtain ⟨hp47, -⟩ := hw45
    have hp47t := I_eq hp47
    have hP : va_P (dC, dI) vwCl [(mp, .inl (cI, 10, .inl mpf)), (mga, .inl (cI, 28, .inl mgaf)), (mlo, .inl (cI, 28, .inl mlof)), (mro, .inl (cI, 3600, .inl mrof)), (mle, .inl (cI, 300, .inl mlef)), (mha, .inl (cI, 28, .inl mhaf)), (m0, .inr (8, [.int 0, .int mst_46, .ref mp, .int mln, .ref mk, .int mts, .ref mti, .ref mtw, .ref mi, .int mmn, .ref mpo, .int mpd, .ref mpi, .int mpl, .int mcp, .ref mre, .ref mnn, .ref mwo, .ref mga, .ref mlo, .ref mro, .ref mle, .ref mra, .int mme, .ref mha, .int mch, .int mtm, .int mgo, .int mwa, .ref mba, .int mbl, .ref mon]))] H := hP
    have hD : va_D A [(mp, .inl (cI, 10, .inl mpf)), (mga, .inl (cI, 28, .inl mgaf)), (mlo, .inl (cI, 28, .inl mlof)), (mro, .inl (cI, 3600, .inl mrof)), (mle, .inl (cI, 300, .inl mlef)), (mha, .inl (cI, 28, .inl mhaf)), (m0, .inr (8, [.int 0, .int mst_46, .ref mp, .int mln, .ref mk, .int mts, .ref mti, .ref mtw, .ref mi, .int mmn, .ref mpo, .int mpd, .ref mpi, .int mpl, .int mcp, .ref mre, .ref mnn, .ref mwo, .ref mga, .ref mlo, .ref mro, .ref mle, .ref mra, .int mme, .ref mha, .int mch, .int mtm, .int mgo, .int mwa, .ref mba, .int mbl, .ref mon]))] := hD
    exact hret r44 (0, mst_46, mln, mpf, mgaf, mlof, mme) H locs 19 ls rfl ⟨(show 0 ≤ mln.toInt ∧ mln.toInt ≤ 10 from by first | rfl | assumption | omega), (show 0 ≤ mme.toInt ∧ mme.toInt ≤ 300 from by first | rfl | assumption | omega), trivial⟩ (hP.sub (ws' := [(m0, .inr (8, [.int 0, .int mst_46, .ref mp, .int mln, .ref mk, .int mts, .ref mti, .ref mtw, .ref mi, .int mmn, .ref mpo, .int mpd, .ref mpi, .int mpl, .int mcp, .ref mre, .ref mnn, .ref mwo, .ref mga, .ref mlo, .ref mro, .ref mle, .ref mra, .int mme, .ref mha, .int mch, .int mtm, .int mgo, .int mwa, .ref mba, .int mbl, .ref mon])), (mp, .inl (cI, 10, .inl mpf)), (mga, .inl (cI, 28, .inl mgaf)), (mlo, .inl (cI, 28, .inl mlof)), (mro, .inl (cI, 3600, .inl mrof)), (mle, .inl (cI, 300, .inl mlef)), (mha, .inl (cI, 28, .inl mhaf))]) [6, 0, 1, 2, 3, 4, 5] rfl) (hD.sub (ws' := [(m0, .inr (8, [.int 0, .int mst_46, .ref mp, .int mln, .ref mk, .int mts, .ref mti, .ref mtw, .ref mi, .int mmn, .ref mpo, .int mpd, .ref mpi, .int mpl, .int mcp, .ref mre, .ref mnn, .ref mwo, .ref mga, .ref mlo, .ref mro, .ref mle, .ref mra, .int mme, .ref mha, .int mch, .int mtm, .int mgo, .int mwa, .ref mba, .int mbl, .ref mon])), (mp, .inl (cI, 10, .inl mpf)), (mga, .inl (cI, 28, .inl mgaf)), (mlo, .inl (cI, 28, .inl mlof)), (mro, .inl (cI, 3600, .inl mrof)), (mle, .inl (cI, 300, .inl mlef)), (mha, .inl (cI, 28, .inl mhaf))]) [6, 0, 1, 2, 3, 4, 5] (by decide) rfl) hS dX9_take_19
set_option maxHeartbeats 4000000 in
set_option maxRecDepth 100000 in
theorem c_X9_habit (l : Launch) (dC : Nat → ClassId) (dI : Nat → Nat → Nat) (cI cJ : ClassId) (base bB bO : Nat) (m0 : Nat) (mth : Int32) (mst : Int32) (mp : Nat) (mln : Int32) (mk : Nat) (mts : Int32) (mti : Nat) (mtw : Nat) (mi : Nat) (mmn : Int32) (mpo : Nat) (mpd : Int32) (mpi : Nat) (mpl : Int32) (mcp : Int32) (mre : Nat) (mnn : Nat) (mwo : Nat) (mga : Nat) (mlo : Nat) (mro : Nat) (mle : Nat) (mra : Nat) (mme : Int32) (mha : Nat) (mch : Int32) (mtm : Int32) (mgo : Int32) (mwa : Int32) (mba : Nat) (mbl : Int32) (mon : Nat) (mgaf : Nat → Int32) (mlof : Nat → Int32) (x : Int32) (y : Int32)  : CtI l dC dI cI cJ base bB bO yX9_habit cX9_habit 3 .int 2 45 [.ref m0, .int x, .int y] [(m0, .inr (8, [.int mth, .int mst, .ref mp, .int mln, .ref mk, .int mts, .ref mti, .ref mtw, .ref mi, .int mmn, .ref mpo, .int mpd, .ref mpi, .int mpl, .int mcp, .ref mre, .ref mnn, .ref mwo, .ref mga, .ref mlo, .ref mro, .ref mle, .ref mra, .int mme, .ref mha, .int mch, .int mtm, .int mgo, .int mwa, .ref mba, .int mbl, .ref mon])), (mga, .inl (cI, 28, .inl mgaf)), (mlo, .inl (cI, 28, .inl mlof))] ((Int32)) (fun (res : Int32) (u : (Int32)) => True) (fun (u : (Int32)) => [(m0, .inr (8, [.int u, .int mst, .ref mp, .int mln, .ref mk, .int mts, .ref mti, .ref mtw, .ref mi, .int mmn, .ref mpo, .int mpd, .ref mpi, .int mpl, .int mcp, .ref mre, .ref mnn, .ref mwo, .ref mga, .ref mlo, .ref mro, .ref mle, .ref mra, .int mme, .ref mha, .int mch, .int mtm, .int mgo, .int mwa, .ref mba, .int mbl, .ref mon])), (mga, .inl (cI, 28, .inl mgaf)), (mlo, .inl (cI, 28, .inl mlof))]) := by
  refine entI (by decide) (Nat.le_of_ble_eq_true rfl) ?_
  intro p e s m below meth c A Q ls hAt hret hP hD hS hl
  obtain ⟨hx, hb, hml, hown, hts, hA, hAb, hK, hE, hlocks, hin⟩ := hAt
  have hG : CG dC dI cI cJ base bB bO cX9_habit 3 RX9 p s m (List.toArray [.ref m0, .int x, .int y]) c A := ⟨hx, hb, hml, hown, hts, hA, hAb, hK, hE⟩
  have hl : lv_has ls 3 [(0, .ref m0), (1, .int x), (2, .int y)] := hl
  have c_m1 : (-1 : Int32).toInt = -1 := by decide
  have c_0 : (0 : Int32).toInt = 0 := by decide
  have c_1 : (1 : Int32).toInt = 1 := by decide
  obtain ⟨H, hHe⟩ : ∃ H : Heap, H = s.heap := ⟨_, rfl⟩
  obtain ⟨locs, hle⟩ : ∃ z : List Loc, z = [] := ⟨_, rfl⟩
  rw [← hHe] at hP
  have hS : va_S A s.heap H locs := by rw [hHe, hle]; exact hS
  suffices hgo : W p l e { frames := 2, cells := 0, slots := 0, locals := 45 } s m (List.toArray [.ref m0, .int x, .int y]) below meth c H locs 0 0 Q (F0 m 0 ls []) by rw [hHe, hle] at hgo; exact hgo
  refine lv_aload_n hx hb dX9_habit_0 rfl (lv_at hl 0 rfl) ?_
  refine lv_iconst (v := 0) hx hb dX9_habit_1 (by decide) ?_
  refine va_put (D := (dC, dI)) (ci := 8) (v := .int 0) (ty := .int) (C := RX9) (T := TX9) (N := 32) hx hb hts inG_X9 tyX9 tyX9_ok nmX9 hown hK hP hD hS 0 rfl rfl 0 (by decide) (hts _ fl_X9_69) (fun _ h9 => h9) rfl (by decide +kernel) rfl rfl (Nat.le_of_ble_eq_true rfl) dX9_habit_2 (fun H locs hP hD hS => ?_)
  have hP : va_P (dC, dI) vwCl [(m0, .inr (8, [.int 0, .int mst, .ref mp, .int mln, .ref mk, .int mts, .ref mti, .ref mtw, .ref mi, .int mmn, .ref mpo, .int mpd, .ref mpi, .int mpl, .int mcp, .ref mre, .ref mnn, .ref mwo, .ref mga, .ref mlo, .ref mro, .ref mle, .ref mra, .int mme, .ref mha, .int mch, .int mtm, .int mgo, .int mwa, .ref mba, .int mbl, .ref mon])), (mga, .inl (cI, 28, .inl mgaf)), (mlo, .inl (cI, 28, .inl mlof))] H := hP
  have hD : va_D A [(m0, .inr (8, [.int 0, .int mst, .ref mp, .int mln, .ref mk, .int mts, .ref mti, .ref mtw, .ref mi, .int mmn, .ref mpo, .int mpd, .ref mpi, .int mpl, .int mcp, .ref mre, .ref mnn, .ref mwo, .ref mga, .ref mlo, .ref mro, .ref mle, .ref mra, .int mme, .ref mha, .int mch, .int mtm, .int mgo, .int mwa, .ref mba, .int mbl, .ref mon])), (mga, .inl (cI, 28, .inl mgaf)), (mlo, .inl (cI, 28, .inl mlof))] := hD
  refine lv_iload_n hx hb dX9_habit_5 rfl (lv_at hl 1 rfl) ?_
  refine calOI (rest := []) (wr := [(m0, .inr (8, [.int 0, .int mst, .ref mp, .int mln, .ref mk, .int mts, .ref mti, .ref mtw, .ref mi, .int mmn, .ref mpo, .int mpd, .ref mpi, .int mpl, .int mcp, .ref mre, .ref mnn, .ref mwo, .ref mga, .ref mlo, .ref mro, .ref mle, .ref mra, .int mme, .ref mha, .int mch, .int mtm, .int mgo, .int mwa, .ref mba, .int mbl, .ref mon])), (mga, .inl (cI, 28, .inl mgaf)), (mlo, .inl (cI, 28, .inl mlof))]) hG (c_X9_isToken l dC dI cI cJ base bB bO x ) ml_X9_81 st_X9_isToken ini_X9 cd_X9_isToken hd_X9_isToken.2 ⟨(Nat.le_of_ble_eq_true rfl), (Nat.le_of_ble_eq_true rfl)⟩ (Nat.le_of_ble_eq_true rfl) (Nat.le_of_ble_eq_true rfl) hP hD hS [] [0, 1, 2] rfl rfl rfl rfl (by decide) hl.1 rfl (Nat.le_of_ble_eq_true rfl) dX9_habit_6 (fun r1 u H locs hw2 hP hD hS => ?_)
  have hw2 : ((r1.toInt = 1 ∧ 0 ≤ x.toInt ∧ x.toInt ≤ 27) ∨ (r1.toInt = 0 ∧ (x.toInt < 0 ∨ 27 < x.toInt))) ∧ True := hw2
  obtain ⟨hp3, -⟩ := hw2
  have hP : va_P (dC, dI) vwCl [(m0, .inr (8, [.int 0, .int mst, .ref mp, .int mln, .ref mk, .int mts, .ref mti, .ref mtw, .ref mi, .int mmn, .ref mpo, .int mpd, .ref mpi, .int mpl, .int mcp, .ref mre, .ref mnn, .ref mwo, .ref mga, .ref mlo, .ref mro, .ref mle, .ref mra, .int mme, .ref mha, .int mch, .int mtm, .int mgo, .int mwa, .ref mba, .int mbl, .ref mon])), (mga, .inl (cI, 28, .inl mgaf)), (mlo, .inl (cI, 28, .inl mlof))] H := hP
  have hD : va_D A [(m0, .inr (8, [.int 0, .int mst, .ref mp, .int mln, .ref mk, .int mts, .ref mti, .ref mtw, .ref mi, .int mmn, .ref mpo, .int mpd, .ref mpi, .int mpl, .int mcp, .ref mre, .ref mnn, .ref mwo, .ref mga, .ref mlo, .ref mro, .ref mle, .ref mra, .int mme, .ref mha, .int mch, .int mtm, .int mgo, .int mwa, .ref mba, .int mbl, .ref mon])), (mga, .inl (cI, 28, .inl mgaf)), (mlo, .inl (cI, 28, .inl mlof))] := hD
  refine lv_if_ne (tgt := 16) hx hb dX9_habit_9 (by decide) (fun c4 => ?_) (fun c4 => ?_)
  · have c4' := I_ne c4
    refine lv_iload_n hx hb dX9_habit_16 rfl (lv_at hl 2 rfl) ?_
    refine lv_if_ne (tgt := 29) hx hb dX9_habit_17 (by decide) (fun c5 => ?_) (fun c5 => ?_)
    · have c5' := I_ne c5
      refine lv_iload_n hx hb dX9_habit_29 rfl (lv_at hl 2 rfl) ?_
      refine lv_iconst (v := 1) hx hb dX9_habit_30 (by decide) ?_
      refine lv_icmp_ne (tgt := 43) hx hb dX9_habit_31 (by decide) (fun c6 => ?_) (fun c6 => ?_)
      · have c6' := I_ne c6
        refine lv_iconst (v := (-1)) hx hb dX9_habit_43 (by decide) ?_
        exact hret (-1) 0 H locs 44 ls rfl trivial hP hD hS dX9_habit_44
      · have c6' := I_eq c6
        refine lv_aload_n hx hb dX9_habit_34 rfl (lv_at hl 0 rfl) ?_
        refine va_get (D := (dC, dI)) (ci := 8) (v := .ref mlo) (C := RX9) (T := TX9) (N := 32) hx hb hts inG_X9 hown hK hP 0 rfl rfl 19 (by decide) (hts _ fl_X9_44) (fun _ h9 => h9) rfl dX9_habit_35 ?_
        refine lv_iload_n hx hb dX9_habit_38 rfl (lv_at hl 1 rfl) ?_
        refine va_iald (t0 := 0) hx hb hK hP 2 (ha := rfl) (ht := rfl) (I_in (by omega) (by omega)) dX9_habit_39 ?_
        refine lv_topi (fun v7 ev7 => ?_)
        refine lv_goto (tgt := 44) hx hb dX9_habit_40 (by decide) ?_
        exact hret v7 0 H locs 44 ls rfl trivial hP hD hS dX9_habit_44
    · have c5' := I_eq c5
      refine lv_aload_n hx hb dX9_habit_20 rfl (lv_at hl 0 rfl) ?_
      refine va_get (D := (dC, dI)) (ci := 8) (v := .ref mga) (C := RX9) (T := TX9) (N := 32) hx hb hts inG_X9 hown hK hP 0 rfl rfl 18 (by decide) (hts _ fl_X9_41) (fun _ h9 => h9) rfl dX9_habit_21 ?_
      refine lv_iload_n hx hb dX9_habit_24 rfl (lv_at hl 1 rfl) ?_
      refine va_iald (t0 := 0) hx hb hK hP 1 (ha := rfl) (ht := rfl) (I_in (by omega) (by omega)) dX9_habit_25 ?_
      refine lv_topi (fun v8 ev8 => ?_)
      refine lv_goto (tgt := 44) hx hb dX9_habit_26 (by decide) ?_
      exact hret v8 0 H locs 44 ls rfl trivial hP hD hS dX9_habit_44
  · have c4' := I_eq c4
    refine lv_iconst (v := (-1)) hx hb dX9_habit_12 (by decide) ?_
    refine lv_goto (tgt := 44) hx hb dX9_habit_13 (by decide) ?_
    exact hret (-1) 0 H locs 44 ls rfl trivial hP hD hS dX9_habit_44
set_option maxHeartbeats 4000000 in
set_option maxRecDepth 100000 in
theorem c_X9_forget (l : Launch) (dC : Nat → ClassId) (dI : Nat → Nat → Nat) (cI cJ : ClassId) (base bB bO : Nat) (m0 : Nat) (mth : Int32) (mst : Int32) (mp : Nat) (mln : Int32) (mk : Nat) (mts : Int32) (mti : Nat) (mtw : Nat) (mi : Nat) (mmn : Int32) (mpo : Nat) (mpd : Int32) (mpi : Nat) (mpl : Int32) (mcp : Int32) (mre : Nat) (mnn : Nat) (mwo : Nat) (mga : Nat) (mlo : Nat) (mro : Nat) (mle : Nat) (mra : Nat) (mme : Int32) (mha : Nat) (mch : Int32) (mtm : Int32) (mgo : Int32) (mwa : Int32) (mba : Nat) (mbl : Int32) (mon : Nat) (mgaf : Nat → Int32) (mlof : Nat → Int32)  : CtI l dC dI cI cJ base bB bO yX9_forget cX9_forget 2 .int 0 0 [.ref m0] [(m0, .inr (8, [.int mth, .int mst, .ref mp, .int mln, .ref mk, .int mts, .ref mti, .ref mtw, .ref mi, .int mmn, .ref mpo, .int mpd, .ref mpi, .int mpl, .int mcp, .ref mre, .ref mnn, .ref mwo, .ref mga, .ref mlo, .ref mro, .ref mle, .ref mra, .int mme, .ref mha, .int mch, .int mtm, .int mgo, .int mwa, .ref mba, .int mbl, .ref mon])), (mga, .inl (cI, 28, .inl mgaf)), (mlo, .inl (cI, 28, .inl mlof))] ((Int32) × (Nat → Int32) × (Nat → Int32)) (fun (res : Int32) (u : (Int32) × (Nat → Int32) × (Nat → Int32)) => (res.toInt = 0) ∧ True) (fun (u : (Int32) × (Nat → Int32) × (Nat → Int32)) => [(m0, .inr (8, [.int u.1, .int mst, .ref mp, .int mln, .ref mk, .int mts, .ref mti, .ref mtw, .ref mi, .int mmn, .ref mpo, .int mpd, .ref mpi, .int mpl, .int mcp, .ref mre, .ref mnn, .ref mwo, .ref mga, .ref mlo, .ref mro, .ref mle, .ref mra, .int mme, .ref mha, .int mch, .int mtm, .int mgo, .int mwa, .ref mba, .int mbl, .ref mon])), (mga, .inl (cI, 28, .inl u.2.1)), (mlo, .inl (cI, 28, .inl u.2.2))]) := by
  refine entI (by decide) (Nat.le_of_ble_eq_true rfl) ?_
  intro p e s m below meth c A Q ls hAt hret hP hD hS hl
  obtain ⟨hx, hb, hml, hown, hts, hA, hAb, hK, hE, hlocks, hin⟩ := hAt
  have hG : CG dC dI cI cJ base bB bO cX9_forget 2 RX9 p s m (List.toArray [.ref m0]) c A := ⟨hx, hb, hml, hown, hts, hA, hAb, hK, hE⟩
  have hl : lv_has ls 2 [(0, .ref m0)] := hl
  have c_0 : (0 : Int32).toInt = 0 := by decide
  have c_1 : (1 : Int32).toInt = 1 := by decide
  have c_28 : (28 : Int32).toInt = 28 := by decide
  obtain ⟨H, hHe⟩ : ∃ H : Heap, H = s.heap := ⟨_, rfl⟩
  obtain ⟨locs, hle⟩ : ∃ z : List Loc, z = [] := ⟨_, rfl⟩
  rw [← hHe] at hP
  have hS : va_S A s.heap H locs := by rw [hHe, hle]; exact hS
  suffices hgo : W p l e { frames := 0, cells := 0, slots := 0, locals := 0 } s m (List.toArray [.ref m0]) below meth c H locs 0 0 Q (F0 m 0 ls []) by rw [hHe, hle] at hgo; exact hgo
  refine lv_aload_n hx hb dX9_forget_0 rfl (lv_at hl 0 rfl) ?_
  refine lv_iconst (v := 0) hx hb dX9_forget_1 (by decide) ?_
  refine va_put (D := (dC, dI)) (ci := 8) (v := .int 0) (ty := .int) (C := RX9) (T := TX9) (N := 32) hx hb hts inG_X9 tyX9 tyX9_ok nmX9 hown hK hP hD hS 0 rfl rfl 0 (by decide) (hts _ fl_X9_69) (fun _ h9 => h9) rfl (by decide +kernel) rfl rfl (Nat.le_of_ble_eq_true rfl) dX9_forget_2 (fun H locs hP hD hS => ?_)
  have hP : va_P (dC, dI) vwCl [(m0, .inr (8, [.int 0, .int mst, .ref mp, .int mln, .ref mk, .int mts, .ref mti, .ref mtw, .ref mi, .int mmn, .ref mpo, .int mpd, .ref mpi, .int mpl, .int mcp, .ref mre, .ref mnn, .ref mwo, .ref mga, .ref mlo, .ref mro, .ref mle, .ref mra, .int mme, .ref mha, .int mch, .int mtm, .int mgo, .int mwa, .ref mba, .int mbl, .ref mon])), (mga, .inl (cI, 28, .inl mgaf)), (mlo, .inl (cI, 28, .inl mlof))] H := hP
  have hD : va_D A [(m0, .inr (8, [.int 0, .int mst, .ref mp, .int mln, .ref mk, .int mts, .ref mti, .ref mtw, .ref mi, .int mmn, .ref mpo, .int mpd, .ref mpi, .int mpl, .int mcp, .ref mre, .ref mnn, .ref mwo, .ref mga, .ref mlo, .ref mro, .ref mle, .ref mra, .int mme, .ref mha, .int mch, .int mtm, .int mgo, .int mwa, .ref mba, .int mbl, .ref mon])), (mga, .inl (cI, 28, .inl mgaf)), (mlo, .inl (cI, 28, .inl mlof))] := hD
  refine lv_iconst (v := 0) hx hb dX9_forget_5 (by decide) ?_
  refine lv_istore_n (lv' := [(1, .int 0), (0, .ref m0)]) hx hb dX9_forget_6 rfl hl (by decide) rfl (fun ls hl => ?_)
  have J7 : ∀ (n : Nat) (L1_7 : Int32) (mgaf_7 : Nat → Int32) (mlof_7 : Nat → Int32), (0 ≤ L1_7.toInt ∧ L1_7.toInt ≤ 28) → (28 - L1_7.toInt) < (n : Int) → ∀ (H : Heap) (locs : List Loc) (ls : Array Slot), va_P (dC, dI) vwCl [(m0, .inr (8, [.int 0, .int mst, .ref mp, .int mln, .ref mk, .int mts, .ref mti, .ref mtw, .ref mi, .int mmn, .ref mpo, .int mpd, .ref mpi, .int mpl, .int mcp, .ref mre, .ref mnn, .ref mwo, .ref mga, .ref mlo, .ref mro, .ref mle, .ref mra, .int mme, .ref mha, .int mch, .int mtm, .int mgo, .int mwa, .ref mba, .int mbl, .ref mon])), (mga, .inl (cI, 28, .inl mgaf_7)), (mlo, .inl (cI, 28, .inl mlof_7))] H → va_D A [(m0, .inr (8, [.int 0, .int mst, .ref mp, .int mln, .ref mk, .int mts, .ref mti, .ref mtw, .ref mi, .int mmn, .ref mpo, .int mpd, .ref mpi, .int mpl, .int mcp, .ref mre, .ref mnn, .ref mwo, .ref mga, .ref mlo, .ref mro, .ref mle, .ref mra, .int mme, .ref mha, .int mch, .int mtm, .int mgo, .int mwa, .ref mba, .int mbl, .ref mon])), (mga, .inl (cI, 28, .inl mgaf_7)), (mlo, .inl (cI, 28, .inl mlof_7))] → va_S A s.heap H locs → lv_has ls 2 [(1, .int L1_7), (0, .ref m0)] → W p l e { frames := 0, cells := 0, slots := 0, locals := 0 } s m (List.toArray [.ref m0]) below meth c H locs 0 0 Q (F0 m 7 ls []) := by
    intro n
    induction n with
    | zero =>
      intro L1_7 mgaf_7 mlof_7 hi0_7 hm
      exact absurd hm (by omega)
    | succ n ih7 =>
      intro L1_7 mgaf_7 mlof_7 hi0_7 hm7 H locs ls hP hD hS hl
      refine lv_iload_n hx hb dX9_forget_7 rfl (lv_at hl 0 rfl) ?_
      refine lv_bipush (v := 28) hx hb dX9_forget_8 (by decide) ?_
      refine lv_icmp_ge (tgt := 33) hx hb dX9_forget_10 (by decide) (fun c1 => ?_) (fun c1 => ?_)
      · have c1' := I_le c1
        refine lv_iconst (v := 0) hx hb dX9_forget_33 (by decide) ?_
        exact hret 0 (0, mgaf_7, mlof_7) H locs 34 ls rfl ⟨(show (0 : Int32).toInt = 0 from by first | rfl | assumption | omega), trivial⟩ hP hD hS dX9_forget_34
      · have c1' := I_nle c1
        refine lv_aload_n hx hb dX9_forget_13 rfl (lv_at hl 1 rfl) ?_
        refine va_get (D := (dC, dI)) (ci := 8) (v := .ref mga) (C := RX9) (T := TX9) (N := 32) hx hb hts inG_X9 hown hK hP 0 rfl rfl 18 (by decide) (hts _ fl_X9_41) (fun _ h9 => h9) rfl dX9_forget_14 ?_
        refine lv_iload_n hx hb dX9_forget_17 rfl (lv_at hl 0 rfl) ?_
        refine lv_iconst (v := 0) hx hb dX9_forget_18 (by decide) ?_
        refine va_iast (t0 := 0) hx hb hK hP hD hS 1 (ha := rfl) (ht := rfl) (I_in (by omega) (by omega)) dX9_forget_19 (fun H locs hP hD hS => ?_)
        have hP : va_P (dC, dI) vwCl [(m0, .inr (8, [.int 0, .int mst, .ref mp, .int mln, .ref mk, .int mts, .ref mti, .ref mtw, .ref mi, .int mmn, .ref mpo, .int mpd, .ref mpi, .int mpl, .int mcp, .ref mre, .ref mnn, .ref mwo, .ref mga, .ref mlo, .ref mro, .ref mle, .ref mra, .int mme, .ref mha, .int mch, .int mtm, .int mgo, .int mwa, .ref mba, .int mbl, .ref mon])), (mga, .inl (cI, 28, .inl (upd mgaf_7 L1_7.toNatClampNeg 0))), (mlo, .inl (cI, 28, .inl mlof_7))] H := hP
        have hD : va_D A [(m0, .inr (8, [.int 0, .int mst, .ref mp, .int mln, .ref mk, .int mts, .ref mti, .ref mtw, .ref mi, .int mmn, .ref mpo, .int mpd, .ref mpi, .int mpl, .int mcp, .ref mre, .ref mnn, .ref mwo, .ref mga, .ref mlo, .ref mro, .ref mle, .ref mra, .int mme, .ref mha, .int mch, .int mtm, .int mgo, .int mwa, .ref mba, .int mbl, .ref mon])), (mga, .inl (cI, 28, .inl (upd mgaf_7 L1_7.toNatClampNeg 0))), (mlo, .inl (cI, 28, .inl mlof_7))] := hD
        generalize ef2 : upd mgaf_7 L1_7.toNatClampNeg 0 = f2 at hP hD
        refine lv_aload_n hx hb dX9_forget_20 rfl (lv_at hl 1 rfl) ?_
        refine va_get (D := (dC, dI)) (ci := 8) (v := .ref mlo) (C := RX9) (T := TX9) (N := 32) hx hb hts inG_X9 hown hK hP 0 rfl rfl 19 (by decide) (hts _ fl_X9_44) (fun _ h9 => h9) rfl dX9_forget_21 ?_
        refine lv_iload_n hx hb dX9_forget_24 rfl (lv_at hl 0 rfl) ?_
        refine lv_iconst (v := 0) hx hb dX9_forget_25 (by decide) ?_
        refine va_iast (t0 := 0) hx hb hK hP hD hS 2 (ha := rfl) (ht := rfl) (I_in (by omega) (by omega)) dX9_forget_26 (fun H locs hP hD hS => ?_)
        have hP : va_P (dC, dI) vwCl [(m0, .inr (8, [.int 0, .int mst, .ref mp, .int mln, .ref mk, .int mts, .ref mti, .ref mtw, .ref mi, .int mmn, .ref mpo, .int mpd, .ref mpi, .int mpl, .int mcp, .ref mre, .ref mnn, .ref mwo, .ref mga, .ref mlo, .ref mro, .ref mle, .ref mra, .int mme, .ref mha, .int mch, .int mtm, .int mgo, .int mwa, .ref mba, .int mbl, .ref mon])), (mga, .inl (cI, 28, .inl f2)), (mlo, .inl (cI, 28, .inl (upd mlof_7 L1_7.toNatClampNeg 0)))] H := hP
        have hD : va_D A [(m0, .inr (8, [.int 0, .int mst, .ref mp, .int mln, .ref mk, .int mts, .ref mti, .ref mtw, .ref mi, .int mmn, .ref mpo, .int mpd, .ref mpi, .int mpl, .int mcp, .ref mre, .ref mnn, .ref mwo, .ref mga, .ref mlo, .ref mro, .ref mle, .ref mra, .int mme, .ref mha, .int mch, .int mtm, .int mgo, .int mwa, .ref mba, .int mbl, .ref mon])), (mga, .inl (cI, 28, .inl f2)), (mlo, .inl (cI, 28, .inl (upd mlof_7 L1_7.toNatClampNeg 0)))] := hD
        generalize ef3 : upd mlof_7 L1_7.toNatClampNeg 0 = f3 at hP hD
        obtain ⟨v4, ev4⟩ : ∃ y : Int32, y = L1_7 + 1 := ⟨_, rfl⟩
        try have hv4 : v4.toInt = L1_7.toInt + (1 : Int32).toInt := I_addx ev4 (by omega)
        refine lv_iinc (v := v4) (lv' := [(1, .int v4), (0, .ref m0)]) hx hb dX9_forget_27 hl (k := 0) rfl (by rw [ev4]; rfl) (by decide) rfl (fun ls hl => ?_)
        refine lv_goto (tgt := 7) hx hb dX9_forget_30 (by decide) ?_
        exact ih7 v4 f2 f3 (by first | assumption | omega) (by omega) H locs ls hP hD hS hl
  exact J7 ((28 - (0 : Int32).toInt).toNat + 1) 0 mgaf mlof (by first | assumption | omega) (by omega) H locs ls hP hD hS hl
set_option maxHeartbeats 4000000 in
set_option maxRecDepth 100000 in
theorem c_X9_count (l : Launch) (dC : Nat → ClassId) (dI : Nat → Nat → Nat) (cI cJ : ClassId) (base bB bO : Nat) (m0 : Nat) (mth : Int32) (mst : Int32) (mp : Nat) (mln : Int32) (mk : Nat) (mts : Int32) (mti : Nat) (mtw : Nat) (mi : Nat) (mmn : Int32) (mpo : Nat) (mpd : Int32) (mpi : Nat) (mpl : Int32) (mcp : Int32) (mre : Nat) (mnn : Nat) (mwo : Nat) (mga : Nat) (mlo : Nat) (mro : Nat) (mle : Nat) (mra : Nat) (mme : Int32) (mha : Nat) (mch : Int32) (mtm : Int32) (mgo : Int32) (mwa : Int32) (mba : Nat) (mbl : Int32) (mon : Nat) (x : Int32)  : CtI l dC dI cI cJ base bB bO yX9_count cX9_count 2 .int 0 0 [.ref m0, .int x] [(m0, .inr (8, [.int mth, .int mst, .ref mp, .int mln, .ref mk, .int mts, .ref mti, .ref mtw, .ref mi, .int mmn, .ref mpo, .int mpd, .ref mpi, .int mpl, .int mcp, .ref mre, .ref mnn, .ref mwo, .ref mga, .ref mlo, .ref mro, .ref mle, .ref mra, .int mme, .ref mha, .int mch, .int mtm, .int mgo, .int mwa, .ref mba, .int mbl, .ref mon]))] ((Int32)) (fun (res : Int32) (u : (Int32)) => True) (fun (u : (Int32)) => [(m0, .inr (8, [.int u, .int mst, .ref mp, .int mln, .ref mk, .int mts, .ref mti, .ref mtw, .ref mi, .int mmn, .ref mpo, .int mpd, .ref mpi, .int mpl, .int mcp, .ref mre, .ref mnn, .ref mwo, .ref mga, .ref mlo, .ref mro, .ref mle, .ref mra, .int mme, .ref mha, .int mch, .int mtm, .int mgo, .int mwa, .ref mba, .int mbl, .ref mon]))]) := by
  refine entI (by decide) (Nat.le_of_ble_eq_true rfl) ?_
  intro p e s m below meth c A Q ls hAt hret hP hD hS hl
  obtain ⟨hx, hb, hml, hown, hts, hA, hAb, hK, hE, hlocks, hin⟩ := hAt
  have hG : CG dC dI cI cJ base bB bO cX9_count 2 RX9 p s m (List.toArray [.ref m0, .int x]) c A := ⟨hx, hb, hml, hown, hts, hA, hAb, hK, hE⟩
  have hl : lv_has ls 2 [(0, .ref m0), (1, .int x)] := hl
  have c_m1 : (-1 : Int32).toInt = -1 := by decide
  have c_0 : (0 : Int32).toInt = 0 := by decide
  have c_1 : (1 : Int32).toInt = 1 := by decide
  have c_2 : (2 : Int32).toInt = 2 := by decide
  obtain ⟨H, hHe⟩ : ∃ H : Heap, H = s.heap := ⟨_, rfl⟩
  obtain ⟨locs, hle⟩ : ∃ z : List Loc, z = [] := ⟨_, rfl⟩
  rw [← hHe] at hP
  have hS : va_S A s.heap H locs := by rw [hHe, hle]; exact hS
  suffices hgo : W p l e { frames := 0, cells := 0, slots := 0, locals := 0 } s m (List.toArray [.ref m0, .int x]) below meth c H locs 0 0 Q (F0 m 0 ls []) by rw [hHe, hle] at hgo; exact hgo
  refine lv_aload_n hx hb dX9_count_0 rfl (lv_at hl 0 rfl) ?_
  refine lv_iconst (v := 0) hx hb dX9_count_1 (by decide) ?_
  refine va_put (D := (dC, dI)) (ci := 8) (v := .int 0) (ty := .int) (C := RX9) (T := TX9) (N := 32) hx hb hts inG_X9 tyX9 tyX9_ok nmX9 hown hK hP hD hS 0 rfl rfl 0 (by decide) (hts _ fl_X9_69) (fun _ h9 => h9) rfl (by decide +kernel) rfl rfl (Nat.le_of_ble_eq_true rfl) dX9_count_2 (fun H locs hP hD hS => ?_)
  have hP : va_P (dC, dI) vwCl [(m0, .inr (8, [.int 0, .int mst, .ref mp, .int mln, .ref mk, .int mts, .ref mti, .ref mtw, .ref mi, .int mmn, .ref mpo, .int mpd, .ref mpi, .int mpl, .int mcp, .ref mre, .ref mnn, .ref mwo, .ref mga, .ref mlo, .ref mro, .ref mle, .ref mra, .int mme, .ref mha, .int mch, .int mtm, .int mgo, .int mwa, .ref mba, .int mbl, .ref mon]))] H := hP
  have hD : va_D A [(m0, .inr (8, [.int 0, .int mst, .ref mp, .int mln, .ref mk, .int mts, .ref mti, .ref mtw, .ref mi, .int mmn, .ref mpo, .int mpd, .ref mpi, .int mpl, .int mcp, .ref mre, .ref mnn, .ref mwo, .ref mga, .ref mlo, .ref mro, .ref mle, .ref mra, .int mme, .ref mha, .int mch, .int mtm, .int mgo, .int mwa, .ref mba, .int mbl, .ref mon]))] := hD
  refine lv_iload_n hx hb dX9_count_5 rfl (lv_at hl 1 rfl) ?_
  refine lv_if_ne (tgt := 16) hx hb dX9_count_6 (by decide) (fun c1 => ?_) (fun c1 => ?_)
  · have c1' := I_ne c1
    refine lv_iload_n hx hb dX9_count_16 rfl (lv_at hl 1 rfl) ?_
    refine lv_iconst (v := 1) hx hb dX9_count_17 (by decide) ?_
    refine lv_icmp_ne (tgt := 28) hx hb dX9_count_18 (by decide) (fun c2 => ?_) (fun c2 => ?_)
    · have c2' := I_ne c2
      refine lv_iload_n hx hb dX9_count_28 rfl (lv_at hl 1 rfl) ?_
      refine lv_iconst (v := 2) hx hb dX9_count_29 (by decide) ?_
      refine lv_icmp_ne (tgt := 40) hx hb dX9_count_30 (by decide) (fun c3 => ?_) (fun c3 => ?_)
      · have c3' := I_ne c3
        refine lv_iconst (v := (-1)) hx hb dX9_count_40 (by decide) ?_
        exact hret (-1) 0 H locs 41 ls rfl trivial hP hD hS dX9_count_41
      · have c3' := I_eq c3
        refine lv_aload_n hx hb dX9_count_33 rfl (lv_at hl 0 rfl) ?_
        refine va_get (D := (dC, dI)) (ci := 8) (v := .int mme) (C := RX9) (T := TX9) (N := 32) hx hb hts inG_X9 hown hK hP 0 rfl rfl 23 (by decide) (hts _ fl_X9_174) (fun _ h9 => h9) rfl dX9_count_34 ?_
        refine lv_goto (tgt := 41) hx hb dX9_count_37 (by decide) ?_
        exact hret mme 0 H locs 41 ls rfl trivial hP hD hS dX9_count_41
    · have c2' := I_eq c2
      refine lv_aload_n hx hb dX9_count_21 rfl (lv_at hl 0 rfl) ?_
      refine va_get (D := (dC, dI)) (ci := 8) (v := .int mts) (C := RX9) (T := TX9) (N := 32) hx hb hts inG_X9 hown hK hP 0 rfl rfl 5 (by decide) (hts _ fl_X9_155) (fun _ h9 => h9) rfl dX9_count_22 ?_
      refine lv_goto (tgt := 41) hx hb dX9_count_25 (by decide) ?_
      exact hret mts 0 H locs 41 ls rfl trivial hP hD hS dX9_count_41
  · have c1' := I_eq c1
    refine lv_aload_n hx hb dX9_count_9 rfl (lv_at hl 0 rfl) ?_
    refine va_get (D := (dC, dI)) (ci := 8) (v := .int mln) (C := RX9) (T := TX9) (N := 32) hx hb hts inG_X9 hown hK hP 0 rfl rfl 3 (by decide) (hts _ fl_X9_89) (fun _ h9 => h9) rfl dX9_count_10 ?_
    refine lv_goto (tgt := 41) hx hb dX9_count_13 (by decide) ?_
    exact hret mln 0 H locs 41 ls rfl trivial hP hD hS dX9_count_41
set_option maxHeartbeats 4000000 in
set_option maxRecDepth 100000 in
theorem c_X9_status (l : Launch) (dC : Nat → ClassId) (dI : Nat → Nat → Nat) (cI cJ : ClassId) (base bB bO : Nat) (m0 : Nat) (mth : Int32) (mst : Int32) (mp : Nat) (mln : Int32) (mk : Nat) (mts : Int32) (mti : Nat) (mtw : Nat) (mi : Nat) (mmn : Int32) (mpo : Nat) (mpd : Int32) (mpi : Nat) (mpl : Int32) (mcp : Int32) (mre : Nat) (mnn : Nat) (mwo : Nat) (mga : Nat) (mlo : Nat) (mro : Nat) (mle : Nat) (mra : Nat) (mme : Int32) (mha : Nat) (mch : Int32) (mtm : Int32) (mgo : Int32) (mwa : Int32) (mba : Nat) (mbl : Int32) (mon : Nat)  : CtI l dC dI cI cJ base bB bO yX9_status cX9_status 1 .int 0 0 [.ref m0] [(m0, .inr (8, [.int mth, .int mst, .ref mp, .int mln, .ref mk, .int mts, .ref mti, .ref mtw, .ref mi, .int mmn, .ref mpo, .int mpd, .ref mpi, .int mpl, .int mcp, .ref mre, .ref mnn, .ref mwo, .ref mga, .ref mlo, .ref mro, .ref mle, .ref mra, .int mme, .ref mha, .int mch, .int mtm, .int mgo, .int mwa, .ref mba, .int mbl, .ref mon]))] ((Int32)) (fun (res : Int32) (u : (Int32)) => True) (fun (u : (Int32)) => [(m0, .inr (8, [.int u, .int mst, .ref mp, .int mln, .ref mk, .int mts, .ref mti, .ref mtw, .ref mi, .int mmn, .ref mpo, .int mpd, .ref mpi, .int mpl, .int mcp, .ref mre, .ref mnn, .ref mwo, .ref mga, .ref mlo, .ref mro, .ref mle, .ref mra, .int mme, .ref mha, .int mch, .int mtm, .int mgo, .int mwa, .ref mba, .int mbl, .ref mon]))]) := by
  refine entI (by decide) (Nat.le_of_ble_eq_true rfl) ?_
  intro p e s m below meth c A Q ls hAt hret hP hD hS hl
  obtain ⟨hx, hb, hml, hown, hts, hA, hAb, hK, hE, hlocks, hin⟩ := hAt
  have hG : CG dC dI cI cJ base bB bO cX9_status 1 RX9 p s m (List.toArray [.ref m0]) c A := ⟨hx, hb, hml, hown, hts, hA, hAb, hK, hE⟩
  have hl : lv_has ls 1 [(0, .ref m0)] := hl
  have c_0 : (0 : Int32).toInt = 0 := by decide
  have c_1 : (1 : Int32).toInt = 1 := by decide
  obtain ⟨H, hHe⟩ : ∃ H : Heap, H = s.heap := ⟨_, rfl⟩
  obtain ⟨locs, hle⟩ : ∃ z : List Loc, z = [] := ⟨_, rfl⟩
  rw [← hHe] at hP
  have hS : va_S A s.heap H locs := by rw [hHe, hle]; exact hS
  suffices hgo : W p l e { frames := 0, cells := 0, slots := 0, locals := 0 } s m (List.toArray [.ref m0]) below meth c H locs 0 0 Q (F0 m 0 ls []) by rw [hHe, hle] at hgo; exact hgo
  refine lv_aload_n hx hb dX9_status_0 rfl (lv_at hl 0 rfl) ?_
  refine lv_iconst (v := 0) hx hb dX9_status_1 (by decide) ?_
  refine va_put (D := (dC, dI)) (ci := 8) (v := .int 0) (ty := .int) (C := RX9) (T := TX9) (N := 32) hx hb hts inG_X9 tyX9 tyX9_ok nmX9 hown hK hP hD hS 0 rfl rfl 0 (by decide) (hts _ fl_X9_69) (fun _ h9 => h9) rfl (by decide +kernel) rfl rfl (Nat.le_of_ble_eq_true rfl) dX9_status_2 (fun H locs hP hD hS => ?_)
  have hP : va_P (dC, dI) vwCl [(m0, .inr (8, [.int 0, .int mst, .ref mp, .int mln, .ref mk, .int mts, .ref mti, .ref mtw, .ref mi, .int mmn, .ref mpo, .int mpd, .ref mpi, .int mpl, .int mcp, .ref mre, .ref mnn, .ref mwo, .ref mga, .ref mlo, .ref mro, .ref mle, .ref mra, .int mme, .ref mha, .int mch, .int mtm, .int mgo, .int mwa, .ref mba, .int mbl, .ref mon]))] H := hP
  have hD : va_D A [(m0, .inr (8, [.int 0, .int mst, .ref mp, .int mln, .ref mk, .int mts, .ref mti, .ref mtw, .ref mi, .int mmn, .ref mpo, .int mpd, .ref mpi, .int mpl, .int mcp, .ref mre, .ref mnn, .ref mwo, .ref mga, .ref mlo, .ref mro, .ref mle, .ref mra, .int mme, .ref mha, .int mch, .int mtm, .int mgo, .int mwa, .ref mba, .int mbl, .ref mon]))] := hD
  refine lv_aload_n hx hb dX9_status_5 rfl (lv_at hl 0 rfl) ?_
  refine va_get (D := (dC, dI)) (ci := 8) (v := .int mst) (C := RX9) (T := TX9) (N := 32) hx hb hts inG_X9 hown hK hP 0 rfl rfl 1 (by decide) (hts _ fl_X9_72) (fun _ h9 => h9) rfl dX9_status_6 ?_
  exact hret mst 0 H locs 9 ls rfl trivial hP hD hS dX9_status_9
