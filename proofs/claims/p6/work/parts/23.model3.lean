set_option maxHeartbeats 4000000 in
set_option maxRecDepth 100000 in
theorem c_X9_isGood (l : Launch) (dC : Nat → ClassId) (dI : Nat → Nat → Nat) (cI cJ : ClassId) (base bB bO : Nat) (m0 : Nat) (mth : Int32) (mst : Int32) (mp : Nat) (mln : Int32) (mk : Nat) (mts : Int32) (mti : Nat) (mtw : Nat) (mi : Nat) (mmn : Int32) (mpo : Nat) (mpd : Int32) (mpi : Nat) (mpl : Int32) (mcp : Int32) (mre : Nat) (mnn : Nat) (mwo : Nat) (mga : Nat) (mlo : Nat) (mro : Nat) (mle : Nat) (mra : Nat) (mme : Int32) (mha : Nat) (mch : Int32) (mtm : Int32) (mgo : Int32) (mwa : Int32) (mba : Nat) (mbl : Int32) (mon : Nat) (mkf : Nat → Int32) (mtif : Nat → Int32) (mtwf : Nat → Int32) (mif : Nat → Int32) (mpof : Nat → Int32) (mpif : Nat → Int32) (mref : Nat → Int32) (mnnf : Nat → Int32) (mwof : Nat → Int64) (hq0 : 0 ≤ mmn.toInt ∧ mmn.toInt ≤ 12) (hq1 : 0 ≤ mts.toInt ∧ mts.toInt ≤ 8) : CtI l dC dI cI cJ base bB bO yX9_isGood cX9_isGood 2 .boolean 5 105 [.ref m0] [(m0, .inr (8, [.int mth, .int mst, .ref mp, .int mln, .ref mk, .int mts, .ref mti, .ref mtw, .ref mi, .int mmn, .ref mpo, .int mpd, .ref mpi, .int mpl, .int mcp, .ref mre, .ref mnn, .ref mwo, .ref mga, .ref mlo, .ref mro, .ref mle, .ref mra, .int mme, .ref mha, .int mch, .int mtm, .int mgo, .int mwa, .ref mba, .int mbl, .ref mon])), (mk, .inl (cI, 4, .inl mkf)), (mti, .inl (cI, 32, .inl mtif)), (mtw, .inl (cI, 8, .inl mtwf)), (mi, .inl (cI, 12, .inl mif)), (mpo, .inl (cI, 12, .inl mpof)), (mpi, .inl (cI, 26, .inl mpif)), (mre, .inl (cI, 12, .inl mref)), (mnn, .inl (cI, 4, .inl mnnf)), (mwo, .inl (cJ, 12, .inr (.inl mwof)))] ((Int32) × (Int32) × (Int32) × (Nat → Int32) × (Nat → Int32) × (Nat → Int32) × (Nat → Int32) × (Nat → Int64)) (fun (res : Int32) (u : (Int32) × (Int32) × (Int32) × (Nat → Int32) × (Nat → Int32) × (Nat → Int32) × (Nat → Int32) × (Nat → Int64)) => (res.toInt = 0 ∨ res.toInt = 1) ∧ (u.2.2.1.toInt = 0 ∨ u.2.2.1.toInt = 1) ∧ True) (fun (u : (Int32) × (Int32) × (Int32) × (Nat → Int32) × (Nat → Int32) × (Nat → Int32) × (Nat → Int32) × (Nat → Int64)) => [(m0, .inr (8, [.int mth, .int mst, .ref mp, .int mln, .ref mk, .int mts, .ref mti, .ref mtw, .ref mi, .int mmn, .ref mpo, .int u.1, .ref mpi, .int u.2.1, .int u.2.2.1, .ref mre, .ref mnn, .ref mwo, .ref mga, .ref mlo, .ref mro, .ref mle, .ref mra, .int mme, .ref mha, .int mch, .int mtm, .int mgo, .int mwa, .ref mba, .int mbl, .ref mon])), (mk, .inl (cI, 4, .inl mkf)), (mti, .inl (cI, 32, .inl mtif)), (mtw, .inl (cI, 8, .inl mtwf)), (mi, .inl (cI, 12, .inl mif)), (mpo, .inl (cI, 12, .inl u.2.2.2.1)), (mpi, .inl (cI, 26, .inl u.2.2.2.2.1)), (mre, .inl (cI, 12, .inl u.2.2.2.2.2.1)), (mnn, .inl (cI, 4, .inl u.2.2.2.2.2.2.1)), (mwo, .inl (cJ, 12, .inr (.inl u.2.2.2.2.2.2.2)))]) := by
  refine entI (by decide) (Nat.le_of_ble_eq_true rfl) ?_
  intro p e s m below meth c A Q ls hAt hret hP hD hS hl
  obtain ⟨hx, hb, hml, hown, hts, hA, hAb, hK, hE, hlocks, hin⟩ := hAt
  have hG : CG dC dI cI cJ base bB bO cX9_isGood 2 RX9 p s m (List.toArray [.ref m0]) c A := ⟨hx, hb, hml, hown, hts, hA, hAb, hK, hE⟩
  have hl : lv_has ls 2 [(0, .ref m0)] := hl
  have c_m1 : (-1 : Int32).toInt = -1 := by decide
  have c_0 : (0 : Int32).toInt = 0 := by decide
  have c_1 : (1 : Int32).toInt = 1 := by decide
  obtain ⟨H, hHe⟩ : ∃ H : Heap, H = s.heap := ⟨_, rfl⟩
  obtain ⟨locs, hle⟩ : ∃ z : List Loc, z = [] := ⟨_, rfl⟩
  rw [← hHe] at hP
  have hS : va_S A s.heap H locs := by rw [hHe, hle]; exact hS
  suffices hgo : W p l e { frames := 5, cells := 0, slots := 0, locals := 105 } s m (List.toArray [.ref m0]) below meth c H locs 0 0 Q (F0 m 0 ls []) by rw [hHe, hle] at hgo; exact hgo
  refine lv_aload_n hx hb dX9_isGood_0 rfl (lv_at hl 0 rfl) ?_
  refine calI (rest := []) (wr := [(mk, .inl (cI, 4, .inl mkf)), (mti, .inl (cI, 32, .inl mtif)), (mtw, .inl (cI, 8, .inl mtwf)), (mre, .inl (cI, 12, .inl mref)), (mnn, .inl (cI, 4, .inl mnnf)), (mwo, .inl (cJ, 12, .inr (.inl mwof)))]) hG (c_X9_read l dC dI cI cJ base bB bO m0 mth mst mp mln mk mts mti mtw mi mmn mpo mpd mpi mpl mcp mre mnn mwo mga mlo mro mle mra mme mha mch mtm mgo mwa mba mbl mon mif mpof mpif (by first | assumption | omega)) ml_X9_142 im_X9_read se_X9_read ini_X9 cd_X9_read hd_X9_read ⟨(Nat.le_of_ble_eq_true rfl), (Nat.le_of_ble_eq_true rfl)⟩ (Nat.le_of_ble_eq_true rfl) (Nat.le_of_ble_eq_true rfl) hP hD hS [0, 4, 5, 6] [1, 2, 3, 7, 8, 9] rfl rfl rfl rfl (by decide) 8 0 rfl rfl hl.1 rfl (Nat.le_of_ble_eq_true rfl) dX9_isGood_1 (fun r1 u H locs hw2 hP hD hS => ?_)
  obtain ⟨mpd_3, mpl_4, mcp_5, mpof_6, mpif_7⟩ := u
  have hw2 : (¬ r1.toInt = -1 ∨ (0 ≤ mpd_3.toInt ∧ mpd_3.toInt ≤ 12)) ∧ (¬ r1.toInt = -1 ∨ WFn mpof_6 mpd_3.toInt.toNat) ∧ (mcp_5.toInt = 0 ∨ mcp_5.toInt = 1) ∧ True := hw2
  obtain ⟨hp8, hp9, hp10, -⟩ := hw2
  have hP : va_P (dC, dI) vwCl [(mk, .inl (cI, 4, .inl mkf)), (mti, .inl (cI, 32, .inl mtif)), (mtw, .inl (cI, 8, .inl mtwf)), (mre, .inl (cI, 12, .inl mref)), (mnn, .inl (cI, 4, .inl mnnf)), (mwo, .inl (cJ, 12, .inr (.inl mwof))), (m0, .inr (8, [.int mth, .int mst, .ref mp, .int mln, .ref mk, .int mts, .ref mti, .ref mtw, .ref mi, .int mmn, .ref mpo, .int mpd_3, .ref mpi, .int mpl_4, .int mcp_5, .ref mre, .ref mnn, .ref mwo, .ref mga, .ref mlo, .ref mro, .ref mle, .ref mra, .int mme, .ref mha, .int mch, .int mtm, .int mgo, .int mwa, .ref mba, .int mbl, .ref mon])), (mi, .inl (cI, 12, .inl mif)), (mpo, .inl (cI, 12, .inl mpof_6)), (mpi, .inl (cI, 26, .inl mpif_7))] H := hP
  have hD : va_D A [(mk, .inl (cI, 4, .inl mkf)), (mti, .inl (cI, 32, .inl mtif)), (mtw, .inl (cI, 8, .inl mtwf)), (mre, .inl (cI, 12, .inl mref)), (mnn, .inl (cI, 4, .inl mnnf)), (mwo, .inl (cJ, 12, .inr (.inl mwof))), (m0, .inr (8, [.int mth, .int mst, .ref mp, .int mln, .ref mk, .int mts, .ref mti, .ref mtw, .ref mi, .int mmn, .ref mpo, .int mpd_3, .ref mpi, .int mpl_4, .int mcp_5, .ref mre, .ref mnn, .ref mwo, .ref mga, .ref mlo, .ref mro, .ref mle, .ref mra, .int mme, .ref mha, .int mch, .int mtm, .int mgo, .int mwa, .ref mba, .int mbl, .ref mon])), (mi, .inl (cI, 12, .inl mif)), (mpo, .inl (cI, 12, .inl mpof_6)), (mpi, .inl (cI, 26, .inl mpif_7))] := hD
  have hr0 := hp8
  have hr1 := hp9
  refine lv_iconst (v := (-1)) hx hb dX9_isGood_4 (by decide) ?_
  refine lv_icmp_eq (tgt := 10) hx hb dX9_isGood_5 (by decide) (fun c11 => ?_) (fun c11 => ?_)
  · have c11' := I_eq c11
    refine lv_aload_n hx hb dX9_isGood_10 rfl (lv_at hl 0 rfl) ?_
    refine va_get (D := (dC, dI)) (ci := 8) (v := .int mgo) (C := RX9) (T := TX9) (N := 32) hx hb hts inG_X9 hown hK hP 6 rfl rfl 27 (by decide) (hts _ fl_X9_161) (fun _ h9 => h9) rfl dX9_isGood_11 ?_
    refine lv_if_ne (tgt := 19) hx hb dX9_isGood_14 (by decide) (fun c12 => ?_) (fun c12 => ?_)
    · have c12' := I_ne c12
      refine lv_aload_n hx hb dX9_isGood_19 rfl (lv_at hl 0 rfl) ?_
      refine calI (rest := []) (wr := [(mti, .inl (cI, 32, .inl mtif)), (mtw, .inl (cI, 8, .inl mtwf)), (mnn, .inl (cI, 4, .inl mnnf)), (mwo, .inl (cJ, 12, .inr (.inl mwof))), (mi, .inl (cI, 12, .inl mif)), (mpi, .inl (cI, 26, .inl mpif_7))]) hG (c_X9_kindOf l dC dI cI cJ base bB bO m0 mth mst mp mln mk mts mti mtw mi mmn mpo mpd_3 mpi mpl_4 mcp_5 mre mnn mwo mga mlo mro mle mra mme mha mch mtm mgo mwa mba mbl mon mkf mpof_6 mref (by rcases hr1 with h | h; exact absurd (by omega) h; exact h) (by first | assumption | omega)) ml_X9_145 im_X9_kindOf se_X9_kindOf ini_X9 cd_X9_kindOf hd_X9_kindOf ⟨(Nat.le_of_ble_eq_true rfl), (Nat.le_of_ble_eq_true rfl)⟩ (Nat.le_of_ble_eq_true rfl) (Nat.le_of_ble_eq_true rfl) hP hD hS [6, 0, 8, 3] [1, 2, 4, 5, 7, 9] rfl rfl rfl rfl (by decide) 8 6 rfl rfl hl.1 rfl (Nat.le_of_ble_eq_true rfl) dX9_isGood_20 (fun r13 u H locs hw14 hP hD hS => ?_)
      obtain ⟨mref_15, rfl⟩ : ∃ z, z = u := ⟨_, rfl⟩
      have hP : va_P (dC, dI) vwCl [(mti, .inl (cI, 32, .inl mtif)), (mtw, .inl (cI, 8, .inl mtwf)), (mnn, .inl (cI, 4, .inl mnnf)), (mwo, .inl (cJ, 12, .inr (.inl mwof))), (mi, .inl (cI, 12, .inl mif)), (mpi, .inl (cI, 26, .inl mpif_7)), (m0, .inr (8, [.int mth, .int mst, .ref mp, .int mln, .ref mk, .int mts, .ref mti, .ref mtw, .ref mi, .int mmn, .ref mpo, .int mpd_3, .ref mpi, .int mpl_4, .int mcp_5, .ref mre, .ref mnn, .ref mwo, .ref mga, .ref mlo, .ref mro, .ref mle, .ref mra, .int mme, .ref mha, .int mch, .int mtm, .int mgo, .int mwa, .ref mba, .int mbl, .ref mon])), (mk, .inl (cI, 4, .inl mkf)), (mpo, .inl (cI, 12, .inl mpof_6)), (mre, .inl (cI, 12, .inl mref_15))] H := hP
      have hD : va_D A [(mti, .inl (cI, 32, .inl mtif)), (mtw, .inl (cI, 8, .inl mtwf)), (mnn, .inl (cI, 4, .inl mnnf)), (mwo, .inl (cJ, 12, .inr (.inl mwof))), (mi, .inl (cI, 12, .inl mif)), (mpi, .inl (cI, 26, .inl mpif_7)), (m0, .inr (8, [.int mth, .int mst, .ref mp, .int mln, .ref mk, .int mts, .ref mti, .ref mtw, .ref mi, .int mmn, .ref mpo, .int mpd_3, .ref mpi, .int mpl_4, .int mcp_5, .ref mre, .ref mnn, .ref mwo, .ref mga, .ref mlo, .ref mro, .ref mle, .ref mra, .int mme, .ref mha, .int mch, .int mtm, .int mgo, .int mwa, .ref mba, .int mbl, .ref mon])), (mk, .inl (cI, 4, .inl mkf)), (mpo, .inl (cI, 12, .inl mpof_6)), (mre, .inl (cI, 12, .inl mref_15))] := hD
      refine lv_istore_n (lv' := [(1, .int r13), (0, .ref m0)]) hx hb dX9_isGood_23 rfl hl (by decide) rfl (fun ls hl => ?_)
      refine lv_iload_n hx hb dX9_isGood_24 rfl (lv_at hl 0 rfl) ?_
      refine lv_if_lt (tgt := 67) hx hb dX9_isGood_25 (by decide) (fun c16 => ?_) (fun c16 => ?_)
      · have c16' := I_lt c16
        refine lv_iconst (v := 0) hx hb dX9_isGood_67 (by decide) ?_
        exact hret 0 (mpd_3, mpl_4, mcp_5, mpof_6, mpif_7, mref_15, mnnf, mwof) H locs 68 ls (by first | rfl | exact I_narz (by omega)) ⟨(show (0 : Int32).toInt = 0 ∨ (0 : Int32).toInt = 1 from by first | rfl | assumption | omega), (show mcp_5.toInt = 0 ∨ mcp_5.toInt = 1 from by first | rfl | assumption | omega), trivial⟩ (hP.sub (ws' := [(m0, .inr (8, [.int mth, .int mst, .ref mp, .int mln, .ref mk, .int mts, .ref mti, .ref mtw, .ref mi, .int mmn, .ref mpo, .int mpd_3, .ref mpi, .int mpl_4, .int mcp_5, .ref mre, .ref mnn, .ref mwo, .ref mga, .ref mlo, .ref mro, .ref mle, .ref mra, .int mme, .ref mha, .int mch, .int mtm, .int mgo, .int mwa, .ref mba, .int mbl, .ref mon])), (mk, .inl (cI, 4, .inl mkf)), (mti, .inl (cI, 32, .inl mtif)), (mtw, .inl (cI, 8, .inl mtwf)), (mi, .inl (cI, 12, .inl mif)), (mpo, .inl (cI, 12, .inl mpof_6)), (mpi, .inl (cI, 26, .inl mpif_7)), (mre, .inl (cI, 12, .inl mref_15)), (mnn, .inl (cI, 4, .inl mnnf)), (mwo, .inl (cJ, 12, .inr (.inl mwof)))]) [6, 7, 0, 1, 4, 8, 5, 9, 2, 3] rfl) (hD.sub (ws' := [(m0, .inr (8, [.int mth, .int mst, .ref mp, .int mln, .ref mk, .int mts, .ref mti, .ref mtw, .ref mi, .int mmn, .ref mpo, .int mpd_3, .ref mpi, .int mpl_4, .int mcp_5, .ref mre, .ref mnn, .ref mwo, .ref mga, .ref mlo, .ref mro, .ref mle, .ref mra, .int mme, .ref mha, .int mch, .int mtm, .int mgo, .int mwa, .ref mba, .int mbl, .ref mon])), (mk, .inl (cI, 4, .inl mkf)), (mti, .inl (cI, 32, .inl mtif)), (mtw, .inl (cI, 8, .inl mtwf)), (mi, .inl (cI, 12, .inl mif)), (mpo, .inl (cI, 12, .inl mpof_6)), (mpi, .inl (cI, 26, .inl mpif_7)), (mre, .inl (cI, 12, .inl mref_15)), (mnn, .inl (cI, 4, .inl mnnf)), (mwo, .inl (cJ, 12, .inr (.inl mwof)))]) [6, 7, 0, 1, 4, 8, 5, 9, 2, 3] (by decide) rfl) hS dX9_isGood_68
      · have c16' := I_nlt c16
        refine lv_aload_n hx hb dX9_isGood_28 rfl (lv_at hl 1 rfl) ?_
        refine va_get (D := (dC, dI)) (ci := 8) (v := .int mwa) (C := RX9) (T := TX9) (N := 32) hx hb hts inG_X9 hown hK hP 6 rfl rfl 28 (by decide) (hts _ fl_X9_164) (fun _ h9 => h9) rfl dX9_isGood_29 ?_
        refine lv_iconst (v := (-1)) hx hb dX9_isGood_32 (by decide) ?_
        refine lv_icmp_eq (tgt := 44) hx hb dX9_isGood_33 (by decide) (fun c17 => ?_) (fun c17 => ?_)
        · have c17' := I_eq c17
          refine lv_aload_n hx hb dX9_isGood_44 rfl (lv_at hl 1 rfl) ?_
          refine va_get (D := (dC, dI)) (ci := 8) (v := .int mgo) (C := RX9) (T := TX9) (N := 32) hx hb hts inG_X9 hown hK hP 6 rfl rfl 27 (by decide) (hts _ fl_X9_161) (fun _ h9 => h9) rfl dX9_isGood_45 ?_
          refine lv_iconst (v := 1) hx hb dX9_isGood_48 (by decide) ?_
          refine lv_icmp_eq (tgt := 63) hx hb dX9_isGood_49 (by decide) (fun c18 => ?_) (fun c18 => ?_)
          · have c18' := I_eq c18
            refine lv_iconst (v := 1) hx hb dX9_isGood_63 (by decide) ?_
            refine lv_goto (tgt := 68) hx hb dX9_isGood_64 (by decide) ?_
            exact hret 1 (mpd_3, mpl_4, mcp_5, mpof_6, mpif_7, mref_15, mnnf, mwof) H locs 68 ls (by first | rfl | exact I_narz (by omega)) ⟨(show (1 : Int32).toInt = 0 ∨ (1 : Int32).toInt = 1 from by first | rfl | assumption | omega), (show mcp_5.toInt = 0 ∨ mcp_5.toInt = 1 from by first | rfl | assumption | omega), trivial⟩ (hP.sub (ws' := [(m0, .inr (8, [.int mth, .int mst, .ref mp, .int mln, .ref mk, .int mts, .ref mti, .ref mtw, .ref mi, .int mmn, .ref mpo, .int mpd_3, .ref mpi, .int mpl_4, .int mcp_5, .ref mre, .ref mnn, .ref mwo, .ref mga, .ref mlo, .ref mro, .ref mle, .ref mra, .int mme, .ref mha, .int mch, .int mtm, .int mgo, .int mwa, .ref mba, .int mbl, .ref mon])), (mk, .inl (cI, 4, .inl mkf)), (mti, .inl (cI, 32, .inl mtif)), (mtw, .inl (cI, 8, .inl mtwf)), (mi, .inl (cI, 12, .inl mif)), (mpo, .inl (cI, 12, .inl mpof_6)), (mpi, .inl (cI, 26, .inl mpif_7)), (mre, .inl (cI, 12, .inl mref_15)), (mnn, .inl (cI, 4, .inl mnnf)), (mwo, .inl (cJ, 12, .inr (.inl mwof)))]) [6, 7, 0, 1, 4, 8, 5, 9, 2, 3] rfl) (hD.sub (ws' := [(m0, .inr (8, [.int mth, .int mst, .ref mp, .int mln, .ref mk, .int mts, .ref mti, .ref mtw, .ref mi, .int mmn, .ref mpo, .int mpd_3, .ref mpi, .int mpl_4, .int mcp_5, .ref mre, .ref mnn, .ref mwo, .ref mga, .ref mlo, .ref mro, .ref mle, .ref mra, .int mme, .ref mha, .int mch, .int mtm, .int mgo, .int mwa, .ref mba, .int mbl, .ref mon])), (mk, .inl (cI, 4, .inl mkf)), (mti, .inl (cI, 32, .inl mtif)), (mtw, .inl (cI, 8, .inl mtwf)), (mi, .inl (cI, 12, .inl mif)), (mpo, .inl (cI, 12, .inl mpof_6)), (mpi, .inl (cI, 26, .inl mpif_7)), (mre, .inl (cI, 12, .inl mref_15)), (mnn, .inl (cI, 4, .inl mnnf)), (mwo, .inl (cJ, 12, .inr (.inl mwof)))]) [6, 7, 0, 1, 4, 8, 5, 9, 2, 3] (by decide) rfl) hS dX9_isGood_68
          · have c18' := I_ne c18
            refine lv_aload_n hx hb dX9_isGood_52 rfl (lv_at hl 1 rfl) ?_
            refine calI (rest := []) (wr := [(mi, .inl (cI, 12, .inl mif)), (mpi, .inl (cI, 26, .inl mpif_7)), (mre, .inl (cI, 12, .inl mref_15))]) hG (c_X9_kept l dC dI cI cJ base bB bO m0 mth mst mp mln mk mts mti mtw mi mmn mpo mpd_3 mpi mpl_4 mcp_5 mre mnn mwo mga mlo mro mle mra mme mha mch mtm mgo mwa mba mbl mon mkf mtif mtwf mpof_6 mnnf mwof (by rcases hr1 with h | h; exact absurd (by omega) h; exact h) (by first | assumption | omega) (by first | assumption | omega)) ml_X9_158 im_X9_kept se_X9_kept ini_X9 cd_X9_kept hd_X9_kept ⟨(Nat.le_of_ble_eq_true rfl), (Nat.le_of_ble_eq_true rfl)⟩ (Nat.le_of_ble_eq_true rfl) (Nat.le_of_ble_eq_true rfl) hP hD hS [6, 7, 0, 1, 8, 2, 3] [4, 5, 9] rfl rfl rfl rfl (by decide) 8 6 rfl rfl hl.1 rfl (Nat.le_of_ble_eq_true rfl) dX9_isGood_53 (fun r19 u H locs hw20 hP hD hS => ?_)
            obtain ⟨mnnf_21, mwof_22⟩ := u
            have hP : va_P (dC, dI) vwCl [(mi, .inl (cI, 12, .inl mif)), (mpi, .inl (cI, 26, .inl mpif_7)), (mre, .inl (cI, 12, .inl mref_15)), (m0, .inr (8, [.int mth, .int mst, .ref mp, .int mln, .ref mk, .int mts, .ref mti, .ref mtw, .ref mi, .int mmn, .ref mpo, .int mpd_3, .ref mpi, .int mpl_4, .int mcp_5, .ref mre, .ref mnn, .ref mwo, .ref mga, .ref mlo, .ref mro, .ref mle, .ref mra, .int mme, .ref mha, .int mch, .int mtm, .int mgo, .int mwa, .ref mba, .int mbl, .ref mon])), (mk, .inl (cI, 4, .inl mkf)), (mti, .inl (cI, 32, .inl mtif)), (mtw, .inl (cI, 8, .inl mtwf)), (mpo, .inl (cI, 12, .inl mpof_6)), (mnn, .inl (cI, 4, .inl mnnf_21)), (mwo, .inl (cJ, 12, .inr (.inl mwof_22)))] H := hP
            have hD : va_D A [(mi, .inl (cI, 12, .inl mif)), (mpi, .inl (cI, 26, .inl mpif_7)), (mre, .inl (cI, 12, .inl mref_15)), (m0, .inr (8, [.int mth, .int mst, .ref mp, .int mln, .ref mk, .int mts, .ref mti, .ref mtw, .ref mi, .int mmn, .ref mpo, .int mpd_3, .ref mpi, .int mpl_4, .int mcp_5, .ref mre, .ref mnn, .ref mwo, .ref mga, .ref mlo, .ref mro, .ref mle, .ref mra, .int mme, .ref mha, .int mch, .int mtm, .int mgo, .int mwa, .ref mba, .int mbl, .ref mon])), (mk, .inl (cI, 4, .inl mkf)), (mti, .inl (cI, 32, .inl mtif)), (mtw, .inl (cI, 8, .inl mtwf)), (mpo, .inl (cI, 12, .inl mpof_6)), (mnn, .inl (cI, 4, .inl mnnf_21)), (mwo, .inl (cJ, 12, .inr (.inl mwof_22)))] := hD
            refine lv_aload_n hx hb dX9_isGood_56 rfl (lv_at hl 1 rfl) ?_
            refine va_get (D := (dC, dI)) (ci := 8) (v := .int mts) (C := RX9) (T := TX9) (N := 32) hx hb hts inG_X9 hown hK hP 3 rfl rfl 5 (by decide) (hts _ fl_X9_155) (fun _ h9 => h9) rfl dX9_isGood_57 ?_
            refine lv_icmp_ne (tgt := 67) hx hb dX9_isGood_60 (by decide) (fun c23 => ?_) (fun c23 => ?_)
            · have c23' := I_ne c23
              refine lv_iconst (v := 0) hx hb dX9_isGood_67 (by decide) ?_
              exact hret 0 (mpd_3, mpl_4, mcp_5, mpof_6, mpif_7, mref_15, mnnf_21, mwof_22) H locs 68 ls (by first | rfl | exact I_narz (by omega)) ⟨(show (0 : Int32).toInt = 0 ∨ (0 : Int32).toInt = 1 from by first | rfl | assumption | omega), (show mcp_5.toInt = 0 ∨ mcp_5.toInt = 1 from by first | rfl | assumption | omega), trivial⟩ (hP.sub (ws' := [(m0, .inr (8, [.int mth, .int mst, .ref mp, .int mln, .ref mk, .int mts, .ref mti, .ref mtw, .ref mi, .int mmn, .ref mpo, .int mpd_3, .ref mpi, .int mpl_4, .int mcp_5, .ref mre, .ref mnn, .ref mwo, .ref mga, .ref mlo, .ref mro, .ref mle, .ref mra, .int mme, .ref mha, .int mch, .int mtm, .int mgo, .int mwa, .ref mba, .int mbl, .ref mon])), (mk, .inl (cI, 4, .inl mkf)), (mti, .inl (cI, 32, .inl mtif)), (mtw, .inl (cI, 8, .inl mtwf)), (mi, .inl (cI, 12, .inl mif)), (mpo, .inl (cI, 12, .inl mpof_6)), (mpi, .inl (cI, 26, .inl mpif_7)), (mre, .inl (cI, 12, .inl mref_15)), (mnn, .inl (cI, 4, .inl mnnf_21)), (mwo, .inl (cJ, 12, .inr (.inl mwof_22)))]) [3, 4, 5, 6, 0, 7, 1, 2, 8, 9] rfl) (hD.sub (ws' := [(m0, .inr (8, [.int mth, .int mst, .ref mp, .int mln, .ref mk, .int mts, .ref mti, .ref mtw, .ref mi, .int mmn, .ref mpo, .int mpd_3, .ref mpi, .int mpl_4, .int mcp_5, .ref mre, .ref mnn, .ref mwo, .ref mga, .ref mlo, .ref mro, .ref mle, .ref mra, .int mme, .ref mha, .int mch, .int mtm, .int mgo, .int mwa, .ref mba, .int mbl, .ref mon])), (mk, .inl (cI, 4, .inl mkf)), (mti, .inl (cI, 32, .inl mtif)), (mtw, .inl (cI, 8, .inl mtwf)), (mi, .inl (cI, 12, .inl mif)), (mpo, .inl (cI, 12, .inl mpof_6)), (mpi, .inl (cI, 26, .inl mpif_7)), (mre, .inl (cI, 12, .inl mref_15)), (mnn, .inl (cI, 4, .inl mnnf_21)), (mwo, .inl (cJ, 12, .inr (.inl mwof_22)))]) [3, 4, 5, 6, 0, 7, 1, 2, 8, 9] (by decide) rfl) hS dX9_isGood_68
            · have c23' := I_eq c23
              refine lv_iconst (v := 1) hx hb dX9_isGood_63 (by decide) ?_
              refine lv_goto (tgt := 68) hx hb dX9_isGood_64 (by decide) ?_
              exact hret 1 (mpd_3, mpl_4, mcp_5, mpof_6, mpif_7, mref_15, mnnf_21, mwof_22) H locs 68 ls (by first | rfl | exact I_narz (by omega)) ⟨(show (1 : Int32).toInt = 0 ∨ (1 : Int32).toInt = 1 from by first | rfl | assumption | omega), (show mcp_5.toInt = 0 ∨ mcp_5.toInt = 1 from by first | rfl | assumption | omega), trivial⟩ (hP.sub (ws' := [(m0, .inr (8, [.int mth, .int mst, .ref mp, .int mln, .ref mk, .int mts, .ref mti, .ref mtw, .ref mi, .int mmn, .ref mpo, .int mpd_3, .ref mpi, .int mpl_4, .int mcp_5, .ref mre, .ref mnn, .ref mwo, .ref mga, .ref mlo, .ref mro, .ref mle, .ref mra, .int mme, .ref mha, .int mch, .int mtm, .int mgo, .int mwa, .ref mba, .int mbl, .ref mon])), (mk, .inl (cI, 4, .inl mkf)), (mti, .inl (cI, 32, .inl mtif)), (mtw, .inl (cI, 8, .inl mtwf)), (mi, .inl (cI, 12, .inl mif)), (mpo, .inl (cI, 12, .inl mpof_6)), (mpi, .inl (cI, 26, .inl mpif_7)), (mre, .inl (cI, 12, .inl mref_15)), (mnn, .inl (cI, 4, .inl mnnf_21)), (mwo, .inl (cJ, 12, .inr (.inl mwof_22)))]) [3, 4, 5, 6, 0, 7, 1, 2, 8, 9] rfl) (hD.sub (ws' := [(m0, .inr (8, [.int mth, .int mst, .ref mp, .int mln, .ref mk, .int mts, .ref mti, .ref mtw, .ref mi, .int mmn, .ref mpo, .int mpd_3, .ref mpi, .int mpl_4, .int mcp_5, .ref mre, .ref mnn, .ref mwo, .ref mga, .ref mlo, .ref mro, .ref mle, .ref mra, .int mme, .ref mha, .int mch, .int mtm, .int mgo, .int mwa, .ref mba, .int mbl, .ref mon])), (mk, .inl (cI, 4, .inl mkf)), (mti, .inl (cI, 32, .inl mtif)), (mtw, .inl (cI, 8, .inl mtwf)), (mi, .inl (cI, 12, .inl mif)), (mpo, .inl (cI, 12, .inl mpof_6)), (mpi, .inl (cI, 26, .inl mpif_7)), (mre, .inl (cI, 12, .inl mref_15)), (mnn, .inl (cI, 4, .inl mnnf_21)), (mwo, .inl (cJ, 12, .inr (.inl mwof_22)))]) [3, 4, 5, 6, 0, 7, 1, 2, 8, 9] (by decide) rfl) hS dX9_isGood_68
        · have c17' := I_ne c17
          refine lv_iload_n hx hb dX9_isGood_36 rfl (lv_at hl 0 rfl) ?_
          refine lv_aload_n hx hb dX9_isGood_37 rfl (lv_at hl 1 rfl) ?_
          refine va_get (D := (dC, dI)) (ci := 8) (v := .int mwa) (C := RX9) (T := TX9) (N := 32) hx hb hts inG_X9 hown hK hP 6 rfl rfl 28 (by decide) (hts _ fl_X9_164) (fun _ h9 => h9) rfl dX9_isGood_38 ?_
          refine lv_icmp_ne (tgt := 67) hx hb dX9_isGood_41 (by decide) (fun c24 => ?_) (fun c24 => ?_)
          · have c24' := I_ne c24
            refine lv_iconst (v := 0) hx hb dX9_isGood_67 (by decide) ?_
            exact hret 0 (mpd_3, mpl_4, mcp_5, mpof_6, mpif_7, mref_15, mnnf, mwof) H locs 68 ls (by first | rfl | exact I_narz (by omega)) ⟨(show (0 : Int32).toInt = 0 ∨ (0 : Int32).toInt = 1 from by first | rfl | assumption | omega), (show mcp_5.toInt = 0 ∨ mcp_5.toInt = 1 from by first | rfl | assumption | omega), trivial⟩ (hP.sub (ws' := [(m0, .inr (8, [.int mth, .int mst, .ref mp, .int mln, .ref mk, .int mts, .ref mti, .ref mtw, .ref mi, .int mmn, .ref mpo, .int mpd_3, .ref mpi, .int mpl_4, .int mcp_5, .ref mre, .ref mnn, .ref mwo, .ref mga, .ref mlo, .ref mro, .ref mle, .ref mra, .int mme, .ref mha, .int mch, .int mtm, .int mgo, .int mwa, .ref mba, .int mbl, .ref mon])), (mk, .inl (cI, 4, .inl mkf)), (mti, .inl (cI, 32, .inl mtif)), (mtw, .inl (cI, 8, .inl mtwf)), (mi, .inl (cI, 12, .inl mif)), (mpo, .inl (cI, 12, .inl mpof_6)), (mpi, .inl (cI, 26, .inl mpif_7)), (mre, .inl (cI, 12, .inl mref_15)), (mnn, .inl (cI, 4, .inl mnnf)), (mwo, .inl (cJ, 12, .inr (.inl mwof)))]) [6, 7, 0, 1, 4, 8, 5, 9, 2, 3] rfl) (hD.sub (ws' := [(m0, .inr (8, [.int mth, .int mst, .ref mp, .int mln, .ref mk, .int mts, .ref mti, .ref mtw, .ref mi, .int mmn, .ref mpo, .int mpd_3, .ref mpi, .int mpl_4, .int mcp_5, .ref mre, .ref mnn, .ref mwo, .ref mga, .ref mlo, .ref mro, .ref mle, .ref mra, .int mme, .ref mha, .int mch, .int mtm, .int mgo, .int mwa, .ref mba, .int mbl, .ref mon])), (mk, .inl (cI, 4, .inl mkf)), (mti, .inl (cI, 32, .inl mtif)), (mtw, .inl (cI, 8, .inl mtwf)), (mi, .inl (cI, 12, .inl mif)), (mpo, .inl (cI, 12, .inl mpof_6)), (mpi, .inl (cI, 26, .inl mpif_7)), (mre, .inl (cI, 12, .inl mref_15)), (mnn, .inl (cI, 4, .inl mnnf)), (mwo, .inl (cJ, 12, .inr (.inl mwof)))]) [6, 7, 0, 1, 4, 8, 5, 9, 2, 3] (by decide) rfl) hS dX9_isGood_68
          · have c24' := I_eq c24
            refine lv_aload_n hx hb dX9_isGood_44 rfl (lv_at hl 1 rfl) ?_
            refine va_get (D := (dC, dI)) (ci := 8) (v := .int mgo) (C := RX9) (T := TX9) (N := 32) hx hb hts inG_X9 hown hK hP 6 rfl rfl 27 (by decide) (hts _ fl_X9_161) (fun _ h9 => h9) rfl dX9_isGood_45 ?_
            refine lv_iconst (v := 1) hx hb dX9_isGood_48 (by decide) ?_
            refine lv_icmp_eq (tgt := 63) hx hb dX9_isGood_49 (by decide) (fun c25 => ?_) (fun c25 => ?_)
            · have c25' := I_eq c25
              refine lv_iconst (v := 1) hx hb dX9_isGood_63 (by decide) ?_
              refine lv_goto (tgt := 68) hx hb dX9_isGood_64 (by decide) ?_
              exact hret 1 (mpd_3, mpl_4, mcp_5, mpof_6, mpif_7, mref_15, mnnf, mwof) H locs 68 ls (by first | rfl | exact I_narz (by omega)) ⟨(show (1 : Int32).toInt = 0 ∨ (1 : Int32).toInt = 1 from by first | rfl | assumption | omega), (show mcp_5.toInt = 0 ∨ mcp_5.toInt = 1 from by first | rfl | assumption | omega), trivial⟩ (hP.sub (ws' := [(m0, .inr (8, [.int mth, .int mst, .ref mp, .int mln, .ref mk, .int mts, .ref mti, .ref mtw, .ref mi, .int mmn, .ref mpo, .int mpd_3, .ref mpi, .int mpl_4, .int mcp_5, .ref mre, .ref mnn, .ref mwo, .ref mga, .ref mlo, .ref mro, .ref mle, .ref mra, .int mme, .ref mha, .int mch, .int mtm, .int mgo, .int mwa, .ref mba, .int mbl, .ref mon])), (mk, .inl (cI, 4, .inl mkf)), (mti, .inl (cI, 32, .inl mtif)), (mtw, .inl (cI, 8, .inl mtwf)), (mi, .inl (cI, 12, .inl mif)), (mpo, .inl (cI, 12, .inl mpof_6)), (mpi, .inl (cI, 26, .inl mpif_7)), (mre, .inl (cI, 12, .inl mref_15)), (mnn, .inl (cI, 4, .inl mnnf)), (mwo, .inl (cJ, 12, .inr (.inl mwof)))]) [6, 7, 0, 1, 4, 8, 5, 9, 2, 3] rfl) (hD.sub (ws' := [(m0, .inr (8, [.int mth, .int mst, .ref mp, .int mln, .ref mk, .int mts, .ref mti, .ref mtw, .ref mi, .int mmn, .ref mpo, .int mpd_3, .ref mpi, .int mpl_4, .int mcp_5, .ref mre, .ref mnn, .ref mwo, .ref mga, .ref mlo, .ref mro, .ref mle, .ref mra, .int mme, .ref mha, .int mch, .int mtm, .int mgo, .int mwa, .ref mba, .int mbl, .ref mon])), (mk, .inl (cI, 4, .inl mkf)), (mti, .inl (cI, 32, .inl mtif)), (mtw, .inl (cI, 8, .inl mtwf)), (mi, .inl (cI, 12, .inl mif)), (mpo, .inl (cI, 12, .inl mpof_6)), (mpi, .inl (cI, 26, .inl mpif_7)), (mre, .inl (cI, 12, .inl mref_15)), (mnn, .inl (cI, 4, .inl mnnf)), (mwo, .inl (cJ, 12, .inr (.inl mwof)))]) [6, 7, 0, 1, 4, 8, 5, 9, 2, 3] (by decide) rfl) hS dX9_isGood_68
            · have c25' := I_ne c25
              refine lv_aload_n hx hb dX9_isGood_52 rfl (lv_at hl 1 rfl) ?_
              refine calI (rest := []) (wr := [(mi, .inl (cI, 12, .inl mif)), (mpi, .inl (cI, 26, .inl mpif_7)), (mre, .inl (cI, 12, .inl mref_15))]) hG (c_X9_kept l dC dI cI cJ base bB bO m0 mth mst mp mln mk mts mti mtw mi mmn mpo mpd_3 mpi mpl_4 mcp_5 mre mnn mwo mga mlo mro mle mra mme mha mch mtm mgo mwa mba mbl mon mkf mtif mtwf mpof_6 mnnf mwof (by rcases hr1 with h | h; exact absurd (by omega) h; exact h) (by first | assumption | omega) (by first | assumption | omega)) ml_X9_158 im_X9_kept se_X9_kept ini_X9 cd_X9_kept hd_X9_kept ⟨(Nat.le_of_ble_eq_true rfl), (Nat.le_of_ble_eq_true rfl)⟩ (Nat.le_of_ble_eq_true rfl) (Nat.le_of_ble_eq_true rfl) hP hD hS [6, 7, 0, 1, 8, 2, 3] [4, 5, 9] rfl rfl rfl rfl (by decide) 8 6 rfl rfl hl.1 rfl (Nat.le_of_ble_eq_true rfl) dX9_isGood_53 (fun r26 u H locs hw27 hP hD hS => ?_)
              obtain ⟨mnnf_28, mwof_29⟩ := u
              have hP : va_P (dC, dI) vwCl [(mi, .inl (cI, 12, .inl mif)), (mpi, .inl (cI, 26, .inl mpif_7)), (mre, .inl (cI, 12, .inl mref_15)), (m0, .inr (8, [.int mth, .int mst, .ref mp, .int mln, .ref mk, .int mts, .ref mti, .ref mtw, .ref mi, .int mmn, .ref mpo, .int mpd_3, .ref mpi, .int mpl_4, .int mcp_5, .ref mre, .ref mnn, .ref mwo, .ref mga, .ref mlo, .ref mro, .ref mle, .ref mra, .int mme, .ref mha, .int mch, .int mtm, .int mgo, .int mwa, .ref mba, .int mbl, .ref mon])), (mk, .inl (cI, 4, .inl mkf)), (mti, .inl (cI, 32, .inl mtif)), (mtw, .inl (cI, 8, .inl mtwf)), (mpo, .inl (cI, 12, .inl mpof_6)), (mnn, .inl (cI, 4, .inl mnnf_28)), (mwo, .inl (cJ, 12, .inr (.inl mwof_29)))] H := hP
              have hD : va_D A [(mi, .inl (cI, 12, .inl mif)), (mpi, .inl (cI, 26, .inl mpif_7)), (mre, .inl (cI, 12, .inl mref_15)), (m0, .inr (8, [.int mth, .int mst, .ref mp, .int mln, .ref mk, .int mts, .ref mti, .ref mtw, .ref mi, .int mmn, .ref mpo, .int mpd_3, .ref mpi, .int mpl_4, .int mcp_5, .ref mre, .ref mnn, .ref mwo, .ref mga, .ref mlo, .ref mro, .ref mle, .ref mra, .int mme, .ref mha, .int mch, .int mtm, .int mgo, .int mwa, .ref mba, .int mbl, .ref mon])), (mk, .inl (cI, 4, .inl mkf)), (mti, .inl (cI, 32, .inl mtif)), (mtw, .inl (cI, 8, .inl mtwf)), (mpo, .inl (cI, 12, .inl mpof_6)), (mnn, .inl (cI, 4, .inl mnnf_28)), (mwo, .inl (cJ, 12, .inr (.inl mwof_29)))] := hD
              refine lv_aload_n hx hb dX9_isGood_56 rfl (lv_at hl 1 rfl) ?_
              refine va_get (D := (dC, dI)) (ci := 8) (v := .int mts) (C := RX9) (T := TX9) (N := 32) hx hb hts inG_X9 hown hK hP 3 rfl rfl 5 (by decide) (hts _ fl_X9_155) (fun _ h9 => h9) rfl dX9_isGood_57 ?_
              refine lv_icmp_ne (tgt := 67) hx hb dX9_isGood_60 (by decide) (fun c30 => ?_) (fun c30 => ?_)
              · have c30' := I_ne c30
                refine lv_iconst (v := 0) hx hb dX9_isGood_67 (by decide) ?_
                exact hret 0 (mpd_3, mpl_4, mcp_5, mpof_6, mpif_7, mref_15, mnnf_28, mwof_29) H locs 68 ls (by first | rfl | exact I_narz (by omega)) ⟨(show (0 : Int32).toInt = 0 ∨ (0 : Int32).toInt = 1 from by first | rfl | assumption | omega), (show mcp_5.toInt = 0 ∨ mcp_5.toInt = 1 from by first | rfl | assumption | omega), trivial⟩ (hP.sub (ws' := [(m0, .inr (8, [.int mth, .int mst, .ref mp, .int mln, .ref mk, .int mts, .ref mti, .ref mtw, .ref mi, .int mmn, .ref mpo, .int mpd_3, .ref mpi, .int mpl_4, .int mcp_5, .ref mre, .ref mnn, .ref mwo, .ref mga, .ref mlo, .ref mro, .ref mle, .ref mra, .int mme, .ref mha, .int mch, .int mtm, .int mgo, .int mwa, .ref mba, .int mbl, .ref mon])), (mk, .inl (cI, 4, .inl mkf)), (mti, .inl (cI, 32, .inl mtif)), (mtw, .inl (cI, 8, .inl mtwf)), (mi, .inl (cI, 12, .inl mif)), (mpo, .inl (cI, 12, .inl mpof_6)), (mpi, .inl (cI, 26, .inl mpif_7)), (mre, .inl (cI, 12, .inl mref_15)), (mnn, .inl (cI, 4, .inl mnnf_28)), (mwo, .inl (cJ, 12, .inr (.inl mwof_29)))]) [3, 4, 5, 6, 0, 7, 1, 2, 8, 9] rfl) (hD.sub (ws' := [(m0, .inr (8, [.int mth, .int mst, .ref mp, .int mln, .ref mk, .int mts, .ref mti, .ref mtw, .ref mi, .int mmn, .ref mpo, .int mpd_3, .ref mpi, .int mpl_4, .int mcp_5, .ref mre, .ref mnn, .ref mwo, .ref mga, .ref mlo, .ref mro, .ref mle, .ref mra, .int mme, .ref mha, .int mch, .int mtm, .int mgo, .int mwa, .ref mba, .int mbl, .ref mon])), (mk, .inl (cI, 4, .inl mkf)), (mti, .inl (cI, 32, .inl mtif)), (mtw, .inl (cI, 8, .inl mtwf)), (mi, .inl (cI, 12, .inl mif)), (mpo, .inl (cI, 12, .inl mpof_6)), (mpi, .inl (cI, 26, .inl mpif_7)), (mre, .inl (cI, 12, .inl mref_15)), (mnn, .inl (cI, 4, .inl mnnf_28)), (mwo, .inl (cJ, 12, .inr (.inl mwof_29)))]) [3, 4, 5, 6, 0, 7, 1, 2, 8, 9] (by decide) rfl) hS dX9_isGood_68
              · have c30' := I_eq c30
                refine lv_iconst (v := 1) hx hb dX9_isGood_63 (by decide) ?_
                refine lv_goto (tgt := 68) hx hb dX9_isGood_64 (by decide) ?_
                exact hret 1 (mpd_3, mpl_4, mcp_5, mpof_6, mpif_7, mref_15, mnnf_28, mwof_29) H locs 68 ls (by first | rfl | exact I_narz (by omega)) ⟨(show (1 : Int32).toInt = 0 ∨ (1 : Int32).toInt = 1 from by first | rfl | assumption | omega), (show mcp_5.toInt = 0 ∨ mcp_5.toInt = 1 from by first | rfl | assumption | omega), trivial⟩ (hP.sub (ws' := [(m0, .inr (8, [.int mth, .int mst, .ref mp, .int mln, .ref mk, .int mts, .ref mti, .ref mtw, .ref mi, .int mmn, .ref mpo, .int mpd_3, .ref mpi, .int mpl_4, .int mcp_5, .ref mre, .ref mnn, .ref mwo, .ref mga, .ref mlo, .ref mro, .ref mle, .ref mra, .int mme, .ref mha, .int mch, .int mtm, .int mgo, .int mwa, .ref mba, .int mbl, .ref mon])), (mk, .inl (cI, 4, .inl mkf)), (mti, .inl (cI, 32, .inl mtif)), (mtw, .inl (cI, 8, .inl mtwf)), (mi, .inl (cI, 12, .inl mif)), (mpo, .inl (cI, 12, .inl mpof_6)), (mpi, .inl (cI, 26, .inl mpif_7)), (mre, .inl (cI, 12, .inl mref_15)), (mnn, .inl (cI, 4, .inl mnnf_28)), (mwo, .inl (cJ, 12, .inr (.inl mwof_29)))]) [3, 4, 5, 6, 0, 7, 1, 2, 8, 9] rfl) (hD.sub (ws' := [(m0, .inr (8, [.int mth, .int mst, .ref mp, .int mln, .ref mk, .int mts, .ref mti, .ref mtw, .ref mi, .int mmn, .ref mpo, .int mpd_3, .ref mpi, .int mpl_4, .int mcp_5, .ref mre, .ref mnn, .ref mwo, .ref mga, .ref mlo, .ref mro, .ref mle, .ref mra, .int mme, .ref mha, .int mch, .int mtm, .int mgo, .int mwa, .ref mba, .int mbl, .ref mon])), (mk, .inl (cI, 4, .inl mkf)), (mti, .inl (cI, 32, .inl mtif)), (mtw, .inl (cI, 8, .inl mtwf)), (mi, .inl (cI, 12, .inl mif)), (mpo, .inl (cI, 12, .inl mpof_6)), (mpi, .inl (cI, 26, .inl mpif_7)), (mre, .inl (cI, 12, .inl mref_15)), (mnn, .inl (cI, 4, .inl mnnf_28)), (mwo, .inl (cJ, 12, .inr (.inl mwof_29)))]) [3, 4, 5, 6, 0, 7, 1, 2, 8, 9] (by decide) rfl) hS dX9_isGood_68
    · have c12' := I_eq c12
      refine lv_iconst (v := 1) hx hb dX9_isGood_17 (by decide) ?_
      exact hret 1 (mpd_3, mpl_4, mcp_5, mpof_6, mpif_7, mref, mnnf, mwof) H locs 18 ls (by first | rfl | exact I_narz (by omega)) ⟨(show (1 : Int32).toInt = 0 ∨ (1 : Int32).toInt = 1 from by first | rfl | assumption | omega), (show mcp_5.toInt = 0 ∨ mcp_5.toInt = 1 from by first | rfl | assumption | omega), trivial⟩ (hP.sub (ws' := [(m0, .inr (8, [.int mth, .int mst, .ref mp, .int mln, .ref mk, .int mts, .ref mti, .ref mtw, .ref mi, .int mmn, .ref mpo, .int mpd_3, .ref mpi, .int mpl_4, .int mcp_5, .ref mre, .ref mnn, .ref mwo, .ref mga, .ref mlo, .ref mro, .ref mle, .ref mra, .int mme, .ref mha, .int mch, .int mtm, .int mgo, .int mwa, .ref mba, .int mbl, .ref mon])), (mk, .inl (cI, 4, .inl mkf)), (mti, .inl (cI, 32, .inl mtif)), (mtw, .inl (cI, 8, .inl mtwf)), (mi, .inl (cI, 12, .inl mif)), (mpo, .inl (cI, 12, .inl mpof_6)), (mpi, .inl (cI, 26, .inl mpif_7)), (mre, .inl (cI, 12, .inl mref)), (mnn, .inl (cI, 4, .inl mnnf)), (mwo, .inl (cJ, 12, .inr (.inl mwof)))]) [6, 0, 1, 2, 7, 8, 9, 3, 4, 5] rfl) (hD.sub (ws' := [(m0, .inr (8, [.int mth, .int mst, .ref mp, .int mln, .ref mk, .int mts, .ref mti, .ref mtw, .ref mi, .int mmn, .ref mpo, .int mpd_3, .ref mpi, .int mpl_4, .int mcp_5, .ref mre, .ref mnn, .ref mwo, .ref mga, .ref mlo, .ref mro, .ref mle, .ref mra, .int mme, .ref mha, .int mch, .int mtm, .int mgo, .int mwa, .ref mba, .int mbl, .ref mon])), (mk, .inl (cI, 4, .inl mkf)), (mti, .inl (cI, 32, .inl mtif)), (mtw, .inl (cI, 8, .inl mtwf)), (mi, .inl (cI, 12, .inl mif)), (mpo, .inl (cI, 12, .inl mpof_6)), (mpi, .inl (cI, 26, .inl mpif_7)), (mre, .inl (cI, 12, .inl mref)), (mnn, .inl (cI, 4, .inl mnnf)), (mwo, .inl (cJ, 12, .inr (.inl mwof)))]) [6, 0, 1, 2, 7, 8, 9, 3, 4, 5] (by decide) rfl) hS dX9_isGood_18
  · have c11' := I_ne c11
    refine lv_iconst (v := 0) hx hb dX9_isGood_8 (by decide) ?_
    exact hret 0 (mpd_3, mpl_4, mcp_5, mpof_6, mpif_7, mref, mnnf, mwof) H locs 9 ls (by first | rfl | exact I_narz (by omega)) ⟨(show (0 : Int32).toInt = 0 ∨ (0 : Int32).toInt = 1 from by first | rfl | assumption | omega), (show mcp_5.toInt = 0 ∨ mcp_5.toInt = 1 from by first | rfl | assumption | omega), trivial⟩ (hP.sub (ws' := [(m0, .inr (8, [.int mth, .int mst, .ref mp, .int mln, .ref mk, .int mts, .ref mti, .ref mtw, .ref mi, .int mmn, .ref mpo, .int mpd_3, .ref mpi, .int mpl_4, .int mcp_5, .ref mre, .ref mnn, .ref mwo, .ref mga, .ref mlo, .ref mro, .ref mle, .ref mra, .int mme, .ref mha, .int mch, .int mtm, .int mgo, .int mwa, .ref mba, .int mbl, .ref mon])), (mk, .inl (cI, 4, .inl mkf)), (mti, .inl (cI, 32, .inl mtif)), (mtw, .inl (cI, 8, .inl mtwf)), (mi, .inl (cI, 12, .inl mif)), (mpo, .inl (cI, 12, .inl mpof_6)), (mpi, .inl (cI, 26, .inl mpif_7)), (mre, .inl (cI, 12, .inl mref)), (mnn, .inl (cI, 4, .inl mnnf)), (mwo, .inl (cJ, 12, .inr (.inl mwof)))]) [6, 0, 1, 2, 7, 8, 9, 3, 4, 5] rfl) (hD.sub (ws' := [(m0, .inr (8, [.int mth, .int mst, .ref mp, .int mln, .ref mk, .int mts, .ref mti, .ref mtw, .ref mi, .int mmn, .ref mpo, .int mpd_3, .ref mpi, .int mpl_4, .int mcp_5, .ref mre, .ref mnn, .ref mwo, .ref mga, .ref mlo, .ref mro, .ref mle, .ref mra, .int mme, .ref mha, .int mch, .int mtm, .int mgo, .int mwa, .ref mba, .int mbl, .ref mon])), (mk, .inl (cI, 4, .inl mkf)), (mti, .inl (cI, 32, .inl mtif)), (mtw, .inl (cI, 8, .inl mtwf)), (mi, .inl (cI, 12, .inl mif)), (mpo, .inl (cI, 12, .inl mpof_6)), (mpi, .inl (cI, 26, .inl mpif_7)), (mre, .inl (cI, 12, .inl mref)), (mnn, .inl (cI, 4, .inl mnnf)), (mwo, .inl (cJ, 12, .inr (.inl mwof)))]) [6, 0, 1, 2, 7, 8, 9, 3, 4, 5] (by decide) rfl) hS dX9_isGood_9
set_option maxHeartbeats 4000000 in
set_option maxRecDepth 100000 in
theorem c_X9_look (l : Launch) (dC : Nat → ClassId) (dI : Nat → Nat → Nat) (cI cJ : ClassId) (base bB bO : Nat) (m0 : Nat) (mth : Int32) (mst : Int32) (mp : Nat) (mln : Int32) (mk : Nat) (mts : Int32) (mti : Nat) (mtw : Nat) (mi : Nat) (mmn : Int32) (mpo : Nat) (mpd : Int32) (mpi : Nat) (mpl : Int32) (mcp : Int32) (mre : Nat) (mnn : Nat) (mwo : Nat) (mga : Nat) (mlo : Nat) (mro : Nat) (mle : Nat) (mra : Nat) (mme : Int32) (mha : Nat) (mch : Int32) (mtm : Int32) (mgo : Int32) (mwa : Int32) (mba : Nat) (mbl : Int32) (mon : Nat) (mkf : Nat → Int32) (mtif : Nat → Int32) (mtwf : Nat → Int32) (mif : Nat → Int32) (mpof : Nat → Int32) (mpif : Nat → Int32) (mref : Nat → Int32) (mnnf : Nat → Int32) (mwof : Nat → Int64) (mrof : Nat → Int32) (mlef : Nat → Int32) (hq0 : 0 ≤ mmn.toInt ∧ mmn.toInt ≤ 12) (hq1 : 0 ≤ mts.toInt ∧ mts.toInt ≤ 8) (hq2 : mcp.toInt = 0 ∨ mcp.toInt = 1) (hq3 : 0 ≤ mme.toInt ∧ mme.toInt ≤ 300) (hq4 : mtm.toInt = 0 ∨ mtm.toInt = 1) (hq5 : ∀ j : Nat, 0 ≤ (mlef j).toInt ∧ (mlef j).toInt ≤ 12) : CtV l dC dI cI cJ base bB bO yX9_look cX9_look 4 0 0 6 126 [.ref m0] [(m0, .inr (8, [.int mth, .int mst, .ref mp, .int mln, .ref mk, .int mts, .ref mti, .ref mtw, .ref mi, .int mmn, .ref mpo, .int mpd, .ref mpi, .int mpl, .int mcp, .ref mre, .ref mnn, .ref mwo, .ref mga, .ref mlo, .ref mro, .ref mle, .ref mra, .int mme, .ref mha, .int mch, .int mtm, .int mgo, .int mwa, .ref mba, .int mbl, .ref mon])), (mk, .inl (cI, 4, .inl mkf)), (mti, .inl (cI, 32, .inl mtif)), (mtw, .inl (cI, 8, .inl mtwf)), (mi, .inl (cI, 12, .inl mif)), (mpo, .inl (cI, 12, .inl mpof)), (mpi, .inl (cI, 26, .inl mpif)), (mre, .inl (cI, 12, .inl mref)), (mnn, .inl (cI, 4, .inl mnnf)), (mwo, .inl (cJ, 12, .inr (.inl mwof))), (mro, .inl (cI, 3600, .inl mrof)), (mle, .inl (cI, 300, .inl mlef))] ((Int32) × (Int32) × (Int32) × (Nat → Int32) × (Nat → Int32) × (Nat → Int32) × (Nat → Int32) × (Nat → Int64) × (Int32) × (Int32) × (Nat → Int32) × (Nat → Int32)) (fun (u : (Int32) × (Int32) × (Int32) × (Nat → Int32) × (Nat → Int32) × (Nat → Int32) × (Nat → Int32) × (Nat → Int64) × (Int32) × (Int32) × (Nat → Int32) × (Nat → Int32)) => (u.2.2.1.toInt = 0 ∨ u.2.2.1.toInt = 1) ∧ (0 ≤ u.2.2.2.2.2.2.2.2.1.toInt ∧ u.2.2.2.2.2.2.2.2.1.toInt ≤ 300) ∧ (u.2.2.2.2.2.2.2.2.2.1.toInt = 0 ∨ u.2.2.2.2.2.2.2.2.2.1.toInt = 1) ∧ (∀ j : Nat, 0 ≤ (u.2.2.2.2.2.2.2.2.2.2.2 j).toInt ∧ (u.2.2.2.2.2.2.2.2.2.2.2 j).toInt ≤ 12) ∧ True) (fun (u : (Int32) × (Int32) × (Int32) × (Nat → Int32) × (Nat → Int32) × (Nat → Int32) × (Nat → Int32) × (Nat → Int64) × (Int32) × (Int32) × (Nat → Int32) × (Nat → Int32)) => [(m0, .inr (8, [.int mth, .int mst, .ref mp, .int mln, .ref mk, .int mts, .ref mti, .ref mtw, .ref mi, .int mmn, .ref mpo, .int u.1, .ref mpi, .int u.2.1, .int u.2.2.1, .ref mre, .ref mnn, .ref mwo, .ref mga, .ref mlo, .ref mro, .ref mle, .ref mra, .int u.2.2.2.2.2.2.2.2.1, .ref mha, .int mch, .int u.2.2.2.2.2.2.2.2.2.1, .int mgo, .int mwa, .ref mba, .int mbl, .ref mon])), (mk, .inl (cI, 4, .inl mkf)), (mti, .inl (cI, 32, .inl mtif)), (mtw, .inl (cI, 8, .inl mtwf)), (mi, .inl (cI, 12, .inl mif)), (mpo, .inl (cI, 12, .inl u.2.2.2.1)), (mpi, .inl (cI, 26, .inl u.2.2.2.2.1)), (mre, .inl (cI, 12, .inl u.2.2.2.2.2.1)), (mnn, .inl (cI, 4, .inl u.2.2.2.2.2.2.1)), (mwo, .inl (cJ, 12, .inr (.inl u.2.2.2.2.2.2.2.1))), (mro, .inl (cI, 3600, .inl u.2.2.2.2.2.2.2.2.2.2.1)), (mle, .inl (cI, 300, .inl u.2.2.2.2.2.2.2.2.2.2.2))]) := by
  refine entV (by decide) (Nat.le_of_ble_eq_true rfl) ?_
  intro p e s m below meth c A Q ls hAt hret hP hD hS hl
  obtain ⟨hx, hb, hml, hown, hts, hA, hAb, hK, hE, hlocks, hin⟩ := hAt
  have hG : CG dC dI cI cJ base bB bO cX9_look 4 RX9 p s m (List.toArray [.ref m0]) c A := ⟨hx, hb, hml, hown, hts, hA, hAb, hK, hE⟩
  have hl : lv_has ls 4 [(0, .ref m0)] := hl
  have c_0 : (0 : Int32).toInt = 0 := by decide
  have c_1 : (1 : Int32).toInt = 1 := by decide
  have c_12 : (12 : Int32).toInt = 12 := by decide
  have c_300 : (300 : Int32).toInt = 300 := by decide
  obtain ⟨H, hHe⟩ : ∃ H : Heap, H = s.heap := ⟨_, rfl⟩
  obtain ⟨locs, hle⟩ : ∃ z : List Loc, z = [] := ⟨_, rfl⟩
  rw [← hHe] at hP
  have hS : va_S A s.heap H locs := by rw [hHe, hle]; exact hS
  suffices hgo : W p l e { frames := 6, cells := 0, slots := 0, locals := 126 } s m (List.toArray [.ref m0]) below meth c H locs 0 0 Q (F0 m 0 ls []) by rw [hHe, hle] at hgo; exact hgo
  refine lv_aload_n hx hb dX9_look_0 rfl (lv_at hl 0 rfl) ?_
  refine va_get (D := (dC, dI)) (ci := 8) (v := .int mtm) (C := RX9) (T := TX9) (N := 32) hx hb hts inG_X9 hown hK hP 0 rfl rfl 26 (by decide) (hts _ fl_X9_167) (fun _ h9 => h9) rfl dX9_look_1 ?_
  refine lv_if_ne (tgt := 14) hx hb dX9_look_4 (by decide) (fun c1 => ?_) (fun c1 => ?_)
  · have c1' := I_ne c1
    exact hret (mpd, mpl, mcp, mpof, mpif, mref, mnnf, mwof, mme, mtm, mrof, mlef) H locs 14 ls ⟨(show mcp.toInt = 0 ∨ mcp.toInt = 1 from by first | rfl | assumption | omega), (show 0 ≤ mme.toInt ∧ mme.toInt ≤ 300 from by first | rfl | assumption | omega), (show mtm.toInt = 0 ∨ mtm.toInt = 1 from by first | rfl | assumption | omega), (show ∀ j : Nat, 0 ≤ (mlef j).toInt ∧ (mlef j).toInt ≤ 12 from by first | rfl | assumption | omega), trivial⟩ hP hD hS dX9_look_14
  · have c1' := I_eq c1
    refine lv_aload_n hx hb dX9_look_7 rfl (lv_at hl 0 rfl) ?_
    refine calI (rest := []) (wr := [(mro, .inl (cI, 3600, .inl mrof)), (mle, .inl (cI, 300, .inl mlef))]) hG (c_X9_isGood l dC dI cI cJ base bB bO m0 mth mst mp mln mk mts mti mtw mi mmn mpo mpd mpi mpl mcp mre mnn mwo mga mlo mro mle mra mme mha mch mtm mgo mwa mba mbl mon mkf mtif mtwf mif mpof mpif mref mnnf mwof (by first | assumption | omega) (by first | assumption | omega)) ml_X9_170 im_X9_isGood se_X9_isGood ini_X9 cd_X9_isGood hd_X9_isGood ⟨(Nat.le_of_ble_eq_true rfl), (Nat.le_of_ble_eq_true rfl)⟩ (Nat.le_of_ble_eq_true rfl) (Nat.le_of_ble_eq_true rfl) hP hD hS [0, 1, 2, 3, 4, 5, 6, 7, 8, 9] [10, 11] rfl rfl rfl rfl (by decide) 8 0 rfl rfl hl.1 rfl (Nat.le_of_ble_eq_true rfl) dX9_look_8 (fun r2 u H locs hw3 hP hD hS => ?_)
    obtain ⟨mpd_4, mpl_5, mcp_6, mpof_7, mpif_8, mref_9, mnnf_10, mwof_11⟩ := u
    have hw3 : (r2.toInt = 0 ∨ r2.toInt = 1) ∧ (mcp_6.toInt = 0 ∨ mcp_6.toInt = 1) ∧ True := hw3
    obtain ⟨hp12, hp13, -⟩ := hw3
    have hP : va_P (dC, dI) vwCl [(mro, .inl (cI, 3600, .inl mrof)), (mle, .inl (cI, 300, .inl mlef)), (m0, .inr (8, [.int mth, .int mst, .ref mp, .int mln, .ref mk, .int mts, .ref mti, .ref mtw, .ref mi, .int mmn, .ref mpo, .int mpd_4, .ref mpi, .int mpl_5, .int mcp_6, .ref mre, .ref mnn, .ref mwo, .ref mga, .ref mlo, .ref mro, .ref mle, .ref mra, .int mme, .ref mha, .int mch, .int mtm, .int mgo, .int mwa, .ref mba, .int mbl, .ref mon])), (mk, .inl (cI, 4, .inl mkf)), (mti, .inl (cI, 32, .inl mtif)), (mtw, .inl (cI, 8, .inl mtwf)), (mi, .inl (cI, 12, .inl mif)), (mpo, .inl (cI, 12, .inl mpof_7)), (mpi, .inl (cI, 26, .inl mpif_8)), (mre, .inl (cI, 12, .inl mref_9)), (mnn, .inl (cI, 4, .inl mnnf_10)), (mwo, .inl (cJ, 12, .inr (.inl mwof_11)))] H := hP
    have hD : va_D A [(mro, .inl (cI, 3600, .inl mrof)), (mle, .inl (cI, 300, .inl mlef)), (m0, .inr (8, [.int mth, .int mst, .ref mp, .int mln, .ref mk, .int mts, .ref mti, .ref mtw, .ref mi, .int mmn, .ref mpo, .int mpd_4, .ref mpi, .int mpl_5, .int mcp_6, .ref mre, .ref mnn, .ref mwo, .ref mga, .ref mlo, .ref mro, .ref mle, .ref mra, .int mme, .ref mha, .int mch, .int mtm, .int mgo, .int mwa, .ref mba, .int mbl, .ref mon])), (mk, .inl (cI, 4, .inl mkf)), (mti, .inl (cI, 32, .inl mtif)), (mtw, .inl (cI, 8, .inl mtwf)), (mi, .inl (cI, 12, .inl mif)), (mpo, .inl (cI, 12, .inl mpof_7)), (mpi, .inl (cI, 26, .inl mpif_8)), (mre, .inl (cI, 12, .inl mref_9)), (mnn, .inl (cI, 4, .inl mnnf_10)), (mwo, .inl (cJ, 12, .inr (.inl mwof_11)))] := hD
    refine lv_if_ne (tgt := 15) hx hb dX9_look_11 (by decide) (fun c14 => ?_) (fun c14 => ?_)
    · have c14' := I_ne c14
      refine lv_iconst (v := 0) hx hb dX9_look_15 (by decide) ?_
      refine lv_istore_n (lv' := [(1, .int 0), (0, .ref m0)]) hx hb dX9_look_16 rfl hl (by decide) rfl (fun ls hl => ?_)
      have J17 : ∀ (n : Nat) (L1_17 : Int32), (0 ≤ L1_17.toInt ∧ L1_17.toInt ≤ 300) → (300 - L1_17.toInt) < (n : Int) → ∀ (H : Heap) (locs : List Loc) (ls : Array Slot), va_P (dC, dI) vwCl [(mro, .inl (cI, 3600, .inl mrof)), (mle, .inl (cI, 300, .inl mlef)), (m0, .inr (8, [.int mth, .int mst, .ref mp, .int mln, .ref mk, .int mts, .ref mti, .ref mtw, .ref mi, .int mmn, .ref mpo, .int mpd_4, .ref mpi, .int mpl_5, .int mcp_6, .ref mre, .ref mnn, .ref mwo, .ref mga, .ref mlo, .ref mro, .ref mle, .ref mra, .int mme, .ref mha, .int mch, .int mtm, .int mgo, .int mwa, .ref mba, .int mbl, .ref mon])), (mk, .inl (cI, 4, .inl mkf)), (mti, .inl (cI, 32, .inl mtif)), (mtw, .inl (cI, 8, .inl mtwf)), (mi, .inl (cI, 12, .inl mif)), (mpo, .inl (cI, 12, .inl mpof_7)), (mpi, .inl (cI, 26, .inl mpif_8)), (mre, .inl (cI, 12, .inl mref_9)), (mnn, .inl (cI, 4, .inl mnnf_10)), (mwo, .inl (cJ, 12, .inr (.inl mwof_11)))] H → va_D A [(mro, .inl (cI, 3600, .inl mrof)), (mle, .inl (cI, 300, .inl mlef)), (m0, .inr (8, [.int mth, .int mst, .ref mp, .int mln, .ref mk, .int mts, .ref mti, .ref mtw, .ref mi, .int mmn, .ref mpo, .int mpd_4, .ref mpi, .int mpl_5, .int mcp_6, .ref mre, .ref mnn, .ref mwo, .ref mga, .ref mlo, .ref mro, .ref mle, .ref mra, .int mme, .ref mha, .int mch, .int mtm, .int mgo, .int mwa, .ref mba, .int mbl, .ref mon])), (mk, .inl (cI, 4, .inl mkf)), (mti, .inl (cI, 32, .inl mtif)), (mtw, .inl (cI, 8, .inl mtwf)), (mi, .inl (cI, 12, .inl mif)), (mpo, .inl (cI, 12, .inl mpof_7)), (mpi, .inl (cI, 26, .inl mpif_8)), (mre, .inl (cI, 12, .inl mref_9)), (mnn, .inl (cI, 4, .inl mnnf_10)), (mwo, .inl (cJ, 12, .inr (.inl mwof_11)))] → va_S A s.heap H locs → lv_has ls 4 [(1, .int L1_17), (0, .ref m0)] → W p l e { frames := 6, cells := 0, slots := 0, locals := 126 } s m (List.toArray [.ref m0]) below meth c H locs 0 0 Q (F0 m 17 ls []) := by
        intro n
        induction n with
        | zero =>
          intro L1_17 hi0_17 hm
          exact absurd hm (by omega)
        | succ n ih17 =>
          intro L1_17 hi0_17 hm17 H locs ls hP hD hS hl
          refine lv_iload_n hx hb dX9_look_17 rfl (lv_at hl 0 rfl) ?_
          refine lv_aload_n hx hb dX9_look_18 rfl (lv_at hl 1 rfl) ?_
          refine va_get (D := (dC, dI)) (ci := 8) (v := .int mme) (C := RX9) (T := TX9) (N := 32) hx hb hts inG_X9 hown hK hP 2 rfl rfl 23 (by decide) (hts _ fl_X9_174) (fun _ h9 => h9) rfl dX9_look_19 ?_
          refine lv_icmp_ge (tgt := 101) hx hb dX9_look_22 (by decide) (fun c15 => ?_) (fun c15 => ?_)
          · have c15' := I_le c15
            refine lv_aload_n hx hb dX9_look_101 rfl (lv_at hl 1 rfl) ?_
            refine va_get (D := (dC, dI)) (ci := 8) (v := .int mme) (C := RX9) (T := TX9) (N := 32) hx hb hts inG_X9 hown hK hP 2 rfl rfl 23 (by decide) (hts _ fl_X9_174) (fun _ h9 => h9) rfl dX9_look_102 ?_
            refine lv_sipush (v := 300) hx hb dX9_look_105 (by decide) ?_
            refine lv_icmp_ne (tgt := 117) hx hb dX9_look_108 (by decide) (fun c16 => ?_) (fun c16 => ?_)
            · have c16' := I_ne c16
              refine lv_iconst (v := 0) hx hb dX9_look_117 (by decide) ?_
              refine lv_istore_n (lv' := [(1, .int 0), (0, .ref m0)]) hx hb dX9_look_118 rfl hl (by decide) rfl (fun ls hl => ?_)
              have J119 : ∀ (n : Nat) (L1_119 : Int32) (mrof_119 : Nat → Int32), (0 ≤ L1_119.toInt ∧ L1_119.toInt ≤ 12) → (12 - L1_119.toInt) < (n : Int) → ∀ (H : Heap) (locs : List Loc) (ls : Array Slot), va_P (dC, dI) vwCl [(mro, .inl (cI, 3600, .inl mrof_119)), (mle, .inl (cI, 300, .inl mlef)), (m0, .inr (8, [.int mth, .int mst, .ref mp, .int mln, .ref mk, .int mts, .ref mti, .ref mtw, .ref mi, .int mmn, .ref mpo, .int mpd_4, .ref mpi, .int mpl_5, .int mcp_6, .ref mre, .ref mnn, .ref mwo, .ref mga, .ref mlo, .ref mro, .ref mle, .ref mra, .int mme, .ref mha, .int mch, .int mtm, .int mgo, .int mwa, .ref mba, .int mbl, .ref mon])), (mk, .inl (cI, 4, .inl mkf)), (mti, .inl (cI, 32, .inl mtif)), (mtw, .inl (cI, 8, .inl mtwf)), (mi, .inl (cI, 12, .inl mif)), (mpo, .inl (cI, 12, .inl mpof_7)), (mpi, .inl (cI, 26, .inl mpif_8)), (mre, .inl (cI, 12, .inl mref_9)), (mnn, .inl (cI, 4, .inl mnnf_10)), (mwo, .inl (cJ, 12, .inr (.inl mwof_11)))] H → va_D A [(mro, .inl (cI, 3600, .inl mrof_119)), (mle, .inl (cI, 300, .inl mlef)), (m0, .inr (8, [.int mth, .int mst, .ref mp, .int mln, .ref mk, .int mts, .ref mti, .ref mtw, .ref mi, .int mmn, .ref mpo, .int mpd_4, .ref mpi, .int mpl_5, .int mcp_6, .ref mre, .ref mnn, .ref mwo, .ref mga, .ref mlo, .ref mro, .ref mle, .ref mra, .int mme, .ref mha, .int mch, .int mtm, .int mgo, .int mwa, .ref mba, .int mbl, .ref mon])), (mk, .inl (cI, 4, .inl mkf)), (mti, .inl (cI, 32, .inl mtif)), (mtw, .inl (cI, 8, .inl mtwf)), (mi, .inl (cI, 12, .inl mif)), (mpo, .inl (cI, 12, .inl mpof_7)), (mpi, .inl (cI, 26, .inl mpif_8)), (mre, .inl (cI, 12, .inl mref_9)), (mnn, .inl (cI, 4, .inl mnnf_10)), (mwo, .inl (cJ, 12, .inr (.inl mwof_11)))] → va_S A s.heap H locs → lv_has ls 4 [(1, .int L1_119), (0, .ref m0)] → W p l e { frames := 6, cells := 0, slots := 0, locals := 126 } s m (List.toArray [.ref m0]) below meth c H locs 0 0 Q (F0 m 119 ls []) := by
                intro n
                induction n with
                | zero =>
                  intro L1_119 mrof_119 hi0_119 hm
                  exact absurd hm (by omega)
                | succ n ih119 =>
                  intro L1_119 mrof_119 hi0_119 hm119 H locs ls hP hD hS hl
                  refine lv_iload_n hx hb dX9_look_119 rfl (lv_at hl 0 rfl) ?_
                  refine lv_aload_n hx hb dX9_look_120 rfl (lv_at hl 1 rfl) ?_
                  refine va_get (D := (dC, dI)) (ci := 8) (v := .int mmn) (C := RX9) (T := TX9) (N := 32) hx hb hts inG_X9 hown hK hP 2 rfl rfl 9 (by decide) (hts _ fl_X9_114) (fun _ h9 => h9) rfl dX9_look_121 ?_
                  refine lv_icmp_ge (tgt := 153) hx hb dX9_look_124 (by decide) (fun c17 => ?_) (fun c17 => ?_)
                  · have c17' := I_le c17
                    refine lv_aload_n hx hb dX9_look_153 rfl (lv_at hl 1 rfl) ?_
                    refine va_get (D := (dC, dI)) (ci := 8) (v := .ref mle) (C := RX9) (T := TX9) (N := 32) hx hb hts inG_X9 hown hK hP 2 rfl rfl 21 (by decide) (hts _ fl_X9_50) (fun _ h9 => h9) rfl dX9_look_154 ?_
                    refine lv_aload_n hx hb dX9_look_157 rfl (lv_at hl 1 rfl) ?_
                    refine va_get (D := (dC, dI)) (ci := 8) (v := .int mme) (C := RX9) (T := TX9) (N := 32) hx hb hts inG_X9 hown hK hP 2 rfl rfl 23 (by decide) (hts _ fl_X9_174) (fun _ h9 => h9) rfl dX9_look_158 ?_
                    refine lv_aload_n hx hb dX9_look_161 rfl (lv_at hl 1 rfl) ?_
                    refine va_get (D := (dC, dI)) (ci := 8) (v := .int mmn) (C := RX9) (T := TX9) (N := 32) hx hb hts inG_X9 hown hK hP 2 rfl rfl 9 (by decide) (hts _ fl_X9_114) (fun _ h9 => h9) rfl dX9_look_162 ?_
                    refine va_iast (t0 := 0) hx hb hK hP hD hS 1 (ha := rfl) (ht := rfl) (I_in (by omega) (by omega)) dX9_look_165 (fun H locs hP hD hS => ?_)
                    have hP : va_P (dC, dI) vwCl [(mro, .inl (cI, 3600, .inl mrof_119)), (mle, .inl (cI, 300, .inl (upd mlef mme.toNatClampNeg mmn))), (m0, .inr (8, [.int mth, .int mst, .ref mp, .int mln, .ref mk, .int mts, .ref mti, .ref mtw, .ref mi, .int mmn, .ref mpo, .int mpd_4, .ref mpi, .int mpl_5, .int mcp_6, .ref mre, .ref mnn, .ref mwo, .ref mga, .ref mlo, .ref mro, .ref mle, .ref mra, .int mme, .ref mha, .int mch, .int mtm, .int mgo, .int mwa, .ref mba, .int mbl, .ref mon])), (mk, .inl (cI, 4, .inl mkf)), (mti, .inl (cI, 32, .inl mtif)), (mtw, .inl (cI, 8, .inl mtwf)), (mi, .inl (cI, 12, .inl mif)), (mpo, .inl (cI, 12, .inl mpof_7)), (mpi, .inl (cI, 26, .inl mpif_8)), (mre, .inl (cI, 12, .inl mref_9)), (mnn, .inl (cI, 4, .inl mnnf_10)), (mwo, .inl (cJ, 12, .inr (.inl mwof_11)))] H := hP
                    have hD : va_D A [(mro, .inl (cI, 3600, .inl mrof_119)), (mle, .inl (cI, 300, .inl (upd mlef mme.toNatClampNeg mmn))), (m0, .inr (8, [.int mth, .int mst, .ref mp, .int mln, .ref mk, .int mts, .ref mti, .ref mtw, .ref mi, .int mmn, .ref mpo, .int mpd_4, .ref mpi, .int mpl_5, .int mcp_6, .ref mre, .ref mnn, .ref mwo, .ref mga, .ref mlo, .ref mro, .ref mle, .ref mra, .int mme, .ref mha, .int mch, .int mtm, .int mgo, .int mwa, .ref mba, .int mbl, .ref mon])), (mk, .inl (cI, 4, .inl mkf)), (mti, .inl (cI, 32, .inl mtif)), (mtw, .inl (cI, 8, .inl mtwf)), (mi, .inl (cI, 12, .inl mif)), (mpo, .inl (cI, 12, .inl mpof_7)), (mpi, .inl (cI, 26, .inl mpif_8)), (mre, .inl (cI, 12, .inl mref_9)), (mnn, .inl (cI, 4, .inl mnnf_10)), (mwo, .inl (cJ, 12, .inr (.inl mwof_11)))] := hD
                    generalize ef18 : upd mlef mme.toNatClampNeg mmn = f18 at hP hD
                    have ha19 : ∀ j : Nat, 0 ≤ (f18 j).toInt ∧ (f18 j).toInt ≤ 12 := by rw [← ef18]; exact upd_all (P := fun z => 0 ≤ z.toInt ∧ z.toInt ≤ 12) hq5 (by first | assumption | omega | (refine ⟨?_, ?_⟩ <;> omega)) _
                    refine lv_aload_n hx hb dX9_look_166 rfl (lv_at hl 1 rfl) ?_
                    refine lv_dup hx hb dX9_look_167 rfl ?_
                    refine va_get (D := (dC, dI)) (ci := 8) (v := .int mme) (C := RX9) (T := TX9) (N := 32) hx hb hts inG_X9 hown hK hP 2 rfl rfl 23 (by decide) (hts _ fl_X9_174) (fun _ h9 => h9) rfl dX9_look_168 ?_
                    refine lv_iconst (v := 1) hx hb dX9_look_171 (by decide) ?_
                    refine lv_iadd hx hb dX9_look_172 ?_
                    refine lv_topi (fun v20 ev20 => ?_)
                    try have hv20 : v20.toInt = mme.toInt + (1 : Int32).toInt := I_addx ev20 (by omega)
                    refine va_put (D := (dC, dI)) (ci := 8) (v := .int v20) (ty := .int) (C := RX9) (T := TX9) (N := 32) hx hb hts inG_X9 tyX9 tyX9_ok nmX9 hown hK hP hD hS 2 rfl rfl 23 (by decide) (hts _ fl_X9_174) (fun _ h9 => h9) rfl (by decide +kernel) rfl rfl (Nat.le_of_ble_eq_true rfl) dX9_look_173 (fun H locs hP hD hS => ?_)
                    have hP : va_P (dC, dI) vwCl [(mro, .inl (cI, 3600, .inl mrof_119)), (mle, .inl (cI, 300, .inl f18)), (m0, .inr (8, [.int mth, .int mst, .ref mp, .int mln, .ref mk, .int mts, .ref mti, .ref mtw, .ref mi, .int mmn, .ref mpo, .int mpd_4, .ref mpi, .int mpl_5, .int mcp_6, .ref mre, .ref mnn, .ref mwo, .ref mga, .ref mlo, .ref mro, .ref mle, .ref mra, .int v20, .ref mha, .int mch, .int mtm, .int mgo, .int mwa, .ref mba, .int mbl, .ref mon])), (mk, .inl (cI, 4, .inl mkf)), (mti, .inl (cI, 32, .inl mtif)), (mtw, .inl (cI, 8, .inl mtwf)), (mi, .inl (cI, 12, .inl mif)), (mpo, .inl (cI, 12, .inl mpof_7)), (mpi, .inl (cI, 26, .inl mpif_8)), (mre, .inl (cI, 12, .inl mref_9)), (mnn, .inl (cI, 4, .inl mnnf_10)), (mwo, .inl (cJ, 12, .inr (.inl mwof_11)))] H := hP
                    have hD : va_D A [(mro, .inl (cI, 3600, .inl mrof_119)), (mle, .inl (cI, 300, .inl f18)), (m0, .inr (8, [.int mth, .int mst, .ref mp, .int mln, .ref mk, .int mts, .ref mti, .ref mtw, .ref mi, .int mmn, .ref mpo, .int mpd_4, .ref mpi, .int mpl_5, .int mcp_6, .ref mre, .ref mnn, .ref mwo, .ref mga, .ref mlo, .ref mro, .ref mle, .ref mra, .int v20, .ref mha, .int mch, .int mtm, .int mgo, .int mwa, .ref mba, .int mbl, .ref mon])), (mk, .inl (cI, 4, .inl mkf)), (mti, .inl (cI, 32, .inl mtif)), (mtw, .inl (cI, 8, .inl mtwf)), (mi, .inl (cI, 12, .inl mif)), (mpo, .inl (cI, 12, .inl mpof_7)), (mpi, .inl (cI, 26, .inl mpif_8)), (mre, .inl (cI, 12, .inl mref_9)), (mnn, .inl (cI, 4, .inl mnnf_10)), (mwo, .inl (cJ, 12, .inr (.inl mwof_11)))] := hD
                    exact hret (mpd_4, mpl_5, mcp_6, mpof_7, mpif_8, mref_9, mnnf_10, mwof_11, v20, mtm, mrof_119, f18) H locs 176 ls ⟨(show mcp_6.toInt = 0 ∨ mcp_6.toInt = 1 from by first | rfl | assumption | omega), (show 0 ≤ v20.toInt ∧ v20.toInt ≤ 300 from by first | rfl | assumption | omega), (show mtm.toInt = 0 ∨ mtm.toInt = 1 from by first | rfl | assumption | omega), (show ∀ j : Nat, 0 ≤ (f18 j).toInt ∧ (f18 j).toInt ≤ 12 from by first | rfl | assumption | omega), trivial⟩ (hP.sub (ws' := [(m0, .inr (8, [.int mth, .int mst, .ref mp, .int mln, .ref mk, .int mts, .ref mti, .ref mtw, .ref mi, .int mmn, .ref mpo, .int mpd_4, .ref mpi, .int mpl_5, .int mcp_6, .ref mre, .ref mnn, .ref mwo, .ref mga, .ref mlo, .ref mro, .ref mle, .ref mra, .int v20, .ref mha, .int mch, .int mtm, .int mgo, .int mwa, .ref mba, .int mbl, .ref mon])), (mk, .inl (cI, 4, .inl mkf)), (mti, .inl (cI, 32, .inl mtif)), (mtw, .inl (cI, 8, .inl mtwf)), (mi, .inl (cI, 12, .inl mif)), (mpo, .inl (cI, 12, .inl mpof_7)), (mpi, .inl (cI, 26, .inl mpif_8)), (mre, .inl (cI, 12, .inl mref_9)), (mnn, .inl (cI, 4, .inl mnnf_10)), (mwo, .inl (cJ, 12, .inr (.inl mwof_11))), (mro, .inl (cI, 3600, .inl mrof_119)), (mle, .inl (cI, 300, .inl f18))]) [2, 3, 4, 5, 6, 7, 8, 9, 10, 11, 0, 1] rfl) (hD.sub (ws' := [(m0, .inr (8, [.int mth, .int mst, .ref mp, .int mln, .ref mk, .int mts, .ref mti, .ref mtw, .ref mi, .int mmn, .ref mpo, .int mpd_4, .ref mpi, .int mpl_5, .int mcp_6, .ref mre, .ref mnn, .ref mwo, .ref mga, .ref mlo, .ref mro, .ref mle, .ref mra, .int v20, .ref mha, .int mch, .int mtm, .int mgo, .int mwa, .ref mba, .int mbl, .ref mon])), (mk, .inl (cI, 4, .inl mkf)), (mti, .inl (cI, 32, .inl mtif)), (mtw, .inl (cI, 8, .inl mtwf)), (mi, .inl (cI, 12, .inl mif)), (mpo, .inl (cI, 12, .inl mpof_7)), (mpi, .inl (cI, 26, .inl mpif_8)), (mre, .inl (cI, 12, .inl mref_9)), (mnn, .inl (cI, 4, .inl mnnf_10)), (mwo, .inl (cJ, 12, .inr (.inl mwof_11))), (mro, .inl (cI, 3600, .inl mrof_119)), (mle, .inl (cI, 300, .inl f18))]) [2, 3, 4, 5, 6, 7, 8, 9, 10, 11, 0, 1] (by decide) rfl) hS dX9_look_176
                  · have c17' := I_nle c17
                    refine lv_aload_n hx hb dX9_look_127 rfl (lv_at hl 1 rfl) ?_
                    refine va_get (D := (dC, dI)) (ci := 8) (v := .ref mro) (C := RX9) (T := TX9) (N := 32) hx hb hts inG_X9 hown hK hP 2 rfl rfl 20 (by decide) (hts _ fl_X9_47) (fun _ h9 => h9) rfl dX9_look_128 ?_
                    refine lv_bipush (v := 12) hx hb dX9_look_131 (by decide) ?_
                    refine lv_aload_n hx hb dX9_look_133 rfl (lv_at hl 1 rfl) ?_
                    refine va_get (D := (dC, dI)) (ci := 8) (v := .int mme) (C := RX9) (T := TX9) (N := 32) hx hb hts inG_X9 hown hK hP 2 rfl rfl 23 (by decide) (hts _ fl_X9_174) (fun _ h9 => h9) rfl dX9_look_134 ?_
                    refine lv_imul hx hb dX9_look_137 ?_
                    refine lv_topi (fun v21 ev21 => ?_)
                    try have hv21 := I_mulxl (12) ev21 (by decide) (by omega)
                    refine lv_iload_n hx hb dX9_look_138 rfl (lv_at hl 0 rfl) ?_
                    refine lv_iadd hx hb dX9_look_139 ?_
                    refine lv_topi (fun v22 ev22 => ?_)
                    try have hv22 : v22.toInt = v21.toInt + L1_119.toInt := I_addx ev22 (by omega)
                    refine lv_aload_n hx hb dX9_look_140 rfl (lv_at hl 1 rfl) ?_
                    refine va_get (D := (dC, dI)) (ci := 8) (v := .ref mi) (C := RX9) (T := TX9) (N := 32) hx hb hts inG_X9 hown hK hP 2 rfl rfl 8 (by decide) (hts _ fl_X9_22) (fun _ h9 => h9) rfl dX9_look_141 ?_
                    refine lv_iload_n hx hb dX9_look_144 rfl (lv_at hl 0 rfl) ?_
                    refine va_iald (t0 := 0) hx hb hK hP 6 (ha := rfl) (ht := rfl) (I_in (by omega) (by omega)) dX9_look_145 ?_
                    refine lv_topi (fun v23 ev23 => ?_)
                    refine va_iast (t0 := 0) hx hb hK hP hD hS 0 (ha := rfl) (ht := rfl) (I_in (by omega) (by omega)) dX9_look_146 (fun H locs hP hD hS => ?_)
                    have hP : va_P (dC, dI) vwCl [(mro, .inl (cI, 3600, .inl (upd mrof_119 v22.toNatClampNeg v23))), (mle, .inl (cI, 300, .inl mlef)), (m0, .inr (8, [.int mth, .int mst, .ref mp, .int mln, .ref mk, .int mts, .ref mti, .ref mtw, .ref mi, .int mmn, .ref mpo, .int mpd_4, .ref mpi, .int mpl_5, .int mcp_6, .ref mre, .ref mnn, .ref mwo, .ref mga, .ref mlo, .ref mro, .ref mle, .ref mra, .int mme, .ref mha, .int mch, .int mtm, .int mgo, .int mwa, .ref mba, .int mbl, .ref mon])), (mk, .inl (cI, 4, .inl mkf)), (mti, .inl (cI, 32, .inl mtif)), (mtw, .inl (cI, 8, .inl mtwf)), (mi, .inl (cI, 12, .inl mif)), (mpo, .inl (cI, 12, .inl mpof_7)), (mpi, .inl (cI, 26, .inl mpif_8)), (mre, .inl (cI, 12, .inl mref_9)), (mnn, .inl (cI, 4, .inl mnnf_10)), (mwo, .inl (cJ, 12, .inr (.inl mwof_11)))] H := hP
                    have hD : va_D A [(mro, .inl (cI, 3600, .inl (upd mrof_119 v22.toNatClampNeg v23))), (mle, .inl (cI, 300, .inl mlef)), (m0, .inr (8, [.int mth, .int mst, .ref mp, .int mln, .ref mk, .int mts, .ref mti, .ref mtw, .ref mi, .int mmn, .ref mpo, .int mpd_4, .ref mpi, .int mpl_5, .int mcp_6, .ref mre, .ref mnn, .ref mwo, .ref mga, .ref mlo, .ref mro, .ref mle, .ref mra, .int mme, .ref mha, .int mch, .int mtm, .int mgo, .int mwa, .ref mba, .int mbl, .ref mon])), (mk, .inl (cI, 4, .inl mkf)), (mti, .inl (cI, 32, .inl mtif)), (mtw, .inl (cI, 8, .inl mtwf)), (mi, .inl (cI, 12, .inl mif)), (mpo, .inl (cI, 12, .inl mpof_7)), (mpi, .inl (cI, 26, .inl mpif_8)), (mre, .inl (cI, 12, .inl mref_9)), (mnn, .inl (cI, 4, .inl mnnf_10)), (mwo, .inl (cJ, 12, .inr (.inl mwof_11)))] := hD
                    generalize ef24 : upd mrof_119 v22.toNatClampNeg v23 = f24 at hP hD
                    obtain ⟨v25, ev25⟩ : ∃ y : Int32, y = L1_119 + 1 := ⟨_, rfl⟩
                    try have hv25 : v25.toInt = L1_119.toInt + (1 : Int32).toInt := I_addx ev25 (by omega)
                    refine lv_iinc (v := v25) (lv' := [(1, .int v25), (0, .ref m0)]) hx hb dX9_look_147 hl (k := 0) rfl (by rw [ev25]; rfl) (by decide) rfl (fun ls hl => ?_)
                    refine lv_goto (tgt := 119) hx hb dX9_look_150 (by decide) ?_
                    exact ih119 v25 f24 (by first | assumption | omega) (by omega) H locs ls hP hD hS hl
              exact J119 ((12 - (0 : Int32).toInt).toNat + 1) 0 mrof (by first | assumption | omega) (by omega) H locs ls hP hD hS hl
            · have c16' := I_eq c16
              refine lv_aload_n hx hb dX9_look_111 rfl (lv_at hl 1 rfl) ?_
              refine lv_iconst (v := 1) hx hb dX9_look_112 (by decide) ?_
              refine va_put (D := (dC, dI)) (ci := 8) (v := .int 1) (ty := .boolean) (C := RX9) (T := TX9) (N := 32) hx hb hts inG_X9 tyX9 tyX9_ok nmX9 hown hK hP hD hS 2 rfl rfl 26 (by decide) (hts _ fl_X9_167) (fun _ h9 => h9) rfl (by decide +kernel) (by first | rfl | exact I_narz (by omega)) rfl (Nat.le_of_ble_eq_true rfl) dX9_look_113 (fun H locs hP hD hS => ?_)
              have hP : va_P (dC, dI) vwCl [(mro, .inl (cI, 3600, .inl mrof)), (mle, .inl (cI, 300, .inl mlef)), (m0, .inr (8, [.int mth, .int mst, .ref mp, .int mln, .ref mk, .int mts, .ref mti, .ref mtw, .ref mi, .int mmn, .ref mpo, .int mpd_4, .ref mpi, .int mpl_5, .int mcp_6, .ref mre, .ref mnn, .ref mwo, .ref mga, .ref mlo, .ref mro, .ref mle, .ref mra, .int mme, .ref mha, .int mch, .int 1, .int mgo, .int mwa, .ref mba, .int mbl, .ref mon])), (mk, .inl (cI, 4, .inl mkf)), (mti, .inl (cI, 32, .inl mtif)), (mtw, .inl (cI, 8, .inl mtwf)), (mi, .inl (cI, 12, .inl mif)), (mpo, .inl (cI, 12, .inl mpof_7)), (mpi, .inl (cI, 26, .inl mpif_8)), (mre, .inl (cI, 12, .inl mref_9)), (mnn, .inl (cI, 4, .inl mnnf_10)), (mwo, .inl (cJ, 12, .inr (.inl mwof_11)))] H := hP
              have hD : va_D A [(mro, .inl (cI, 3600, .inl mrof)), (mle, .inl (cI, 300, .inl mlef)), (m0, .inr (8, [.int mth, .int mst, .ref mp, .int mln, .ref mk, .int mts, .ref mti, .ref mtw, .ref mi, .int mmn, .ref mpo, .int mpd_4, .ref mpi, .int mpl_5, .int mcp_6, .ref mre, .ref mnn, .ref mwo, .ref mga, .ref mlo, .ref mro, .ref mle, .ref mra, .int mme, .ref mha, .int mch, .int 1, .int mgo, .int mwa, .ref mba, .int mbl, .ref mon])), (mk, .inl (cI, 4, .inl mkf)), (mti, .inl (cI, 32, .inl mtif)), (mtw, .inl (cI, 8, .inl mtwf)), (mi, .inl (cI, 12, .inl mif)), (mpo, .inl (cI, 12, .inl mpof_7)), (mpi, .inl (cI, 26, .inl mpif_8)), (mre, .inl (cI, 12, .inl mref_9)), (mnn, .inl (cI, 4, .inl mnnf_10)), (mwo, .inl (cJ, 12, .inr (.inl mwof_11)))] := hD
              exact hret (mpd_4, mpl_5, mcp_6, mpof_7, mpif_8, mref_9, mnnf_10, mwof_11, mme, 1, mrof, mlef) H locs 116 ls ⟨(show mcp_6.toInt = 0 ∨ mcp_6.toInt = 1 from by first | rfl | assumption | omega), (show 0 ≤ mme.toInt ∧ mme.toInt ≤ 300 from by first | rfl | assumption | omega), (show (1 : Int32).toInt = 0 ∨ (1 : Int32).toInt = 1 from by first | rfl | assumption | omega), (show ∀ j : Nat, 0 ≤ (mlef j).toInt ∧ (mlef j).toInt ≤ 12 from by first | rfl | assumption | omega), trivial⟩ (hP.sub (ws' := [(m0, .inr (8, [.int mth, .int mst, .ref mp, .int mln, .ref mk, .int mts, .ref mti, .ref mtw, .ref mi, .int mmn, .ref mpo, .int mpd_4, .ref mpi, .int mpl_5, .int mcp_6, .ref mre, .ref mnn, .ref mwo, .ref mga, .ref mlo, .ref mro, .ref mle, .ref mra, .int mme, .ref mha, .int mch, .int 1, .int mgo, .int mwa, .ref mba, .int mbl, .ref mon])), (mk, .inl (cI, 4, .inl mkf)), (mti, .inl (cI, 32, .inl mtif)), (mtw, .inl (cI, 8, .inl mtwf)), (mi, .inl (cI, 12, .inl mif)), (mpo, .inl (cI, 12, .inl mpof_7)), (mpi, .inl (cI, 26, .inl mpif_8)), (mre, .inl (cI, 12, .inl mref_9)), (mnn, .inl (cI, 4, .inl mnnf_10)), (mwo, .inl (cJ, 12, .inr (.inl mwof_11))), (mro, .inl (cI, 3600, .inl mrof)), (mle, .inl (cI, 300, .inl mlef))]) [2, 3, 4, 5, 6, 7, 8, 9, 10, 11, 0, 1] rfl) (hD.sub (ws' := [(m0, .inr (8, [.int mth, .int mst, .ref mp, .int mln, .ref mk, .int mts, .ref mti, .ref mtw, .ref mi, .int mmn, .ref mpo, .int mpd_4, .ref mpi, .int mpl_5, .int mcp_6, .ref mre, .ref mnn, .ref mwo, .ref mga, .ref mlo, .ref mro, .ref mle, .ref mra, .int mme, .ref mha, .int mch, .int 1, .int mgo, .int mwa, .ref mba, .int mbl, .ref mon])), (mk, .inl (cI, 4, .inl mkf)), (mti, .inl (cI, 32, .inl mtif)), (mtw, .inl (cI, 8, .inl mtwf)), (mi, .inl (cI, 12, .inl mif)), (mpo, .inl (cI, 12, .inl mpof_7)), (mpi, .inl (cI, 26, .inl mpif_8)), (mre, .inl (cI, 12, .inl mref_9)), (mnn, .inl (cI, 4, .inl mnnf_10)), (mwo, .inl (cJ, 12, .inr (.inl mwof_11))), (mro, .inl (cI, 3600, .inl mrof)), (mle, .inl (cI, 300, .inl mlef))]) [2, 3, 4, 5, 6, 7, 8, 9, 10, 11, 0, 1] (by decide) rfl) hS dX9_look_116
          · have c15' := I_nle c15
            refine lv_aload_n hx hb dX9_look_25 rfl (lv_at hl 1 rfl) ?_
            refine va_get (D := (dC, dI)) (ci := 8) (v := .ref mle) (C := RX9) (T := TX9) (N := 32) hx hb hts inG_X9 hown hK hP 2 rfl rfl 21 (by decide) (hts _ fl_X9_50) (fun _ h9 => h9) rfl dX9_look_26 ?_
            refine lv_iload_n hx hb dX9_look_29 rfl (lv_at hl 0 rfl) ?_
            refine va_iald (t0 := 0) hx hb hK hP 1 (ha := rfl) (ht := rfl) (I_in (by omega) (by omega)) dX9_look_30 ?_
            refine lv_topi (fun v26 ev26 => ?_)
            have fv26 := hq5 L1_17.toNatClampNeg
            rw [← ev26] at fv26
            refine lv_aload_n hx hb dX9_look_31 rfl (lv_at hl 1 rfl) ?_
            refine va_get (D := (dC, dI)) (ci := 8) (v := .int mmn) (C := RX9) (T := TX9) (N := 32) hx hb hts inG_X9 hown hK hP 2 rfl rfl 9 (by decide) (hts _ fl_X9_114) (fun _ h9 => h9) rfl dX9_look_32 ?_
            refine lv_icmp_ne (tgt := 42) hx hb dX9_look_35 (by decide) (fun c27 => ?_) (fun c27 => ?_)
            · have c27' := I_ne c27
              refine lv_iconst (v := 0) hx hb dX9_look_42 (by decide) ?_
              refine lv_istore_n (lv' := [(2, .int 0), (1, .int L1_17), (0, .ref m0)]) hx hb dX9_look_43 rfl hl (by decide) rfl (fun ls hl => ?_)
              refine lv_iconst (v := 0) hx hb dX9_look_44 (by decide) ?_
              refine lv_istore_n (lv' := [(3, .int 0), (2, .int 0), (1, .int L1_17), (0, .ref m0)]) hx hb dX9_look_45 rfl hl (by decide) rfl (fun ls hl => ?_)
              have J46 : ∀ (n : Nat) (L3_46 : Int32) (L2_46 : Int32), (0 ≤ L3_46.toInt ∧ L3_46.toInt ≤ 12) → (12 - L3_46.toInt) < (n : Int) → ∀ (H : Heap) (locs : List Loc) (ls : Array Slot), va_P (dC, dI) vwCl [(mro, .inl (cI, 3600, .inl mrof)), (mle, .inl (cI, 300, .inl mlef)), (m0, .inr (8, [.int mth, .int mst, .ref mp, .int mln, .ref mk, .int mts, .ref mti, .ref mtw, .ref mi, .int mmn, .ref mpo, .int mpd_4, .ref mpi, .int mpl_5, .int mcp_6, .ref mre, .ref mnn, .ref mwo, .ref mga, .ref mlo, .ref mro, .ref mle, .ref mra, .int mme, .ref mha, .int mch, .int mtm, .int mgo, .int mwa, .ref mba, .int mbl, .ref mon])), (mk, .inl (cI, 4, .inl mkf)), (mti, .inl (cI, 32, .inl mtif)), (mtw, .inl (cI, 8, .inl mtwf)), (mi, .inl (cI, 12, .inl mif)), (mpo, .inl (cI, 12, .inl mpof_7)), (mpi, .inl (cI, 26, .inl mpif_8)), (mre, .inl (cI, 12, .inl mref_9)), (mnn, .inl (cI, 4, .inl mnnf_10)), (mwo, .inl (cJ, 12, .inr (.inl mwof_11)))] H → va_D A [(mro, .inl (cI, 3600, .inl mrof)), (mle, .inl (cI, 300, .inl mlef)), (m0, .inr (8, [.int mth, .int mst, .ref mp, .int mln, .ref mk, .int mts, .ref mti, .ref mtw, .ref mi, .int mmn, .ref mpo, .int mpd_4, .ref mpi, .int mpl_5, .int mcp_6, .ref mre, .ref mnn, .ref mwo, .ref mga, .ref mlo, .ref mro, .ref mle, .ref mra, .int mme, .ref mha, .int mch, .int mtm, .int mgo, .int mwa, .ref mba, .int mbl, .ref mon])), (mk, .inl (cI, 4, .inl mkf)), (mti, .inl (cI, 32, .inl mtif)), (mtw, .inl (cI, 8, .inl mtwf)), (mi, .inl (cI, 12, .inl mif)), (mpo, .inl (cI, 12, .inl mpof_7)), (mpi, .inl (cI, 26, .inl mpif_8)), (mre, .inl (cI, 12, .inl mref_9)), (mnn, .inl (cI, 4, .inl mnnf_10)), (mwo, .inl (cJ, 12, .inr (.inl mwof_11)))] → va_S A s.heap H locs → lv_has ls 4 [(3, .int L3_46), (2, .int L2_46), (1, .int L1_17), (0, .ref m0)] → W p l e { frames := 6, cells := 0, slots := 0, locals := 126 } s m (List.toArray [.ref m0]) below meth c H locs 0 0 Q (F0 m 46 ls []) := by
                intro n
                induction n with
                | zero =>
                  intro L3_46 L2_46 hi0_46 hm
                  exact absurd hm (by omega)
                | succ n ih46 =>
                  intro L3_46 L2_46 hi0_46 hm46 H locs ls hP hD hS hl
                  refine lv_iload_n hx hb dX9_look_46 rfl (lv_at hl 0 rfl) ?_
                  refine lv_aload_n hx hb dX9_look_47 rfl (lv_at hl 3 rfl) ?_
                  refine va_get (D := (dC, dI)) (ci := 8) (v := .int mmn) (C := RX9) (T := TX9) (N := 32) hx hb hts inG_X9 hown hK hP 2 rfl rfl 9 (by decide) (hts _ fl_X9_114) (fun _ h9 => h9) rfl dX9_look_48 ?_
                  refine lv_icmp_ge (tgt := 90) hx hb dX9_look_51 (by decide) (fun c28 => ?_) (fun c28 => ?_)
                  · have c28' := I_le c28
                    refine lv_iload_n hx hb dX9_look_90 rfl (lv_at hl 1 rfl) ?_
                    refine lv_if_eq (tgt := 95) hx hb dX9_look_91 (by decide) (fun c29 => ?_) (fun c29 => ?_)
                    · have c29' := I_eq c29
                      obtain ⟨v30, ev30⟩ : ∃ y : Int32, y = L1_17 + 1 := ⟨_, rfl⟩
                      try have hv30 : v30.toInt = L1_17.toInt + (1 : Int32).toInt := I_addx ev30 (by omega)
                      refine lv_iinc (v := v30) (lv' := [(1, .int v30), (3, .int L3_46), (2, .int L2_46), (0, .ref m0)]) hx hb dX9_look_95 hl (k := 2) rfl (by rw [ev30]; rfl) (by decide) rfl (fun ls hl => ?_)
                      refine lv_goto (tgt := 17) hx hb dX9_look_98 (by decide) ?_
                      exact ih17 v30 (by first | assumption | omega) (by omega) H locs ls hP hD hS (lv_sub hl [0, 3] rfl)
                    · have c29' := I_ne c29
                      exact hret (mpd_4, mpl_5, mcp_6, mpof_7, mpif_8, mref_9, mnnf_10, mwof_11, mme, mtm, mrof, mlef) H locs 94 ls ⟨(show mcp_6.toInt = 0 ∨ mcp_6.toInt = 1 from by first | rfl | assumption | omega), (show 0 ≤ mme.toInt ∧ mme.toInt ≤ 300 from by first | rfl | assumption | omega), (show mtm.toInt = 0 ∨ mtm.toInt = 1 from by first | rfl | assumption | omega), (show ∀ j : Nat, 0 ≤ (mlef j).toInt ∧ (mlef j).toInt ≤ 12 from by first | rfl | assumption | omega), trivial⟩ (hP.sub (ws' := [(m0, .inr (8, [.int mth, .int mst, .ref mp, .int mln, .ref mk, .int mts, .ref mti, .ref mtw, .ref mi, .int mmn, .ref mpo, .int mpd_4, .ref mpi, .int mpl_5, .int mcp_6, .ref mre, .ref mnn, .ref mwo, .ref mga, .ref mlo, .ref mro, .ref mle, .ref mra, .int mme, .ref mha, .int mch, .int mtm, .int mgo, .int mwa, .ref mba, .int mbl, .ref mon])), (mk, .inl (cI, 4, .inl mkf)), (mti, .inl (cI, 32, .inl mtif)), (mtw, .inl (cI, 8, .inl mtwf)), (mi, .inl (cI, 12, .inl mif)), (mpo, .inl (cI, 12, .inl mpof_7)), (mpi, .inl (cI, 26, .inl mpif_8)), (mre, .inl (cI, 12, .inl mref_9)), (mnn, .inl (cI, 4, .inl mnnf_10)), (mwo, .inl (cJ, 12, .inr (.inl mwof_11))), (mro, .inl (cI, 3600, .inl mrof)), (mle, .inl (cI, 300, .inl mlef))]) [2, 3, 4, 5, 6, 7, 8, 9, 10, 11, 0, 1] rfl) (hD.sub (ws' := [(m0, .inr (8, [.int mth, .int mst, .ref mp, .int mln, .ref mk, .int mts, .ref mti, .ref mtw, .ref mi, .int mmn, .ref mpo, .int mpd_4, .ref mpi, .int mpl_5, .int mcp_6, .ref mre, .ref mnn, .ref mwo, .ref mga, .ref mlo, .ref mro, .ref mle, .ref mra, .int mme, .ref mha, .int mch, .int mtm, .int mgo, .int mwa, .ref mba, .int mbl, .ref mon])), (mk, .inl (cI, 4, .inl mkf)), (mti, .inl (cI, 32, .inl mtif)), (mtw, .inl (cI, 8, .inl mtwf)), (mi, .inl (cI, 12, .inl mif)), (mpo, .inl (cI, 12, .inl mpof_7)), (mpi, .inl (cI, 26, .inl mpif_8)), (mre, .inl (cI, 12, .inl mref_9)), (mnn, .inl (cI, 4, .inl mnnf_10)), (mwo, .inl (cJ, 12, .inr (.inl mwof_11))), (mro, .inl (cI, 3600, .inl mrof)), (mle, .inl (cI, 300, .inl mlef))]) [2, 3, 4, 5, 6, 7, 8, 9, 10, 11, 0, 1] (by decide) rfl) hS dX9_look_94
                  · have c28' := I_nle c28
                    refine lv_iload_n hx hb dX9_look_54 rfl (lv_at hl 1 rfl) ?_
                    refine lv_if_eq (tgt := 90) hx hb dX9_look_55 (by decide) (fun c31 => ?_) (fun c31 => ?_)
                    · have c31' := I_eq c31
                      refine lv_iload_n hx hb dX9_look_90 rfl (lv_at hl 1 rfl) ?_
                      refine lv_if_eq (tgt := 95) hx hb dX9_look_91 (by decide) (fun c32 => ?_) (fun c32 => ?_)
                      · have c32' := I_eq c32
                        obtain ⟨v33, ev33⟩ : ∃ y : Int32, y = L1_17 + 1 := ⟨_, rfl⟩
                        try have hv33 : v33.toInt = L1_17.toInt + (1 : Int32).toInt := I_addx ev33 (by omega)
                        refine lv_iinc (v := v33) (lv' := [(1, .int v33), (3, .int L3_46), (2, .int L2_46), (0, .ref m0)]) hx hb dX9_look_95 hl (k := 2) rfl (by rw [ev33]; rfl) (by decide) rfl (fun ls hl => ?_)
                        refine lv_goto (tgt := 17) hx hb dX9_look_98 (by decide) ?_
                        exact ih17 v33 (by first | assumption | omega) (by omega) H locs ls hP hD hS (lv_sub hl [0, 3] rfl)
                      · have c32' := I_ne c32
                        exact hret (mpd_4, mpl_5, mcp_6, mpof_7, mpif_8, mref_9, mnnf_10, mwof_11, mme, mtm, mrof, mlef) H locs 94 ls ⟨(show mcp_6.toInt = 0 ∨ mcp_6.toInt = 1 from by first | rfl | assumption | omega), (show 0 ≤ mme.toInt ∧ mme.toInt ≤ 300 from by first | rfl | assumption | omega), (show mtm.toInt = 0 ∨ mtm.toInt = 1 from by first | rfl | assumption | omega), (show ∀ j : Nat, 0 ≤ (mlef j).toInt ∧ (mlef j).toInt ≤ 12 from by first | rfl | assumption | omega), trivial⟩ (hP.sub (ws' := [(m0, .inr (8, [.int mth, .int mst, .ref mp, .int mln, .ref mk, .int mts, .ref mti, .ref mtw, .ref mi, .int mmn, .ref mpo, .int mpd_4, .ref mpi, .int mpl_5, .int mcp_6, .ref mre, .ref mnn, .ref mwo, .ref mga, .ref mlo, .ref mro, .ref mle, .ref mra, .int mme, .ref mha, .int mch, .int mtm, .int mgo, .int mwa, .ref mba, .int mbl, .ref mon])), (mk, .inl (cI, 4, .inl mkf)), (mti, .inl (cI, 32, .inl mtif)), (mtw, .inl (cI, 8, .inl mtwf)), (mi, .inl (cI, 12, .inl mif)), (mpo, .inl (cI, 12, .inl mpof_7)), (mpi, .inl (cI, 26, .inl mpif_8)), (mre, .inl (cI, 12, .inl mref_9)), (mnn, .inl (cI, 4, .inl mnnf_10)), (mwo, .inl (cJ, 12, .inr (.inl mwof_11))), (mro, .inl (cI, 3600, .inl mrof)), (mle, .inl (cI, 300, .inl mlef))]) [2, 3, 4, 5, 6, 7, 8, 9, 10, 11, 0, 1] rfl) (hD.sub (ws' := [(m0, .inr (8, [.int mth, .int mst, .ref mp, .int mln, .ref mk, .int mts, .ref mti, .ref mtw, .ref mi, .int mmn, .ref mpo, .int mpd_4, .ref mpi, .int mpl_5, .int mcp_6, .ref mre, .ref mnn, .ref mwo, .ref mga, .ref mlo, .ref mro, .ref mle, .ref mra, .int mme, .ref mha, .int mch, .int mtm, .int mgo, .int mwa, .ref mba, .int mbl, .ref mon])), (mk, .inl (cI, 4, .inl mkf)), (mti, .inl (cI, 32, .inl mtif)), (mtw, .inl (cI, 8, .inl mtwf)), (mi, .inl (cI, 12, .inl mif)), (mpo, .inl (cI, 12, .inl mpof_7)), (mpi, .inl (cI, 26, .inl mpif_8)), (mre, .inl (cI, 12, .inl mref_9)), (mnn, .inl (cI, 4, .inl mnnf_10)), (mwo, .inl (cJ, 12, .inr (.inl mwof_11))), (mro, .inl (cI, 3600, .inl mrof)), (mle, .inl (cI, 300, .inl mlef))]) [2, 3, 4, 5, 6, 7, 8, 9, 10, 11, 0, 1] (by decide) rfl) hS dX9_look_94
                    · have c31' := I_ne c31
                      refine lv_aload_n hx hb dX9_look_58 rfl (lv_at hl 3 rfl) ?_
                      refine va_get (D := (dC, dI)) (ci := 8) (v := .ref mro) (C := RX9) (T := TX9) (N := 32) hx hb hts inG_X9 hown hK hP 2 rfl rfl 20 (by decide) (hts _ fl_X9_47) (fun _ h9 => h9) rfl dX9_look_59 ?_
                      refine lv_bipush (v := 12) hx hb dX9_look_62 (by decide) ?_
                      refine lv_iload_n hx hb dX9_look_64 rfl (lv_at hl 2 rfl) ?_
                      refine lv_imul hx hb dX9_look_65 ?_
                      refine lv_topi (fun v34 ev34 => ?_)
                      try have hv34 := I_mulxl (12) ev34 (by decide) (by omega)
                      refine lv_iload_n hx hb dX9_look_66 rfl (lv_at hl 0 rfl) ?_
                      refine lv_iadd hx hb dX9_look_67 ?_
                      refine lv_topi (fun v35 ev35 => ?_)
                      try have hv35 : v35.toInt = v34.toInt + L3_46.toInt := I_addx ev35 (by omega)
                      refine va_iald (t0 := 0) hx hb hK hP 0 (ha := rfl) (ht := rfl) (I_in (by omega) (by omega)) dX9_look_68 ?_
                      refine lv_topi (fun v36 ev36 => ?_)
                      refine lv_aload_n hx hb dX9_look_69 rfl (lv_at hl 3 rfl) ?_
                      refine va_get (D := (dC, dI)) (ci := 8) (v := .ref mi) (C := RX9) (T := TX9) (N := 32) hx hb hts inG_X9 hown hK hP 2 rfl rfl 8 (by decide) (hts _ fl_X9_22) (fun _ h9 => h9) rfl dX9_look_70 ?_
                      refine lv_iload_n hx hb dX9_look_73 rfl (lv_at hl 0 rfl) ?_
                      refine va_iald (t0 := 0) hx hb hK hP 6 (ha := rfl) (ht := rfl) (I_in (by omega) (by omega)) dX9_look_74 ?_
                      refine lv_topi (fun v37 ev37 => ?_)
                      refine lv_icmp_ne (tgt := 82) hx hb dX9_look_75 (by decide) (fun c38 => ?_) (fun c38 => ?_)
                      · have c38' := I_ne c38
                        refine lv_iconst (v := 0) hx hb dX9_look_82 (by decide) ?_
                        refine lv_istore_n (lv' := [(2, .int 0), (3, .int L3_46), (1, .int L1_17), (0, .ref m0)]) hx hb dX9_look_83 rfl hl (by decide) rfl (fun ls hl => ?_)
                        obtain ⟨v39, ev39⟩ : ∃ y : Int32, y = L3_46 + 1 := ⟨_, rfl⟩
                        try have hv39 : v39.toInt = L3_46.toInt + (1 : Int32).toInt := I_addx ev39 (by omega)
                        refine lv_iinc (v := v39) (lv' := [(3, .int v39), (2, .int 0), (1, .int L1_17), (0, .ref m0)]) hx hb dX9_look_84 hl (k := 1) rfl (by rw [ev39]; rfl) (by decide) rfl (fun ls hl => ?_)
                        refine lv_goto (tgt := 46) hx hb dX9_look_87 (by decide) ?_
                        exact ih46 v39 0 (by first | assumption | omega) (by omega) H locs ls hP hD hS hl
                      · have c38' := I_eq c38
                        refine lv_iconst (v := 1) hx hb dX9_look_78 (by decide) ?_
                        refine lv_goto (tgt := 83) hx hb dX9_look_79 (by decide) ?_
                        refine lv_istore_n (lv' := [(2, .int 1), (3, .int L3_46), (1, .int L1_17), (0, .ref m0)]) hx hb dX9_look_83 rfl hl (by decide) rfl (fun ls hl => ?_)
                        obtain ⟨v40, ev40⟩ : ∃ y : Int32, y = L3_46 + 1 := ⟨_, rfl⟩
                        try have hv40 : v40.toInt = L3_46.toInt + (1 : Int32).toInt := I_addx ev40 (by omega)
                        refine lv_iinc (v := v40) (lv' := [(3, .int v40), (2, .int 1), (1, .int L1_17), (0, .ref m0)]) hx hb dX9_look_84 hl (k := 1) rfl (by rw [ev40]; rfl) (by decide) rfl (fun ls hl => ?_)
                        refine lv_goto (tgt := 46) hx hb dX9_look_87 (by decide) ?_
                        exact ih46 v40 1 (by first | assumption | omega) (by omega) H locs ls hP hD hS hl
              exact J46 ((12 - (0 : Int32).toInt).toNat + 1) 0 0 (by first | assumption | omega) (by omega) H locs ls hP hD hS hl
            · have c27' := I_eq c27
              refine lv_iconst (v := 1) hx hb dX9_look_38 (by decide) ?_
              refine lv_goto (tgt := 43) hx hb dX9_look_39 (by decide) ?_
              refine lv_istore_n (lv' := [(2, .int 1), (1, .int L1_17), (0, .ref m0)]) hx hb dX9_look_43 rfl hl (by decide) rfl (fun ls hl => ?_)
              refine lv_iconst (v := 0) hx hb dX9_look_44 (by decide) ?_
              refine lv_istore_n (lv' := [(3, .int 0), (2, .int 1), (1, .int L1_17), (0, .ref m0)]) hx hb dX9_look_45 rfl hl (by decide) rfl (fun ls hl => ?_)
              have J46 : ∀ (n : Nat) (L3_46 : Int32) (L2_46 : Int32), (0 ≤ L3_46.toInt ∧ L3_46.toInt ≤ 12) → (12 - L3_46.toInt) < (n : Int) → ∀ (H : Heap) (locs : List Loc) (ls : Array Slot), va_P (dC, dI) vwCl [(mro, .inl (cI, 3600, .inl mrof)), (mle, .inl (cI, 300, .inl mlef)), (m0, .inr (8, [.int mth, .int mst, .ref mp, .int mln, .ref mk, .int mts, .ref mti, .ref mtw, .ref mi, .int mmn, .ref mpo, .int mpd_4, .ref mpi, .int mpl_5, .int mcp_6, .ref mre, .ref mnn, .ref mwo, .ref mga, .ref mlo, .ref mro, .ref mle, .ref mra, .int mme, .ref mha, .int mch, .int mtm, .int mgo, .int mwa, .ref mba, .int mbl, .ref mon])), (mk, .inl (cI, 4, .inl mkf)), (mti, .inl (cI, 32, .inl mtif)), (mtw, .inl (cI, 8, .inl mtwf)), (mi, .inl (cI, 12, .inl mif)), (mpo, .inl (cI, 12, .inl mpof_7)), (mpi, .inl (cI, 26, .inl mpif_8)), (mre, .inl (cI, 12, .inl mref_9)), (mnn, .inl (cI, 4, .inl mnnf_10)), (mwo, .inl (cJ, 12, .inr (.inl mwof_11)))] H → va_D A [(mro, .inl (cI, 3600, .inl mrof)), (mle, .inl (cI, 300, .inl mlef)), (m0, .inr (8, [.int mth, .int mst, .ref mp, .int mln, .ref mk, .int mts, .ref mti, .ref mtw, .ref mi, .int mmn, .ref mpo, .int mpd_4, .ref mpi, .int mpl_5, .int mcp_6, .ref mre, .ref mnn, .ref mwo, .ref mga, .ref mlo, .ref mro, .ref mle, .ref mra, .int mme, .ref mha, .int mch, .int mtm, .int mgo, .int mwa, .ref mba, .int mbl, .ref mon])), (mk, .inl (cI, 4, .inl mkf)), (mti, .inl (cI, 32, .inl mtif)), (mtw, .inl (cI, 8, .inl mtwf)), (mi, .inl (cI, 12, .inl mif)), (mpo, .inl (cI, 12, .inl mpof_7)), (mpi, .inl (cI, 26, .inl mpif_8)), (mre, .inl (cI, 12, .inl mref_9)), (mnn, .inl (cI, 4, .inl mnnf_10)), (mwo, .inl (cJ, 12, .inr (.inl mwof_11)))] → va_S A s.heap H locs → lv_has ls 4 [(3, .int L3_46), (2, .int L2_46), (1, .int L1_17), (0, .ref m0)] → W p l e { frames := 6, cells := 0, slots := 0, locals := 126 } s m (List.toArray [.ref m0]) below meth c H locs 0 0 Q (F0 m 46 ls []) := by
                intro n
                induction n with
                | zero =>
                  intro L3_46 L2_46 hi0_46 hm
                  exact absurd hm (by omega)
                | succ n ih46 =>
                  intro L3_46 L2_46 hi0_46 hm46 H locs ls hP hD hS hl
                  refine lv_iload_n hx hb dX9_look_46 rfl (lv_at hl 0 rfl) ?_
                  refine lv_aload_n hx hb dX9_look_47 rfl (lv_at hl 3 rfl) ?_
                  refine va_get (D := (dC, dI)) (ci := 8) (v := .int mmn) (C := RX9) (T := TX9) (N := 32) hx hb hts inG_X9 hown hK hP 2 rfl rfl 9 (by decide) (hts _ fl_X9_114) (fun _ h9 => h9) rfl dX9_look_48 ?_
                  refine lv_icmp_ge (tgt := 90) hx hb dX9_look_51 (by decide) (fun c41 => ?_) (fun c41 => ?_)
                  · have c41' := I_le c41
                    refine lv_iload_n hx hb dX9_look_90 rfl (lv_at hl 1 rfl) ?_
                    refine lv_if_eq (tgt := 95) hx hb dX9_look_91 (by decide) (fun c42 => ?_) (fun c42 => ?_)
                    · have c42' := I_eq c42
                      obtain ⟨v43, ev43⟩ : ∃ y : Int32, y = L1_17 + 1 := ⟨_, rfl⟩
                      try have hv43 : v43.toInt = L1_17.toInt + (1 : Int32).toInt := I_addx ev43 (by omega)
                      refine lv_iinc (v := v43) (lv' := [(1, .int v43), (3, .int L3_46), (2, .int L2_46), (0, .ref m0)]) hx hb dX9_look_95 hl (k := 2) rfl (by rw [ev43]; rfl) (by decide) rfl (fun ls hl => ?_)
                      refine lv_goto (tgt := 17) hx hb dX9_look_98 (by decide) ?_
                      exact ih17 v43 (by first | assumption | omega) (by omega) H locs ls hP hD hS (lv_sub hl [0, 3] rfl)
                    · have c42' := I_ne c42
                      exact hret (mpd_4, mpl_5, mcp_6, mpof_7, mpif_8, mref_9, mnnf_10, mwof_11, mme, mtm, mrof, mlef) H locs 94 ls ⟨(show mcp_6.toInt = 0 ∨ mcp_6.toInt = 1 from by first | rfl | assumption | omega), (show 0 ≤ mme.toInt ∧ mme.toInt ≤ 300 from by first | rfl | assumption | omega), (show mtm.toInt = 0 ∨ mtm.toInt = 1 from by first | rfl | assumption | omega), (show ∀ j : Nat, 0 ≤ (mlef j).toInt ∧ (mlef j).toInt ≤ 12 from by first | rfl | assumption | omega), trivial⟩ (hP.sub (ws' := [(m0, .inr (8, [.int mth, .int mst, .ref mp, .int mln, .ref mk, .int mts, .ref mti, .ref mtw, .ref mi, .int mmn, .ref mpo, .int mpd_4, .ref mpi, .int mpl_5, .int mcp_6, .ref mre, .ref mnn, .ref mwo, .ref mga, .ref mlo, .ref mro, .ref mle, .ref mra, .int mme, .ref mha, .int mch, .int mtm, .int mgo, .int mwa, .ref mba, .int mbl, .ref mon])), (mk, .inl (cI, 4, .inl mkf)), (mti, .inl (cI, 32, .inl mtif)), (mtw, .inl (cI, 8, .inl mtwf)), (mi, .inl (cI, 12, .inl mif)), (mpo, .inl (cI, 12, .inl mpof_7)), (mpi, .inl (cI, 26, .inl mpif_8)), (mre, .inl (cI, 12, .inl mref_9)), (mnn, .inl (cI, 4, .inl mnnf_10)), (mwo, .inl (cJ, 12, .inr (.inl mwof_11))), (mro, .inl (cI, 3600, .inl mrof)), (mle, .inl (cI, 300, .inl mlef))]) [2, 3, 4, 5, 6, 7, 8, 9, 10, 11, 0, 1] rfl) (hD.sub (ws' := [(m0, .inr (8, [.int mth, .int mst, .ref mp, .int mln, .ref mk, .int mts, .ref mti, .ref mtw, .ref mi, .int mmn, .ref mpo, .int mpd_4, .ref mpi, .int mpl_5, .int mcp_6, .ref mre, .ref mnn, .ref mwo, .ref mga, .ref mlo, .ref mro, .ref mle, .ref mra, .int mme, .ref mha, .int mch, .int mtm, .int mgo, .int mwa, .ref mba, .int mbl, .ref mon])), (mk, .inl (cI, 4, .inl mkf)), (mti, .inl (cI, 32, .inl mtif)), (mtw, .inl (cI, 8, .inl mtwf)), (mi, .inl (cI, 12, .inl mif)), (mpo, .inl (cI, 12, .inl mpof_7)), (mpi, .inl (cI, 26, .inl mpif_8)), (mre, .inl (cI, 12, .inl mref_9)), (mnn, .inl (cI, 4, .inl mnnf_10)), (mwo, .inl (cJ, 12, .inr (.inl mwof_11))), (mro, .inl (cI, 3600, .inl mrof)), (mle, .inl (cI, 300, .inl mlef))]) [2, 3, 4, 5, 6, 7, 8, 9, 10, 11, 0, 1] (by decide) rfl) hS dX9_look_94
                  · have c41' := I_nle c41
                    refine lv_iload_n hx hb dX9_look_54 rfl (lv_at hl 1 rfl) ?_
                    refine lv_if_eq (tgt := 90) hx hb dX9_look_55 (by decide) (fun c44 => ?_) (fun c44 => ?_)
                    · have c44' := I_eq c44
                      refine lv_iload_n hx hb dX9_look_90 rfl (lv_at hl 1 rfl) ?_
                      refine lv_if_eq (tgt := 95) hx hb dX9_look_91 (by decide) (fun c45 => ?_) (fun c45 => ?_)
                      · have c45' := I_eq c45
                        obtain ⟨v46, ev46⟩ : ∃ y : Int32, y = L1_17 + 1 := ⟨_, rfl⟩
                        try have hv46 : v46.toInt = L1_17.toInt + (1 : Int32).toInt := I_addx ev46 (by omega)
                        refine lv_iinc (v := v46) (lv' := [(1, .int v46), (3, .int L3_46), (2, .int L2_46), (0, .ref m0)]) hx hb dX9_look_95 hl (k := 2) rfl (by rw [ev46]; rfl) (by decide) rfl (fun ls hl => ?_)
                        refine lv_goto (tgt := 17) hx hb dX9_look_98 (by decide) ?_
                        exact ih17 v46 (by first | assumption | omega) (by omega) H locs ls hP hD hS (lv_sub hl [0, 3] rfl)
                      · have c45' := I_ne c45
                        exact hret (mpd_4, mpl_5, mcp_6, mpof_7, mpif_8, mref_9, mnnf_10, mwof_11, mme, mtm, mrof, mlef) H locs 94 ls ⟨(show mcp_6.toInt = 0 ∨ mcp_6.toInt = 1 from by first | rfl | assumption | omega), (show 0 ≤ mme.toInt ∧ mme.toInt ≤ 300 from by first | rfl | assumption | omega), (show mtm.toInt = 0 ∨ mtm.toInt = 1 from by first | rfl | assumption | omega), (show ∀ j : Nat, 0 ≤ (mlef j).toInt ∧ (mlef j).toInt ≤ 12 from by first | rfl | assumption | omega), trivial⟩ (hP.sub (ws' := [(m0, .inr (8, [.int mth, .int mst, .ref mp, .int mln, .ref mk, .int mts, .ref mti, .ref mtw, .ref mi, .int mmn, .ref mpo, .int mpd_4, .ref mpi, .int mpl_5, .int mcp_6, .ref mre, .ref mnn, .ref mwo, .ref mga, .ref mlo, .ref mro, .ref mle, .ref mra, .int mme, .ref mha, .int mch, .int mtm, .int mgo, .int mwa, .ref mba, .int mbl, .ref mon])), (mk, .inl (cI, 4, .inl mkf)), (mti, .inl (cI, 32, .inl mtif)), (mtw, .inl (cI, 8, .inl mtwf)), (mi, .inl (cI, 12, .inl mif)), (mpo, .inl (cI, 12, .inl mpof_7)), (mpi, .inl (cI, 26, .inl mpif_8)), (mre, .inl (cI, 12, .inl mref_9)), (mnn, .inl (cI, 4, .inl mnnf_10)), (mwo, .inl (cJ, 12, .inr (.inl mwof_11))), (mro, .inl (cI, 3600, .inl mrof)), (mle, .inl (cI, 300, .inl mlef))]) [2, 3, 4, 5, 6, 7, 8, 9, 10, 11, 0, 1] rfl) (hD.sub (ws' := [(m0, .inr (8, [.int mth, .int mst, .ref mp, .int mln, .ref mk, .int mts, .ref mti, .ref mtw, .ref mi, .int mmn, .ref mpo, .int mpd_4, .ref mpi, .int mpl_5, .int mcp_6, .ref mre, .ref mnn, .ref mwo, .ref mga, .ref mlo, .ref mro, .ref mle, .ref mra, .int mme, .ref mha, .int mch, .int mtm, .int mgo, .int mwa, .ref mba, .int mbl, .ref mon])), (mk, .inl (cI, 4, .inl mkf)), (mti, .inl (cI, 32, .inl mtif)), (mtw, .inl (cI, 8, .inl mtwf)), (mi, .inl (cI, 12, .inl mif)), (mpo, .inl (cI, 12, .inl mpof_7)), (mpi, .inl (cI, 26, .inl mpif_8)), (mre, .inl (cI, 12, .inl mref_9)), (mnn, .inl (cI, 4, .inl mnnf_10)), (mwo, .inl (cJ, 12, .inr (.inl mwof_11))), (mro, .inl (cI, 3600, .inl mrof)), (mle, .inl (cI, 300, .inl mlef))]) [2, 3, 4, 5, 6, 7, 8, 9, 10, 11, 0, 1] (by decide) rfl) hS dX9_look_94
                    · have c44' := I_ne c44
                      refine lv_aload_n hx hb dX9_look_58 rfl (lv_at hl 3 rfl) ?_
                      refine va_get (D := (dC, dI)) (ci := 8) (v := .ref mro) (C := RX9) (T := TX9) (N := 32) hx hb hts inG_X9 hown hK hP 2 rfl rfl 20 (by decide) (hts _ fl_X9_47) (fun _ h9 => h9) rfl dX9_look_59 ?_
                      refine lv_bipush (v := 12) hx hb dX9_look_62 (by decide) ?_
                      refine lv_iload_n hx hb dX9_look_64 rfl (lv_at hl 2 rfl) ?_
                      refine lv_imul hx hb dX9_look_65 ?_
                      refine lv_topi (fun v47 ev47 => ?_)
                      try have hv47 := I_mulxl (12) ev47 (by decide) (by omega)
                      refine lv_iload_n hx hb dX9_look_66 rfl (lv_at hl 0 rfl) ?_
                      refine lv_iadd hx hb dX9_look_67 ?_
                      refine lv_topi (fun v48 ev48 => ?_)
                      try have hv48 : v48.toInt = v47.toInt + L3_46.toInt := I_addx ev48 (by omega)
                      refine va_iald (t0 := 0) hx hb hK hP 0 (ha := rfl) (ht := rfl) (I_in (by omega) (by omega)) dX9_look_68 ?_
                      refine lv_topi (fun v49 ev49 => ?_)
                      refine lv_aload_n hx hb dX9_look_69 rfl (lv_at hl 3 rfl) ?_
                      refine va_get (D := (dC, dI)) (ci := 8) (v := .ref mi) (C := RX9) (T := TX9) (N := 32) hx hb hts inG_X9 hown hK hP 2 rfl rfl 8 (by decide) (hts _ fl_X9_22) (fun _ h9 => h9) rfl dX9_look_70 ?_
                      refine lv_iload_n hx hb dX9_look_73 rfl (lv_at hl 0 rfl) ?_
                      refine va_iald (t0 := 0) hx hb hK hP 6 (ha := rfl) (ht := rfl) (I_in (by omega) (by omega)) dX9_look_74 ?_
                      refine lv_topi (fun v50 ev50 => ?_)
                      refine lv_icmp_ne (tgt := 82) hx hb dX9_look_75 (by decide) (fun c51 => ?_) (fun c51 => ?_)
                      · have c51' := I_ne c51
                        refine lv_iconst (v := 0) hx hb dX9_look_82 (by decide) ?_
                        refine lv_istore_n (lv' := [(2, .int 0), (3, .int L3_46), (1, .int L1_17), (0, .ref m0)]) hx hb dX9_look_83 rfl hl (by decide) rfl (fun ls hl => ?_)
                        obtain ⟨v52, ev52⟩ : ∃ y : Int32, y = L3_46 + 1 := ⟨_, rfl⟩
                        try have hv52 : v52.toInt = L3_46.toInt + (1 : Int32).toInt := I_addx ev52 (by omega)
                        refine lv_iinc (v := v52) (lv' := [(3, .int v52), (2, .int 0), (1, .int L1_17), (0, .ref m0)]) hx hb dX9_look_84 hl (k := 1) rfl (by rw [ev52]; rfl) (by decide) rfl (fun ls hl => ?_)
                        refine lv_goto (tgt := 46) hx hb dX9_look_87 (by decide) ?_
                        exact ih46 v52 0 (by first | assumption | omega) (by omega) H locs ls hP hD hS hl
                      · have c51' := I_eq c51
                        refine lv_iconst (v := 1) hx hb dX9_look_78 (by decide) ?_
                        refine lv_goto (tgt := 83) hx hb dX9_look_79 (by decide) ?_
                        refine lv_istore_n (lv' := [(2, .int 1), (3, .int L3_46), (1, .int L1_17), (0, .ref m0)]) hx hb dX9_look_83 rfl hl (by decide) rfl (fun ls hl => ?_)
                        obtain ⟨v53, ev53⟩ : ∃ y : Int32, y = L3_46 + 1 := ⟨_, rfl⟩
                        try have hv53 : v53.toInt = L3_46.toInt + (1 : Int32).toInt := I_addx ev53 (by omega)
                        refine lv_iinc (v := v53) (lv' := [(3, .int v53), (2, .int 1), (1, .int L1_17), (0, .ref m0)]) hx hb dX9_look_84 hl (k := 1) rfl (by rw [ev53]; rfl) (by decide) rfl (fun ls hl => ?_)
                        refine lv_goto (tgt := 46) hx hb dX9_look_87 (by decide) ?_
                        exact ih46 v53 1 (by first | assumption | omega) (by omega) H locs ls hP hD hS hl
              exact J46 ((12 - (0 : Int32).toInt).toNat + 1) 0 1 (by first | assumption | omega) (by omega) H locs ls hP hD hS hl
      exact J17 ((300 - (0 : Int32).toInt).toNat + 1) 0 (by first | assumption | omega) (by omega) H locs ls hP hD hS hl
    · have c14' := I_eq c14
      exact hret (mpd_4, mpl_5, mcp_6, mpof_7, mpif_8, mref_9, mnnf_10, mwof_11, mme, mtm, mrof, mlef) H locs 14 ls ⟨(show mcp_6.toInt = 0 ∨ mcp_6.toInt = 1 from by first | rfl | assumption | omega), (show 0 ≤ mme.toInt ∧ mme.toInt ≤ 300 from by first | rfl | assumption | omega), (show mtm.toInt = 0 ∨ mtm.toInt = 1 from by first | rfl | assumption | omega), (show ∀ j : Nat, 0 ≤ (mlef j).toInt ∧ (mlef j).toInt ≤ 12 from by first | rfl | assumption | omega), trivial⟩ (hP.sub (ws' := [(m0, .inr (8, [.int mth, .int mst, .ref mp, .int mln, .ref mk, .int mts, .ref mti, .ref mtw, .ref mi, .int mmn, .ref mpo, .int mpd_4, .ref mpi, .int mpl_5, .int mcp_6, .ref mre, .ref mnn, .ref mwo, .ref mga, .ref mlo, .ref mro, .ref mle, .ref mra, .int mme, .ref mha, .int mch, .int mtm, .int mgo, .int mwa, .ref mba, .int mbl, .ref mon])), (mk, .inl (cI, 4, .inl mkf)), (mti, .inl (cI, 32, .inl mtif)), (mtw, .inl (cI, 8, .inl mtwf)), (mi, .inl (cI, 12, .inl mif)), (mpo, .inl (cI, 12, .inl mpof_7)), (mpi, .inl (cI, 26, .inl mpif_8)), (mre, .inl (cI, 12, .inl mref_9)), (mnn, .inl (cI, 4, .inl mnnf_10)), (mwo, .inl (cJ, 12, .inr (.inl mwof_11))), (mro, .inl (cI, 3600, .inl mrof)), (mle, .inl (cI, 300, .inl mlef))]) [2, 3, 4, 5, 6, 7, 8, 9, 10, 11, 0, 1] rfl) (hD.sub (ws' := [(m0, .inr (8, [.int mth, .int mst, .ref mp, .int mln, .ref mk, .int mts, .ref mti, .ref mtw, .ref mi, .int mmn, .ref mpo, .int mpd_4, .ref mpi, .int mpl_5, .int mcp_6, .ref mre, .ref mnn, .ref mwo, .ref mga, .ref mlo, .ref mro, .ref mle, .ref mra, .int mme, .ref mha, .int mch, .int mtm, .int mgo, .int mwa, .ref mba, .int mbl, .ref mon])), (mk, .inl (cI, 4, .inl mkf)), (mti, .inl (cI, 32, .inl mtif)), (mtw, .inl (cI, 8, .inl mtwf)), (mi, .inl (cI, 12, .inl mif)), (mpo, .inl (cI, 12, .inl mpof_7)), (mpi, .inl (cI, 26, .inl mpif_8)), (mre, .inl (cI, 12, .inl mref_9)), (mnn, .inl (cI, 4, .inl mnnf_10)), (mwo, .inl (cJ, 12, .inr (.inl mwof_11))), (mro, .inl (cI, 3600, .inl mrof)), (mle, .inl (cI, 300, .inl mlef))]) [2, 3, 4, 5, 6, 7, 8, 9, 10, 11, 0, 1] (by decide) rfl) hS dX9_look_14
set_option maxHeartbeats 4000000 in
set_option maxRecDepth 100000 in
theorem c_X9_change (l : Launch) (dC : Nat → ClassId) (dI : Nat → Nat → Nat) (cI cJ : ClassId) (base bB bO : Nat) (m0 : Nat) (mth : Int32) (mst : Int32) (mp : Nat) (mln : Int32) (mk : Nat) (mts : Int32) (mti : Nat) (mtw : Nat) (mi : Nat) (mmn : Int32) (mpo : Nat) (mpd : Int32) (mpi : Nat) (mpl : Int32) (mcp : Int32) (mre : Nat) (mnn : Nat) (mwo : Nat) (mga : Nat) (mlo : Nat) (mro : Nat) (mle : Nat) (mra : Nat) (mme : Int32) (mha : Nat) (mch : Int32) (mtm : Int32) (mgo : Int32) (mwa : Int32) (mba : Nat) (mbl : Int32) (mon : Nat) (mif : Nat → Int32) (mbaf : Nat → Int32) (x : Int32) (hq0 : 0 ≤ mmn.toInt ∧ mmn.toInt ≤ 12) (hq1 : 0 ≤ mbl.toInt ∧ mbl.toInt ≤ 11) (hq2 : 0 ≤ x.toInt ∧ x.toInt < 57 * (mbl.toInt + 1)) : CtI l dC dI cI cJ base bB bO yX9_change cX9_change 6 .boolean 0 0 [.ref m0, .int x] [(m0, .inr (8, [.int mth, .int mst, .ref mp, .int mln, .ref mk, .int mts, .ref mti, .ref mtw, .ref mi, .int mmn, .ref mpo, .int mpd, .ref mpi, .int mpl, .int mcp, .ref mre, .ref mnn, .ref mwo, .ref mga, .ref mlo, .ref mro, .ref mle, .ref mra, .int mme, .ref mha, .int mch, .int mtm, .int mgo, .int mwa, .ref mba, .int mbl, .ref mon])), (mi, .inl (cI, 12, .inl mif)), (mba, .inl (cI, 12, .inl mbaf))] ((Int32) × (Nat → Int32)) (fun (res : Int32) (u : (Int32) × (Nat → Int32)) => (res.toInt = 0 ∨ res.toInt = 1) ∧ (0 ≤ u.1.toInt ∧ u.1.toInt ≤ 12) ∧ (res.toInt = 0 ∨ u.1.toInt ≤ mbl.toInt + 1) ∧ True) (fun (u : (Int32) × (Nat → Int32)) => [(m0, .inr (8, [.int mth, .int mst, .ref mp, .int mln, .ref mk, .int mts, .ref mti, .ref mtw, .ref mi, .int u.1, .ref mpo, .int mpd, .ref mpi, .int mpl, .int mcp, .ref mre, .ref mnn, .ref mwo, .ref mga, .ref mlo, .ref mro, .ref mle, .ref mra, .int mme, .ref mha, .int mch, .int mtm, .int mgo, .int mwa, .ref mba, .int mbl, .ref mon])), (mi, .inl (cI, 12, .inl u.2)), (mba, .inl (cI, 12, .inl mbaf))]) := by
  refine entI (by decide) (Nat.le_of_ble_eq_true rfl) ?_
  intro p e s m below meth c A Q ls hAt hret hP hD hS hl
  obtain ⟨hx, hb, hml, hown, hts, hA, hAb, hK, hE, hlocks, hin⟩ := hAt
  have hG : CG dC dI cI cJ base bB bO cX9_change 6 RX9 p s m (List.toArray [.ref m0, .int x]) c A := ⟨hx, hb, hml, hown, hts, hA, hAb, hK, hE⟩
  have hl : lv_has ls 6 [(0, .ref m0), (1, .int x)] := hl
  have c_0 : (0 : Int32).toInt = 0 := by decide
  have c_1 : (1 : Int32).toInt = 1 := by decide
  have c_28 : (28 : Int32).toInt = 28 := by decide
  have c_56 : (56 : Int32).toInt = 56 := by decide
  have c_57 : (57 : Int32).toInt = 57 := by decide
  obtain ⟨H, hHe⟩ : ∃ H : Heap, H = s.heap := ⟨_, rfl⟩
  obtain ⟨locs, hle⟩ : ∃ z : List Loc, z = [] := ⟨_, rfl⟩
  rw [← hHe] at hP
  have hS : va_S A s.heap H locs := by rw [hHe, hle]; exact hS
  suffices hgo : W p l e { frames := 0, cells := 0, slots := 0, locals := 0 } s m (List.toArray [.ref m0, .int x]) below meth c H locs 0 0 Q (F0 m 0 ls []) by rw [hHe, hle] at hgo; exact hgo
  refine lv_iload_n hx hb dX9_change_0 rfl (lv_at hl 1 rfl) ?_
  refine lv_bipush (v := 57) hx hb dX9_change_1 (by decide) ?_
  refine lv_idiv hx hb dX9_change_3 (by decide) ?_
  refine lv_topi (fun v1 ev1 => ?_)
  have hv1 := I_idiv x (57 : Int32) 57 (by decide) (by decide)
  rw [← ev1] at hv1
  try replace hv1 := hv1 (by omega)
  refine lv_istore_n (lv' := [(2, .int v1), (0, .ref m0), (1, .int x)]) hx hb dX9_change_4 rfl hl (by decide) rfl (fun ls hl => ?_)
  refine lv_iload_n hx hb dX9_change_5 rfl (lv_at hl 2 rfl) ?_
  refine lv_bipush (v := 57) hx hb dX9_change_6 (by decide) ?_
  refine lv_irem hx hb dX9_change_8 (by decide) ?_
  refine lv_topi (fun v2 ev2 => ?_)
  have hv2 := I_irem x (57 : Int32) 57 (by decide) (by decide)
  rw [← ev2] at hv2
  try replace hv2 := hv2 (by omega)
  refine lv_istore_n (lv' := [(3, .int v2), (2, .int v1), (0, .ref m0), (1, .int x)]) hx hb dX9_change_9 rfl hl (by decide) rfl (fun ls hl => ?_)
  refine lv_iload_n hx hb dX9_change_10 rfl (lv_at hl 0 rfl) ?_
  refine lv_bipush (v := 28) hx hb dX9_change_11 (by decide) ?_
  refine lv_icmp_ge (tgt := 20) hx hb dX9_change_13 (by decide) (fun c3 => ?_) (fun c3 => ?_)
  · have c3' := I_le c3
    refine lv_iconst (v := 0) hx hb dX9_change_20 (by decide) ?_
    refine lv_istore (lv' := [(4, .int 0), (3, .int v2), (2, .int v1), (0, .ref m0), (1, .int x)]) hx hb dX9_change_21 hl (by decide) rfl (fun ls hl => ?_)
    refine lv_iload hx hb dX9_change_23 (lv_at hl 0 rfl) ?_
    refine lv_if_ne (tgt := 36) hx hb dX9_change_25 (by decide) (fun c4 => ?_) (fun c4 => ?_)
    · have c4' := I_ne c4
      exact absurd c4 (by decide)
    · have c4' := I_eq c4
      refine lv_iload_n hx hb dX9_change_28 rfl (lv_at hl 2 rfl) ?_
      refine lv_aload_n hx hb dX9_change_29 rfl (lv_at hl 3 rfl) ?_
      refine va_get (D := (dC, dI)) (ci := 8) (v := .int mbl) (C := RX9) (T := TX9) (N := 32) hx hb hts inG_X9 hown hK hP 0 rfl rfl 30 (by decide) (hts _ fl_X9_177) (fun _ h9 => h9) rfl dX9_change_30 ?_
      refine lv_icmp_eq (tgt := 61) hx hb dX9_change_33 (by decide) (fun c5 => ?_) (fun c5 => ?_)
      · have c5' := I_eq c5
        refine lv_iconst (v := 0) hx hb dX9_change_61 (by decide) ?_
        exact hret 0 (mmn, mif) H locs 62 ls (by first | rfl | exact I_narz (by omega)) ⟨(show (0 : Int32).toInt = 0 ∨ (0 : Int32).toInt = 1 from by first | rfl | assumption | omega), (show 0 ≤ mmn.toInt ∧ mmn.toInt ≤ 12 from by first | rfl | assumption | omega), (show (0 : Int32).toInt = 0 ∨ mmn.toInt ≤ mbl.toInt + 1 from by first | rfl | assumption | omega), trivial⟩ hP hD hS dX9_change_62
      · have c5' := I_ne c5
        refine lv_iload_n hx hb dX9_change_36 rfl (lv_at hl 1 rfl) ?_
        refine lv_bipush (v := 28) hx hb dX9_change_37 (by decide) ?_
        refine lv_icmp_lt (tgt := 63) hx hb dX9_change_39 (by decide) (fun c6 => ?_) (fun c6 => ?_)
        · have c6' := I_lt c6
          refine lv_aload_n hx hb dX9_change_63 rfl (lv_at hl 3 rfl) ?_
          refine lv_iconst (v := 0) hx hb dX9_change_64 (by decide) ?_
          refine va_put (D := (dC, dI)) (ci := 8) (v := .int 0) (ty := .int) (C := RX9) (T := TX9) (N := 32) hx hb hts inG_X9 tyX9 tyX9_ok nmX9 hown hK hP hD hS 0 rfl rfl 9 (by decide) (hts _ fl_X9_114) (fun _ h9 => h9) rfl (by decide +kernel) rfl rfl (Nat.le_of_ble_eq_true rfl) dX9_change_65 (fun H locs hP hD hS => ?_)
          have hP : va_P (dC, dI) vwCl [(m0, .inr (8, [.int mth, .int mst, .ref mp, .int mln, .ref mk, .int mts, .ref mti, .ref mtw, .ref mi, .int 0, .ref mpo, .int mpd, .ref mpi, .int mpl, .int mcp, .ref mre, .ref mnn, .ref mwo, .ref mga, .ref mlo, .ref mro, .ref mle, .ref mra, .int mme, .ref mha, .int mch, .int mtm, .int mgo, .int mwa, .ref mba, .int mbl, .ref mon])), (mi, .inl (cI, 12, .inl mif)), (mba, .inl (cI, 12, .inl mbaf))] H := hP
          have hD : va_D A [(m0, .inr (8, [.int mth, .int mst, .ref mp, .int mln, .ref mk, .int mts, .ref mti, .ref mtw, .ref mi, .int 0, .ref mpo, .int mpd, .ref mpi, .int mpl, .int mcp, .ref mre, .ref mnn, .ref mwo, .ref mga, .ref mlo, .ref mro, .ref mle, .ref mra, .int mme, .ref mha, .int mch, .int mtm, .int mgo, .int mwa, .ref mba, .int mbl, .ref mon])), (mi, .inl (cI, 12, .inl mif)), (mba, .inl (cI, 12, .inl mbaf))] := hD
          refine lv_iconst (v := 0) hx hb dX9_change_68 (by decide) ?_
          refine lv_istore (lv' := [(5, .int 0), (4, .int 0), (3, .int v2), (2, .int v1), (0, .ref m0), (1, .int x)]) hx hb dX9_change_69 hl (by decide) rfl (fun ls hl => ?_)
          have J71 : ∀ (n : Nat) (L5_71 : Int32) (mmn_71 : Int32) (mif_71 : Nat → Int32), (0 ≤ mmn_71.toInt ∧ mmn_71.toInt ≤ L5_71.toInt + 1 ∧ mmn_71.toInt ≤ mbl.toInt + 1) → (v1.toInt < L5_71.toInt ∨ mmn_71.toInt ≤ L5_71.toInt) → (0 ≤ L5_71.toInt ∧ L5_71.toInt ≤ mbl.toInt + 1) → (mbl.toInt + 1 - L5_71.toInt) < (n : Int) → ∀ (H : Heap) (locs : List Loc) (ls : Array Slot), va_P (dC, dI) vwCl [(m0, .inr (8, [.int mth, .int mst, .ref mp, .int mln, .ref mk, .int mts, .ref mti, .ref mtw, .ref mi, .int mmn_71, .ref mpo, .int mpd, .ref mpi, .int mpl, .int mcp, .ref mre, .ref mnn, .ref mwo, .ref mga, .ref mlo, .ref mro, .ref mle, .ref mra, .int mme, .ref mha, .int mch, .int mtm, .int mgo, .int mwa, .ref mba, .int mbl, .ref mon])), (mi, .inl (cI, 12, .inl mif_71)), (mba, .inl (cI, 12, .inl mbaf))] H → va_D A [(m0, .inr (8, [.int mth, .int mst, .ref mp, .int mln, .ref mk, .int mts, .ref mti, .ref mtw, .ref mi, .int mmn_71, .ref mpo, .int mpd, .ref mpi, .int mpl, .int mcp, .ref mre, .ref mnn, .ref mwo, .ref mga, .ref mlo, .ref mro, .ref mle, .ref mra, .int mme, .ref mha, .int mch, .int mtm, .int mgo, .int mwa, .ref mba, .int mbl, .ref mon])), (mi, .inl (cI, 12, .inl mif_71)), (mba, .inl (cI, 12, .inl mbaf))] → va_S A s.heap H locs → lv_has ls 6 [(5, .int L5_71), (4, .int 0), (3, .int v2), (2, .int v1), (0, .ref m0), (1, .int x)] → W p l e { frames := 0, cells := 0, slots := 0, locals := 0 } s m (List.toArray [.ref m0, .int x]) below meth c H locs 0 0 Q (F0 m 71 ls []) := by
            intro n
            induction n with
            | zero =>
              intro L5_71 mmn_71 mif_71 hi0_71 hi1_71 hi2_71 hm
              exact absurd hm (by omega)
            | succ n ih71 =>
              intro L5_71 mmn_71 mif_71 hi0_71 hi1_71 hi2_71 hm71 H locs ls hP hD hS hl
              refine lv_iload hx hb dX9_change_71 (lv_at hl 0 rfl) ?_
              refine lv_aload_n hx hb dX9_change_73 rfl (lv_at hl 4 rfl) ?_
              refine va_get (D := (dC, dI)) (ci := 8) (v := .int mbl) (C := RX9) (T := TX9) (N := 32) hx hb hts inG_X9 hown hK hP 0 rfl rfl 30 (by decide) (hts _ fl_X9_177) (fun _ h9 => h9) rfl dX9_change_74 ?_
              refine lv_icmp_gt (tgt := 176) hx hb dX9_change_77 (by decide) (fun c7 => ?_) (fun c7 => ?_)
              · have c7' := I_lt c7
                refine lv_iconst (v := 1) hx hb dX9_change_176 (by decide) ?_
                exact hret 1 (mmn_71, mif_71) H locs 177 ls (by first | rfl | exact I_narz (by omega)) ⟨(show (1 : Int32).toInt = 0 ∨ (1 : Int32).toInt = 1 from by first | rfl | assumption | omega), (show 0 ≤ mmn_71.toInt ∧ mmn_71.toInt ≤ 12 from by first | rfl | assumption | omega), (show (1 : Int32).toInt = 0 ∨ mmn_71.toInt ≤ mbl.toInt + 1 from by first | rfl | assumption | omega), trivial⟩ hP hD hS dX9_change_177
              · have c7' := I_nlt c7
                have J170 : ∀ (mmn_170 : Int32) (mif_170 : Nat → Int32), (0 ≤ mmn_170.toInt ∧ mmn_170.toInt ≤ L5_71.toInt + 2 ∧ mmn_170.toInt ≤ mbl.toInt + 1) → (v1.toInt < L5_71.toInt + 1 ∨ mmn_170.toInt ≤ L5_71.toInt + 1) → ∀ (H : Heap) (locs : List Loc) (ls : Array Slot), va_P (dC, dI) vwCl [(m0, .inr (8, [.int mth, .int mst, .ref mp, .int mln, .ref mk, .int mts, .ref mti, .ref mtw, .ref mi, .int mmn_170, .ref mpo, .int mpd, .ref mpi, .int mpl, .int mcp, .ref mre, .ref mnn, .ref mwo, .ref mga, .ref mlo, .ref mro, .ref mle, .ref mra, .int mme, .ref mha, .int mch, .int mtm, .int mgo, .int mwa, .ref mba, .int mbl, .ref mon])), (mi, .inl (cI, 12, .inl mif_170)), (mba, .inl (cI, 12, .inl mbaf))] H → va_D A [(m0, .inr (8, [.int mth, .int mst, .ref mp, .int mln, .ref mk, .int mts, .ref mti, .ref mtw, .ref mi, .int mmn_170, .ref mpo, .int mpd, .ref mpi, .int mpl, .int mcp, .ref mre, .ref mnn, .ref mwo, .ref mga, .ref mlo, .ref mro, .ref mle, .ref mra, .int mme, .ref mha, .int mch, .int mtm, .int mgo, .int mwa, .ref mba, .int mbl, .ref mon])), (mi, .inl (cI, 12, .inl mif_170)), (mba, .inl (cI, 12, .inl mbaf))] → va_S A s.heap H locs → lv_has ls 6 [(5, .int L5_71), (4, .int 0), (3, .int v2), (2, .int v1), (0, .ref m0), (1, .int x)] → W p l e { frames := 0, cells := 0, slots := 0, locals := 0 } s m (List.toArray [.ref m0, .int x]) below meth c H locs 0 0 Q (F0 m 170 ls []) := by
                  intro mmn_170 mif_170 hi0_170 hi1_170 H locs ls hP hD hS hl
                  obtain ⟨v8, ev8⟩ : ∃ y : Int32, y = L5_71 + 1 := ⟨_, rfl⟩
                  try have hv8 : v8.toInt = L5_71.toInt + (1 : Int32).toInt := I_addx ev8 (by omega)
                  refine lv_iinc (v := v8) (lv' := [(5, .int v8), (4, .int 0), (3, .int v2), (2, .int v1), (0, .ref m0), (1, .int x)]) hx hb dX9_change_170 hl (k := 0) rfl (by rw [ev8]; rfl) (by decide) rfl (fun ls hl => ?_)
                  refine lv_goto (tgt := 71) hx hb dX9_change_173 (by decide) ?_
                  exact ih71 v8 mmn_170 mif_170 (by first | assumption | omega) (by first | assumption | omega) (by first | assumption | omega) (by omega) H locs ls hP hD hS hl
                refine lv_iload hx hb dX9_change_80 (lv_at hl 0 rfl) ?_
                refine lv_iload_n hx hb dX9_change_82 rfl (lv_at hl 3 rfl) ?_
                refine lv_icmp_ne (tgt := 124) hx hb dX9_change_83 (by decide) (fun c9 => ?_) (fun c9 => ?_)
                · have c9' := I_ne c9
                  refine lv_iload hx hb dX9_change_124 (lv_at hl 0 rfl) ?_
                  refine lv_aload_n hx hb dX9_change_126 rfl (lv_at hl 4 rfl) ?_
                  refine va_get (D := (dC, dI)) (ci := 8) (v := .int mbl) (C := RX9) (T := TX9) (N := 32) hx hb hts inG_X9 hown hK hP 0 rfl rfl 30 (by decide) (hts _ fl_X9_177) (fun _ h9 => h9) rfl dX9_change_127 ?_
                  refine lv_icmp_ge (tgt := 170) hx hb dX9_change_130 (by decide) (fun c10 => ?_) (fun c10 => ?_)
                  · have c10' := I_le c10
                    exact J170 mmn_71 mif_71 (by first | assumption | omega) (by first | assumption | omega) H locs ls hP hD hS hl
                  · have c10' := I_nle c10
                    refine lv_iload hx hb dX9_change_133 (lv_at hl 0 rfl) ?_
                    refine lv_iload_n hx hb dX9_change_135 rfl (lv_at hl 3 rfl) ?_
                    refine lv_icmp_ne (tgt := 144) hx hb dX9_change_136 (by decide) (fun c11 => ?_) (fun c11 => ?_)
                    · have c11' := I_ne c11
                      refine lv_aload_n hx hb dX9_change_144 rfl (lv_at hl 4 rfl) ?_
                      refine va_get (D := (dC, dI)) (ci := 8) (v := .ref mi) (C := RX9) (T := TX9) (N := 32) hx hb hts inG_X9 hown hK hP 0 rfl rfl 8 (by decide) (hts _ fl_X9_22) (fun _ h9 => h9) rfl dX9_change_145 ?_
                      refine lv_aload_n hx hb dX9_change_148 rfl (lv_at hl 4 rfl) ?_
                      refine va_get (D := (dC, dI)) (ci := 8) (v := .int mmn_71) (C := RX9) (T := TX9) (N := 32) hx hb hts inG_X9 hown hK hP 0 rfl rfl 9 (by decide) (hts _ fl_X9_114) (fun _ h9 => h9) rfl dX9_change_149 ?_
                      refine lv_aload_n hx hb dX9_change_152 rfl (lv_at hl 4 rfl) ?_
                      refine va_get (D := (dC, dI)) (ci := 8) (v := .ref mba) (C := RX9) (T := TX9) (N := 32) hx hb hts inG_X9 hown hK hP 0 rfl rfl 29 (by decide) (hts _ fl_X9_63) (fun _ h9 => h9) rfl dX9_change_153 ?_
                      refine lv_iload hx hb dX9_change_156 (lv_at hl 0 rfl) ?_
                      refine va_iald (t0 := 0) hx hb hK hP 2 (ha := rfl) (ht := rfl) (I_in (by omega) (by omega)) dX9_change_158 ?_
                      refine lv_topi (fun v12 ev12 => ?_)
                      refine va_iast (t0 := 0) hx hb hK hP hD hS 1 (ha := rfl) (ht := rfl) (I_in (by omega) (by omega)) dX9_change_159 (fun H locs hP hD hS => ?_)
                      have hP : va_P (dC, dI) vwCl [(m0, .inr (8, [.int mth, .int mst, .ref mp, .int mln, .ref mk, .int mts, .ref mti, .ref mtw, .ref mi, .int mmn_71, .ref mpo, .int mpd, .ref mpi, .int mpl, .int mcp, .ref mre, .ref mnn, .ref mwo, .ref mga, .ref mlo, .ref mro, .ref mle, .ref mra, .int mme, .ref mha, .int mch, .int mtm, .int mgo, .int mwa, .ref mba, .int mbl, .ref mon])), (mi, .inl (cI, 12, .inl (upd mif_71 mmn_71.toNatClampNeg v12))), (mba, .inl (cI, 12, .inl mbaf))] H := hP
                      have hD : va_D A [(m0, .inr (8, [.int mth, .int mst, .ref mp, .int mln, .ref mk, .int mts, .ref mti, .ref mtw, .ref mi, .int mmn_71, .ref mpo, .int mpd, .ref mpi, .int mpl, .int mcp, .ref mre, .ref mnn, .ref mwo, .ref mga, .ref mlo, .ref mro, .ref mle, .ref mra, .int mme, .ref mha, .int mch, .int mtm, .int mgo, .int mwa, .ref mba, .int mbl, .ref mon])), (mi, .inl (cI, 12, .inl (upd mif_71 mmn_71.toNatClampNeg v12))), (mba, .inl (cI, 12, .inl mbaf))] := hD
                      generalize ef13 : upd mif_71 mmn_71.toNatClampNeg v12 = f13 at hP hD
                      refine lv_aload_n hx hb dX9_change_160 rfl (lv_at hl 4 rfl) ?_
                      refine lv_dup hx hb dX9_change_161 rfl ?_
                      refine va_get (D := (dC, dI)) (ci := 8) (v := .int mmn_71) (C := RX9) (T := TX9) (N := 32) hx hb hts inG_X9 hown hK hP 0 rfl rfl 9 (by decide) (hts _ fl_X9_114) (fun _ h9 => h9) rfl dX9_change_162 ?_
                      refine lv_iconst (v := 1) hx hb dX9_change_165 (by decide) ?_
                      refine lv_iadd hx hb dX9_change_166 ?_
                      refine lv_topi (fun v14 ev14 => ?_)
                      try have hv14 : v14.toInt = mmn_71.toInt + (1 : Int32).toInt := I_addx ev14 (by omega)
                      refine va_put (D := (dC, dI)) (ci := 8) (v := .int v14) (ty := .int) (C := RX9) (T := TX9) (N := 32) hx hb hts inG_X9 tyX9 tyX9_ok nmX9 hown hK hP hD hS 0 rfl rfl 9 (by decide) (hts _ fl_X9_114) (fun _ h9 => h9) rfl (by decide +kernel) rfl rfl (Nat.le_of_ble_eq_true rfl) dX9_change_167 (fun H locs hP hD hS => ?_)
                      have hP : va_P (dC, dI) vwCl [(m0, .inr (8, [.int mth, .int mst, .ref mp, .int mln, .ref mk, .int mts, .ref mti, .ref mtw, .ref mi, .int v14, .ref mpo, .int mpd, .ref mpi, .int mpl, .int mcp, .ref mre, .ref mnn, .ref mwo, .ref mga, .ref mlo, .ref mro, .ref mle, .ref mra, .int mme, .ref mha, .int mch, .int mtm, .int mgo, .int mwa, .ref mba, .int mbl, .ref mon])), (mi, .inl (cI, 12, .inl f13)), (mba, .inl (cI, 12, .inl mbaf))] H := hP
                      have hD : va_D A [(m0, .inr (8, [.int mth, .int mst, .ref mp, .int mln, .ref mk, .int mts, .ref mti, .ref mtw, .ref mi, .int v14, .ref mpo, .int mpd, .ref mpi, .int mpl, .int mcp, .ref mre, .ref mnn, .ref mwo, .ref mga, .ref mlo, .ref mro, .ref mle, .ref mra, .int mme, .ref mha, .int mch, .int mtm, .int mgo, .int mwa, .ref mba, .int mbl, .ref mon])), (mi, .inl (cI, 12, .inl f13)), (mba, .inl (cI, 12, .inl mbaf))] := hD
                      exact J170 v14 f13 (by first | assumption | omega) (by first | assumption | omega) H locs ls hP hD hS hl
                    · have c11' := I_eq c11
                      refine lv_iload hx hb dX9_change_139 (lv_at hl 1 rfl) ?_
                      refine lv_if_eq (tgt := 170) hx hb dX9_change_141 (by decide) (fun c15 => ?_) (fun c15 => ?_)
                      · have c15' := I_eq c15
                        exact J170 mmn_71 mif_71 (by first | assumption | omega) (by first | assumption | omega) H locs ls hP hD hS hl
                      · have c15' := I_ne c15
                        exact absurd c15 (by decide)
                · have c9' := I_eq c9
                  refine lv_iload_n hx hb dX9_change_86 rfl (lv_at hl 2 rfl) ?_
                  refine lv_bipush (v := 56) hx hb dX9_change_87 (by decide) ?_
                  refine lv_icmp_ge (tgt := 124) hx hb dX9_change_89 (by decide) (fun c16 => ?_) (fun c16 => ?_)
                  · have c16' := I_le c16
                    refine lv_iload hx hb dX9_change_124 (lv_at hl 0 rfl) ?_
                    refine lv_aload_n hx hb dX9_change_126 rfl (lv_at hl 4 rfl) ?_
                    refine va_get (D := (dC, dI)) (ci := 8) (v := .int mbl) (C := RX9) (T := TX9) (N := 32) hx hb hts inG_X9 hown hK hP 0 rfl rfl 30 (by decide) (hts _ fl_X9_177) (fun _ h9 => h9) rfl dX9_change_127 ?_
                    refine lv_icmp_ge (tgt := 170) hx hb dX9_change_130 (by decide) (fun c17 => ?_) (fun c17 => ?_)
                    · have c17' := I_le c17
                      exact J170 mmn_71 mif_71 (by first | assumption | omega) (by first | assumption | omega) H locs ls hP hD hS hl
                    · have c17' := I_nle c17
                      refine lv_iload hx hb dX9_change_133 (lv_at hl 0 rfl) ?_
                      refine lv_iload_n hx hb dX9_change_135 rfl (lv_at hl 3 rfl) ?_
                      refine lv_icmp_ne (tgt := 144) hx hb dX9_change_136 (by decide) (fun c18 => ?_) (fun c18 => ?_)
                      · have c18' := I_ne c18
                        refine lv_aload_n hx hb dX9_change_144 rfl (lv_at hl 4 rfl) ?_
                        refine va_get (D := (dC, dI)) (ci := 8) (v := .ref mi) (C := RX9) (T := TX9) (N := 32) hx hb hts inG_X9 hown hK hP 0 rfl rfl 8 (by decide) (hts _ fl_X9_22) (fun _ h9 => h9) rfl dX9_change_145 ?_
                        refine lv_aload_n hx hb dX9_change_148 rfl (lv_at hl 4 rfl) ?_
                        refine va_get (D := (dC, dI)) (ci := 8) (v := .int mmn_71) (C := RX9) (T := TX9) (N := 32) hx hb hts inG_X9 hown hK hP 0 rfl rfl 9 (by decide) (hts _ fl_X9_114) (fun _ h9 => h9) rfl dX9_change_149 ?_
                        refine lv_aload_n hx hb dX9_change_152 rfl (lv_at hl 4 rfl) ?_
                        refine va_get (D := (dC, dI)) (ci := 8) (v := .ref mba) (C := RX9) (T := TX9) (N := 32) hx hb hts inG_X9 hown hK hP 0 rfl rfl 29 (by decide) (hts _ fl_X9_63) (fun _ h9 => h9) rfl dX9_change_153 ?_
                        refine lv_iload hx hb dX9_change_156 (lv_at hl 0 rfl) ?_
                        refine va_iald (t0 := 0) hx hb hK hP 2 (ha := rfl) (ht := rfl) (I_in (by omega) (by omega)) dX9_change_158 ?_
                        refine lv_topi (fun v19 ev19 => ?_)
                        refine va_iast (t0 := 0) hx hb hK hP hD hS 1 (ha := rfl) (ht := rfl) (I_in (by omega) (by omega)) dX9_change_159 (fun H locs hP hD hS => ?_)
                        have hP : va_P (dC, dI) vwCl [(m0, .inr (8, [.int mth, .int mst, .ref mp, .int mln, .ref mk, .int mts, .ref mti, .ref mtw, .ref mi, .int mmn_71, .ref mpo, .int mpd, .ref mpi, .int mpl, .int mcp, .ref mre, .ref mnn, .ref mwo, .ref mga, .ref mlo, .ref mro, .ref mle, .ref mra, .int mme, .ref mha, .int mch, .int mtm, .int mgo, .int mwa, .ref mba, .int mbl, .ref mon])), (mi, .inl (cI, 12, .inl (upd mif_71 mmn_71.toNatClampNeg v19))), (mba, .inl (cI, 12, .inl mbaf))] H := hP
                        have hD : va_D A [(m0, .inr (8, [.int mth, .int mst, .ref mp, .int mln, .ref mk, .int mts, .ref mti, .ref mtw, .ref mi, .int mmn_71, .ref mpo, .int mpd, .ref mpi, .int mpl, .int mcp, .ref mre, .ref mnn, .ref mwo, .ref mga, .ref mlo, .ref mro, .ref mle, .ref mra, .int mme, .ref mha, .int mch, .int mtm, .int mgo, .int mwa, .ref mba, .int mbl, .ref mon])), (mi, .inl (cI, 12, .inl (upd mif_71 mmn_71.toNatClampNeg v19))), (mba, .inl (cI, 12, .inl mbaf))] := hD
                        generalize ef20 : upd mif_71 mmn_71.toNatClampNeg v19 = f20 at hP hD
                        refine lv_aload_n hx hb dX9_change_160 rfl (lv_at hl 4 rfl) ?_
                        refine lv_dup hx hb dX9_change_161 rfl ?_
                        refine va_get (D := (dC, dI)) (ci := 8) (v := .int mmn_71) (C := RX9) (T := TX9) (N := 32) hx hb hts inG_X9 hown hK hP 0 rfl rfl 9 (by decide) (hts _ fl_X9_114) (fun _ h9 => h9) rfl dX9_change_162 ?_
                        refine lv_iconst (v := 1) hx hb dX9_change_165 (by decide) ?_
                        refine lv_iadd hx hb dX9_change_166 ?_
                        refine lv_topi (fun v21 ev21 => ?_)
                        try have hv21 : v21.toInt = mmn_71.toInt + (1 : Int32).toInt := I_addx ev21 (by omega)
                        refine va_put (D := (dC, dI)) (ci := 8) (v := .int v21) (ty := .int) (C := RX9) (T := TX9) (N := 32) hx hb hts inG_X9 tyX9 tyX9_ok nmX9 hown hK hP hD hS 0 rfl rfl 9 (by decide) (hts _ fl_X9_114) (fun _ h9 => h9) rfl (by decide +kernel) rfl rfl (Nat.le_of_ble_eq_true rfl) dX9_change_167 (fun H locs hP hD hS => ?_)
                        have hP : va_P (dC, dI) vwCl [(m0, .inr (8, [.int mth, .int mst, .ref mp, .int mln, .ref mk, .int mts, .ref mti, .ref mtw, .ref mi, .int v21, .ref mpo, .int mpd, .ref mpi, .int mpl, .int mcp, .ref mre, .ref mnn, .ref mwo, .ref mga, .ref mlo, .ref mro, .ref mle, .ref mra, .int mme, .ref mha, .int mch, .int mtm, .int mgo, .int mwa, .ref mba, .int mbl, .ref mon])), (mi, .inl (cI, 12, .inl f20)), (mba, .inl (cI, 12, .inl mbaf))] H := hP
                        have hD : va_D A [(m0, .inr (8, [.int mth, .int mst, .ref mp, .int mln, .ref mk, .int mts, .ref mti, .ref mtw, .ref mi, .int v21, .ref mpo, .int mpd, .ref mpi, .int mpl, .int mcp, .ref mre, .ref mnn, .ref mwo, .ref mga, .ref mlo, .ref mro, .ref mle, .ref mra, .int mme, .ref mha, .int mch, .int mtm, .int mgo, .int mwa, .ref mba, .int mbl, .ref mon])), (mi, .inl (cI, 12, .inl f20)), (mba, .inl (cI, 12, .inl mbaf))] := hD
                        exact J170 v21 f20 (by first | assumption | omega) (by first | assumption | omega) H locs ls hP hD hS hl
                      · have c18' := I_eq c18
                        refine lv_iload hx hb dX9_change_139 (lv_at hl 1 rfl) ?_
                        refine lv_if_eq (tgt := 170) hx hb dX9_change_141 (by decide) (fun c22 => ?_) (fun c22 => ?_)
                        · have c22' := I_eq c22
                          exact J170 mmn_71 mif_71 (by first | assumption | omega) (by first | assumption | omega) H locs ls hP hD hS hl
                        · have c22' := I_ne c22
                          exact absurd c22 (by decide)
                  · have c16' := I_nle c16
                    refine lv_aload_n hx hb dX9_change_92 rfl (lv_at hl 4 rfl) ?_
                    refine va_get (D := (dC, dI)) (ci := 8) (v := .ref mi) (C := RX9) (T := TX9) (N := 32) hx hb hts inG_X9 hown hK hP 0 rfl rfl 8 (by decide) (hts _ fl_X9_22) (fun _ h9 => h9) rfl dX9_change_93 ?_
                    refine lv_aload_n hx hb dX9_change_96 rfl (lv_at hl 4 rfl) ?_
                    refine va_get (D := (dC, dI)) (ci := 8) (v := .int mmn_71) (C := RX9) (T := TX9) (N := 32) hx hb hts inG_X9 hown hK hP 0 rfl rfl 9 (by decide) (hts _ fl_X9_114) (fun _ h9 => h9) rfl dX9_change_97 ?_
                    refine lv_iload hx hb dX9_change_100 (lv_at hl 1 rfl) ?_
                    refine lv_if_eq (tgt := 109) hx hb dX9_change_102 (by decide) (fun c23 => ?_) (fun c23 => ?_)
                    · have c23' := I_eq c23
                      refine lv_iload_n hx hb dX9_change_109 rfl (lv_at hl 2 rfl) ?_
                      refine lv_bipush (v := 28) hx hb dX9_change_110 (by decide) ?_
                      refine lv_isub hx hb dX9_change_112 ?_
                      refine lv_topi (fun v24 ev24 => ?_)
                      try have hv24 : v24.toInt = v2.toInt - (28 : Int32).toInt := I_subx ev24 (by omega)
                      refine va_iast (t0 := 0) hx hb hK hP hD hS 1 (ha := rfl) (ht := rfl) (I_in (by omega) (by omega)) dX9_change_113 (fun H locs hP hD hS => ?_)
                      have hP : va_P (dC, dI) vwCl [(m0, .inr (8, [.int mth, .int mst, .ref mp, .int mln, .ref mk, .int mts, .ref mti, .ref mtw, .ref mi, .int mmn_71, .ref mpo, .int mpd, .ref mpi, .int mpl, .int mcp, .ref mre, .ref mnn, .ref mwo, .ref mga, .ref mlo, .ref mro, .ref mle, .ref mra, .int mme, .ref mha, .int mch, .int mtm, .int mgo, .int mwa, .ref mba, .int mbl, .ref mon])), (mi, .inl (cI, 12, .inl (upd mif_71 mmn_71.toNatClampNeg v24))), (mba, .inl (cI, 12, .inl mbaf))] H := hP
                      have hD : va_D A [(m0, .inr (8, [.int mth, .int mst, .ref mp, .int mln, .ref mk, .int mts, .ref mti, .ref mtw, .ref mi, .int mmn_71, .ref mpo, .int mpd, .ref mpi, .int mpl, .int mcp, .ref mre, .ref mnn, .ref mwo, .ref mga, .ref mlo, .ref mro, .ref mle, .ref mra, .int mme, .ref mha, .int mch, .int mtm, .int mgo, .int mwa, .ref mba, .int mbl, .ref mon])), (mi, .inl (cI, 12, .inl (upd mif_71 mmn_71.toNatClampNeg v24))), (mba, .inl (cI, 12, .inl mbaf))] := hD
                      generalize ef25 : upd mif_71 mmn_71.toNatClampNeg v24 = f25 at hP hD
                      refine lv_aload_n hx hb dX9_change_114 rfl (lv_at hl 4 rfl) ?_
                      refine lv_dup hx hb dX9_change_115 rfl ?_
                      refine va_get (D := (dC, dI)) (ci := 8) (v := .int mmn_71) (C := RX9) (T := TX9) (N := 32) hx hb hts inG_X9 hown hK hP 0 rfl rfl 9 (by decide) (hts _ fl_X9_114) (fun _ h9 => h9) rfl dX9_change_116 ?_
                      refine lv_iconst (v := 1) hx hb dX9_change_119 (by decide) ?_
                      refine lv_iadd hx hb dX9_change_120 ?_
                      refine lv_topi (fun v26 ev26 => ?_)
                      try have hv26 : v26.toInt = mmn_71.toInt + (1 : Int32).toInt := I_addx ev26 (by omega)
                      refine va_put (D := (dC, dI)) (ci := 8) (v := .int v26) (ty := .int) (C := RX9) (T := TX9) (N := 32) hx hb hts inG_X9 tyX9 tyX9_ok nmX9 hown hK hP hD hS 0 rfl rfl 9 (by decide) (hts _ fl_X9_114) (fun _ h9 => h9) rfl (by decide +kernel) rfl rfl (Nat.le_of_ble_eq_true rfl) dX9_change_121 (fun H locs hP hD hS => ?_)
                      have hP : va_P (dC, dI) vwCl [(m0, .inr (8, [.int mth, .int mst, .ref mp, .int mln, .ref mk, .int mts, .ref mti, .ref mtw, .ref mi, .int v26, .ref mpo, .int mpd, .ref mpi, .int mpl, .int mcp, .ref mre, .ref mnn, .ref mwo, .ref mga, .ref mlo, .ref mro, .ref mle, .ref mra, .int mme, .ref mha, .int mch, .int mtm, .int mgo, .int mwa, .ref mba, .int mbl, .ref mon])), (mi, .inl (cI, 12, .inl f25)), (mba, .inl (cI, 12, .inl mbaf))] H := hP
                      have hD : va_D A [(m0, .inr (8, [.int mth, .int mst, .ref mp, .int mln, .ref mk, .int mts, .ref mti, .ref mtw, .ref mi, .int v26, .ref mpo, .int mpd, .ref mpi, .int mpl, .int mcp, .ref mre, .ref mnn, .ref mwo, .ref mga, .ref mlo, .ref mro, .ref mle, .ref mra, .int mme, .ref mha, .int mch, .int mtm, .int mgo, .int mwa, .ref mba, .int mbl, .ref mon])), (mi, .inl (cI, 12, .inl f25)), (mba, .inl (cI, 12, .inl mbaf))] := hD
                      refine lv_iload hx hb dX9_change_124 (lv_at hl 0 rfl) ?_
                      refine lv_aload_n hx hb dX9_change_126 rfl (lv_at hl 4 rfl) ?_
                      refine va_get (D := (dC, dI)) (ci := 8) (v := .int mbl) (C := RX9) (T := TX9) (N := 32) hx hb hts inG_X9 hown hK hP 0 rfl rfl 30 (by decide) (hts _ fl_X9_177) (fun _ h9 => h9) rfl dX9_change_127 ?_
                      refine lv_icmp_ge (tgt := 170) hx hb dX9_change_130 (by decide) (fun c27 => ?_) (fun c27 => ?_)
                      · have c27' := I_le c27
                        exact J170 v26 f25 (by first | assumption | omega) (by first | assumption | omega) H locs ls hP hD hS hl
                      · have c27' := I_nle c27
                        refine lv_iload hx hb dX9_change_133 (lv_at hl 0 rfl) ?_
                        refine lv_iload_n hx hb dX9_change_135 rfl (lv_at hl 3 rfl) ?_
                        refine lv_icmp_ne (tgt := 144) hx hb dX9_change_136 (by decide) (fun c28 => ?_) (fun c28 => ?_)
                        · have c28' := I_ne c28
                          refine lv_aload_n hx hb dX9_change_144 rfl (lv_at hl 4 rfl) ?_
                          refine va_get (D := (dC, dI)) (ci := 8) (v := .ref mi) (C := RX9) (T := TX9) (N := 32) hx hb hts inG_X9 hown hK hP 0 rfl rfl 8 (by decide) (hts _ fl_X9_22) (fun _ h9 => h9) rfl dX9_change_145 ?_
                          refine lv_aload_n hx hb dX9_change_148 rfl (lv_at hl 4 rfl) ?_
                          refine va_get (D := (dC, dI)) (ci := 8) (v := .int v26) (C := RX9) (T := TX9) (N := 32) hx hb hts inG_X9 hown hK hP 0 rfl rfl 9 (by decide) (hts _ fl_X9_114) (fun _ h9 => h9) rfl dX9_change_149 ?_
                          refine lv_aload_n hx hb dX9_change_152 rfl (lv_at hl 4 rfl) ?_
                          refine va_get (D := (dC, dI)) (ci := 8) (v := .ref mba) (C := RX9) (T := TX9) (N := 32) hx hb hts inG_X9 hown hK hP 0 rfl rfl 29 (by decide) (hts _ fl_X9_63) (fun _ h9 => h9) rfl dX9_change_153 ?_
                          refine lv_iload hx hb dX9_change_156 (lv_at hl 0 rfl) ?_
                          refine va_iald (t0 := 0) hx hb hK hP 2 (ha := rfl) (ht := rfl) (I_in (by omega) (by omega)) dX9_change_158 ?_
                          refine lv_topi (fun v29 ev29 => ?_)
                          refine va_iast (t0 := 0) hx hb hK hP hD hS 1 (ha := rfl) (ht := rfl) (I_in (by omega) (by omega)) dX9_change_159 (fun H locs hP hD hS => ?_)
                          have hP : va_P (dC, dI) vwCl [(m0, .inr (8, [.int mth, .int mst, .ref mp, .int mln, .ref mk, .int mts, .ref mti, .ref mtw, .ref mi, .int v26, .ref mpo, .int mpd, .ref mpi, .int mpl, .int mcp, .ref mre, .ref mnn, .ref mwo, .ref mga, .ref mlo, .ref mro, .ref mle, .ref mra, .int mme, .ref mha, .int mch, .int mtm, .int mgo, .int mwa, .ref mba, .int mbl, .ref mon])), (mi, .inl (cI, 12, .inl (upd f25 v26.toNatClampNeg v29))), (mba, .inl (cI, 12, .inl mbaf))] H := hP
                          have hD : va_D A [(m0, .inr (8, [.int mth, .int mst, .ref mp, .int mln, .ref mk, .int mts, .ref mti, .ref mtw, .ref mi, .int v26, .ref mpo, .int mpd, .ref mpi, .int mpl, .int mcp, .ref mre, .ref mnn, .ref mwo, .ref mga, .ref mlo, .ref mro, .ref mle, .ref mra, .int mme, .ref mha, .int mch, .int mtm, .int mgo, .int mwa, .ref mba, .int mbl, .ref mon])), (mi, .inl (cI, 12, .inl (upd f25 v26.toNatClampNeg v29))), (mba, .inl (cI, 12, .inl mbaf))] := hD
                          generalize ef30 : upd f25 v26.toNatClampNeg v29 = f30 at hP hD
                          refine lv_aload_n hx hb dX9_change_160 rfl (lv_at hl 4 rfl) ?_
                          refine lv_dup hx hb dX9_change_161 rfl ?_
                          refine va_get (D := (dC, dI)) (ci := 8) (v := .int v26) (C := RX9) (T := TX9) (N := 32) hx hb hts inG_X9 hown hK hP 0 rfl rfl 9 (by decide) (hts _ fl_X9_114) (fun _ h9 => h9) rfl dX9_change_162 ?_
                          refine lv_iconst (v := 1) hx hb dX9_change_165 (by decide) ?_
                          refine lv_iadd hx hb dX9_change_166 ?_
                          refine lv_topi (fun v31 ev31 => ?_)
                          try have hv31 : v31.toInt = v26.toInt + (1 : Int32).toInt := I_addx ev31 (by omega)
                          refine va_put (D := (dC, dI)) (ci := 8) (v := .int v31) (ty := .int) (C := RX9) (T := TX9) (N := 32) hx hb hts inG_X9 tyX9 tyX9_ok nmX9 hown hK hP hD hS 0 rfl rfl 9 (by decide) (hts _ fl_X9_114) (fun _ h9 => h9) rfl (by decide +kernel) rfl rfl (Nat.le_of_ble_eq_true rfl) dX9_change_167 (fun H locs hP hD hS => ?_)
                          have hP : va_P (dC, dI) vwCl [(m0, .inr (8, [.int mth, .int mst, .ref mp, .int mln, .ref mk, .int mts, .ref mti, .ref mtw, .ref mi, .int v31, .ref mpo, .int mpd, .ref mpi, .int mpl, .int mcp, .ref mre, .ref mnn, .ref mwo, .ref mga, .ref mlo, .ref mro, .ref mle, .ref mra, .int mme, .ref mha, .int mch, .int mtm, .int mgo, .int mwa, .ref mba, .int mbl, .ref mon])), (mi, .inl (cI, 12, .inl f30)), (mba, .inl (cI, 12, .inl mbaf))] H := hP
                          have hD : va_D A [(m0, .inr (8, [.int mth, .int mst, .ref mp, .int mln, .ref mk, .int mts, .ref mti, .ref mtw, .ref mi, .int v31, .ref mpo, .int mpd, .ref mpi, .int mpl, .int mcp, .ref mre, .ref mnn, .ref mwo, .ref mga, .ref mlo, .ref mro, .ref mle, .ref mra, .int mme, .ref mha, .int mch, .int mtm, .int mgo, .int mwa, .ref mba, .int mbl, .ref mon])), (mi, .inl (cI, 12, .inl f30)), (mba, .inl (cI, 12, .inl mbaf))] := hD
                          exact J170 v31 f30 (by first | assumption | omega) (by first | assumption | omega) H locs ls hP hD hS hl
                        · have c28' := I_eq c28
                          refine lv_iload hx hb dX9_change_139 (lv_at hl 1 rfl) ?_
                          refine lv_if_eq (tgt := 170) hx hb dX9_change_141 (by decide) (fun c32 => ?_) (fun c32 => ?_)
                          · have c32' := I_eq c32
                            exact J170 v26 f25 (by first | assumption | omega) (by first | assumption | omega) H locs ls hP hD hS hl
                          · have c32' := I_ne c32
                            exact absurd c32 (by decide)
                    · have c23' := I_ne c23
                      exact absurd c23 (by decide)
          exact J71 ((mbl.toInt + 1 - (0 : Int32).toInt).toNat + 1) 0 0 mif (by first | assumption | omega) (by first | assumption | omega) (by first | assumption | omega) (by omega) H locs ls hP hD hS hl
        · have c6' := I_nlt c6
          refine lv_iload_n hx hb dX9_change_42 rfl (lv_at hl 1 rfl) ?_
          refine lv_bipush (v := 56) hx hb dX9_change_43 (by decide) ?_
          refine lv_icmp_ge (tgt := 63) hx hb dX9_change_45 (by decide) (fun c33 => ?_) (fun c33 => ?_)
          · have c33' := I_le c33
            refine lv_aload_n hx hb dX9_change_63 rfl (lv_at hl 3 rfl) ?_
            refine lv_iconst (v := 0) hx hb dX9_change_64 (by decide) ?_
            refine va_put (D := (dC, dI)) (ci := 8) (v := .int 0) (ty := .int) (C := RX9) (T := TX9) (N := 32) hx hb hts inG_X9 tyX9 tyX9_ok nmX9 hown hK hP hD hS 0 rfl rfl 9 (by decide) (hts _ fl_X9_114) (fun _ h9 => h9) rfl (by decide +kernel) rfl rfl (Nat.le_of_ble_eq_true rfl) dX9_change_65 (fun H locs hP hD hS => ?_)
            have hP : va_P (dC, dI) vwCl [(m0, .inr (8, [.int mth, .int mst, .ref mp, .int mln, .ref mk, .int mts, .ref mti, .ref mtw, .ref mi, .int 0, .ref mpo, .int mpd, .ref mpi, .int mpl, .int mcp, .ref mre, .ref mnn, .ref mwo, .ref mga, .ref mlo, .ref mro, .ref mle, .ref mra, .int mme, .ref mha, .int mch, .int mtm, .int mgo, .int mwa, .ref mba, .int mbl, .ref mon])), (mi, .inl (cI, 12, .inl mif)), (mba, .inl (cI, 12, .inl mbaf))] H := hP
            have hD : va_D A [(m0, .inr (8, [.int mth, .int mst, .ref mp, .int mln, .ref mk, .int mts, .ref mti, .ref mtw, .ref mi, .int 0, .ref mpo, .int mpd, .ref mpi, .int mpl, .int mcp, .ref mre, .ref mnn, .ref mwo, .ref mga, .ref mlo, .ref mro, .ref mle, .ref mra, .int mme, .ref mha, .int mch, .int mtm, .int mgo, .int mwa, .ref mba, .int mbl, .ref mon])), (mi, .inl (cI, 12, .inl mif)), (mba, .inl (cI, 12, .inl mbaf))] := hD
            refine lv_iconst (v := 0) hx hb dX9_change_68 (by decide) ?_
            refine lv_istore (lv' := [(5, .int 0), (4, .int 0), (3, .int v2), (2, .int v1), (0, .ref m0), (1, .int x)]) hx hb dX9_change_69 hl (by decide) rfl (fun ls hl => ?_)
            have J71 : ∀ (n : Nat) (L5_71 : Int32) (mmn_71 : Int32) (mif_71 : Nat → Int32), (0 ≤ mmn_71.toInt ∧ mmn_71.toInt ≤ L5_71.toInt + 1 ∧ mmn_71.toInt ≤ mbl.toInt + 1) → (v1.toInt < L5_71.toInt ∨ mmn_71.toInt ≤ L5_71.toInt) → (0 ≤ L5_71.toInt ∧ L5_71.toInt ≤ mbl.toInt + 1) → (mbl.toInt + 1 - L5_71.toInt) < (n : Int) → ∀ (H : Heap) (locs : List Loc) (ls : Array Slot), va_P (dC, dI) vwCl [(m0, .inr (8, [.int mth, .int mst, .ref mp, .int mln, .ref mk, .int mts, .ref mti, .ref mtw, .ref mi, .int mmn_71, .ref mpo, .int mpd, .ref mpi, .int mpl, .int mcp, .ref mre, .ref mnn, .ref mwo, .ref mga, .ref mlo, .ref mro, .ref mle, .ref mra, .int mme, .ref mha, .int mch, .int mtm, .int mgo, .int mwa, .ref mba, .int mbl, .ref mon])), (mi, .inl (cI, 12, .inl mif_71)), (mba, .inl (cI, 12, .inl mbaf))] H → va_D A [(m0, .inr (8, [.int mth, .int mst, .ref mp, .int mln, .ref mk, .int mts, .ref mti, .ref mtw, .ref mi, .int mmn_71, .ref mpo, .int mpd, .ref mpi, .int mpl, .int mcp, .ref mre, .ref mnn, .ref mwo, .ref mga, .ref mlo, .ref mro, .ref mle, .ref mra, .int mme, .ref mha, .int mch, .int mtm, .int mgo, .int mwa, .ref mba, .int mbl, .ref mon])), (mi, .inl (cI, 12, .inl mif_71)), (mba, .inl (cI, 12, .inl mbaf))] → va_S A s.heap H locs → lv_has ls 6 [(5, .int L5_71), (4, .int 0), (3, .int v2), (2, .int v1), (0, .ref m0), (1, .int x)] → W p l e { frames := 0, cells := 0, slots := 0, locals := 0 } s m (List.toArray [.ref m0, .int x]) below meth c H locs 0 0 Q (F0 m 71 ls []) := by
              intro n
              induction n with
              | zero =>
                intro L5_71 mmn_71 mif_71 hi0_71 hi1_71 hi2_71 hm
                exact absurd hm (by omega)
              | succ n ih71 =>
                intro L5_71 mmn_71 mif_71 hi0_71 hi1_71 hi2_71 hm71 H locs ls hP hD hS hl
                refine lv_iload hx hb dX9_change_71 (lv_at hl 0 rfl) ?_
                refine lv_aload_n hx hb dX9_change_73 rfl (lv_at hl 4 rfl) ?_
                refine va_get (D := (dC, dI)) (ci := 8) (v := .int mbl) (C := RX9) (T := TX9) (N := 32) hx hb hts inG_X9 hown hK hP 0 rfl rfl 30 (by decide) (hts _ fl_X9_177) (fun _ h9 => h9) rfl dX9_change_74 ?_
                refine lv_icmp_gt (tgt := 176) hx hb dX9_change_77 (by decide) (fun c34 => ?_) (fun c34 => ?_)
                · have c34' := I_lt c34
                  refine lv_iconst (v := 1) hx hb dX9_change_176 (by decide) ?_
                  exact hret 1 (mmn_71, mif_71) H locs 177 ls (by first | rfl | exact I_narz (by omega)) ⟨(show (1 : Int32).toInt = 0 ∨ (1 : Int32).toInt = 1 from by first | rfl | assumption | omega), (show 0 ≤ mmn_71.toInt ∧ mmn_71.toInt ≤ 12 from by first | rfl | assumption | omega), (show (1 : Int32).toInt = 0 ∨ mmn_71.toInt ≤ mbl.toInt + 1 from by first | rfl | assumption | omega), trivial⟩ hP hD hS dX9_change_177
                · have c34' := I_nlt c34
                  have J170 : ∀ (mmn_170 : Int32) (mif_170 : Nat → Int32), (0 ≤ mmn_170.toInt ∧ mmn_170.toInt ≤ L5_71.toInt + 2 ∧ mmn_170.toInt ≤ mbl.toInt + 1) → (v1.toInt < L5_71.toInt + 1 ∨ mmn_170.toInt ≤ L5_71.toInt + 1) → ∀ (H : Heap) (locs : List Loc) (ls : Array Slot), va_P (dC, dI) vwCl [(m0, .inr (8, [.int mth, .int mst, .ref mp, .int mln, .ref mk, .int mts, .ref mti, .ref mtw, .ref mi, .int mmn_170, .ref mpo, .int mpd, .ref mpi, .int mpl, .int mcp, .ref mre, .ref mnn, .ref mwo, .ref mga, .ref mlo, .ref mro, .ref mle, .ref mra, .int mme, .ref mha, .int mch, .int mtm, .int mgo, .int mwa, .ref mba, .int mbl, .ref mon])), (mi, .inl (cI, 12, .inl mif_170)), (mba, .inl (cI, 12, .inl mbaf))] H → va_D A [(m0, .inr (8, [.int mth, .int mst, .ref mp, .int mln, .ref mk, .int mts, .ref mti, .ref mtw, .ref mi, .int mmn_170, .ref mpo, .int mpd, .ref mpi, .int mpl, .int mcp, .ref mre, .ref mnn, .ref mwo, .ref mga, .ref mlo, .ref mro, .ref mle, .ref mra, .int mme, .ref mha, .int mch, .int mtm, .int mgo, .int mwa, .ref mba, .int mbl, .ref mon])), (mi, .inl (cI, 12, .inl mif_170)), (mba, .inl (cI, 12, .inl mbaf))] → va_S A s.heap H locs → lv_has ls 6 [(5, .int L5_71), (4, .int 0), (3, .int v2), (2, .int v1), (0, .ref m0), (1, .int x)] → W p l e { frames := 0, cells := 0, slots := 0, locals := 0 } s m (List.toArray [.ref m0, .int x]) below meth c H locs 0 0 Q (F0 m 170 ls []) := by
                    intro mmn_170 mif_170 hi0_170 hi1_170 H locs ls hP hD hS hl
                    obtain ⟨v35, ev35⟩ : ∃ y : Int32, y = L5_71 + 1 := ⟨_, rfl⟩
                    try have hv35 : v35.toInt = L5_71.toInt + (1 : Int32).toInt := I_addx ev35 (by omega)
                    refine lv_iinc (v := v35) (lv' := [(5, .int v35), (4, .int 0), (3, .int v2), (2, .int v1), (0, .ref m0), (1, .int x)]) hx hb dX9_change_170 hl (k := 0) rfl (by rw [ev35]; rfl) (by decide) rfl (fun ls hl => ?_)
                    refine lv_goto (tgt := 71) hx hb dX9_change_173 (by decide) ?_
                    exact ih71 v35 mmn_170 mif_170 (by first | assumption | omega) (by first | assumption | omega) (by first | assumption | omega) (by omega) H locs ls hP hD hS hl
                  refine lv_iload hx hb dX9_change_80 (lv_at hl 0 rfl) ?_
                  refine lv_iload_n hx hb dX9_change_82 rfl (lv_at hl 3 rfl) ?_
                  refine lv_icmp_ne (tgt := 124) hx hb dX9_change_83 (by decide) (fun c36 => ?_) (fun c36 => ?_)
                  · have c36' := I_ne c36
                    refine lv_iload hx hb dX9_change_124 (lv_at hl 0 rfl) ?_
                    refine lv_aload_n hx hb dX9_change_126 rfl (lv_at hl 4 rfl) ?_
                    refine va_get (D := (dC, dI)) (ci := 8) (v := .int mbl) (C := RX9) (T := TX9) (N := 32) hx hb hts inG_X9 hown hK hP 0 rfl rfl 30 (by decide) (hts _ fl_X9_177) (fun _ h9 => h9) rfl dX9_change_127 ?_
                    refine lv_icmp_ge (tgt := 170) hx hb dX9_change_130 (by decide) (fun c37 => ?_) (fun c37 => ?_)
                    · have c37' := I_le c37
                      exact J170 mmn_71 mif_71 (by first | assumption | omega) (by first | assumption | omega) H locs ls hP hD hS hl
                    · have c37' := I_nle c37
                      refine lv_iload hx hb dX9_change_133 (lv_at hl 0 rfl) ?_
                      refine lv_iload_n hx hb dX9_change_135 rfl (lv_at hl 3 rfl) ?_
                      refine lv_icmp_ne (tgt := 144) hx hb dX9_change_136 (by decide) (fun c38 => ?_) (fun c38 => ?_)
                      · have c38' := I_ne c38
                        refine lv_aload_n hx hb dX9_change_144 rfl (lv_at hl 4 rfl) ?_
                        refine va_get (D := (dC, dI)) (ci := 8) (v := .ref mi) (C := RX9) (T := TX9) (N := 32) hx hb hts inG_X9 hown hK hP 0 rfl rfl 8 (by decide) (hts _ fl_X9_22) (fun _ h9 => h9) rfl dX9_change_145 ?_
                        refine lv_aload_n hx hb dX9_change_148 rfl (lv_at hl 4 rfl) ?_
                        refine va_get (D := (dC, dI)) (ci := 8) (v := .int mmn_71) (C := RX9) (T := TX9) (N := 32) hx hb hts inG_X9 hown hK hP 0 rfl rfl 9 (by decide) (hts _ fl_X9_114) (fun _ h9 => h9) rfl dX9_change_149 ?_
                        refine lv_aload_n hx hb dX9_change_152 rfl (lv_at hl 4 rfl) ?_
                        refine va_get (D := (dC, dI)) (ci := 8) (v := .ref mba) (C := RX9) (T := TX9) (N := 32) hx hb hts inG_X9 hown hK hP 0 rfl rfl 29 (by decide) (hts _ fl_X9_63) (fun _ h9 => h9) rfl dX9_change_153 ?_
                        refine lv_iload hx hb dX9_change_156 (lv_at hl 0 rfl) ?_
                        refine va_iald (t0 := 0) hx hb hK hP 2 (ha := rfl) (ht := rfl) (I_in (by omega) (by omega)) dX9_change_158 ?_
                        refine lv_topi (fun v39 ev39 => ?_)
                        refine va_iast (t0 := 0) hx hb hK hP hD hS 1 (ha := rfl) (ht := rfl) (I_in (by omega) (by omega)) dX9_change_159 (fun H locs hP hD hS => ?_)
                        have hP : va_P (dC, dI) vwCl [(m0, .inr (8, [.int mth, .int mst, .ref mp, .int mln, .ref mk, .int mts, .ref mti, .ref mtw, .ref mi, .int mmn_71, .ref mpo, .int mpd, .ref mpi, .int mpl, .int mcp, .ref mre, .ref mnn, .ref mwo, .ref mga, .ref mlo, .ref mro, .ref mle, .ref mra, .int mme, .ref mha, .int mch, .int mtm, .int mgo, .int mwa, .ref mba, .int mbl, .ref mon])), (mi, .inl (cI, 12, .inl (upd mif_71 mmn_71.toNatClampNeg v39))), (mba, .inl (cI, 12, .inl mbaf))] H := hP
                        have hD : va_D A [(m0, .inr (8, [.int mth, .int mst, .ref mp, .int mln, .ref mk, .int mts, .ref mti, .ref mtw, .ref mi, .int mmn_71, .ref mpo, .int mpd, .ref mpi, .int mpl, .int mcp, .ref mre, .ref mnn, .ref mwo, .ref mga, .ref mlo, .ref mro, .ref mle, .ref mra, .int mme, .ref mha, .int mch, .int mtm, .int mgo, .int mwa, .ref mba, .int mbl, .ref mon])), (mi, .inl (cI, 12, .inl (upd mif_71 mmn_71.toNatClampNeg v39))), (mba, .inl (cI, 12, .inl mbaf))] := hD
                        generalize ef40 : upd mif_71 mmn_71.toNatClampNeg v39 = f40 at hP hD
                        refine lv_aload_n hx hb dX9_change_160 rfl (lv_at hl 4 rfl) ?_
                        refine lv_dup hx hb dX9_change_161 rfl ?_
                        refine va_get (D := (dC, dI)) (ci := 8) (v := .int mmn_71) (C := RX9) (T := TX9) (N := 32) hx hb hts inG_X9 hown hK hP 0 rfl rfl 9 (by decide) (hts _ fl_X9_114) (fun _ h9 => h9) rfl dX9_change_162 ?_
                        refine lv_iconst (v := 1) hx hb dX9_change_165 (by decide) ?_
                        refine lv_iadd hx hb dX9_change_166 ?_
                        refine lv_topi (fun v41 ev41 => ?_)
                        try have hv41 : v41.toInt = mmn_71.toInt + (1 : Int32).toInt := I_addx ev41 (by omega)
                        refine va_put (D := (dC, dI)) (ci := 8) (v := .int v41) (ty := .int) (C := RX9) (T := TX9) (N := 32) hx hb hts inG_X9 tyX9 tyX9_ok nmX9 hown hK hP hD hS 0 rfl rfl 9 (by decide) (hts _ fl_X9_114) (fun _ h9 => h9) rfl (by decide +kernel) rfl rfl (Nat.le_of_ble_eq_true rfl) dX9_change_167 (fun H locs hP hD hS => ?_)
                        have hP : va_P (dC, dI) vwCl [(m0, .inr (8, [.int mth, .int mst, .ref mp, .int mln, .ref mk, .int mts, .ref mti, .ref mtw, .ref mi, .int v41, .ref mpo, .int mpd, .ref mpi, .int mpl, .int mcp, .ref mre, .ref mnn, .ref mwo, .ref mga, .ref mlo, .ref mro, .ref mle, .ref mra, .int mme, .ref mha, .int mch, .int mtm, .int mgo, .int mwa, .ref mba, .int mbl, .ref mon])), (mi, .inl (cI, 12, .inl f40)), (mba, .inl (cI, 12, .inl mbaf))] H := hP
                        have hD : va_D A [(m0, .inr (8, [.int mth, .int mst, .ref mp, .int mln, .ref mk, .int mts, .ref mti, .ref mtw, .ref mi, .int v41, .ref mpo, .int mpd, .ref mpi, .int mpl, .int mcp, .ref mre, .ref mnn, .ref mwo, .ref mga, .ref mlo, .ref mro, .ref mle, .ref mra, .int mme, .ref mha, .int mch, .int mtm, .int mgo, .int mwa, .ref mba, .int mbl, .ref mon])), (mi, .inl (cI, 12, .inl f40)), (mba, .inl (cI, 12, .inl mbaf))] := hD
                        exact J170 v41 f40 (by first | assumption | omega) (by first | assumption | omega) H locs ls hP hD hS hl
                      · have c38' := I_eq c38
                        refine lv_iload hx hb dX9_change_139 (lv_at hl 1 rfl) ?_
                        refine lv_if_eq (tgt := 170) hx hb dX9_change_141 (by decide) (fun c42 => ?_) (fun c42 => ?_)
                        · have c42' := I_eq c42
                          exact J170 mmn_71 mif_71 (by first | assumption | omega) (by first | assumption | omega) H locs ls hP hD hS hl
                        · have c42' := I_ne c42
                          exact absurd c42 (by decide)
                  · have c36' := I_eq c36
                    refine lv_iload_n hx hb dX9_change_86 rfl (lv_at hl 2 rfl) ?_
                    refine lv_bipush (v := 56) hx hb dX9_change_87 (by decide) ?_
                    refine lv_icmp_ge (tgt := 124) hx hb dX9_change_89 (by decide) (fun c43 => ?_) (fun c43 => ?_)
                    · have c43' := I_le c43
                      refine lv_iload hx hb dX9_change_124 (lv_at hl 0 rfl) ?_
                      refine lv_aload_n hx hb dX9_change_126 rfl (lv_at hl 4 rfl) ?_
                      refine va_get (D := (dC, dI)) (ci := 8) (v := .int mbl) (C := RX9) (T := TX9) (N := 32) hx hb hts inG_X9 hown hK hP 0 rfl rfl 30 (by decide) (hts _ fl_X9_177) (fun _ h9 => h9) rfl dX9_change_127 ?_
                      refine lv_icmp_ge (tgt := 170) hx hb dX9_change_130 (by decide) (fun c44 => ?_) (fun c44 => ?_)
                      · have c44' := I_le c44
                        exact J170 mmn_71 mif_71 (by first | assumption | omega) (by first | assumption | omega) H locs ls hP hD hS hl
                      · have c44' := I_nle c44
                        refine lv_iload hx hb dX9_change_133 (lv_at hl 0 rfl) ?_
                        refine lv_iload_n hx hb dX9_change_135 rfl (lv_at hl 3 rfl) ?_
                        refine lv_icmp_ne (tgt := 144) hx hb dX9_change_136 (by decide) (fun c45 => ?_) (fun c45 => ?_)
                        · have c45' := I_ne c45
                          refine lv_aload_n hx hb dX9_change_144 rfl (lv_at hl 4 rfl) ?_
                          refine va_get (D := (dC, dI)) (ci := 8) (v := .ref mi) (C := RX9) (T := TX9) (N := 32) hx hb hts inG_X9 hown hK hP 0 rfl rfl 8 (by decide) (hts _ fl_X9_22) (fun _ h9 => h9) rfl dX9_change_145 ?_
                          refine lv_aload_n hx hb dX9_change_148 rfl (lv_at hl 4 rfl) ?_
                          refine va_get (D := (dC, dI)) (ci := 8) (v := .int mmn_71) (C := RX9) (T := TX9) (N := 32) hx hb hts inG_X9 hown hK hP 0 rfl rfl 9 (by decide) (hts _ fl_X9_114) (fun _ h9 => h9) rfl dX9_change_149 ?_
                          refine lv_aload_n hx hb dX9_change_152 rfl (lv_at hl 4 rfl) ?_
                          refine va_get (D := (dC, dI)) (ci := 8) (v := .ref mba) (C := RX9) (T := TX9) (N := 32) hx hb hts inG_X9 hown hK hP 0 rfl rfl 29 (by decide) (hts _ fl_X9_63) (fun _ h9 => h9) rfl dX9_change_153 ?_
                          refine lv_iload hx hb dX9_change_156 (lv_at hl 0 rfl) ?_
                          refine va_iald (t0 := 0) hx hb hK hP 2 (ha := rfl) (ht := rfl) (I_in (by omega) (by omega)) dX9_change_158 ?_
                          refine lv_topi (fun v46 ev46 => ?_)
                          refine va_iast (t0 := 0) hx hb hK hP hD hS 1 (ha := rfl) (ht := rfl) (I_in (by omega) (by omega)) dX9_change_159 (fun H locs hP hD hS => ?_)
                          have hP : va_P (dC, dI) vwCl [(m0, .inr (8, [.int mth, .int mst, .ref mp, .int mln, .ref mk, .int mts, .ref mti, .ref mtw, .ref mi, .int mmn_71, .ref mpo, .int mpd, .ref mpi, .int mpl, .int mcp, .ref mre, .ref mnn, .ref mwo, .ref mga, .ref mlo, .ref mro, .ref mle, .ref mra, .int mme, .ref mha, .int mch, .int mtm, .int mgo, .int mwa, .ref mba, .int mbl, .ref mon])), (mi, .inl (cI, 12, .inl (upd mif_71 mmn_71.toNatClampNeg v46))), (mba, .inl (cI, 12, .inl mbaf))] H := hP
                          have hD : va_D A [(m0, .inr (8, [.int mth, .int mst, .ref mp, .int mln, .ref mk, .int mts, .ref mti, .ref mtw, .ref mi, .int mmn_71, .ref mpo, .int mpd, .ref mpi, .int mpl, .int mcp, .ref mre, .ref mnn, .ref mwo, .ref mga, .ref mlo, .ref mro, .ref mle, .ref mra, .int mme, .ref mha, .int mch, .int mtm, .int mgo, .int mwa, .ref mba, .int mbl, .ref mon])), (mi, .inl (cI, 12, .inl (upd mif_71 mmn_71.toNatClampNeg v46))), (mba, .inl (cI, 12, .inl mbaf))] := hD
                          generalize ef47 : upd mif_71 mmn_71.toNatClampNeg v46 = f47 at hP hD
                          refine lv_aload_n hx hb dX9_change_160 rfl (lv_at hl 4 rfl) ?_
                          refine lv_dup hx hb dX9_change_161 rfl ?_
                          refine va_get (D := (dC, dI)) (ci := 8) (v := .int mmn_71) (C := RX9) (T := TX9) (N := 32) hx hb hts inG_X9 hown hK hP 0 rfl rfl 9 (by decide) (hts _ fl_X9_114) (fun _ h9 => h9) rfl dX9_change_162 ?_
                          refine lv_iconst (v := 1) hx hb dX9_change_165 (by decide) ?_
                          refine lv_iadd hx hb dX9_change_166 ?_
                          refine lv_topi (fun v48 ev48 => ?_)
                          try have hv48 : v48.toInt = mmn_71.toInt + (1 : Int32).toInt := I_addx ev48 (by omega)
                          refine va_put (D := (dC, dI)) (ci := 8) (v := .int v48) (ty := .int) (C := RX9) (T := TX9) (N := 32) hx hb hts inG_X9 tyX9 tyX9_ok nmX9 hown hK hP hD hS 0 rfl rfl 9 (by decide) (hts _ fl_X9_114) (fun _ h9 => h9) rfl (by decide +kernel) rfl rfl (Nat.le_of_ble_eq_true rfl) dX9_change_167 (fun H locs hP hD hS => ?_)
                          have hP : va_P (dC, dI) vwCl [(m0, .inr (8, [.int mth, .int mst, .ref mp, .int mln, .ref mk, .int mts, .ref mti, .ref mtw, .ref mi, .int v48, .ref mpo, .int mpd, .ref mpi, .int mpl, .int mcp, .ref mre, .ref mnn, .ref mwo, .ref mga, .ref mlo, .ref mro, .ref mle, .ref mra, .int mme, .ref mha, .int mch, .int mtm, .int mgo, .int mwa, .ref mba, .int mbl, .ref mon])), (mi, .inl (cI, 12, .inl f47)), (mba, .inl (cI, 12, .inl mbaf))] H := hP
                          have hD : va_D A [(m0, .inr (8, [.int mth, .int mst, .ref mp, .int mln, .ref mk, .int mts, .ref mti, .ref mtw, .ref mi, .int v48, .ref mpo, .int mpd, .ref mpi, .int mpl, .int mcp, .ref mre, .ref mnn, .ref mwo, .ref mga, .ref mlo, .ref mro, .ref mle, .ref mra, .int mme, .ref mha, .int mch, .int mtm, .int mgo, .int mwa, .ref mba, .int mbl, .ref mon])), (mi, .inl (cI, 12, .inl f47)), (mba, .inl (cI, 12, .inl mbaf))] := hD
                          exact J170 v48 f47 (by first | assumption | omega) (by first | assumption | omega) H locs ls hP hD hS hl
                        · have c45' := I_eq c45
                          refine lv_iload hx hb dX9_change_139 (lv_at hl 1 rfl) ?_
                          refine lv_if_eq (tgt := 170) hx hb dX9_change_141 (by decide) (fun c49 => ?_) (fun c49 => ?_)
                          · have c49' := I_eq c49
                            exact J170 mmn_71 mif_71 (by first | assumption | omega) (by first | assumption | omega) H locs ls hP hD hS hl
                          · have c49' := I_ne c49
                            exact absurd c49 (by decide)
                    · have c43' := I_nle c43
                      refine lv_aload_n hx hb dX9_change_92 rfl (lv_at hl 4 rfl) ?_
                      refine va_get (D := (dC, dI)) (ci := 8) (v := .ref mi) (C := RX9) (T := TX9) (N := 32) hx hb hts inG_X9 hown hK hP 0 rfl rfl 8 (by decide) (hts _ fl_X9_22) (fun _ h9 => h9) rfl dX9_change_93 ?_
                      refine lv_aload_n hx hb dX9_change_96 rfl (lv_at hl 4 rfl) ?_
                      refine va_get (D := (dC, dI)) (ci := 8) (v := .int mmn_71) (C := RX9) (T := TX9) (N := 32) hx hb hts inG_X9 hown hK hP 0 rfl rfl 9 (by decide) (hts _ fl_X9_114) (fun _ h9 => h9) rfl dX9_change_97 ?_
                      refine lv_iload hx hb dX9_change_100 (lv_at hl 1 rfl) ?_
                      refine lv_if_eq (tgt := 109) hx hb dX9_change_102 (by decide) (fun c50 => ?_) (fun c50 => ?_)
                      · have c50' := I_eq c50
                        refine lv_iload_n hx hb dX9_change_109 rfl (lv_at hl 2 rfl) ?_
                        refine lv_bipush (v := 28) hx hb dX9_change_110 (by decide) ?_
                        refine lv_isub hx hb dX9_change_112 ?_
                        refine lv_topi (fun v51 ev51 => ?_)
                        try have hv51 : v51.toInt = v2.toInt - (28 : Int32).toInt := I_subx ev51 (by omega)
                        refine va_iast (t0 := 0) hx hb hK hP hD hS 1 (ha := rfl) (ht := rfl) (I_in (by omega) (by omega)) dX9_change_113 (fun H locs hP hD hS => ?_)
                        have hP : va_P (dC, dI) vwCl [(m0, .inr (8, [.int mth, .int mst, .ref mp, .int mln, .ref mk, .int mts, .ref mti, .ref mtw, .ref mi, .int mmn_71, .ref mpo, .int mpd, .ref mpi, .int mpl, .int mcp, .ref mre, .ref mnn, .ref mwo, .ref mga, .ref mlo, .ref mro, .ref mle, .ref mra, .int mme, .ref mha, .int mch, .int mtm, .int mgo, .int mwa, .ref mba, .int mbl, .ref mon])), (mi, .inl (cI, 12, .inl (upd mif_71 mmn_71.toNatClampNeg v51))), (mba, .inl (cI, 12, .inl mbaf))] H := hP
                        have hD : va_D A [(m0, .inr (8, [.int mth, .int mst, .ref mp, .int mln, .ref mk, .int mts, .ref mti, .ref mtw, .ref mi, .int mmn_71, .ref mpo, .int mpd, .ref mpi, .int mpl, .int mcp, .ref mre, .ref mnn, .ref mwo, .ref mga, .ref mlo, .ref mro, .ref mle, .ref mra, .int mme, .ref mha, .int mch, .int mtm, .int mgo, .int mwa, .ref mba, .int mbl, .ref mon])), (mi, .inl (cI, 12, .inl (upd mif_71 mmn_71.toNatClampNeg v51))), (mba, .inl (cI, 12, .inl mbaf))] := hD
                        generalize ef52 : upd mif_71 mmn_71.toNatClampNeg v51 = f52 at hP hD
                        refine lv_aload_n hx hb dX9_change_114 rfl (lv_at hl 4 rfl) ?_
                        refine lv_dup hx hb dX9_change_115 rfl ?_
                        refine va_get (D := (dC, dI)) (ci := 8) (v := .int mmn_71) (C := RX9) (T := TX9) (N := 32) hx hb hts inG_X9 hown hK hP 0 rfl rfl 9 (by decide) (hts _ fl_X9_114) (fun _ h9 => h9) rfl dX9_change_116 ?_
                        refine lv_iconst (v := 1) hx hb dX9_change_119 (by decide) ?_
                        refine lv_iadd hx hb dX9_change_120 ?_
                        refine lv_topi (fun v53 ev53 => ?_)
                        try have hv53 : v53.toInt = mmn_71.toInt + (1 : Int32).toInt := I_addx ev53 (by omega)
                        refine va_put (D := (dC, dI)) (ci := 8) (v := .int v53) (ty := .int) (C := RX9) (T := TX9) (N := 32) hx hb hts inG_X9 tyX9 tyX9_ok nmX9 hown hK hP hD hS 0 rfl rfl 9 (by decide) (hts _ fl_X9_114) (fun _ h9 => h9) rfl (by decide +kernel) rfl rfl (Nat.le_of_ble_eq_true rfl) dX9_change_121 (fun H locs hP hD hS => ?_)
                        have hP : va_P (dC, dI) vwCl [(m0, .inr (8, [.int mth, .int mst, .ref mp, .int mln, .ref mk, .int mts, .ref mti, .ref mtw, .ref mi, .int v53, .ref mpo, .int mpd, .ref mpi, .int mpl, .int mcp, .ref mre, .ref mnn, .ref mwo, .ref mga, .ref mlo, .ref mro, .ref mle, .ref mra, .int mme, .ref mha, .int mch, .int mtm, .int mgo, .int mwa, .ref mba, .int mbl, .ref mon])), (mi, .inl (cI, 12, .inl f52)), (mba, .inl (cI, 12, .inl mbaf))] H := hP
                        have hD : va_D A [(m0, .inr (8, [.int mth, .int mst, .ref mp, .int mln, .ref mk, .int mts, .ref mti, .ref mtw, .ref mi, .int v53, .ref mpo, .int mpd, .ref mpi, .int mpl, .int mcp, .ref mre, .ref mnn, .ref mwo, .ref mga, .ref mlo, .ref mro, .ref mle, .ref mra, .int mme, .ref mha, .int mch, .int mtm, .int mgo, .int mwa, .ref mba, .int mbl, .ref mon])), (mi, .inl (cI, 12, .inl f52)), (mba, .inl (cI, 12, .inl mbaf))] := hD
                        refine lv_iload hx hb dX9_change_124 (lv_at hl 0 rfl) ?_
                        refine lv_aload_n hx hb dX9_change_126 rfl (lv_at hl 4 rfl) ?_
                        refine va_get (D := (dC, dI)) (ci := 8) (v := .int mbl) (C := RX9) (T := TX9) (N := 32) hx hb hts inG_X9 hown hK hP 0 rfl rfl 30 (by decide) (hts _ fl_X9_177) (fun _ h9 => h9) rfl dX9_change_127 ?_
                        refine lv_icmp_ge (tgt := 170) hx hb dX9_change_130 (by decide) (fun c54 => ?_) (fun c54 => ?_)
                        · have c54' := I_le c54
                          exact J170 v53 f52 (by first | assumption | omega) (by first | assumption | omega) H locs ls hP hD hS hl
                        · have c54' := I_nle c54
                          refine lv_iload hx hb dX9_change_133 (lv_at hl 0 rfl) ?_
                          refine lv_iload_n hx hb dX9_change_135 rfl (lv_at hl 3 rfl) ?_
                          refine lv_icmp_ne (tgt := 144) hx hb dX9_change_136 (by decide) (fun c55 => ?_) (fun c55 => ?_)
                          · have c55' := I_ne c55
                            refine lv_aload_n hx hb dX9_change_144 rfl (lv_at hl 4 rfl) ?_
                            refine va_get (D := (dC, dI)) (ci := 8) (v := .ref mi) (C := RX9) (T := TX9) (N := 32) hx hb hts inG_X9 hown hK hP 0 rfl rfl 8 (by decide) (hts _ fl_X9_22) (fun _ h9 => h9) rfl dX9_change_145 ?_
                            refine lv_aload_n hx hb dX9_change_148 rfl (lv_at hl 4 rfl) ?_
                            refine va_get (D := (dC, dI)) (ci := 8) (v := .int v53) (C := RX9) (T := TX9) (N := 32) hx hb hts inG_X9 hown hK hP 0 rfl rfl 9 (by decide) (hts _ fl_X9_114) (fun _ h9 => h9) rfl dX9_change_149 ?_
                            refine lv_aload_n hx hb dX9_change_152 rfl (lv_at hl 4 rfl) ?_
                            refine va_get (D := (dC, dI)) (ci := 8) (v := .ref mba) (C := RX9) (T := TX9) (N := 32) hx hb hts inG_X9 hown hK hP 0 rfl rfl 29 (by decide) (hts _ fl_X9_63) (fun _ h9 => h9) rfl dX9_change_153 ?_
                            refine lv_iload hx hb dX9_change_156 (lv_at hl 0 rfl) ?_
                            refine va_iald (t0 := 0) hx hb hK hP 2 (ha := rfl) (ht := rfl) (I_in (by omega) (by omega)) dX9_change_158 ?_
                            refine lv_topi (fun v56 ev56 => ?_)
                            refine va_iast (t0 := 0) hx hb hK hP hD hS 1 (ha := rfl) (ht := rfl) (I_in (by omega) (by omega)) dX9_change_159 (fun H locs hP hD hS => ?_)
                            have hP : va_P (dC, dI) vwCl [(m0, .inr (8, [.int mth, .int mst, .ref mp, .int mln, .ref mk, .int mts, .ref mti, .ref mtw, .ref mi, .int v53, .ref mpo, .int mpd, .ref mpi, .int mpl, .int mcp, .ref mre, .ref mnn, .ref mwo, .ref mga, .ref mlo, .ref mro, .ref mle, .ref mra, .int mme, .ref mha, .int mch, .int mtm, .int mgo, .int mwa, .ref mba, .int mbl, .ref mon])), (mi, .inl (cI, 12, .inl (upd f52 v53.toNatClampNeg v56))), (mba, .inl (cI, 12, .inl mbaf))] H := hP
                            have hD : va_D A [(m0, .inr (8, [.int mth, .int mst, .ref mp, .int mln, .ref mk, .int mts, .ref mti, .ref mtw, .ref mi, .int v53, .ref mpo, .int mpd, .ref mpi, .int mpl, .int mcp, .ref mre, .ref mnn, .ref mwo, .ref mga, .ref mlo, .ref mro, .ref mle, .ref mra, .int mme, .ref mha, .int mch, .int mtm, .int mgo, .int mwa, .ref mba, .int mbl, .ref mon])), (mi, .inl (cI, 12, .inl (upd f52 v53.toNatClampNeg v56))), (mba, .inl (cI, 12, .inl mbaf))] := hD
                            generalize ef57 : upd f52 v53.toNatClampNeg v56 = f57 at hP hD
                            refine lv_aload_n hx hb dX9_change_160 rfl (lv_at hl 4 rfl) ?_
                            refine lv_dup hx hb dX9_change_161 rfl ?_
                            refine va_get (D := (dC, dI)) (ci := 8) (v := .int v53) (C := RX9) (T := TX9) (N := 32) hx hb hts inG_X9 hown hK hP 0 rfl rfl 9 (by decide) (hts _ fl_X9_114) (fun _ h9 => h9) rfl dX9_change_162 ?_
                            refine lv_iconst (v := 1) hx hb dX9_change_165 (by decide) ?_
                            refine lv_iadd hx hb dX9_change_166 ?_
                            refine lv_topi (fun v58 ev58 => ?_)
                            try have hv58 : v58.toInt = v53.toInt + (1 : Int32).toInt := I_addx ev58 (by omega)
                            refine va_put (D := (dC, dI)) (ci := 8) (v := .int v58) (ty := .int) (C := RX9) (T := TX9) (N := 32) hx hb hts inG_X9 tyX9 tyX9_ok nmX9 hown hK hP hD hS 0 rfl rfl 9 (by decide) (hts _ fl_X9_114) (fun _ h9 => h9) rfl (by decide +kernel) rfl rfl (Nat.le_of_ble_eq_true rfl) dX9_change_167 (fun H locs hP hD hS => ?_)
                            have hP : va_P (dC, dI) vwCl [(m0, .inr (8, [.int mth, .int mst, .ref mp, .int mln, .ref mk, .int mts, .ref mti, .ref mtw, .ref mi, .int v58, .ref mpo, .int mpd, .ref mpi, .int mpl, .int mcp, .ref mre, .ref mnn, .ref mwo, .ref mga, .ref mlo, .ref mro, .ref mle, .ref mra, .int mme, .ref mha, .int mch, .int mtm, .int mgo, .int mwa, .ref mba, .int mbl, .ref mon])), (mi, .inl (cI, 12, .inl f57)), (mba, .inl (cI, 12, .inl mbaf))] H := hP
                            have hD : va_D A [(m0, .inr (8, [.int mth, .int mst, .ref mp, .int mln, .ref mk, .int mts, .ref mti, .ref mtw, .ref mi, .int v58, .ref mpo, .int mpd, .ref mpi, .int mpl, .int mcp, .ref mre, .ref mnn, .ref mwo, .ref mga, .ref mlo, .ref mro, .ref mle, .ref mra, .int mme, .ref mha, .int mch, .int mtm, .int mgo, .int mwa, .ref mba, .int mbl, .ref mon])), (mi, .inl (cI, 12, .inl f57)), (mba, .inl (cI, 12, .inl mbaf))] := hD
                            exact J170 v58 f57 (by first | assumption | omega) (by first | assumption | omega) H locs ls hP hD hS hl
                          · have c55' := I_eq c55
                            refine lv_iload hx hb dX9_change_139 (lv_at hl 1 rfl) ?_
                            refine lv_if_eq (tgt := 170) hx hb dX9_change_141 (by decide) (fun c59 => ?_) (fun c59 => ?_)
                            · have c59' := I_eq c59
                              exact J170 v53 f52 (by first | assumption | omega) (by first | assumption | omega) H locs ls hP hD hS hl
                            · have c59' := I_ne c59
                              exact absurd c59 (by decide)
                      · have c50' := I_ne c50
                        exact absurd c50 (by decide)
            exact J71 ((mbl.toInt + 1 - (0 : Int32).toInt).toNat + 1) 0 0 mif (by first | assumption | omega) (by first | assumption | omega) (by first | assumption | omega) (by omega) H locs ls hP hD hS hl
          · have c33' := I_nle c33
            refine lv_aload_n hx hb dX9_change_48 rfl (lv_at hl 3 rfl) ?_
            refine va_get (D := (dC, dI)) (ci := 8) (v := .ref mba) (C := RX9) (T := TX9) (N := 32) hx hb hts inG_X9 hown hK hP 0 rfl rfl 29 (by decide) (hts _ fl_X9_63) (fun _ h9 => h9) rfl dX9_change_49 ?_
            refine lv_iload_n hx hb dX9_change_52 rfl (lv_at hl 2 rfl) ?_
            refine va_iald (t0 := 0) hx hb hK hP 2 (ha := rfl) (ht := rfl) (I_in (by omega) (by omega)) dX9_change_53 ?_
            refine lv_topi (fun v60 ev60 => ?_)
            refine lv_iload_n hx hb dX9_change_54 rfl (lv_at hl 1 rfl) ?_
            refine lv_bipush (v := 28) hx hb dX9_change_55 (by decide) ?_
            refine lv_isub hx hb dX9_change_57 ?_
            refine lv_topi (fun v61 ev61 => ?_)
            try have hv61 : v61.toInt = v2.toInt - (28 : Int32).toInt := I_subx ev61 (by omega)
            refine lv_icmp_ne (tgt := 63) hx hb dX9_change_58 (by decide) (fun c62 => ?_) (fun c62 => ?_)
            · have c62' := I_ne c62
              refine lv_aload_n hx hb dX9_change_63 rfl (lv_at hl 3 rfl) ?_
              refine lv_iconst (v := 0) hx hb dX9_change_64 (by decide) ?_
              refine va_put (D := (dC, dI)) (ci := 8) (v := .int 0) (ty := .int) (C := RX9) (T := TX9) (N := 32) hx hb hts inG_X9 tyX9 tyX9_ok nmX9 hown hK hP hD hS 0 rfl rfl 9 (by decide) (hts _ fl_X9_114) (fun _ h9 => h9) rfl (by decide +kernel) rfl rfl (Nat.le_of_ble_eq_true rfl) dX9_change_65 (fun H locs hP hD hS => ?_)
              have hP : va_P (dC, dI) vwCl [(m0, .inr (8, [.int mth, .int mst, .ref mp, .int mln, .ref mk, .int mts, .ref mti, .ref mtw, .ref mi, .int 0, .ref mpo, .int mpd, .ref mpi, .int mpl, .int mcp, .ref mre, .ref mnn, .ref mwo, .ref mga, .ref mlo, .ref mro, .ref mle, .ref mra, .int mme, .ref mha, .int mch, .int mtm, .int mgo, .int mwa, .ref mba, .int mbl, .ref mon])), (mi, .inl (cI, 12, .inl mif)), (mba, .inl (cI, 12, .inl mbaf))] H := hP
              have hD : va_D A [(m0, .inr (8, [.int mth, .int mst, .ref mp, .int mln, .ref mk, .int mts, .ref mti, .ref mtw, .ref mi, .int 0, .ref mpo, .int mpd, .ref mpi, .int mpl, .int mcp, .ref mre, .ref mnn, .ref mwo, .ref mga, .ref mlo, .ref mro, .ref mle, .ref mra, .int mme, .ref mha, .int mch, .int mtm, .int mgo, .int mwa, .ref mba, .int mbl, .ref mon])), (mi, .inl (cI, 12, .inl mif)), (mba, .inl (cI, 12, .inl mbaf))] := hD
              refine lv_iconst (v := 0) hx hb dX9_change_68 (by decide) ?_
              refine lv_istore (lv' := [(5, .int 0), (4, .int 0), (3, .int v2), (2, .int v1), (0, .ref m0), (1, .int x)]) hx hb dX9_change_69 hl (by decide) rfl (fun ls hl => ?_)
              have J71 : ∀ (n : Nat) (L5_71 : Int32) (mmn_71 : Int32) (mif_71 : Nat → Int32), (0 ≤ mmn_71.toInt ∧ mmn_71.toInt ≤ L5_71.toInt + 1 ∧ mmn_71.toInt ≤ mbl.toInt + 1) → (v1.toInt < L5_71.toInt ∨ mmn_71.toInt ≤ L5_71.toInt) → (0 ≤ L5_71.toInt ∧ L5_71.toInt ≤ mbl.toInt + 1) → (mbl.toInt + 1 - L5_71.toInt) < (n : Int) → ∀ (H : Heap) (locs : List Loc) (ls : Array Slot), va_P (dC, dI) vwCl [(m0, .inr (8, [.int mth, .int mst, .ref mp, .int mln, .ref mk, .int mts, .ref mti, .ref mtw, .ref mi, .int mmn_71, .ref mpo, .int mpd, .ref mpi, .int mpl, .int mcp, .ref mre, .ref mnn, .ref mwo, .ref mga, .ref mlo, .ref mro, .ref mle, .ref mra, .int mme, .ref mha, .int mch, .int mtm, .int mgo, .int mwa, .ref mba, .int mbl, .ref mon])), (mi, .inl (cI, 12, .inl mif_71)), (mba, .inl (cI, 12, .inl mbaf))] H → va_D A [(m0, .inr (8, [.int mth, .int mst, .ref mp, .int mln, .ref mk, .int mts, .ref mti, .ref mtw, .ref mi, .int mmn_71, .ref mpo, .int mpd, .ref mpi, .int mpl, .int mcp, .ref mre, .ref mnn, .ref mwo, .ref mga, .ref mlo, .ref mro, .ref mle, .ref mra, .int mme, .ref mha, .int mch, .int mtm, .int mgo, .int mwa, .ref mba, .int mbl, .ref mon])), (mi, .inl (cI, 12, .inl mif_71)), (mba, .inl (cI, 12, .inl mbaf))] → va_S A s.heap H locs → lv_has ls 6 [(5, .int L5_71), (4, .int 0), (3, .int v2), (2, .int v1), (0, .ref m0), (1, .int x)] → W p l e { frames := 0, cells := 0, slots := 0, locals := 0 } s m (List.toArray [.ref m0, .int x]) below meth c H locs 0 0 Q (F0 m 71 ls []) := by
                intro n
                induction n with
                | zero =>
                  intro L5_71 mmn_71 mif_71 hi0_71 hi1_71 hi2_71 hm
                  exact absurd hm (by omega)
                | succ n ih71 =>
                  intro L5_71 mmn_71 mif_71 hi0_71 hi1_71 hi2_71 hm71 H locs ls hP hD hS hl
                  refine lv_iload hx hb dX9_change_71 (lv_at hl 0 rfl) ?_
                  refine lv_aload_n hx hb dX9_change_73 rfl (lv_at hl 4 rfl) ?_
                  refine va_get (D := (dC, dI)) (ci := 8) (v := .int mbl) (C := RX9) (T := TX9) (N := 32) hx hb hts inG_X9 hown hK hP 0 rfl rfl 30 (by decide) (hts _ fl_X9_177) (fun _ h9 => h9) rfl dX9_change_74 ?_
                  refine lv_icmp_gt (tgt := 176) hx hb dX9_change_77 (by decide) (fun c63 => ?_) (fun c63 => ?_)
                  · have c63' := I_lt c63
                    refine lv_iconst (v := 1) hx hb dX9_change_176 (by decide) ?_
                    exact hret 1 (mmn_71, mif_71) H locs 177 ls (by first | rfl | exact I_narz (by omega)) ⟨(show (1 : Int32).toInt = 0 ∨ (1 : Int32).toInt = 1 from by first | rfl | assumption | omega), (show 0 ≤ mmn_71.toInt ∧ mmn_71.toInt ≤ 12 from by first | rfl | assumption | omega), (show (1 : Int32).toInt = 0 ∨ mmn_71.toInt ≤ mbl.toInt + 1 from by first | rfl | assumption | omega), trivial⟩ hP hD hS dX9_change_177
                  · have c63' := I_nlt c63
                    have J170 : ∀ (mmn_170 : Int32) (mif_170 : Nat → Int32), (0 ≤ mmn_170.toInt ∧ mmn_170.toInt ≤ L5_71.toInt + 2 ∧ mmn_170.toInt ≤ mbl.toInt + 1) → (v1.toInt < L5_71.toInt + 1 ∨ mmn_170.toInt ≤ L5_71.toInt + 1) → ∀ (H : Heap) (locs : List Loc) (ls : Array Slot), va_P (dC, dI) vwCl [(m0, .inr (8, [.int mth, .int mst, .ref mp, .int mln, .ref mk, .int mts, .ref mti, .ref mtw, .ref mi, .int mmn_170, .ref mpo, .int mpd, .ref mpi, .int mpl, .int mcp, .ref mre, .ref mnn, .ref mwo, .ref mga, .ref mlo, .ref mro, .ref mle, .ref mra, .int mme, .ref mha, .int mch, .int mtm, .int mgo, .int mwa, .ref mba, .int mbl, .ref mon])), (mi, .inl (cI, 12, .inl mif_170)), (mba, .inl (cI, 12, .inl mbaf))] H → va_D A [(m0, .inr (8, [.int mth, .int mst, .ref mp, .int mln, .ref mk, .int mts, .ref mti, .ref mtw, .ref mi, .int mmn_170, .ref mpo, .int mpd, .ref mpi, .int mpl, .int mcp, .ref mre, .ref mnn, .ref mwo, .ref mga, .ref mlo, .ref mro, .ref mle, .ref mra, .int mme, .ref mha, .int mch, .int mtm, .int mgo, .int mwa, .ref mba, .int mbl, .ref mon])), (mi, .inl (cI, 12, .inl mif_170)), (mba, .inl (cI, 12, .inl mbaf))] → va_S A s.heap H locs → lv_has ls 6 [(5, .int L5_71), (4, .int 0), (3, .int v2), (2, .int v1), (0, .ref m0), (1, .int x)] → W p l e { frames := 0, cells := 0, slots := 0, locals := 0 } s m (List.toArray [.ref m0, .int x]) below meth c H locs 0 0 Q (F0 m 170 ls []) := by
                      intro mmn_170 mif_170 hi0_170 hi1_170 H locs ls hP hD hS hl
                      obtain ⟨v64, ev64⟩ : ∃ y : Int32, y = L5_71 + 1 := ⟨_, rfl⟩
                      try have hv64 : v64.toInt = L5_71.toInt + (1 : Int32).toInt := I_addx ev64 (by omega)
                      refine lv_iinc (v := v64) (lv' := [(5, .int v64), (4, .int 0), (3, .int v2), (2, .int v1), (0, .ref m0), (1, .int x)]) hx hb dX9_change_170 hl (k := 0) rfl (by rw [ev64]; rfl) (by decide) rfl (fun ls hl => ?_)
                      refine lv_goto (tgt := 71) hx hb dX9_change_173 (by decide) ?_
                      exact ih71 v64 mmn_170 mif_170 (by first | assumption | omega) (by first | assumption | omega) (by first | assumption | omega) (by omega) H locs ls hP hD hS hl
                    refine lv_iload hx hb dX9_change_80 (lv_at hl 0 rfl) ?_
                    refine lv_iload_n hx hb dX9_change_82 rfl (lv_at hl 3 rfl) ?_
                    refine lv_icmp_ne (tgt := 124) hx hb dX9_change_83 (by decide) (fun c65 => ?_) (fun c65 => ?_)
                    · have c65' := I_ne c65
                      refine lv_iload hx hb dX9_change_124 (lv_at hl 0 rfl) ?_
                      refine lv_aload_n hx hb dX9_change_126 rfl (lv_at hl 4 rfl) ?_
                      refine va_get (D := (dC, dI)) (ci := 8) (v := .int mbl) (C := RX9) (T := TX9) (N := 32) hx hb hts inG_X9 hown hK hP 0 rfl rfl 30 (by decide) (hts _ fl_X9_177) (fun _ h9 => h9) rfl dX9_change_127 ?_
                      refine lv_icmp_ge (tgt := 170) hx hb dX9_change_130 (by decide) (fun c66 => ?_) (fun c66 => ?_)
                      · have c66' := I_le c66
                        exact J170 mmn_71 mif_71 (by first | assumption | omega) (by first | assumption | omega) H locs ls hP hD hS hl
                      · have c66' := I_nle c66
                        refine lv_iload hx hb dX9_change_133 (lv_at hl 0 rfl) ?_
                        refine lv_iload_n hx hb dX9_change_135 rfl (lv_at hl 3 rfl) ?_
                        refine lv_icmp_ne (tgt := 144) hx hb dX9_change_136 (by decide) (fun c67 => ?_) (fun c67 => ?_)
                        · have c67' := I_ne c67
                          refine lv_aload_n hx hb dX9_change_144 rfl (lv_at hl 4 rfl) ?_
                          refine va_get (D := (dC, dI)) (ci := 8) (v := .ref mi) (C := RX9) (T := TX9) (N := 32) hx hb hts inG_X9 hown hK hP 0 rfl rfl 8 (by decide) (hts _ fl_X9_22) (fun _ h9 => h9) rfl dX9_change_145 ?_
                          refine lv_aload_n hx hb dX9_change_148 rfl (lv_at hl 4 rfl) ?_
                          refine va_get (D := (dC, dI)) (ci := 8) (v := .int mmn_71) (C := RX9) (T := TX9) (N := 32) hx hb hts inG_X9 hown hK hP 0 rfl rfl 9 (by decide) (hts _ fl_X9_114) (fun _ h9 => h9) rfl dX9_change_149 ?_
                          refine lv_aload_n hx hb dX9_change_152 rfl (lv_at hl 4 rfl) ?_
                          refine va_get (D := (dC, dI)) (ci := 8) (v := .ref mba) (C := RX9) (T := TX9) (N := 32) hx hb hts inG_X9 hown hK hP 0 rfl rfl 29 (by decide) (hts _ fl_X9_63) (fun _ h9 => h9) rfl dX9_change_153 ?_
                          refine lv_iload hx hb dX9_change_156 (lv_at hl 0 rfl) ?_
                          refine va_iald (t0 := 0) hx hb hK hP 2 (ha := rfl) (ht := rfl) (I_in (by omega) (by omega)) dX9_change_158 ?_
                          refine lv_topi (fun v68 ev68 => ?_)
                          refine va_iast (t0 := 0) hx hb hK hP hD hS 1 (ha := rfl) (ht := rfl) (I_in (by omega) (by omega)) dX9_change_159 (fun H locs hP hD hS => ?_)
                          have hP : va_P (dC, dI) vwCl [(m0, .inr (8, [.int mth, .int mst, .ref mp, .int mln, .ref mk, .int mts, .ref mti, .ref mtw, .ref mi, .int mmn_71, .ref mpo, .int mpd, .ref mpi, .int mpl, .int mcp, .ref mre, .ref mnn, .ref mwo, .ref mga, .ref mlo, .ref mro, .ref mle, .ref mra, .int mme, .ref mha, .int mch, .int mtm, .int mgo, .int mwa, .ref mba, .int mbl, .ref mon])), (mi, .inl (cI, 12, .inl (upd mif_71 mmn_71.toNatClampNeg v68))), (mba, .inl (cI, 12, .inl mbaf))] H := hP
                          have hD : va_D A [(m0, .inr (8, [.int mth, .int mst, .ref mp, .int mln, .ref mk, .int mts, .ref mti, .ref mtw, .ref mi, .int mmn_71, .ref mpo, .int mpd, .ref mpi, .int mpl, .int mcp, .ref mre, .ref mnn, .ref mwo, .ref mga, .ref mlo, .ref mro, .ref mle, .ref mra, .int mme, .ref mha, .int mch, .int mtm, .int mgo, .int mwa, .ref mba, .int mbl, .ref mon])), (mi, .inl (cI, 12, .inl (upd mif_71 mmn_71.toNatClampNeg v68))), (mba, .inl (cI, 12, .inl mbaf))] := hD
                          generalize ef69 : upd mif_71 mmn_71.toNatClampNeg v68 = f69 at hP hD
                          refine lv_aload_n hx hb dX9_change_160 rfl (lv_at hl 4 rfl) ?_
                          refine lv_dup hx hb dX9_change_161 rfl ?_
                          refine va_get (D := (dC, dI)) (ci := 8) (v := .int mmn_71) (C := RX9) (T := TX9) (N := 32) hx hb hts inG_X9 hown hK hP 0 rfl rfl 9 (by decide) (hts _ fl_X9_114) (fun _ h9 => h9) rfl dX9_change_162 ?_
                          refine lv_iconst (v := 1) hx hb dX9_change_165 (by decide) ?_
                          refine lv_iadd hx hb dX9_change_166 ?_
                          refine lv_topi (fun v70 ev70 => ?_)
                          try have hv70 : v70.toInt = mmn_71.toInt + (1 : Int32).toInt := I_addx ev70 (by omega)
                          refine va_put (D := (dC, dI)) (ci := 8) (v := .int v70) (ty := .int) (C := RX9) (T := TX9) (N := 32) hx hb hts inG_X9 tyX9 tyX9_ok nmX9 hown hK hP hD hS 0 rfl rfl 9 (by decide) (hts _ fl_X9_114) (fun _ h9 => h9) rfl (by decide +kernel) rfl rfl (Nat.le_of_ble_eq_true rfl) dX9_change_167 (fun H locs hP hD hS => ?_)
                          have hP : va_P (dC, dI) vwCl [(m0, .inr (8, [.int mth, .int mst, .ref mp, .int mln, .ref mk, .int mts, .ref mti, .ref mtw, .ref mi, .int v70, .ref mpo, .int mpd, .ref mpi, .int mpl, .int mcp, .ref mre, .ref mnn, .ref mwo, .ref mga, .ref mlo, .ref mro, .ref mle, .ref mra, .int mme, .ref mha, .int mch, .int mtm, .int mgo, .int mwa, .ref mba, .int mbl, .ref mon])), (mi, .inl (cI, 12, .inl f69)), (mba, .inl (cI, 12, .inl mbaf))] H := hP
                          have hD : va_D A [(m0, .inr (8, [.int mth, .int mst, .ref mp, .int mln, .ref mk, .int mts, .ref mti, .ref mtw, .ref mi, .int v70, .ref mpo, .int mpd, .ref mpi, .int mpl, .int mcp, .ref mre, .ref mnn, .ref mwo, .ref mga, .ref mlo, .ref mro, .ref mle, .ref mra, .int mme, .ref mha, .int mch, .int mtm, .int mgo, .int mwa, .ref mba, .int mbl, .ref mon])), (mi, .inl (cI, 12, .inl f69)), (mba, .inl (cI, 12, .inl mbaf))] := hD
                          exact J170 v70 f69 (by first | assumption | omega) (by first | assumption | omega) H locs ls hP hD hS hl
                        · have c67' := I_eq c67
                          refine lv_iload hx hb dX9_change_139 (lv_at hl 1 rfl) ?_
                          refine lv_if_eq (tgt := 170) hx hb dX9_change_141 (by decide) (fun c71 => ?_) (fun c71 => ?_)
                          · have c71' := I_eq c71
                            exact J170 mmn_71 mif_71 (by first | assumption | omega) (by first | assumption | omega) H locs ls hP hD hS hl
                          · have c71' := I_ne c71
                            exact absurd c71 (by decide)
                    · have c65' := I_eq c65
                      refine lv_iload_n hx hb dX9_change_86 rfl (lv_at hl 2 rfl) ?_
                      refine lv_bipush (v := 56) hx hb dX9_change_87 (by decide) ?_
                      refine lv_icmp_ge (tgt := 124) hx hb dX9_change_89 (by decide) (fun c72 => ?_) (fun c72 => ?_)
                      · have c72' := I_le c72
                        refine lv_iload hx hb dX9_change_124 (lv_at hl 0 rfl) ?_
                        refine lv_aload_n hx hb dX9_change_126 rfl (lv_at hl 4 rfl) ?_
                        refine va_get (D := (dC, dI)) (ci := 8) (v := .int mbl) (C := RX9) (T := TX9) (N := 32) hx hb hts inG_X9 hown hK hP 0 rfl rfl 30 (by decide) (hts _ fl_X9_177) (fun _ h9 => h9) rfl dX9_change_127 ?_
                        refine lv_icmp_ge (tgt := 170) hx hb dX9_change_130 (by decide) (fun c73 => ?_) (fun c73 => ?_)
                        · have c73' := I_le c73
                          exact J170 mmn_71 mif_71 (by first | assumption | omega) (by first | assumption | omega) H locs ls hP hD hS hl
                        · have c73' := I_nle c73
                          refine lv_iload hx hb dX9_change_133 (lv_at hl 0 rfl) ?_
                          refine lv_iload_n hx hb dX9_change_135 rfl (lv_at hl 3 rfl) ?_
                          refine lv_icmp_ne (tgt := 144) hx hb dX9_change_136 (by decide) (fun c74 => ?_) (fun c74 => ?_)
                          · have c74' := I_ne c74
                            refine lv_aload_n hx hb dX9_change_144 rfl (lv_at hl 4 rfl) ?_
                            refine va_get (D := (dC, dI)) (ci := 8) (v := .ref mi) (C := RX9) (T := TX9) (N := 32) hx hb hts inG_X9 hown hK hP 0 rfl rfl 8 (by decide) (hts _ fl_X9_22) (fun _ h9 => h9) rfl dX9_change_145 ?_
                            refine lv_aload_n hx hb dX9_change_148 rfl (lv_at hl 4 rfl) ?_
                            refine va_get (D := (dC, dI)) (ci := 8) (v := .int mmn_71) (C := RX9) (T := TX9) (N := 32) hx hb hts inG_X9 hown hK hP 0 rfl rfl 9 (by decide) (hts _ fl_X9_114) (fun _ h9 => h9) rfl dX9_change_149 ?_
                            refine lv_aload_n hx hb dX9_change_152 rfl (lv_at hl 4 rfl) ?_
                            refine va_get (D := (dC, dI)) (ci := 8) (v := .ref mba) (C := RX9) (T := TX9) (N := 32) hx hb hts inG_X9 hown hK hP 0 rfl rfl 29 (by decide) (hts _ fl_X9_63) (fun _ h9 => h9) rfl dX9_change_153 ?_
                            refine lv_iload hx hb dX9_change_156 (lv_at hl 0 rfl) ?_
                            refine va_iald (t0 := 0) hx hb hK hP 2 (ha := rfl) (ht := rfl) (I_in (by omega) (by omega)) dX9_change_158 ?_
                            refine lv_topi (fun v75 ev75 => ?_)
                            refine va_iast (t0 := 0) hx hb hK hP hD hS 1 (ha := rfl) (ht := rfl) (I_in (by omega) (by omega)) dX9_change_159 (fun H locs hP hD hS => ?_)
                            have hP : va_P (dC, dI) vwCl [(m0, .inr (8, [.int mth, .int mst, .ref mp, .int mln, .ref mk, .int mts, .ref mti, .ref mtw, .ref mi, .int mmn_71, .ref mpo, .int mpd, .ref mpi, .int mpl, .int mcp, .ref mre, .ref mnn, .ref mwo, .ref mga, .ref mlo, .ref mro, .ref mle, .ref mra, .int mme, .ref mha, .int mch, .int mtm, .int mgo, .int mwa, .ref mba, .int mbl, .ref mon])), (mi, .inl (cI, 12, .inl (upd mif_71 mmn_71.toNatClampNeg v75))), (mba, .inl (cI, 12, .inl mbaf))] H := hP
                            have hD : va_D A [(m0, .inr (8, [.int mth, .int mst, .ref mp, .int mln, .ref mk, .int mts, .ref mti, .ref mtw, .ref mi, .int mmn_71, .ref mpo, .int mpd, .ref mpi, .int mpl, .int mcp, .ref mre, .ref mnn, .ref mwo, .ref mga, .ref mlo, .ref mro, .ref mle, .ref mra, .int mme, .ref mha, .int mch, .int mtm, .int mgo, .int mwa, .ref mba, .int mbl, .ref mon])), (mi, .inl (cI, 12, .inl (upd mif_71 mmn_71.toNatClampNeg v75))), (mba, .inl (cI, 12, .inl mbaf))] := hD
                            generalize ef76 : upd mif_71 mmn_71.toNatClampNeg v75 = f76 at hP hD
                            refine lv_aload_n hx hb dX9_change_160 rfl (lv_at hl 4 rfl) ?_
                            refine lv_dup hx hb dX9_change_161 rfl ?_
                            refine va_get (D := (dC, dI)) (ci := 8) (v := .int mmn_71) (C := RX9) (T := TX9) (N := 32) hx hb hts inG_X9 hown hK hP 0 rfl rfl 9 (by decide) (hts _ fl_X9_114) (fun _ h9 => h9) rfl dX9_change_162 ?_
                            refine lv_iconst (v := 1) hx hb dX9_change_165 (by decide) ?_
                            refine lv_iadd hx hb dX9_change_166 ?_
                            refine lv_topi (fun v77 ev77 => ?_)
                            try have hv77 : v77.toInt = mmn_71.toInt + (1 : Int32).toInt := I_addx ev77 (by omega)
                            refine va_put (D := (dC, dI)) (ci := 8) (v := .int v77) (ty := .int) (C := RX9) (T := TX9) (N := 32) hx hb hts inG_X9 tyX9 tyX9_ok nmX9 hown hK hP hD hS 0 rfl rfl 9 (by decide) (hts _ fl_X9_114) (fun _ h9 => h9) rfl (by decide +kernel) rfl rfl (Nat.le_of_ble_eq_true rfl) dX9_change_167 (fun H locs hP hD hS => ?_)
                            have hP : va_P (dC, dI) vwCl [(m0, .inr (8, [.int mth, .int mst, .ref mp, .int mln, .ref mk, .int mts, .ref mti, .ref mtw, .ref mi, .int v77, .ref mpo, .int mpd, .ref mpi, .int mpl, .int mcp, .ref mre, .ref mnn, .ref mwo, .ref mga, .ref mlo, .ref mro, .ref mle, .ref mra, .int mme, .ref mha, .int mch, .int mtm, .int mgo, .int mwa, .ref mba, .int mbl, .ref mon])), (mi, .inl (cI, 12, .inl f76)), (mba, .inl (cI, 12, .inl mbaf))] H := hP
                            have hD : va_D A [(m0, .inr (8, [.int mth, .int mst, .ref mp, .int mln, .ref mk, .int mts, .ref mti, .ref mtw, .ref mi, .int v77, .ref mpo, .int mpd, .ref mpi, .int mpl, .int mcp, .ref mre, .ref mnn, .ref mwo, .ref mga, .ref mlo, .ref mro, .ref mle, .ref mra, .int mme, .ref mha, .int mch, .int mtm, .int mgo, .int mwa, .ref mba, .int mbl, .ref mon])), (mi, .inl (cI, 12, .inl f76)), (mba, .inl (cI, 12, .inl mbaf))] := hD
                            exact J170 v77 f76 (by first | assumption | omega) (by first | assumption | omega) H locs ls hP hD hS hl
                          · have c74' := I_eq c74
                            refine lv_iload hx hb dX9_change_139 (lv_at hl 1 rfl) ?_
                            refine lv_if_eq (tgt := 170) hx hb dX9_change_141 (by decide) (fun c78 => ?_) (fun c78 => ?_)
                            · have c78' := I_eq c78
                              exact J170 mmn_71 mif_71 (by first | assumption | omega) (by first | assumption | omega) H locs ls hP hD hS hl
                            · have c78' := I_ne c78
                              exact absurd c78 (by decide)
                      · have c72' := I_nle c72
                        refine lv_aload_n hx hb dX9_change_92 rfl (lv_at hl 4 rfl) ?_
                        refine va_get (D := (dC, dI)) (ci := 8) (v := .ref mi) (C := RX9) (T := TX9) (N := 32) hx hb hts inG_X9 hown hK hP 0 rfl rfl 8 (by decide) (hts _ fl_X9_22) (fun _ h9 => h9) rfl dX9_change_93 ?_
                        refine lv_aload_n hx hb dX9_change_96 rfl (lv_at hl 4 rfl) ?_
                        refine va_get (D := (dC, dI)) (ci := 8) (v := .int mmn_71) (C := RX9) (T := TX9) (N := 32) hx hb hts inG_X9 hown hK hP 0 rfl rfl 9 (by decide) (hts _ fl_X9_114) (fun _ h9 => h9) rfl dX9_change_97 ?_
                        refine lv_iload hx hb dX9_change_100 (lv_at hl 1 rfl) ?_
                        refine lv_if_eq (tgt := 109) hx hb dX9_change_102 (by decide) (fun c79 => ?_) (fun c79 => ?_)
                        · have c79' := I_eq c79
                          refine lv_iload_n hx hb dX9_change_109 rfl (lv_at hl 2 rfl) ?_
                          refine lv_bipush (v := 28) hx hb dX9_change_110 (by decide) ?_
                          refine lv_isub hx hb dX9_change_112 ?_
                          refine lv_topi (fun v80 ev80 => ?_)
                          try have hv80 : v80.toInt = v2.toInt - (28 : Int32).toInt := I_subx ev80 (by omega)
                          refine va_iast (t0 := 0) hx hb hK hP hD hS 1 (ha := rfl) (ht := rfl) (I_in (by omega) (by omega)) dX9_change_113 (fun H locs hP hD hS => ?_)
                          have hP : va_P (dC, dI) vwCl [(m0, .inr (8, [.int mth, .int mst, .ref mp, .int mln, .ref mk, .int mts, .ref mti, .ref mtw, .ref mi, .int mmn_71, .ref mpo, .int mpd, .ref mpi, .int mpl, .int mcp, .ref mre, .ref mnn, .ref mwo, .ref mga, .ref mlo, .ref mro, .ref mle, .ref mra, .int mme, .ref mha, .int mch, .int mtm, .int mgo, .int mwa, .ref mba, .int mbl, .ref mon])), (mi, .inl (cI, 12, .inl (upd mif_71 mmn_71.toNatClampNeg v80))), (mba, .inl (cI, 12, .inl mbaf))] H := hP
                          have hD : va_D A [(m0, .inr (8, [.int mth, .int mst, .ref mp, .int mln, .ref mk, .int mts, .ref mti, .ref mtw, .ref mi, .int mmn_71, .ref mpo, .int mpd, .ref mpi, .int mpl, .int mcp, .ref mre, .ref mnn, .ref mwo, .ref mga, .ref mlo, .ref mro, .ref mle, .ref mra, .int mme, .ref mha, .int mch, .int mtm, .int mgo, .int mwa, .ref mba, .int mbl, .ref mon])), (mi, .inl (cI, 12, .inl (upd mif_71 mmn_71.toNatClampNeg v80))), (mba, .inl (cI, 12, .inl mbaf))] := hD
                          generalize ef81 : upd mif_71 mmn_71.toNatClampNeg v80 = f81 at hP hD
                          refine lv_aload_n hx hb dX9_change_114 rfl (lv_at hl 4 rfl) ?_
                          refine lv_dup hx hb dX9_change_115 rfl ?_
                          refine va_get (D := (dC, dI)) (ci := 8) (v := .int mmn_71) (C := RX9) (T := TX9) (N := 32) hx hb hts inG_X9 hown hK hP 0 rfl rfl 9 (by decide) (hts _ fl_X9_114) (fun _ h9 => h9) rfl dX9_change_116 ?_
                          refine lv_iconst (v := 1) hx hb dX9_change_119 (by decide) ?_
                          refine lv_iadd hx hb dX9_change_120 ?_
                          refine lv_topi (fun v82 ev82 => ?_)
                          try have hv82 : v82.toInt = mmn_71.toInt + (1 : Int32).toInt := I_addx ev82 (by omega)
                          refine va_put (D := (dC, dI)) (ci := 8) (v := .int v82) (ty := .int) (C := RX9) (T := TX9) (N := 32) hx hb hts inG_X9 tyX9 tyX9_ok nmX9 hown hK hP hD hS 0 rfl rfl 9 (by decide) (hts _ fl_X9_114) (fun _ h9 => h9) rfl (by decide +kernel) rfl rfl (Nat.le_of_ble_eq_true rfl) dX9_change_121 (fun H locs hP hD hS => ?_)
                          have hP : va_P (dC, dI) vwCl [(m0, .inr (8, [.int mth, .int mst, .ref mp, .int mln, .ref mk, .int mts, .ref mti, .ref mtw, .ref mi, .int v82, .ref mpo, .int mpd, .ref mpi, .int mpl, .int mcp, .ref mre, .ref mnn, .ref mwo, .ref mga, .ref mlo, .ref mro, .ref mle, .ref mra, .int mme, .ref mha, .int mch, .int mtm, .int mgo, .int mwa, .ref mba, .int mbl, .ref mon])), (mi, .inl (cI, 12, .inl f81)), (mba, .inl (cI, 12, .inl mbaf))] H := hP
                          have hD : va_D A [(m0, .inr (8, [.int mth, .int mst, .ref mp, .int mln, .ref mk, .int mts, .ref mti, .ref mtw, .ref mi, .int v82, .ref mpo, .int mpd, .ref mpi, .int mpl, .int mcp, .ref mre, .ref mnn, .ref mwo, .ref mga, .ref mlo, .ref mro, .ref mle, .ref mra, .int mme, .ref mha, .int mch, .int mtm, .int mgo, .int mwa, .ref mba, .int mbl, .ref mon])), (mi, .inl (cI, 12, .inl f81)), (mba, .inl (cI, 12, .inl mbaf))] := hD
                          refine lv_iload hx hb dX9_change_124 (lv_at hl 0 rfl) ?_
                          refine lv_aload_n hx hb dX9_change_126 rfl (lv_at hl 4 rfl) ?_
                          refine va_get (D := (dC, dI)) (ci := 8) (v := .int mbl) (C := RX9) (T := TX9) (N := 32) hx hb hts inG_X9 hown hK hP 0 rfl rfl 30 (by decide) (hts _ fl_X9_177) (fun _ h9 => h9) rfl dX9_change_127 ?_
                          refine lv_icmp_ge (tgt := 170) hx hb dX9_change_130 (by decide) (fun c83 => ?_) (fun c83 => ?_)
                          · have c83' := I_le c83
                            exact J170 v82 f81 (by first | assumption | omega) (by first | assumption | omega) H locs ls hP hD hS hl
                          · have c83' := I_nle c83
                            refine lv_iload hx hb dX9_change_133 (lv_at hl 0 rfl) ?_
                            refine lv_iload_n hx hb dX9_change_135 rfl (lv_at hl 3 rfl) ?_
                            refine lv_icmp_ne (tgt := 144) hx hb dX9_change_136 (by decide) (fun c84 => ?_) (fun c84 => ?_)
                            · have c84' := I_ne c84
                              refine lv_aload_n hx hb dX9_change_144 rfl (lv_at hl 4 rfl) ?_
                              refine va_get (D := (dC, dI)) (ci := 8) (v := .ref mi) (C := RX9) (T := TX9) (N := 32) hx hb hts inG_X9 hown hK hP 0 rfl rfl 8 (by decide) (hts _ fl_X9_22) (fun _ h9 => h9) rfl dX9_change_145 ?_
                              refine lv_aload_n hx hb dX9_change_148 rfl (lv_at hl 4 rfl) ?_
                              refine va_get (D := (dC, dI)) (ci := 8) (v := .int v82) (C := RX9) (T := TX9) (N := 32) hx hb hts inG_X9 hown hK hP 0 rfl rfl 9 (by decide) (hts _ fl_X9_114) (fun _ h9 => h9) rfl dX9_change_149 ?_
                              refine lv_aload_n hx hb dX9_change_152 rfl (lv_at hl 4 rfl) ?_
                              refine va_get (D := (dC, dI)) (ci := 8) (v := .ref mba) (C := RX9) (T := TX9) (N := 32) hx hb hts inG_X9 hown hK hP 0 rfl rfl 29 (by decide) (hts _ fl_X9_63) (fun _ h9 => h9) rfl dX9_change_153 ?_
                              refine lv_iload hx hb dX9_change_156 (lv_at hl 0 rfl) ?_
                              refine va_iald (t0 := 0) hx hb hK hP 2 (ha := rfl) (ht := rfl) (I_in (by omega) (by omega)) dX9_change_158 ?_
                              refine lv_topi (fun v85 ev85 => ?_)
                              refine va_iast (t0 := 0) hx hb hK hP hD hS 1 (ha := rfl) (ht := rfl) (I_in (by omega) (by omega)) dX9_change_159 (fun H locs hP hD hS => ?_)
                              have hP : va_P (dC, dI) vwCl [(m0, .inr (8, [.int mth, .int mst, .ref mp, .int mln, .ref mk, .int mts, .ref mti, .ref mtw, .ref mi, .int v82, .ref mpo, .int mpd, .ref mpi, .int mpl, .int mcp, .ref mre, .ref mnn, .ref mwo, .ref mga, .ref mlo, .ref mro, .ref mle, .ref mra, .int mme, .ref mha, .int mch, .int mtm, .int mgo, .int mwa, .ref mba, .int mbl, .ref mon])), (mi, .inl (cI, 12, .inl (upd f81 v82.toNatClampNeg v85))), (mba, .inl (cI, 12, .inl mbaf))] H := hP
                              have hD : va_D A [(m0, .inr (8, [.int mth, .int mst, .ref mp, .int mln, .ref mk, .int mts, .ref mti, .ref mtw, .ref mi, .int v82, .ref mpo, .int mpd, .ref mpi, .int mpl, .int mcp, .ref mre, .ref mnn, .ref mwo, .ref mga, .ref mlo, .ref mro, .ref mle, .ref mra, .int mme, .ref mha, .int mch, .int mtm, .int mgo, .int mwa, .ref mba, .int mbl, .ref mon])), (mi, .inl (cI, 12, .inl (upd f81 v82.toNatClampNeg v85))), (mba, .inl (cI, 12, .inl mbaf))] := hD
                              generalize ef86 : upd f81 v82.toNatClampNeg v85 = f86 at hP hD
                              refine lv_aload_n hx hb dX9_change_160 rfl (lv_at hl 4 rfl) ?_
                              refine lv_dup hx hb dX9_change_161 rfl ?_
                              refine va_get (D := (dC, dI)) (ci := 8) (v := .int v82) (C := RX9) (T := TX9) (N := 32) hx hb hts inG_X9 hown hK hP 0 rfl rfl 9 (by decide) (hts _ fl_X9_114) (fun _ h9 => h9) rfl dX9_change_162 ?_
                              refine lv_iconst (v := 1) hx hb dX9_change_165 (by decide) ?_
                              refine lv_iadd hx hb dX9_change_166 ?_
                              refine lv_topi (fun v87 ev87 => ?_)
                              try have hv87 : v87.toInt = v82.toInt + (1 : Int32).toInt := I_addx ev87 (by omega)
                              refine va_put (D := (dC, dI)) (ci := 8) (v := .int v87) (ty := .int) (C := RX9) (T := TX9) (N := 32) hx hb hts inG_X9 tyX9 tyX9_ok nmX9 hown hK hP hD hS 0 rfl rfl 9 (by decide) (hts _ fl_X9_114) (fun _ h9 => h9) rfl (by decide +kernel) rfl rfl (Nat.le_of_ble_eq_true rfl) dX9_change_167 (fun H locs hP hD hS => ?_)
                              have hP : va_P (dC, dI) vwCl [(m0, .inr (8, [.int mth, .int mst, .ref mp, .int mln, .ref mk, .int mts, .ref mti, .ref mtw, .ref mi, .int v87, .ref mpo, .int mpd, .ref mpi, .int mpl, .int mcp, .ref mre, .ref mnn, .ref mwo, .ref mga, .ref mlo, .ref mro, .ref mle, .ref mra, .int mme, .ref mha, .int mch, .int mtm, .int mgo, .int mwa, .ref mba, .int mbl, .ref mon])), (mi, .inl (cI, 12, .inl f86)), (mba, .inl (cI, 12, .inl mbaf))] H := hP
                              have hD : va_D A [(m0, .inr (8, [.int mth, .int mst, .ref mp, .int mln, .ref mk, .int mts, .ref mti, .ref mtw, .ref mi, .int v87, .ref mpo, .int mpd, .ref mpi, .int mpl, .int mcp, .ref mre, .ref mnn, .ref mwo, .ref mga, .ref mlo, .ref mro, .ref mle, .ref mra, .int mme, .ref mha, .int mch, .int mtm, .int mgo, .int mwa, .ref mba, .int mbl, .ref mon])), (mi, .inl (cI, 12, .inl f86)), (mba, .inl (cI, 12, .inl mbaf))] := hD
                              exact J170 v87 f86 (by first | assumption | omega) (by first | assumption | omega) H locs ls hP hD hS hl
                            · have c84' := I_eq c84
                              refine lv_iload hx hb dX9_change_139 (lv_at hl 1 rfl) ?_
                              refine lv_if_eq (tgt := 170) hx hb dX9_change_141 (by decide) (fun c88 => ?_) (fun c88 => ?_)
                              · have c88' := I_eq c88
                                exact J170 v82 f81 (by first | assumption | omega) (by first | assumption | omega) H locs ls hP hD hS hl
                              · have c88' := I_ne c88
                                exact absurd c88 (by decide)
                        · have c79' := I_ne c79
                          exact absurd c79 (by decide)
              exact J71 ((mbl.toInt + 1 - (0 : Int32).toInt).toNat + 1) 0 0 mif (by first | assumption | omega) (by first | assumption | omega) (by first | assumption | omega) (by omega) H locs ls hP hD hS hl
            · have c62' := I_eq c62
              refine lv_iconst (v := 0) hx hb dX9_change_61 (by decide) ?_
              exact hret 0 (mmn, mif) H locs 62 ls (by first | rfl | exact I_narz (by omega)) ⟨(show (0 : Int32).toInt = 0 ∨ (0 : Int32).toInt = 1 from by first | rfl | assumption | omega), (show 0 ≤ mmn.toInt ∧ mmn.toInt ≤ 12 from by first | rfl | assumption | omega), (show (0 : Int32).toInt = 0 ∨ mmn.toInt ≤ mbl.toInt + 1 from by first | rfl | assumption | omega), trivial⟩ hP hD hS dX9_change_62
  · have c3' := I_nle c3
    refine lv_iconst (v := 1) hx hb dX9_change_16 (by decide) ?_
    refine lv_goto (tgt := 21) hx hb dX9_change_17 (by decide) ?_
    refine lv_istore (lv' := [(4, .int 1), (3, .int v2), (2, .int v1), (0, .ref m0), (1, .int x)]) hx hb dX9_change_21 hl (by decide) rfl (fun ls hl => ?_)
    refine lv_iload hx hb dX9_change_23 (lv_at hl 0 rfl) ?_
    refine lv_if_ne (tgt := 36) hx hb dX9_change_25 (by decide) (fun c89 => ?_) (fun c89 => ?_)
    · have c89' := I_ne c89
      refine lv_iload_n hx hb dX9_change_36 rfl (lv_at hl 1 rfl) ?_
      refine lv_bipush (v := 28) hx hb dX9_change_37 (by decide) ?_
      refine lv_icmp_lt (tgt := 63) hx hb dX9_change_39 (by decide) (fun c90 => ?_) (fun c90 => ?_)
      · have c90' := I_lt c90
        refine lv_aload_n hx hb dX9_change_63 rfl (lv_at hl 3 rfl) ?_
        refine lv_iconst (v := 0) hx hb dX9_change_64 (by decide) ?_
        refine va_put (D := (dC, dI)) (ci := 8) (v := .int 0) (ty := .int) (C := RX9) (T := TX9) (N := 32) hx hb hts inG_X9 tyX9 tyX9_ok nmX9 hown hK hP hD hS 0 rfl rfl 9 (by decide) (hts _ fl_X9_114) (fun _ h9 => h9) rfl (by decide +kernel) rfl rfl (Nat.le_of_ble_eq_true rfl) dX9_change_65 (fun H locs hP hD hS => ?_)
        have hP : va_P (dC, dI) vwCl [(m0, .inr (8, [.int mth, .int mst, .ref mp, .int mln, .ref mk, .int mts, .ref mti, .ref mtw, .ref mi, .int 0, .ref mpo, .int mpd, .ref mpi, .int mpl, .int mcp, .ref mre, .ref mnn, .ref mwo, .ref mga, .ref mlo, .ref mro, .ref mle, .ref mra, .int mme, .ref mha, .int mch, .int mtm, .int mgo, .int mwa, .ref mba, .int mbl, .ref mon])), (mi, .inl (cI, 12, .inl mif)), (mba, .inl (cI, 12, .inl mbaf))] H := hP
        have hD : va_D A [(m0, .inr (8, [.int mth, .int mst, .ref mp, .int mln, .ref mk, .int mts, .ref mti, .ref mtw, .ref mi, .int 0, .ref mpo, .int mpd, .ref mpi, .int mpl, .int mcp, .ref mre, .ref mnn, .ref mwo, .ref mga, .ref mlo, .ref mro, .ref mle, .ref mra, .int mme, .ref mha, .int mch, .int mtm, .int mgo, .int mwa, .ref mba, .int mbl, .ref mon])), (mi, .inl (cI, 12, .inl mif)), (mba, .inl (cI, 12, .inl mbaf))] := hD
        refine lv_iconst (v := 0) hx hb dX9_change_68 (by decide) ?_
        refine lv_istore (lv' := [(5, .int 0), (4, .int 1), (3, .int v2), (2, .int v1), (0, .ref m0), (1, .int x)]) hx hb dX9_change_69 hl (by decide) rfl (fun ls hl => ?_)
        have J71 : ∀ (n : Nat) (L5_71 : Int32) (mmn_71 : Int32) (mif_71 : Nat → Int32), (0 ≤ mmn_71.toInt ∧ mmn_71.toInt ≤ L5_71.toInt + 1 ∧ mmn_71.toInt ≤ mbl.toInt + 1) → (v1.toInt < L5_71.toInt ∨ mmn_71.toInt ≤ L5_71.toInt) → (0 ≤ L5_71.toInt ∧ L5_71.toInt ≤ mbl.toInt + 1) → (mbl.toInt + 1 - L5_71.toInt) < (n : Int) → ∀ (H : Heap) (locs : List Loc) (ls : Array Slot), va_P (dC, dI) vwCl [(m0, .inr (8, [.int mth, .int mst, .ref mp, .int mln, .ref mk, .int mts, .ref mti, .ref mtw, .ref mi, .int mmn_71, .ref mpo, .int mpd, .ref mpi, .int mpl, .int mcp, .ref mre, .ref mnn, .ref mwo, .ref mga, .ref mlo, .ref mro, .ref mle, .ref mra, .int mme, .ref mha, .int mch, .int mtm, .int mgo, .int mwa, .ref mba, .int mbl, .ref mon])), (mi, .inl (cI, 12, .inl mif_71)), (mba, .inl (cI, 12, .inl mbaf))] H → va_D A [(m0, .inr (8, [.int mth, .int mst, .ref mp, .int mln, .ref mk, .int mts, .ref mti, .ref mtw, .ref mi, .int mmn_71, .ref mpo, .int mpd, .ref mpi, .int mpl, .int mcp, .ref mre, .ref mnn, .ref mwo, .ref mga, .ref mlo, .ref mro, .ref mle, .ref mra, .int mme, .ref mha, .int mch, .int mtm, .int mgo, .int mwa, .ref mba, .int mbl, .ref mon])), (mi, .inl (cI, 12, .inl mif_71)), (mba, .inl (cI, 12, .inl mbaf))] → va_S A s.heap H locs → lv_has ls 6 [(5, .int L5_71), (4, .int 1), (3, .int v2), (2, .int v1), (0, .ref m0), (1, .int x)] → W p l e { frames := 0, cells := 0, slots := 0, locals := 0 } s m (List.toArray [.ref m0, .int x]) below meth c H locs 0 0 Q (F0 m 71 ls []) := by
          intro n
          induction n with
          | zero =>
            intro L5_71 mmn_71 mif_71 hi0_71 hi1_71 hi2_71 hm
            exact absurd hm (by omega)
          | succ n ih71 =>
            intro L5_71 mmn_71 mif_71 hi0_71 hi1_71 hi2_71 hm71 H locs ls hP hD hS hl
            refine lv_iload hx hb dX9_change_71 (lv_at hl 0 rfl) ?_
            refine lv_aload_n hx hb dX9_change_73 rfl (lv_at hl 4 rfl) ?_
            refine va_get (D := (dC, dI)) (ci := 8) (v := .int mbl) (C := RX9) (T := TX9) (N := 32) hx hb hts inG_X9 hown hK hP 0 rfl rfl 30 (by decide) (hts _ fl_X9_177) (fun _ h9 => h9) rfl dX9_change_74 ?_
            refine lv_icmp_gt (tgt := 176) hx hb dX9_change_77 (by decide) (fun c91 => ?_) (fun c91 => ?_)
            · have c91' := I_lt c91
              refine lv_iconst (v := 1) hx hb dX9_change_176 (by decide) ?_
              exact hret 1 (mmn_71, mif_71) H locs 177 ls (by first | rfl | exact I_narz (by omega)) ⟨(show (1 : Int32).toInt = 0 ∨ (1 : Int32).toInt = 1 from by first | rfl | assumption | omega), (show 0 ≤ mmn_71.toInt ∧ mmn_71.toInt ≤ 12 from by first | rfl | assumption | omega), (show (1 : Int32).toInt = 0 ∨ mmn_71.toInt ≤ mbl.toInt + 1 from by first | rfl | assumption | omega), trivial⟩ hP hD hS dX9_change_177
            · have c91' := I_nlt c91
              have J170 : ∀ (mmn_170 : Int32) (mif_170 : Nat → Int32), (0 ≤ mmn_170.toInt ∧ mmn_170.toInt ≤ L5_71.toInt + 2 ∧ mmn_170.toInt ≤ mbl.toInt + 1) → (v1.toInt < L5_71.toInt + 1 ∨ mmn_170.toInt ≤ L5_71.toInt + 1) → ∀ (H : Heap) (locs : List Loc) (ls : Array Slot), va_P (dC, dI) vwCl [(m0, .inr (8, [.int mth, .int mst, .ref mp, .int mln, .ref mk, .int mts, .ref mti, .ref mtw, .ref mi, .int mmn_170, .ref mpo, .int mpd, .ref mpi, .int mpl, .int mcp, .ref mre, .ref mnn, .ref mwo, .ref mga, .ref mlo, .ref mro, .ref mle, .ref mra, .int mme, .ref mha, .int mch, .int mtm, .int mgo, .int mwa, .ref mba, .int mbl, .ref mon])), (mi, .inl (cI, 12, .inl mif_170)), (mba, .inl (cI, 12, .inl mbaf))] H → va_D A [(m0, .inr (8, [.int mth, .int mst, .ref mp, .int mln, .ref mk, .int mts, .ref mti, .ref mtw, .ref mi, .int mmn_170, .ref mpo, .int mpd, .ref mpi, .int mpl, .int mcp, .ref mre, .ref mnn, .ref mwo, .ref mga, .ref mlo, .ref mro, .ref mle, .ref mra, .int mme, .ref mha, .int mch, .int mtm, .int mgo, .int mwa, .ref mba, .int mbl, .ref mon])), (mi, .inl (cI, 12, .inl mif_170)), (mba, .inl (cI, 12, .inl mbaf))] → va_S A s.heap H locs → lv_has ls 6 [(5, .int L5_71), (4, .int 1), (3, .int v2), (2, .int v1), (0, .ref m0), (1, .int x)] → W p l e { frames := 0, cells := 0, slots := 0, locals := 0 } s m (List.toArray [.ref m0, .int x]) below meth c H locs 0 0 Q (F0 m 170 ls []) := by
                intro mmn_170 mif_170 hi0_170 hi1_170 H locs ls hP hD hS hl
                obtain ⟨v92, ev92⟩ : ∃ y : Int32, y = L5_71 + 1 := ⟨_, rfl⟩
                try have hv92 : v92.toInt = L5_71.toInt + (1 : Int32).toInt := I_addx ev92 (by omega)
                refine lv_iinc (v := v92) (lv' := [(5, .int v92), (4, .int 1), (3, .int v2), (2, .int v1), (0, .ref m0), (1, .int x)]) hx hb dX9_change_170 hl (k := 0) rfl (by rw [ev92]; rfl) (by decide) rfl (fun ls hl => ?_)
                refine lv_goto (tgt := 71) hx hb dX9_change_173 (by decide) ?_
                exact ih71 v92 mmn_170 mif_170 (by first | assumption | omega) (by first | assumption | omega) (by first | assumption | omega) (by omega) H locs ls hP hD hS hl
              refine lv_iload hx hb dX9_change_80 (lv_at hl 0 rfl) ?_
              refine lv_iload_n hx hb dX9_change_82 rfl (lv_at hl 3 rfl) ?_
              refine lv_icmp_ne (tgt := 124) hx hb dX9_change_83 (by decide) (fun c93 => ?_) (fun c93 => ?_)
              · have c93' := I_ne c93
                refine lv_iload hx hb dX9_change_124 (lv_at hl 0 rfl) ?_
                refine lv_aload_n hx hb dX9_change_126 rfl (lv_at hl 4 rfl) ?_
                refine va_get (D := (dC, dI)) (ci := 8) (v := .int mbl) (C := RX9) (T := TX9) (N := 32) hx hb hts inG_X9 hown hK hP 0 rfl rfl 30 (by decide) (hts _ fl_X9_177) (fun _ h9 => h9) rfl dX9_change_127 ?_
                refine lv_icmp_ge (tgt := 170) hx hb dX9_change_130 (by decide) (fun c94 => ?_) (fun c94 => ?_)
                · have c94' := I_le c94
                  exact J170 mmn_71 mif_71 (by first | assumption | omega) (by first | assumption | omega) H locs ls hP hD hS hl
                · have c94' := I_nle c94
                  refine lv_iload hx hb dX9_change_133 (lv_at hl 0 rfl) ?_
                  refine lv_iload_n hx hb dX9_change_135 rfl (lv_at hl 3 rfl) ?_
                  refine lv_icmp_ne (tgt := 144) hx hb dX9_change_136 (by decide) (fun c95 => ?_) (fun c95 => ?_)
                  · have c95' := I_ne c95
                    refine lv_aload_n hx hb dX9_change_144 rfl (lv_at hl 4 rfl) ?_
                    refine va_get (D := (dC, dI)) (ci := 8) (v := .ref mi) (C := RX9) (T := TX9) (N := 32) hx hb hts inG_X9 hown hK hP 0 rfl rfl 8 (by decide) (hts _ fl_X9_22) (fun _ h9 => h9) rfl dX9_change_145 ?_
                    refine lv_aload_n hx hb dX9_change_148 rfl (lv_at hl 4 rfl) ?_
                    refine va_get (D := (dC, dI)) (ci := 8) (v := .int mmn_71) (C := RX9) (T := TX9) (N := 32) hx hb hts inG_X9 hown hK hP 0 rfl rfl 9 (by decide) (hts _ fl_X9_114) (fun _ h9 => h9) rfl dX9_change_149 ?_
                    refine lv_aload_n hx hb dX9_change_152 rfl (lv_at hl 4 rfl) ?_
                    refine va_get (D := (dC, dI)) (ci := 8) (v := .ref mba) (C := RX9) (T := TX9) (N := 32) hx hb hts inG_X9 hown hK hP 0 rfl rfl 29 (by decide) (hts _ fl_X9_63) (fun _ h9 => h9) rfl dX9_change_153 ?_
                    refine lv_iload hx hb dX9_change_156 (lv_at hl 0 rfl) ?_
                    refine va_iald (t0 := 0) hx hb hK hP 2 (ha := rfl) (ht := rfl) (I_in (by omega) (by omega)) dX9_change_158 ?_
                    refine lv_topi (fun v96 ev96 => ?_)
                    refine va_iast (t0 := 0) hx hb hK hP hD hS 1 (ha := rfl) (ht := rfl) (I_in (by omega) (by omega)) dX9_change_159 (fun H locs hP hD hS => ?_)
                    have hP : va_P (dC, dI) vwCl [(m0, .inr (8, [.int mth, .int mst, .ref mp, .int mln, .ref mk, .int mts, .ref mti, .ref mtw, .ref mi, .int mmn_71, .ref mpo, .int mpd, .ref mpi, .int mpl, .int mcp, .ref mre, .ref mnn, .ref mwo, .ref mga, .ref mlo, .ref mro, .ref mle, .ref mra, .int mme, .ref mha, .int mch, .int mtm, .int mgo, .int mwa, .ref mba, .int mbl, .ref mon])), (mi, .inl (cI, 12, .inl (upd mif_71 mmn_71.toNatClampNeg v96))), (mba, .inl (cI, 12, .inl mbaf))] H := hP
                    have hD : va_D A [(m0, .inr (8, [.int mth, .int mst, .ref mp, .int mln, .ref mk, .int mts, .ref mti, .ref mtw, .ref mi, .int mmn_71, .ref mpo, .int mpd, .ref mpi, .int mpl, .int mcp, .ref mre, .ref mnn, .ref mwo, .ref mga, .ref mlo, .ref mro, .ref mle, .ref mra, .int mme, .ref mha, .int mch, .int mtm, .int mgo, .int mwa, .ref mba, .int mbl, .ref mon])), (mi, .inl (cI, 12, .inl (upd mif_71 mmn_71.toNatClampNeg v96))), (mba, .inl (cI, 12, .inl mbaf))] := hD
                    generalize ef97 : upd mif_71 mmn_71.toNatClampNeg v96 = f97 at hP hD
                    refine lv_aload_n hx hb dX9_change_160 rfl (lv_at hl 4 rfl) ?_
                    refine lv_dup hx hb dX9_change_161 rfl ?_
                    refine va_get (D := (dC, dI)) (ci := 8) (v := .int mmn_71) (C := RX9) (T := TX9) (N := 32) hx hb hts inG_X9 hown hK hP 0 rfl rfl 9 (by decide) (hts _ fl_X9_114) (fun _ h9 => h9) rfl dX9_change_162 ?_
                    refine lv_iconst (v := 1) hx hb dX9_change_165 (by decide) ?_
                    refine lv_iadd hx hb dX9_change_166 ?_
                    refine lv_topi (fun v98 ev98 => ?_)
                    try have hv98 : v98.toInt = mmn_71.toInt + (1 : Int32).toInt := I_addx ev98 (by omega)
                    refine va_put (D := (dC, dI)) (ci := 8) (v := .int v98) (ty := .int) (C := RX9) (T := TX9) (N := 32) hx hb hts inG_X9 tyX9 tyX9_ok nmX9 hown hK hP hD hS 0 rfl rfl 9 (by decide) (hts _ fl_X9_114) (fun _ h9 => h9) rfl (by decide +kernel) rfl rfl (Nat.le_of_ble_eq_true rfl) dX9_change_167 (fun H locs hP hD hS => ?_)
                    have hP : va_P (dC, dI) vwCl [(m0, .inr (8, [.int mth, .int mst, .ref mp, .int mln, .ref mk, .int mts, .ref mti, .ref mtw, .ref mi, .int v98, .ref mpo, .int mpd, .ref mpi, .int mpl, .int mcp, .ref mre, .ref mnn, .ref mwo, .ref mga, .ref mlo, .ref mro, .ref mle, .ref mra, .int mme, .ref mha, .int mch, .int mtm, .int mgo, .int mwa, .ref mba, .int mbl, .ref mon])), (mi, .inl (cI, 12, .inl f97)), (mba, .inl (cI, 12, .inl mbaf))] H := hP
                    have hD : va_D A [(m0, .inr (8, [.int mth, .int mst, .ref mp, .int mln, .ref mk, .int mts, .ref mti, .ref mtw, .ref mi, .int v98, .ref mpo, .int mpd, .ref mpi, .int mpl, .int mcp, .ref mre, .ref mnn, .ref mwo, .ref mga, .ref mlo, .ref mro, .ref mle, .ref mra, .int mme, .ref mha, .int mch, .int mtm, .int mgo, .int mwa, .ref mba, .int mbl, .ref mon])), (mi, .inl (cI, 12, .inl f97)), (mba, .inl (cI, 12, .inl mbaf))] := hD
                    exact J170 v98 f97 (by first | assumption | omega) (by first | assumption | omega) H locs ls hP hD hS hl
                  · have c95' := I_eq c95
                    refine lv_iload hx hb dX9_change_139 (lv_at hl 1 rfl) ?_
                    refine lv_if_eq (tgt := 170) hx hb dX9_change_141 (by decide) (fun c99 => ?_) (fun c99 => ?_)
                    · have c99' := I_eq c99
                      exact absurd c99 (by decide)
                    · have c99' := I_ne c99
                      refine lv_aload_n hx hb dX9_change_144 rfl (lv_at hl 4 rfl) ?_
                      refine va_get (D := (dC, dI)) (ci := 8) (v := .ref mi) (C := RX9) (T := TX9) (N := 32) hx hb hts inG_X9 hown hK hP 0 rfl rfl 8 (by decide) (hts _ fl_X9_22) (fun _ h9 => h9) rfl dX9_change_145 ?_
                      refine lv_aload_n hx hb dX9_change_148 rfl (lv_at hl 4 rfl) ?_
                      refine va_get (D := (dC, dI)) (ci := 8) (v := .int mmn_71) (C := RX9) (T := TX9) (N := 32) hx hb hts inG_X9 hown hK hP 0 rfl rfl 9 (by decide) (hts _ fl_X9_114) (fun _ h9 => h9) rfl dX9_change_149 ?_
                      refine lv_aload_n hx hb dX9_change_152 rfl (lv_at hl 4 rfl) ?_
                      refine va_get (D := (dC, dI)) (ci := 8) (v := .ref mba) (C := RX9) (T := TX9) (N := 32) hx hb hts inG_X9 hown hK hP 0 rfl rfl 29 (by decide) (hts _ fl_X9_63) (fun _ h9 => h9) rfl dX9_change_153 ?_
                      refine lv_iload hx hb dX9_change_156 (lv_at hl 0 rfl) ?_
                      refine va_iald (t0 := 0) hx hb hK hP 2 (ha := rfl) (ht := rfl) (I_in (by omega) (by omega)) dX9_change_158 ?_
                      refine lv_topi (fun v100 ev100 => ?_)
                      refine va_iast (t0 := 0) hx hb hK hP hD hS 1 (ha := rfl) (ht := rfl) (I_in (by omega) (by omega)) dX9_change_159 (fun H locs hP hD hS => ?_)
                      have hP : va_P (dC, dI) vwCl [(m0, .inr (8, [.int mth, .int mst, .ref mp, .int mln, .ref mk, .int mts, .ref mti, .ref mtw, .ref mi, .int mmn_71, .ref mpo, .int mpd, .ref mpi, .int mpl, .int mcp, .ref mre, .ref mnn, .ref mwo, .ref mga, .ref mlo, .ref mro, .ref mle, .ref mra, .int mme, .ref mha, .int mch, .int mtm, .int mgo, .int mwa, .ref mba, .int mbl, .ref mon])), (mi, .inl (cI, 12, .inl (upd mif_71 mmn_71.toNatClampNeg v100))), (mba, .inl (cI, 12, .inl mbaf))] H := hP
                      have hD : va_D A [(m0, .inr (8, [.int mth, .int mst, .ref mp, .int mln, .ref mk, .int mts, .ref mti, .ref mtw, .ref mi, .int mmn_71, .ref mpo, .int mpd, .ref mpi, .int mpl, .int mcp, .ref mre, .ref mnn, .ref mwo, .ref mga, .ref mlo, .ref mro, .ref mle, .ref mra, .int mme, .ref mha, .int mch, .int mtm, .int mgo, .int mwa, .ref mba, .int mbl, .ref mon])), (mi, .inl (cI, 12, .inl (upd mif_71 mmn_71.toNatClampNeg v100))), (mba, .inl (cI, 12, .inl mbaf))] := hD
                      generalize ef101 : upd mif_71 mmn_71.toNatClampNeg v100 = f101 at hP hD
                      refine lv_aload_n hx hb dX9_change_160 rfl (lv_at hl 4 rfl) ?_
                      refine lv_dup hx hb dX9_change_161 rfl ?_
                      refine va_get (D := (dC, dI)) (ci := 8) (v := .int mmn_71) (C := RX9) (T := TX9) (N := 32) hx hb hts inG_X9 hown hK hP 0 rfl rfl 9 (by decide) (hts _ fl_X9_114) (fun _ h9 => h9) rfl dX9_change_162 ?_
                      refine lv_iconst (v := 1) hx hb dX9_change_165 (by decide) ?_
                      refine lv_iadd hx hb dX9_change_166 ?_
                      refine lv_topi (fun v102 ev102 => ?_)
                      try have hv102 : v102.toInt = mmn_71.toInt + (1 : Int32).toInt := I_addx ev102 (by omega)
                      refine va_put (D := (dC, dI)) (ci := 8) (v := .int v102) (ty := .int) (C := RX9) (T := TX9) (N := 32) hx hb hts inG_X9 tyX9 tyX9_ok nmX9 hown hK hP hD hS 0 rfl rfl 9 (by decide) (hts _ fl_X9_114) (fun _ h9 => h9) rfl (by decide +kernel) rfl rfl (Nat.le_of_ble_eq_true rfl) dX9_change_167 (fun H locs hP hD hS => ?_)
                      have hP : va_P (dC, dI) vwCl [(m0, .inr (8, [.int mth, .int mst, .ref mp, .int mln, .ref mk, .int mts, .ref mti, .ref mtw, .ref mi, .int v102, .ref mpo, .int mpd, .ref mpi, .int mpl, .int mcp, .ref mre, .ref mnn, .ref mwo, .ref mga, .ref mlo, .ref mro, .ref mle, .ref mra, .int mme, .ref mha, .int mch, .int mtm, .int mgo, .int mwa, .ref mba, .int mbl, .ref mon])), (mi, .inl (cI, 12, .inl f101)), (mba, .inl (cI, 12, .inl mbaf))] H := hP
                      have hD : va_D A [(m0, .inr (8, [.int mth, .int mst, .ref mp, .int mln, .ref mk, .int mts, .ref mti, .ref mtw, .ref mi, .int v102, .ref mpo, .int mpd, .ref mpi, .int mpl, .int mcp, .ref mre, .ref mnn, .ref mwo, .ref mga, .ref mlo, .ref mro, .ref mle, .ref mra, .int mme, .ref mha, .int mch, .int mtm, .int mgo, .int mwa, .ref mba, .int mbl, .ref mon])), (mi, .inl (cI, 12, .inl f101)), (mba, .inl (cI, 12, .inl mbaf))] := hD
                      exact J170 v102 f101 (by first | assumption | omega) (by first | assumption | omega) H locs ls hP hD hS hl
              · have c93' := I_eq c93
                refine lv_iload_n hx hb dX9_change_86 rfl (lv_at hl 2 rfl) ?_
                refine lv_bipush (v := 56) hx hb dX9_change_87 (by decide) ?_
                refine lv_icmp_ge (tgt := 124) hx hb dX9_change_89 (by decide) (fun c103 => ?_) (fun c103 => ?_)
                · have c103' := I_le c103
                  refine lv_iload hx hb dX9_change_124 (lv_at hl 0 rfl) ?_
                  refine lv_aload_n hx hb dX9_change_126 rfl (lv_at hl 4 rfl) ?_
                  refine va_get (D := (dC, dI)) (ci := 8) (v := .int mbl) (C := RX9) (T := TX9) (N := 32) hx hb hts inG_X9 hown hK hP 0 rfl rfl 30 (by decide) (hts _ fl_X9_177) (fun _ h9 => h9) rfl dX9_change_127 ?_
                  refine lv_icmp_ge (tgt := 170) hx hb dX9_change_130 (by decide) (fun c104 => ?_) (fun c104 => ?_)
                  · have c104' := I_le c104
                    exact J170 mmn_71 mif_71 (by first | assumption | omega) (by first | assumption | omega) H locs ls hP hD hS hl
                  · have c104' := I_nle c104
                    refine lv_iload hx hb dX9_change_133 (lv_at hl 0 rfl) ?_
                    refine lv_iload_n hx hb dX9_change_135 rfl (lv_at hl 3 rfl) ?_
                    refine lv_icmp_ne (tgt := 144) hx hb dX9_change_136 (by decide) (fun c105 => ?_) (fun c105 => ?_)
                    · have c105' := I_ne c105
                      refine lv_aload_n hx hb dX9_change_144 rfl (lv_at hl 4 rfl) ?_
                      refine va_get (D := (dC, dI)) (ci := 8) (v := .ref mi) (C := RX9) (T := TX9) (N := 32) hx hb hts inG_X9 hown hK hP 0 rfl rfl 8 (by decide) (hts _ fl_X9_22) (fun _ h9 => h9) rfl dX9_change_145 ?_
                      refine lv_aload_n hx hb dX9_change_148 rfl (lv_at hl 4 rfl) ?_
                      refine va_get (D := (dC, dI)) (ci := 8) (v := .int mmn_71) (C := RX9) (T := TX9) (N := 32) hx hb hts inG_X9 hown hK hP 0 rfl rfl 9 (by decide) (hts _ fl_X9_114) (fun _ h9 => h9) rfl dX9_change_149 ?_
                      refine lv_aload_n hx hb dX9_change_152 rfl (lv_at hl 4 rfl) ?_
                      refine va_get (D := (dC, dI)) (ci := 8) (v := .ref mba) (C := RX9) (T := TX9) (N := 32) hx hb hts inG_X9 hown hK hP 0 rfl rfl 29 (by decide) (hts _ fl_X9_63) (fun _ h9 => h9) rfl dX9_change_153 ?_
                      refine lv_iload hx hb dX9_change_156 (lv_at hl 0 rfl) ?_
                      refine va_iald (t0 := 0) hx hb hK hP 2 (ha := rfl) (ht := rfl) (I_in (by omega) (by omega)) dX9_change_158 ?_
                      refine lv_topi (fun v106 ev106 => ?_)
                      refine va_iast (t0 := 0) hx hb hK hP hD hS 1 (ha := rfl) (ht := rfl) (I_in (by omega) (by omega)) dX9_change_159 (fun H locs hP hD hS => ?_)
                      have hP : va_P (dC, dI) vwCl [(m0, .inr (8, [.int mth, .int mst, .ref mp, .int mln, .ref mk, .int mts, .ref mti, .ref mtw, .ref mi, .int mmn_71, .ref mpo, .int mpd, .ref mpi, .int mpl, .int mcp, .ref mre, .ref mnn, .ref mwo, .ref mga, .ref mlo, .ref mro, .ref mle, .ref mra, .int mme, .ref mha, .int mch, .int mtm, .int mgo, .int mwa, .ref mba, .int mbl, .ref mon])), (mi, .inl (cI, 12, .inl (upd mif_71 mmn_71.toNatClampNeg v106))), (mba, .inl (cI, 12, .inl mbaf))] H := hP
                      have hD : va_D A [(m0, .inr (8, [.int mth, .int mst, .ref mp, .int mln, .ref mk, .int mts, .ref mti, .ref mtw, .ref mi, .int mmn_71, .ref mpo, .int mpd, .ref mpi, .int mpl, .int mcp, .ref mre, .ref mnn, .ref mwo, .ref mga, .ref mlo, .ref mro, .ref mle, .ref mra, .int mme, .ref mha, .int mch, .int mtm, .int mgo, .int mwa, .ref mba, .int mbl, .ref mon])), (mi, .inl (cI, 12, .inl (upd mif_71 mmn_71.toNatClampNeg v106))), (mba, .inl (cI, 12, .inl mbaf))] := hD
                      generalize ef107 : upd mif_71 mmn_71.toNatClampNeg v106 = f107 at hP hD
                      refine lv_aload_n hx hb dX9_change_160 rfl (lv_at hl 4 rfl) ?_
                      refine lv_dup hx hb dX9_change_161 rfl ?_
                      refine va_get (D := (dC, dI)) (ci := 8) (v := .int mmn_71) (C := RX9) (T := TX9) (N := 32) hx hb hts inG_X9 hown hK hP 0 rfl rfl 9 (by decide) (hts _ fl_X9_114) (fun _ h9 => h9) rfl dX9_change_162 ?_
                      refine lv_iconst (v := 1) hx hb dX9_change_165 (by decide) ?_
                      refine lv_iadd hx hb dX9_change_166 ?_
                      refine lv_topi (fun v108 ev108 => ?_)
                      try have hv108 : v108.toInt = mmn_71.toInt + (1 : Int32).toInt := I_addx ev108 (by omega)
                      refine va_put (D := (dC, dI)) (ci := 8) (v := .int v108) (ty := .int) (C := RX9) (T := TX9) (N := 32) hx hb hts inG_X9 tyX9 tyX9_ok nmX9 hown hK hP hD hS 0 rfl rfl 9 (by decide) (hts _ fl_X9_114) (fun _ h9 => h9) rfl (by decide +kernel) rfl rfl (Nat.le_of_ble_eq_true rfl) dX9_change_167 (fun H locs hP hD hS => ?_)
                      have hP : va_P (dC, dI) vwCl [(m0, .inr (8, [.int mth, .int mst, .ref mp, .int mln, .ref mk, .int mts, .ref mti, .ref mtw, .ref mi, .int v108, .ref mpo, .int mpd, .ref mpi, .int mpl, .int mcp, .ref mre, .ref mnn, .ref mwo, .ref mga, .ref mlo, .ref mro, .ref mle, .ref mra, .int mme, .ref mha, .int mch, .int mtm, .int mgo, .int mwa, .ref mba, .int mbl, .ref mon])), (mi, .inl (cI, 12, .inl f107)), (mba, .inl (cI, 12, .inl mbaf))] H := hP
                      have hD : va_D A [(m0, .inr (8, [.int mth, .int mst, .ref mp, .int mln, .ref mk, .int mts, .ref mti, .ref mtw, .ref mi, .int v108, .ref mpo, .int mpd, .ref mpi, .int mpl, .int mcp, .ref mre, .ref mnn, .ref mwo, .ref mga, .ref mlo, .ref mro, .ref mle, .ref mra, .int mme, .ref mha, .int mch, .int mtm, .int mgo, .int mwa, .ref mba, .int mbl, .ref mon])), (mi, .inl (cI, 12, .inl f107)), (mba, .inl (cI, 12, .inl mbaf))] := hD
                      exact J170 v108 f107 (by first | assumption | omega) (by first | assumption | omega) H locs ls hP hD hS hl
                    · have c105' := I_eq c105
                      refine lv_iload hx hb dX9_change_139 (lv_at hl 1 rfl) ?_
                      refine lv_if_eq (tgt := 170) hx hb dX9_change_141 (by decide) (fun c109 => ?_) (fun c109 => ?_)
                      · have c109' := I_eq c109
                        exact absurd c109 (by decide)
                      · have c109' := I_ne c109
                        refine lv_aload_n hx hb dX9_change_144 rfl (lv_at hl 4 rfl) ?_
                        refine va_get (D := (dC, dI)) (ci := 8) (v := .ref mi) (C := RX9) (T := TX9) (N := 32) hx hb hts inG_X9 hown hK hP 0 rfl rfl 8 (by decide) (hts _ fl_X9_22) (fun _ h9 => h9) rfl dX9_change_145 ?_
                        refine lv_aload_n hx hb dX9_change_148 rfl (lv_at hl 4 rfl) ?_
                        refine va_get (D := (dC, dI)) (ci := 8) (v := .int mmn_71) (C := RX9) (T := TX9) (N := 32) hx hb hts inG_X9 hown hK hP 0 rfl rfl 9 (by decide) (hts _ fl_X9_114) (fun _ h9 => h9) rfl dX9_change_149 ?_
                        refine lv_aload_n hx hb dX9_change_152 rfl (lv_at hl 4 rfl) ?_
                        refine va_get (D := (dC, dI)) (ci := 8) (v := .ref mba) (C := RX9) (T := TX9) (N := 32) hx hb hts inG_X9 hown hK hP 0 rfl rfl 29 (by decide) (hts _ fl_X9_63) (fun _ h9 => h9) rfl dX9_change_153 ?_
                        refine lv_iload hx hb dX9_change_156 (lv_at hl 0 rfl) ?_
                        refine va_iald (t0 := 0) hx hb hK hP 2 (ha := rfl) (ht := rfl) (I_in (by omega) (by omega)) dX9_change_158 ?_
                        refine lv_topi (fun v110 ev110 => ?_)
                        refine va_iast (t0 := 0) hx hb hK hP hD hS 1 (ha := rfl) (ht := rfl) (I_in (by omega) (by omega)) dX9_change_159 (fun H locs hP hD hS => ?_)
                        have hP : va_P (dC, dI) vwCl [(m0, .inr (8, [.int mth, .int mst, .ref mp, .int mln, .ref mk, .int mts, .ref mti, .ref mtw, .ref mi, .int mmn_71, .ref mpo, .int mpd, .ref mpi, .int mpl, .int mcp, .ref mre, .ref mnn, .ref mwo, .ref mga, .ref mlo, .ref mro, .ref mle, .ref mra, .int mme, .ref mha, .int mch, .int mtm, .int mgo, .int mwa, .ref mba, .int mbl, .ref mon])), (mi, .inl (cI, 12, .inl (upd mif_71 mmn_71.toNatClampNeg v110))), (mba, .inl (cI, 12, .inl mbaf))] H := hP
                        have hD : va_D A [(m0, .inr (8, [.int mth, .int mst, .ref mp, .int mln, .ref mk, .int mts, .ref mti, .ref mtw, .ref mi, .int mmn_71, .ref mpo, .int mpd, .ref mpi, .int mpl, .int mcp, .ref mre, .ref mnn, .ref mwo, .ref mga, .ref mlo, .ref mro, .ref mle, .ref mra, .int mme, .ref mha, .int mch, .int mtm, .int mgo, .int mwa, .ref mba, .int mbl, .ref mon])), (mi, .inl (cI, 12, .inl (upd mif_71 mmn_71.toNatClampNeg v110))), (mba, .inl (cI, 12, .inl mbaf))] := hD
                        generalize ef111 : upd mif_71 mmn_71.toNatClampNeg v110 = f111 at hP hD
                        refine lv_aload_n hx hb dX9_change_160 rfl (lv_at hl 4 rfl) ?_
                        refine lv_dup hx hb dX9_change_161 rfl ?_
                        refine va_get (D := (dC, dI)) (ci := 8) (v := .int mmn_71) (C := RX9) (T := TX9) (N := 32) hx hb hts inG_X9 hown hK hP 0 rfl rfl 9 (by decide) (hts _ fl_X9_114) (fun _ h9 => h9) rfl dX9_change_162 ?_
                        refine lv_iconst (v := 1) hx hb dX9_change_165 (by decide) ?_
                        refine lv_iadd hx hb dX9_change_166 ?_
                        refine lv_topi (fun v112 ev112 => ?_)
                        try have hv112 : v112.toInt = mmn_71.toInt + (1 : Int32).toInt := I_addx ev112 (by omega)
                        refine va_put (D := (dC, dI)) (ci := 8) (v := .int v112) (ty := .int) (C := RX9) (T := TX9) (N := 32) hx hb hts inG_X9 tyX9 tyX9_ok nmX9 hown hK hP hD hS 0 rfl rfl 9 (by decide) (hts _ fl_X9_114) (fun _ h9 => h9) rfl (by decide +kernel) rfl rfl (Nat.le_of_ble_eq_true rfl) dX9_change_167 (fun H locs hP hD hS => ?_)
                        have hP : va_P (dC, dI) vwCl [(m0, .inr (8, [.int mth, .int mst, .ref mp, .int mln, .ref mk, .int mts, .ref mti, .ref mtw, .ref mi, .int v112, .ref mpo, .int mpd, .ref mpi, .int mpl, .int mcp, .ref mre, .ref mnn, .ref mwo, .ref mga, .ref mlo, .ref mro, .ref mle, .ref mra, .int mme, .ref mha, .int mch, .int mtm, .int mgo, .int mwa, .ref mba, .int mbl, .ref mon])), (mi, .inl (cI, 12, .inl f111)), (mba, .inl (cI, 12, .inl mbaf))] H := hP
                        have hD : va_D A [(m0, .inr (8, [.int mth, .int mst, .ref mp, .int mln, .ref mk, .int mts, .ref mti, .ref mtw, .ref mi, .int v112, .ref mpo, .int mpd, .ref mpi, .int mpl, .int mcp, .ref mre, .ref mnn, .ref mwo, .ref mga, .ref mlo, .ref mro, .ref mle, .ref mra, .int mme, .ref mha, .int mch, .int mtm, .int mgo, .int mwa, .ref mba, .int mbl, .ref mon])), (mi, .inl (cI, 12, .inl f111)), (mba, .inl (cI, 12, .inl mbaf))] := hD
                        exact J170 v112 f111 (by first | assumption | omega) (by first | assumption | omega) H locs ls hP hD hS hl
                · have c103' := I_nle c103
                  refine lv_aload_n hx hb dX9_change_92 rfl (lv_at hl 4 rfl) ?_
                  refine va_get (D := (dC, dI)) (ci := 8) (v := .ref mi) (C := RX9) (T := TX9) (N := 32) hx hb hts inG_X9 hown hK hP 0 rfl rfl 8 (by decide) (hts _ fl_X9_22) (fun _ h9 => h9) rfl dX9_change_93 ?_
                  refine lv_aload_n hx hb dX9_change_96 rfl (lv_at hl 4 rfl) ?_
                  refine va_get (D := (dC, dI)) (ci := 8) (v := .int mmn_71) (C := RX9) (T := TX9) (N := 32) hx hb hts inG_X9 hown hK hP 0 rfl rfl 9 (by decide) (hts _ fl_X9_114) (fun _ h9 => h9) rfl dX9_change_97 ?_
                  refine lv_iload hx hb dX9_change_100 (lv_at hl 1 rfl) ?_
                  refine lv_if_eq (tgt := 109) hx hb dX9_change_102 (by decide) (fun c113 => ?_) (fun c113 => ?_)
                  · have c113' := I_eq c113
                    exact absurd c113 (by decide)
                  · have c113' := I_ne c113
                    refine lv_iload_n hx hb dX9_change_105 rfl (lv_at hl 2 rfl) ?_
                    refine lv_goto (tgt := 113) hx hb dX9_change_106 (by decide) ?_
                    refine va_iast (t0 := 0) hx hb hK hP hD hS 1 (ha := rfl) (ht := rfl) (I_in (by omega) (by omega)) dX9_change_113 (fun H locs hP hD hS => ?_)
                    have hP : va_P (dC, dI) vwCl [(m0, .inr (8, [.int mth, .int mst, .ref mp, .int mln, .ref mk, .int mts, .ref mti, .ref mtw, .ref mi, .int mmn_71, .ref mpo, .int mpd, .ref mpi, .int mpl, .int mcp, .ref mre, .ref mnn, .ref mwo, .ref mga, .ref mlo, .ref mro, .ref mle, .ref mra, .int mme, .ref mha, .int mch, .int mtm, .int mgo, .int mwa, .ref mba, .int mbl, .ref mon])), (mi, .inl (cI, 12, .inl (upd mif_71 mmn_71.toNatClampNeg v2))), (mba, .inl (cI, 12, .inl mbaf))] H := hP
                    have hD : va_D A [(m0, .inr (8, [.int mth, .int mst, .ref mp, .int mln, .ref mk, .int mts, .ref mti, .ref mtw, .ref mi, .int mmn_71, .ref mpo, .int mpd, .ref mpi, .int mpl, .int mcp, .ref mre, .ref mnn, .ref mwo, .ref mga, .ref mlo, .ref mro, .ref mle, .ref mra, .int mme, .ref mha, .int mch, .int mtm, .int mgo, .int mwa, .ref mba, .int mbl, .ref mon])), (mi, .inl (cI, 12, .inl (upd mif_71 mmn_71.toNatClampNeg v2))), (mba, .inl (cI, 12, .inl mbaf))] := hD
                    generalize ef114 : upd mif_71 mmn_71.toNatClampNeg v2 = f114 at hP hD
                    refine lv_aload_n hx hb dX9_change_114 rfl (lv_at hl 4 rfl) ?_
                    refine lv_dup hx hb dX9_change_115 rfl ?_
                    refine va_get (D := (dC, dI)) (ci := 8) (v := .int mmn_71) (C := RX9) (T := TX9) (N := 32) hx hb hts inG_X9 hown hK hP 0 rfl rfl 9 (by decide) (hts _ fl_X9_114) (fun _ h9 => h9) rfl dX9_change_116 ?_
                    refine lv_iconst (v := 1) hx hb dX9_change_119 (by decide) ?_
                    refine lv_iadd hx hb dX9_change_120 ?_
                    refine lv_topi (fun v115 ev115 => ?_)
                    try have hv115 : v115.toInt = mmn_71.toInt + (1 : Int32).toInt := I_addx ev115 (by omega)
                    refine va_put (D := (dC, dI)) (ci := 8) (v := .int v115) (ty := .int) (C := RX9) (T := TX9) (N := 32) hx hb hts inG_X9 tyX9 tyX9_ok nmX9 hown hK hP hD hS 0 rfl rfl 9 (by decide) (hts _ fl_X9_114) (fun _ h9 => h9) rfl (by decide +kernel) rfl rfl (Nat.le_of_ble_eq_true rfl) dX9_change_121 (fun H locs hP hD hS => ?_)
                    have hP : va_P (dC, dI) vwCl [(m0, .inr (8, [.int mth, .int mst, .ref mp, .int mln, .ref mk, .int mts, .ref mti, .ref mtw, .ref mi, .int v115, .ref mpo, .int mpd, .ref mpi, .int mpl, .int mcp, .ref mre, .ref mnn, .ref mwo, .ref mga, .ref mlo, .ref mro, .ref mle, .ref mra, .int mme, .ref mha, .int mch, .int mtm, .int mgo, .int mwa, .ref mba, .int mbl, .ref mon])), (mi, .inl (cI, 12, .inl f114)), (mba, .inl (cI, 12, .inl mbaf))] H := hP
                    have hD : va_D A [(m0, .inr (8, [.int mth, .int mst, .ref mp, .int mln, .ref mk, .int mts, .ref mti, .ref mtw, .ref mi, .int v115, .ref mpo, .int mpd, .ref mpi, .int mpl, .int mcp, .ref mre, .ref mnn, .ref mwo, .ref mga, .ref mlo, .ref mro, .ref mle, .ref mra, .int mme, .ref mha, .int mch, .int mtm, .int mgo, .int mwa, .ref mba, .int mbl, .ref mon])), (mi, .inl (cI, 12, .inl f114)), (mba, .inl (cI, 12, .inl mbaf))] := hD
                    refine lv_iload hx hb dX9_change_124 (lv_at hl 0 rfl) ?_
                    refine lv_aload_n hx hb dX9_change_126 rfl (lv_at hl 4 rfl) ?_
                    refine va_get (D := (dC, dI)) (ci := 8) (v := .int mbl) (C := RX9) (T := TX9) (N := 32) hx hb hts inG_X9 hown hK hP 0 rfl rfl 30 (by decide) (hts _ fl_X9_177) (fun _ h9 => h9) rfl dX9_change_127 ?_
                    refine lv_icmp_ge (tgt := 170) hx hb dX9_change_130 (by decide) (fun c116 => ?_) (fun c116 => ?_)
                    · have c116' := I_le c116
                      exact J170 v115 f114 (by first | assumption | omega) (by first | assumption | omega) H locs ls hP hD hS hl
                    · have c116' := I_nle c116
                      refine lv_iload hx hb dX9_change_133 (lv_at hl 0 rfl) ?_
                      refine lv_iload_n hx hb dX9_change_135 rfl (lv_at hl 3 rfl) ?_
                      refine lv_icmp_ne (tgt := 144) hx hb dX9_change_136 (by decide) (fun c117 => ?_) (fun c117 => ?_)
                      · have c117' := I_ne c117
                        refine lv_aload_n hx hb dX9_change_144 rfl (lv_at hl 4 rfl) ?_
                        refine va_get (D := (dC, dI)) (ci := 8) (v := .ref mi) (C := RX9) (T := TX9) (N := 32) hx hb hts inG_X9 hown hK hP 0 rfl rfl 8 (by decide) (hts _ fl_X9_22) (fun _ h9 => h9) rfl dX9_change_145 ?_
                        refine lv_aload_n hx hb dX9_change_148 rfl (lv_at hl 4 rfl) ?_
                        refine va_get (D := (dC, dI)) (ci := 8) (v := .int v115) (C := RX9) (T := TX9) (N := 32) hx hb hts inG_X9 hown hK hP 0 rfl rfl 9 (by decide) (hts _ fl_X9_114) (fun _ h9 => h9) rfl dX9_change_149 ?_
                        refine lv_aload_n hx hb dX9_change_152 rfl (lv_at hl 4 rfl) ?_
                        refine va_get (D := (dC, dI)) (ci := 8) (v := .ref mba) (C := RX9) (T := TX9) (N := 32) hx hb hts inG_X9 hown hK hP 0 rfl rfl 29 (by decide) (hts _ fl_X9_63) (fun _ h9 => h9) rfl dX9_change_153 ?_
                        refine lv_iload hx hb dX9_change_156 (lv_at hl 0 rfl) ?_
                        refine va_iald (t0 := 0) hx hb hK hP 2 (ha := rfl) (ht := rfl) (I_in (by omega) (by omega)) dX9_change_158 ?_
                        refine lv_topi (fun v118 ev118 => ?_)
                        refine va_iast (t0 := 0) hx hb hK hP hD hS 1 (ha := rfl) (ht := rfl) (I_in (by omega) (by omega)) dX9_change_159 (fun H locs hP hD hS => ?_)
                        have hP : va_P (dC, dI) vwCl [(m0, .inr (8, [.int mth, .int mst, .ref mp, .int mln, .ref mk, .int mts, .ref mti, .ref mtw, .ref mi, .int v115, .ref mpo, .int mpd, .ref mpi, .int mpl, .int mcp, .ref mre, .ref mnn, .ref mwo, .ref mga, .ref mlo, .ref mro, .ref mle, .ref mra, .int mme, .ref mha, .int mch, .int mtm, .int mgo, .int mwa, .ref mba, .int mbl, .ref mon])), (mi, .inl (cI, 12, .inl (upd f114 v115.toNatClampNeg v118))), (mba, .inl (cI, 12, .inl mbaf))] H := hP
                        have hD : va_D A [(m0, .inr (8, [.int mth, .int mst, .ref mp, .int mln, .ref mk, .int mts, .ref mti, .ref mtw, .ref mi, .int v115, .ref mpo, .int mpd, .ref mpi, .int mpl, .int mcp, .ref mre, .ref mnn, .ref mwo, .ref mga, .ref mlo, .ref mro, .ref mle, .ref mra, .int mme, .ref mha, .int mch, .int mtm, .int mgo, .int mwa, .ref mba, .int mbl, .ref mon])), (mi, .inl (cI, 12, .inl (upd f114 v115.toNatClampNeg v118))), (mba, .inl (cI, 12, .inl mbaf))] := hD
                        generalize ef119 : upd f114 v115.toNatClampNeg v118 = f119 at hP hD
                        refine lv_aload_n hx hb dX9_change_160 rfl (lv_at hl 4 rfl) ?_
                        refine lv_dup hx hb dX9_change_161 rfl ?_
                        refine va_get (D := (dC, dI)) (ci := 8) (v := .int v115) (C := RX9) (T := TX9) (N := 32) hx hb hts inG_X9 hown hK hP 0 rfl rfl 9 (by decide) (hts _ fl_X9_114) (fun _ h9 => h9) rfl dX9_change_162 ?_
                        refine lv_iconst (v := 1) hx hb dX9_change_165 (by decide) ?_
                        refine lv_iadd hx hb dX9_change_166 ?_
                        refine lv_topi (fun v120 ev120 => ?_)
                        try have hv120 : v120.toInt = v115.toInt + (1 : Int32).toInt := I_addx ev120 (by omega)
                        refine va_put (D := (dC, dI)) (ci := 8) (v := .int v120) (ty := .int) (C := RX9) (T := TX9) (N := 32) hx hb hts inG_X9 tyX9 tyX9_ok nmX9 hown hK hP hD hS 0 rfl rfl 9 (by decide) (hts _ fl_X9_114) (fun _ h9 => h9) rfl (by decide +kernel) rfl rfl (Nat.le_of_ble_eq_true rfl) dX9_change_167 (fun H locs hP hD hS => ?_)
                        have hP : va_P (dC, dI) vwCl [(m0, .inr (8, [.int mth, .int mst, .ref mp, .int mln, .ref mk, .int mts, .ref mti, .ref mtw, .ref mi, .int v120, .ref mpo, .int mpd, .ref mpi, .int mpl, .int mcp, .ref mre, .ref mnn, .ref mwo, .ref mga, .ref mlo, .ref mro, .ref mle, .ref mra, .int mme, .ref mha, .int mch, .int mtm, .int mgo, .int mwa, .ref mba, .int mbl, .ref mon])), (mi, .inl (cI, 12, .inl f119)), (mba, .inl (cI, 12, .inl mbaf))] H := hP
                        have hD : va_D A [(m0, .inr (8, [.int mth, .int mst, .ref mp, .int mln, .ref mk, .int mts, .ref mti, .ref mtw, .ref mi, .int v120, .ref mpo, .int mpd, .ref mpi, .int mpl, .int mcp, .ref mre, .ref mnn, .ref mwo, .ref mga, .ref mlo, .ref mro, .ref mle, .ref mra, .int mme, .ref mha, .int mch, .int mtm, .int mgo, .int mwa, .ref mba, .int mbl, .ref mon])), (mi, .inl (cI, 12, .inl f119)), (mba, .inl (cI, 12, .inl mbaf))] := hD
                        exact J170 v120 f119 (by first | assumption | omega) (by first | assumption | omega) H locs ls hP hD hS hl
                      · have c117' := I_eq c117
                        refine lv_iload hx hb dX9_change_139 (lv_at hl 1 rfl) ?_
                        refine lv_if_eq (tgt := 170) hx hb dX9_change_141 (by decide) (fun c121 => ?_) (fun c121 => ?_)
                        · have c121' := I_eq c121
                          exact absurd c121 (by decide)
                        · have c121' := I_ne c121
                          refine lv_aload_n hx hb dX9_change_144 rfl (lv_at hl 4 rfl) ?_
                          refine va_get (D := (dC, dI)) (ci := 8) (v := .ref mi) (C := RX9) (T := TX9) (N := 32) hx hb hts inG_X9 hown hK hP 0 rfl rfl 8 (by decide) (hts _ fl_X9_22) (fun _ h9 => h9) rfl dX9_change_145 ?_
                          refine lv_aload_n hx hb dX9_change_148 rfl (lv_at hl 4 rfl) ?_
                          refine va_get (D := (dC, dI)) (ci := 8) (v := .int v115) (C := RX9) (T := TX9) (N := 32) hx hb hts inG_X9 hown hK hP 0 rfl rfl 9 (by decide) (hts _ fl_X9_114) (fun _ h9 => h9) rfl dX9_change_149 ?_
                          refine lv_aload_n hx hb dX9_change_152 rfl (lv_at hl 4 rfl) ?_
                          refine va_get (D := (dC, dI)) (ci := 8) (v := .ref mba) (C := RX9) (T := TX9) (N := 32) hx hb hts inG_X9 hown hK hP 0 rfl rfl 29 (by decide) (hts _ fl_X9_63) (fun _ h9 => h9) rfl dX9_change_153 ?_
                          refine lv_iload hx hb dX9_change_156 (lv_at hl 0 rfl) ?_
                          refine va_iald (t0 := 0) hx hb hK hP 2 (ha := rfl) (ht := rfl) (I_in (by omega) (by omega)) dX9_change_158 ?_
                          refine lv_topi (fun v122 ev122 => ?_)
                          refine va_iast (t0 := 0) hx hb hK hP hD hS 1 (ha := rfl) (ht := rfl) (I_in (by omega) (by omega)) dX9_change_159 (fun H locs hP hD hS => ?_)
                          have hP : va_P (dC, dI) vwCl [(m0, .inr (8, [.int mth, .int mst, .ref mp, .int mln, .ref mk, .int mts, .ref mti, .ref mtw, .ref mi, .int v115, .ref mpo, .int mpd, .ref mpi, .int mpl, .int mcp, .ref mre, .ref mnn, .ref mwo, .ref mga, .ref mlo, .ref mro, .ref mle, .ref mra, .int mme, .ref mha, .int mch, .int mtm, .int mgo, .int mwa, .ref mba, .int mbl, .ref mon])), (mi, .inl (cI, 12, .inl (upd f114 v115.toNatClampNeg v122))), (mba, .inl (cI, 12, .inl mbaf))] H := hP
                          have hD : va_D A [(m0, .inr (8, [.int mth, .int mst, .ref mp, .int mln, .ref mk, .int mts, .ref mti, .ref mtw, .ref mi, .int v115, .ref mpo, .int mpd, .ref mpi, .int mpl, .int mcp, .ref mre, .ref mnn, .ref mwo, .ref mga, .ref mlo, .ref mro, .ref mle, .ref mra, .int mme, .ref mha, .int mch, .int mtm, .int mgo, .int mwa, .ref mba, .int mbl, .ref mon])), (mi, .inl (cI, 12, .inl (upd f114 v115.toNatClampNeg v122))), (mba, .inl (cI, 12, .inl mbaf))] := hD
                          generalize ef123 : upd f114 v115.toNatClampNeg v122 = f123 at hP hD
                          refine lv_aload_n hx hb dX9_change_160 rfl (lv_at hl 4 rfl) ?_
                          refine lv_dup hx hb dX9_change_161 rfl ?_
                          refine va_get (D := (dC, dI)) (ci := 8) (v := .int v115) (C := RX9) (T := TX9) (N := 32) hx hb hts inG_X9 hown hK hP 0 rfl rfl 9 (by decide) (hts _ fl_X9_114) (fun _ h9 => h9) rfl dX9_change_162 ?_
                          refine lv_iconst (v := 1) hx hb dX9_change_165 (by decide) ?_
                          refine lv_iadd hx hb dX9_change_166 ?_
                          refine lv_topi (fun v124 ev124 => ?_)
                          try have hv124 : v124.toInt = v115.toInt + (1 : Int32).toInt := I_addx ev124 (by omega)
                          refine va_put (D := (dC, dI)) (ci := 8) (v := .int v124) (ty := .int) (C := RX9) (T := TX9) (N := 32) hx hb hts inG_X9 tyX9 tyX9_ok nmX9 hown hK hP hD hS 0 rfl rfl 9 (by decide) (hts _ fl_X9_114) (fun _ h9 => h9) rfl (by decide +kernel) rfl rfl (Nat.le_of_ble_eq_true rfl) dX9_change_167 (fun H locs hP hD hS => ?_)
                          have hP : va_P (dC, dI) vwCl [(m0, .inr (8, [.int mth, .int mst, .ref mp, .int mln, .ref mk, .int mts, .ref mti, .ref mtw, .ref mi, .int v124, .ref mpo, .int mpd, .ref mpi, .int mpl, .int mcp, .ref mre, .ref mnn, .ref mwo, .ref mga, .ref mlo, .ref mro, .ref mle, .ref mra, .int mme, .ref mha, .int mch, .int mtm, .int mgo, .int mwa, .ref mba, .int mbl, .ref mon])), (mi, .inl (cI, 12, .inl f123)), (mba, .inl (cI, 12, .inl mbaf))] H := hP
                          have hD : va_D A [(m0, .inr (8, [.int mth, .int mst, .ref mp, .int mln, .ref mk, .int mts, .ref mti, .ref mtw, .ref mi, .int v124, .ref mpo, .int mpd, .ref mpi, .int mpl, .int mcp, .ref mre, .ref mnn, .ref mwo, .ref mga, .ref mlo, .ref mro, .ref mle, .ref mra, .int mme, .ref mha, .int mch, .int mtm, .int mgo, .int mwa, .ref mba, .int mbl, .ref mon])), (mi, .inl (cI, 12, .inl f123)), (mba, .inl (cI, 12, .inl mbaf))] := hD
                          exact J170 v124 f123 (by first | assumption | omega) (by first | assumption | omega) H locs ls hP hD hS hl
        exact J71 ((mbl.toInt + 1 - (0 : Int32).toInt).toNat + 1) 0 0 mif (by first | assumption | omega) (by first | assumption | omega) (by first | assumption | omega) (by omega) H locs ls hP hD hS hl
      · have c90' := I_nlt c90
        refine lv_iload_n hx hb dX9_change_42 rfl (lv_at hl 1 rfl) ?_
        refine lv_bipush (v := 56) hx hb dX9_change_43 (by decide) ?_
        refine lv_icmp_ge (tgt := 63) hx hb dX9_change_45 (by decide) (fun c125 => ?_) (fun c125 => ?_)
        · have c125' := I_le c125
          refine lv_aload_n hx hb dX9_change_63 rfl (lv_at hl 3 rfl) ?_
          refine lv_iconst (v := 0) hx hb dX9_change_64 (by decide) ?_
          refine va_put (D := (dC, dI)) (ci := 8) (v := .int 0) (ty := .int) (C := RX9) (T := TX9) (N := 32) hx hb hts inG_X9 tyX9 tyX9_ok nmX9 hown hK hP hD hS 0 rfl rfl 9 (by decide) (hts _ fl_X9_114) (fun _ h9 => h9) rfl (by decide +kernel) rfl rfl (Nat.le_of_ble_eq_true rfl) dX9_change_65 (fun H locs hP hD hS => ?_)
          have hP : va_P (dC, dI) vwCl [(m0, .inr (8, [.int mth, .int mst, .ref mp, .int mln, .ref mk, .int mts, .ref mti, .ref mtw, .ref mi, .int 0, .ref mpo, .int mpd, .ref mpi, .int mpl, .int mcp, .ref mre, .ref mnn, .ref mwo, .ref mga, .ref mlo, .ref mro, .ref mle, .ref mra, .int mme, .ref mha, .int mch, .int mtm, .int mgo, .int mwa, .ref mba, .int mbl, .ref mon])), (mi, .inl (cI, 12, .inl mif)), (mba, .inl (cI, 12, .inl mbaf))] H := hP
          have hD : va_D A [(m0, .inr (8, [.int mth, .int mst, .ref mp, .int mln, .ref mk, .int mts, .ref mti, .ref mtw, .ref mi, .int 0, .ref mpo, .int mpd, .ref mpi, .int mpl, .int mcp, .ref mre, .ref mnn, .ref mwo, .ref mga, .ref mlo, .ref mro, .ref mle, .ref mra, .int mme, .ref mha, .int mch, .int mtm, .int mgo, .int mwa, .ref mba, .int mbl, .ref mon])), (mi, .inl (cI, 12, .inl mif)), (mba, .inl (cI, 12, .inl mbaf))] := hD
          refine lv_iconst (v := 0) hx hb dX9_change_68 (by decide) ?_
          refine lv_istore (lv' := [(5, .int 0), (4, .int 1), (3, .int v2), (2, .int v1), (0, .ref m0), (1, .int x)]) hx hb dX9_change_69 hl (by decide) rfl (fun ls hl => ?_)
          have J71 : ∀ (n : Nat) (L5_71 : Int32) (mmn_71 : Int32) (mif_71 : Nat → Int32), (0 ≤ mmn_71.toInt ∧ mmn_71.toInt ≤ L5_71.toInt + 1 ∧ mmn_71.toInt ≤ mbl.toInt + 1) → (v1.toInt < L5_71.toInt ∨ mmn_71.toInt ≤ L5_71.toInt) → (0 ≤ L5_71.toInt ∧ L5_71.toInt ≤ mbl.toInt + 1) → (mbl.toInt + 1 - L5_71.toInt) < (n : Int) → ∀ (H : Heap) (locs : List Loc) (ls : Array Slot), va_P (dC, dI) vwCl [(m0, .inr (8, [.int mth, .int mst, .ref mp, .int mln, .ref mk, .int mts, .ref mti, .ref mtw, .ref mi, .int mmn_71, .ref mpo, .int mpd, .ref mpi, .int mpl, .int mcp, .ref mre, .ref mnn, .ref mwo, .ref mga, .ref mlo, .ref mro, .ref mle, .ref mra, .int mme, .ref mha, .int mch, .int mtm, .int mgo, .int mwa, .ref mba, .int mbl, .ref mon])), (mi, .inl (cI, 12, .inl mif_71)), (mba, .inl (cI, 12, .inl mbaf))] H → va_D A [(m0, .inr (8, [.int mth, .int mst, .ref mp, .int mln, .ref mk, .int mts, .ref mti, .ref mtw, .ref mi, .int mmn_71, .ref mpo, .int mpd, .ref mpi, .int mpl, .int mcp, .ref mre, .ref mnn, .ref mwo, .ref mga, .ref mlo, .ref mro, .ref mle, .ref mra, .int mme, .ref mha, .int mch, .int mtm, .int mgo, .int mwa, .ref mba, .int mbl, .ref mon])), (mi, .inl (cI, 12, .inl mif_71)), (mba, .inl (cI, 12, .inl mbaf))] → va_S A s.heap H locs → lv_has ls 6 [(5, .int L5_71), (4, .int 1), (3, .int v2), (2, .int v1), (0, .ref m0), (1, .int x)] → W p l e { frames := 0, cells := 0, slots := 0, locals := 0 } s m (List.toArray [.ref m0, .int x]) below meth c H locs 0 0 Q (F0 m 71 ls []) := by
            intro n
            induction n with
            | zero =>
              intro L5_71 mmn_71 mif_71 hi0_71 hi1_71 hi2_71 hm
              exact absurd hm (by omega)
            | succ n ih71 =>
              intro L5_71 mmn_71 mif_71 hi0_71 hi1_71 hi2_71 hm71 H locs ls hP hD hS hl
              refine lv_iload hx hb dX9_change_71 (lv_at hl 0 rfl) ?_
              refine lv_aload_n hx hb dX9_change_73 rfl (lv_at hl 4 rfl) ?_
              refine va_get (D := (dC, dI)) (ci := 8) (v := .int mbl) (C := RX9) (T := TX9) (N := 32) hx hb hts inG_X9 hown hK hP 0 rfl rfl 30 (by decide) (hts _ fl_X9_177) (fun _ h9 => h9) rfl dX9_change_74 ?_
              refine lv_icmp_gt (tgt := 176) hx hb dX9_change_77 (by decide) (fun c126 => ?_) (fun c126 => ?_)
              · have c126' := I_lt c126
                refine lv_iconst (v := 1) hx hb dX9_change_176 (by decide) ?_
                exact hret 1 (mmn_71, mif_71) H locs 177 ls (by first | rfl | exact I_narz (by omega)) ⟨(show (1 : Int32).toInt = 0 ∨ (1 : Int32).toInt = 1 from by first | rfl | assumption | omega), (show 0 ≤ mmn_71.toInt ∧ mmn_71.toInt ≤ 12 from by first | rfl | assumption | omega), (show (1 : Int32).toInt = 0 ∨ mmn_71.toInt ≤ mbl.toInt + 1 from by first | rfl | assumption | omega), trivial⟩ hP hD hS dX9_change_177
              · have c126' := I_nlt c126
                have J170 : ∀ (mmn_170 : Int32) (mif_170 : Nat → Int32), (0 ≤ mmn_170.toInt ∧ mmn_170.toInt ≤ L5_71.toInt + 2 ∧ mmn_170.toInt ≤ mbl.toInt + 1) → (v1.toInt < L5_71.toInt + 1 ∨ mmn_170.toInt ≤ L5_71.toInt + 1) → ∀ (H : Heap) (locs : List Loc) (ls : Array Slot), va_P (dC, dI) vwCl [(m0, .inr (8, [.int mth, .int mst, .ref mp, .int mln, .ref mk, .int mts, .ref mti, .ref mtw, .ref mi, .int mmn_170, .ref mpo, .int mpd, .ref mpi, .int mpl, .int mcp, .ref mre, .ref mnn, .ref mwo, .ref mga, .ref mlo, .ref mro, .ref mle, .ref mra, .int mme, .ref mha, .int mch, .int mtm, .int mgo, .int mwa, .ref mba, .int mbl, .ref mon])), (mi, .inl (cI, 12, .inl mif_170)), (mba, .inl (cI, 12, .inl mbaf))] H → va_D A [(m0, .inr (8, [.int mth, .int mst, .ref mp, .int mln, .ref mk, .int mts, .ref mti, .ref mtw, .ref mi, .int mmn_170, .ref mpo, .int mpd, .ref mpi, .int mpl, .int mcp, .ref mre, .ref mnn, .ref mwo, .ref mga, .ref mlo, .ref mro, .ref mle, .ref mra, .int mme, .ref mha, .int mch, .int mtm, .int mgo, .int mwa, .ref mba, .int mbl, .ref mon])), (mi, .inl (cI, 12, .inl mif_170)), (mba, .inl (cI, 12, .inl mbaf))] → va_S A s.heap H locs → lv_has ls 6 [(5, .int L5_71), (4, .int 1), (3, .int v2), (2, .int v1), (0, .ref m0), (1, .int x)] → W p l e { frames := 0, cells := 0, slots := 0, locals := 0 } s m (List.toArray [.ref m0, .int x]) below meth c H locs 0 0 Q (F0 m 170 ls []) := by
                  intro mmn_170 mif_170 hi0_170 hi1_170 H locs ls hP hD hS hl
                  obtain ⟨v127, ev127⟩ : ∃ y : Int32, y = L5_71 + 1 := ⟨_, rfl⟩
                  try have hv127 : v127.toInt = L5_71.toInt + (1 : Int32).toInt := I_addx ev127 (by omega)
                  refine lv_iinc (v := v127) (lv' := [(5, .int v127), (4, .int 1), (3, .int v2), (2, .int v1), (0, .ref m0), (1, .int x)]) hx hb dX9_change_170 hl (k := 0) rfl (by rw [ev127]; rfl) (by decide) rfl (fun ls hl => ?_)
                  refine lv_goto (tgt := 71) hx hb dX9_change_173 (by decide) ?_
                  exact ih71 v127 mmn_170 mif_170 (by first | assumption | omega) (by first | assumption | omega) (by first | assumption | omega) (by omega) H locs ls hP hD hS hl
                refine lv_iload hx hb dX9_change_80 (lv_at hl 0 rfl) ?_
                refine lv_iload_n hx hb dX9_change_82 rfl (lv_at hl 3 rfl) ?_
                refine lv_icmp_ne (tgt := 124) hx hb dX9_change_83 (by decide) (fun c128 => ?_) (fun c128 => ?_)
                · have c128' := I_ne c128
                  refine lv_iload hx hb dX9_change_124 (lv_at hl 0 rfl) ?_
                  refine lv_aload_n hx hb dX9_change_126 rfl (lv_at hl 4 rfl) ?_
                  refine va_get (D := (dC, dI)) (ci := 8) (v := .int mbl) (C := RX9) (T := TX9) (N := 32) hx hb hts inG_X9 hown hK hP 0 rfl rfl 30 (by decide) (hts _ fl_X9_177) (fun _ h9 => h9) rfl dX9_change_127 ?_
                  refine lv_icmp_ge (tgt := 170) hx hb dX9_change_130 (by decide) (fun c129 => ?_) (fun c129 => ?_)
                  · have c129' := I_le c129
                    exact J170 mmn_71 mif_71 (by first | assumption | omega) (by first | assumption | omega) H locs ls hP hD hS hl
                  · have c129' := I_nle c129
                    refine lv_iload hx hb dX9_change_133 (lv_at hl 0 rfl) ?_
                    refine lv_iload_n hx hb dX9_change_135 rfl (lv_at hl 3 rfl) ?_
                    refine lv_icmp_ne (tgt := 144) hx hb dX9_change_136 (by decide) (fun c130 => ?_) (fun c130 => ?_)
                    · have c130' := I_ne c130
                      refine lv_aload_n hx hb dX9_change_144 rfl (lv_at hl 4 rfl) ?_
                      refine va_get (D := (dC, dI)) (ci := 8) (v := .ref mi) (C := RX9) (T := TX9) (N := 32) hx hb hts inG_X9 hown hK hP 0 rfl rfl 8 (by decide) (hts _ fl_X9_22) (fun _ h9 => h9) rfl dX9_change_145 ?_
                      refine lv_aload_n hx hb dX9_change_148 rfl (lv_at hl 4 rfl) ?_
                      refine va_get (D := (dC, dI)) (ci := 8) (v := .int mmn_71) (C := RX9) (T := TX9) (N := 32) hx hb hts inG_X9 hown hK hP 0 rfl rfl 9 (by decide) (hts _ fl_X9_114) (fun _ h9 => h9) rfl dX9_change_149 ?_
                      refine lv_aload_n hx hb dX9_change_152 rfl (lv_at hl 4 rfl) ?_
                      refine va_get (D := (dC, dI)) (ci := 8) (v := .ref mba) (C := RX9) (T := TX9) (N := 32) hx hb hts inG_X9 hown hK hP 0 rfl rfl 29 (by decide) (hts _ fl_X9_63) (fun _ h9 => h9) rfl dX9_change_153 ?_
                      refine lv_iload hx hb dX9_change_156 (lv_at hl 0 rfl) ?_
                      refine va_iald (t0 := 0) hx hb hK hP 2 (ha := rfl) (ht := rfl) (I_in (by omega) (by omega)) dX9_change_158 ?_
                      refine lv_topi (fun v131 ev131 => ?_)
                      refine va_iast (t0 := 0) hx hb hK hP hD hS 1 (ha := rfl) (ht := rfl) (I_in (by omega) (by omega)) dX9_change_159 (fun H locs hP hD hS => ?_)
                      have hP : va_P (dC, dI) vwCl [(m0, .inr (8, [.int mth, .int mst, .ref mp, .int mln, .ref mk, .int mts, .ref mti, .ref mtw, .ref mi, .int mmn_71, .ref mpo, .int mpd, .ref mpi, .int mpl, .int mcp, .ref mre, .ref mnn, .ref mwo, .ref mga, .ref mlo, .ref mro, .ref mle, .ref mra, .int mme, .ref mha, .int mch, .int mtm, .int mgo, .int mwa, .ref mba, .int mbl, .ref mon])), (mi, .inl (cI, 12, .inl (upd mif_71 mmn_71.toNatClampNeg v131))), (mba, .inl (cI, 12, .inl mbaf))] H := hP
                      have hD : va_D A [(m0, .inr (8, [.int mth, .int mst, .ref mp, .int mln, .ref mk, .int mts, .ref mti, .ref mtw, .ref mi, .int mmn_71, .ref mpo, .int mpd, .ref mpi, .int mpl, .int mcp, .ref mre, .ref mnn, .ref mwo, .ref mga, .ref mlo, .ref mro, .ref mle, .ref mra, .int mme, .ref mha, .int mch, .int mtm, .int mgo, .int mwa, .ref mba, .int mbl, .ref mon])), (mi, .inl (cI, 12, .inl (upd mif_71 mmn_71.toNatClampNeg v131))), (mba, .inl (cI, 12, .inl mbaf))] := hD
                      generalize ef132 : upd mif_71 mmn_71.toNatClampNeg v131 = f132 at hP hD
                      refine lv_aload_n hx hb dX9_change_160 rfl (lv_at hl 4 rfl) ?_
                      refine lv_dup hx hb dX9_change_161 rfl ?_
                      refine va_get (D := (dC, dI)) (ci := 8) (v := .int mmn_71) (C := RX9) (T := TX9) (N := 32) hx hb hts inG_X9 hown hK hP 0 rfl rfl 9 (by decide) (hts _ fl_X9_114) (fun _ h9 => h9) rfl dX9_change_162 ?_
                      refine lv_iconst (v := 1) hx hb dX9_change_165 (by decide) ?_
                      refine lv_iadd hx hb dX9_change_166 ?_
                      refine lv_topi (fun v133 ev133 => ?_)
                      try have hv133 : v133.toInt = mmn_71.toInt + (1 : Int32).toInt := I_addx ev133 (by omega)
                      refine va_put (D := (dC, dI)) (ci := 8) (v := .int v133) (ty := .int) (C := RX9) (T := TX9) (N := 32) hx hb hts inG_X9 tyX9 tyX9_ok nmX9 hown hK hP hD hS 0 rfl rfl 9 (by decide) (hts _ fl_X9_114) (fun _ h9 => h9) rfl (by decide +kernel) rfl rfl (Nat.le_of_ble_eq_true rfl) dX9_change_167 (fun H locs hP hD hS => ?_)
                      have hP : va_P (dC, dI) vwCl [(m0, .inr (8, [.int mth, .int mst, .ref mp, .int mln, .ref mk, .int mts, .ref mti, .ref mtw, .ref mi, .int v133, .ref mpo, .int mpd, .ref mpi, .int mpl, .int mcp, .ref mre, .ref mnn, .ref mwo, .ref mga, .ref mlo, .ref mro, .ref mle, .ref mra, .int mme, .ref mha, .int mch, .int mtm, .int mgo, .int mwa, .ref mba, .int mbl, .ref mon])), (mi, .inl (cI, 12, .inl f132)), (mba, .inl (cI, 12, .inl mbaf))] H := hP
                      have hD : va_D A [(m0, .inr (8, [.int mth, .int mst, .ref mp, .int mln, .ref mk, .int mts, .ref mti, .ref mtw, .ref mi, .int v133, .ref mpo, .int mpd, .ref mpi, .int mpl, .int mcp, .ref mre, .ref mnn, .ref mwo, .ref mga, .ref mlo, .ref mro, .ref mle, .ref mra, .int mme, .ref mha, .int mch, .int mtm, .int mgo, .int mwa, .ref mba, .int mbl, .ref mon])), (mi, .inl (cI, 12, .inl f132)), (mba, .inl (cI, 12, .inl mbaf))] := hD
                      exact J170 v133 f132 (by first | assumption | omega) (by first | assumption | omega) H locs ls hP hD hS hl
                    · have c130' := I_eq c130
                      refine lv_iload hx hb dX9_change_139 (lv_at hl 1 rfl) ?_
                      refine lv_if_eq (tgt := 170) hx hb dX9_change_141 (by decide) (fun c134 => ?_) (fun c134 => ?_)
                      · have c134' := I_eq c134
                        exact absurd c134 (by decide)
                      · have c134' := I_ne c134
                        refine lv_aload_n hx hb dX9_change_144 rfl (lv_at hl 4 rfl) ?_
                        refine va_get (D := (dC, dI)) (ci := 8) (v := .ref mi) (C := RX9) (T := TX9) (N := 32) hx hb hts inG_X9 hown hK hP 0 rfl rfl 8 (by decide) (hts _ fl_X9_22) (fun _ h9 => h9) rfl dX9_change_145 ?_
                        refine lv_aload_n hx hb dX9_change_148 rfl (lv_at hl 4 rfl) ?_
                        refine va_get (D := (dC, dI)) (ci := 8) (v := .int mmn_71) (C := RX9) (T := TX9) (N := 32) hx hb hts inG_X9 hown hK hP 0 rfl rfl 9 (by decide) (hts _ fl_X9_114) (fun _ h9 => h9) rfl dX9_change_149 ?_
                        refine lv_aload_n hx hb dX9_change_152 rfl (lv_at hl 4 rfl) ?_
                        refine va_get (D := (dC, dI)) (ci := 8) (v := .ref mba) (C := RX9) (T := TX9) (N := 32) hx hb hts inG_X9 hown hK hP 0 rfl rfl 29 (by decide) (hts _ fl_X9_63) (fun _ h9 => h9) rfl dX9_change_153 ?_
                        refine lv_iload hx hb dX9_change_156 (lv_at hl 0 rfl) ?_
                        refine va_iald (t0 := 0) hx hb hK hP 2 (ha := rfl) (ht := rfl) (I_in (by omega) (by omega)) dX9_change_158 ?_
                        refine lv_topi (fun v135 ev135 => ?_)
                        refine va_iast (t0 := 0) hx hb hK hP hD hS 1 (ha := rfl) (ht := rfl) (I_in (by omega) (by omega)) dX9_change_159 (fun H locs hP hD hS => ?_)
                        have hP : va_P (dC, dI) vwCl [(m0, .inr (8, [.int mth, .int mst, .ref mp, .int mln, .ref mk, .int mts, .ref mti, .ref mtw, .ref mi, .int mmn_71, .ref mpo, .int mpd, .ref mpi, .int mpl, .int mcp, .ref mre, .ref mnn, .ref mwo, .ref mga, .ref mlo, .ref mro, .ref mle, .ref mra, .int mme, .ref mha, .int mch, .int mtm, .int mgo, .int mwa, .ref mba, .int mbl, .ref mon])), (mi, .inl (cI, 12, .inl (upd mif_71 mmn_71.toNatClampNeg v135))), (mba, .inl (cI, 12, .inl mbaf))] H := hP
                        have hD : va_D A [(m0, .inr (8, [.int mth, .int mst, .ref mp, .int mln, .ref mk, .int mts, .ref mti, .ref mtw, .ref mi, .int mmn_71, .ref mpo, .int mpd, .ref mpi, .int mpl, .int mcp, .ref mre, .ref mnn, .ref mwo, .ref mga, .ref mlo, .ref mro, .ref mle, .ref mra, .int mme, .ref mha, .int mch, .int mtm, .int mgo, .int mwa, .ref mba, .int mbl, .ref mon])), (mi, .inl (cI, 12, .inl (upd mif_71 mmn_71.toNatClampNeg v135))), (mba, .inl (cI, 12, .inl mbaf))] := hD
                        generalize ef136 : upd mif_71 mmn_71.toNatClampNeg v135 = f136 at hP hD
                        refine lv_aload_n hx hb dX9_change_160 rfl (lv_at hl 4 rfl) ?_
                        refine lv_dup hx hb dX9_change_161 rfl ?_
                        refine va_get (D := (dC, dI)) (ci := 8) (v := .int mmn_71) (C := RX9) (T := TX9) (N := 32) hx hb hts inG_X9 hown hK hP 0 rfl rfl 9 (by decide) (hts _ fl_X9_114) (fun _ h9 => h9) rfl dX9_change_162 ?_
                        refine lv_iconst (v := 1) hx hb dX9_change_165 (by decide) ?_
                        refine lv_iadd hx hb dX9_change_166 ?_
                        refine lv_topi (fun v137 ev137 => ?_)
                        try have hv137 : v137.toInt = mmn_71.toInt + (1 : Int32).toInt := I_addx ev137 (by omega)
                        refine va_put (D := (dC, dI)) (ci := 8) (v := .int v137) (ty := .int) (C := RX9) (T := TX9) (N := 32) hx hb hts inG_X9 tyX9 tyX9_ok nmX9 hown hK hP hD hS 0 rfl rfl 9 (by decide) (hts _ fl_X9_114) (fun _ h9 => h9) rfl (by decide +kernel) rfl rfl (Nat.le_of_ble_eq_true rfl) dX9_change_167 (fun H locs hP hD hS => ?_)
                        have hP : va_P (dC, dI) vwCl [(m0, .inr (8, [.int mth, .int mst, .ref mp, .int mln, .ref mk, .int mts, .ref mti, .ref mtw, .ref mi, .int v137, .ref mpo, .int mpd, .ref mpi, .int mpl, .int mcp, .ref mre, .ref mnn, .ref mwo, .ref mga, .ref mlo, .ref mro, .ref mle, .ref mra, .int mme, .ref mha, .int mch, .int mtm, .int mgo, .int mwa, .ref mba, .int mbl, .ref mon])), (mi, .inl (cI, 12, .inl f136)), (mba, .inl (cI, 12, .inl mbaf))] H := hP
                        have hD : va_D A [(m0, .inr (8, [.int mth, .int mst, .ref mp, .int mln, .ref mk, .int mts, .ref mti, .ref mtw, .ref mi, .int v137, .ref mpo, .int mpd, .ref mpi, .int mpl, .int mcp, .ref mre, .ref mnn, .ref mwo, .ref mga, .ref mlo, .ref mro, .ref mle, .ref mra, .int mme, .ref mha, .int mch, .int mtm, .int mgo, .int mwa, .ref mba, .int mbl, .ref mon])), (mi, .inl (cI, 12, .inl f136)), (mba, .inl (cI, 12, .inl mbaf))] := hD
                        exact J170 v137 f136 (by first | assumption | omega) (by first | assumption | omega) H locs ls hP hD hS hl
                · have c128' := I_eq c128
                  refine lv_iload_n hx hb dX9_change_86 rfl (lv_at hl 2 rfl) ?_
                  refine lv_bipush (v := 56) hx hb dX9_change_87 (by decide) ?_
                  refine lv_icmp_ge (tgt := 124) hx hb dX9_change_89 (by decide) (fun c138 => ?_) (fun c138 => ?_)
                  · have c138' := I_le c138
                    refine lv_iload hx hb dX9_change_124 (lv_at hl 0 rfl) ?_
                    refine lv_aload_n hx hb dX9_change_126 rfl (lv_at hl 4 rfl) ?_
                    refine va_get (D := (dC, dI)) (ci := 8) (v := .int mbl) (C := RX9) (T := TX9) (N := 32) hx hb hts inG_X9 hown hK hP 0 rfl rfl 30 (by decide) (hts _ fl_X9_177) (fun _ h9 => h9) rfl dX9_change_127 ?_
                    refine lv_icmp_ge (tgt := 170) hx hb dX9_change_130 (by decide) (fun c139 => ?_) (fun c139 => ?_)
                    · have c139' := I_le c139
                      exact J170 mmn_71 mif_71 (by first | assumption | omega) (by first | assumption | omega) H locs ls hP hD hS hl
                    · have c139' := I_nle c139
                      refine lv_iload hx hb dX9_change_133 (lv_at hl 0 rfl) ?_
                      refine lv_iload_n hx hb dX9_change_135 rfl (lv_at hl 3 rfl) ?_
                      refine lv_icmp_ne (tgt := 144) hx hb dX9_change_136 (by decide) (fun c140 => ?_) (fun c140 => ?_)
                      · have c140' := I_ne c140
                        refine lv_aload_n hx hb dX9_change_144 rfl (lv_at hl 4 rfl) ?_
                        refine va_get (D := (dC, dI)) (ci := 8) (v := .ref mi) (C := RX9) (T := TX9) (N := 32) hx hb hts inG_X9 hown hK hP 0 rfl rfl 8 (by decide) (hts _ fl_X9_22) (fun _ h9 => h9) rfl dX9_change_145 ?_
                        refine lv_aload_n hx hb dX9_change_148 rfl (lv_at hl 4 rfl) ?_
                        refine va_get (D := (dC, dI)) (ci := 8) (v := .int mmn_71) (C := RX9) (T := TX9) (N := 32) hx hb hts inG_X9 hown hK hP 0 rfl rfl 9 (by decide) (hts _ fl_X9_114) (fun _ h9 => h9) rfl dX9_change_149 ?_
                        refine lv_aload_n hx hb dX9_change_152 rfl (lv_at hl 4 rfl) ?_
                        refine va_get (D := (dC, dI)) (ci := 8) (v := .ref mba) (C := RX9) (T := TX9) (N := 32) hx hb hts inG_X9 hown hK hP 0 rfl rfl 29 (by decide) (hts _ fl_X9_63) (fun _ h9 => h9) rfl dX9_change_153 ?_
                        refine lv_iload hx hb dX9_change_156 (lv_at hl 0 rfl) ?_
                        refine va_iald (t0 := 0) hx hb hK hP 2 (ha := rfl) (ht := rfl) (I_in (by omega) (by omega)) dX9_change_158 ?_
                        refine lv_topi (fun v141 ev141 => ?_)
                        refine va_iast (t0 := 0) hx hb hK hP hD hS 1 (ha := rfl) (ht := rfl) (I_in (by omega) (by omega)) dX9_change_159 (fun H locs hP hD hS => ?_)
                        have hP : va_P (dC, dI) vwCl [(m0, .inr (8, [.int mth, .int mst, .ref mp, .int mln, .ref mk, .int mts, .ref mti, .ref mtw, .ref mi, .int mmn_71, .ref mpo, .int mpd, .ref mpi, .int mpl, .int mcp, .ref mre, .ref mnn, .ref mwo, .ref mga, .ref mlo, .ref mro, .ref mle, .ref mra, .int mme, .ref mha, .int mch, .int mtm, .int mgo, .int mwa, .ref mba, .int mbl, .ref mon])), (mi, .inl (cI, 12, .inl (upd mif_71 mmn_71.toNatClampNeg v141))), (mba, .inl (cI, 12, .inl mbaf))] H := hP
                        have hD : va_D A [(m0, .inr (8, [.int mth, .int mst, .ref mp, .int mln, .ref mk, .int mts, .ref mti, .ref mtw, .ref mi, .int mmn_71, .ref mpo, .int mpd, .ref mpi, .int mpl, .int mcp, .ref mre, .ref mnn, .ref mwo, .ref mga, .ref mlo, .ref mro, .ref mle, .ref mra, .int mme, .ref mha, .int mch, .int mtm, .int mgo, .int mwa, .ref mba, .int mbl, .ref mon])), (mi, .inl (cI, 12, .inl (upd mif_71 mmn_71.toNatClampNeg v141))), (mba, .inl (cI, 12, .inl mbaf))] := hD
                        generalize ef142 : upd mif_71 mmn_71.toNatClampNeg v141 = f142 at hP hD
                        refine lv_aload_n hx hb dX9_change_160 rfl (lv_at hl 4 rfl) ?_
                        refine lv_dup hx hb dX9_change_161 rfl ?_
                        refine va_get (D := (dC, dI)) (ci := 8) (v := .int mmn_71) (C := RX9) (T := TX9) (N := 32) hx hb hts inG_X9 hown hK hP 0 rfl rfl 9 (by decide) (hts _ fl_X9_114) (fun _ h9 => h9) rfl dX9_change_162 ?_
                        refine lv_iconst (v := 1) hx hb dX9_change_165 (by decide) ?_
                        refine lv_iadd hx hb dX9_change_166 ?_
                        refine lv_topi (fun v143 ev143 => ?_)
                        try have hv143 : v143.toInt = mmn_71.toInt + (1 : Int32).toInt := I_addx ev143 (by omega)
                        refine va_put (D := (dC, dI)) (ci := 8) (v := .int v143) (ty := .int) (C := RX9) (T := TX9) (N := 32) hx hb hts inG_X9 tyX9 tyX9_ok nmX9 hown hK hP hD hS 0 rfl rfl 9 (by decide) (hts _ fl_X9_114) (fun _ h9 => h9) rfl (by decide +kernel) rfl rfl (Nat.le_of_ble_eq_true rfl) dX9_change_167 (fun H locs hP hD hS => ?_)
                        have hP : va_P (dC, dI) vwCl [(m0, .inr (8, [.int mth, .int mst, .ref mp, .int mln, .ref mk, .int mts, .ref mti, .ref mtw, .ref mi, .int v143, .ref mpo, .int mpd, .ref mpi, .int mpl, .int mcp, .ref mre, .ref mnn, .ref mwo, .ref mga, .ref mlo, .ref mro, .ref mle, .ref mra, .int mme, .ref mha, .int mch, .int mtm, .int mgo, .int mwa, .ref mba, .int mbl, .ref mon])), (mi, .inl (cI, 12, .inl f142)), (mba, .inl (cI, 12, .inl mbaf))] H := hP
                        have hD : va_D A [(m0, .inr (8, [.int mth, .int mst, .ref mp, .int mln, .ref mk, .int mts, .ref mti, .ref mtw, .ref mi, .int v143, .ref mpo, .int mpd, .ref mpi, .int mpl, .int mcp, .ref mre, .ref mnn, .ref mwo, .ref mga, .ref mlo, .ref mro, .ref mle, .ref mra, .int mme, .ref mha, .int mch, .int mtm, .int mgo, .int mwa, .ref mba, .int mbl, .ref mon])), (mi, .inl (cI, 12, .inl f142)), (mba, .inl (cI, 12, .inl mbaf))] := hD
                        exact J170 v143 f142 (by first | assumption | omega) (by first | assumption | omega) H locs ls hP hD hS hl
                      · have c140' := I_eq c140
                        refine lv_iload hx hb dX9_change_139 (lv_at hl 1 rfl) ?_
                        refine lv_if_eq (tgt := 170) hx hb dX9_change_141 (by decide) (fun c144 => ?_) (fun c144 => ?_)
                        · have c144' := I_eq c144
                          exact absurd c144 (by decide)
                        · have c144' := I_ne c144
                          refine lv_aload_n hx hb dX9_change_144 rfl (lv_at hl 4 rfl) ?_
                          refine va_get (D := (dC, dI)) (ci := 8) (v := .ref mi) (C := RX9) (T := TX9) (N := 32) hx hb hts inG_X9 hown hK hP 0 rfl rfl 8 (by decide) (hts _ fl_X9_22) (fun _ h9 => h9) rfl dX9_change_145 ?_
                          refine lv_aload_n hx hb dX9_change_148 rfl (lv_at hl 4 rfl) ?_
                          refine va_get (D := (dC, dI)) (ci := 8) (v := .int mmn_71) (C := RX9) (T := TX9) (N := 32) hx hb hts inG_X9 hown hK hP 0 rfl rfl 9 (by decide) (hts _ fl_X9_114) (fun _ h9 => h9) rfl dX9_change_149 ?_
                          refine lv_aload_n hx hb dX9_change_152 rfl (lv_at hl 4 rfl) ?_
                          refine va_get (D := (dC, dI)) (ci := 8) (v := .ref mba) (C := RX9) (T := TX9) (N := 32) hx hb hts inG_X9 hown hK hP 0 rfl rfl 29 (by decide) (hts _ fl_X9_63) (fun _ h9 => h9) rfl dX9_change_153 ?_
                          refine lv_iload hx hb dX9_change_156 (lv_at hl 0 rfl) ?_
                          refine va_iald (t0 := 0) hx hb hK hP 2 (ha := rfl) (ht := rfl) (I_in (by omega) (by omega)) dX9_change_158 ?_
                          refine lv_topi (fun v145 ev145 => ?_)
                          refine va_iast (t0 := 0) hx hb hK hP hD hS 1 (ha := rfl) (ht := rfl) (I_in (by omega) (by omega)) dX9_change_159 (fun H locs hP hD hS => ?_)
                          have hP : va_P (dC, dI) vwCl [(m0, .inr (8, [.int mth, .int mst, .ref mp, .int mln, .ref mk, .int mts, .ref mti, .ref mtw, .ref mi, .int mmn_71, .ref mpo, .int mpd, .ref mpi, .int mpl, .int mcp, .ref mre, .ref mnn, .ref mwo, .ref mga, .ref mlo, .ref mro, .ref mle, .ref mra, .int mme, .ref mha, .int mch, .int mtm, .int mgo, .int mwa, .ref mba, .int mbl, .ref mon])), (mi, .inl (cI, 12, .inl (upd mif_71 mmn_71.toNatClampNeg v145))), (mba, .inl (cI, 12, .inl mbaf))] H := hP
                          have hD : va_D A [(m0, .inr (8, [.int mth, .int mst, .ref mp, .int mln, .ref mk, .int mts, .ref mti, .ref mtw, .ref mi, .int mmn_71, .ref mpo, .int mpd, .ref mpi, .int mpl, .int mcp, .ref mre, .ref mnn, .ref mwo, .ref mga, .ref mlo, .ref mro, .ref mle, .ref mra, .int mme, .ref mha, .int mch, .int mtm, .int mgo, .int mwa, .ref mba, .int mbl, .ref mon])), (mi, .inl (cI, 12, .inl (upd mif_71 mmn_71.toNatClampNeg v145))), (mba, .inl (cI, 12, .inl mbaf))] := hD
                          generalize ef146 : upd mif_71 mmn_71.toNatClampNeg v145 = f146 at hP hD
                          refine lv_aload_n hx hb dX9_change_160 rfl (lv_at hl 4 rfl) ?_
                          refine lv_dup hx hb dX9_change_161 rfl ?_
                          refine va_get (D := (dC, dI)) (ci := 8) (v := .int mmn_71) (C := RX9) (T := TX9) (N := 32) hx hb hts inG_X9 hown hK hP 0 rfl rfl 9 (by decide) (hts _ fl_X9_114) (fun _ h9 => h9) rfl dX9_change_162 ?_
                          refine lv_iconst (v := 1) hx hb dX9_change_165 (by decide) ?_
                          refine lv_iadd hx hb dX9_change_166 ?_
                          refine lv_topi (fun v147 ev147 => ?_)
                          try have hv147 : v147.toInt = mmn_71.toInt + (1 : Int32).toInt := I_addx ev147 (by omega)
                          refine va_put (D := (dC, dI)) (ci := 8) (v := .int v147) (ty := .int) (C := RX9) (T := TX9) (N := 32) hx hb hts inG_X9 tyX9 tyX9_ok nmX9 hown hK hP hD hS 0 rfl rfl 9 (by decide) (hts _ fl_X9_114) (fun _ h9 => h9) rfl (by decide +kernel) rfl rfl (Nat.le_of_ble_eq_true rfl) dX9_change_167 (fun H locs hP hD hS => ?_)
                          have hP : va_P (dC, dI) vwCl [(m0, .inr (8, [.int mth, .int mst, .ref mp, .int mln, .ref mk, .int mts, .ref mti, .ref mtw, .ref mi, .int v147, .ref mpo, .int mpd, .ref mpi, .int mpl, .int mcp, .ref mre, .ref mnn, .ref mwo, .ref mga, .ref mlo, .ref mro, .ref mle, .ref mra, .int mme, .ref mha, .int mch, .int mtm, .int mgo, .int mwa, .ref mba, .int mbl, .ref mon])), (mi, .inl (cI, 12, .inl f146)), (mba, .inl (cI, 12, .inl mbaf))] H := hP
                          have hD : va_D A [(m0, .inr (8, [.int mth, .int mst, .ref mp, .int mln, .ref mk, .int mts, .ref mti, .ref mtw, .ref mi, .int v147, .ref mpo, .int mpd, .ref mpi, .int mpl, .int mcp, .ref mre, .ref mnn, .ref mwo, .ref mga, .ref mlo, .ref mro, .ref mle, .ref mra, .int mme, .ref mha, .int mch, .int mtm, .int mgo, .int mwa, .ref mba, .int mbl, .ref mon])), (mi, .inl (cI, 12, .inl f146)), (mba, .inl (cI, 12, .inl mbaf))] := hD
                          exact J170 v147 f146 (by first | assumption | omega) (by first | assumption | omega) H locs ls hP hD hS hl
                  · have c138' := I_nle c138
                    refine lv_aload_n hx hb dX9_change_92 rfl (lv_at hl 4 rfl) ?_
                    refine va_get (D := (dC, dI)) (ci := 8) (v := .ref mi) (C := RX9) (T := TX9) (N := 32) hx hb hts inG_X9 hown hK hP 0 rfl rfl 8 (by decide) (hts _ fl_X9_22) (fun _ h9 => h9) rfl dX9_change_93 ?_
                    refine lv_aload_n hx hb dX9_change_96 rfl (lv_at hl 4 rfl) ?_
                    refine va_get (D := (dC, dI)) (ci := 8) (v := .int mmn_71) (C := RX9) (T := TX9) (N := 32) hx hb hts inG_X9 hown hK hP 0 rfl rfl 9 (by decide) (hts _ fl_X9_114) (fun _ h9 => h9) rfl dX9_change_97 ?_
                    refine lv_iload hx hb dX9_change_100 (lv_at hl 1 rfl) ?_
                    refine lv_if_eq (tgt := 109) hx hb dX9_change_102 (by decide) (fun c148 => ?_) (fun c148 => ?_)
                    · have c148' := I_eq c148
                      exact absurd c148 (by decide)
                    · have c148' := I_ne c148
                      refine lv_iload_n hx hb dX9_change_105 rfl (lv_at hl 2 rfl) ?_
                      refine lv_goto (tgt := 113) hx hb dX9_change_106 (by decide) ?_
                      refine va_iast (t0 := 0) hx hb hK hP hD hS 1 (ha := rfl) (ht := rfl) (I_in (by omega) (by omega)) dX9_change_113 (fun H locs hP hD hS => ?_)
                      have hP : va_P (dC, dI) vwCl [(m0, .inr (8, [.int mth, .int mst, .ref mp, .int mln, .ref mk, .int mts, .ref mti, .ref mtw, .ref mi, .int mmn_71, .ref mpo, .int mpd, .ref mpi, .int mpl, .int mcp, .ref mre, .ref mnn, .ref mwo, .ref mga, .ref mlo, .ref mro, .ref mle, .ref mra, .int mme, .ref mha, .int mch, .int mtm, .int mgo, .int mwa, .ref mba, .int mbl, .ref mon])), (mi, .inl (cI, 12, .inl (upd mif_71 mmn_71.toNatClampNeg v2))), (mba, .inl (cI, 12, .inl mbaf))] H := hP
                      have hD : va_D A [(m0, .inr (8, [.int mth, .int mst, .ref mp, .int mln, .ref mk, .int mts, .ref mti, .ref mtw, .ref mi, .int mmn_71, .ref mpo, .int mpd, .ref mpi, .int mpl, .int mcp, .ref mre, .ref mnn, .ref mwo, .ref mga, .ref mlo, .ref mro, .ref mle, .ref mra, .int mme, .ref mha, .int mch, .int mtm, .int mgo, .int mwa, .ref mba, .int mbl, .ref mon])), (mi, .inl (cI, 12, .inl (upd mif_71 mmn_71.toNatClampNeg v2))), (mba, .inl (cI, 12, .inl mbaf))] := hD
                      generalize ef149 : upd mif_71 mmn_71.toNatClampNeg v2 = f149 at hP hD
                      refine lv_aload_n hx hb dX9_change_114 rfl (lv_at hl 4 rfl) ?_
                      refine lv_dup hx hb dX9_change_115 rfl ?_
                      refine va_get (D := (dC, dI)) (ci := 8) (v := .int mmn_71) (C := RX9) (T := TX9) (N := 32) hx hb hts inG_X9 hown hK hP 0 rfl rfl 9 (by decide) (hts _ fl_X9_114) (fun _ h9 => h9) rfl dX9_change_116 ?_
                      refine lv_iconst (v := 1) hx hb dX9_change_119 (by decide) ?_
                      refine lv_iadd hx hb dX9_change_120 ?_
                      refine lv_topi (fun v150 ev150 => ?_)
                      try have hv150 : v150.toInt = mmn_71.toInt + (1 : Int32).toInt := I_addx ev150 (by omega)
                      refine va_put (D := (dC, dI)) (ci := 8) (v := .int v150) (ty := .int) (C := RX9) (T := TX9) (N := 32) hx hb hts inG_X9 tyX9 tyX9_ok nmX9 hown hK hP hD hS 0 rfl rfl 9 (by decide) (hts _ fl_X9_114) (fun _ h9 => h9) rfl (by decide +kernel) rfl rfl (Nat.le_of_ble_eq_true rfl) dX9_change_121 (fun H locs hP hD hS => ?_)
                      have hP : va_P (dC, dI) vwCl [(m0, .inr (8, [.int mth, .int mst, .ref mp, .int mln, .ref mk, .int mts, .ref mti, .ref mtw, .ref mi, .int v150, .ref mpo, .int mpd, .ref mpi, .int mpl, .int mcp, .ref mre, .ref mnn, .ref mwo, .ref mga, .ref mlo, .ref mro, .ref mle, .ref mra, .int mme, .ref mha, .int mch, .int mtm, .int mgo, .int mwa, .ref mba, .int mbl, .ref mon])), (mi, .inl (cI, 12, .inl f149)), (mba, .inl (cI, 12, .inl mbaf))] H := hP
                      have hD : va_D A [(m0, .inr (8, [.int mth, .int mst, .ref mp, .int mln, .ref mk, .int mts, .ref mti, .ref mtw, .ref mi, .int v150, .ref mpo, .int mpd, .ref mpi, .int mpl, .int mcp, .ref mre, .ref mnn, .ref mwo, .ref mga, .ref mlo, .ref mro, .ref mle, .ref mra, .int mme, .ref mha, .int mch, .int mtm, .int mgo, .int mwa, .ref mba, .int mbl, .ref mon])), (mi, .inl (cI, 12, .inl f149)), (mba, .inl (cI, 12, .inl mbaf))] := hD
                      refine lv_iload hx hb dX9_change_124 (lv_at hl 0 rfl) ?_
                      refine lv_aload_n hx hb dX9_change_126 rfl (lv_at hl 4 rfl) ?_
                      refine va_get (D := (dC, dI)) (ci := 8) (v := .int mbl) (C := RX9) (T := TX9) (N := 32) hx hb hts inG_X9 hown hK hP 0 rfl rfl 30 (by decide) (hts _ fl_X9_177) (fun _ h9 => h9) rfl dX9_change_127 ?_
                      refine lv_icmp_ge (tgt := 170) hx hb dX9_change_130 (by decide) (fun c151 => ?_) (fun c151 => ?_)
                      · have c151' := I_le c151
                        exact J170 v150 f149 (by first | assumption | omega) (by first | assumption | omega) H locs ls hP hD hS hl
                      · have c151' := I_nle c151
                        refine lv_iload hx hb dX9_change_133 (lv_at hl 0 rfl) ?_
                        refine lv_iload_n hx hb dX9_change_135 rfl (lv_at hl 3 rfl) ?_
                        refine lv_icmp_ne (tgt := 144) hx hb dX9_change_136 (by decide) (fun c152 => ?_) (fun c152 => ?_)
                        · have c152' := I_ne c152
                          refine lv_aload_n hx hb dX9_change_144 rfl (lv_at hl 4 rfl) ?_
                          refine va_get (D := (dC, dI)) (ci := 8) (v := .ref mi) (C := RX9) (T := TX9) (N := 32) hx hb hts inG_X9 hown hK hP 0 rfl rfl 8 (by decide) (hts _ fl_X9_22) (fun _ h9 => h9) rfl dX9_change_145 ?_
                          refine lv_aload_n hx hb dX9_change_148 rfl (lv_at hl 4 rfl) ?_
                          refine va_get (D := (dC, dI)) (ci := 8) (v := .int v150) (C := RX9) (T := TX9) (N := 32) hx hb hts inG_X9 hown hK hP 0 rfl rfl 9 (by decide) (hts _ fl_X9_114) (fun _ h9 => h9) rfl dX9_change_149 ?_
                          refine lv_aload_n hx hb dX9_change_152 rfl (lv_at hl 4 rfl) ?_
                          refine va_get (D := (dC, dI)) (ci := 8) (v := .ref mba) (C := RX9) (T := TX9) (N := 32) hx hb hts inG_X9 hown hK hP 0 rfl rfl 29 (by decide) (hts _ fl_X9_63) (fun _ h9 => h9) rfl dX9_change_153 ?_
                          refine lv_iload hx hb dX9_change_156 (lv_at hl 0 rfl) ?_
                          refine va_iald (t0 := 0) hx hb hK hP 2 (ha := rfl) (ht := rfl) (I_in (by omega) (by omega)) dX9_change_158 ?_
                          refine lv_topi (fun v153 ev153 => ?_)
                          refine va_iast (t0 := 0) hx hb hK hP hD hS 1 (ha := rfl) (ht := rfl) (I_in (by omega) (by omega)) dX9_change_159 (fun H locs hP hD hS => ?_)
                          have hP : va_P (dC, dI) vwCl [(m0, .inr (8, [.int mth, .int mst, .ref mp, .int mln, .ref mk, .int mts, .ref mti, .ref mtw, .ref mi, .int v150, .ref mpo, .int mpd, .ref mpi, .int mpl, .int mcp, .ref mre, .ref mnn, .ref mwo, .ref mga, .ref mlo, .ref mro, .ref mle, .ref mra, .int mme, .ref mha, .int mch, .int mtm, .int mgo, .int mwa, .ref mba, .int mbl, .ref mon])), (mi, .inl (cI, 12, .inl (upd f149 v150.toNatClampNeg v153))), (mba, .inl (cI, 12, .inl mbaf))] H := hP
                          have hD : va_D A [(m0, .inr (8, [.int mth, .int mst, .ref mp, .int mln, .ref mk, .int mts, .ref mti, .ref mtw, .ref mi, .int v150, .ref mpo, .int mpd, .ref mpi, .int mpl, .int mcp, .ref mre, .ref mnn, .ref mwo, .ref mga, .ref mlo, .ref mro, .ref mle, .ref mra, .int mme, .ref mha, .int mch, .int mtm, .int mgo, .int mwa, .ref mba, .int mbl, .ref mon])), (mi, .inl (cI, 12, .inl (upd f149 v150.toNatClampNeg v153))), (mba, .inl (cI, 12, .inl mbaf))] := hD
                          generalize ef154 : upd f149 v150.toNatClampNeg v153 = f154 at hP hD
                          refine lv_aload_n hx hb dX9_change_160 rfl (lv_at hl 4 rfl) ?_
                          refine lv_dup hx hb dX9_change_161 rfl ?_
                          refine va_get (D := (dC, dI)) (ci := 8) (v := .int v150) (C := RX9) (T := TX9) (N := 32) hx hb hts inG_X9 hown hK hP 0 rfl rfl 9 (by decide) (hts _ fl_X9_114) (fun _ h9 => h9) rfl dX9_change_162 ?_
                          refine lv_iconst (v := 1) hx hb dX9_change_165 (by decide) ?_
                          refine lv_iadd hx hb dX9_change_166 ?_
                          refine lv_topi (fun v155 ev155 => ?_)
                          try have hv155 : v155.toInt = v150.toInt + (1 : Int32).toInt := I_addx ev155 (by omega)
                          refine va_put (D := (dC, dI)) (ci := 8) (v := .int v155) (ty := .int) (C := RX9) (T := TX9) (N := 32) hx hb hts inG_X9 tyX9 tyX9_ok nmX9 hown hK hP hD hS 0 rfl rfl 9 (by decide) (hts _ fl_X9_114) (fun _ h9 => h9) rfl (by decide +kernel) rfl rfl (Nat.le_of_ble_eq_true rfl) dX9_change_167 (fun H locs hP hD hS => ?_)
                          have hP : va_P (dC, dI) vwCl [(m0, .inr (8, [.int mth, .int mst, .ref mp, .int mln, .ref mk, .int mts, .ref mti, .ref mtw, .ref mi, .int v155, .ref mpo, .int mpd, .ref mpi, .int mpl, .int mcp, .ref mre, .ref mnn, .ref mwo, .ref mga, .ref mlo, .ref mro, .ref mle, .ref mra, .int mme, .ref mha, .int mch, .int mtm, .int mgo, .int mwa, .ref mba, .int mbl, .ref mon])), (mi, .inl (cI, 12, .inl f154)), (mba, .inl (cI, 12, .inl mbaf))] H := hP
                          have hD : va_D A [(m0, .inr (8, [.int mth, .int mst, .ref mp, .int mln, .ref mk, .int mts, .ref mti, .ref mtw, .ref mi, .int v155, .ref mpo, .int mpd, .ref mpi, .int mpl, .int mcp, .ref mre, .ref mnn, .ref mwo, .ref mga, .ref mlo, .ref mro, .ref mle, .ref mra, .int mme, .ref mha, .int mch, .int mtm, .int mgo, .int mwa, .ref mba, .int mbl, .ref mon])), (mi, .inl (cI, 12, .inl f154)), (mba, .inl (cI, 12, .inl mbaf))] := hD
                          exact J170 v155 f154 (by first | assumption | omega) (by first | assumption | omega) H locs ls hP hD hS hl
                        · have c152' := I_eq c152
                          refine lv_iload hx hb dX9_change_139 (lv_at hl 1 rfl) ?_
                          refine lv_if_eq (tgt := 170) hx hb dX9_change_141 (by decide) (fun c156 => ?_) (fun c156 => ?_)
                          · have c156' := I_eq c156
                            exact absurd c156 (by decide)
                          · have c156' := I_ne c156
                            refine lv_aload_n hx hb dX9_change_144 rfl (lv_at hl 4 rfl) ?_
                            refine va_get (D := (dC, dI)) (ci := 8) (v := .ref mi) (C := RX9) (T := TX9) (N := 32) hx hb hts inG_X9 hown hK hP 0 rfl rfl 8 (by decide) (hts _ fl_X9_22) (fun _ h9 => h9) rfl dX9_change_145 ?_
                            refine lv_aload_n hx hb dX9_change_148 rfl (lv_at hl 4 rfl) ?_
                            refine va_get (D := (dC, dI)) (ci := 8) (v := .int v150) (C := RX9) (T := TX9) (N := 32) hx hb hts inG_X9 hown hK hP 0 rfl rfl 9 (by decide) (hts _ fl_X9_114) (fun _ h9 => h9) rfl dX9_change_149 ?_
                            refine lv_aload_n hx hb dX9_change_152 rfl (lv_at hl 4 rfl) ?_
                            refine va_get (D := (dC, dI)) (ci := 8) (v := .ref mba) (C := RX9) (T := TX9) (N := 32) hx hb hts inG_X9 hown hK hP 0 rfl rfl 29 (by decide) (hts _ fl_X9_63) (fun _ h9 => h9) rfl dX9_change_153 ?_
                            refine lv_iload hx hb dX9_change_156 (lv_at hl 0 rfl) ?_
                            refine va_iald (t0 := 0) hx hb hK hP 2 (ha := rfl) (ht := rfl) (I_in (by omega) (by omega)) dX9_change_158 ?_
                            refine lv_topi (fun v157 ev157 => ?_)
                            refine va_iast (t0 := 0) hx hb hK hP hD hS 1 (ha := rfl) (ht := rfl) (I_in (by omega) (by omega)) dX9_change_159 (fun H locs hP hD hS => ?_)
                            have hP : va_P (dC, dI) vwCl [(m0, .inr (8, [.int mth, .int mst, .ref mp, .int mln, .ref mk, .int mts, .ref mti, .ref mtw, .ref mi, .int v150, .ref mpo, .int mpd, .ref mpi, .int mpl, .int mcp, .ref mre, .ref mnn, .ref mwo, .ref mga, .ref mlo, .ref mro, .ref mle, .ref mra, .int mme, .ref mha, .int mch, .int mtm, .int mgo, .int mwa, .ref mba, .int mbl, .ref mon])), (mi, .inl (cI, 12, .inl (upd f149 v150.toNatClampNeg v157))), (mba, .inl (cI, 12, .inl mbaf))] H := hP
                            have hD : va_D A [(m0, .inr (8, [.int mth, .int mst, .ref mp, .int mln, .ref mk, .int mts, .ref mti, .ref mtw, .ref mi, .int v150, .ref mpo, .int mpd, .ref mpi, .int mpl, .int mcp, .ref mre, .ref mnn, .ref mwo, .ref mga, .ref mlo, .ref mro, .ref mle, .ref mra, .int mme, .ref mha, .int mch, .int mtm, .int mgo, .int mwa, .ref mba, .int mbl, .ref mon])), (mi, .inl (cI, 12, .inl (upd f149 v150.toNatClampNeg v157))), (mba, .inl (cI, 12, .inl mbaf))] := hD
                            generalize ef158 : upd f149 v150.toNatClampNeg v157 = f158 at hP hD
                            refine lv_aload_n hx hb dX9_change_160 rfl (lv_at hl 4 rfl) ?_
                            refine lv_dup hx hb dX9_change_161 rfl ?_
                            refine va_get (D := (dC, dI)) (ci := 8) (v := .int v150) (C := RX9) (T := TX9) (N := 32) hx hb hts inG_X9 hown hK hP 0 rfl rfl 9 (by decide) (hts _ fl_X9_114) (fun _ h9 => h9) rfl dX9_change_162 ?_
                            refine lv_iconst (v := 1) hx hb dX9_change_165 (by decide) ?_
                            refine lv_iadd hx hb dX9_change_166 ?_
                            refine lv_topi (fun v159 ev159 => ?_)
                            try have hv159 : v159.toInt = v150.toInt + (1 : Int32).toInt := I_addx ev159 (by omega)
                            refine va_put (D := (dC, dI)) (ci := 8) (v := .int v159) (ty := .int) (C := RX9) (T := TX9) (N := 32) hx hb hts inG_X9 tyX9 tyX9_ok nmX9 hown hK hP hD hS 0 rfl rfl 9 (by decide) (hts _ fl_X9_114) (fun _ h9 => h9) rfl (by decide +kernel) rfl rfl (Nat.le_of_ble_eq_true rfl) dX9_change_167 (fun H locs hP hD hS => ?_)
                            have hP : va_P (dC, dI) vwCl [(m0, .inr (8, [.int mth, .int mst, .ref mp, .int mln, .ref mk, .int mts, .ref mti, .ref mtw, .ref mi, .int v159, .ref mpo, .int mpd, .ref mpi, .int mpl, .int mcp, .ref mre, .ref mnn, .ref mwo, .ref mga, .ref mlo, .ref mro, .ref mle, .ref mra, .int mme, .ref mha, .int mch, .int mtm, .int mgo, .int mwa, .ref mba, .int mbl, .ref mon])), (mi, .inl (cI, 12, .inl f158)), (mba, .inl (cI, 12, .inl mbaf))] H := hP
                            have hD : va_D A [(m0, .inr (8, [.int mth, .int mst, .ref mp, .int mln, .ref mk, .int mts, .ref mti, .ref mtw, .ref mi, .int v159, .ref mpo, .int mpd, .ref mpi, .int mpl, .int mcp, .ref mre, .ref mnn, .ref mwo, .ref mga, .ref mlo, .ref mro, .ref mle, .ref mra, .int mme, .ref mha, .int mch, .int mtm, .int mgo, .int mwa, .ref mba, .int mbl, .ref mon])), (mi, .inl (cI, 12, .inl f158)), (mba, .inl (cI, 12, .inl mbaf))] := hD
                            exact J170 v159 f158 (by first | assumption | omega) (by first | assumption | omega) H locs ls hP hD hS hl
          exact J71 ((mbl.toInt + 1 - (0 : Int32).toInt).toNat + 1) 0 0 mif (by first | assumption | omega) (by first | assumption | omega) (by first | assumption | omega) (by omega) H locs ls hP hD hS hl
        · have c125' := I_nle c125
          refine lv_aload_n hx hb dX9_change_48 rfl (lv_at hl 3 rfl) ?_
          refine va_get (D := (dC, dI)) (ci := 8) (v := .ref mba) (C := RX9) (T := TX9) (N := 32) hx hb hts inG_X9 hown hK hP 0 rfl rfl 29 (by decide) (hts _ fl_X9_63) (fun _ h9 => h9) rfl dX9_change_49 ?_
          refine lv_iload_n hx hb dX9_change_52 rfl (lv_at hl 2 rfl) ?_
          refine va_iald (t0 := 0) hx hb hK hP 2 (ha := rfl) (ht := rfl) (I_in (by omega) (by omega)) dX9_change_53 ?_
          refine lv_topi (fun v160 ev160 => ?_)
          refine lv_iload_n hx hb dX9_change_54 rfl (lv_at hl 1 rfl) ?_
          refine lv_bipush (v := 28) hx hb dX9_change_55 (by decide) ?_
          refine lv_isub hx hb dX9_change_57 ?_
          refine lv_topi (fun v161 ev161 => ?_)
          try have hv161 : v161.toInt = v2.toInt - (28 : Int32).toInt := I_subx ev161 (by omega)
          refine lv_icmp_ne (tgt := 63) hx hb dX9_change_58 (by decide) (fun c162 => ?_) (fun c162 => ?_)
          · have c162' := I_ne c162
            refine lv_aload_n hx hb dX9_change_63 rfl (lv_at hl 3 rfl) ?_
            refine lv_iconst (v := 0) hx hb dX9_change_64 (by decide) ?_
            refine va_put (D := (dC, dI)) (ci := 8) (v := .int 0) (ty := .int) (C := RX9) (T := TX9) (N := 32) hx hb hts inG_X9 tyX9 tyX9_ok nmX9 hown hK hP hD hS 0 rfl rfl 9 (by decide) (hts _ fl_X9_114) (fun _ h9 => h9) rfl (by decide +kernel) rfl rfl (Nat.le_of_ble_eq_true rfl) dX9_change_65 (fun H locs hP hD hS => ?_)
            have hP : va_P (dC, dI) vwCl [(m0, .inr (8, [.int mth, .int mst, .ref mp, .int mln, .ref mk, .int mts, .ref mti, .ref mtw, .ref mi, .int 0, .ref mpo, .int mpd, .ref mpi, .int mpl, .int mcp, .ref mre, .ref mnn, .ref mwo, .ref mga, .ref mlo, .ref mro, .ref mle, .ref mra, .int mme, .ref mha, .int mch, .int mtm, .int mgo, .int mwa, .ref mba, .int mbl, .ref mon])), (mi, .inl (cI, 12, .inl mif)), (mba, .inl (cI, 12, .inl mbaf))] H := hP
            have hD : va_D A [(m0, .inr (8, [.int mth, .int mst, .ref mp, .int mln, .ref mk, .int mts, .ref mti, .ref mtw, .ref mi, .int 0, .ref mpo, .int mpd, .ref mpi, .int mpl, .int mcp, .ref mre, .ref mnn, .ref mwo, .ref mga, .ref mlo, .ref mro, .ref mle, .ref mra, .int mme, .ref mha, .int mch, .int mtm, .int mgo, .int mwa, .ref mba, .int mbl, .ref mon])), (mi, .inl (cI, 12, .inl mif)), (mba, .inl (cI, 12, .inl mbaf))] := hD
            refine lv_iconst (v := 0) hx hb dX9_change_68 (by decide) ?_
            refine lv_istore (lv' := [(5, .int 0), (4, .int 1), (3, .int v2), (2, .int v1), (0, .ref m0), (1, .int x)]) hx hb dX9_change_69 hl (by decide) rfl (fun ls hl => ?_)
            have J71 : ∀ (n : Nat) (L5_71 : Int32) (mmn_71 : Int32) (mif_71 : Nat → Int32), (0 ≤ mmn_71.toInt ∧ mmn_71.toInt ≤ L5_71.toInt + 1 ∧ mmn_71.toInt ≤ mbl.toInt + 1) → (v1.toInt < L5_71.toInt ∨ mmn_71.toInt ≤ L5_71.toInt) → (0 ≤ L5_71.toInt ∧ L5_71.toInt ≤ mbl.toInt + 1) → (mbl.toInt + 1 - L5_71.toInt) < (n : Int) → ∀ (H : Heap) (locs : List Loc) (ls : Array Slot), va_P (dC, dI) vwCl [(m0, .inr (8, [.int mth, .int mst, .ref mp, .int mln, .ref mk, .int mts, .ref mti, .ref mtw, .ref mi, .int mmn_71, .ref mpo, .int mpd, .ref mpi, .int mpl, .int mcp, .ref mre, .ref mnn, .ref mwo, .ref mga, .ref mlo, .ref mro, .ref mle, .ref mra, .int mme, .ref mha, .int mch, .int mtm, .int mgo, .int mwa, .ref mba, .int mbl, .ref mon])), (mi, .inl (cI, 12, .inl mif_71)), (mba, .inl (cI, 12, .inl mbaf))] H → va_D A [(m0, .inr (8, [.int mth, .int mst, .ref mp, .int mln, .ref mk, .int mts, .ref mti, .ref mtw, .ref mi, .int mmn_71, .ref mpo, .int mpd, .ref mpi, .int mpl, .int mcp, .ref mre, .ref mnn, .ref mwo, .ref mga, .ref mlo, .ref mro, .ref mle, .ref mra, .int mme, .ref mha, .int mch, .int mtm, .int mgo, .int mwa, .ref mba, .int mbl, .ref mon])), (mi, .inl (cI, 12, .inl mif_71)), (mba, .inl (cI, 12, .inl mbaf))] → va_S A s.heap H locs → lv_has ls 6 [(5, .int L5_71), (4, .int 1), (3, .int v2), (2, .int v1), (0, .ref m0), (1, .int x)] → W p l e { frames := 0, cells := 0, slots := 0, locals := 0 } s m (List.toArray [.ref m0, .int x]) below meth c H locs 0 0 Q (F0 m 71 ls []) := by
              intro n
              induction n with
              | zero =>
                intro L5_71 mmn_71 mif_71 hi0_71 hi1_71 hi2_71 hm
                exact absurd hm (by omega)
              | succ n ih71 =>
                intro L5_71 mmn_71 mif_71 hi0_71 hi1_71 hi2_71 hm71 H locs ls hP hD hS hl
                refine lv_iload hx hb dX9_change_71 (lv_at hl 0 rfl) ?_
                refine lv_aload_n hx hb dX9_change_73 rfl (lv_at hl 4 rfl) ?_
                refine va_get (D := (dC, dI)) (ci := 8) (v := .int mbl) (C := RX9) (T := TX9) (N := 32) hx hb hts inG_X9 hown hK hP 0 rfl rfl 30 (by decide) (hts _ fl_X9_177) (fun _ h9 => h9) rfl dX9_change_74 ?_
                refine lv_icmp_gt (tgt := 176) hx hb dX9_change_77 (by decide) (fun c163 => ?_) (fun c163 => ?_)
                · have c163' := I_lt c163
                  refine lv_iconst (v := 1) hx hb dX9_change_176 (by decide) ?_
                  exact hret 1 (mmn_71, mif_71) H locs 177 ls (by first | rfl | exact I_narz (by omega)) ⟨(show (1 : Int32).toInt = 0 ∨ (1 : Int32).toInt = 1 from by first | rfl | assumption | omega), (show 0 ≤ mmn_71.toInt ∧ mmn_71.toInt ≤ 12 from by first | rfl | assumption | omega), (show (1 : Int32).toInt = 0 ∨ mmn_71.toInt ≤ mbl.toInt + 1 from by first | rfl | assumption | omega), trivial⟩ hP hD hS dX9_change_177
                · have c163' := I_nlt c163
                  have J170 : ∀ (mmn_170 : Int32) (mif_170 : Nat → Int32), (0 ≤ mmn_170.toInt ∧ mmn_170.toInt ≤ L5_71.toInt + 2 ∧ mmn_170.toInt ≤ mbl.toInt + 1) → (v1.toInt < L5_71.toInt + 1 ∨ mmn_170.toInt ≤ L5_71.toInt + 1) → ∀ (H : Heap) (locs : List Loc) (ls : Array Slot), va_P (dC, dI) vwCl [(m0, .inr (8, [.int mth, .int mst, .ref mp, .int mln, .ref mk, .int mts, .ref mti, .ref mtw, .ref mi, .int mmn_170, .ref mpo, .int mpd, .ref mpi, .int mpl, .int mcp, .ref mre, .ref mnn, .ref mwo, .ref mga, .ref mlo, .ref mro, .ref mle, .ref mra, .int mme, .ref mha, .int mch, .int mtm, .int mgo, .int mwa, .ref mba, .int mbl, .ref mon])), (mi, .inl (cI, 12, .inl mif_170)), (mba, .inl (cI, 12, .inl mbaf))] H → va_D A [(m0, .inr (8, [.int mth, .int mst, .ref mp, .int mln, .ref mk, .int mts, .ref mti, .ref mtw, .ref mi, .int mmn_170, .ref mpo, .int mpd, .ref mpi, .int mpl, .int mcp, .ref mre, .ref mnn, .ref mwo, .ref mga, .ref mlo, .ref mro, .ref mle, .ref mra, .int mme, .ref mha, .int mch, .int mtm, .int mgo, .int mwa, .ref mba, .int mbl, .ref mon])), (mi, .inl (cI, 12, .inl mif_170)), (mba, .inl (cI, 12, .inl mbaf))] → va_S A s.heap H locs → lv_has ls 6 [(5, .int L5_71), (4, .int 1), (3, .int v2), (2, .int v1), (0, .ref m0), (1, .int x)] → W p l e { frames := 0, cells := 0, slots := 0, locals := 0 } s m (List.toArray [.ref m0, .int x]) below meth c H locs 0 0 Q (F0 m 170 ls []) := by
                    intro mmn_170 mif_170 hi0_170 hi1_170 H locs ls hP hD hS hl
                    obtain ⟨v164, ev164⟩ : ∃ y : Int32, y = L5_71 + 1 := ⟨_, rfl⟩
                    try have hv164 : v164.toInt = L5_71.toInt + (1 : Int32).toInt := I_addx ev164 (by omega)
                    refine lv_iinc (v := v164) (lv' := [(5, .int v164), (4, .int 1), (3, .int v2), (2, .int v1), (0, .ref m0), (1, .int x)]) hx hb dX9_change_170 hl (k := 0) rfl (by rw [ev164]; rfl) (by decide) rfl (fun ls hl => ?_)
                    refine lv_goto (tgt := 71) hx hb dX9_change_173 (by decide) ?_
                    exact ih71 v164 mmn_170 mif_170 (by first | assumption | omega) (by first | assumption | omega) (by first | assumption | omega) (by omega) H locs ls hP hD hS hl
                  refine lv_iload hx hb dX9_change_80 (lv_at hl 0 rfl) ?_
                  refine lv_iload_n hx hb dX9_change_82 rfl (lv_at hl 3 rfl) ?_
                  refine lv_icmp_ne (tgt := 124) hx hb dX9_change_83 (by decide) (fun c165 => ?_) (fun c165 => ?_)
                  · have c165' := I_ne c165
                    refine lv_iload hx hb dX9_change_124 (lv_at hl 0 rfl) ?_
                    refine lv_aload_n hx hb dX9_change_126 rfl (lv_at hl 4 rfl) ?_
                    refine va_get (D := (dC, dI)) (ci := 8) (v := .int mbl) (C := RX9) (T := TX9) (N := 32) hx hb hts inG_X9 hown hK hP 0 rfl rfl 30 (by decide) (hts _ fl_X9_177) (fun _ h9 => h9) rfl dX9_change_127 ?_
                    refine lv_icmp_ge (tgt := 170) hx hb dX9_change_130 (by decide) (fun c166 => ?_) (fun c166 => ?_)
                    · have c166' := I_le c166
                      exact J170 mmn_71 mif_71 (by first | assumption | omega) (by first | assumption | omega) H locs ls hP hD hS hl
                    · have c166' := I_nle c166
                      refine lv_iload hx hb dX9_change_133 (lv_at hl 0 rfl) ?_
                      refine lv_iload_n hx hb dX9_change_135 rfl (lv_at hl 3 rfl) ?_
                      refine lv_icmp_ne (tgt := 144) hx hb dX9_change_136 (by decide) (fun c167 => ?_) (fun c167 => ?_)
                      · have c167' := I_ne c167
                        refine lv_aload_n hx hb dX9_change_144 rfl (lv_at hl 4 rfl) ?_
                        refine va_get (D := (dC, dI)) (ci := 8) (v := .ref mi) (C := RX9) (T := TX9) (N := 32) hx hb hts inG_X9 hown hK hP 0 rfl rfl 8 (by decide) (hts _ fl_X9_22) (fun _ h9 => h9) rfl dX9_change_145 ?_
                        refine lv_aload_n hx hb dX9_change_148 rfl (lv_at hl 4 rfl) ?_
                        refine va_get (D := (dC, dI)) (ci := 8) (v := .int mmn_71) (C := RX9) (T := TX9) (N := 32) hx hb hts inG_X9 hown hK hP 0 rfl rfl 9 (by decide) (hts _ fl_X9_114) (fun _ h9 => h9) rfl dX9_change_149 ?_
                        refine lv_aload_n hx hb dX9_change_152 rfl (lv_at hl 4 rfl) ?_
                        refine va_get (D := (dC, dI)) (ci := 8) (v := .ref mba) (C := RX9) (T := TX9) (N := 32) hx hb hts inG_X9 hown hK hP 0 rfl rfl 29 (by decide) (hts _ fl_X9_63) (fun _ h9 => h9) rfl dX9_change_153 ?_
                        refine lv_iload hx hb dX9_change_156 (lv_at hl 0 rfl) ?_
                        refine va_iald (t0 := 0) hx hb hK hP 2 (ha := rfl) (ht := rfl) (I_in (by omega) (by omega)) dX9_change_158 ?_
                        refine lv_topi (fun v168 ev168 => ?_)
                        refine va_iast (t0 := 0) hx hb hK hP hD hS 1 (ha := rfl) (ht := rfl) (I_in (by omega) (by omega)) dX9_change_159 (fun H locs hP hD hS => ?_)
                        have hP : va_P (dC, dI) vwCl [(m0, .inr (8, [.int mth, .int mst, .ref mp, .int mln, .ref mk, .int mts, .ref mti, .ref mtw, .ref mi, .int mmn_71, .ref mpo, .int mpd, .ref mpi, .int mpl, .int mcp, .ref mre, .ref mnn, .ref mwo, .ref mga, .ref mlo, .ref mro, .ref mle, .ref mra, .int mme, .ref mha, .int mch, .int mtm, .int mgo, .int mwa, .ref mba, .int mbl, .ref mon])), (mi, .inl (cI, 12, .inl (upd mif_71 mmn_71.toNatClampNeg v168))), (mba, .inl (cI, 12, .inl mbaf))] H := hP
                        have hD : va_D A [(m0, .inr (8, [.int mth, .int mst, .ref mp, .int mln, .ref mk, .int mts, .ref mti, .ref mtw, .ref mi, .int mmn_71, .ref mpo, .int mpd, .ref mpi, .int mpl, .int mcp, .ref mre, .ref mnn, .ref mwo, .ref mga, .ref mlo, .ref mro, .ref mle, .ref mra, .int mme, .ref mha, .int mch, .int mtm, .int mgo, .int mwa, .ref mba, .int mbl, .ref mon])), (mi, .inl (cI, 12, .inl (upd mif_71 mmn_71.toNatClampNeg v168))), (mba, .inl (cI, 12, .inl mbaf))] := hD
                        generalize ef169 : upd mif_71 mmn_71.toNatClampNeg v168 = f169 at hP hD
                        refine lv_aload_n hx hb dX9_change_160 rfl (lv_at hl 4 rfl) ?_
                        refine lv_dup hx hb dX9_change_161 rfl ?_
                        refine va_get (D := (dC, dI)) (ci := 8) (v := .int mmn_71) (C := RX9) (T := TX9) (N := 32) hx hb hts inG_X9 hown hK hP 0 rfl rfl 9 (by decide) (hts _ fl_X9_114) (fun _ h9 => h9) rfl dX9_change_162 ?_
                        refine lv_iconst (v := 1) hx hb dX9_change_165 (by decide) ?_
                        refine lv_iadd hx hb dX9_change_166 ?_
                        refine lv_topi (fun v170 ev170 => ?_)
                        try have hv170 : v170.toInt = mmn_71.toInt + (1 : Int32).toInt := I_addx ev170 (by omega)
                        refine va_put (D := (dC, dI)) (ci := 8) (v := .int v170) (ty := .int) (C := RX9) (T := TX9) (N := 32) hx hb hts inG_X9 tyX9 tyX9_ok nmX9 hown hK hP hD hS 0 rfl rfl 9 (by decide) (hts _ fl_X9_114) (fun _ h9 => h9) rfl (by decide +kernel) rfl rfl (Nat.le_of_ble_eq_true rfl) dX9_change_167 (fun H locs hP hD hS => ?_)
                        have hP : va_P (dC, dI) vwCl [(m0, .inr (8, [.int mth, .int mst, .ref mp, .int mln, .ref mk, .int mts, .ref mti, .ref mtw, .ref mi, .int v170, .ref mpo, .int mpd, .ref mpi, .int mpl, .int mcp, .ref mre, .ref mnn, .ref mwo, .ref mga, .ref mlo, .ref mro, .ref mle, .ref mra, .int mme, .ref mha, .int mch, .int mtm, .int mgo, .int mwa, .ref mba, .int mbl, .ref mon])), (mi, .inl (cI, 12, .inl f169)), (mba, .inl (cI, 12, .inl mbaf))] H := hP
                        have hD : va_D A [(m0, .inr (8, [.int mth, .int mst, .ref mp, .int mln, .ref mk, .int mts, .ref mti, .ref mtw, .ref mi, .int v170, .ref mpo, .int mpd, .ref mpi, .int mpl, .int mcp, .ref mre, .ref mnn, .ref mwo, .ref mga, .ref mlo, .ref mro, .ref mle, .ref mra, .int mme, .ref mha, .int mch, .int mtm, .int mgo, .int mwa, .ref mba, .int mbl, .ref mon])), (mi, .inl (cI, 12, .inl f169)), (mba, .inl (cI, 12, .inl mbaf))] := hD
                        exact J170 v170 f169 (by first | assumption | omega) (by first | assumption | omega) H locs ls hP hD hS hl
                      · have c167' := I_eq c167
                        refine lv_iload hx hb dX9_change_139 (lv_at hl 1 rfl) ?_
                        refine lv_if_eq (tgt := 170) hx hb dX9_change_141 (by decide) (fun c171 => ?_) (fun c171 => ?_)
                        · have c171' := I_eq c171
                          exact absurd c171 (by decide)
                        · have c171' := I_ne c171
                          refine lv_aload_n hx hb dX9_change_144 rfl (lv_at hl 4 rfl) ?_
                          refine va_get (D := (dC, dI)) (ci := 8) (v := .ref mi) (C := RX9) (T := TX9) (N := 32) hx hb hts inG_X9 hown hK hP 0 rfl rfl 8 (by decide) (hts _ fl_X9_22) (fun _ h9 => h9) rfl dX9_change_145 ?_
                          refine lv_aload_n hx hb dX9_change_148 rfl (lv_at hl 4 rfl) ?_
                          refine va_get (D := (dC, dI)) (ci := 8) (v := .int mmn_71) (C := RX9) (T := TX9) (N := 32) hx hb hts inG_X9 hown hK hP 0 rfl rfl 9 (by decide) (hts _ fl_X9_114) (fun _ h9 => h9) rfl dX9_change_149 ?_
                          refine lv_aload_n hx hb dX9_change_152 rfl (lv_at hl 4 rfl) ?_
                          refine va_get (D := (dC, dI)) (ci := 8) (v := .ref mba) (C := RX9) (T := TX9) (N := 32) hx hb hts inG_X9 hown hK hP 0 rfl rfl 29 (by decide) (hts _ fl_X9_63) (fun _ h9 => h9) rfl dX9_change_153 ?_
                          refine lv_iload hx hb dX9_change_156 (lv_at hl 0 rfl) ?_
                          refine va_iald (t0 := 0) hx hb hK hP 2 (ha := rfl) (ht := rfl) (I_in (by omega) (by omega)) dX9_change_158 ?_
                          refine lv_topi (fun v172 ev172 => ?_)
                          refine va_iast (t0 := 0) hx hb hK hP hD hS 1 (ha := rfl) (ht := rfl) (I_in (by omega) (by omega)) dX9_change_159 (fun H locs hP hD hS => ?_)
                          have hP : va_P (dC, dI) vwCl [(m0, .inr (8, [.int mth, .int mst, .ref mp, .int mln, .ref mk, .int mts, .ref mti, .ref mtw, .ref mi, .int mmn_71, .ref mpo, .int mpd, .ref mpi, .int mpl, .int mcp, .ref mre, .ref mnn, .ref mwo, .ref mga, .ref mlo, .ref mro, .ref mle, .ref mra, .int mme, .ref mha, .int mch, .int mtm, .int mgo, .int mwa, .ref mba, .int mbl, .ref mon])), (mi, .inl (cI, 12, .inl (upd mif_71 mmn_71.toNatClampNeg v172))), (mba, .inl (cI, 12, .inl mbaf))] H := hP
                          have hD : va_D A [(m0, .inr (8, [.int mth, .int mst, .ref mp, .int mln, .ref mk, .int mts, .ref mti, .ref mtw, .ref mi, .int mmn_71, .ref mpo, .int mpd, .ref mpi, .int mpl, .int mcp, .ref mre, .ref mnn, .ref mwo, .ref mga, .ref mlo, .ref mro, .ref mle, .ref mra, .int mme, .ref mha, .int mch, .int mtm, .int mgo, .int mwa, .ref mba, .int mbl, .ref mon])), (mi, .inl (cI, 12, .inl (upd mif_71 mmn_71.toNatClampNeg v172))), (mba, .inl (cI, 12, .inl mbaf))] := hD
                          generalize ef173 : upd mif_71 mmn_71.toNatClampNeg v172 = f173 at hP hD
                          refine lv_aload_n hx hb dX9_change_160 rfl (lv_at hl 4 rfl) ?_
                          refine lv_dup hx hb dX9_change_161 rfl ?_
                          refine va_get (D := (dC, dI)) (ci := 8) (v := .int mmn_71) (C := RX9) (T := TX9) (N := 32) hx hb hts inG_X9 hown hK hP 0 rfl rfl 9 (by decide) (hts _ fl_X9_114) (fun _ h9 => h9) rfl dX9_change_162 ?_
                          refine lv_iconst (v := 1) hx hb dX9_change_165 (by decide) ?_
                          refine lv_iadd hx hb dX9_change_166 ?_
                          refine lv_topi (fun v174 ev174 => ?_)
                          try have hv174 : v174.toInt = mmn_71.toInt + (1 : Int32).toInt := I_addx ev174 (by omega)
                          refine va_put (D := (dC, dI)) (ci := 8) (v := .int v174) (ty := .int) (C := RX9) (T := TX9) (N := 32) hx hb hts inG_X9 tyX9 tyX9_ok nmX9 hown hK hP hD hS 0 rfl rfl 9 (by decide) (hts _ fl_X9_114) (fun _ h9 => h9) rfl (by decide +kernel) rfl rfl (Nat.le_of_ble_eq_true rfl) dX9_change_167 (fun H locs hP hD hS => ?_)
                          have hP : va_P (dC, dI) vwCl [(m0, .inr (8, [.int mth, .int mst, .ref mp, .int mln, .ref mk, .int mts, .ref mti, .ref mtw, .ref mi, .int v174, .ref mpo, .int mpd, .ref mpi, .int mpl, .int mcp, .ref mre, .ref mnn, .ref mwo, .ref mga, .ref mlo, .ref mro, .ref mle, .ref mra, .int mme, .ref mha, .int mch, .int mtm, .int mgo, .int mwa, .ref mba, .int mbl, .ref mon])), (mi, .inl (cI, 12, .inl f173)), (mba, .inl (cI, 12, .inl mbaf))] H := hP
                          have hD : va_D A [(m0, .inr (8, [.int mth, .int mst, .ref mp, .int mln, .ref mk, .int mts, .ref mti, .ref mtw, .ref mi, .int v174, .ref mpo, .int mpd, .ref mpi, .int mpl, .int mcp, .ref mre, .ref mnn, .ref mwo, .ref mga, .ref mlo, .ref mro, .ref mle, .ref mra, .int mme, .ref mha, .int mch, .int mtm, .int mgo, .int mwa, .ref mba, .int mbl, .ref mon])), (mi, .inl (cI, 12, .inl f173)), (mba, .inl (cI, 12, .inl mbaf))] := hD
                          exact J170 v174 f173 (by first | assumption | omega) (by first | assumption | omega) H locs ls hP hD hS hl
                  · have c165' := I_eq c165
                    refine lv_iload_n hx hb dX9_change_86 rfl (lv_at hl 2 rfl) ?_
                    refine lv_bipush (v := 56) hx hb dX9_change_87 (by decide) ?_
                    refine lv_icmp_ge (tgt := 124) hx hb dX9_change_89 (by decide) (fun c175 => ?_) (fun c175 => ?_)
                    · have c175' := I_le c175
                      refine lv_iload hx hb dX9_change_124 (lv_at hl 0 rfl) ?_
                      refine lv_aload_n hx hb dX9_change_126 rfl (lv_at hl 4 rfl) ?_
                      refine va_get (D := (dC, dI)) (ci := 8) (v := .int mbl) (C := RX9) (T := TX9) (N := 32) hx hb hts inG_X9 hown hK hP 0 rfl rfl 30 (by decide) (hts _ fl_X9_177) (fun _ h9 => h9) rfl dX9_change_127 ?_
                      refine lv_icmp_ge (tgt := 170) hx hb dX9_change_130 (by decide) (fun c176 => ?_) (fun c176 => ?_)
                      · have c176' := I_le c176
                        exact J170 mmn_71 mif_71 (by first | assumption | omega) (by first | assumption | omega) H locs ls hP hD hS hl
                      · have c176' := I_nle c176
                        refine lv_iload hx hb dX9_change_133 (lv_at hl 0 rfl) ?_
                        refine lv_iload_n hx hb dX9_change_135 rfl (lv_at hl 3 rfl) ?_
                        refine lv_icmp_ne (tgt := 144) hx hb dX9_change_136 (by decide) (fun c177 => ?_) (fun c177 => ?_)
                        · have c177' := I_ne c177
                          refine lv_aload_n hx hb dX9_change_144 rfl (lv_at hl 4 rfl) ?_
                          refine va_get (D := (dC, dI)) (ci := 8) (v := .ref mi) (C := RX9) (T := TX9) (N := 32) hx hb hts inG_X9 hown hK hP 0 rfl rfl 8 (by decide) (hts _ fl_X9_22) (fun _ h9 => h9) rfl dX9_change_145 ?_
                          refine lv_aload_n hx hb dX9_change_148 rfl (lv_at hl 4 rfl) ?_
                          refine va_get (D := (dC, dI)) (ci := 8) (v := .int mmn_71) (C := RX9) (T := TX9) (N := 32) hx hb hts inG_X9 hown hK hP 0 rfl rfl 9 (by decide) (hts _ fl_X9_114) (fun _ h9 => h9) rfl dX9_change_149 ?_
                          refine lv_aload_n hx hb dX9_change_152 rfl (lv_at hl 4 rfl) ?_
                          refine va_get (D := (dC, dI)) (ci := 8) (v := .ref mba) (C := RX9) (T := TX9) (N := 32) hx hb hts inG_X9 hown hK hP 0 rfl rfl 29 (by decide) (hts _ fl_X9_63) (fun _ h9 => h9) rfl dX9_change_153 ?_
                          refine lv_iload hx hb dX9_change_156 (lv_at hl 0 rfl) ?_
                          refine va_iald (t0 := 0) hx hb hK hP 2 (ha := rfl) (ht := rfl) (I_in (by omega) (by omega)) dX9_change_158 ?_
                          refine lv_topi (fun v178 ev178 => ?_)
                          refine va_iast (t0 := 0) hx hb hK hP hD hS 1 (ha := rfl) (ht := rfl) (I_in (by omega) (by omega)) dX9_change_159 (fun H locs hP hD hS => ?_)
                          have hP : va_P (dC, dI) vwCl [(m0, .inr (8, [.int mth, .int mst, .ref mp, .int mln, .ref mk, .int mts, .ref mti, .ref mtw, .ref mi, .int mmn_71, .ref mpo, .int mpd, .ref mpi, .int mpl, .int mcp, .ref mre, .ref mnn, .ref mwo, .ref mga, .ref mlo, .ref mro, .ref mle, .ref mra, .int mme, .ref mha, .int mch, .int mtm, .int mgo, .int mwa, .ref mba, .int mbl, .ref mon])), (mi, .inl (cI, 12, .inl (upd mif_71 mmn_71.toNatClampNeg v178))), (mba, .inl (cI, 12, .inl mbaf))] H := hP
                          have hD : va_D A [(m0, .inr (8, [.int mth, .int mst, .ref mp, .int mln, .ref mk, .int mts, .ref mti, .ref mtw, .ref mi, .int mmn_71, .ref mpo, .int mpd, .ref mpi, .int mpl, .int mcp, .ref mre, .ref mnn, .ref mwo, .ref mga, .ref mlo, .ref mro, .ref mle, .ref mra, .int mme, .ref mha, .int mch, .int mtm, .int mgo, .int mwa, .ref mba, .int mbl, .ref mon])), (mi, .inl (cI, 12, .inl (upd mif_71 mmn_71.toNatClampNeg v178))), (mba, .inl (cI, 12, .inl mbaf))] := hD
                          generalize ef179 : upd mif_71 mmn_71.toNatClampNeg v178 = f179 at hP hD
                          refine lv_aload_n hx hb dX9_change_160 rfl (lv_at hl 4 rfl) ?_
                          refine lv_dup hx hb dX9_change_161 rfl ?_
                          refine va_get (D := (dC, dI)) (ci := 8) (v := .int mmn_71) (C := RX9) (T := TX9) (N := 32) hx hb hts inG_X9 hown hK hP 0 rfl rfl 9 (by decide) (hts _ fl_X9_114) (fun _ h9 => h9) rfl dX9_change_162 ?_
                          refine lv_iconst (v := 1) hx hb dX9_change_165 (by decide) ?_
                          refine lv_iadd hx hb dX9_change_166 ?_
                          refine lv_topi (fun v180 ev180 => ?_)
                          try have hv180 : v180.toInt = mmn_71.toInt + (1 : Int32).toInt := I_addx ev180 (by omega)
                          refine va_put (D := (dC, dI)) (ci := 8) (v := .int v180) (ty := .int) (C := RX9) (T := TX9) (N := 32) hx hb hts inG_X9 tyX9 tyX9_ok nmX9 hown hK hP hD hS 0 rfl rfl 9 (by decide) (hts _ fl_X9_114) (fun _ h9 => h9) rfl (by decide +kernel) rfl rfl (Nat.le_of_ble_eq_true rfl) dX9_change_167 (fun H locs hP hD hS => ?_)
                          have hP : va_P (dC, dI) vwCl [(m0, .inr (8, [.int mth, .int mst, .ref mp, .int mln, .ref mk, .int mts, .ref mti, .ref mtw, .ref mi, .int v180, .ref mpo, .int mpd, .ref mpi, .int mpl, .int mcp, .ref mre, .ref mnn, .ref mwo, .ref mga, .ref mlo, .ref mro, .ref mle, .ref mra, .int mme, .ref mha, .int mch, .int mtm, .int mgo, .int mwa, .ref mba, .int mbl, .ref mon])), (mi, .inl (cI, 12, .inl f179)), (mba, .inl (cI, 12, .inl mbaf))] H := hP
                          have hD : va_D A [(m0, .inr (8, [.int mth, .int mst, .ref mp, .int mln, .ref mk, .int mts, .ref mti, .ref mtw, .ref mi, .int v180, .ref mpo, .int mpd, .ref mpi, .int mpl, .int mcp, .ref mre, .ref mnn, .ref mwo, .ref mga, .ref mlo, .ref mro, .ref mle, .ref mra, .int mme, .ref mha, .int mch, .int mtm, .int mgo, .int mwa, .ref mba, .int mbl, .ref mon])), (mi, .inl (cI, 12, .inl f179)), (mba, .inl (cI, 12, .inl mbaf))] := hD
                          exact J170 v180 f179 (by first | assumption | omega) (by first | assumption | omega) H locs ls hP hD hS hl
                        · have c177' := I_eq c177
                          refine lv_iload hx hb dX9_change_139 (lv_at hl 1 rfl) ?_
                          refine lv_if_eq (tgt := 170) hx hb dX9_change_141 (by decide) (fun c181 => ?_) (fun c181 => ?_)
                          · have c181' := I_eq c181
                            exact absurd c181 (by decide)
                          · have c181' := I_ne c181
                            refine lv_aload_n hx hb dX9_change_144 rfl (lv_at hl 4 rfl) ?_
                            refine va_get (D := (dC, dI)) (ci := 8) (v := .ref mi) (C := RX9) (T := TX9) (N := 32) hx hb hts inG_X9 hown hK hP 0 rfl rfl 8 (by decide) (hts _ fl_X9_22) (fun _ h9 => h9) rfl dX9_change_145 ?_
                            refine lv_aload_n hx hb dX9_change_148 rfl (lv_at hl 4 rfl) ?_
                            refine va_get (D := (dC, dI)) (ci := 8) (v := .int mmn_71) (C := RX9) (T := TX9) (N := 32) hx hb hts inG_X9 hown hK hP 0 rfl rfl 9 (by decide) (hts _ fl_X9_114) (fun _ h9 => h9) rfl dX9_change_149 ?_
                            refine lv_aload_n hx hb dX9_change_152 rfl (lv_at hl 4 rfl) ?_
                            refine va_get (D := (dC, dI)) (ci := 8) (v := .ref mba) (C := RX9) (T := TX9) (N := 32) hx hb hts inG_X9 hown hK hP 0 rfl rfl 29 (by decide) (hts _ fl_X9_63) (fun _ h9 => h9) rfl dX9_change_153 ?_
                            refine lv_iload hx hb dX9_change_156 (lv_at hl 0 rfl) ?_
                            refine va_iald (t0 := 0) hx hb hK hP 2 (ha := rfl) (ht := rfl) (I_in (by omega) (by omega)) dX9_change_158 ?_
                            refine lv_topi (fun v182 ev182 => ?_)
                            refine va_iast (t0 := 0) hx hb hK hP hD hS 1 (ha := rfl) (ht := rfl) (I_in (by omega) (by omega)) dX9_change_159 (fun H locs hP hD hS => ?_)
                            have hP : va_P (dC, dI) vwCl [(m0, .inr (8, [.int mth, .int mst, .ref mp, .int mln, .ref mk, .int mts, .ref mti, .ref mtw, .ref mi, .int mmn_71, .ref mpo, .int mpd, .ref mpi, .int mpl, .int mcp, .ref mre, .ref mnn, .ref mwo, .ref mga, .ref mlo, .ref mro, .ref mle, .ref mra, .int mme, .ref mha, .int mch, .int mtm, .int mgo, .int mwa, .ref mba, .int mbl, .ref mon])), (mi, .inl (cI, 12, .inl (upd mif_71 mmn_71.toNatClampNeg v182))), (mba, .inl (cI, 12, .inl mbaf))] H := hP
                            have hD : va_D A [(m0, .inr (8, [.int mth, .int mst, .ref mp, .int mln, .ref mk, .int mts, .ref mti, .ref mtw, .ref mi, .int mmn_71, .ref mpo, .int mpd, .ref mpi, .int mpl, .int mcp, .ref mre, .ref mnn, .ref mwo, .ref mga, .ref mlo, .ref mro, .ref mle, .ref mra, .int mme, .ref mha, .int mch, .int mtm, .int mgo, .int mwa, .ref mba, .int mbl, .ref mon])), (mi, .inl (cI, 12, .inl (upd mif_71 mmn_71.toNatClampNeg v182))), (mba, .inl (cI, 12, .inl mbaf))] := hD
                            generalize ef183 : upd mif_71 mmn_71.toNatClampNeg v182 = f183 at hP hD
                            refine lv_aload_n hx hb dX9_change_160 rfl (lv_at hl 4 rfl) ?_
                            refine lv_dup hx hb dX9_change_161 rfl ?_
                            refine va_get (D := (dC, dI)) (ci := 8) (v := .int mmn_71) (C := RX9) (T := TX9) (N := 32) hx hb hts inG_X9 hown hK hP 0 rfl rfl 9 (by decide) (hts _ fl_X9_114) (fun _ h9 => h9) rfl dX9_change_162 ?_
                            refine lv_iconst (v := 1) hx hb dX9_change_165 (by decide) ?_
                            refine lv_iadd hx hb dX9_change_166 ?_
                            refine lv_topi (fun v184 ev184 => ?_)
                            try have hv184 : v184.toInt = mmn_71.toInt + (1 : Int32).toInt := I_addx ev184 (by omega)
                            refine va_put (D := (dC, dI)) (ci := 8) (v := .int v184) (ty := .int) (C := RX9) (T := TX9) (N := 32) hx hb hts inG_X9 tyX9 tyX9_ok nmX9 hown hK hP hD hS 0 rfl rfl 9 (by decide) (hts _ fl_X9_114) (fun _ h9 => h9) rfl (by decide +kernel) rfl rfl (Nat.le_of_ble_eq_true rfl) dX9_change_167 (fun H locs hP hD hS => ?_)
                            have hP : va_P (dC, dI) vwCl [(m0, .inr (8, [.int mth, .int mst, .ref mp, .int mln, .ref mk, .int mts, .ref mti, .ref mtw, .ref mi, .int v184, .ref mpo, .int mpd, .ref mpi, .int mpl, .int mcp, .ref mre, .ref mnn, .ref mwo, .ref mga, .ref mlo, .ref mro, .ref mle, .ref mra, .int mme, .ref mha, .int mch, .int mtm, .int mgo, .int mwa, .ref mba, .int mbl, .ref mon])), (mi, .inl (cI, 12, .inl f183)), (mba, .inl (cI, 12, .inl mbaf))] H := hP
                            have hD : va_D A [(m0, .inr (8, [.int mth, .int mst, .ref mp, .int mln, .ref mk, .int mts, .ref mti, .ref mtw, .ref mi, .int v184, .ref mpo, .int mpd, .ref mpi, .int mpl, .int mcp, .ref mre, .ref mnn, .ref mwo, .ref mga, .ref mlo, .ref mro, .ref mle, .ref mra, .int mme, .ref mha, .int mch, .int mtm, .int mgo, .int mwa, .ref mba, .int mbl, .ref mon])), (mi, .inl (cI, 12, .inl f183)), (mba, .inl (cI, 12, .inl mbaf))] := hD
                            exact J170 v184 f183 (by first | assumption | omega) (by first | assumption | omega) H locs ls hP hD hS hl
                    · have c175' := I_nle c175
                      refine lv_aload_n hx hb dX9_change_92 rfl (lv_at hl 4 rfl) ?_
                      refine va_get (D := (dC, dI)) (ci := 8) (v := .ref mi) (C := RX9) (T := TX9) (N := 32) hx hb hts inG_X9 hown hK hP 0 rfl rfl 8 (by decide) (hts _ fl_X9_22) (fun _ h9 => h9) rfl dX9_change_93 ?_
                      refine lv_aload_n hx hb dX9_change_96 rfl (lv_at hl 4 rfl) ?_
                      refine va_get (D := (dC, dI)) (ci := 8) (v := .int mmn_71) (C := RX9) (T := TX9) (N := 32) hx hb hts inG_X9 hown hK hP 0 rfl rfl 9 (by decide) (hts _ fl_X9_114) (fun _ h9 => h9) rfl dX9_change_97 ?_
                      refine lv_iload hx hb dX9_change_100 (lv_at hl 1 rfl) ?_
                      refine lv_if_eq (tgt := 109) hx hb dX9_change_102 (by decide) (fun c185 => ?_) (fun c185 => ?_)
                      · have c185' := I_eq c185
                        exact absurd c185 (by decide)
                      · have c185' := I_ne c185
                        refine lv_iload_n hx hb dX9_change_105 rfl (lv_at hl 2 rfl) ?_
                        refine lv_goto (tgt := 113) hx hb dX9_change_106 (by decide) ?_
                        refine va_iast (t0 := 0) hx hb hK hP hD hS 1 (ha := rfl) (ht := rfl) (I_in (by omega) (by omega)) dX9_change_113 (fun H locs hP hD hS => ?_)
                        have hP : va_P (dC, dI) vwCl [(m0, .inr (8, [.int mth, .int mst, .ref mp, .int mln, .ref mk, .int mts, .ref mti, .ref mtw, .ref mi, .int mmn_71, .ref mpo, .int mpd, .ref mpi, .int mpl, .int mcp, .ref mre, .ref mnn, .ref mwo, .ref mga, .ref mlo, .ref mro, .ref mle, .ref mra, .int mme, .ref mha, .int mch, .int mtm, .int mgo, .int mwa, .ref mba, .int mbl, .ref mon])), (mi, .inl (cI, 12, .inl (upd mif_71 mmn_71.toNatClampNeg v2))), (mba, .inl (cI, 12, .inl mbaf))] H := hP
                        have hD : va_D A [(m0, .inr (8, [.int mth, .int mst, .ref mp, .int mln, .ref mk, .int mts, .ref mti, .ref mtw, .ref mi, .int mmn_71, .ref mpo, .int mpd, .ref mpi, .int mpl, .int mcp, .ref mre, .ref mnn, .ref mwo, .ref mga, .ref mlo, .ref mro, .ref mle, .ref mra, .int mme, .ref mha, .int mch, .int mtm, .int mgo, .int mwa, .ref mba, .int mbl, .ref mon])), (mi, .inl (cI, 12, .inl (upd mif_71 mmn_71.toNatClampNeg v2))), (mba, .inl (cI, 12, .inl mbaf))] := hD
                        generalize ef186 : upd mif_71 mmn_71.toNatClampNeg v2 = f186 at hP hD
                        refine lv_aload_n hx hb dX9_change_114 rfl (lv_at hl 4 rfl) ?_
                        refine lv_dup hx hb dX9_change_115 rfl ?_
                        refine va_get (D := (dC, dI)) (ci := 8) (v := .int mmn_71) (C := RX9) (T := TX9) (N := 32) hx hb hts inG_X9 hown hK hP 0 rfl rfl 9 (by decide) (hts _ fl_X9_114) (fun _ h9 => h9) rfl dX9_change_116 ?_
                        refine lv_iconst (v := 1) hx hb dX9_change_119 (by decide) ?_
                        refine lv_iadd hx hb dX9_change_120 ?_
                        refine lv_topi (fun v187 ev187 => ?_)
                        try have hv187 : v187.toInt = mmn_71.toInt + (1 : Int32).toInt := I_addx ev187 (by omega)
                        refine va_put (D := (dC, dI)) (ci := 8) (v := .int v187) (ty := .int) (C := RX9) (T := TX9) (N := 32) hx hb hts inG_X9 tyX9 tyX9_ok nmX9 hown hK hP hD hS 0 rfl rfl 9 (by decide) (hts _ fl_X9_114) (fun _ h9 => h9) rfl (by decide +kernel) rfl rfl (Nat.le_of_ble_eq_true rfl) dX9_change_121 (fun H locs hP hD hS => ?_)
                        have hP : va_P (dC, dI) vwCl [(m0, .inr (8, [.int mth, .int mst, .ref mp, .int mln, .ref mk, .int mts, .ref mti, .ref mtw, .ref mi, .int v187, .ref mpo, .int mpd, .ref mpi, .int mpl, .int mcp, .ref mre, .ref mnn, .ref mwo, .ref mga, .ref mlo, .ref mro, .ref mle, .ref mra, .int mme, .ref mha, .int mch, .int mtm, .int mgo, .int mwa, .ref mba, .int mbl, .ref mon])), (mi, .inl (cI, 12, .inl f186)), (mba, .inl (cI, 12, .inl mbaf))] H := hP
                        have hD : va_D A [(m0, .inr (8, [.int mth, .int mst, .ref mp, .int mln, .ref mk, .int mts, .ref mti, .ref mtw, .ref mi, .int v187, .ref mpo, .int mpd, .ref mpi, .int mpl, .int mcp, .ref mre, .ref mnn, .ref mwo, .ref mga, .ref mlo, .ref mro, .ref mle, .ref mra, .int mme, .ref mha, .int mch, .int mtm, .int mgo, .int mwa, .ref mba, .int mbl, .ref mon])), (mi, .inl (cI, 12, .inl f186)), (mba, .inl (cI, 12, .inl mbaf))] := hD
                        refine lv_iload hx hb dX9_change_124 (lv_at hl 0 rfl) ?_
                        refine lv_aload_n hx hb dX9_change_126 rfl (lv_at hl 4 rfl) ?_
                        refine va_get (D := (dC, dI)) (ci := 8) (v := .int mbl) (C := RX9) (T := TX9) (N := 32) hx hb hts inG_X9 hown hK hP 0 rfl rfl 30 (by decide) (hts _ fl_X9_177) (fun _ h9 => h9) rfl dX9_change_127 ?_
                        refine lv_icmp_ge (tgt := 170) hx hb dX9_change_130 (by decide) (fun c188 => ?_) (fun c188 => ?_)
                        · have c188' := I_le c188
                          exact J170 v187 f186 (by first | assumption | omega) (by first | assumption | omega) H locs ls hP hD hS hl
                        · have c188' := I_nle c188
                          refine lv_iload hx hb dX9_change_133 (lv_at hl 0 rfl) ?_
                          refine lv_iload_n hx hb dX9_change_135 rfl (lv_at hl 3 rfl) ?_
                          refine lv_icmp_ne (tgt := 144) hx hb dX9_change_136 (by decide) (fun c189 => ?_) (fun c189 => ?_)
                          · have c189' := I_ne c189
                            refine lv_aload_n hx hb dX9_change_144 rfl (lv_at hl 4 rfl) ?_
                            refine va_get (D := (dC, dI)) (ci := 8) (v := .ref mi) (C := RX9) (T := TX9) (N := 32) hx hb hts inG_X9 hown hK hP 0 rfl rfl 8 (by decide) (hts _ fl_X9_22) (fun _ h9 => h9) rfl dX9_change_145 ?_
                            refine lv_aload_n hx hb dX9_change_148 rfl (lv_at hl 4 rfl) ?_
                            refine va_get (D := (dC, dI)) (ci := 8) (v := .int v187) (C := RX9) (T := TX9) (N := 32) hx hb hts inG_X9 hown hK hP 0 rfl rfl 9 (by decide) (hts _ fl_X9_114) (fun _ h9 => h9) rfl dX9_change_149 ?_
                            refine lv_aload_n hx hb dX9_change_152 rfl (lv_at hl 4 rfl) ?_
                            refine va_get (D := (dC, dI)) (ci := 8) (v := .ref mba) (C := RX9) (T := TX9) (N := 32) hx hb hts inG_X9 hown hK hP 0 rfl rfl 29 (by decide) (hts _ fl_X9_63) (fun _ h9 => h9) rfl dX9_change_153 ?_
                            refine lv_iload hx hb dX9_change_156 (lv_at hl 0 rfl) ?_
                            refine va_iald (t0 := 0) hx hb hK hP 2 (ha := rfl) (ht := rfl) (I_in (by omega) (by omega)) dX9_change_158 ?_
                            refine lv_topi (fun v190 ev190 => ?_)
                            refine va_iast (t0 := 0) hx hb hK hP hD hS 1 (ha := rfl) (ht := rfl) (I_in (by omega) (by omega)) dX9_change_159 (fun H locs hP hD hS => ?_)
                            have hP : va_P (dC, dI) vwCl [(m0, .inr (8, [.int mth, .int mst, .ref mp, .int mln, .ref mk, .int mts, .ref mti, .ref mtw, .ref mi, .int v187, .ref mpo, .int mpd, .ref mpi, .int mpl, .int mcp, .ref mre, .ref mnn, .ref mwo, .ref mga, .ref mlo, .ref mro, .ref mle, .ref mra, .int mme, .ref mha, .int mch, .int mtm, .int mgo, .int mwa, .ref mba, .int mbl, .ref mon])), (mi, .inl (cI, 12, .inl (upd f186 v187.toNatClampNeg v190))), (mba, .inl (cI, 12, .inl mbaf))] H := hP
                            have hD : va_D A [(m0, .inr (8, [.int mth, .int mst, .ref mp, .int mln, .ref mk, .int mts, .ref mti, .ref mtw, .ref mi, .int v187, .ref mpo, .int mpd, .ref mpi, .int mpl, .int mcp, .ref mre, .ref mnn, .ref mwo, .ref mga, .ref mlo, .ref mro, .ref mle, .ref mra, .int mme, .ref mha, .int mch, .int mtm, .int mgo, .int mwa, .ref mba, .int mbl, .ref mon])), (mi, .inl (cI, 12, .inl (upd f186 v187.toNatClampNeg v190))), (mba, .inl (cI, 12, .inl mbaf))] := hD
                            generalize ef191 : upd f186 v187.toNatClampNeg v190 = f191 at hP hD
                            refine lv_aload_n hx hb dX9_change_160 rfl (lv_at hl 4 rfl) ?_
                            refine lv_dup hx hb dX9_change_161 rfl ?_
                            refine va_get (D := (dC, dI)) (ci := 8) (v := .int v187) (C := RX9) (T := TX9) (N := 32) hx hb hts inG_X9 hown hK hP 0 rfl rfl 9 (by decide) (hts _ fl_X9_114) (fun _ h9 => h9) rfl dX9_change_162 ?_
                            refine lv_iconst (v := 1) hx hb dX9_change_165 (by decide) ?_
                            refine lv_iadd hx hb dX9_change_166 ?_
                            refine lv_topi (fun v192 ev192 => ?_)
                            try have hv192 : v192.toInt = v187.toInt + (1 : Int32).toInt := I_addx ev192 (by omega)
                            refine va_put (D := (dC, dI)) (ci := 8) (v := .int v192) (ty := .int) (C := RX9) (T := TX9) (N := 32) hx hb hts inG_X9 tyX9 tyX9_ok nmX9 hown hK hP hD hS 0 rfl rfl 9 (by decide) (hts _ fl_X9_114) (fun _ h9 => h9) rfl (by decide +kernel) rfl rfl (Nat.le_of_ble_eq_true rfl) dX9_change_167 (fun H locs hP hD hS => ?_)
                            have hP : va_P (dC, dI) vwCl [(m0, .inr (8, [.int mth, .int mst, .ref mp, .int mln, .ref mk, .int mts, .ref mti, .ref mtw, .ref mi, .int v192, .ref mpo, .int mpd, .ref mpi, .int mpl, .int mcp, .ref mre, .ref mnn, .ref mwo, .ref mga, .ref mlo, .ref mro, .ref mle, .ref mra, .int mme, .ref mha, .int mch, .int mtm, .int mgo, .int mwa, .ref mba, .int mbl, .ref mon])), (mi, .inl (cI, 12, .inl f191)), (mba, .inl (cI, 12, .inl mbaf))] H := hP
                            have hD : va_D A [(m0, .inr (8, [.int mth, .int mst, .ref mp, .int mln, .ref mk, .int mts, .ref mti, .ref mtw, .ref mi, .int v192, .ref mpo, .int mpd, .ref mpi, .int mpl, .int mcp, .ref mre, .ref mnn, .ref mwo, .ref mga, .ref mlo, .ref mro, .ref mle, .ref mra, .int mme, .ref mha, .int mch, .int mtm, .int mgo, .int mwa, .ref mba, .int mbl, .ref mon])), (mi, .inl (cI, 12, .inl f191)), (mba, .inl (cI, 12, .inl mbaf))] := hD
                            exact J170 v192 f191 (by first | assumption | omega) (by first | assumption | omega) H locs ls hP hD hS hl
                          · have c189' := I_eq c189
                            refine lv_iload hx hb dX9_change_139 (lv_at hl 1 rfl) ?_
                            refine lv_if_eq (tgt := 170) hx hb dX9_change_141 (by decide) (fun c193 => ?_) (fun c193 => ?_)
                            · have c193' := I_eq c193
                              exact absurd c193 (by decide)
                            · have c193' := I_ne c193
                              refine lv_aload_n hx hb dX9_change_144 rfl (lv_at hl 4 rfl) ?_
                              refine va_get (D := (dC, dI)) (ci := 8) (v := .ref mi) (C := RX9) (T := TX9) (N := 32) hx hb hts inG_X9 hown hK hP 0 rfl rfl 8 (by decide) (hts _ fl_X9_22) (fun _ h9 => h9) rfl dX9_change_145 ?_
                              refine lv_aload_n hx hb dX9_change_148 rfl (lv_at hl 4 rfl) ?_
                              refine va_get (D := (dC, dI)) (ci := 8) (v := .int v187) (C := RX9) (T := TX9) (N := 32) hx hb hts inG_X9 hown hK hP 0 rfl rfl 9 (by decide) (hts _ fl_X9_114) (fun _ h9 => h9) rfl dX9_change_149 ?_
                              refine lv_aload_n hx hb dX9_change_152 rfl (lv_at hl 4 rfl) ?_
                              refine va_get (D := (dC, dI)) (ci := 8) (v := .ref mba) (C := RX9) (T := TX9) (N := 32) hx hb hts inG_X9 hown hK hP 0 rfl rfl 29 (by decide) (hts _ fl_X9_63) (fun _ h9 => h9) rfl dX9_change_153 ?_
                              refine lv_iload hx hb dX9_change_156 (lv_at hl 0 rfl) ?_
                              refine va_iald (t0 := 0) hx hb hK hP 2 (ha := rfl) (ht := rfl) (I_in (by omega) (by omega)) dX9_change_158 ?_
                              refine lv_topi (fun v194 ev194 => ?_)
                              refine va_iast (t0 := 0) hx hb hK hP hD hS 1 (ha := rfl) (ht := rfl) (I_in (by omega) (by omega)) dX9_change_159 (fun H locs hP hD hS => ?_)
                              have hP : va_P (dC, dI) vwCl [(m0, .inr (8, [.int mth, .int mst, .ref mp, .int mln, .ref mk, .int mts, .ref mti, .ref mtw, .ref mi, .int v187, .ref mpo, .int mpd, .ref mpi, .int mpl, .int mcp, .ref mre, .ref mnn, .ref mwo, .ref mga, .ref mlo, .ref mro, .ref mle, .ref mra, .int mme, .ref mha, .int mch, .int mtm, .int mgo, .int mwa, .ref mba, .int mbl, .ref mon])), (mi, .inl (cI, 12, .inl (upd f186 v187.toNatClampNeg v194))), (mba, .inl (cI, 12, .inl mbaf))] H := hP
                              have hD : va_D A [(m0, .inr (8, [.int mth, .int mst, .ref mp, .int mln, .ref mk, .int mts, .ref mti, .ref mtw, .ref mi, .int v187, .ref mpo, .int mpd, .ref mpi, .int mpl, .int mcp, .ref mre, .ref mnn, .ref mwo, .ref mga, .ref mlo, .ref mro, .ref mle, .ref mra, .int mme, .ref mha, .int mch, .int mtm, .int mgo, .int mwa, .ref mba, .int mbl, .ref mon])), (mi, .inl (cI, 12, .inl (upd f186 v187.toNatClampNeg v194))), (mba, .inl (cI, 12, .inl mbaf))] := hD
                              generalize ef195 : upd f186 v187.toNatClampNeg v194 = f195 at hP hD
                              refine lv_aload_n hx hb dX9_change_160 rfl (lv_at hl 4 rfl) ?_
                              refine lv_dup hx hb dX9_change_161 rfl ?_
                              refine va_get (D := (dC, dI)) (ci := 8) (v := .int v187) (C := RX9) (T := TX9) (N := 32) hx hb hts inG_X9 hown hK hP 0 rfl rfl 9 (by decide) (hts _ fl_X9_114) (fun _ h9 => h9) rfl dX9_change_162 ?_
                              refine lv_iconst (v := 1) hx hb dX9_change_165 (by decide) ?_
                              refine lv_iadd hx hb dX9_change_166 ?_
                              refine lv_topi (fun v196 ev196 => ?_)
                              try have hv196 : v196.toInt = v187.toInt + (1 : Int32).toInt := I_addx ev196 (by omega)
                              refine va_put (D := (dC, dI)) (ci := 8) (v := .int v196) (ty := .int) (C := RX9) (T := TX9) (N := 32) hx hb hts inG_X9 tyX9 tyX9_ok nmX9 hown hK hP hD hS 0 rfl rfl 9 (by decide) (hts _ fl_X9_114) (fun _ h9 => h9) rfl (by decide +kernel) rfl rfl (Nat.le_of_ble_eq_true rfl) dX9_change_167 (fun H locs hP hD hS => ?_)
                              have hP : va_P (dC, dI) vwCl [(m0, .inr (8, [.int mth, .int mst, .ref mp, .int mln, .ref mk, .int mts, .ref mti, .ref mtw, .ref mi, .int v196, .ref mpo, .int mpd, .ref mpi, .int mpl, .int mcp, .ref mre, .ref mnn, .ref mwo, .ref mga, .ref mlo, .ref mro, .ref mle, .ref mra, .int mme, .ref mha, .int mch, .int mtm, .int mgo, .int mwa, .ref mba, .int mbl, .ref mon])), (mi, .inl (cI, 12, .inl f195)), (mba, .inl (cI, 12, .inl mbaf))] H := hP
                              have hD : va_D A [(m0, .inr (8, [.int mth, .int mst, .ref mp, .int mln, .ref mk, .int mts, .ref mti, .ref mtw, .ref mi, .int v196, .ref mpo, .int mpd, .ref mpi, .int mpl, .int mcp, .ref mre, .ref mnn, .ref mwo, .ref mga, .ref mlo, .ref mro, .ref mle, .ref mra, .int mme, .ref mha, .int mch, .int mtm, .int mgo, .int mwa, .ref mba, .int mbl, .ref mon])), (mi, .inl (cI, 12, .inl f195)), (mba, .inl (cI, 12, .inl mbaf))] := hD
                              exact J170 v196 f195 (by first | assumption | omega) (by first | assumption | omega) H locs ls hP hD hS hl
            exact J71 ((mbl.toInt + 1 - (0 : Int32).toInt).toNat + 1) 0 0 mif (by first | assumption | omega) (by first | assumption | omega) (by first | assumption | omega) (by omega) H locs ls hP hD hS hl
          · have c162' := I_eq c162
            refine lv_iconst (v := 0) hx hb dX9_change_61 (by decide) ?_
            exact hret 0 (mmn, mif) H locs 62 ls (by first | rfl | exact I_narz (by omega)) ⟨(show (0 : Int32).toInt = 0 ∨ (0 : Int32).toInt = 1 from by first | rfl | assumption | omega), (show 0 ≤ mmn.toInt ∧ mmn.toInt ≤ 12 from by first | rfl | assumption | omega), (show (0 : Int32).toInt = 0 ∨ mmn.toInt ≤ mbl.toInt + 1 from by first | rfl | assumption | omega), trivial⟩ hP hD hS dX9_change_62
    · have c89' := I_eq c89
      exact absurd c89 (by decide)
set_option maxHeartbeats 20000000 in
set_option maxRecDepth 100000 in
theorem c_X9_fromBase (l : Launch) (dC : Nat → ClassId) (dI : Nat → Nat → Nat) (cI cJ : ClassId) (base bB bO : Nat) (m0 : Nat) (mth : Int32) (mst : Int32) (mp : Nat) (mln : Int32) (mk : Nat) (mts : Int32) (mti : Nat) (mtw : Nat) (mi : Nat) (mmn : Int32) (mpo : Nat) (mpd : Int32) (mpi : Nat) (mpl : Int32) (mcp : Int32) (mre : Nat) (mnn : Nat) (mwo : Nat) (mga : Nat) (mlo : Nat) (mro : Nat) (mle : Nat) (mra : Nat) (mme : Int32) (mha : Nat) (mch : Int32) (mtm : Int32) (mgo : Int32) (mwa : Int32) (mba : Nat) (mbl : Int32) (mon : Nat) (mkf : Nat → Int32) (mtif : Nat → Int32) (mtwf : Nat → Int32) (mif : Nat → Int32) (mpof : Nat → Int32) (mpif : Nat → Int32) (mref : Nat → Int32) (mnnf : Nat → Int32) (mwof : Nat → Int64) (mrof : Nat → Int32) (mlef : Nat → Int32) (mbaf : Nat → Int32) (hq0 : 0 ≤ mmn.toInt ∧ mmn.toInt ≤ 12) (hq1 : 0 ≤ mts.toInt ∧ mts.toInt ≤ 8) (hq2 : mcp.toInt = 0 ∨ mcp.toInt = 1) (hq3 : 0 ≤ mme.toInt ∧ mme.toInt ≤ 300) (hq4 : mtm.toInt = 0 ∨ mtm.toInt = 1) (hq5 : ∀ j : Nat, 0 ≤ (mlef j).toInt ∧ (mlef j).toInt ≤ 12) (hq6 : 0 ≤ mbl.toInt ∧ mbl.toInt ≤ 11) : CtV l dC dI cI cJ base bB bO yX9_fromBase cX9_fromBase 2 0 0 7 149 [.ref m0] [(m0, .inr (8, [.int mth, .int mst, .ref mp, .int mln, .ref mk, .int mts, .ref mti, .ref mtw, .ref mi, .int mmn, .ref mpo, .int mpd, .ref mpi, .int mpl, .int mcp, .ref mre, .ref mnn, .ref mwo, .ref mga, .ref mlo, .ref mro, .ref mle, .ref mra, .int mme, .ref mha, .int mch, .int mtm, .int mgo, .int mwa, .ref mba, .int mbl, .ref mon])), (mk, .inl (cI, 4, .inl mkf)), (mti, .inl (cI, 32, .inl mtif)), (mtw, .inl (cI, 8, .inl mtwf)), (mi, .inl (cI, 12, .inl mif)), (mpo, .inl (cI, 12, .inl mpof)), (mpi, .inl (cI, 26, .inl mpif)), (mre, .inl (cI, 12, .inl mref)), (mnn, .inl (cI, 4, .inl mnnf)), (mwo, .inl (cJ, 12, .inr (.inl mwof))), (mro, .inl (cI, 3600, .inl mrof)), (mle, .inl (cI, 300, .inl mlef)), (mba, .inl (cI, 12, .inl mbaf))] ((Int32) × (Nat → Int32) × (Int32) × (Int32) × (Int32) × (Nat → Int32) × (Nat → Int32) × (Nat → Int32) × (Nat → Int32) × (Nat → Int64) × (Int32) × (Int32) × (Nat → Int32) × (Nat → Int32)) (fun (u : (Int32) × (Nat → Int32) × (Int32) × (Int32) × (Int32) × (Nat → Int32) × (Nat → Int32) × (Nat → Int32) × (Nat → Int32) × (Nat → Int64) × (Int32) × (Int32) × (Nat → Int32) × (Nat → Int32)) => (0 ≤ u.1.toInt ∧ u.1.toInt ≤ 12) ∧ (u.2.2.2.2.1.toInt = 0 ∨ u.2.2.2.2.1.toInt = 1) ∧ (0 ≤ u.2.2.2.2.2.2.2.2.2.2.1.toInt ∧ u.2.2.2.2.2.2.2.2.2.2.1.toInt ≤ 300) ∧ (u.2.2.2.2.2.2.2.2.2.2.2.1.toInt = 0 ∨ u.2.2.2.2.2.2.2.2.2.2.2.1.toInt = 1) ∧ (∀ j : Nat, 0 ≤ (u.2.2.2.2.2.2.2.2.2.2.2.2.2 j).toInt ∧ (u.2.2.2.2.2.2.2.2.2.2.2.2.2 j).toInt ≤ 12) ∧ True) (fun (u : (Int32) × (Nat → Int32) × (Int32) × (Int32) × (Int32) × (Nat → Int32) × (Nat → Int32) × (Nat → Int32) × (Nat → Int32) × (Nat → Int64) × (Int32) × (Int32) × (Nat → Int32) × (Nat → Int32)) => [(m0, .inr (8, [.int mth, .int mst, .ref mp, .int mln, .ref mk, .int mts, .ref mti, .ref mtw, .ref mi, .int u.1, .ref mpo, .int u.2.2.1, .ref mpi, .int u.2.2.2.1, .int u.2.2.2.2.1, .ref mre, .ref mnn, .ref mwo, .ref mga, .ref mlo, .ref mro, .ref mle, .ref mra, .int u.2.2.2.2.2.2.2.2.2.2.1, .ref mha, .int mch, .int u.2.2.2.2.2.2.2.2.2.2.2.1, .int mgo, .int mwa, .ref mba, .int mbl, .ref mon])), (mk, .inl (cI, 4, .inl mkf)), (mti, .inl (cI, 32, .inl mtif)), (mtw, .inl (cI, 8, .inl mtwf)), (mi, .inl (cI, 12, .inl u.2.1)), (mpo, .inl (cI, 12, .inl u.2.2.2.2.2.1)), (mpi, .inl (cI, 26, .inl u.2.2.2.2.2.2.1)), (mre, .inl (cI, 12, .inl u.2.2.2.2.2.2.2.1)), (mnn, .inl (cI, 4, .inl u.2.2.2.2.2.2.2.2.1)), (mwo, .inl (cJ, 12, .inr (.inl u.2.2.2.2.2.2.2.2.2.1))), (mro, .inl (cI, 3600, .inl u.2.2.2.2.2.2.2.2.2.2.2.2.1)), (mle, .inl (cI, 300, .inl u.2.2.2.2.2.2.2.2.2.2.2.2.2)), (mba, .inl (cI, 12, .inl mbaf))]) := by
  refine entV (by decide) (Nat.le_of_ble_eq_true rfl) ?_
  intro p e s m below meth c A Q ls hAt hret hP hD hS hl
  obtain ⟨hx, hb, hml, hown, hts, hA, hAb, hK, hE, hlocks, hin⟩ := hAt
  have hG : CG dC dI cI cJ base bB bO cX9_fromBase 2 RX9 p s m (List.toArray [.ref m0]) c A := ⟨hx, hb, hml, hown, hts, hA, hAb, hK, hE⟩
  have hl : lv_has ls 2 [(0, .ref m0)] := hl
  have c_0 : (0 : Int32).toInt = 0 := by decide
  have c_1 : (1 : Int32).toInt = 1 := by decide
  have c_57 : (57 : Int32).toInt = 57 := by decide
  obtain ⟨H, hHe⟩ : ∃ H : Heap, H = s.heap := ⟨_, rfl⟩
  obtain ⟨locs, hle⟩ : ∃ z : List Loc, z = [] := ⟨_, rfl⟩
  rw [← hHe] at hP
  have hS : va_S A s.heap H locs := by rw [hHe, hle]; exact hS
  suffices hgo : W p l e { frames := 7, cells := 0, slots := 0, locals := 149 } s m (List.toArray [.ref m0]) below meth c H locs 0 0 Q (F0 m 0 ls []) by rw [hHe, hle] at hgo; exact hgo
  refine lv_iconst (v := 0) hx hb dX9_fromBase_0 (by decide) ?_
  refine lv_istore_n (lv' := [(1, .int 0), (0, .ref m0)]) hx hb dX9_fromBase_1 rfl hl (by decide) rfl (fun ls hl => ?_)
  have J2 : ∀ (n : Nat) (L1_2 : Int32) (mmn_2 : Int32) (mif_2 : Nat → Int32) (mpd_2 : Int32) (mpl_2 : Int32) (mcp_2 : Int32) (mpof_2 : Nat → Int32) (mpif_2 : Nat → Int32) (mref_2 : Nat → Int32) (mnnf_2 : Nat → Int32) (mwof_2 : Nat → Int64) (mme_2 : Int32) (mtm_2 : Int32) (mrof_2 : Nat → Int32) (mlef_2 : Nat → Int32), (0 ≤ mmn_2.toInt ∧ mmn_2.toInt ≤ 12) → (mcp_2.toInt = 0 ∨ mcp_2.toInt = 1) → (0 ≤ mme_2.toInt ∧ mme_2.toInt ≤ 300) → (mtm_2.toInt = 0 ∨ mtm_2.toInt = 1) → (∀ j : Nat, 0 ≤ (mlef_2 j).toInt ∧ (mlef_2 j).toInt ≤ 12) → (0 ≤ L1_2.toInt ∧ L1_2.toInt ≤ 684) → (684 - L1_2.toInt) < (n : Int) → ∀ (H : Heap) (locs : List Loc) (ls : Array Slot), va_P (dC, dI) vwCl [(m0, .inr (8, [.int mth, .int mst, .ref mp, .int mln, .ref mk, .int mts, .ref mti, .ref mtw, .ref mi, .int mmn_2, .ref mpo, .int mpd_2, .ref mpi, .int mpl_2, .int mcp_2, .ref mre, .ref mnn, .ref mwo, .ref mga, .ref mlo, .ref mro, .ref mle, .ref mra, .int mme_2, .ref mha, .int mch, .int mtm_2, .int mgo, .int mwa, .ref mba, .int mbl, .ref mon])), (mk, .inl (cI, 4, .inl mkf)), (mti, .inl (cI, 32, .inl mtif)), (mtw, .inl (cI, 8, .inl mtwf)), (mi, .inl (cI, 12, .inl mif_2)), (mpo, .inl (cI, 12, .inl mpof_2)), (mpi, .inl (cI, 26, .inl mpif_2)), (mre, .inl (cI, 12, .inl mref_2)), (mnn, .inl (cI, 4, .inl mnnf_2)), (mwo, .inl (cJ, 12, .inr (.inl mwof_2))), (mro, .inl (cI, 3600, .inl mrof_2)), (mle, .inl (cI, 300, .inl mlef_2)), (mba, .inl (cI, 12, .inl mbaf))] H → va_D A [(m0, .inr (8, [.int mth, .int mst, .ref mp, .int mln, .ref mk, .int mts, .ref mti, .ref mtw, .ref mi, .int mmn_2, .ref mpo, .int mpd_2, .ref mpi, .int mpl_2, .int mcp_2, .ref mre, .ref mnn, .ref mwo, .ref mga, .ref mlo, .ref mro, .ref mle, .ref mra, .int mme_2, .ref mha, .int mch, .int mtm_2, .int mgo, .int mwa, .ref mba, .int mbl, .ref mon])), (mk, .inl (cI, 4, .inl mkf)), (mti, .inl (cI, 32, .inl mtif)), (mtw, .inl (cI, 8, .inl mtwf)), (mi, .inl (cI, 12, .inl mif_2)), (mpo, .inl (cI, 12, .inl mpof_2)), (mpi, .inl (cI, 26, .inl mpif_2)), (mre, .inl (cI, 12, .inl mref_2)), (mnn, .inl (cI, 4, .inl mnnf_2)), (mwo, .inl (cJ, 12, .inr (.inl mwof_2))), (mro, .inl (cI, 3600, .inl mrof_2)), (mle, .inl (cI, 300, .inl mlef_2)), (mba, .inl (cI, 12, .inl mbaf))] → va_S A s.heap H locs → lv_has ls 2 [(1, .int L1_2), (0, .ref m0)] → W p l e { frames := 7, cells := 0, slots := 0, locals := 149 } s m (List.toArray [.ref m0]) below meth c H locs 0 0 Q (F0 m 2 ls []) := by
    intro n
    induction n with
    | zero =>
      intro L1_2 mmn_2 mif_2 mpd_2 mpl_2 mcp_2 mpof_2 mpif_2 mref_2 mnnf_2 mwof_2 mme_2 mtm_2 mrof_2 mlef_2 hi0_2 hi1_2 hi2_2 hi3_2 hi4_2 hi5_2 hm
      exact absurd hm (by omega)
    | succ n ih2 =>
      intro L1_2 mmn_2 mif_2 mpd_2 mpl_2 mcp_2 mpof_2 mpif_2 mref_2 mnnf_2 mwof_2 mme_2 mtm_2 mrof_2 mlef_2 hi0_2 hi1_2 hi2_2 hi3_2 hi4_2 hi5_2 hm2 H locs ls hP hD hS hl
      refine lv_iload_n hx hb dX9_fromBase_2 rfl (lv_at hl 0 rfl) ?_
      refine lv_bipush (v := 57) hx hb dX9_fromBase_3 (by decide) ?_
      refine lv_aload_n hx hb dX9_fromBase_5 rfl (lv_at hl 1 rfl) ?_
      refine va_get (D := (dC, dI)) (ci := 8) (v := .int mbl) (C := RX9) (T := TX9) (N := 32) hx hb hts inG_X9 hown hK hP 0 rfl rfl 30 (by decide) (hts _ fl_X9_177) (fun _ h9 => h9) rfl dX9_fromBase_6 ?_
      refine lv_iconst (v := 1) hx hb dX9_fromBase_9 (by decide) ?_
      refine lv_iadd hx hb dX9_fromBase_10 ?_
      refine lv_topi (fun v1 ev1 => ?_)
      try have hv1 : v1.toInt = mbl.toInt + (1 : Int32).toInt := I_addx ev1 (by omega)
      refine lv_imul hx hb dX9_fromBase_11 ?_
      refine lv_topi (fun v2 ev2 => ?_)
      try have hv2 := I_mulxl (57) ev2 (by decide) (by omega)
      refine lv_icmp_ge (tgt := 40) hx hb dX9_fromBase_12 (by decide) (fun c3 => ?_) (fun c3 => ?_)
      · have c3' := I_le c3
        exact hret (mmn_2, mif_2, mpd_2, mpl_2, mcp_2, mpof_2, mpif_2, mref_2, mnnf_2, mwof_2, mme_2, mtm_2, mrof_2, mlef_2) H locs 40 ls ⟨(show 0 ≤ mmn_2.toInt ∧ mmn_2.toInt ≤ 12 from by first | rfl | assumption | omega), (show mcp_2.toInt = 0 ∨ mcp_2.toInt = 1 from by first | rfl | assumption | omega), (show 0 ≤ mme_2.toInt ∧ mme_2.toInt ≤ 300 from by first | rfl | assumption | omega), (show mtm_2.toInt = 0 ∨ mtm_2.toInt = 1 from by first | rfl | assumption | omega), (show ∀ j : Nat, 0 ≤ (mlef_2 j).toInt ∧ (mlef_2 j).toInt ≤ 12 from by first | rfl | assumption | omega), trivial⟩ hP hD hS dX9_fromBase_40
      · have c3' := I_nle c3
        refine lv_aload_n hx hb dX9_fromBase_15 rfl (lv_at hl 1 rfl) ?_
        refine va_get (D := (dC, dI)) (ci := 8) (v := .int mtm_2) (C := RX9) (T := TX9) (N := 32) hx hb hts inG_X9 hown hK hP 0 rfl rfl 26 (by decide) (hts _ fl_X9_167) (fun _ h9 => h9) rfl dX9_fromBase_16 ?_
        refine lv_if_ne (tgt := 40) hx hb dX9_fromBase_19 (by decide) (fun c4 => ?_) (fun c4 => ?_)
        · have c4' := I_ne c4
          exact hret (mmn_2, mif_2, mpd_2, mpl_2, mcp_2, mpof_2, mpif_2, mref_2, mnnf_2, mwof_2, mme_2, mtm_2, mrof_2, mlef_2) H locs 40 ls ⟨(show 0 ≤ mmn_2.toInt ∧ mmn_2.toInt ≤ 12 from by first | rfl | assumption | omega), (show mcp_2.toInt = 0 ∨ mcp_2.toInt = 1 from by first | rfl | assumption | omega), (show 0 ≤ mme_2.toInt ∧ mme_2.toInt ≤ 300 from by first | rfl | assumption | omega), (show mtm_2.toInt = 0 ∨ mtm_2.toInt = 1 from by first | rfl | assumption | omega), (show ∀ j : Nat, 0 ≤ (mlef_2 j).toInt ∧ (mlef_2 j).toInt ≤ 12 from by first | rfl | assumption | omega), trivial⟩ hP hD hS dX9_fromBase_40
        · have c4' := I_eq c4
          have J34 : ∀ (mmn_34 : Int32) (mif_34 : Nat → Int32) (mpd_34 : Int32) (mpl_34 : Int32) (mcp_34 : Int32) (mpof_34 : Nat → Int32) (mpif_34 : Nat → Int32) (mref_34 : Nat → Int32) (mnnf_34 : Nat → Int32) (mwof_34 : Nat → Int64) (mme_34 : Int32) (mtm_34 : Int32) (mrof_34 : Nat → Int32) (mlef_34 : Nat → Int32), (0 ≤ mmn_34.toInt ∧ mmn_34.toInt ≤ 12) → (mcp_34.toInt = 0 ∨ mcp_34.toInt = 1) → (0 ≤ mme_34.toInt ∧ mme_34.toInt ≤ 300) → (mtm_34.toInt = 0 ∨ mtm_34.toInt = 1) → (∀ j : Nat, 0 ≤ (mlef_34 j).toInt ∧ (mlef_34 j).toInt ≤ 12) → ∀ (H : Heap) (locs : List Loc) (ls : Array Slot), va_P (dC, dI) vwCl [(m0, .inr (8, [.int mth, .int mst, .ref mp, .int mln, .ref mk, .int mts, .ref mti, .ref mtw, .ref mi, .int mmn_34, .ref mpo, .int mpd_34, .ref mpi, .int mpl_34, .int mcp_34, .ref mre, .ref mnn, .ref mwo, .ref mga, .ref mlo, .ref mro, .ref mle, .ref mra, .int mme_34, .ref mha, .int mch, .int mtm_34, .int mgo, .int mwa, .ref mba, .int mbl, .ref mon])), (mk, .inl (cI, 4, .inl mkf)), (mti, .inl (cI, 32, .inl mtif)), (mtw, .inl (cI, 8, .inl mtwf)), (mi, .inl (cI, 12, .inl mif_34)), (mpo, .inl (cI, 12, .inl mpof_34)), (mpi, .inl (cI, 26, .inl mpif_34)), (mre, .inl (cI, 12, .inl mref_34)), (mnn, .inl (cI, 4, .inl mnnf_34)), (mwo, .inl (cJ, 12, .inr (.inl mwof_34))), (mro, .inl (cI, 3600, .inl mrof_34)), (mle, .inl (cI, 300, .inl mlef_34)), (mba, .inl (cI, 12, .inl mbaf))] H → va_D A [(m0, .inr (8, [.int mth, .int mst, .ref mp, .int mln, .ref mk, .int mts, .ref mti, .ref mtw, .ref mi, .int mmn_34, .ref mpo, .int mpd_34, .ref mpi, .int mpl_34, .int mcp_34, .ref mre, .ref mnn, .ref mwo, .ref mga, .ref mlo, .ref mro, .ref mle, .ref mra, .int mme_34, .ref mha, .int mch, .int mtm_34, .int mgo, .int mwa, .ref mba, .int mbl, .ref mon])), (mk, .inl (cI, 4, .inl mkf)), (mti, .inl (cI, 32, .inl mtif)), (mtw, .inl (cI, 8, .inl mtwf)), (mi, .inl (cI, 12, .inl mif_34)), (mpo, .inl (cI, 12, .inl mpof_34)), (mpi, .inl (cI, 26, .inl mpif_34)), (mre, .inl (cI, 12, .inl mref_34)), (mnn, .inl (cI, 4, .inl mnnf_34)), (mwo, .inl (cJ, 12, .inr (.inl mwof_34))), (mro, .inl (cI, 3600, .inl mrof_34)), (mle, .inl (cI, 300, .inl mlef_34)), (mba, .inl (cI, 12, .inl mbaf))] → va_S A s.heap H locs → lv_has ls 2 [(1, .int L1_2), (0, .ref m0)] → W p l e { frames := 7, cells := 0, slots := 0, locals := 149 } s m (List.toArray [.ref m0]) below meth c H locs 0 0 Q (F0 m 34 ls []) := by
            intro mmn_34 mif_34 mpd_34 mpl_34 mcp_34 mpof_34 mpif_34 mref_34 mnnf_34 mwof_34 mme_34 mtm_34 mrof_34 mlef_34 hi0_34 hi1_34 hi2_34 hi3_34 hi4_34 H locs ls hP hD hS hl
            obtain ⟨v5, ev5⟩ : ∃ y : Int32, y = L1_2 + 1 := ⟨_, rfl⟩
            try have hv5 : v5.toInt = L1_2.toInt + (1 : Int32).toInt := I_addx ev5 (by omega)
            refine lv_iinc (v := v5) (lv' := [(1, .int v5), (0, .ref m0)]) hx hb dX9_fromBase_34 hl (k := 0) rfl (by rw [ev5]; rfl) (by decide) rfl (fun ls hl => ?_)
            refine lv_goto (tgt := 2) hx hb dX9_fromBase_37 (by decide) ?_
            exact ih2 v5 mmn_34 mif_34 mpd_34 mpl_34 mcp_34 mpof_34 mpif_34 mref_34 mnnf_34 mwof_34 mme_34 mtm_34 mrof_34 mlef_34 (by first | assumption | omega) (by first | assumption | omega) (by first | assumption | omega) (by first | assumption | omega) (by first | assumption | omega) (by first | assumption | omega) (by omega) H locs ls hP hD hS hl
          refine lv_aload_n hx hb dX9_fromBase_22 rfl (lv_at hl 1 rfl) ?_
          refine lv_iload_n hx hb dX9_fromBase_23 rfl (lv_at hl 0 rfl) ?_
          refine calI (rest := []) (wr := [(mk, .inl (cI, 4, .inl mkf)), (mti, .inl (cI, 32, .inl mtif)), (mtw, .inl (cI, 8, .inl mtwf)), (mpo, .inl (cI, 12, .inl mpof_2)), (mpi, .inl (cI, 26, .inl mpif_2)), (mre, .inl (cI, 12, .inl mref_2)), (mnn, .inl (cI, 4, .inl mnnf_2)), (mwo, .inl (cJ, 12, .inr (.inl mwof_2))), (mro, .inl (cI, 3600, .inl mrof_2)), (mle, .inl (cI, 300, .inl mlef_2))]) hG (c_X9_change l dC dI cI cJ base bB bO m0 mth mst mp mln mk mts mti mtw mi mmn_2 mpo mpd_2 mpi mpl_2 mcp_2 mre mnn mwo mga mlo mro mle mra mme_2 mha mch mtm_2 mgo mwa mba mbl mon mif_2 mbaf L1_2 (by first | assumption | omega) (by first | assumption | omega) (by first | assumption | omega)) ml_X9_180 im_X9_change se_X9_change ini_X9 cd_X9_change hd_X9_change ⟨(Nat.le_of_ble_eq_true rfl), (Nat.le_of_ble_eq_true rfl)⟩ (Nat.le_of_ble_eq_true rfl) (Nat.le_of_ble_eq_true rfl) hP hD hS [0, 4, 12] [1, 2, 3, 5, 6, 7, 8, 9, 10, 11] rfl rfl rfl rfl (by decide) 8 0 rfl rfl hl.1 rfl (Nat.le_of_ble_eq_true rfl) dX9_fromBase_24 (fun r6 u H locs hw7 hP hD hS => ?_)
          obtain ⟨mmn_8, mif_9⟩ := u
          have hw7 : (r6.toInt = 0 ∨ r6.toInt = 1) ∧ (0 ≤ mmn_8.toInt ∧ mmn_8.toInt ≤ 12) ∧ (r6.toInt = 0 ∨ mmn_8.toInt ≤ mbl.toInt + 1) ∧ True := hw7
          obtain ⟨hp10, hp11, hp12, -⟩ := hw7
          have hP : va_P (dC, dI) vwCl [(mk, .inl (cI, 4, .inl mkf)), (mti, .inl (cI, 32, .inl mtif)), (mtw, .inl (cI, 8, .inl mtwf)), (mpo, .inl (cI, 12, .inl mpof_2)), (mpi, .inl (cI, 26, .inl mpif_2)), (mre, .inl (cI, 12, .inl mref_2)), (mnn, .inl (cI, 4, .inl mnnf_2)), (mwo, .inl (cJ, 12, .inr (.inl mwof_2))), (mro, .inl (cI, 3600, .inl mrof_2)), (mle, .inl (cI, 300, .inl mlef_2)), (m0, .inr (8, [.int mth, .int mst, .ref mp, .int mln, .ref mk, .int mts, .ref mti, .ref mtw, .ref mi, .int mmn_8, .ref mpo, .int mpd_2, .ref mpi, .int mpl_2, .int mcp_2, .ref mre, .ref mnn, .ref mwo, .ref mga, .ref mlo, .ref mro, .ref mle, .ref mra, .int mme_2, .ref mha, .int mch, .int mtm_2, .int mgo, .int mwa, .ref mba, .int mbl, .ref mon])), (mi, .inl (cI, 12, .inl mif_9)), (mba, .inl (cI, 12, .inl mbaf))] H := hP
          have hD : va_D A [(mk, .inl (cI, 4, .inl mkf)), (mti, .inl (cI, 32, .inl mtif)), (mtw, .inl (cI, 8, .inl mtwf)), (mpo, .inl (cI, 12, .inl mpof_2)), (mpi, .inl (cI, 26, .inl mpif_2)), (mre, .inl (cI, 12, .inl mref_2)), (mnn, .inl (cI, 4, .inl mnnf_2)), (mwo, .inl (cJ, 12, .inr (.inl mwof_2))), (mro, .inl (cI, 3600, .inl mrof_2)), (mle, .inl (cI, 300, .inl mlef_2)), (m0, .inr (8, [.int mth, .int mst, .ref mp, .int mln, .ref mk, .int mts, .ref mti, .ref mtw, .ref mi, .int mmn_8, .ref mpo, .int mpd_2, .ref mpi, .int mpl_2, .int mcp_2, .ref mre, .ref mnn, .ref mwo, .ref mga, .ref mlo, .ref mro, .ref mle, .ref mra, .int mme_2, .ref mha, .int mch, .int mtm_2, .int mgo, .int mwa, .ref mba, .int mbl, .ref mon])), (mi, .inl (cI, 12, .inl mif_9)), (mba, .inl (cI, 12, .inl mbaf))] := hD
          refine lv_if_eq (tgt := 34) hx hb dX9_fromBase_27 (by decide) (fun c13 => ?_) (fun c13 => ?_)
          · have c13' := I_eq c13
            exact J34 mmn_8 mif_9 mpd_2 mpl_2 mcp_2 mpof_2 mpif_2 mref_2 mnnf_2 mwof_2 mme_2 mtm_2 mrof_2 mlef_2 (by first | assumption | omega) (by first | assumption | omega) (by first | assumption | omega) (by first | assumption | omega) (by first | assumption | omega) H locs ls (hP.sub (ws' := [(m0, .inr (8, [.int mth, .int mst, .ref mp, .int mln, .ref mk, .int mts, .ref mti, .ref mtw, .ref mi, .int mmn_8, .ref mpo, .int mpd_2, .ref mpi, .int mpl_2, .int mcp_2, .ref mre, .ref mnn, .ref mwo, .ref mga, .ref mlo, .ref mro, .ref mle, .ref mra, .int mme_2, .ref mha, .int mch, .int mtm_2, .int mgo, .int mwa, .ref mba, .int mbl, .ref mon])), (mk, .inl (cI, 4, .inl mkf)), (mti, .inl (cI, 32, .inl mtif)), (mtw, .inl (cI, 8, .inl mtwf)), (mi, .inl (cI, 12, .inl mif_9)), (mpo, .inl (cI, 12, .inl mpof_2)), (mpi, .inl (cI, 26, .inl mpif_2)), (mre, .inl (cI, 12, .inl mref_2)), (mnn, .inl (cI, 4, .inl mnnf_2)), (mwo, .inl (cJ, 12, .inr (.inl mwof_2))), (mro, .inl (cI, 3600, .inl mrof_2)), (mle, .inl (cI, 300, .inl mlef_2)), (mba, .inl (cI, 12, .inl mbaf))]) [10, 0, 1, 2, 11, 3, 4, 5, 6, 7, 8, 9, 12] rfl) (hD.sub (ws' := [(m0, .inr (8, [.int mth, .int mst, .ref mp, .int mln, .ref mk, .int mts, .ref mti, .ref mtw, .ref mi, .int mmn_8, .ref mpo, .int mpd_2, .ref mpi, .int mpl_2, .int mcp_2, .ref mre, .ref mnn, .ref mwo, .ref mga, .ref mlo, .ref mro, .ref mle, .ref mra, .int mme_2, .ref mha, .int mch, .int mtm_2, .int mgo, .int mwa, .ref mba, .int mbl, .ref mon])), (mk, .inl (cI, 4, .inl mkf)), (mti, .inl (cI, 32, .inl mtif)), (mtw, .inl (cI, 8, .inl mtwf)), (mi, .inl (cI, 12, .inl mif_9)), (mpo, .inl (cI, 12, .inl mpof_2)), (mpi, .inl (cI, 26, .inl mpif_2)), (mre, .inl (cI, 12, .inl mref_2)), (mnn, .inl (cI, 4, .inl mnnf_2)), (mwo, .inl (cJ, 12, .inr (.inl mwof_2))), (mro, .inl (cI, 3600, .inl mrof_2)), (mle, .inl (cI, 300, .inl mlef_2)), (mba, .inl (cI, 12, .inl mbaf))]) [10, 0, 1, 2, 11, 3, 4, 5, 6, 7, 8, 9, 12] (by decide) rfl) hS hl
          · have c13' := I_ne c13
            refine lv_aload_n hx hb dX9_fromBase_30 rfl (lv_at hl 1 rfl) ?_
            refine calV (rest := []) (wr := [(mba, .inl (cI, 12, .inl mbaf))]) hG (c_X9_look l dC dI cI cJ base bB bO m0 mth mst mp mln mk mts mti mtw mi mmn_8 mpo mpd_2 mpi mpl_2 mcp_2 mre mnn mwo mga mlo mro mle mra mme_2 mha mch mtm_2 mgo mwa mba mbl mon mkf mtif mtwf mif_9 mpof_2 mpif_2 mref_2 mnnf_2 mwof_2 mrof_2 mlef_2 (by first | assumption | omega) (by first | assumption | omega) (by first | assumption | omega) (by first | assumption | omega) (by first | assumption | omega) (by first | assumption | omega)) ml_X9_183 im_X9_look se_X9_look ini_X9 cd_X9_look hd_X9_look ⟨(Nat.le_of_ble_eq_true rfl), (Nat.le_of_ble_eq_true rfl)⟩ (Nat.le_of_ble_eq_true rfl) (Nat.le_of_ble_eq_true rfl) hP hD hS [10, 0, 1, 2, 11, 3, 4, 5, 6, 7, 8, 9] [12] rfl rfl rfl rfl (by decide) 8 10 rfl rfl hl.1 rfl (Nat.le_of_ble_eq_true rfl) dX9_fromBase_31 (fun u H locs hw14 hP hD hS => ?_)
            obtain ⟨mpd_15, mpl_16, mcp_17, mpof_18, mpif_19, mref_20, mnnf_21, mwof_22, mme_23, mtm_24, mrof_25, mlef_26⟩ := u
            have hw14 : (mcp_17.toInt = 0 ∨ mcp_17.toInt = 1) ∧ (0 ≤ mme_23.toInt ∧ mme_23.toInt ≤ 300) ∧ (mtm_24.toInt = 0 ∨ mtm_24.toInt = 1) ∧ (∀ j : Nat, 0 ≤ (mlef_26 j).toInt ∧ (mlef_26 j).toInt ≤ 12) ∧ True := hw14
            obtain ⟨hp27, hp28, hp29, hp30, -⟩ := hw14
            have hP : va_P (dC, dI) vwCl [(mba, .inl (cI, 12, .inl mbaf)), (m0, .inr (8, [.int mth, .int mst, .ref mp, .int mln, .ref mk, .int mts, .ref mti, .ref mtw, .ref mi, .int mmn_8, .ref mpo, .int mpd_15, .ref mpi, .int mpl_16, .int mcp_17, .ref mre, .ref mnn, .ref mwo, .ref mga, .ref mlo, .ref mro, .ref mle, .ref mra, .int mme_23, .ref mha, .int mch, .int mtm_24, .int mgo, .int mwa, .ref mba, .int mbl, .ref mon])), (mk, .inl (cI, 4, .inl mkf)), (mti, .inl (cI, 32, .inl mtif)), (mtw, .inl (cI, 8, .inl mtwf)), (mi, .inl (cI, 12, .inl mif_9)), (mpo, .inl (cI, 12, .inl mpof_18)), (mpi, .inl (cI, 26, .inl mpif_19)), (mre, .inl (cI, 12, .inl mref_20)), (mnn, .inl (cI, 4, .inl mnnf_21)), (mwo, .inl (cJ, 12, .inr (.inl mwof_22))), (mro, .inl (cI, 3600, .inl mrof_25)), (mle, .inl (cI, 300, .inl mlef_26))] H := hP
            have hD : va_D A [(mba, .inl (cI, 12, .inl mbaf)), (m0, .inr (8, [.int mth, .int mst, .ref mp, .int mln, .ref mk, .int mts, .ref mti, .ref mtw, .ref mi, .int mmn_8, .ref mpo, .int mpd_15, .ref mpi, .int mpl_16, .int mcp_17, .ref mre, .ref mnn, .ref mwo, .ref mga, .ref mlo, .ref mro, .ref mle, .ref mra, .int mme_23, .ref mha, .int mch, .int mtm_24, .int mgo, .int mwa, .ref mba, .int mbl, .ref mon])), (mk, .inl (cI, 4, .inl mkf)), (mti, .inl (cI, 32, .inl mtif)), (mtw, .inl (cI, 8, .inl mtwf)), (mi, .inl (cI, 12, .inl mif_9)), (mpo, .inl (cI, 12, .inl mpof_18)), (mpi, .inl (cI, 26, .inl mpif_19)), (mre, .inl (cI, 12, .inl mref_20)), (mnn, .inl (cI, 4, .inl mnnf_21)), (mwo, .inl (cJ, 12, .inr (.inl mwof_22))), (mro, .inl (cI, 3600, .inl mrof_25)), (mle, .inl (cI, 300, .inl mlef_26))] := hD
            exact J34 mmn_8 mif_9 mpd_15 mpl_16 mcp_17 mpof_18 mpif_19 mref_20 mnnf_21 mwof_22 mme_23 mtm_24 mrof_25 mlef_26 (by first | assumption | omega) (by first | assumption | omega) (by first | assumption | omega) (by first | assumption | omega) (by first | assumption | omega) H locs ls (hP.sub (ws' := [(m0, .inr (8, [.int mth, .int mst, .ref mp, .int mln, .ref mk, .int mts, .ref mti, .ref mtw, .ref mi, .int mmn_8, .ref mpo, .int mpd_15, .ref mpi, .int mpl_16, .int mcp_17, .ref mre, .ref mnn, .ref mwo, .ref mga, .ref mlo, .ref mro, .ref mle, .ref mra, .int mme_23, .ref mha, .int mch, .int mtm_24, .int mgo, .int mwa, .ref mba, .int mbl, .ref mon])), (mk, .inl (cI, 4, .inl mkf)), (mti, .inl (cI, 32, .inl mtif)), (mtw, .inl (cI, 8, .inl mtwf)), (mi, .inl (cI, 12, .inl mif_9)), (mpo, .inl (cI, 12, .inl mpof_18)), (mpi, .inl (cI, 26, .inl mpif_19)), (mre, .inl (cI, 12, .inl mref_20)), (mnn, .inl (cI, 4, .inl mnnf_21)), (mwo, .inl (cJ, 12, .inr (.inl mwof_22))), (mro, .inl (cI, 3600, .inl mrof_25)), (mle, .inl (cI, 300, .inl mlef_26)), (mba, .inl (cI, 12, .inl mbaf))]) [1, 2, 3, 4, 5, 6, 7, 8, 9, 10, 11, 12, 0] rfl) (hD.sub (ws' := [(m0, .inr (8, [.int mth, .int mst, .ref mp, .int mln, .ref mk, .int mts, .ref mti, .ref mtw, .ref mi, .int mmn_8, .ref mpo, .int mpd_15, .ref mpi, .int mpl_16, .int mcp_17, .ref mre, .ref mnn, .ref mwo, .ref mga, .ref mlo, .ref mro, .ref mle, .ref mra, .int mme_23, .ref mha, .int mch, .int mtm_24, .int mgo, .int mwa, .ref mba, .int mbl, .ref mon])), (mk, .inl (cI, 4, .inl mkf)), (mti, .inl (cI, 32, .inl mtif)), (mtw, .inl (cI, 8, .inl mtwf)), (mi, .inl (cI, 12, .inl mif_9)), (mpo, .inl (cI, 12, .inl mpof_18)), (mpi, .inl (cI, 26, .inl mpif_19)), (mre, .inl (cI, 12, .inl mref_20)), (mnn, .inl (cI, 4, .inl mnnf_21)), (mwo, .inl (cJ, 12, .inr (.inl mwof_22))), (mro, .inl (cI, 3600, .inl mrof_25)), (mle, .inl (cI, 300, .inl mlef_26)), (mba, .inl (cI, 12, .inl mbaf))]) [1, 2, 3, 4, 5, 6, 7, 8, 9, 10, 11, 12, 0] (by decide) rfl) hS hl
  exact J2 ((684 - (0 : Int32).toInt).toNat + 1) 0 mmn mif mpd mpl mcp mpof mpif mref mnnf mwof mme mtm mrof mlef (by first | assumption | omega) (by first | assumption | omega) (by first | assumption | omega) (by first | assumption | omega) (by first | assumption | omega) (by first | assumption | omega) (by omega) H locs ls hP hD hS hl
