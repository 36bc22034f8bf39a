set_option maxHeartbeats 40000000 in
set_option maxRecDepth 100000 in
theorem c_X9_search (l : Launch) (dC : Nat → ClassId) (dI : Nat → Nat → Nat) (cI cJ : ClassId) (base bB bO : Nat) (m0 : Nat) (mth : Int32) (mst : Int32) (mp : Nat) (mln : Int32) (mk : Nat) (mts : Int32) (mti : Nat) (mtw : Nat) (mi : Nat) (mmn : Int32) (mpo : Nat) (mpd : Int32) (mpi : Nat) (mpl : Int32) (mcp : Int32) (mre : Nat) (mnn : Nat) (mwo : Nat) (mga : Nat) (mlo : Nat) (mro : Nat) (mle : Nat) (mra : Nat) (mme : Int32) (mha : Nat) (mch : Int32) (mtm : Int32) (mgo : Int32) (mwa : Int32) (mba : Nat) (mbl : Int32) (mon : Nat) (mpf : Nat → Int32) (mkf : Nat → Int32) (mtif : Nat → Int32) (mtwf : Nat → Int32) (mif : Nat → Int32) (mpof : Nat → Int32) (mpif : Nat → Int32) (mref : Nat → Int32) (mnnf : Nat → Int32) (mwof : Nat → Int64) (mrof : Nat → Int32) (mlef : Nat → Int32) (mbaf : Nat → Int32) (x : Int32) (hq0 : 0 ≤ mln.toInt ∧ mln.toInt ≤ 10) (hq1 : 0 ≤ mts.toInt ∧ mts.toInt ≤ 8) (hq2 : mcp.toInt = 0 ∨ mcp.toInt = 1) (hq3 : mtm.toInt = 0 ∨ mtm.toInt = 1) (hq4 : ∀ j : Nat, 0 ≤ (mlef j).toInt ∧ (mlef j).toInt ≤ 12) : CtV l dC dI cI cJ base bB bO yX9_search cX9_search 4 0 0 8 170 [.ref m0, .int x] [(m0, .inr (8, [.int mth, .int mst, .ref mp, .int mln, .ref mk, .int mts, .ref mti, .ref mtw, .ref mi, .int mmn, .ref mpo, .int mpd, .ref mpi, .int mpl, .int mcp, .ref mre, .ref mnn, .ref mwo, .ref mga, .ref mlo, .ref mro, .ref mle, .ref mra, .int mme, .ref mha, .int mch, .int mtm, .int mgo, .int mwa, .ref mba, .int mbl, .ref mon])), (mp, .inl (cI, 10, .inl mpf)), (mk, .inl (cI, 4, .inl mkf)), (mti, .inl (cI, 32, .inl mtif)), (mtw, .inl (cI, 8, .inl mtwf)), (mi, .inl (cI, 12, .inl mif)), (mpo, .inl (cI, 12, .inl mpof)), (mpi, .inl (cI, 26, .inl mpif)), (mre, .inl (cI, 12, .inl mref)), (mnn, .inl (cI, 4, .inl mnnf)), (mwo, .inl (cJ, 12, .inr (.inl mwof))), (mro, .inl (cI, 3600, .inl mrof)), (mle, .inl (cI, 300, .inl mlef)), (mba, .inl (cI, 12, .inl mbaf))] ((Int32) × (Nat → Int32) × (Int32) × (Int32) × (Int32) × (Nat → Int32) × (Nat → Int32) × (Nat → Int32) × (Nat → Int32) × (Nat → Int64) × (Int32) × (Int32) × (Nat → Int32) × (Nat → Int32) × (Nat → Int32) × (Int32)) (fun (u : (Int32) × (Nat → Int32) × (Int32) × (Int32) × (Int32) × (Nat → Int32) × (Nat → Int32) × (Nat → Int32) × (Nat → Int32) × (Nat → Int64) × (Int32) × (Int32) × (Nat → Int32) × (Nat → Int32) × (Nat → Int32) × (Int32)) => (0 ≤ u.1.toInt ∧ u.1.toInt ≤ 12) ∧ (u.2.2.2.2.1.toInt = 0 ∨ u.2.2.2.2.1.toInt = 1) ∧ (0 ≤ u.2.2.2.2.2.2.2.2.2.2.1.toInt ∧ u.2.2.2.2.2.2.2.2.2.2.1.toInt ≤ 300) ∧ (u.2.2.2.2.2.2.2.2.2.2.2.1.toInt = 0 ∨ u.2.2.2.2.2.2.2.2.2.2.2.1.toInt = 1) ∧ (∀ j : Nat, 0 ≤ (u.2.2.2.2.2.2.2.2.2.2.2.2.2.1 j).toInt ∧ (u.2.2.2.2.2.2.2.2.2.2.2.2.2.1 j).toInt ≤ 12) ∧ True) (fun (u : (Int32) × (Nat → Int32) × (Int32) × (Int32) × (Int32) × (Nat → Int32) × (Nat → Int32) × (Nat → Int32) × (Nat → Int32) × (Nat → Int64) × (Int32) × (Int32) × (Nat → Int32) × (Nat → Int32) × (Nat → Int32) × (Int32)) => [(m0, .inr (8, [.int mth, .int mst, .ref mp, .int mln, .ref mk, .int mts, .ref mti, .ref mtw, .ref mi, .int u.1, .ref mpo, .int u.2.2.1, .ref mpi, .int u.2.2.2.1, .int u.2.2.2.2.1, .ref mre, .ref mnn, .ref mwo, .ref mga, .ref mlo, .ref mro, .ref mle, .ref mra, .int u.2.2.2.2.2.2.2.2.2.2.1, .ref mha, .int mch, .int u.2.2.2.2.2.2.2.2.2.2.2.1, .int mgo, .int mwa, .ref mba, .int u.2.2.2.2.2.2.2.2.2.2.2.2.2.2.2, .ref mon])), (mp, .inl (cI, 10, .inl mpf)), (mk, .inl (cI, 4, .inl mkf)), (mti, .inl (cI, 32, .inl mtif)), (mtw, .inl (cI, 8, .inl mtwf)), (mi, .inl (cI, 12, .inl u.2.1)), (mpo, .inl (cI, 12, .inl u.2.2.2.2.2.1)), (mpi, .inl (cI, 26, .inl u.2.2.2.2.2.2.1)), (mre, .inl (cI, 12, .inl u.2.2.2.2.2.2.2.1)), (mnn, .inl (cI, 4, .inl u.2.2.2.2.2.2.2.2.1)), (mwo, .inl (cJ, 12, .inr (.inl u.2.2.2.2.2.2.2.2.2.1))), (mro, .inl (cI, 3600, .inl u.2.2.2.2.2.2.2.2.2.2.2.2.1)), (mle, .inl (cI, 300, .inl u.2.2.2.2.2.2.2.2.2.2.2.2.2.1)), (mba, .inl (cI, 12, .inl u.2.2.2.2.2.2.2.2.2.2.2.2.2.2.1))]) := by
  refine entV (by decide) (Nat.le_of_ble_eq_true rfl) ?_
  intro p e s m below meth c A Q ls hAt hret hP hD hS hl
  obtain ⟨hx, hb, hml, hown, hts, hA, hAb, hK, hE, hlocks, hin⟩ := hAt
  have hG : CG dC dI cI cJ base bB bO cX9_search 4 RX9 p s m (List.toArray [.ref m0, .int x]) c A := ⟨hx, hb, hml, hown, hts, hA, hAb, hK, hE⟩
  have hl : lv_has ls 4 [(0, .ref m0), (1, .int x)] := hl
  have c_0 : (0 : Int32).toInt = 0 := by decide
  have c_1 : (1 : Int32).toInt = 1 := by decide
  have c_57 : (57 : Int32).toInt = 57 := by decide
  obtain ⟨H, hHe⟩ : ∃ H : Heap, H = s.heap := ⟨_, rfl⟩
  obtain ⟨locs, hle⟩ : ∃ z : List Loc, z = [] := ⟨_, rfl⟩
  rw [← hHe] at hP
  have hS : va_S A s.heap H locs := by rw [hHe, hle]; exact hS
  suffices hgo : W p l e { frames := 8, cells := 0, slots := 0, locals := 170 } s m (List.toArray [.ref m0, .int x]) below meth c H locs 0 0 Q (F0 m 0 ls []) by rw [hHe, hle] at hgo; exact hgo
  refine lv_aload_n hx hb dX9_search_0 rfl (lv_at hl 0 rfl) ?_
  refine lv_iconst (v := 0) hx hb dX9_search_1 (by decide) ?_
  refine va_put (D := (dC, dI)) (ci := 8) (v := .int 0) (ty := .int) (C := RX9) (T := TX9) (N := 32) hx hb hts inG_X9 tyX9 tyX9_ok nmX9 hown hK hP hD hS 0 rfl rfl 23 (by decide) (hts _ fl_X9_174) (fun _ h9 => h9) rfl (by decide +kernel) rfl rfl (Nat.le_of_ble_eq_true rfl) dX9_search_2 (fun H locs hP hD hS => ?_)
  have hP : va_P (dC, dI) vwCl [(m0, .inr (8, [.int mth, .int mst, .ref mp, .int mln, .ref mk, .int mts, .ref mti, .ref mtw, .ref mi, .int mmn, .ref mpo, .int mpd, .ref mpi, .int mpl, .int mcp, .ref mre, .ref mnn, .ref mwo, .ref mga, .ref mlo, .ref mro, .ref mle, .ref mra, .int 0, .ref mha, .int mch, .int mtm, .int mgo, .int mwa, .ref mba, .int mbl, .ref mon])), (mp, .inl (cI, 10, .inl mpf)), (mk, .inl (cI, 4, .inl mkf)), (mti, .inl (cI, 32, .inl mtif)), (mtw, .inl (cI, 8, .inl mtwf)), (mi, .inl (cI, 12, .inl mif)), (mpo, .inl (cI, 12, .inl mpof)), (mpi, .inl (cI, 26, .inl mpif)), (mre, .inl (cI, 12, .inl mref)), (mnn, .inl (cI, 4, .inl mnnf)), (mwo, .inl (cJ, 12, .inr (.inl mwof))), (mro, .inl (cI, 3600, .inl mrof)), (mle, .inl (cI, 300, .inl mlef)), (mba, .inl (cI, 12, .inl mbaf))] H := hP
  have hD : va_D A [(m0, .inr (8, [.int mth, .int mst, .ref mp, .int mln, .ref mk, .int mts, .ref mti, .ref mtw, .ref mi, .int mmn, .ref mpo, .int mpd, .ref mpi, .int mpl, .int mcp, .ref mre, .ref mnn, .ref mwo, .ref mga, .ref mlo, .ref mro, .ref mle, .ref mra, .int 0, .ref mha, .int mch, .int mtm, .int mgo, .int mwa, .ref mba, .int mbl, .ref mon])), (mp, .inl (cI, 10, .inl mpf)), (mk, .inl (cI, 4, .inl mkf)), (mti, .inl (cI, 32, .inl mtif)), (mtw, .inl (cI, 8, .inl mtwf)), (mi, .inl (cI, 12, .inl mif)), (mpo, .inl (cI, 12, .inl mpof)), (mpi, .inl (cI, 26, .inl mpif)), (mre, .inl (cI, 12, .inl mref)), (mnn, .inl (cI, 4, .inl mnnf)), (mwo, .inl (cJ, 12, .inr (.inl mwof))), (mro, .inl (cI, 3600, .inl mrof)), (mle, .inl (cI, 300, .inl mlef)), (mba, .inl (cI, 12, .inl mbaf))] := hD
  refine lv_aload_n hx hb dX9_search_5 rfl (lv_at hl 0 rfl) ?_
  refine calV (rest := []) (wr := [(mk, .inl (cI, 4, .inl mkf)), (mti, .inl (cI, 32, .inl mtif)), (mtw, .inl (cI, 8, .inl mtwf)), (mpo, .inl (cI, 12, .inl mpof)), (mpi, .inl (cI, 26, .inl mpif)), (mre, .inl (cI, 12, .inl mref)), (mnn, .inl (cI, 4, .inl mnnf)), (mwo, .inl (cJ, 12, .inr (.inl mwof))), (mro, .inl (cI, 3600, .inl mrof)), (mle, .inl (cI, 300, .inl mlef)), (mba, .inl (cI, 12, .inl mbaf))]) hG (c_X9_takeProgram l dC dI cI cJ base bB bO m0 mth mst mp mln mk mts mti mtw mi mmn mpo mpd mpi mpl mcp mre mnn mwo mga mlo mro mle mra 0 mha mch mtm mgo mwa mba mbl mon mpf mif (by first | assumption | omega)) ml_X9_139 im_X9_takeProgram se_X9_takeProgram ini_X9 cd_X9_takeProgram hd_X9_takeProgram ⟨(Nat.le_of_ble_eq_true rfl), (Nat.le_of_ble_eq_true rfl)⟩ (Nat.le_of_ble_eq_true rfl) (Nat.le_of_ble_eq_true rfl) hP hD hS [0, 1, 5] [2, 3, 4, 6, 7, 8, 9, 10, 11, 12, 13] rfl rfl rfl rfl (by decide) 8 0 rfl rfl hl.1 rfl (Nat.le_of_ble_eq_true rfl) dX9_search_6 (fun u H locs hw1 hP hD hS => ?_)
  obtain ⟨mmn_2, mif_3⟩ := u
  have hw1 : (mmn_2.toInt = mln.toInt) ∧ True := hw1
  obtain ⟨hp4, -⟩ := hw1
  have hP : va_P (dC, dI) vwCl [(mk, .inl (cI, 4, .inl mkf)), (mti, .inl (cI, 32, .inl mtif)), (mtw, .inl (cI, 8, .inl mtwf)), (mpo, .inl (cI, 12, .inl mpof)), (mpi, .inl (cI, 26, .inl mpif)), (mre, .inl (cI, 12, .inl mref)), (mnn, .inl (cI, 4, .inl mnnf)), (mwo, .inl (cJ, 12, .inr (.inl mwof))), (mro, .inl (cI, 3600, .inl mrof)), (mle, .inl (cI, 300, .inl mlef)), (mba, .inl (cI, 12, .inl mbaf)), (m0, .inr (8, [.int mth, .int mst, .ref mp, .int mln, .ref mk, .int mts, .ref mti, .ref mtw, .ref mi, .int mmn_2, .ref mpo, .int mpd, .ref mpi, .int mpl, .int mcp, .ref mre, .ref mnn, .ref mwo, .ref mga, .ref mlo, .ref mro, .ref mle, .ref mra, .int 0, .ref mha, .int mch, .int mtm, .int mgo, .int mwa, .ref mba, .int mbl, .ref mon])), (mp, .inl (cI, 10, .inl mpf)), (mi, .inl (cI, 12, .inl mif_3))] H := hP
  have hD : va_D A [(mk, .inl (cI, 4, .inl mkf)), (mti, .inl (cI, 32, .inl mtif)), (mtw, .inl (cI, 8, .inl mtwf)), (mpo, .inl (cI, 12, .inl mpof)), (mpi, .inl (cI, 26, .inl mpif)), (mre, .inl (cI, 12, .inl mref)), (mnn, .inl (cI, 4, .inl mnnf)), (mwo, .inl (cJ, 12, .inr (.inl mwof))), (mro, .inl (cI, 3600, .inl mrof)), (mle, .inl (cI, 300, .inl mlef)), (mba, .inl (cI, 12, .inl mbaf)), (m0, .inr (8, [.int mth, .int mst, .ref mp, .int mln, .ref mk, .int mts, .ref mti, .ref mtw, .ref mi, .int mmn_2, .ref mpo, .int mpd, .ref mpi, .int mpl, .int mcp, .ref mre, .ref mnn, .ref mwo, .ref mga, .ref mlo, .ref mro, .ref mle, .ref mra, .int 0, .ref mha, .int mch, .int mtm, .int mgo, .int mwa, .ref mba, .int mbl, .ref mon])), (mp, .inl (cI, 10, .inl mpf)), (mi, .inl (cI, 12, .inl mif_3))] := hD
  refine lv_iload_n hx hb dX9_search_9 rfl (lv_at hl 1 rfl) ?_
  refine lv_if_ne (tgt := 18) hx hb dX9_search_10 (by decide) (fun c5 => ?_) (fun c5 => ?_)
  · have c5' := I_ne c5
    refine lv_aload_n hx hb dX9_search_18 rfl (lv_at hl 0 rfl) ?_
    refine lv_aload_n hx hb dX9_search_19 rfl (lv_at hl 0 rfl) ?_
    refine va_get (D := (dC, dI)) (ci := 8) (v := .int mln) (C := RX9) (T := TX9) (N := 32) hx hb hts inG_X9 hown hK hP 11 rfl rfl 3 (by decide) (hts _ fl_X9_89) (fun _ h9 => h9) rfl dX9_search_20 ?_
    refine va_put (D := (dC, dI)) (ci := 8) (v := .int mln) (ty := .int) (C := RX9) (T := TX9) (N := 32) hx hb hts inG_X9 tyX9 tyX9_ok nmX9 hown hK hP hD hS 11 rfl rfl 30 (by decide) (hts _ fl_X9_177) (fun _ h9 => h9) rfl (by decide +kernel) rfl rfl (Nat.le_of_ble_eq_true rfl) dX9_search_23 (fun H locs hP hD hS => ?_)
    have hP : va_P (dC, dI) vwCl [(mk, .inl (cI, 4, .inl mkf)), (mti, .inl (cI, 32, .inl mtif)), (mtw, .inl (cI, 8, .inl mtwf)), (mpo, .inl (cI, 12, .inl mpof)), (mpi, .inl (cI, 26, .inl mpif)), (mre, .inl (cI, 12, .inl mref)), (mnn, .inl (cI, 4, .inl mnnf)), (mwo, .inl (cJ, 12, .inr (.inl mwof))), (mro, .inl (cI, 3600, .inl mrof)), (mle, .inl (cI, 300, .inl mlef)), (mba, .inl (cI, 12, .inl mbaf)), (m0, .inr (8, [.int mth, .int mst, .ref mp, .int mln, .ref mk, .int mts, .ref mti, .ref mtw, .ref mi, .int mmn_2, .ref mpo, .int mpd, .ref mpi, .int mpl, .int mcp, .ref mre, .ref mnn, .ref mwo, .ref mga, .ref mlo, .ref mro, .ref mle, .ref mra, .int 0, .ref mha, .int mch, .int mtm, .int mgo, .int mwa, .ref mba, .int mln, .ref mon])), (mp, .inl (cI, 10, .inl mpf)), (mi, .inl (cI, 12, .inl mif_3))] H := hP
    have hD : va_D A [(mk, .inl (cI, 4, .inl mkf)), (mti, .inl (cI, 32, .inl mtif)), (mtw, .inl (cI, 8, .inl mtwf)), (mpo, .inl (cI, 12, .inl mpof)), (mpi, .inl (cI, 26, .inl mpif)), (mre, .inl (cI, 12, .inl mref)), (mnn, .inl (cI, 4, .inl mnnf)), (mwo, .inl (cJ, 12, .inr (.inl mwof))), (mro, .inl (cI, 3600, .inl mrof)), (mle, .inl (cI, 300, .inl mlef)), (mba, .inl (cI, 12, .inl mbaf)), (m0, .inr (8, [.int mth, .int mst, .ref mp, .int mln, .ref mk, .int mts, .ref mti, .ref mtw, .ref mi, .int mmn_2, .ref mpo, .int mpd, .ref mpi, .int mpl, .int mcp, .ref mre, .ref mnn, .ref mwo, .ref mga, .ref mlo, .ref mro, .ref mle, .ref mra, .int 0, .ref mha, .int mch, .int mtm, .int mgo, .int mwa, .ref mba, .int mln, .ref mon])), (mp, .inl (cI, 10, .inl mpf)), (mi, .inl (cI, 12, .inl mif_3))] := hD
    refine lv_iconst (v := 0) hx hb dX9_search_26 (by decide) ?_
    refine lv_istore_n (lv' := [(2, .int 0), (0, .ref m0), (1, .int x)]) hx hb dX9_search_27 rfl hl (by decide) rfl (fun ls hl => ?_)
    have J28 : ∀ (n : Nat) (L2_28 : Int32) (mbaf_28 : Nat → Int32), (0 ≤ L2_28.toInt ∧ L2_28.toInt ≤ 10) → (10 - L2_28.toInt) < (n : Int) → ∀ (H : Heap) (locs : List Loc) (ls : Array Slot), va_P (dC, dI) vwCl [(mk, .inl (cI, 4, .inl mkf)), (mti, .inl (cI, 32, .inl mtif)), (mtw, .inl (cI, 8, .inl mtwf)), (mpo, .inl (cI, 12, .inl mpof)), (mpi, .inl (cI, 26, .inl mpif)), (mre, .inl (cI, 12, .inl mref)), (mnn, .inl (cI, 4, .inl mnnf)), (mwo, .inl (cJ, 12, .inr (.inl mwof))), (mro, .inl (cI, 3600, .inl mrof)), (mle, .inl (cI, 300, .inl mlef)), (mba, .inl (cI, 12, .inl mbaf_28)), (m0, .inr (8, [.int mth, .int mst, .ref mp, .int mln, .ref mk, .int mts, .ref mti, .ref mtw, .ref mi, .int mmn_2, .ref mpo, .int mpd, .ref mpi, .int mpl, .int mcp, .ref mre, .ref mnn, .ref mwo, .ref mga, .ref mlo, .ref mro, .ref mle, .ref mra, .int 0, .ref mha, .int mch, .int mtm, .int mgo, .int mwa, .ref mba, .int mln, .ref mon])), (mp, .inl (cI, 10, .inl mpf)), (mi, .inl (cI, 12, .inl mif_3))] H → va_D A [(mk, .inl (cI, 4, .inl mkf)), (mti, .inl (cI, 32, .inl mtif)), (mtw, .inl (cI, 8, .inl mtwf)), (mpo, .inl (cI, 12, .inl mpof)), (mpi, .inl (cI, 26, .inl mpif)), (mre, .inl (cI, 12, .inl mref)), (mnn, .inl (cI, 4, .inl mnnf)), (mwo, .inl (cJ, 12, .inr (.inl mwof))), (mro, .inl (cI, 3600, .inl mrof)), (mle, .inl (cI, 300, .inl mlef)), (mba, .inl (cI, 12, .inl mbaf_28)), (m0, .inr (8, [.int mth, .int mst, .ref mp, .int mln, .ref mk, .int mts, .ref mti, .ref mtw, .ref mi, .int mmn_2, .ref mpo, .int mpd, .ref mpi, .int mpl, .int mcp, .ref mre, .ref mnn, .ref mwo, .ref mga, .ref mlo, .ref mro, .ref mle, .ref mra, .int 0, .ref mha, .int mch, .int mtm, .int mgo, .int mwa, .ref mba, .int mln, .ref mon])), (mp, .inl (cI, 10, .inl mpf)), (mi, .inl (cI, 12, .inl mif_3))] → va_S A s.heap H locs → lv_has ls 4 [(2, .int L2_28), (0, .ref m0), (1, .int x)] → W p l e { frames := 8, cells := 0, slots := 0, locals := 170 } s m (List.toArray [.ref m0, .int x]) below meth c H locs 0 0 Q (F0 m 28 ls []) := by
      intro n
      induction n with
      | zero =>
        intro L2_28 mbaf_28 hi0_28 hm
        exact absurd hm (by omega)
      | succ n ih28 =>
        intro L2_28 mbaf_28 hi0_28 hm28 H locs ls hP hD hS hl
        refine lv_iload_n hx hb dX9_search_28 rfl (lv_at hl 0 rfl) ?_
        refine lv_aload_n hx hb dX9_search_29 rfl (lv_at hl 1 rfl) ?_
        refine va_get (D := (dC, dI)) (ci := 8) (v := .int mln) (C := RX9) (T := TX9) (N := 32) hx hb hts inG_X9 hown hK hP 11 rfl rfl 3 (by decide) (hts _ fl_X9_89) (fun _ h9 => h9) rfl dX9_search_30 ?_
        refine lv_icmp_ge (tgt := 54) hx hb dX9_search_33 (by decide) (fun c6 => ?_) (fun c6 => ?_)
        · have c6' := I_le c6
          refine lv_iload_n hx hb dX9_search_54 rfl (lv_at hl 2 rfl) ?_
          refine lv_iconst (v := 1) hx hb dX9_search_55 (by decide) ?_
          refine lv_icmp_ne (tgt := 64) hx hb dX9_search_56 (by decide) (fun c7 => ?_) (fun c7 => ?_)
          · have c7' := I_ne c7
            refine lv_iconst (v := 0) hx hb dX9_search_64 (by decide) ?_
            refine lv_istore_n (lv' := [(2, .int 0), (0, .ref m0), (1, .int x)]) hx hb dX9_search_65 rfl hl (by decide) rfl (fun ls hl => ?_)
            have J66 : ∀ (n : Nat) (L2_66 : Int32) (mmn_66 : Int32) (mif_66 : Nat → Int32) (mpd_66 : Int32) (mpl_66 : Int32) (mcp_66 : Int32) (mpof_66 : Nat → Int32) (mpif_66 : Nat → Int32) (mref_66 : Nat → Int32) (mnnf_66 : Nat → Int32) (mwof_66 : Nat → Int64) (mme_66 : Int32) (mtm_66 : Int32) (mrof_66 : Nat → Int32) (mlef_66 : Nat → Int32) (mbaf_66 : Nat → Int32) (mbl_66 : Int32), (0 ≤ mmn_66.toInt ∧ mmn_66.toInt ≤ 12) → (mcp_66.toInt = 0 ∨ mcp_66.toInt = 1) → (0 ≤ mme_66.toInt ∧ mme_66.toInt ≤ 300) → (mtm_66.toInt = 0 ∨ mtm_66.toInt = 1) → (∀ j : Nat, 0 ≤ (mlef_66 j).toInt ∧ (mlef_66 j).toInt ≤ 12) → (0 ≤ L2_66.toInt ∧ L2_66.toInt ≤ 684) → (684 - L2_66.toInt) < (n : Int) → ∀ (H : Heap) (locs : List Loc) (ls : Array Slot), va_P (dC, dI) vwCl [(mk, .inl (cI, 4, .inl mkf)), (mti, .inl (cI, 32, .inl mtif)), (mtw, .inl (cI, 8, .inl mtwf)), (mpo, .inl (cI, 12, .inl mpof_66)), (mpi, .inl (cI, 26, .inl mpif_66)), (mre, .inl (cI, 12, .inl mref_66)), (mnn, .inl (cI, 4, .inl mnnf_66)), (mwo, .inl (cJ, 12, .inr (.inl mwof_66))), (mro, .inl (cI, 3600, .inl mrof_66)), (mle, .inl (cI, 300, .inl mlef_66)), (mba, .inl (cI, 12, .inl mbaf_66)), (m0, .inr (8, [.int mth, .int mst, .ref mp, .int mln, .ref mk, .int mts, .ref mti, .ref mtw, .ref mi, .int mmn_66, .ref mpo, .int mpd_66, .ref mpi, .int mpl_66, .int mcp_66, .ref mre, .ref mnn, .ref mwo, .ref mga, .ref mlo, .ref mro, .ref mle, .ref mra, .int mme_66, .ref mha, .int mch, .int mtm_66, .int mgo, .int mwa, .ref mba, .int mbl_66, .ref mon])), (mp, .inl (cI, 10, .inl mpf)), (mi, .inl (cI, 12, .inl mif_66))] H → va_D A [(mk, .inl (cI, 4, .inl mkf)), (mti, .inl (cI, 32, .inl mtif)), (mtw, .inl (cI, 8, .inl mtwf)), (mpo, .inl (cI, 12, .inl mpof_66)), (mpi, .inl (cI, 26, .inl mpif_66)), (mre, .inl (cI, 12, .inl mref_66)), (mnn, .inl (cI, 4, .inl mnnf_66)), (mwo, .inl (cJ, 12, .inr (.inl mwof_66))), (mro, .inl (cI, 3600, .inl mrof_66)), (mle, .inl (cI, 300, .inl mlef_66)), (mba, .inl (cI, 12, .inl mbaf_66)), (m0, .inr (8, [.int mth, .int mst, .ref mp, .int mln, .ref mk, .int mts, .ref mti, .ref mtw, .ref mi, .int mmn_66, .ref mpo, .int mpd_66, .ref mpi, .int mpl_66, .int mcp_66, .ref mre, .ref mnn, .ref mwo, .ref mga, .ref mlo, .ref mro, .ref mle, .ref mra, .int mme_66, .ref mha, .int mch, .int mtm_66, .int mgo, .int mwa, .ref mba, .int mbl_66, .ref mon])), (mp, .inl (cI, 10, .inl mpf)), (mi, .inl (cI, 12, .inl mif_66))] → va_S A s.heap H locs → lv_has ls 4 [(2, .int L2_66), (0, .ref m0), (1, .int x)] → W p l e { frames := 8, cells := 0, slots := 0, locals := 170 } s m (List.toArray [.ref m0, .int x]) below meth c H locs 0 0 Q (F0 m 66 ls []) := by
              intro n
              induction n with
              | zero =>
                intro L2_66 mmn_66 mif_66 mpd_66 mpl_66 mcp_66 mpof_66 mpif_66 mref_66 mnnf_66 mwof_66 mme_66 mtm_66 mrof_66 mlef_66 mbaf_66 mbl_66 hi0_66 hi1_66 hi2_66 hi3_66 hi4_66 hi5_66 hm
                exact absurd hm (by omega)
              | succ n ih66 =>
                intro L2_66 mmn_66 mif_66 mpd_66 mpl_66 mcp_66 mpof_66 mpif_66 mref_66 mnnf_66 mwof_66 mme_66 mtm_66 mrof_66 mlef_66 mbaf_66 mbl_66 hi0_66 hi1_66 hi2_66 hi3_66 hi4_66 hi5_66 hm66 H locs ls hP hD hS hl
                refine lv_iload_n hx hb dX9_search_66 rfl (lv_at hl 0 rfl) ?_
                refine lv_bipush (v := 57) hx hb dX9_search_67 (by decide) ?_
                refine lv_aload_n hx hb dX9_search_69 rfl (lv_at hl 1 rfl) ?_
                refine va_get (D := (dC, dI)) (ci := 8) (v := .int mln) (C := RX9) (T := TX9) (N := 32) hx hb hts inG_X9 hown hK hP 11 rfl rfl 3 (by decide) (hts _ fl_X9_89) (fun _ h9 => h9) rfl dX9_search_70 ?_
                refine lv_iconst (v := 1) hx hb dX9_search_73 (by decide) ?_
                refine lv_iadd hx hb dX9_search_74 ?_
                refine lv_topi (fun v8 ev8 => ?_)
                try have hv8 : v8.toInt = mln.toInt + (1 : Int32).toInt := I_addx ev8 (by omega)
                refine lv_imul hx hb dX9_search_75 ?_
                refine lv_topi (fun v9 ev9 => ?_)
                try have hv9 := I_mulxl (57) ev9 (by decide) (by omega)
                refine lv_icmp_ge (tgt := 179) hx hb dX9_search_76 (by decide) (fun c10 => ?_) (fun c10 => ?_)
                · have c10' := I_le c10
                  exact hret (mmn_66, mif_66, mpd_66, mpl_66, mcp_66, mpof_66, mpif_66, mref_66, mnnf_66, mwof_66, mme_66, mtm_66, mrof_66, mlef_66, mbaf_66, mbl_66) H locs 179 ls ⟨(show 0 ≤ mmn_66.toInt ∧ mmn_66.toInt ≤ 12 from by first | rfl | assumption | omega), (show mcp_66.toInt = 0 ∨ mcp_66.toInt = 1 from by first | rfl | assumption | omega), (show 0 ≤ mme_66.toInt ∧ mme_66.toInt ≤ 300 from by first | rfl | assumption | omega), (show mtm_66.toInt = 0 ∨ mtm_66.toInt = 1 from by first | rfl | assumption | omega), (show ∀ j : Nat, 0 ≤ (mlef_66 j).toInt ∧ (mlef_66 j).toInt ≤ 12 from by first | rfl | assumption | omega), trivial⟩ (hP.sub (ws' := [(m0, .inr (8, [.int mth, .int mst, .ref mp, .int mln, .ref mk, .int mts, .ref mti, .ref mtw, .ref mi, .int mmn_66, .ref mpo, .int mpd_66, .ref mpi, .int mpl_66, .int mcp_66, .ref mre, .ref mnn, .ref mwo, .ref mga, .ref mlo, .ref mro, .ref mle, .ref mra, .int mme_66, .ref mha, .int mch, .int mtm_66, .int mgo, .int mwa, .ref mba, .int mbl_66, .ref mon])), (mp, .inl (cI, 10, .inl mpf)), (mk, .inl (cI, 4, .inl mkf)), (mti, .inl (cI, 32, .inl mtif)), (mtw, .inl (cI, 8, .inl mtwf)), (mi, .inl (cI, 12, .inl mif_66)), (mpo, .inl (cI, 12, .inl mpof_66)), (mpi, .inl (cI, 26, .inl mpif_66)), (mre, .inl (cI, 12, .inl mref_66)), (mnn, .inl (cI, 4, .inl mnnf_66)), (mwo, .inl (cJ, 12, .inr (.inl mwof_66))), (mro, .inl (cI, 3600, .inl mrof_66)), (mle, .inl (cI, 300, .inl mlef_66)), (mba, .inl (cI, 12, .inl mbaf_66))]) [11, 12, 0, 1, 2, 13, 3, 4, 5, 6, 7, 8, 9, 10] rfl) (hD.sub (ws' := [(m0, .inr (8, [.int mth, .int mst, .ref mp, .int mln, .ref mk, .int mts, .ref mti, .ref mtw, .ref mi, .int mmn_66, .ref mpo, .int mpd_66, .ref mpi, .int mpl_66, .int mcp_66, .ref mre, .ref mnn, .ref mwo, .ref mga, .ref mlo, .ref mro, .ref mle, .ref mra, .int mme_66, .ref mha, .int mch, .int mtm_66, .int mgo, .int mwa, .ref mba, .int mbl_66, .ref mon])), (mp, .inl (cI, 10, .inl mpf)), (mk, .inl (cI, 4, .inl mkf)), (mti, .inl (cI, 32, .inl mtif)), (mtw, .inl (cI, 8, .inl mtwf)), (mi, .inl (cI, 12, .inl mif_66)), (mpo, .inl (cI, 12, .inl mpof_66)), (mpi, .inl (cI, 26, .inl mpif_66)), (mre, .inl (cI, 12, .inl mref_66)), (mnn, .inl (cI, 4, .inl mnnf_66)), (mwo, .inl (cJ, 12, .inr (.inl mwof_66))), (mro, .inl (cI, 3600, .inl mrof_66)), (mle, .inl (cI, 300, .inl mlef_66)), (mba, .inl (cI, 12, .inl mbaf_66))]) [11, 12, 0, 1, 2, 13, 3, 4, 5, 6, 7, 8, 9, 10] (by decide) rfl) hS dX9_search_179
                · have c10' := I_nle c10
                  refine lv_aload_n hx hb dX9_search_79 rfl (lv_at hl 1 rfl) ?_
                  refine va_get (D := (dC, dI)) (ci := 8) (v := .int mtm_66) (C := RX9) (T := TX9) (N := 32) hx hb hts inG_X9 hown hK hP 11 rfl rfl 26 (by decide) (hts _ fl_X9_167) (fun _ h9 => h9) rfl dX9_search_80 ?_
                  refine lv_if_ne (tgt := 179) hx hb dX9_search_83 (by decide) (fun c11 => ?_) (fun c11 => ?_)
                  · have c11' := I_ne c11
                    exact hret (mmn_66, mif_66, mpd_66, mpl_66, mcp_66, mpof_66, mpif_66, mref_66, mnnf_66, mwof_66, mme_66, mtm_66, mrof_66, mlef_66, mbaf_66, mbl_66) H locs 179 ls ⟨(show 0 ≤ mmn_66.toInt ∧ mmn_66.toInt ≤ 12 from by first | rfl | assumption | omega), (show mcp_66.toInt = 0 ∨ mcp_66.toInt = 1 from by first | rfl | assumption | omega), (show 0 ≤ mme_66.toInt ∧ mme_66.toInt ≤ 300 from by first | rfl | assumption | omega), (show mtm_66.toInt = 0 ∨ mtm_66.toInt = 1 from by first | rfl | assumption | omega), (show ∀ j : Nat, 0 ≤ (mlef_66 j).toInt ∧ (mlef_66 j).toInt ≤ 12 from by first | rfl | assumption | omega), trivial⟩ (hP.sub (ws' := [(m0, .inr (8, [.int mth, .int mst, .ref mp, .int mln, .ref mk, .int mts, .ref mti, .ref mtw, .ref mi, .int mmn_66, .ref mpo, .int mpd_66, .ref mpi, .int mpl_66, .int mcp_66, .ref mre, .ref mnn, .ref mwo, .ref mga, .ref mlo, .ref mro, .ref mle, .ref mra, .int mme_66, .ref mha, .int mch, .int mtm_66, .int mgo, .int mwa, .ref mba, .int mbl_66, .ref mon])), (mp, .inl (cI, 10, .inl mpf)), (mk, .inl (cI, 4, .inl mkf)), (mti, .inl (cI, 32, .inl mtif)), (mtw, .inl (cI, 8, .inl mtwf)), (mi, .inl (cI, 12, .inl mif_66)), (mpo, .inl (cI, 12, .inl mpof_66)), (mpi, .inl (cI, 26, .inl mpif_66)), (mre, .inl (cI, 12, .inl mref_66)), (mnn, .inl (cI, 4, .inl mnnf_66)), (mwo, .inl (cJ, 12, .inr (.inl mwof_66))), (mro, .inl (cI, 3600, .inl mrof_66)), (mle, .inl (cI, 300, .inl mlef_66)), (mba, .inl (cI, 12, .inl mbaf_66))]) [11, 12, 0, 1, 2, 13, 3, 4, 5, 6, 7, 8, 9, 10] rfl) (hD.sub (ws' := [(m0, .inr (8, [.int mth, .int mst, .ref mp, .int mln, .ref mk, .int mts, .ref mti, .ref mtw, .ref mi, .int mmn_66, .ref mpo, .int mpd_66, .ref mpi, .int mpl_66, .int mcp_66, .ref mre, .ref mnn, .ref mwo, .ref mga, .ref mlo, .ref mro, .ref mle, .ref mra, .int mme_66, .ref mha, .int mch, .int mtm_66, .int mgo, .int mwa, .ref mba, .int mbl_66, .ref mon])), (mp, .inl (cI, 10, .inl mpf)), (mk, .inl (cI, 4, .inl mkf)), (mti, .inl (cI, 32, .inl mtif)), (mtw, .inl (cI, 8, .inl mtwf)), (mi, .inl (cI, 12, .inl mif_66)), (mpo, .inl (cI, 12, .inl mpof_66)), (mpi, .inl (cI, 26, .inl mpif_66)), (mre, .inl (cI, 12, .inl mref_66)), (mnn, .inl (cI, 4, .inl mnnf_66)), (mwo, .inl (cJ, 12, .inr (.inl mwof_66))), (mro, .inl (cI, 3600, .inl mrof_66)), (mle, .inl (cI, 300, .inl mlef_66)), (mba, .inl (cI, 12, .inl mbaf_66))]) [11, 12, 0, 1, 2, 13, 3, 4, 5, 6, 7, 8, 9, 10] (by decide) rfl) hS dX9_search_179
                  · have c11' := I_eq c11
                    have J173 : ∀ (mmn_173 : Int32) (mif_173 : Nat → Int32) (mpd_173 : Int32) (mpl_173 : Int32) (mcp_173 : Int32) (mpof_173 : Nat → Int32) (mpif_173 : Nat → Int32) (mref_173 : Nat → Int32) (mnnf_173 : Nat → Int32) (mwof_173 : Nat → Int64) (mme_173 : Int32) (mtm_173 : Int32) (mrof_173 : Nat → Int32) (mlef_173 : Nat → Int32) (mbaf_173 : Nat → Int32) (mbl_173 : Int32), (0 ≤ mmn_173.toInt ∧ mmn_173.toInt ≤ 12) → (mcp_173.toInt = 0 ∨ mcp_173.toInt = 1) → (0 ≤ mme_173.toInt ∧ mme_173.toInt ≤ 300) → (mtm_173.toInt = 0 ∨ mtm_173.toInt = 1) → (∀ j : Nat, 0 ≤ (mlef_173 j).toInt ∧ (mlef_173 j).toInt ≤ 12) → ∀ (H : Heap) (locs : List Loc) (ls : Array Slot), va_P (dC, dI) vwCl [(mk, .inl (cI, 4, .inl mkf)), (mti, .inl (cI, 32, .inl mtif)), (mtw, .inl (cI, 8, .inl mtwf)), (mpo, .inl (cI, 12, .inl mpof_173)), (mpi, .inl (cI, 26, .inl mpif_173)), (mre, .inl (cI, 12, .inl mref_173)), (mnn, .inl (cI, 4, .inl mnnf_173)), (mwo, .inl (cJ, 12, .inr (.inl mwof_173))), (mro, .inl (cI, 3600, .inl mrof_173)), (mle, .inl (cI, 300, .inl mlef_173)), (mba, .inl (cI, 12, .inl mbaf_173)), (m0, .inr (8, [.int mth, .int mst, .ref mp, .int mln, .ref mk, .int mts, .ref mti, .ref mtw, .ref mi, .int mmn_173, .ref mpo, .int mpd_173, .ref mpi, .int mpl_173, .int mcp_173, .ref mre, .ref mnn, .ref mwo, .ref mga, .ref mlo, .ref mro, .ref mle, .ref mra, .int mme_173, .ref mha, .int mch, .int mtm_173, .int mgo, .int mwa, .ref mba, .int mbl_173, .ref mon])), (mp, .inl (cI, 10, .inl mpf)), (mi, .inl (cI, 12, .inl mif_173))] H → va_D A [(mk, .inl (cI, 4, .inl mkf)), (mti, .inl (cI, 32, .inl mtif)), (mtw, .inl (cI, 8, .inl mtwf)), (mpo, .inl (cI, 12, .inl mpof_173)), (mpi, .inl (cI, 26, .inl mpif_173)), (mre, .inl (cI, 12, .inl mref_173)), (mnn, .inl (cI, 4, .inl mnnf_173)), (mwo, .inl (cJ, 12, .inr (.inl mwof_173))), (mro, .inl (cI, 3600, .inl mrof_173)), (mle, .inl (cI, 300, .inl mlef_173)), (mba, .inl (cI, 12, .inl mbaf_173)), (m0, .inr (8, [.int mth, .int mst, .ref mp, .int mln, .ref mk, .int mts, .ref mti, .ref mtw, .ref mi, .int mmn_173, .ref mpo, .int mpd_173, .ref mpi, .int mpl_173, .int mcp_173, .ref mre, .ref mnn, .ref mwo, .ref mga, .ref mlo, .ref mro, .ref mle, .ref mra, .int mme_173, .ref mha, .int mch, .int mtm_173, .int mgo, .int mwa, .ref mba, .int mbl_173, .ref mon])), (mp, .inl (cI, 10, .inl mpf)), (mi, .inl (cI, 12, .inl mif_173))] → va_S A s.heap H locs → lv_has ls 4 [(2, .int L2_66), (0, .ref m0), (1, .int x)] → W p l e { frames := 8, cells := 0, slots := 0, locals := 170 } s m (List.toArray [.ref m0, .int x]) below meth c H locs 0 0 Q (F0 m 173 ls []) := by
                      intro mmn_173 mif_173 mpd_173 mpl_173 mcp_173 mpof_173 mpif_173 mref_173 mnnf_173 mwof_173 mme_173 mtm_173 mrof_173 mlef_173 mbaf_173 mbl_173 hi0_173 hi1_173 hi2_173 hi3_173 hi4_173 H locs ls hP hD hS hl
                      obtain ⟨v12, ev12⟩ : ∃ y : Int32, y = L2_66 + 1 := ⟨_, rfl⟩
                      try have hv12 : v12.toInt = L2_66.toInt + (1 : Int32).toInt := I_addx ev12 (by omega)
                      refine lv_iinc (v := v12) (lv' := [(2, .int v12), (0, .ref m0), (1, .int x)]) hx hb dX9_search_173 hl (k := 0) rfl (by rw [ev12]; rfl) (by decide) rfl (fun ls hl => ?_)
                      refine lv_goto (tgt := 66) hx hb dX9_search_176 (by decide) ?_
                      exact ih66 v12 mmn_173 mif_173 mpd_173 mpl_173 mcp_173 mpof_173 mpif_173 mref_173 mnnf_173 mwof_173 mme_173 mtm_173 mrof_173 mlef_173 mbaf_173 mbl_173 (by first | assumption | omega) (by first | assumption | omega) (by first | assumption | omega) (by first | assumption | omega) (by first | assumption | omega) (by first | assumption | omega) (by omega) H locs ls hP hD hS hl
                    refine lv_aload_n hx hb dX9_search_86 rfl (lv_at hl 1 rfl) ?_
                    refine lv_aload_n hx hb dX9_search_87 rfl (lv_at hl 1 rfl) ?_
                    refine va_get (D := (dC, dI)) (ci := 8) (v := .int mln) (C := RX9) (T := TX9) (N := 32) hx hb hts inG_X9 hown hK hP 11 rfl rfl 3 (by decide) (hts _ fl_X9_89) (fun _ h9 => h9) rfl dX9_search_88 ?_
                    refine va_put (D := (dC, dI)) (ci := 8) (v := .int mln) (ty := .int) (C := RX9) (T := TX9) (N := 32) hx hb hts inG_X9 tyX9 tyX9_ok nmX9 hown hK hP hD hS 11 rfl rfl 30 (by decide) (hts _ fl_X9_177) (fun _ h9 => h9) rfl (by decide +kernel) rfl rfl (Nat.le_of_ble_eq_true rfl) dX9_search_91 (fun H locs hP hD hS => ?_)
                    have hP : va_P (dC, dI) vwCl [(mk, .inl (cI, 4, .inl mkf)), (mti, .inl (cI, 32, .inl mtif)), (mtw, .inl (cI, 8, .inl mtwf)), (mpo, .inl (cI, 12, .inl mpof_66)), (mpi, .inl (cI, 26, .inl mpif_66)), (mre, .inl (cI, 12, .inl mref_66)), (mnn, .inl (cI, 4, .inl mnnf_66)), (mwo, .inl (cJ, 12, .inr (.inl mwof_66))), (mro, .inl (cI, 3600, .inl mrof_66)), (mle, .inl (cI, 300, .inl mlef_66)), (mba, .inl (cI, 12, .inl mbaf_66)), (m0, .inr (8, [.int mth, .int mst, .ref mp, .int mln, .ref mk, .int mts, .ref mti, .ref mtw, .ref mi, .int mmn_66, .ref mpo, .int mpd_66, .ref mpi, .int mpl_66, .int mcp_66, .ref mre, .ref mnn, .ref mwo, .ref mga, .ref mlo, .ref mro, .ref mle, .ref mra, .int mme_66, .ref mha, .int mch, .int mtm_66, .int mgo, .int mwa, .ref mba, .int mln, .ref mon])), (mp, .inl (cI, 10, .inl mpf)), (mi, .inl (cI, 12, .inl mif_66))] H := hP
                    have hD : va_D A [(mk, .inl (cI, 4, .inl mkf)), (mti, .inl (cI, 32, .inl mtif)), (mtw, .inl (cI, 8, .inl mtwf)), (mpo, .inl (cI, 12, .inl mpof_66)), (mpi, .inl (cI, 26, .inl mpif_66)), (mre, .inl (cI, 12, .inl mref_66)), (mnn, .inl (cI, 4, .inl mnnf_66)), (mwo, .inl (cJ, 12, .inr (.inl mwof_66))), (mro, .inl (cI, 3600, .inl mrof_66)), (mle, .inl (cI, 300, .inl mlef_66)), (mba, .inl (cI, 12, .inl mbaf_66)), (m0, .inr (8, [.int mth, .int mst, .ref mp, .int mln, .ref mk, .int mts, .ref mti, .ref mtw, .ref mi, .int mmn_66, .ref mpo, .int mpd_66, .ref mpi, .int mpl_66, .int mcp_66, .ref mre, .ref mnn, .ref mwo, .ref mga, .ref mlo, .ref mro, .ref mle, .ref mra, .int mme_66, .ref mha, .int mch, .int mtm_66, .int mgo, .int mwa, .ref mba, .int mln, .ref mon])), (mp, .inl (cI, 10, .inl mpf)), (mi, .inl (cI, 12, .inl mif_66))] := hD
                    refine lv_iconst (v := 0) hx hb dX9_search_94 (by decide) ?_
                    refine lv_istore_n (lv' := [(3, .int 0), (2, .int L2_66), (0, .ref m0), (1, .int x)]) hx hb dX9_search_95 rfl hl (by decide) rfl (fun ls hl => ?_)
                    have J96 : ∀ (n : Nat) (L3_96 : Int32) (mbaf_96 : Nat → Int32), (0 ≤ L3_96.toInt ∧ L3_96.toInt ≤ 10) → (10 - L3_96.toInt) < (n : Int) → ∀ (H : Heap) (locs : List Loc) (ls : Array Slot), va_P (dC, dI) vwCl [(mk, .inl (cI, 4, .inl mkf)), (mti, .inl (cI, 32, .inl mtif)), (mtw, .inl (cI, 8, .inl mtwf)), (mpo, .inl (cI, 12, .inl mpof_66)), (mpi, .inl (cI, 26, .inl mpif_66)), (mre, .inl (cI, 12, .inl mref_66)), (mnn, .inl (cI, 4, .inl mnnf_66)), (mwo, .inl (cJ, 12, .inr (.inl mwof_66))), (mro, .inl (cI, 3600, .inl mrof_66)), (mle, .inl (cI, 300, .inl mlef_66)), (mba, .inl (cI, 12, .inl mbaf_96)), (m0, .inr (8, [.int mth, .int mst, .ref mp, .int mln, .ref mk, .int mts, .ref mti, .ref mtw, .ref mi, .int mmn_66, .ref mpo, .int mpd_66, .ref mpi, .int mpl_66, .int mcp_66, .ref mre, .ref mnn, .ref mwo, .ref mga, .ref mlo, .ref mro, .ref mle, .ref mra, .int mme_66, .ref mha, .int mch, .int mtm_66, .int mgo, .int mwa, .ref mba, .int mln, .ref mon])), (mp, .inl (cI, 10, .inl mpf)), (mi, .inl (cI, 12, .inl mif_66))] H → va_D A [(mk, .inl (cI, 4, .inl mkf)), (mti, .inl (cI, 32, .inl mtif)), (mtw, .inl (cI, 8, .inl mtwf)), (mpo, .inl (cI, 12, .inl mpof_66)), (mpi, .inl (cI, 26, .inl mpif_66)), (mre, .inl (cI, 12, .inl mref_66)), (mnn, .inl (cI, 4, .inl mnnf_66)), (mwo, .inl (cJ, 12, .inr (.inl mwof_66))), (mro, .inl (cI, 3600, .inl mrof_66)), (mle, .inl (cI, 300, .inl mlef_66)), (mba, .inl (cI, 12, .inl mbaf_96)), (m0, .inr (8, [.int mth, .int mst, .ref mp, .int mln, .ref mk, .int mts, .ref mti, .ref mtw, .ref mi, .int mmn_66, .ref mpo, .int mpd_66, .ref mpi, .int mpl_66, .int mcp_66, .ref mre, .ref mnn, .ref mwo, .ref mga, .ref mlo, .ref mro, .ref mle, .ref mra, .int mme_66, .ref mha, .int mch, .int mtm_66, .int mgo, .int mwa, .ref mba, .int mln, .ref mon])), (mp, .inl (cI, 10, .inl mpf)), (mi, .inl (cI, 12, .inl mif_66))] → va_S A s.heap H locs → lv_has ls 4 [(3, .int L3_96), (2, .int L2_66), (0, .ref m0), (1, .int x)] → W p l e { frames := 8, cells := 0, slots := 0, locals := 170 } s m (List.toArray [.ref m0, .int x]) below meth c H locs 0 0 Q (F0 m 96 ls []) := by
                      intro n
                      induction n with
                      | zero =>
                        intro L3_96 mbaf_96 hi0_96 hm
                        exact absurd hm (by omega)
                      | succ n ih96 =>
                        intro L3_96 mbaf_96 hi0_96 hm96 H locs ls hP hD hS hl
                        refine lv_iload_n hx hb dX9_search_96 rfl (lv_at hl 0 rfl) ?_
                        refine lv_aload_n hx hb dX9_search_97 rfl (lv_at hl 2 rfl) ?_
                        refine va_get (D := (dC, dI)) (ci := 8) (v := .int mln) (C := RX9) (T := TX9) (N := 32) hx hb hts inG_X9 hown hK hP 11 rfl rfl 3 (by decide) (hts _ fl_X9_89) (fun _ h9 => h9) rfl dX9_search_98 ?_
                        refine lv_icmp_ge (tgt := 122) hx hb dX9_search_101 (by decide) (fun c13 => ?_) (fun c13 => ?_)
                        · have c13' := I_le c13
                          refine lv_aload_n hx hb dX9_search_122 rfl (lv_at hl 2 rfl) ?_
                          refine lv_iload_n hx hb dX9_search_123 rfl (lv_at hl 1 rfl) ?_
                          refine calI (rest := []) (wr := [(mk, .inl (cI, 4, .inl mkf)), (mti, .inl (cI, 32, .inl mtif)), (mtw, .inl (cI, 8, .inl mtwf)), (mpo, .inl (cI, 12, .inl mpof_66)), (mpi, .inl (cI, 26, .inl mpif_66)), (mre, .inl (cI, 12, .inl mref_66)), (mnn, .inl (cI, 4, .inl mnnf_66)), (mwo, .inl (cJ, 12, .inr (.inl mwof_66))), (mro, .inl (cI, 3600, .inl mrof_66)), (mle, .inl (cI, 300, .inl mlef_66)), (mp, .inl (cI, 10, .inl mpf))]) hG (c_X9_change l dC dI cI cJ base bB bO m0 mth mst mp mln mk mts mti mtw mi mmn_66 mpo mpd_66 mpi mpl_66 mcp_66 mre mnn mwo mga mlo mro mle mra mme_66 mha mch mtm_66 mgo mwa mba mln mon mif_66 mbaf_96 L2_66 (by first | assumption | omega) (by first | assumption | omega) (by first | assumption | omega)) ml_X9_180 im_X9_change se_X9_change ini_X9 cd_X9_change hd_X9_change ⟨(Nat.le_of_ble_eq_true rfl), (Nat.le_of_ble_eq_true rfl)⟩ (Nat.le_of_ble_eq_true rfl) (Nat.le_of_ble_eq_true rfl) hP hD hS [11, 13, 10] [0, 1, 2, 3, 4, 5, 6, 7, 8, 9, 12] rfl rfl rfl rfl (by decide) 8 11 rfl rfl hl.1 rfl (Nat.le_of_ble_eq_true rfl) dX9_search_124 (fun r14 u H locs hw15 hP hD hS => ?_)
                          obtain ⟨mmn_16, mif_17⟩ := u
                          have hw15 : (r14.toInt = 0 ∨ r14.toInt = 1) ∧ (0 ≤ mmn_16.toInt ∧ mmn_16.toInt ≤ 12) ∧ (r14.toInt = 0 ∨ mmn_16.toInt ≤ mln.toInt + 1) ∧ True := hw15
                          obtain ⟨hp18, hp19, hp20, -⟩ := hw15
                          have hP : va_P (dC, dI) vwCl [(mk, .inl (cI, 4, .inl mkf)), (mti, .inl (cI, 32, .inl mtif)), (mtw, .inl (cI, 8, .inl mtwf)), (mpo, .inl (cI, 12, .inl mpof_66)), (mpi, .inl (cI, 26, .inl mpif_66)), (mre, .inl (cI, 12, .inl mref_66)), (mnn, .inl (cI, 4, .inl mnnf_66)), (mwo, .inl (cJ, 12, .inr (.inl mwof_66))), (mro, .inl (cI, 3600, .inl mrof_66)), (mle, .inl (cI, 300, .inl mlef_66)), (mp, .inl (cI, 10, .inl mpf)), (m0, .inr (8, [.int mth, .int mst, .ref mp, .int mln, .ref mk, .int mts, .ref mti, .ref mtw, .ref mi, .int mmn_16, .ref mpo, .int mpd_66, .ref mpi, .int mpl_66, .int mcp_66, .ref mre, .ref mnn, .ref mwo, .ref mga, .ref mlo, .ref mro, .ref mle, .ref mra, .int mme_66, .ref mha, .int mch, .int mtm_66, .int mgo, .int mwa, .ref mba, .int mln, .ref mon])), (mi, .inl (cI, 12, .inl mif_17)), (mba, .inl (cI, 12, .inl mbaf_96))] H := hP
                          have hD : va_D A [(mk, .inl (cI, 4, .inl mkf)), (mti, .inl (cI, 32, .inl mtif)), (mtw, .inl (cI, 8, .inl mtwf)), (mpo, .inl (cI, 12, .inl mpof_66)), (mpi, .inl (cI, 26, .inl mpif_66)), (mre, .inl (cI, 12, .inl mref_66)), (mnn, .inl (cI, 4, .inl mnnf_66)), (mwo, .inl (cJ, 12, .inr (.inl mwof_66))), (mro, .inl (cI, 3600, .inl mrof_66)), (mle, .inl (cI, 300, .inl mlef_66)), (mp, .inl (cI, 10, .inl mpf)), (m0, .inr (8, [.int mth, .int mst, .ref mp, .int mln, .ref mk, .int mts, .ref mti, .ref mtw, .ref mi, .int mmn_16, .ref mpo, .int mpd_66, .ref mpi, .int mpl_66, .int mcp_66, .ref mre, .ref mnn, .ref mwo, .ref mga, .ref mlo, .ref mro, .ref mle, .ref mra, .int mme_66, .ref mha, .int mch, .int mtm_66, .int mgo, .int mwa, .ref mba, .int mln, .ref mon])), (mi, .inl (cI, 12, .inl mif_17)), (mba, .inl (cI, 12, .inl mbaf_96))] := hD
                          refine lv_if_ne (tgt := 133) hx hb dX9_search_127 (by decide) (fun c21 => ?_) (fun c21 => ?_)
                          · have c21' := I_ne c21
                            refine lv_aload_n hx hb dX9_search_133 rfl (lv_at hl 2 rfl) ?_
                            refine lv_aload_n hx hb dX9_search_134 rfl (lv_at hl 2 rfl) ?_
                            refine va_get (D := (dC, dI)) (ci := 8) (v := .int mmn_16) (C := RX9) (T := TX9) (N := 32) hx hb hts inG_X9 hown hK hP 11 rfl rfl 9 (by decide) (hts _ fl_X9_114) (fun _ h9 => h9) rfl dX9_search_135 ?_
                            refine va_put (D := (dC, dI)) (ci := 8) (v := .int mmn_16) (ty := .int) (C := RX9) (T := TX9) (N := 32) hx hb hts inG_X9 tyX9 tyX9_ok nmX9 hown hK hP hD hS 11 rfl rfl 30 (by decide) (hts _ fl_X9_177) (fun _ h9 => h9) rfl (by decide +kernel) rfl rfl (Nat.le_of_ble_eq_true rfl) dX9_search_138 (fun H locs hP hD hS => ?_)
                            have hP : va_P (dC, dI) vwCl [(mk, .inl (cI, 4, .inl mkf)), (mti, .inl (cI, 32, .inl mtif)), (mtw, .inl (cI, 8, .inl mtwf)), (mpo, .inl (cI, 12, .inl mpof_66)), (mpi, .inl (cI, 26, .inl mpif_66)), (mre, .inl (cI, 12, .inl mref_66)), (mnn, .inl (cI, 4, .inl mnnf_66)), (mwo, .inl (cJ, 12, .inr (.inl mwof_66))), (mro, .inl (cI, 3600, .inl mrof_66)), (mle, .inl (cI, 300, .inl mlef_66)), (mp, .inl (cI, 10, .inl mpf)), (m0, .inr (8, [.int mth, .int mst, .ref mp, .int mln, .ref mk, .int mts, .ref mti, .ref mtw, .ref mi, .int mmn_16, .ref mpo, .int mpd_66, .ref mpi, .int mpl_66, .int mcp_66, .ref mre, .ref mnn, .ref mwo, .ref mga, .ref mlo, .ref mro, .ref mle, .ref mra, .int mme_66, .ref mha, .int mch, .int mtm_66, .int mgo, .int mwa, .ref mba, .int mmn_16, .ref mon])), (mi, .inl (cI, 12, .inl mif_17)), (mba, .inl (cI, 12, .inl mbaf_96))] H := hP
                            have hD : va_D A [(mk, .inl (cI, 4, .inl mkf)), (mti, .inl (cI, 32, .inl mtif)), (mtw, .inl (cI, 8, .inl mtwf)), (mpo, .inl (cI, 12, .inl mpof_66)), (mpi, .inl (cI, 26, .inl mpif_66)), (mre, .inl (cI, 12, .inl mref_66)), (mnn, .inl (cI, 4, .inl mnnf_66)), (mwo, .inl (cJ, 12, .inr (.inl mwof_66))), (mro, .inl (cI, 3600, .inl mrof_66)), (mle, .inl (cI, 300, .inl mlef_66)), (mp, .inl (cI, 10, .inl mpf)), (m0, .inr (8, [.int mth, .int mst, .ref mp, .int mln, .ref mk, .int mts, .ref mti, .ref mtw, .ref mi, .int mmn_16, .ref mpo, .int mpd_66, .ref mpi, .int mpl_66, .int mcp_66, .ref mre, .ref mnn, .ref mwo, .ref mga, .ref mlo, .ref mro, .ref mle, .ref mra, .int mme_66, .ref mha, .int mch, .int mtm_66, .int mgo, .int mwa, .ref mba, .int mmn_16, .ref mon])), (mi, .inl (cI, 12, .inl mif_17)), (mba, .inl (cI, 12, .inl mbaf_96))] := hD
                            refine lv_iconst (v := 0) hx hb dX9_search_141 (by decide) ?_
                            refine lv_istore_n (lv' := [(3, .int 0), (2, .int L2_66), (0, .ref m0), (1, .int x)]) hx hb dX9_search_142 rfl hl (by decide) rfl (fun ls hl => ?_)
                            have J143 : ∀ (n : Nat) (L3_143 : Int32) (mbaf_143 : Nat → Int32), (0 ≤ L3_143.toInt ∧ L3_143.toInt ≤ 12) → (12 - L3_143.toInt) < (n : Int) → ∀ (H : Heap) (locs : List Loc) (ls : Array Slot), va_P (dC, dI) vwCl [(mk, .inl (cI, 4, .inl mkf)), (mti, .inl (cI, 32, .inl mtif)), (mtw, .inl (cI, 8, .inl mtwf)), (mpo, .inl (cI, 12, .inl mpof_66)), (mpi, .inl (cI, 26, .inl mpif_66)), (mre, .inl (cI, 12, .inl mref_66)), (mnn, .inl (cI, 4, .inl mnnf_66)), (mwo, .inl (cJ, 12, .inr (.inl mwof_66))), (mro, .inl (cI, 3600, .inl mrof_66)), (mle, .inl (cI, 300, .inl mlef_66)), (mp, .inl (cI, 10, .inl mpf)), (m0, .inr (8, [.int mth, .int mst, .ref mp, .int mln, .ref mk, .int mts, .ref mti, .ref mtw, .ref mi, .int mmn_16, .ref mpo, .int mpd_66, .ref mpi, .int mpl_66, .int mcp_66, .ref mre, .ref mnn, .ref mwo, .ref mga, .ref mlo, .ref mro, .ref mle, .ref mra, .int mme_66, .ref mha, .int mch, .int mtm_66, .int mgo, .int mwa, .ref mba, .int mmn_16, .ref mon])), (mi, .inl (cI, 12, .inl mif_17)), (mba, .inl (cI, 12, .inl mbaf_143))] H → va_D A [(mk, .inl (cI, 4, .inl mkf)), (mti, .inl (cI, 32, .inl mtif)), (mtw, .inl (cI, 8, .inl mtwf)), (mpo, .inl (cI, 12, .inl mpof_66)), (mpi, .inl (cI, 26, .inl mpif_66)), (mre, .inl (cI, 12, .inl mref_66)), (mnn, .inl (cI, 4, .inl mnnf_66)), (mwo, .inl (cJ, 12, .inr (.inl mwof_66))), (mro, .inl (cI, 3600, .inl mrof_66)), (mle, .inl (cI, 300, .inl mlef_66)), (mp, .inl (cI, 10, .inl mpf)), (m0, .inr (8, [.int mth, .int mst, .ref mp, .int mln, .ref mk, .int mts, .ref mti, .ref mtw, .ref mi, .int mmn_16, .ref mpo, .int mpd_66, .ref mpi, .int mpl_66, .int mcp_66, .ref mre, .ref mnn, .ref mwo, .ref mga, .ref mlo, .ref mro, .ref mle, .ref mra, .int mme_66, .ref mha, .int mch, .int mtm_66, .int mgo, .int mwa, .ref mba, .int mmn_16, .ref mon])), (mi, .inl (cI, 12, .inl mif_17)), (mba, .inl (cI, 12, .inl mbaf_143))] → va_S A s.heap H locs → lv_has ls 4 [(3, .int L3_143), (2, .int L2_66), (0, .ref m0), (1, .int x)] → W p l e { frames := 8, cells := 0, slots := 0, locals := 170 } s m (List.toArray [.ref m0, .int x]) below meth c H locs 0 0 Q (F0 m 143 ls []) := by
                              intro n
                              induction n with
                              | zero =>
                                intro L3_143 mbaf_143 hi0_143 hm
                                exact absurd hm (by omega)
                              | succ n ih143 =>
                                intro L3_143 mbaf_143 hi0_143 hm143 H locs ls hP hD hS hl
                                refine lv_iload_n hx hb dX9_search_143 rfl (lv_at hl 0 rfl) ?_
                                refine lv_aload_n hx hb dX9_search_144 rfl (lv_at hl 2 rfl) ?_
                                refine va_get (D := (dC, dI)) (ci := 8) (v := .int mmn_16) (C := RX9) (T := TX9) (N := 32) hx hb hts inG_X9 hown hK hP 11 rfl rfl 9 (by decide) (hts _ fl_X9_114) (fun _ h9 => h9) rfl dX9_search_145 ?_
                                refine lv_icmp_ge (tgt := 169) hx hb dX9_search_148 (by decide) (fun c22 => ?_) (fun c22 => ?_)
                                · have c22' := I_le c22
                                  refine lv_aload_n hx hb dX9_search_169 rfl (lv_at hl 2 rfl) ?_
                                  refine calV (rest := []) (wr := [(mp, .inl (cI, 10, .inl mpf))]) hG (c_X9_fromBase l dC dI cI cJ base bB bO m0 mth mst mp mln mk mts mti mtw mi mmn_16 mpo mpd_66 mpi mpl_66 mcp_66 mre mnn mwo mga mlo mro mle mra mme_66 mha mch mtm_66 mgo mwa mba mmn_16 mon mkf mtif mtwf mif_17 mpof_66 mpif_66 mref_66 mnnf_66 mwof_66 mrof_66 mlef_66 mbaf_143 (by first | assumption | omega) (by first | assumption | omega) (by first | assumption | omega) (by first | assumption | omega) (by first | assumption | omega) (by first | assumption | omega) (by first | assumption | omega)) ml_X9_186 im_X9_fromBase se_X9_fromBase ini_X9 cd_X9_fromBase hd_X9_fromBase ⟨(Nat.le_of_ble_eq_true rfl), (Nat.le_of_ble_eq_true rfl)⟩ (Nat.le_of_ble_eq_true rfl) (Nat.le_of_ble_eq_true rfl) hP hD hS [11, 0, 1, 2, 12, 3, 4, 5, 6, 7, 8, 9, 13] [10] rfl rfl rfl rfl (by decide) 8 11 rfl rfl hl.1 rfl (Nat.le_of_ble_eq_true rfl) dX9_search_170 (fun u H locs hw23 hP hD hS => ?_)
                                  obtain ⟨mmn_24, mif_25, mpd_26, mpl_27, mcp_28, mpof_29, mpif_30, mref_31, mnnf_32, mwof_33, mme_34, mtm_35, mrof_36, mlef_37⟩ := u
                                  have hw23 : (0 ≤ mmn_24.toInt ∧ mmn_24.toInt ≤ 12) ∧ (mcp_28.toInt = 0 ∨ mcp_28.toInt = 1) ∧ (0 ≤ mme_34.toInt ∧ mme_34.toInt ≤ 300) ∧ (mtm_35.toInt = 0 ∨ mtm_35.toInt = 1) ∧ (∀ j : Nat, 0 ≤ (mlef_37 j).toInt ∧ (mlef_37 j).toInt ≤ 12) ∧ True := hw23
                                  obtain ⟨hp38, hp39, hp40, hp41, hp42, -⟩ := hw23
                                  have hP : va_P (dC, dI) vwCl [(mp, .inl (cI, 10, .inl mpf)), (m0, .inr (8, [.int mth, .int mst, .ref mp, .int mln, .ref mk, .int mts, .ref mti, .ref mtw, .ref mi, .int mmn_24, .ref mpo, .int mpd_26, .ref mpi, .int mpl_27, .int mcp_28, .ref mre, .ref mnn, .ref mwo, .ref mga, .ref mlo, .ref mro, .ref mle, .ref mra, .int mme_34, .ref mha, .int mch, .int mtm_35, .int mgo, .int mwa, .ref mba, .int mmn_16, .ref mon])), (mk, .inl (cI, 4, .inl mkf)), (mti, .inl (cI, 32, .inl mtif)), (mtw, .inl (cI, 8, .inl mtwf)), (mi, .inl (cI, 12, .inl mif_25)), (mpo, .inl (cI, 12, .inl mpof_29)), (mpi, .inl (cI, 26, .inl mpif_30)), (mre, .inl (cI, 12, .inl mref_31)), (mnn, .inl (cI, 4, .inl mnnf_32)), (mwo, .inl (cJ, 12, .inr (.inl mwof_33))), (mro, .inl (cI, 3600, .inl mrof_36)), (mle, .inl (cI, 300, .inl mlef_37)), (mba, .inl (cI, 12, .inl mbaf_143))] H := hP
                                  have hD : va_D A [(mp, .inl (cI, 10, .inl mpf)), (m0, .inr (8, [.int mth, .int mst, .ref mp, .int mln, .ref mk, .int mts, .ref mti, .ref mtw, .ref mi, .int mmn_24, .ref mpo, .int mpd_26, .ref mpi, .int mpl_27, .int mcp_28, .ref mre, .ref mnn, .ref mwo, .ref mga, .ref mlo, .ref mro, .ref mle, .ref mra, .int mme_34, .ref mha, .int mch, .int mtm_35, .int mgo, .int mwa, .ref mba, .int mmn_16, .ref mon])), (mk, .inl (cI, 4, .inl mkf)), (mti, .inl (cI, 32, .inl mtif)), (mtw, .inl (cI, 8, .inl mtwf)), (mi, .inl (cI, 12, .inl mif_25)), (mpo, .inl (cI, 12, .inl mpof_29)), (mpi, .inl (cI, 26, .inl mpif_30)), (mre, .inl (cI, 12, .inl mref_31)), (mnn, .inl (cI, 4, .inl mnnf_32)), (mwo, .inl (cJ, 12, .inr (.inl mwof_33))), (mro, .inl (cI, 3600, .inl mrof_36)), (mle, .inl (cI, 300, .inl mlef_37)), (mba, .inl (cI, 12, .inl mbaf_143))] := hD
                                  exact J173 mmn_24 mif_25 mpd_26 mpl_27 mcp_28 mpof_29 mpif_30 mref_31 mnnf_32 mwof_33 mme_34 mtm_35 mrof_36 mlef_37 mbaf_143 mmn_16 (by first | assumption | omega) (by first | assumption | omega) (by first | assumption | omega) (by first | assumption | omega) (by first | assumption | omega) H locs ls (hP.sub (ws' := [(mk, .inl (cI, 4, .inl mkf)), (mti, .inl (cI, 32, .inl mtif)), (mtw, .inl (cI, 8, .inl mtwf)), (mpo, .inl (cI, 12, .inl mpof_29)), (mpi, .inl (cI, 26, .inl mpif_30)), (mre, .inl (cI, 12, .inl mref_31)), (mnn, .inl (cI, 4, .inl mnnf_32)), (mwo, .inl (cJ, 12, .inr (.inl mwof_33))), (mro, .inl (cI, 3600, .inl mrof_36)), (mle, .inl (cI, 300, .inl mlef_37)), (mba, .inl (cI, 12, .inl mbaf_143)), (m0, .inr (8, [.int mth, .int mst, .ref mp, .int mln, .ref mk, .int mts, .ref mti, .ref mtw, .ref mi, .int mmn_24, .ref mpo, .int mpd_26, .ref mpi, .int mpl_27, .int mcp_28, .ref mre, .ref mnn, .ref mwo, .ref mga, .ref mlo, .ref mro, .ref mle, .ref mra, .int mme_34, .ref mha, .int mch, .int mtm_35, .int mgo, .int mwa, .ref mba, .int mmn_16, .ref mon])), (mp, .inl (cI, 10, .inl mpf)), (mi, .inl (cI, 12, .inl mif_25))]) [2, 3, 4, 6, 7, 8, 9, 10, 11, 12, 13, 1, 0, 5] rfl) (hD.sub (ws' := [(mk, .inl (cI, 4, .inl mkf)), (mti, .inl (cI, 32, .inl mtif)), (mtw, .inl (cI, 8, .inl mtwf)), (mpo, .inl (cI, 12, .inl mpof_29)), (mpi, .inl (cI, 26, .inl mpif_30)), (mre, .inl (cI, 12, .inl mref_31)), (mnn, .inl (cI, 4, .inl mnnf_32)), (mwo, .inl (cJ, 12, .inr (.inl mwof_33))), (mro, .inl (cI, 3600, .inl mrof_36)), (mle, .inl (cI, 300, .inl mlef_37)), (mba, .inl (cI, 12, .inl mbaf_143)), (m0, .inr (8, [.int mth, .int mst, .ref mp, .int mln, .ref mk, .int mts, .ref mti, .ref mtw, .ref mi, .int mmn_24, .ref mpo, .int mpd_26, .ref mpi, .int mpl_27, .int mcp_28, .ref mre, .ref mnn, .ref mwo, .ref mga, .ref mlo, .ref mro, .ref mle, .ref mra, .int mme_34, .ref mha, .int mch, .int mtm_35, .int mgo, .int mwa, .ref mba, .int mmn_16, .ref mon])), (mp, .inl (cI, 10, .inl mpf)), (mi, .inl (cI, 12, .inl mif_25))]) [2, 3, 4, 6, 7, 8, 9, 10, 11, 12, 13, 1, 0, 5] (by decide) rfl) hS (lv_sub hl [1, 2, 3] rfl)
                                · have c22' := I_nle c22
                                  refine lv_aload_n hx hb dX9_search_151 rfl (lv_at hl 2 rfl) ?_
                                  refine va_get (D := (dC, dI)) (ci := 8) (v := .ref mba) (C := RX9) (T := TX9) (N := 32) hx hb hts inG_X9 hown hK hP 11 rfl rfl 29 (by decide) (hts _ fl_X9_63) (fun _ h9 => h9) rfl dX9_search_152 ?_
                                  refine lv_iload_n hx hb dX9_search_155 rfl (lv_at hl 0 rfl) ?_
                                  refine lv_aload_n hx hb dX9_search_156 rfl (lv_at hl 2 rfl) ?_
                                  refine va_get (D := (dC, dI)) (ci := 8) (v := .ref mi) (C := RX9) (T := TX9) (N := 32) hx hb hts inG_X9 hown hK hP 11 rfl rfl 8 (by decide) (hts _ fl_X9_22) (fun _ h9 => h9) rfl dX9_search_157 ?_
                                  refine lv_iload_n hx hb dX9_search_160 rfl (lv_at hl 0 rfl) ?_
                                  refine va_iald (t0 := 0) hx hb hK hP 12 (ha := rfl) (ht := rfl) (I_in (by omega) (by omega)) dX9_search_161 ?_
                                  refine lv_topi (fun v43 ev43 => ?_)
                                  refine va_iast (t0 := 0) hx hb hK hP hD hS 13 (ha := rfl) (ht := rfl) (I_in (by omega) (by omega)) dX9_search_162 (fun H locs hP hD hS => ?_)
                                  have hP : va_P (dC, dI) vwCl [(mk, .inl (cI, 4, .inl mkf)), (mti, .inl (cI, 32, .inl mtif)), (mtw, .inl (cI, 8, .inl mtwf)), (mpo, .inl (cI, 12, .inl mpof_66)), (mpi, .inl (cI, 26, .inl mpif_66)), (mre, .inl (cI, 12, .inl mref_66)), (mnn, .inl (cI, 4, .inl mnnf_66)), (mwo, .inl (cJ, 12, .inr (.inl mwof_66))), (mro, .inl (cI, 3600, .inl mrof_66)), (mle, .inl (cI, 300, .inl mlef_66)), (mp, .inl (cI, 10, .inl mpf)), (m0, .inr (8, [.int mth, .int mst, .ref mp, .int mln, .ref mk, .int mts, .ref mti, .ref mtw, .ref mi, .int mmn_16, .ref mpo, .int mpd_66, .ref mpi, .int mpl_66, .int mcp_66, .ref mre, .ref mnn, .ref mwo, .ref mga, .ref mlo, .ref mro, .ref mle, .ref mra, .int mme_66, .ref mha, .int mch, .int mtm_66, .int mgo, .int mwa, .ref mba, .int mmn_16, .ref mon])), (mi, .inl (cI, 12, .inl mif_17)), (mba, .inl (cI, 12, .inl (upd mbaf_143 L3_143.toNatClampNeg v43)))] H := hP
                                  have hD : va_D A [(mk, .inl (cI, 4, .inl mkf)), (mti, .inl (cI, 32, .inl mtif)), (mtw, .inl (cI, 8, .inl mtwf)), (mpo, .inl (cI, 12, .inl mpof_66)), (mpi, .inl (cI, 26, .inl mpif_66)), (mre, .inl (cI, 12, .inl mref_66)), (mnn, .inl (cI, 4, .inl mnnf_66)), (mwo, .inl (cJ, 12, .inr (.inl mwof_66))), (mro, .inl (cI, 3600, .inl mrof_66)), (mle, .inl (cI, 300, .inl mlef_66)), (mp, .inl (cI, 10, .inl mpf)), (m0, .inr (8, [.int mth, .int mst, .ref mp, .int mln, .ref mk, .int mts, .ref mti, .ref mtw, .ref mi, .int mmn_16, .ref mpo, .int mpd_66, .ref mpi, .int mpl_66, .int mcp_66, .ref mre, .ref mnn, .ref mwo, .ref mga, .ref mlo, .ref mro, .ref mle, .ref mra, .int mme_66, .ref mha, .int mch, .int mtm_66, .int mgo, .int mwa, .ref mba, .int mmn_16, .ref mon])), (mi, .inl (cI, 12, .inl mif_17)), (mba, .inl (cI, 12, .inl (upd mbaf_143 L3_143.toNatClampNeg v43)))] := hD
                                  generalize ef44 : upd mbaf_143 L3_143.toNatClampNeg v43 = f44 at hP hD
                                  obtain ⟨v45, ev45⟩ : ∃ y : Int32, y = L3_143 + 1 := ⟨_, rfl⟩
                                  try have hv45 : v45.toInt = L3_143.toInt + (1 : Int32).toInt := I_addx ev45 (by omega)
                                  refine lv_iinc (v := v45) (lv' := [(3, .int v45), (2, .int L2_66), (0, .ref m0), (1, .int x)]) hx hb dX9_search_163 hl (k := 0) rfl (by rw [ev45]; rfl) (by decide) rfl (fun ls hl => ?_)
                                  refine lv_goto (tgt := 143) hx hb dX9_search_166 (by decide) ?_
                                  exact ih143 v45 f44 (by first | assumption | omega) (by omega) H locs ls hP hD hS hl
                            exact J143 ((12 - (0 : Int32).toInt).toNat + 1) 0 mbaf_96 (by first | assumption | omega) (by omega) H locs ls hP hD hS hl
                          · have c21' := I_eq c21
                            refine lv_goto (tgt := 173) hx hb dX9_search_130 (by decide) ?_
                            exact J173 mmn_16 mif_17 mpd_66 mpl_66 mcp_66 mpof_66 mpif_66 mref_66 mnnf_66 mwof_66 mme_66 mtm_66 mrof_66 mlef_66 mbaf_96 mln (by first | assumption | omega) (by first | assumption | omega) (by first | assumption | omega) (by first | assumption | omega) (by first | assumption | omega) H locs ls (hP.sub (ws' := [(mk, .inl (cI, 4, .inl mkf)), (mti, .inl (cI, 32, .inl mtif)), (mtw, .inl (cI, 8, .inl mtwf)), (mpo, .inl (cI, 12, .inl mpof_66)), (mpi, .inl (cI, 26, .inl mpif_66)), (mre, .inl (cI, 12, .inl mref_66)), (mnn, .inl (cI, 4, .inl mnnf_66)), (mwo, .inl (cJ, 12, .inr (.inl mwof_66))), (mro, .inl (cI, 3600, .inl mrof_66)), (mle, .inl (cI, 300, .inl mlef_66)), (mba, .inl (cI, 12, .inl mbaf_96)), (m0, .inr (8, [.int mth, .int mst, .ref mp, .int mln, .ref mk, .int mts, .ref mti, .ref mtw, .ref mi, .int mmn_16, .ref mpo, .int mpd_66, .ref mpi, .int mpl_66, .int mcp_66, .ref mre, .ref mnn, .ref mwo, .ref mga, .ref mlo, .ref mro, .ref mle, .ref mra, .int mme_66, .ref mha, .int mch, .int mtm_66, .int mgo, .int mwa, .ref mba, .int mln, .ref mon])), (mp, .inl (cI, 10, .inl mpf)), (mi, .inl (cI, 12, .inl mif_17))]) [0, 1, 2, 3, 4, 5, 6, 7, 8, 9, 13, 11, 10, 12] rfl) (hD.sub (ws' := [(mk, .inl (cI, 4, .inl mkf)), (mti, .inl (cI, 32, .inl mtif)), (mtw, .inl (cI, 8, .inl mtwf)), (mpo, .inl (cI, 12, .inl mpof_66)), (mpi, .inl (cI, 26, .inl mpif_66)), (mre, .inl (cI, 12, .inl mref_66)), (mnn, .inl (cI, 4, .inl mnnf_66)), (mwo, .inl (cJ, 12, .inr (.inl mwof_66))), (mro, .inl (cI, 3600, .inl mrof_66)), (mle, .inl (cI, 300, .inl mlef_66)), (mba, .inl (cI, 12, .inl mbaf_96)), (m0, .inr (8, [.int mth, .int mst, .ref mp, .int mln, .ref mk, .int mts, .ref mti, .ref mtw, .ref mi, .int mmn_16, .ref mpo, .int mpd_66, .ref mpi, .int mpl_66, .int mcp_66, .ref mre, .ref mnn, .ref mwo, .ref mga, .ref mlo, .ref mro, .ref mle, .ref mra, .int mme_66, .ref mha, .int mch, .int mtm_66, .int mgo, .int mwa, .ref mba, .int mln, .ref mon])), (mp, .inl (cI, 10, .inl mpf)), (mi, .inl (cI, 12, .inl mif_17))]) [0, 1, 2, 3, 4, 5, 6, 7, 8, 9, 13, 11, 10, 12] (by decide) rfl) hS (lv_sub hl [1, 2, 3] rfl)
                        · have c13' := I_nle c13
                          refine lv_aload_n hx hb dX9_search_104 rfl (lv_at hl 2 rfl) ?_
                          refine va_get (D := (dC, dI)) (ci := 8) (v := .ref mba) (C := RX9) (T := TX9) (N := 32) hx hb hts inG_X9 hown hK hP 11 rfl rfl 29 (by decide) (hts _ fl_X9_63) (fun _ h9 => h9) rfl dX9_search_105 ?_
                          refine lv_iload_n hx hb dX9_search_108 rfl (lv_at hl 0 rfl) ?_
                          refine lv_aload_n hx hb dX9_search_109 rfl (lv_at hl 2 rfl) ?_
                          refine va_get (D := (dC, dI)) (ci := 8) (v := .ref mp) (C := RX9) (T := TX9) (N := 32) hx hb hts inG_X9 hown hK hP 11 rfl rfl 2 (by decide) (hts _ fl_X9_7) (fun _ h9 => h9) rfl dX9_search_110 ?_
                          refine lv_iload_n hx hb dX9_search_113 rfl (lv_at hl 0 rfl) ?_
                          refine va_iald (t0 := 0) hx hb hK hP 12 (ha := rfl) (ht := rfl) (I_in (by omega) (by omega)) dX9_search_114 ?_
                          refine lv_topi (fun v46 ev46 => ?_)
                          refine va_iast (t0 := 0) hx hb hK hP hD hS 10 (ha := rfl) (ht := rfl) (I_in (by omega) (by omega)) dX9_search_115 (fun H locs hP hD hS => ?_)
                          have hP : va_P (dC, dI) vwCl [(mk, .inl (cI, 4, .inl mkf)), (mti, .inl (cI, 32, .inl mtif)), (mtw, .inl (cI, 8, .inl mtwf)), (mpo, .inl (cI, 12, .inl mpof_66)), (mpi, .inl (cI, 26, .inl mpif_66)), (mre, .inl (cI, 12, .inl mref_66)), (mnn, .inl (cI, 4, .inl mnnf_66)), (mwo, .inl (cJ, 12, .inr (.inl mwof_66))), (mro, .inl (cI, 3600, .inl mrof_66)), (mle, .inl (cI, 300, .inl mlef_66)), (mba, .inl (cI, 12, .inl (upd mbaf_96 L3_96.toNatClampNeg v46))), (m0, .inr (8, [.int mth, .int mst, .ref mp, .int mln, .ref mk, .int mts, .ref mti, .ref mtw, .ref mi, .int mmn_66, .ref mpo, .int mpd_66, .ref mpi, .int mpl_66, .int mcp_66, .ref mre, .ref mnn, .ref mwo, .ref mga, .ref mlo, .ref mro, .ref mle, .ref mra, .int mme_66, .ref mha, .int mch, .int mtm_66, .int mgo, .int mwa, .ref mba, .int mln, .ref mon])), (mp, .inl (cI, 10, .inl mpf)), (mi, .inl (cI, 12, .inl mif_66))] H := hP
                          have hD : va_D A [(mk, .inl (cI, 4, .inl mkf)), (mti, .inl (cI, 32, .inl mtif)), (mtw, .inl (cI, 8, .inl mtwf)), (mpo, .inl (cI, 12, .inl mpof_66)), (mpi, .inl (cI, 26, .inl mpif_66)), (mre, .inl (cI, 12, .inl mref_66)), (mnn, .inl (cI, 4, .inl mnnf_66)), (mwo, .inl (cJ, 12, .inr (.inl mwof_66))), (mro, .inl (cI, 3600, .inl mrof_66)), (mle, .inl (cI, 300, .inl mlef_66)), (mba, .inl (cI, 12, .inl (upd mbaf_96 L3_96.toNatClampNeg v46))), (m0, .inr (8, [.int mth, .int mst, .ref mp, .int mln, .ref mk, .int mts, .ref mti, .ref mtw, .ref mi, .int mmn_66, .ref mpo, .int mpd_66, .ref mpi, .int mpl_66, .int mcp_66, .ref mre, .ref mnn, .ref mwo, .ref mga, .ref mlo, .ref mro, .ref mle, .ref mra, .int mme_66, .ref mha, .int mch, .int mtm_66, .int mgo, .int mwa, .ref mba, .int mln, .ref mon])), (mp, .inl (cI, 10, .inl mpf)), (mi, .inl (cI, 12, .inl mif_66))] := hD
                          generalize ef47 : upd mbaf_96 L3_96.toNatClampNeg v46 = f47 at hP hD
                          obtain ⟨v48, ev48⟩ : ∃ y : Int32, y = L3_96 + 1 := ⟨_, rfl⟩
                          try have hv48 : v48.toInt = L3_96.toInt + (1 : Int32).toInt := I_addx ev48 (by omega)
                          refine lv_iinc (v := v48) (lv' := [(3, .int v48), (2, .int L2_66), (0, .ref m0), (1, .int x)]) hx hb dX9_search_116 hl (k := 0) rfl (by rw [ev48]; rfl) (by decide) rfl (fun ls hl => ?_)
                          refine lv_goto (tgt := 96) hx hb dX9_search_119 (by decide) ?_
                          exact ih96 v48 f47 (by first | assumption | omega) (by omega) H locs ls hP hD hS hl
                    exact J96 ((10 - (0 : Int32).toInt).toNat + 1) 0 mbaf_66 (by first | assumption | omega) (by omega) H locs ls hP hD hS hl
            exact J66 ((684 - (0 : Int32).toInt).toNat + 1) 0 mmn_2 mif_3 mpd mpl mcp mpof mpif mref mnnf mwof 0 mtm mrof mlef mbaf_28 mln (by first | assumption | omega) (by first | assumption | omega) (by first | assumption | omega) (by first | assumption | omega) (by first | assumption | omega) (by first | assumption | omega) (by omega) H locs ls hP hD hS hl
          · have c7' := I_eq c7
            refine lv_aload_n hx hb dX9_search_59 rfl (lv_at hl 1 rfl) ?_
            refine calV (rest := []) (wr := [(mp, .inl (cI, 10, .inl mpf))]) hG (c_X9_fromBase l dC dI cI cJ base bB bO m0 mth mst mp mln mk mts mti mtw mi mmn_2 mpo mpd mpi mpl mcp mre mnn mwo mga mlo mro mle mra 0 mha mch mtm mgo mwa mba mln mon mkf mtif mtwf mif_3 mpof mpif mref mnnf mwof mrof mlef mbaf_28 (by first | assumption | omega) (by first | assumption | omega) (by first | assumption | omega) (by first | assumption | omega) (by first | assumption | omega) (by first | assumption | omega) (by first | assumption | omega)) ml_X9_186 im_X9_fromBase se_X9_fromBase ini_X9 cd_X9_fromBase hd_X9_fromBase ⟨(Nat.le_of_ble_eq_true rfl), (Nat.le_of_ble_eq_true rfl)⟩ (Nat.le_of_ble_eq_true rfl) (Nat.le_of_ble_eq_true rfl) hP hD hS [11, 0, 1, 2, 13, 3, 4, 5, 6, 7, 8, 9, 10] [12] rfl rfl rfl rfl (by decide) 8 11 rfl rfl hl.1 rfl (Nat.le_of_ble_eq_true rfl) dX9_search_60 (fun u H locs hw49 hP hD hS => ?_)
            obtain ⟨mmn_50, mif_51, mpd_52, mpl_53, mcp_54, mpof_55, mpif_56, mref_57, mnnf_58, mwof_59, mme_60, mtm_61, mrof_62, mlef_63⟩ := u
            have hw49 : (0 ≤ mmn_50.toInt ∧ mmn_50.toInt ≤ 12) ∧ (mcp_54.toInt = 0 ∨ mcp_54.toInt = 1) ∧ (0 ≤ mme_60.toInt ∧ mme_60.toInt ≤ 300) ∧ (mtm_61.toInt = 0 ∨ mtm_61.toInt = 1) ∧ (∀ j : Nat, 0 ≤ (mlef_63 j).toInt ∧ (mlef_63 j).toInt ≤ 12) ∧ True := hw49
            obtain ⟨hp64, hp65, hp66, hp67, hp68, -⟩ := hw49
            have hP : va_P (dC, dI) vwCl [(mp, .inl (cI, 10, .inl mpf)), (m0, .inr (8, [.int mth, .int mst, .ref mp, .int mln, .ref mk, .int mts, .ref mti, .ref mtw, .ref mi, .int mmn_50, .ref mpo, .int mpd_52, .ref mpi, .int mpl_53, .int mcp_54, .ref mre, .ref mnn, .ref mwo, .ref mga, .ref mlo, .ref mro, .ref mle, .ref mra, .int mme_60, .ref mha, .int mch, .int mtm_61, .int mgo, .int mwa, .ref mba, .int mln, .ref mon])), (mk, .inl (cI, 4, .inl mkf)), (mti, .inl (cI, 32, .inl mtif)), (mtw, .inl (cI, 8, .inl mtwf)), (mi, .inl (cI, 12, .inl mif_51)), (mpo, .inl (cI, 12, .inl mpof_55)), (mpi, .inl (cI, 26, .inl mpif_56)), (mre, .inl (cI, 12, .inl mref_57)), (mnn, .inl (cI, 4, .inl mnnf_58)), (mwo, .inl (cJ, 12, .inr (.inl mwof_59))), (mro, .inl (cI, 3600, .inl mrof_62)), (mle, .inl (cI, 300, .inl mlef_63)), (mba, .inl (cI, 12, .inl mbaf_28))] H := hP
            have hD : va_D A [(mp, .inl (cI, 10, .inl mpf)), (m0, .inr (8, [.int mth, .int mst, .ref mp, .int mln, .ref mk, .int mts, .ref mti, .ref mtw, .ref mi, .int mmn_50, .ref mpo, .int mpd_52, .ref mpi, .int mpl_53, .int mcp_54, .ref mre, .ref mnn, .ref mwo, .ref mga, .ref mlo, .ref mro, .ref mle, .ref mra, .int mme_60, .ref mha, .int mch, .int mtm_61, .int mgo, .int mwa, .ref mba, .int mln, .ref mon])), (mk, .inl (cI, 4, .inl mkf)), (mti, .inl (cI, 32, .inl mtif)), (mtw, .inl (cI, 8, .inl mtwf)), (mi, .inl (cI, 12, .inl mif_51)), (mpo, .inl (cI, 12, .inl mpof_55)), (mpi, .inl (cI, 26, .inl mpif_56)), (mre, .inl (cI, 12, .inl mref_57)), (mnn, .inl (cI, 4, .inl mnnf_58)), (mwo, .inl (cJ, 12, .inr (.inl mwof_59))), (mro, .inl (cI, 3600, .inl mrof_62)), (mle, .inl (cI, 300, .inl mlef_63)), (mba, .inl (cI, 12, .inl mbaf_28))] := hD
            exact hret (mmn_50, mif_51, mpd_52, mpl_53, mcp_54, mpof_55, mpif_56, mref_57, mnnf_58, mwof_59, mme_60, mtm_61, mrof_62, mlef_63, mbaf_28, mln) H locs 63 ls ⟨(show 0 ≤ mmn_50.toInt ∧ mmn_50.toInt ≤ 12 from by first | rfl | assumption | omega), (show mcp_54.toInt = 0 ∨ mcp_54.toInt = 1 from by first | rfl | assumption | omega), (show 0 ≤ mme_60.toInt ∧ mme_60.toInt ≤ 300 from by first | rfl | assumption | omega), (show mtm_61.toInt = 0 ∨ mtm_61.toInt = 1 from by first | rfl | assumption | omega), (show ∀ j : Nat, 0 ≤ (mlef_63 j).toInt ∧ (mlef_63 j).toInt ≤ 12 from by first | rfl | assumption | omega), trivial⟩ (hP.sub (ws' := [(m0, .inr (8, [.int mth, .int mst, .ref mp, .int mln, .ref mk, .int mts, .ref mti, .ref mtw, .ref mi, .int mmn_50, .ref mpo, .int mpd_52, .ref mpi, .int mpl_53, .int mcp_54, .ref mre, .ref mnn, .ref mwo, .ref mga, .ref mlo, .ref mro, .ref mle, .ref mra, .int mme_60, .ref mha, .int mch, .int mtm_61, .int mgo, .int mwa, .ref mba, .int mln, .ref mon])), (mp, .inl (cI, 10, .inl mpf)), (mk, .inl (cI, 4, .inl mkf)), (mti, .inl (cI, 32, .inl mtif)), (mtw, .inl (cI, 8, .inl mtwf)), (mi, .inl (cI, 12, .inl mif_51)), (mpo, .inl (cI, 12, .inl mpof_55)), (mpi, .inl (cI, 26, .inl mpif_56)), (mre, .inl (cI, 12, .inl mref_57)), (mnn, .inl (cI, 4, .inl mnnf_58)), (mwo, .inl (cJ, 12, .inr (.inl mwof_59))), (mro, .inl (cI, 3600, .inl mrof_62)), (mle, .inl (cI, 300, .inl mlef_63)), (mba, .inl (cI, 12, .inl mbaf_28))]) [1, 0, 2, 3, 4, 5, 6, 7, 8, 9, 10, 11, 12, 13] rfl) (hD.sub (ws' := [(m0, .inr (8, [.int mth, .int mst, .ref mp, .int mln, .ref mk, .int mts, .ref mti, .ref mtw, .ref mi, .int mmn_50, .ref mpo, .int mpd_52, .ref mpi, .int mpl_53, .int mcp_54, .ref mre, .ref mnn, .ref mwo, .ref mga, .ref mlo, .ref mro, .ref mle, .ref mra, .int mme_60, .ref mha, .int mch, .int mtm_61, .int mgo, .int mwa, .ref mba, .int mln, .ref mon])), (mp, .inl (cI, 10, .inl mpf)), (mk, .inl (cI, 4, .inl mkf)), (mti, .inl (cI, 32, .inl mtif)), (mtw, .inl (cI, 8, .inl mtwf)), (mi, .inl (cI, 12, .inl mif_51)), (mpo, .inl (cI, 12, .inl mpof_55)), (mpi, .inl (cI, 26, .inl mpif_56)), (mre, .inl (cI, 12, .inl mref_57)), (mnn, .inl (cI, 4, .inl mnnf_58)), (mwo, .inl (cJ, 12, .inr (.inl mwof_59))), (mro, .inl (cI, 3600, .inl mrof_62)), (mle, .inl (cI, 300, .inl mlef_63)), (mba, .inl (cI, 12, .inl mbaf_28))]) [1, 0, 2, 3, 4, 5, 6, 7, 8, 9, 10, 11, 12, 13] (by decide) rfl) hS dX9_search_63
        · have c6' := I_nle c6
          refine lv_aload_n hx hb dX9_search_36 rfl (lv_at hl 1 rfl) ?_
          refine va_get (D := (dC, dI)) (ci := 8) (v := .ref mba) (C := RX9) (T := TX9) (N := 32) hx hb hts inG_X9 hown hK hP 11 rfl rfl 29 (by decide) (hts _ fl_X9_63) (fun _ h9 => h9) rfl dX9_search_37 ?_
          refine lv_iload_n hx hb dX9_search_40 rfl (lv_at hl 0 rfl) ?_
          refine lv_aload_n hx hb dX9_search_41 rfl (lv_at hl 1 rfl) ?_
          refine va_get (D := (dC, dI)) (ci := 8) (v := .ref mp) (C := RX9) (T := TX9) (N := 32) hx hb hts inG_X9 hown hK hP 11 rfl rfl 2 (by decide) (hts _ fl_X9_7) (fun _ h9 => h9) rfl dX9_search_42 ?_
          refine lv_iload_n hx hb dX9_search_45 rfl (lv_at hl 0 rfl) ?_
          refine va_iald (t0 := 0) hx hb hK hP 12 (ha := rfl) (ht := rfl) (I_in (by omega) (by omega)) dX9_search_46 ?_
          refine lv_topi (fun v69 ev69 => ?_)
          refine va_iast (t0 := 0) hx hb hK hP hD hS 10 (ha := rfl) (ht := rfl) (I_in (by omega) (by omega)) dX9_search_47 (fun H locs hP hD hS => ?_)
          have hP : va_P (dC, dI) vwCl [(mk, .inl (cI, 4, .inl mkf)), (mti, .inl (cI, 32, .inl mtif)), (mtw, .inl (cI, 8, .inl mtwf)), (mpo, .inl (cI, 12, .inl mpof)), (mpi, .inl (cI, 26, .inl mpif)), (mre, .inl (cI, 12, .inl mref)), (mnn, .inl (cI, 4, .inl mnnf)), (mwo, .inl (cJ, 12, .inr (.inl mwof))), (mro, .inl (cI, 3600, .inl mrof)), (mle, .inl (cI, 300, .inl mlef)), (mba, .inl (cI, 12, .inl (upd mbaf_28 L2_28.toNatClampNeg v69))), (m0, .inr (8, [.int mth, .int mst, .ref mp, .int mln, .ref mk, .int mts, .ref mti, .ref mtw, .ref mi, .int mmn_2, .ref mpo, .int mpd, .ref mpi, .int mpl, .int mcp, .ref mre, .ref mnn, .ref mwo, .ref mga, .ref mlo, .ref mro, .ref mle, .ref mra, .int 0, .ref mha, .int mch, .int mtm, .int mgo, .int mwa, .ref mba, .int mln, .ref mon])), (mp, .inl (cI, 10, .inl mpf)), (mi, .inl (cI, 12, .inl mif_3))] H := hP
          have hD : va_D A [(mk, .inl (cI, 4, .inl mkf)), (mti, .inl (cI, 32, .inl mtif)), (mtw, .inl (cI, 8, .inl mtwf)), (mpo, .inl (cI, 12, .inl mpof)), (mpi, .inl (cI, 26, .inl mpif)), (mre, .inl (cI, 12, .inl mref)), (mnn, .inl (cI, 4, .inl mnnf)), (mwo, .inl (cJ, 12, .inr (.inl mwof))), (mro, .inl (cI, 3600, .inl mrof)), (mle, .inl (cI, 300, .inl mlef)), (mba, .inl (cI, 12, .inl (upd mbaf_28 L2_28.toNatClampNeg v69))), (m0, .inr (8, [.int mth, .int mst, .ref mp, .int mln, .ref mk, .int mts, .ref mti, .ref mtw, .ref mi, .int mmn_2, .ref mpo, .int mpd, .ref mpi, .int mpl, .int mcp, .ref mre, .ref mnn, .ref mwo, .ref mga, .ref mlo, .ref mro, .ref mle, .ref mra, .int 0, .ref mha, .int mch, .int mtm, .int mgo, .int mwa, .ref mba, .int mln, .ref mon])), (mp, .inl (cI, 10, .inl mpf)), (mi, .inl (cI, 12, .inl mif_3))] := hD
          generalize ef70 : upd mbaf_28 L2_28.toNatClampNeg v69 = f70 at hP hD
          obtain ⟨v71, ev71⟩ : ∃ y : Int32, y = L2_28 + 1 := ⟨_, rfl⟩
          try have hv71 : v71.toInt = L2_28.toInt + (1 : Int32).toInt := I_addx ev71 (by omega)
          refine lv_iinc (v := v71) (lv' := [(2, .int v71), (0, .ref m0), (1, .int x)]) hx hb dX9_search_48 hl (k := 0) rfl (by rw [ev71]; rfl) (by decide) rfl (fun ls hl => ?_)
          refine lv_goto (tgt := 28) hx hb dX9_search_51 (by decide) ?_
          exact ih28 v71 f70 (by first | assumption | omega) (by omega) H locs ls hP hD hS hl
    exact J28 ((10 - (0 : Int32).toInt).toNat + 1) 0 mbaf (by first | assumption | omega) (by omega) H locs ls hP hD hS hl
  · have c5' := I_eq c5
    refine lv_aload_n hx hb dX9_search_13 rfl (lv_at hl 0 rfl) ?_
    refine calV (rest := []) (wr := [(mba, .inl (cI, 12, .inl mbaf)), (mp, .inl (cI, 10, .inl mpf))]) hG (c_X9_look l dC dI cI cJ base bB bO m0 mth mst mp mln mk mts mti mtw mi mmn_2 mpo mpd mpi mpl mcp mre mnn mwo mga mlo mro mle mra 0 mha mch mtm mgo mwa mba mbl mon mkf mtif mtwf mif_3 mpof mpif mref mnnf mwof mrof mlef (by first | assumption | omega) (by first | assumption | omega) (by first | assumption | omega) (by first | assumption | omega) (by first | assumption | omega) (by first | assumption | omega)) ml_X9_183 im_X9_look se_X9_look ini_X9 cd_X9_look hd_X9_look ⟨(Nat.le_of_ble_eq_true rfl), (Nat.le_of_ble_eq_true rfl)⟩ (Nat.le_of_ble_eq_true rfl) (Nat.le_of_ble_eq_true rfl) hP hD hS [11, 0, 1, 2, 13, 3, 4, 5, 6, 7, 8, 9] [10, 12] rfl rfl rfl rfl (by decide) 8 11 rfl rfl hl.1 rfl (Nat.le_of_ble_eq_true rfl) dX9_search_14 (fun u H locs hw72 hP hD hS => ?_)
    obtain ⟨mpd_73, mpl_74, mcp_75, mpof_76, mpif_77, mref_78, mnnf_79, mwof_80, mme_81, mtm_82, mrof_83, mlef_84⟩ := u
    have hw72 : (mcp_75.toInt = 0 ∨ mcp_75.toInt = 1) ∧ (0 ≤ mme_81.toInt ∧ mme_81.toInt ≤ 300) ∧ (mtm_82.toInt = 0 ∨ mtm_82.toInt = 1) ∧ (∀ j : Nat, 0 ≤ (mlef_84 j).toInt ∧ (mlef_84 j).toInt ≤ 12) ∧ True := hw72
    obtain ⟨hp85, hp86, hp87, hp88, -⟩ := hw72
    have hP : va_P (dC, dI) vwCl [(mba, .inl (cI, 12, .inl mbaf)), (mp, .inl (cI, 10, .inl mpf)), (m0, .inr (8, [.int mth, .int mst, .ref mp, .int mln, .ref mk, .int mts, .ref mti, .ref mtw, .ref mi, .int mmn_2, .ref mpo, .int mpd_73, .ref mpi, .int mpl_74, .int mcp_75, .ref mre, .ref mnn, .ref mwo, .ref mga, .ref mlo, .ref mro, .ref mle, .ref mra, .int mme_81, .ref mha, .int mch, .int mtm_82, .int mgo, .int mwa, .ref mba, .int mbl, .ref mon])), (mk, .inl (cI, 4, .inl mkf)), (mti, .inl (cI, 32, .inl mtif)), (mtw, .inl (cI, 8, .inl mtwf)), (mi, .inl (cI, 12, .inl mif_3)), (mpo, .inl (cI, 12, .inl mpof_76)), (mpi, .inl (cI, 26, .inl mpif_77)), (mre, .inl (cI, 12, .inl mref_78)), (mnn, .inl (cI, 4, .inl mnnf_79)), (mwo, .inl (cJ, 12, .inr (.inl mwof_80))), (mro, .inl (cI, 3600, .inl mrof_83)), (mle, .inl (cI, 300, .inl mlef_84))] H := hP
    have hD : va_D A [(mba, .inl (cI, 12, .inl mbaf)), (mp, .inl (cI, 10, .inl mpf)), (m0, .inr (8, [.int mth, .int mst, .ref mp, .int mln, .ref mk, .int mts, .ref mti, .ref mtw, .ref mi, .int mmn_2, .ref mpo, .int mpd_73, .ref mpi, .int mpl_74, .int mcp_75, .ref mre, .ref mnn, .ref mwo, .ref mga, .ref mlo, .ref mro, .ref mle, .ref mra, .int mme_81, .ref mha, .int mch, .int mtm_82, .int mgo, .int mwa, .ref mba, .int mbl, .ref mon])), (mk, .inl (cI, 4, .inl mkf)), (mti, .inl (cI, 32, .inl mtif)), (mtw, .inl (cI, 8, .inl mtwf)), (mi, .inl (cI, 12, .inl mif_3)), (mpo, .inl (cI, 12, .inl mpof_76)), (mpi, .inl (cI, 26, .inl mpif_77)), (mre, .inl (cI, 12, .inl mref_78)), (mnn, .inl (cI, 4, .inl mnnf_79)), (mwo, .inl (cJ, 12, .inr (.inl mwof_80))), (mro, .inl (cI, 3600, .inl mrof_83)), (mle, .inl (cI, 300, .inl mlef_84))] := hD
    exact hret (mmn_2, mif_3, mpd_73, mpl_74, mcp_75, mpof_76, mpif_77, mref_78, mnnf_79, mwof_80, mme_81, mtm_82, mrof_83, mlef_84, mbaf, mbl) H locs 17 ls ⟨(show 0 ≤ mmn_2.toInt ∧ mmn_2.toInt ≤ 12 from by first | rfl | assumption | omega), (show mcp_75.toInt = 0 ∨ mcp_75.toInt = 1 from by first | rfl | assumption | omega), (show 0 ≤ mme_81.toInt ∧ mme_81.toInt ≤ 300 from by first | rfl | assumption | omega), (show mtm_82.toInt = 0 ∨ mtm_82.toInt = 1 from by first | rfl | assumption | omega), (show ∀ j : Nat, 0 ≤ (mlef_84 j).toInt ∧ (mlef_84 j).toInt ≤ 12 from by first | rfl | assumption | omega), trivial⟩ (hP.sub (ws' := [(m0, .inr (8, [.int mth, .int mst, .ref mp, .int mln, .ref mk, .int mts, .ref mti, .ref mtw, .ref mi, .int mmn_2, .ref mpo, .int mpd_73, .ref mpi, .int mpl_74, .int mcp_75, .ref mre, .ref mnn, .ref mwo, .ref mga, .ref mlo, .ref mro, .ref mle, .ref mra, .int mme_81, .ref mha, .int mch, .int mtm_82, .int mgo, .int mwa, .ref mba, .int mbl, .ref mon])), (mp, .inl (cI, 10, .inl mpf)), (mk, .inl (cI, 4, .inl mkf)), (mti, .inl (cI, 32, .inl mtif)), (mtw, .inl (cI, 8, .inl mtwf)), (mi, .inl (cI, 12, .inl mif_3)), (mpo, .inl (cI, 12, .inl mpof_76)), (mpi, .inl (cI, 26, .inl mpif_77)), (mre, .inl (cI, 12, .inl mref_78)), (mnn, .inl (cI, 4, .inl mnnf_79)), (mwo, .inl (cJ, 12, .inr (.inl mwof_80))), (mro, .inl (cI, 3600, .inl mrof_83)), (mle, .inl (cI, 300, .inl mlef_84)), (mba, .inl (cI, 12, .inl mbaf))]) [2, 1, 3, 4, 5, 6, 7, 8, 9, 10, 11, 12, 13, 0] rfl) (hD.sub (ws' := [(m0, .inr (8, [.int mth, .int mst, .ref mp, .int mln, .ref mk, .int mts, .ref mti, .ref mtw, .ref mi, .int mmn_2, .ref mpo, .int mpd_73, .ref mpi, .int mpl_74, .int mcp_75, .ref mre, .ref mnn, .ref mwo, .ref mga, .ref mlo, .ref mro, .ref mle, .ref mra, .int mme_81, .ref mha, .int mch, .int mtm_82, .int mgo, .int mwa, .ref mba, .int mbl, .ref mon])), (mp, .inl (cI, 10, .inl mpf)), (mk, .inl (cI, 4, .inl mkf)), (mti, .inl (cI, 32, .inl mtif)), (mtw, .inl (cI, 8, .inl mtwf)), (mi, .inl (cI, 12, .inl mif_3)), (mpo, .inl (cI, 12, .inl mpof_76)), (mpi, .inl (cI, 26, .inl mpif_77)), (mre, .inl (cI, 12, .inl mref_78)), (mnn, .inl (cI, 4, .inl mnnf_79)), (mwo, .inl (cJ, 12, .inr (.inl mwof_80))), (mro, .inl (cI, 3600, .inl mrof_83)), (mle, .inl (cI, 300, .inl mlef_84)), (mba, .inl (cI, 12, .inl mbaf))]) [2, 1, 3, 4, 5, 6, 7, 8, 9, 10, 11, 12, 13, 0] (by decide) rfl) hS dX9_search_17
set_option maxHeartbeats 4000000 in
set_option maxRecDepth 100000 in
theorem c_X9_often (l : Launch) (dC : Nat → ClassId) (dI : Nat → Nat → Nat) (cI cJ : ClassId) (base bB bO : Nat) (b0 : Nat) (b0f : Nat → Int32) (i : Int32) (x : Int32) (y : Int32) (hq0 : 0 ≤ i.toInt ∧ 0 ≤ x.toInt ∧ i.toInt + x.toInt ≤ 10) : CtI l dC dI cI cJ base bB bO yX9_often cX9_often 6 .int 0 0 [.ref b0, .int i, .int x, .int y] [(b0, .inl (cI, 10, .inl b0f))] (Unit) (fun (res : Int32) (u : Unit) => True) (fun (u : Unit) => [(b0, .inl (cI, 10, .inl b0f))]) := by
  refine entI (by decide) (Nat.le_of_ble_eq_true rfl) ?_
  intro p e s m below meth c A Q ls hAt hret hP hD hS hl
  obtain ⟨hx, hb, hml, hown, hts, hA, hAb, hK, hE, hlocks, hin⟩ := hAt
  have hG : CG dC dI cI cJ base bB bO cX9_often 6 RX9 p s m (List.toArray [.ref b0, .int i, .int x, .int y]) c A := ⟨hx, hb, hml, hown, hts, hA, hAb, hK, hE⟩
  have hl : lv_has ls 6 [(0, .ref b0), (1, .int i), (2, .int x), (3, .int y)] := hl
  have c_0 : (0 : Int32).toInt = 0 := by decide
  have c_1 : (1 : Int32).toInt = 1 := by decide
  obtain ⟨H, hHe⟩ : ∃ H : Heap, H = s.heap := ⟨_, rfl⟩
  obtain ⟨locs, hle⟩ : ∃ z : List Loc, z = [] := ⟨_, rfl⟩
  rw [← hHe] at hP
  have hS : va_S A s.heap H locs := by rw [hHe, hle]; exact hS
  suffices hgo : W p l e { frames := 0, cells := 0, slots := 0, locals := 0 } s m (List.toArray [.ref b0, .int i, .int x, .int y]) below meth c H locs 0 0 Q (F0 m 0 ls []) by rw [hHe, hle] at hgo; exact hgo
  refine lv_iconst (v := 0) hx hb dX9_often_0 (by decide) ?_
  refine lv_istore (lv' := [(4, .int 0), (0, .ref b0), (1, .int i), (2, .int x), (3, .int y)]) hx hb dX9_often_1 hl (by decide) rfl (fun ls hl => ?_)
  refine lv_iload_n hx hb dX9_often_3 rfl (lv_at hl 2 rfl) ?_
  refine lv_istore (lv' := [(5, .int i), (4, .int 0), (0, .ref b0), (1, .int i), (2, .int x), (3, .int y)]) hx hb dX9_often_4 hl (by decide) rfl (fun ls hl => ?_)
  have J6 : ∀ (n : Nat) (L5_6 : Int32) (L4_6 : Int32), (0 ≤ L5_6.toInt ∧ L5_6.toInt ≤ 10) → (10 - L5_6.toInt) < (n : Int) → ∀ (H : Heap) (locs : List Loc) (ls : Array Slot), va_P (dC, dI) vwCl [(b0, .inl (cI, 10, .inl b0f))] H → va_D A [(b0, .inl (cI, 10, .inl b0f))] → va_S A s.heap H locs → lv_has ls 6 [(5, .int L5_6), (4, .int L4_6), (0, .ref b0), (1, .int i), (2, .int x), (3, .int y)] → W p l e { frames := 0, cells := 0, slots := 0, locals := 0 } s m (List.toArray [.ref b0, .int i, .int x, .int y]) below meth c H locs 0 0 Q (F0 m 6 ls []) := by
    intro n
    induction n with
    | zero =>
      intro L5_6 L4_6 hi0_6 hm
      exact absurd hm (by omega)
    | succ n ih6 =>
      intro L5_6 L4_6 hi0_6 hm6 H locs ls hP hD hS hl
      refine lv_iload hx hb dX9_often_6 (lv_at hl 0 rfl) ?_
      refine lv_iload_n hx hb dX9_often_8 rfl (lv_at hl 3 rfl) ?_
      refine lv_iload_n hx hb dX9_often_9 rfl (lv_at hl 4 rfl) ?_
      refine lv_iadd hx hb dX9_often_10 ?_
      refine lv_topi (fun v1 ev1 => ?_)
      try have hv1 : v1.toInt = i.toInt + x.toInt := I_addx ev1 (by omega)
      refine lv_icmp_ge (tgt := 38) hx hb dX9_often_11 (by decide) (fun c2 => ?_) (fun c2 => ?_)
      · have c2' := I_le c2
        refine lv_iload hx hb dX9_often_38 (lv_at hl 1 rfl) ?_
        exact hret L4_6 () H locs 40 ls rfl trivial hP hD hS dX9_often_40
      · have c2' := I_nle c2
        refine lv_iload hx hb dX9_often_14 (lv_at hl 1 rfl) ?_
        refine lv_aload_n hx hb dX9_often_16 rfl (lv_at hl 2 rfl) ?_
        refine lv_iload hx hb dX9_often_17 (lv_at hl 0 rfl) ?_
        refine va_iald (t0 := 0) hx hb hK hP 0 (ha := rfl) (ht := rfl) (I_in (by omega) (by omega)) dX9_often_19 ?_
        refine lv_topi (fun v3 ev3 => ?_)
        refine lv_iload_n hx hb dX9_often_20 rfl (lv_at hl 5 rfl) ?_
        refine lv_icmp_ne (tgt := 28) hx hb dX9_often_21 (by decide) (fun c4 => ?_) (fun c4 => ?_)
        · have c4' := I_ne c4
          refine lv_iconst (v := 0) hx hb dX9_often_28 (by decide) ?_
          refine lv_iadd hx hb dX9_often_29 ?_
          refine lv_topi (fun v5 ev5 => ?_)
          refine lv_istore (lv' := [(4, .int v5), (5, .int L5_6), (0, .ref b0), (1, .int i), (2, .int x), (3, .int y)]) hx hb dX9_often_30 hl (by decide) rfl (fun ls hl => ?_)
          obtain ⟨v6, ev6⟩ : ∃ y : Int32, y = L5_6 + 1 := ⟨_, rfl⟩
          try have hv6 : v6.toInt = L5_6.toInt + (1 : Int32).toInt := I_addx ev6 (by omega)
          refine lv_iinc (v := v6) (lv' := [(5, .int v6), (4, .int v5), (0, .ref b0), (1, .int i), (2, .int x), (3, .int y)]) hx hb dX9_often_32 hl (k := 1) rfl (by rw [ev6]; rfl) (by decide) rfl (fun ls hl => ?_)
          refine lv_goto (tgt := 6) hx hb dX9_often_35 (by decide) ?_
          exact ih6 v6 v5 (by first | assumption | omega) (by omega) H locs ls hP hD hS hl
        · have c4' := I_eq c4
          refine lv_iconst (v := 1) hx hb dX9_often_24 (by decide) ?_
          refine lv_goto (tgt := 29) hx hb dX9_often_25 (by decide) ?_
          refine lv_iadd hx hb dX9_often_29 ?_
          refine lv_topi (fun v7 ev7 => ?_)
          refine lv_istore (lv' := [(4, .int v7), (5, .int L5_6), (0, .ref b0), (1, .int i), (2, .int x), (3, .int y)]) hx hb dX9_often_30 hl (by decide) rfl (fun ls hl => ?_)
          obtain ⟨v8, ev8⟩ : ∃ y : Int32, y = L5_6 + 1 := ⟨_, rfl⟩
          try have hv8 : v8.toInt = L5_6.toInt + (1 : Int32).toInt := I_addx ev8 (by omega)
          refine lv_iinc (v := v8) (lv' := [(5, .int v8), (4, .int v7), (0, .ref b0), (1, .int i), (2, .int x), (3, .int y)]) hx hb dX9_often_32 hl (k := 1) rfl (by rw [ev8]; rfl) (by decide) rfl (fun ls hl => ?_)
          refine lv_goto (tgt := 6) hx hb dX9_often_35 (by decide) ?_
          exact ih6 v8 v7 (by first | assumption | omega) (by omega) H locs ls hP hD hS hl
  exact J6 ((10 - i.toInt).toNat + 1) i 0 (by first | assumption | omega) (by omega) H locs ls hP hD hS hl
set_option maxHeartbeats 4000000 in
set_option maxRecDepth 100000 in
theorem c_X9_often_b (l : Launch) (dC : Nat → ClassId) (dI : Nat → Nat → Nat) (cI cJ : ClassId) (base bB bO : Nat) (b0 : Nat) (b0f : Nat → Int32) (i : Int32) (x : Int32) (y : Int32) (hq0 : 0 ≤ i.toInt ∧ 0 ≤ x.toInt ∧ i.toInt + x.toInt ≤ 3600) : CtI l dC dI cI cJ base bB bO yX9_often cX9_often 6 .int 0 0 [.ref b0, .int i, .int x, .int y] [(b0, .inl (cI, 3600, .inl b0f))] (Unit) (fun (res : Int32) (u : Unit) => True) (fun (u : Unit) => [(b0, .inl (cI, 3600, .inl b0f))]) := by
  refine entI (by decide) (Nat.le_of_ble_eq_true rfl) ?_
  intro p e s m below meth c A Q ls hAt hret hP hD hS hl
  obtain ⟨hx, hb, hml, hown, hts, hA, hAb, hK, hE, hlocks, hin⟩ := hAt
  have hG : CG dC dI cI cJ base bB bO cX9_often 6 RX9 p s m (List.toArray [.ref b0, .int i, .int x, .int y]) c A := ⟨hx, hb, hml, hown, hts, hA, hAb, hK, hE⟩
  have hl : lv_has ls 6 [(0, .ref b0), (1, .int i), (2, .int x), (3, .int y)] := hl
  have c_0 : (0 : Int32).toInt = 0 := by decide
  have c_1 : (1 : Int32).toInt = 1 := by decide
  obtain ⟨H, hHe⟩ : ∃ H : Heap, H = s.heap := ⟨_, rfl⟩
  obtain ⟨locs, hle⟩ : ∃ z : List Loc, z = [] := ⟨_, rfl⟩
  rw [← hHe] at hP
  have hS : va_S A s.heap H locs := by rw [hHe, hle]; exact hS
  suffices hgo : W p l e { frames := 0, cells := 0, slots := 0, locals := 0 } s m (List.toArray [.ref b0, .int i, .int x, .int y]) below meth c H locs 0 0 Q (F0 m 0 ls []) by rw [hHe, hle] at hgo; exact hgo
  refine lv_iconst (v := 0) hx hb dX9_often_0 (by decide) ?_
  refine lv_istore (lv' := [(4, .int 0), (0, .ref b0), (1, .int i), (2, .int x), (3, .int y)]) hx hb dX9_often_1 hl (by decide) rfl (fun ls hl => ?_)
  refine lv_iload_n hx hb dX9_often_3 rfl (lv_at hl 2 rfl) ?_
  refine lv_istore (lv' := [(5, .int i), (4, .int 0), (0, .ref b0), (1, .int i), (2, .int x), (3, .int y)]) hx hb dX9_often_4 hl (by decide) rfl (fun ls hl => ?_)
  have J6 : ∀ (n : Nat) (L5_6 : Int32) (L4_6 : Int32), (0 ≤ L5_6.toInt ∧ L5_6.toInt ≤ 3600) → (3600 - L5_6.toInt) < (n : Int) → ∀ (H : Heap) (locs : List Loc) (ls : Array Slot), va_P (dC, dI) vwCl [(b0, .inl (cI, 3600, .inl b0f))] H → va_D A [(b0, .inl (cI, 3600, .inl b0f))] → va_S A s.heap H locs → lv_has ls 6 [(5, .int L5_6), (4, .int L4_6), (0, .ref b0), (1, .int i), (2, .int x), (3, .int y)] → W p l e { frames := 0, cells := 0, slots := 0, locals := 0 } s m (List.toArray [.ref b0, .int i, .int x, .int y]) below meth c H locs 0 0 Q (F0 m 6 ls []) := by
    intro n
    induction n with
    | zero =>
      intro L5_6 L4_6 hi0_6 hm
      exact absurd hm (by omega)
    | succ n ih6 =>
      intro L5_6 L4_6 hi0_6 hm6 H locs ls hP hD hS hl
      refine lv_iload hx hb dX9_often_6 (lv_at hl 0 rfl) ?_
      refine lv_iload_n hx hb dX9_often_8 rfl (lv_at hl 3 rfl) ?_
      refine lv_iload_n hx hb dX9_often_9 rfl (lv_at hl 4 rfl) ?_
      refine lv_iadd hx hb dX9_often_10 ?_
      refine lv_topi (fun v1 ev1 => ?_)
      try have hv1 : v1.toInt = i.toInt + x.toInt := I_addx ev1 (by omega)
      refine lv_icmp_ge (tgt := 38) hx hb dX9_often_11 (by decide) (fun c2 => ?_) (fun c2 => ?_)
      · have c2' := I_le c2
        refine lv_iload hx hb dX9_often_38 (lv_at hl 1 rfl) ?_
        exact hret L4_6 () H locs 40 ls rfl trivial hP hD hS dX9_often_40
      · have c2' := I_nle c2
        refine lv_iload hx hb dX9_often_14 (lv_at hl 1 rfl) ?_
        refine lv_aload_n hx hb dX9_often_16 rfl (lv_at hl 2 rfl) ?_
        refine lv_iload hx hb dX9_often_17 (lv_at hl 0 rfl) ?_
        refine va_iald (t0 := 0) hx hb hK hP 0 (ha := rfl) (ht := rfl) (I_in (by omega) (by omega)) dX9_often_19 ?_
        refine lv_topi (fun v3 ev3 => ?_)
        refine lv_iload_n hx hb dX9_often_20 rfl (lv_at hl 5 rfl) ?_
        refine lv_icmp_ne (tgt := 28) hx hb dX9_often_21 (by decide) (fun c4 => ?_) (fun c4 => ?_)
        · have c4' := I_ne c4
          refine lv_iconst (v := 0) hx hb dX9_often_28 (by decide) ?_
          refine lv_iadd hx hb dX9_often_29 ?_
          refine lv_topi (fun v5 ev5 => ?_)
          refine lv_istore (lv' := [(4, .int v5), (5, .int L5_6), (0, .ref b0), (1, .int i), (2, .int x), (3, .int y)]) hx hb dX9_often_30 hl (by decide) rfl (fun ls hl => ?_)
          obtain ⟨v6, ev6⟩ : ∃ y : Int32, y = L5_6 + 1 := ⟨_, rfl⟩
          try have hv6 : v6.toInt = L5_6.toInt + (1 : Int32).toInt := I_addx ev6 (by omega)
          refine lv_iinc (v := v6) (lv' := [(5, .int v6), (4, .int v5), (0, .ref b0), (1, .int i), (2, .int x), (3, .int y)]) hx hb dX9_often_32 hl (k := 1) rfl (by rw [ev6]; rfl) (by decide) rfl (fun ls hl => ?_)
          refine lv_goto (tgt := 6) hx hb dX9_often_35 (by decide) ?_
          exact ih6 v6 v5 (by first | assumption | omega) (by omega) H locs ls hP hD hS hl
        · have c4' := I_eq c4
          refine lv_iconst (v := 1) hx hb dX9_often_24 (by decide) ?_
          refine lv_goto (tgt := 29) hx hb dX9_often_25 (by decide) ?_
          refine lv_iadd hx hb dX9_often_29 ?_
          refine lv_topi (fun v7 ev7 => ?_)
          refine lv_istore (lv' := [(4, .int v7), (5, .int L5_6), (0, .ref b0), (1, .int i), (2, .int x), (3, .int y)]) hx hb dX9_often_30 hl (by decide) rfl (fun ls hl => ?_)
          obtain ⟨v8, ev8⟩ : ∃ y : Int32, y = L5_6 + 1 := ⟨_, rfl⟩
          try have hv8 : v8.toInt = L5_6.toInt + (1 : Int32).toInt := I_addx ev8 (by omega)
          refine lv_iinc (v := v8) (lv' := [(5, .int v8), (4, .int v7), (0, .ref b0), (1, .int i), (2, .int x), (3, .int y)]) hx hb dX9_often_32 hl (k := 1) rfl (by rw [ev8]; rfl) (by decide) rfl (fun ls hl => ?_)
          refine lv_goto (tgt := 6) hx hb dX9_often_35 (by decide) ?_
          exact ih6 v8 v7 (by first | assumption | omega) (by omega) H locs ls hP hD hS hl
  exact J6 ((3600 - i.toInt).toNat + 1) i 0 (by first | assumption | omega) (by omega) H locs ls hP hD hS hl
set_option maxHeartbeats 4000000 in
set_option maxRecDepth 100000 in
theorem c_X9_rankOf (l : Launch) (dC : Nat → ClassId) (dI : Nat → Nat → Nat) (cI cJ : ClassId) (base bB bO : Nat) (m0 : Nat) (mth : Int32) (mst : Int32) (mp : Nat) (mln : Int32) (mk : Nat) (mts : Int32) (mti : Nat) (mtw : Nat) (mi : Nat) (mmn : Int32) (mpo : Nat) (mpd : Int32) (mpi : Nat) (mpl : Int32) (mcp : Int32) (mre : Nat) (mnn : Nat) (mwo : Nat) (mga : Nat) (mlo : Nat) (mro : Nat) (mle : Nat) (mra : Nat) (mme : Int32) (mha : Nat) (mch : Int32) (mtm : Int32) (mgo : Int32) (mwa : Int32) (mba : Nat) (mbl : Int32) (mon : Nat) (mpf : Nat → Int32) (mgaf : Nat → Int32) (mlof : Nat → Int32) (mrof : Nat → Int32) (mlef : Nat → Int32) (i : Int32) (hq0 : 0 ≤ mln.toInt ∧ mln.toInt ≤ 10) (hq1 : ∀ j : Nat, 0 ≤ (mlef j).toInt ∧ (mlef j).toInt ≤ 12) (hq2 : 0 ≤ i.toInt ∧ i.toInt < 300) : CtI l dC dI cI cJ base bB bO yX9_rankOf cX9_rankOf 5 .int 1 25 [.ref m0, .int i] [(m0, .inr (8, [.int mth, .int mst, .ref mp, .int mln, .ref mk, .int mts, .ref mti, .ref mtw, .ref mi, .int mmn, .ref mpo, .int mpd, .ref mpi, .int mpl, .int mcp, .ref mre, .ref mnn, .ref mwo, .ref mga, .ref mlo, .ref mro, .ref mle, .ref mra, .int mme, .ref mha, .int mch, .int mtm, .int mgo, .int mwa, .ref mba, .int mbl, .ref mon])), (mp, .inl (cI, 10, .inl mpf)), (mga, .inl (cI, 28, .inl mgaf)), (mlo, .inl (cI, 28, .inl mlof)), (mro, .inl (cI, 3600, .inl mrof)), (mle, .inl (cI, 300, .inl mlef))] (Unit) (fun (res : Int32) (u : Unit) => True) (fun (u : Unit) => [(m0, .inr (8, [.int mth, .int mst, .ref mp, .int mln, .ref mk, .int mts, .ref mti, .ref mtw, .ref mi, .int mmn, .ref mpo, .int mpd, .ref mpi, .int mpl, .int mcp, .ref mre, .ref mnn, .ref mwo, .ref mga, .ref mlo, .ref mro, .ref mle, .ref mra, .int mme, .ref mha, .int mch, .int mtm, .int mgo, .int mwa, .ref mba, .int mbl, .ref mon])), (mp, .inl (cI, 10, .inl mpf)), (mga, .inl (cI, 28, .inl mgaf)), (mlo, .inl (cI, 28, .inl mlof)), (mro, .inl (cI, 3600, .inl mrof)), (mle, .inl (cI, 300, .inl mlef))]) := by
  refine entI (by decide) (Nat.le_of_ble_eq_true rfl) ?_
  intro p e s m below meth c A Q ls hAt hret hP hD hS hl
  obtain ⟨hx, hb, hml, hown, hts, hA, hAb, hK, hE, hlocks, hin⟩ := hAt
  have hG : CG dC dI cI cJ base bB bO cX9_rankOf 5 RX9 p s m (List.toArray [.ref m0, .int i]) c A := ⟨hx, hb, hml, hown, hts, hA, hAb, hK, hE⟩
  have hl : lv_has ls 5 [(0, .ref m0), (1, .int i)] := hl
  have c_0 : (0 : Int32).toInt = 0 := by decide
  have c_1 : (1 : Int32).toInt = 1 := by decide
  have c_12 : (12 : Int32).toInt = 12 := by decide
  have c_28 : (28 : Int32).toInt = 28 := by decide
  obtain ⟨H, hHe⟩ : ∃ H : Heap, H = s.heap := ⟨_, rfl⟩
  obtain ⟨locs, hle⟩ : ∃ z : List Loc, z = [] := ⟨_, rfl⟩
  rw [← hHe] at hP
  have hS : va_S A s.heap H locs := by rw [hHe, hle]; exact hS
  suffices hgo : W p l e { frames := 1, cells := 0, slots := 0, locals := 25 } s m (List.toArray [.ref m0, .int i]) below meth c H locs 0 0 Q (F0 m 0 ls []) by rw [hHe, hle] at hgo; exact hgo
  refine lv_iconst (v := 0) hx hb dX9_rankOf_0 (by decide) ?_
  refine lv_istore_n (lv' := [(2, .int 0), (0, .ref m0), (1, .int i)]) hx hb dX9_rankOf_1 rfl hl (by decide) rfl (fun ls hl => ?_)
  refine lv_iconst (v := 0) hx hb dX9_rankOf_2 (by decide) ?_
  refine lv_istore_n (lv' := [(3, .int 0), (2, .int 0), (0, .ref m0), (1, .int i)]) hx hb dX9_rankOf_3 rfl hl (by decide) rfl (fun ls hl => ?_)
  have J4 : ∀ (n : Nat) (L3_4 : Int32) (L2_4 : Int32), (0 ≤ L3_4.toInt ∧ L3_4.toInt ≤ 28) → (28 - L3_4.toInt) < (n : Int) → ∀ (H : Heap) (locs : List Loc) (ls : Array Slot), va_P (dC, dI) vwCl [(m0, .inr (8, [.int mth, .int mst, .ref mp, .int mln, .ref mk, .int mts, .ref mti, .ref mtw, .ref mi, .int mmn, .ref mpo, .int mpd, .ref mpi, .int mpl, .int mcp, .ref mre, .ref mnn, .ref mwo, .ref mga, .ref mlo, .ref mro, .ref mle, .ref mra, .int mme, .ref mha, .int mch, .int mtm, .int mgo, .int mwa, .ref mba, .int mbl, .ref mon])), (mp, .inl (cI, 10, .inl mpf)), (mga, .inl (cI, 28, .inl mgaf)), (mlo, .inl (cI, 28, .inl mlof)), (mro, .inl (cI, 3600, .inl mrof)), (mle, .inl (cI, 300, .inl mlef))] H → va_D A [(m0, .inr (8, [.int mth, .int mst, .ref mp, .int mln, .ref mk, .int mts, .ref mti, .ref mtw, .ref mi, .int mmn, .ref mpo, .int mpd, .ref mpi, .int mpl, .int mcp, .ref mre, .ref mnn, .ref mwo, .ref mga, .ref mlo, .ref mro, .ref mle, .ref mra, .int mme, .ref mha, .int mch, .int mtm, .int mgo, .int mwa, .ref mba, .int mbl, .ref mon])), (mp, .inl (cI, 10, .inl mpf)), (mga, .inl (cI, 28, .inl mgaf)), (mlo, .inl (cI, 28, .inl mlof)), (mro, .inl (cI, 3600, .inl mrof)), (mle, .inl (cI, 300, .inl mlef))] → va_S A s.heap H locs → lv_has ls 5 [(3, .int L3_4), (2, .int L2_4), (0, .ref m0), (1, .int i)] → W p l e { frames := 1, cells := 0, slots := 0, locals := 25 } s m (List.toArray [.ref m0, .int i]) below meth c H locs 0 0 Q (F0 m 4 ls []) := by
    intro n
    induction n with
    | zero =>
      intro L3_4 L2_4 hi0_4 hm
      exact absurd hm (by omega)
    | succ n ih4 =>
      intro L3_4 L2_4 hi0_4 hm4 H locs ls hP hD hS hl
      refine lv_iload_n hx hb dX9_rankOf_4 rfl (lv_at hl 0 rfl) ?_
      refine lv_bipush (v := 28) hx hb dX9_rankOf_5 (by decide) ?_
      refine lv_icmp_ge (tgt := 80) hx hb dX9_rankOf_7 (by decide) (fun c1 => ?_) (fun c1 => ?_)
      · have c1' := I_le c1
        refine lv_iload_n hx hb dX9_rankOf_80 rfl (lv_at hl 1 rfl) ?_
        exact hret L2_4 () H locs 81 ls rfl trivial hP hD hS dX9_rankOf_81
      · have c1' := I_nle c1
        refine lv_aload_n hx hb dX9_rankOf_10 rfl (lv_at hl 2 rfl) ?_
        refine va_get (D := (dC, dI)) (ci := 8) (v := .ref mro) (C := RX9) (T := TX9) (N := 32) hx hb hts inG_X9 hown hK hP 0 rfl rfl 20 (by decide) (hts _ fl_X9_47) (fun _ h9 => h9) rfl dX9_rankOf_11 ?_
        refine lv_bipush (v := 12) hx hb dX9_rankOf_14 (by decide) ?_
        refine lv_iload_n hx hb dX9_rankOf_16 rfl (lv_at hl 3 rfl) ?_
        refine lv_imul hx hb dX9_rankOf_17 ?_
        refine lv_topi (fun v2 ev2 => ?_)
        try have hv2 := I_mulxl (12) ev2 (by decide) (by omega)
        refine lv_aload_n hx hb dX9_rankOf_18 rfl (lv_at hl 2 rfl) ?_
        refine va_get (D := (dC, dI)) (ci := 8) (v := .ref mle) (C := RX9) (T := TX9) (N := 32) hx hb hts inG_X9 hown hK hP 0 rfl rfl 21 (by decide) (hts _ fl_X9_50) (fun _ h9 => h9) rfl dX9_rankOf_19 ?_
        refine lv_iload_n hx hb dX9_rankOf_22 rfl (lv_at hl 3 rfl) ?_
        refine va_iald (t0 := 0) hx hb hK hP 5 (ha := rfl) (ht := rfl) (I_in (by omega) (by omega)) dX9_rankOf_23 ?_
        refine lv_topi (fun v3 ev3 => ?_)
        have fv3 := hq1 i.toNatClampNeg
        rw [← ev3] at fv3
        refine lv_iload_n hx hb dX9_rankOf_24 rfl (lv_at hl 0 rfl) ?_
        refine calOI (rest := []) (wr := [(m0, .inr (8, [.int mth, .int mst, .ref mp, .int mln, .ref mk, .int mts, .ref mti, .ref mtw, .ref mi, .int mmn, .ref mpo, .int mpd, .ref mpi, .int mpl, .int mcp, .ref mre, .ref mnn, .ref mwo, .ref mga, .ref mlo, .ref mro, .ref mle, .ref mra, .int mme, .ref mha, .int mch, .int mtm, .int mgo, .int mwa, .ref mba, .int mbl, .ref mon])), (mp, .inl (cI, 10, .inl mpf)), (mga, .inl (cI, 28, .inl mgaf)), (mlo, .inl (cI, 28, .inl mlof)), (mle, .inl (cI, 300, .inl mlef))]) hG (c_X9_often_b l dC dI cI cJ base bB bO mro mrof v2 v3 L3_4 (by first | assumption | omega)) ml_X9_189 st_X9_often ini_X9 cd_X9_often hd_X9_often.2 ⟨(Nat.le_of_ble_eq_true rfl), (Nat.le_of_ble_eq_true rfl)⟩ (Nat.le_of_ble_eq_true rfl) (Nat.le_of_ble_eq_true rfl) hP hD hS [4] [0, 1, 2, 3, 5] rfl rfl rfl rfl (by decide) hl.1 rfl (Nat.le_of_ble_eq_true rfl) dX9_rankOf_25 (fun r4 u H locs hw5 hP hD hS => ?_)
        have hP : va_P (dC, dI) vwCl [(m0, .inr (8, [.int mth, .int mst, .ref mp, .int mln, .ref mk, .int mts, .ref mti, .ref mtw, .ref mi, .int mmn, .ref mpo, .int mpd, .ref mpi, .int mpl, .int mcp, .ref mre, .ref mnn, .ref mwo, .ref mga, .ref mlo, .ref mro, .ref mle, .ref mra, .int mme, .ref mha, .int mch, .int mtm, .int mgo, .int mwa, .ref mba, .int mbl, .ref mon])), (mp, .inl (cI, 10, .inl mpf)), (mga, .inl (cI, 28, .inl mgaf)), (mlo, .inl (cI, 28, .inl mlof)), (mle, .inl (cI, 300, .inl mlef)), (mro, .inl (cI, 3600, .inl mrof))] H := hP
        have hD : va_D A [(m0, .inr (8, [.int mth, .int mst, .ref mp, .int mln, .ref mk, .int mts, .ref mti, .ref mtw, .ref mi, .int mmn, .ref mpo, .int mpd, .ref mpi, .int mpl, .int mcp, .ref mre, .ref mnn, .ref mwo, .ref mga, .ref mlo, .ref mro, .ref mle, .ref mra, .int mme, .ref mha, .int mch, .int mtm, .int mgo, .int mwa, .ref mba, .int mbl, .ref mon])), (mp, .inl (cI, 10, .inl mpf)), (mga, .inl (cI, 28, .inl mgaf)), (mlo, .inl (cI, 28, .inl mlof)), (mle, .inl (cI, 300, .inl mlef)), (mro, .inl (cI, 3600, .inl mrof))] := hD
        refine lv_aload_n hx hb dX9_rankOf_28 rfl (lv_at hl 2 rfl) ?_
        refine va_get (D := (dC, dI)) (ci := 8) (v := .ref mp) (C := RX9) (T := TX9) (N := 32) hx hb hts inG_X9 hown hK hP 0 rfl rfl 2 (by decide) (hts _ fl_X9_7) (fun _ h9 => h9) rfl dX9_rankOf_29 ?_
        refine lv_iconst (v := 0) hx hb dX9_rankOf_32 (by decide) ?_
        refine lv_aload_n hx hb dX9_rankOf_33 rfl (lv_at hl 2 rfl) ?_
        refine va_get (D := (dC, dI)) (ci := 8) (v := .int mln) (C := RX9) (T := TX9) (N := 32) hx hb hts inG_X9 hown hK hP 0 rfl rfl 3 (by decide) (hts _ fl_X9_89) (fun _ h9 => h9) rfl dX9_rankOf_34 ?_
        refine lv_iload_n hx hb dX9_rankOf_37 rfl (lv_at hl 0 rfl) ?_
        refine calOI (rest := [.int r4]) (wr := [(m0, .inr (8, [.int mth, .int mst, .ref mp, .int mln, .ref mk, .int mts, .ref mti, .ref mtw, .ref mi, .int mmn, .ref mpo, .int mpd, .ref mpi, .int mpl, .int mcp, .ref mre, .ref mnn, .ref mwo, .ref mga, .ref mlo, .ref mro, .ref mle, .ref mra, .int mme, .ref mha, .int mch, .int mtm, .int mgo, .int mwa, .ref mba, .int mbl, .ref mon])), (mga, .inl (cI, 28, .inl mgaf)), (mlo, .inl (cI, 28, .inl mlof)), (mle, .inl (cI, 300, .inl mlef)), (mro, .inl (cI, 3600, .inl mrof))]) hG (c_X9_often l dC dI cI cJ base bB bO mp mpf 0 mln L3_4 (by first | assumption | omega)) ml_X9_189 st_X9_often ini_X9 cd_X9_often hd_X9_often.2 ⟨(Nat.le_of_ble_eq_true rfl), (Nat.le_of_ble_eq_true rfl)⟩ (Nat.le_of_ble_eq_true rfl) (Nat.le_of_ble_eq_true rfl) hP hD hS [1] [0, 2, 3, 4, 5] rfl rfl rfl rfl (by decide) hl.1 rfl (Nat.le_of_ble_eq_true rfl) dX9_rankOf_38 (fun r6 u H locs hw7 hP hD hS => ?_)
        have hP : va_P (dC, dI) vwCl [(m0, .inr (8, [.int mth, .int mst, .ref mp, .int mln, .ref mk, .int mts, .ref mti, .ref mtw, .ref mi, .int mmn, .ref mpo, .int mpd, .ref mpi, .int mpl, .int mcp, .ref mre, .ref mnn, .ref mwo, .ref mga, .ref mlo, .ref mro, .ref mle, .ref mra, .int mme, .ref mha, .int mch, .int mtm, .int mgo, .int mwa, .ref mba, .int mbl, .ref mon])), (mga, .inl (cI, 28, .inl mgaf)), (mlo, .inl (cI, 28, .inl mlof)), (mle, .inl (cI, 300, .inl mlef)), (mro, .inl (cI, 3600, .inl mrof)), (mp, .inl (cI, 10, .inl mpf))] H := hP
        have hD : va_D A [(m0, .inr (8, [.int mth, .int mst, .ref mp, .int mln, .ref mk, .int mts, .ref mti, .ref mtw, .ref mi, .int mmn, .ref mpo, .int mpd, .ref mpi, .int mpl, .int mcp, .ref mre, .ref mnn, .ref mwo, .ref mga, .ref mlo, .ref mro, .ref mle, .ref mra, .int mme, .ref mha, .int mch, .int mtm, .int mgo, .int mwa, .ref mba, .int mbl, .ref mon])), (mga, .inl (cI, 28, .inl mgaf)), (mlo, .inl (cI, 28, .inl mlof)), (mle, .inl (cI, 300, .inl mlef)), (mro, .inl (cI, 3600, .inl mrof)), (mp, .inl (cI, 10, .inl mpf))] := hD
        refine lv_isub hx hb dX9_rankOf_41 ?_
        refine lv_topi (fun v8 ev8 => ?_)
        try have hv8 : v8.toInt = r4.toInt - r6.toInt := I_subx ev8 (by omega)
        refine lv_istore (lv' := [(4, .int v8), (3, .int L3_4), (2, .int L2_4), (0, .ref m0), (1, .int i)]) hx hb dX9_rankOf_42 hl (by decide) rfl (fun ls hl => ?_)
        refine lv_iload_n hx hb dX9_rankOf_44 rfl (lv_at hl 2 rfl) ?_
        refine lv_iload hx hb dX9_rankOf_45 (lv_at hl 0 rfl) ?_
        refine lv_if_le (tgt := 62) hx hb dX9_rankOf_47 (by decide) (fun c9 => ?_) (fun c9 => ?_)
        · have c9' := I_le c9
          refine lv_iload hx hb dX9_rankOf_62 (lv_at hl 0 rfl) ?_
          refine lv_ineg hx hb dX9_rankOf_64 ?_
          refine lv_topi (fun v10 ev10 => ?_)
          refine lv_aload_n hx hb dX9_rankOf_65 rfl (lv_at hl 3 rfl) ?_
          refine va_get (D := (dC, dI)) (ci := 8) (v := .ref mlo) (C := RX9) (T := TX9) (N := 32) hx hb hts inG_X9 hown hK hP 0 rfl rfl 19 (by decide) (hts _ fl_X9_44) (fun _ h9 => h9) rfl dX9_rankOf_66 ?_
          refine lv_iload_n hx hb dX9_rankOf_69 rfl (lv_at hl 1 rfl) ?_
          refine va_iald (t0 := 0) hx hb hK hP 2 (ha := rfl) (ht := rfl) (I_in (by omega) (by omega)) dX9_rankOf_70 ?_
          refine lv_topi (fun v11 ev11 => ?_)
          refine lv_imul hx hb dX9_rankOf_71 ?_
          refine lv_topi (fun v12 ev12 => ?_)
          refine lv_iadd hx hb dX9_rankOf_72 ?_
          refine lv_topi (fun v13 ev13 => ?_)
          try have hv13 : v13.toInt = L2_4.toInt + v12.toInt := I_addx ev13 (by omega)
          refine lv_istore_n (lv' := [(2, .int v13), (4, .int v8), (3, .int L3_4), (0, .ref m0), (1, .int i)]) hx hb dX9_rankOf_73 rfl hl (by decide) rfl (fun ls hl => ?_)
          obtain ⟨v14, ev14⟩ : ∃ y : Int32, y = L3_4 + 1 := ⟨_, rfl⟩
          try have hv14 : v14.toInt = L3_4.toInt + (1 : Int32).toInt := I_addx ev14 (by omega)
          refine lv_iinc (v := v14) (lv' := [(3, .int v14), (2, .int v13), (4, .int v8), (0, .ref m0), (1, .int i)]) hx hb dX9_rankOf_74 hl (k := 2) rfl (by rw [ev14]; rfl) (by decide) rfl (fun ls hl => ?_)
          refine lv_goto (tgt := 4) hx hb dX9_rankOf_77 (by decide) ?_
          exact ih4 v14 v13 (by first | assumption | omega) (by omega) H locs ls (hP.sub (ws' := [(m0, .inr (8, [.int mth, .int mst, .ref mp, .int mln, .ref mk, .int mts, .ref mti, .ref mtw, .ref mi, .int mmn, .ref mpo, .int mpd, .ref mpi, .int mpl, .int mcp, .ref mre, .ref mnn, .ref mwo, .ref mga, .ref mlo, .ref mro, .ref mle, .ref mra, .int mme, .ref mha, .int mch, .int mtm, .int mgo, .int mwa, .ref mba, .int mbl, .ref mon])), (mp, .inl (cI, 10, .inl mpf)), (mga, .inl (cI, 28, .inl mgaf)), (mlo, .inl (cI, 28, .inl mlof)), (mro, .inl (cI, 3600, .inl mrof)), (mle, .inl (cI, 300, .inl mlef))]) [0, 5, 1, 2, 4, 3] rfl) (hD.sub (ws' := [(m0, .inr (8, [.int mth, .int mst, .ref mp, .int mln, .ref mk, .int mts, .ref mti, .ref mtw, .ref mi, .int mmn, .ref mpo, .int mpd, .ref mpi, .int mpl, .int mcp, .ref mre, .ref mnn, .ref mwo, .ref mga, .ref mlo, .ref mro, .ref mle, .ref mra, .int mme, .ref mha, .int mch, .int mtm, .int mgo, .int mwa, .ref mba, .int mbl, .ref mon])), (mp, .inl (cI, 10, .inl mpf)), (mga, .inl (cI, 28, .inl mgaf)), (mlo, .inl (cI, 28, .inl mlof)), (mro, .inl (cI, 3600, .inl mrof)), (mle, .inl (cI, 300, .inl mlef))]) [0, 5, 1, 2, 4, 3] (by decide) rfl) hS (lv_sub hl [0, 1, 3, 4] rfl)
        · have c9' := I_nle c9
          refine lv_iload hx hb dX9_rankOf_50 (lv_at hl 0 rfl) ?_
          refine lv_aload_n hx hb dX9_rankOf_52 rfl (lv_at hl 3 rfl) ?_
          refine va_get (D := (dC, dI)) (ci := 8) (v := .ref mga) (C := RX9) (T := TX9) (N := 32) hx hb hts inG_X9 hown hK hP 0 rfl rfl 18 (by decide) (hts _ fl_X9_41) (fun _ h9 => h9) rfl dX9_rankOf_53 ?_
          refine lv_iload_n hx hb dX9_rankOf_56 rfl (lv_at hl 1 rfl) ?_
          refine va_iald (t0 := 0) hx hb hK hP 1 (ha := rfl) (ht := rfl) (I_in (by omega) (by omega)) dX9_rankOf_57 ?_
          refine lv_topi (fun v15 ev15 => ?_)
          refine lv_imul hx hb dX9_rankOf_58 ?_
          refine lv_topi (fun v16 ev16 => ?_)
          refine lv_goto (tgt := 72) hx hb dX9_rankOf_59 (by decide) ?_
          refine lv_iadd hx hb dX9_rankOf_72 ?_
          refine lv_topi (fun v17 ev17 => ?_)
          try have hv17 : v17.toInt = L2_4.toInt + v16.toInt := I_addx ev17 (by omega)
          refine lv_istore_n (lv' := [(2, .int v17), (4, .int v8), (3, .int L3_4), (0, .ref m0), (1, .int i)]) hx hb dX9_rankOf_73 rfl hl (by decide) rfl (fun ls hl => ?_)
          obtain ⟨v18, ev18⟩ : ∃ y : Int32, y = L3_4 + 1 := ⟨_, rfl⟩
          try have hv18 : v18.toInt = L3_4.toInt + (1 : Int32).toInt := I_addx ev18 (by omega)
          refine lv_iinc (v := v18) (lv' := [(3, .int v18), (2, .int v17), (4, .int v8), (0, .ref m0), (1, .int i)]) hx hb dX9_rankOf_74 hl (k := 2) rfl (by rw [ev18]; rfl) (by decide) rfl (fun ls hl => ?_)
          refine lv_goto (tgt := 4) hx hb dX9_rankOf_77 (by decide) ?_
          exact ih4 v18 v17 (by first | assumption | omega) (by omega) H locs ls (hP.sub (ws' := [(m0, .inr (8, [.int mth, .int mst, .ref mp, .int mln, .ref mk, .int mts, .ref mti, .ref mtw, .ref mi, .int mmn, .ref mpo, .int mpd, .ref mpi, .int mpl, .int mcp, .ref mre, .ref mnn, .ref mwo, .ref mga, .ref mlo, .ref mro, .ref mle, .ref mra, .int mme, .ref mha, .int mch, .int mtm, .int mgo, .int mwa, .ref mba, .int mbl, .ref mon])), (mp, .inl (cI, 10, .inl mpf)), (mga, .inl (cI, 28, .inl mgaf)), (mlo, .inl (cI, 28, .inl mlof)), (mro, .inl (cI, 3600, .inl mrof)), (mle, .inl (cI, 300, .inl mlef))]) [0, 5, 1, 2, 4, 3] rfl) (hD.sub (ws' := [(m0, .inr (8, [.int mth, .int mst, .ref mp, .int mln, .ref mk, .int mts, .ref mti, .ref mtw, .ref mi, .int mmn, .ref mpo, .int mpd, .ref mpi, .int mpl, .int mcp, .ref mre, .ref mnn, .ref mwo, .ref mga, .ref mlo, .ref mro, .ref mle, .ref mra, .int mme, .ref mha, .int mch, .int mtm, .int mgo, .int mwa, .ref mba, .int mbl, .ref mon])), (mp, .inl (cI, 10, .inl mpf)), (mga, .inl (cI, 28, .inl mgaf)), (mlo, .inl (cI, 28, .inl mlof)), (mro, .inl (cI, 3600, .inl mrof)), (mle, .inl (cI, 300, .inl mlef))]) [0, 5, 1, 2, 4, 3] (by decide) rfl) hS (lv_sub hl [0, 1, 3, 4] rfl)
  exact J4 ((28 - (0 : Int32).toInt).toNat + 1) 0 0 (by first | assumption | omega) (by omega) H locs ls hP hD hS hl
set_option maxHeartbeats 4000000 in
set_option maxRecDepth 100000 in
theorem c_X9_isAhead (l : Launch) (dC : Nat → ClassId) (dI : Nat → Nat → Nat) (cI cJ : ClassId) (base bB bO : Nat) (m0 : Nat) (mth : Int32) (mst : Int32) (mp : Nat) (mln : Int32) (mk : Nat) (mts : Int32) (mti : Nat) (mtw : Nat) (mi : Nat) (mmn : Int32) (mpo : Nat) (mpd : Int32) (mpi : Nat) (mpl : Int32) (mcp : Int32) (mre : Nat) (mnn : Nat) (mwo : Nat) (mga : Nat) (mlo : Nat) (mro : Nat) (mle : Nat) (mra : Nat) (mme : Int32) (mha : Nat) (mch : Int32) (mtm : Int32) (mgo : Int32) (mwa : Int32) (mba : Nat) (mbl : Int32) (mon : Nat) (mrof : Nat → Int32) (mlef : Nat → Int32) (mraf : Nat → Int32) (i : Int32) (x : Int32) (hq0 : ∀ j : Nat, 0 ≤ (mlef j).toInt ∧ (mlef j).toInt ≤ 12) (hq1 : 0 ≤ i.toInt ∧ i.toInt < 300) (hq2 : 0 ≤ x.toInt ∧ x.toInt < 300) : CtI l dC dI cI cJ base bB bO yX9_isAhead cX9_isAhead 4 .boolean 0 0 [.ref m0, .int i, .int x] [(m0, .inr (8, [.int mth, .int mst, .ref mp, .int mln, .ref mk, .int mts, .ref mti, .ref mtw, .ref mi, .int mmn, .ref mpo, .int mpd, .ref mpi, .int mpl, .int mcp, .ref mre, .ref mnn, .ref mwo, .ref mga, .ref mlo, .ref mro, .ref mle, .ref mra, .int mme, .ref mha, .int mch, .int mtm, .int mgo, .int mwa, .ref mba, .int mbl, .ref mon])), (mro, .inl (cI, 3600, .inl mrof)), (mle, .inl (cI, 300, .inl mlef)), (mra, .inl (cI, 300, .inl mraf))] (Unit) (fun (res : Int32) (u : Unit) => (res.toInt = 0 ∨ res.toInt = 1) ∧ True) (fun (u : Unit) => [(m0, .inr (8, [.int mth, .int mst, .ref mp, .int mln, .ref mk, .int mts, .ref mti, .ref mtw, .ref mi, .int mmn, .ref mpo, .int mpd, .ref mpi, .int mpl, .int mcp, .ref mre, .ref mnn, .ref mwo, .ref mga, .ref mlo, .ref mro, .ref mle, .ref mra, .int mme, .ref mha, .int mch, .int mtm, .int mgo, .int mwa, .ref mba, .int mbl, .ref mon])), (mro, .inl (cI, 3600, .inl mrof)), (mle, .inl (cI, 300, .inl mlef)), (mra, .inl (cI, 300, .inl mraf))]) := by
  refine entI (by decide) (Nat.le_of_ble_eq_true rfl) ?_
  intro p e s m below meth c A Q ls hAt hret hP hD hS hl
  obtain ⟨hx, hb, hml, hown, hts, hA, hAb, hK, hE, hlocks, hin⟩ := hAt
  have hG : CG dC dI cI cJ base bB bO cX9_isAhead 4 RX9 p s m (List.toArray [.ref m0, .int i, .int x]) c A := ⟨hx, hb, hml, hown, hts, hA, hAb, hK, hE⟩
  have hl : lv_has ls 4 [(0, .ref m0), (1, .int i), (2, .int x)] := hl
  have c_0 : (0 : Int32).toInt = 0 := by decide
  have c_1 : (1 : Int32).toInt = 1 := by decide
  have c_12 : (12 : Int32).toInt = 12 := by decide
  obtain ⟨H, hHe⟩ : ∃ H : Heap, H = s.heap := ⟨_, rfl⟩
  obtain ⟨locs, hle⟩ : ∃ z : List Loc, z = [] := ⟨_, rfl⟩
  rw [← hHe] at hP
  have hS : va_S A s.heap H locs := by rw [hHe, hle]; exact hS
  suffices hgo : W p l e { frames := 0, cells := 0, slots := 0, locals := 0 } s m (List.toArray [.ref m0, .int i, .int x]) below meth c H locs 0 0 Q (F0 m 0 ls []) by rw [hHe, hle] at hgo; exact hgo
  refine lv_aload_n hx hb dX9_isAhead_0 rfl (lv_at hl 0 rfl) ?_
  refine va_get (D := (dC, dI)) (ci := 8) (v := .ref mra) (C := RX9) (T := TX9) (N := 32) hx hb hts inG_X9 hown hK hP 0 rfl rfl 22 (by decide) (hts _ fl_X9_53) (fun _ h9 => h9) rfl dX9_isAhead_1 ?_
  refine lv_iload_n hx hb dX9_isAhead_4 rfl (lv_at hl 1 rfl) ?_
  refine va_iald (t0 := 0) hx hb hK hP 3 (ha := rfl) (ht := rfl) (I_in (by omega) (by omega)) dX9_isAhead_5 ?_
  refine lv_topi (fun v1 ev1 => ?_)
  refine lv_aload_n hx hb dX9_isAhead_6 rfl (lv_at hl 0 rfl) ?_
  refine va_get (D := (dC, dI)) (ci := 8) (v := .ref mra) (C := RX9) (T := TX9) (N := 32) hx hb hts inG_X9 hown hK hP 0 rfl rfl 22 (by decide) (hts _ fl_X9_53) (fun _ h9 => h9) rfl dX9_isAhead_7 ?_
  refine lv_iload_n hx hb dX9_isAhead_10 rfl (lv_at hl 2 rfl) ?_
  refine va_iald (t0 := 0) hx hb hK hP 3 (ha := rfl) (ht := rfl) (I_in (by omega) (by omega)) dX9_isAhead_11 ?_
  refine lv_topi (fun v2 ev2 => ?_)
  refine lv_icmp_eq (tgt := 36) hx hb dX9_isAhead_12 (by decide) (fun c3 => ?_) (fun c3 => ?_)
  · have c3' := I_eq c3
    refine lv_aload_n hx hb dX9_isAhead_36 rfl (lv_at hl 0 rfl) ?_
    refine va_get (D := (dC, dI)) (ci := 8) (v := .ref mle) (C := RX9) (T := TX9) (N := 32) hx hb hts inG_X9 hown hK hP 0 rfl rfl 21 (by decide) (hts _ fl_X9_50) (fun _ h9 => h9) rfl dX9_isAhead_37 ?_
    refine lv_iload_n hx hb dX9_isAhead_40 rfl (lv_at hl 1 rfl) ?_
    refine va_iald (t0 := 0) hx hb hK hP 2 (ha := rfl) (ht := rfl) (I_in (by omega) (by omega)) dX9_isAhead_41 ?_
    refine lv_topi (fun v4 ev4 => ?_)
    have fv4 := hq0 i.toNatClampNeg
    rw [← ev4] at fv4
    refine lv_aload_n hx hb dX9_isAhead_42 rfl (lv_at hl 0 rfl) ?_
    refine va_get (D := (dC, dI)) (ci := 8) (v := .ref mle) (C := RX9) (T := TX9) (N := 32) hx hb hts inG_X9 hown hK hP 0 rfl rfl 21 (by decide) (hts _ fl_X9_50) (fun _ h9 => h9) rfl dX9_isAhead_43 ?_
    refine lv_iload_n hx hb dX9_isAhead_46 rfl (lv_at hl 2 rfl) ?_
    refine va_iald (t0 := 0) hx hb hK hP 2 (ha := rfl) (ht := rfl) (I_in (by omega) (by omega)) dX9_isAhead_47 ?_
    refine lv_topi (fun v5 ev5 => ?_)
    have fv5 := hq0 x.toNatClampNeg
    rw [← ev5] at fv5
    refine lv_icmp_eq (tgt := 72) hx hb dX9_isAhead_48 (by decide) (fun c6 => ?_) (fun c6 => ?_)
    · have c6' := I_eq c6
      refine lv_iconst (v := 0) hx hb dX9_isAhead_72 (by decide) ?_
      refine lv_istore_n (lv' := [(3, .int 0), (0, .ref m0), (1, .int i), (2, .int x)]) hx hb dX9_isAhead_73 rfl hl (by decide) rfl (fun ls hl => ?_)
      have J74 : ∀ (n : Nat) (L3_74 : Int32), (0 ≤ L3_74.toInt ∧ L3_74.toInt ≤ 11) → (12 - L3_74.toInt) < (n : Int) → ∀ (H : Heap) (locs : List Loc) (ls : Array Slot), va_P (dC, dI) vwCl [(m0, .inr (8, [.int mth, .int mst, .ref mp, .int mln, .ref mk, .int mts, .ref mti, .ref mtw, .ref mi, .int mmn, .ref mpo, .int mpd, .ref mpi, .int mpl, .int mcp, .ref mre, .ref mnn, .ref mwo, .ref mga, .ref mlo, .ref mro, .ref mle, .ref mra, .int mme, .ref mha, .int mch, .int mtm, .int mgo, .int mwa, .ref mba, .int mbl, .ref mon])), (mro, .inl (cI, 3600, .inl mrof)), (mle, .inl (cI, 300, .inl mlef)), (mra, .inl (cI, 300, .inl mraf))] H → va_D A [(m0, .inr (8, [.int mth, .int mst, .ref mp, .int mln, .ref mk, .int mts, .ref mti, .ref mtw, .ref mi, .int mmn, .ref mpo, .int mpd, .ref mpi, .int mpl, .int mcp, .ref mre, .ref mnn, .ref mwo, .ref mga, .ref mlo, .ref mro, .ref mle, .ref mra, .int mme, .ref mha, .int mch, .int mtm, .int mgo, .int mwa, .ref mba, .int mbl, .ref mon])), (mro, .inl (cI, 3600, .inl mrof)), (mle, .inl (cI, 300, .inl mlef)), (mra, .inl (cI, 300, .inl mraf))] → va_S A s.heap H locs → lv_has ls 4 [(3, .int L3_74), (0, .ref m0), (1, .int i), (2, .int x)] → W p l e { frames := 0, cells := 0, slots := 0, locals := 0 } s m (List.toArray [.ref m0, .int i, .int x]) below meth c H locs 0 0 Q (F0 m 74 ls []) := by
        intro n
        induction n with
        | zero =>
          intro L3_74 hi0_74 hm
          exact absurd hm (by omega)
        | succ n ih74 =>
          intro L3_74 hi0_74 hm74 H locs ls hP hD hS hl
          refine lv_iload_n hx hb dX9_isAhead_74 rfl (lv_at hl 0 rfl) ?_
          refine lv_iconst (v := 1) hx hb dX9_isAhead_75 (by decide) ?_
          refine lv_iadd hx hb dX9_isAhead_76 ?_
          refine lv_topi (fun v7 ev7 => ?_)
          try have hv7 : v7.toInt = L3_74.toInt + (1 : Int32).toInt := I_addx ev7 (by omega)
          refine lv_aload_n hx hb dX9_isAhead_77 rfl (lv_at hl 1 rfl) ?_
          refine va_get (D := (dC, dI)) (ci := 8) (v := .ref mle) (C := RX9) (T := TX9) (N := 32) hx hb hts inG_X9 hown hK hP 0 rfl rfl 21 (by decide) (hts _ fl_X9_50) (fun _ h9 => h9) rfl dX9_isAhead_78 ?_
          refine lv_iload_n hx hb dX9_isAhead_81 rfl (lv_at hl 2 rfl) ?_
          refine va_iald (t0 := 0) hx hb hK hP 2 (ha := rfl) (ht := rfl) (I_in (by omega) (by omega)) dX9_isAhead_82 ?_
          refine lv_topi (fun v8 ev8 => ?_)
          have fv8 := hq0 i.toNatClampNeg
          rw [← ev8] at fv8
          refine lv_icmp_ge (tgt := 117) hx hb dX9_isAhead_83 (by decide) (fun c9 => ?_) (fun c9 => ?_)
          · have c9' := I_le c9
            refine lv_aload_n hx hb dX9_isAhead_117 rfl (lv_at hl 1 rfl) ?_
            refine va_get (D := (dC, dI)) (ci := 8) (v := .ref mle) (C := RX9) (T := TX9) (N := 32) hx hb hts inG_X9 hown hK hP 0 rfl rfl 21 (by decide) (hts _ fl_X9_50) (fun _ h9 => h9) rfl dX9_isAhead_118 ?_
            refine lv_iload_n hx hb dX9_isAhead_121 rfl (lv_at hl 2 rfl) ?_
            refine va_iald (t0 := 0) hx hb hK hP 2 (ha := rfl) (ht := rfl) (I_in (by omega) (by omega)) dX9_isAhead_122 ?_
            refine lv_topi (fun v10 ev10 => ?_)
            have fv10 := hq0 i.toNatClampNeg
            rw [← ev10] at fv10
            refine lv_if_le (tgt := 155) hx hb dX9_isAhead_123 (by decide) (fun c11 => ?_) (fun c11 => ?_)
            · have c11' := I_le c11
              refine lv_iconst (v := 0) hx hb dX9_isAhead_155 (by decide) ?_
              exact hret 0 () H locs 156 ls (by first | rfl | exact I_narz (by omega)) ⟨(show (0 : Int32).toInt = 0 ∨ (0 : Int32).toInt = 1 from by first | rfl | assumption | omega), trivial⟩ hP hD hS dX9_isAhead_156
            · have c11' := I_nle c11
              refine lv_aload_n hx hb dX9_isAhead_126 rfl (lv_at hl 1 rfl) ?_
              refine va_get (D := (dC, dI)) (ci := 8) (v := .ref mro) (C := RX9) (T := TX9) (N := 32) hx hb hts inG_X9 hown hK hP 0 rfl rfl 20 (by decide) (hts _ fl_X9_47) (fun _ h9 => h9) rfl dX9_isAhead_127 ?_
              refine lv_bipush (v := 12) hx hb dX9_isAhead_130 (by decide) ?_
              refine lv_iload_n hx hb dX9_isAhead_132 rfl (lv_at hl 2 rfl) ?_
              refine lv_imul hx hb dX9_isAhead_133 ?_
              refine lv_topi (fun v12 ev12 => ?_)
              try have hv12 := I_mulxl (12) ev12 (by decide) (by omega)
              refine lv_iload_n hx hb dX9_isAhead_134 rfl (lv_at hl 0 rfl) ?_
              refine lv_iadd hx hb dX9_isAhead_135 ?_
              refine lv_topi (fun v13 ev13 => ?_)
              try have hv13 : v13.toInt = v12.toInt + L3_74.toInt := I_addx ev13 (by omega)
              refine va_iald (t0 := 0) hx hb hK hP 1 (ha := rfl) (ht := rfl) (I_in (by omega) (by omega)) dX9_isAhead_136 ?_
              refine lv_topi (fun v14 ev14 => ?_)
              refine lv_aload_n hx hb dX9_isAhead_137 rfl (lv_at hl 1 rfl) ?_
              refine va_get (D := (dC, dI)) (ci := 8) (v := .ref mro) (C := RX9) (T := TX9) (N := 32) hx hb hts inG_X9 hown hK hP 0 rfl rfl 20 (by decide) (hts _ fl_X9_47) (fun _ h9 => h9) rfl dX9_isAhead_138 ?_
              refine lv_bipush (v := 12) hx hb dX9_isAhead_141 (by decide) ?_
              refine lv_iload_n hx hb dX9_isAhead_143 rfl (lv_at hl 3 rfl) ?_
              refine lv_imul hx hb dX9_isAhead_144 ?_
              refine lv_topi (fun v15 ev15 => ?_)
              try have hv15 := I_mulxl (12) ev15 (by decide) (by omega)
              refine lv_iload_n hx hb dX9_isAhead_145 rfl (lv_at hl 0 rfl) ?_
              refine lv_iadd hx hb dX9_isAhead_146 ?_
              refine lv_topi (fun v16 ev16 => ?_)
              try have hv16 : v16.toInt = v15.toInt + L3_74.toInt := I_addx ev16 (by omega)
              refine va_iald (t0 := 0) hx hb hK hP 1 (ha := rfl) (ht := rfl) (I_in (by omega) (by omega)) dX9_isAhead_147 ?_
              refine lv_topi (fun v17 ev17 => ?_)
              refine lv_icmp_ge (tgt := 155) hx hb dX9_isAhead_148 (by decide) (fun c18 => ?_) (fun c18 => ?_)
              · have c18' := I_le c18
                refine lv_iconst (v := 0) hx hb dX9_isAhead_155 (by decide) ?_
                exact hret 0 () H locs 156 ls (by first | rfl | exact I_narz (by omega)) ⟨(show (0 : Int32).toInt = 0 ∨ (0 : Int32).toInt = 1 from by first | rfl | assumption | omega), trivial⟩ hP hD hS dX9_isAhead_156
              · have c18' := I_nle c18
                refine lv_iconst (v := 1) hx hb dX9_isAhead_151 (by decide) ?_
                refine lv_goto (tgt := 156) hx hb dX9_isAhead_152 (by decide) ?_
                exact hret 1 () H locs 156 ls (by first | rfl | exact I_narz (by omega)) ⟨(show (1 : Int32).toInt = 0 ∨ (1 : Int32).toInt = 1 from by first | rfl | assumption | omega), trivial⟩ hP hD hS dX9_isAhead_156
          · have c9' := I_nle c9
            refine lv_aload_n hx hb dX9_isAhead_86 rfl (lv_at hl 1 rfl) ?_
            refine va_get (D := (dC, dI)) (ci := 8) (v := .ref mro) (C := RX9) (T := TX9) (N := 32) hx hb hts inG_X9 hown hK hP 0 rfl rfl 20 (by decide) (hts _ fl_X9_47) (fun _ h9 => h9) rfl dX9_isAhead_87 ?_
            refine lv_bipush (v := 12) hx hb dX9_isAhead_90 (by decide) ?_
            refine lv_iload_n hx hb dX9_isAhead_92 rfl (lv_at hl 2 rfl) ?_
            refine lv_imul hx hb dX9_isAhead_93 ?_
            refine lv_topi (fun v19 ev19 => ?_)
            try have hv19 := I_mulxl (12) ev19 (by decide) (by omega)
            refine lv_iload_n hx hb dX9_isAhead_94 rfl (lv_at hl 0 rfl) ?_
            refine lv_iadd hx hb dX9_isAhead_95 ?_
            refine lv_topi (fun v20 ev20 => ?_)
            try have hv20 : v20.toInt = v19.toInt + L3_74.toInt := I_addx ev20 (by omega)
            refine va_iald (t0 := 0) hx hb hK hP 1 (ha := rfl) (ht := rfl) (I_in (by omega) (by omega)) dX9_isAhead_96 ?_
            refine lv_topi (fun v21 ev21 => ?_)
            refine lv_aload_n hx hb dX9_isAhead_97 rfl (lv_at hl 1 rfl) ?_
            refine va_get (D := (dC, dI)) (ci := 8) (v := .ref mro) (C := RX9) (T := TX9) (N := 32) hx hb hts inG_X9 hown hK hP 0 rfl rfl 20 (by decide) (hts _ fl_X9_47) (fun _ h9 => h9) rfl dX9_isAhead_98 ?_
            refine lv_bipush (v := 12) hx hb dX9_isAhead_101 (by decide) ?_
            refine lv_iload_n hx hb dX9_isAhead_103 rfl (lv_at hl 3 rfl) ?_
            refine lv_imul hx hb dX9_isAhead_104 ?_
            refine lv_topi (fun v22 ev22 => ?_)
            try have hv22 := I_mulxl (12) ev22 (by decide) (by omega)
            refine lv_iload_n hx hb dX9_isAhead_105 rfl (lv_at hl 0 rfl) ?_
            refine lv_iadd hx hb dX9_isAhead_106 ?_
            refine lv_topi (fun v23 ev23 => ?_)
            try have hv23 : v23.toInt = v22.toInt + L3_74.toInt := I_addx ev23 (by omega)
            refine va_iald (t0 := 0) hx hb hK hP 1 (ha := rfl) (ht := rfl) (I_in (by omega) (by omega)) dX9_isAhead_107 ?_
            refine lv_topi (fun v24 ev24 => ?_)
            refine lv_icmp_ne (tgt := 117) hx hb dX9_isAhead_108 (by decide) (fun c25 => ?_) (fun c25 => ?_)
            · have c25' := I_ne c25
              refine lv_aload_n hx hb dX9_isAhead_117 rfl (lv_at hl 1 rfl) ?_
              refine va_get (D := (dC, dI)) (ci := 8) (v := .ref mle) (C := RX9) (T := TX9) (N := 32) hx hb hts inG_X9 hown hK hP 0 rfl rfl 21 (by decide) (hts _ fl_X9_50) (fun _ h9 => h9) rfl dX9_isAhead_118 ?_
              refine lv_iload_n hx hb dX9_isAhead_121 rfl (lv_at hl 2 rfl) ?_
              refine va_iald (t0 := 0) hx hb hK hP 2 (ha := rfl) (ht := rfl) (I_in (by omega) (by omega)) dX9_isAhead_122 ?_
              refine lv_topi (fun v26 ev26 => ?_)
              have fv26 := hq0 i.toNatClampNeg
              rw [← ev26] at fv26
              refine lv_if_le (tgt := 155) hx hb dX9_isAhead_123 (by decide) (fun c27 => ?_) (fun c27 => ?_)
              · have c27' := I_le c27
                refine lv_iconst (v := 0) hx hb dX9_isAhead_155 (by decide) ?_
                exact hret 0 () H locs 156 ls (by first | rfl | exact I_narz (by omega)) ⟨(show (0 : Int32).toInt = 0 ∨ (0 : Int32).toInt = 1 from by first | rfl | assumption | omega), trivial⟩ hP hD hS dX9_isAhead_156
              · have c27' := I_nle c27
                refine lv_aload_n hx hb dX9_isAhead_126 rfl (lv_at hl 1 rfl) ?_
                refine va_get (D := (dC, dI)) (ci := 8) (v := .ref mro) (C := RX9) (T := TX9) (N := 32) hx hb hts inG_X9 hown hK hP 0 rfl rfl 20 (by decide) (hts _ fl_X9_47) (fun _ h9 => h9) rfl dX9_isAhead_127 ?_
                refine lv_bipush (v := 12) hx hb dX9_isAhead_130 (by decide) ?_
                refine lv_iload_n hx hb dX9_isAhead_132 rfl (lv_at hl 2 rfl) ?_
                refine lv_imul hx hb dX9_isAhead_133 ?_
                refine lv_topi (fun v28 ev28 => ?_)
                try have hv28 := I_mulxl (12) ev28 (by decide) (by omega)
                refine lv_iload_n hx hb dX9_isAhead_134 rfl (lv_at hl 0 rfl) ?_
                refine lv_iadd hx hb dX9_isAhead_135 ?_
                refine lv_topi (fun v29 ev29 => ?_)
                try have hv29 : v29.toInt = v28.toInt + L3_74.toInt := I_addx ev29 (by omega)
                refine va_iald (t0 := 0) hx hb hK hP 1 (ha := rfl) (ht := rfl) (I_in (by omega) (by omega)) dX9_isAhead_136 ?_
                refine lv_topi (fun v30 ev30 => ?_)
                refine lv_aload_n hx hb dX9_isAhead_137 rfl (lv_at hl 1 rfl) ?_
                refine va_get (D := (dC, dI)) (ci := 8) (v := .ref mro) (C := RX9) (T := TX9) (N := 32) hx hb hts inG_X9 hown hK hP 0 rfl rfl 20 (by decide) (hts _ fl_X9_47) (fun _ h9 => h9) rfl dX9_isAhead_138 ?_
                refine lv_bipush (v := 12) hx hb dX9_isAhead_141 (by decide) ?_
                refine lv_iload_n hx hb dX9_isAhead_143 rfl (lv_at hl 3 rfl) ?_
                refine lv_imul hx hb dX9_isAhead_144 ?_
                refine lv_topi (fun v31 ev31 => ?_)
                try have hv31 := I_mulxl (12) ev31 (by decide) (by omega)
                refine lv_iload_n hx hb dX9_isAhead_145 rfl (lv_at hl 0 rfl) ?_
                refine lv_iadd hx hb dX9_isAhead_146 ?_
                refine lv_topi (fun v32 ev32 => ?_)
                try have hv32 : v32.toInt = v31.toInt + L3_74.toInt := I_addx ev32 (by omega)
                refine va_iald (t0 := 0) hx hb hK hP 1 (ha := rfl) (ht := rfl) (I_in (by omega) (by omega)) dX9_isAhead_147 ?_
                refine lv_topi (fun v33 ev33 => ?_)
                refine lv_icmp_ge (tgt := 155) hx hb dX9_isAhead_148 (by decide) (fun c34 => ?_) (fun c34 => ?_)
                · have c34' := I_le c34
                  refine lv_iconst (v := 0) hx hb dX9_isAhead_155 (by decide) ?_
                  exact hret 0 () H locs 156 ls (by first | rfl | exact I_narz (by omega)) ⟨(show (0 : Int32).toInt = 0 ∨ (0 : Int32).toInt = 1 from by first | rfl | assumption | omega), trivial⟩ hP hD hS dX9_isAhead_156
                · have c34' := I_nle c34
                  refine lv_iconst (v := 1) hx hb dX9_isAhead_151 (by decide) ?_
                  refine lv_goto (tgt := 156) hx hb dX9_isAhead_152 (by decide) ?_
                  exact hret 1 () H locs 156 ls (by first | rfl | exact I_narz (by omega)) ⟨(show (1 : Int32).toInt = 0 ∨ (1 : Int32).toInt = 1 from by first | rfl | assumption | omega), trivial⟩ hP hD hS dX9_isAhead_156
            · have c25' := I_eq c25
              obtain ⟨v35, ev35⟩ : ∃ y : Int32, y = L3_74 + 1 := ⟨_, rfl⟩
              try have hv35 : v35.toInt = L3_74.toInt + (1 : Int32).toInt := I_addx ev35 (by omega)
              refine lv_iinc (v := v35) (lv' := [(3, .int v35), (0, .ref m0), (1, .int i), (2, .int x)]) hx hb dX9_isAhead_111 hl (k := 0) rfl (by rw [ev35]; rfl) (by decide) rfl (fun ls hl => ?_)
              refine lv_goto (tgt := 74) hx hb dX9_isAhead_114 (by decide) ?_
              exact ih74 v35 (by first | assumption | omega) (by omega) H locs ls hP hD hS hl
      exact J74 ((12 - (0 : Int32).toInt).toNat + 1) 0 (by first | assumption | omega) (by omega) H locs ls hP hD hS hl
    · have c6' := I_ne c6
      refine lv_aload_n hx hb dX9_isAhead_51 rfl (lv_at hl 0 rfl) ?_
      refine va_get (D := (dC, dI)) (ci := 8) (v := .ref mle) (C := RX9) (T := TX9) (N := 32) hx hb hts inG_X9 hown hK hP 0 rfl rfl 21 (by decide) (hts _ fl_X9_50) (fun _ h9 => h9) rfl dX9_isAhead_52 ?_
      refine lv_iload_n hx hb dX9_isAhead_55 rfl (lv_at hl 1 rfl) ?_
      refine va_iald (t0 := 0) hx hb hK hP 2 (ha := rfl) (ht := rfl) (I_in (by omega) (by omega)) dX9_isAhead_56 ?_
      refine lv_topi (fun v36 ev36 => ?_)
      have fv36 := hq0 i.toNatClampNeg
      rw [← ev36] at fv36
      refine lv_aload_n hx hb dX9_isAhead_57 rfl (lv_at hl 0 rfl) ?_
      refine va_get (D := (dC, dI)) (ci := 8) (v := .ref mle) (C := RX9) (T := TX9) (N := 32) hx hb hts inG_X9 hown hK hP 0 rfl rfl 21 (by decide) (hts _ fl_X9_50) (fun _ h9 => h9) rfl dX9_isAhead_58 ?_
      refine lv_iload_n hx hb dX9_isAhead_61 rfl (lv_at hl 2 rfl) ?_
      refine va_iald (t0 := 0) hx hb hK hP 2 (ha := rfl) (ht := rfl) (I_in (by omega) (by omega)) dX9_isAhead_62 ?_
      refine lv_topi (fun v37 ev37 => ?_)
      have fv37 := hq0 x.toNatClampNeg
      rw [← ev37] at fv37
      refine lv_icmp_ge (tgt := 70) hx hb dX9_isAhead_63 (by decide) (fun c38 => ?_) (fun c38 => ?_)
      · have c38' := I_le c38
        refine lv_iconst (v := 0) hx hb dX9_isAhead_70 (by decide) ?_
        exact hret 0 () H locs 71 ls (by first | rfl | exact I_narz (by omega)) ⟨(show (0 : Int32).toInt = 0 ∨ (0 : Int32).toInt = 1 from by first | rfl | assumption | omega), trivial⟩ hP hD hS dX9_isAhead_71
      · have c38' := I_nle c38
        refine lv_iconst (v := 1) hx hb dX9_isAhead_66 (by decide) ?_
        refine lv_goto (tgt := 71) hx hb dX9_isAhead_67 (by decide) ?_
        exact hret 1 () H locs 71 ls (by first | rfl | exact I_narz (by omega)) ⟨(show (1 : Int32).toInt = 0 ∨ (1 : Int32).toInt = 1 from by first | rfl | assumption | omega), trivial⟩ hP hD hS dX9_isAhead_71
  · have c3' := I_ne c3
    refine lv_aload_n hx hb dX9_isAhead_15 rfl (lv_at hl 0 rfl) ?_
    refine va_get (D := (dC, dI)) (ci := 8) (v := .ref mra) (C := RX9) (T := TX9) (N := 32) hx hb hts inG_X9 hown hK hP 0 rfl rfl 22 (by decide) (hts _ fl_X9_53) (fun _ h9 => h9) rfl dX9_isAhead_16 ?_
    refine lv_iload_n hx hb dX9_isAhead_19 rfl (lv_at hl 1 rfl) ?_
    refine va_iald (t0 := 0) hx hb hK hP 3 (ha := rfl) (ht := rfl) (I_in (by omega) (by omega)) dX9_isAhead_20 ?_
    refine lv_topi (fun v39 ev39 => ?_)
    refine lv_aload_n hx hb dX9_isAhead_21 rfl (lv_at hl 0 rfl) ?_
    refine va_get (D := (dC, dI)) (ci := 8) (v := .ref mra) (C := RX9) (T := TX9) (N := 32) hx hb hts inG_X9 hown hK hP 0 rfl rfl 22 (by decide) (hts _ fl_X9_53) (fun _ h9 => h9) rfl dX9_isAhead_22 ?_
    refine lv_iload_n hx hb dX9_isAhead_25 rfl (lv_at hl 2 rfl) ?_
    refine va_iald (t0 := 0) hx hb hK hP 3 (ha := rfl) (ht := rfl) (I_in (by omega) (by omega)) dX9_isAhead_26 ?_
    refine lv_topi (fun v40 ev40 => ?_)
    refine lv_icmp_le (tgt := 34) hx hb dX9_isAhead_27 (by decide) (fun c41 => ?_) (fun c41 => ?_)
    · have c41' := I_le c41
      refine lv_iconst (v := 0) hx hb dX9_isAhead_34 (by decide) ?_
      exact hret 0 () H locs 35 ls (by first | rfl | exact I_narz (by omega)) ⟨(show (0 : Int32).toInt = 0 ∨ (0 : Int32).toInt = 1 from by first | rfl | assumption | omega), trivial⟩ hP hD hS dX9_isAhead_35
    · have c41' := I_nle c41
      refine lv_iconst (v := 1) hx hb dX9_isAhead_30 (by decide) ?_
      refine lv_goto (tgt := 35) hx hb dX9_isAhead_31 (by decide) ?_
      exact hret 1 () H locs 35 ls (by first | rfl | exact I_narz (by omega)) ⟨(show (1 : Int32).toInt = 0 ∨ (1 : Int32).toInt = 1 from by first | rfl | assumption | omega), trivial⟩ hP hD hS dX9_isAhead_35
set_option maxHeartbeats 4000000 in
set_option maxRecDepth 100000 in
theorem c_X9_swap (l : Launch) (dC : Nat → ClassId) (dI : Nat → Nat → Nat) (cI cJ : ClassId) (base bB bO : Nat) (m0 : Nat) (mth : Int32) (mst : Int32) (mp : Nat) (mln : Int32) (mk : Nat) (mts : Int32) (mti : Nat) (mtw : Nat) (mi : Nat) (mmn : Int32) (mpo : Nat) (mpd : Int32) (mpi : Nat) (mpl : Int32) (mcp : Int32) (mre : Nat) (mnn : Nat) (mwo : Nat) (mga : Nat) (mlo : Nat) (mro : Nat) (mle : Nat) (mra : Nat) (mme : Int32) (mha : Nat) (mch : Int32) (mtm : Int32) (mgo : Int32) (mwa : Int32) (mba : Nat) (mbl : Int32) (mon : Nat) (mrof : Nat → Int32) (mlef : Nat → Int32) (mraf : Nat → Int32) (i : Int32) (x : Int32) (hq0 : ∀ j : Nat, 0 ≤ (mlef j).toInt ∧ (mlef j).toInt ≤ 12) (hq1 : 0 ≤ i.toInt ∧ i.toInt < 300) (hq2 : 0 ≤ x.toInt ∧ x.toInt < 300) : CtV l dC dI cI cJ base bB bO yX9_swap cX9_swap 5 0 0 0 0 [.ref m0, .int i, .int x] [(m0, .inr (8, [.int mth, .int mst, .ref mp, .int mln, .ref mk, .int mts, .ref mti, .ref mtw, .ref mi, .int mmn, .ref mpo, .int mpd, .ref mpi, .int mpl, .int mcp, .ref mre, .ref mnn, .ref mwo, .ref mga, .ref mlo, .ref mro, .ref mle, .ref mra, .int mme, .ref mha, .int mch, .int mtm, .int mgo, .int mwa, .ref mba, .int mbl, .ref mon])), (mro, .inl (cI, 3600, .inl mrof)), (mle, .inl (cI, 300, .inl mlef)), (mra, .inl (cI, 300, .inl mraf))] ((Nat → Int32) × (Nat → Int32) × (Nat → Int32)) (fun (u : (Nat → Int32) × (Nat → Int32) × (Nat → Int32)) => (∀ j : Nat, 0 ≤ (u.2.1 j).toInt ∧ (u.2.1 j).toInt ≤ 12) ∧ True) (fun (u : (Nat → Int32) × (Nat → Int32) × (Nat → Int32)) => [(m0, .inr (8, [.int mth, .int mst, .ref mp, .int mln, .ref mk, .int mts, .ref mti, .ref mtw, .ref mi, .int mmn, .ref mpo, .int mpd, .ref mpi, .int mpl, .int mcp, .ref mre, .ref mnn, .ref mwo, .ref mga, .ref mlo, .ref mro, .ref mle, .ref mra, .int mme, .ref mha, .int mch, .int mtm, .int mgo, .int mwa, .ref mba, .int mbl, .ref mon])), (mro, .inl (cI, 3600, .inl u.1)), (mle, .inl (cI, 300, .inl u.2.1)), (mra, .inl (cI, 300, .inl u.2.2))]) := by
  refine entV (by decide) (Nat.le_of_ble_eq_true rfl) ?_
  intro p e s m below meth c A Q ls hAt hret hP hD hS hl
  obtain ⟨hx, hb, hml, hown, hts, hA, hAb, hK, hE, hlocks, hin⟩ := hAt
  have hG : CG dC dI cI cJ base bB bO cX9_swap 5 RX9 p s m (List.toArray [.ref m0, .int i, .int x]) c A := ⟨hx, hb, hml, hown, hts, hA, hAb, hK, hE⟩
  have hl : lv_has ls 5 [(0, .ref m0), (1, .int i), (2, .int x)] := hl
  have c_0 : (0 : Int32).toInt = 0 := by decide
  have c_1 : (1 : Int32).toInt = 1 := by decide
  have c_12 : (12 : Int32).toInt = 12 := by decide
  obtain ⟨H, hHe⟩ : ∃ H : Heap, H = s.heap := ⟨_, rfl⟩
  obtain ⟨locs, hle⟩ : ∃ z : List Loc, z = [] := ⟨_, rfl⟩
  rw [← hHe] at hP
  have hS : va_S A s.heap H locs := by rw [hHe, hle]; exact hS
  suffices hgo : W p l e { frames := 0, cells := 0, slots := 0, locals := 0 } s m (List.toArray [.ref m0, .int i, .int x]) below meth c H locs 0 0 Q (F0 m 0 ls []) by rw [hHe, hle] at hgo; exact hgo
  refine lv_aload_n hx hb dX9_swap_0 rfl (lv_at hl 0 rfl) ?_
  refine va_get (D := (dC, dI)) (ci := 8) (v := .ref mle) (C := RX9) (T := TX9) (N := 32) hx hb hts inG_X9 hown hK hP 0 rfl rfl 21 (by decide) (hts _ fl_X9_50) (fun _ h9 => h9) rfl dX9_swap_1 ?_
  refine lv_iload_n hx hb dX9_swap_4 rfl (lv_at hl 1 rfl) ?_
  refine va_iald (t0 := 0) hx hb hK hP 2 (ha := rfl) (ht := rfl) (I_in (by omega) (by omega)) dX9_swap_5 ?_
  refine lv_topi (fun v1 ev1 => ?_)
  have fv1 := hq0 i.toNatClampNeg
  rw [← ev1] at fv1
  refine lv_istore_n (lv' := [(3, .int v1), (0, .ref m0), (1, .int i), (2, .int x)]) hx hb dX9_swap_6 rfl hl (by decide) rfl (fun ls hl => ?_)
  refine lv_aload_n hx hb dX9_swap_7 rfl (lv_at hl 1 rfl) ?_
  refine va_get (D := (dC, dI)) (ci := 8) (v := .ref mle) (C := RX9) (T := TX9) (N := 32) hx hb hts inG_X9 hown hK hP 0 rfl rfl 21 (by decide) (hts _ fl_X9_50) (fun _ h9 => h9) rfl dX9_swap_8 ?_
  refine lv_iload_n hx hb dX9_swap_11 rfl (lv_at hl 2 rfl) ?_
  refine lv_aload_n hx hb dX9_swap_12 rfl (lv_at hl 1 rfl) ?_
  refine va_get (D := (dC, dI)) (ci := 8) (v := .ref mle) (C := RX9) (T := TX9) (N := 32) hx hb hts inG_X9 hown hK hP 0 rfl rfl 21 (by decide) (hts _ fl_X9_50) (fun _ h9 => h9) rfl dX9_swap_13 ?_
  refine lv_iload_n hx hb dX9_swap_16 rfl (lv_at hl 3 rfl) ?_
  refine va_iald (t0 := 0) hx hb hK hP 2 (ha := rfl) (ht := rfl) (I_in (by omega) (by omega)) dX9_swap_17 ?_
  refine lv_topi (fun v2 ev2 => ?_)
  have fv2 := hq0 x.toNatClampNeg
  rw [← ev2] at fv2
  refine va_iast (t0 := 0) hx hb hK hP hD hS 2 (ha := rfl) (ht := rfl) (I_in (by omega) (by omega)) dX9_swap_18 (fun H locs hP hD hS => ?_)
  have hP : va_P (dC, dI) vwCl [(m0, .inr (8, [.int mth, .int mst, .ref mp, .int mln, .ref mk, .int mts, .ref mti, .ref mtw, .ref mi, .int mmn, .ref mpo, .int mpd, .ref mpi, .int mpl, .int mcp, .ref mre, .ref mnn, .ref mwo, .ref mga, .ref mlo, .ref mro, .ref mle, .ref mra, .int mme, .ref mha, .int mch, .int mtm, .int mgo, .int mwa, .ref mba, .int mbl, .ref mon])), (mro, .inl (cI, 3600, .inl mrof)), (mle, .inl (cI, 300, .inl (upd mlef i.toNatClampNeg v2))), (mra, .inl (cI, 300, .inl mraf))] H := hP
  have hD : va_D A [(m0, .inr (8, [.int mth, .int mst, .ref mp, .int mln, .ref mk, .int mts, .ref mti, .ref mtw, .ref mi, .int mmn, .ref mpo, .int mpd, .ref mpi, .int mpl, .int mcp, .ref mre, .ref mnn, .ref mwo, .ref mga, .ref mlo, .ref mro, .ref mle, .ref mra, .int mme, .ref mha, .int mch, .int mtm, .int mgo, .int mwa, .ref mba, .int mbl, .ref mon])), (mro, .inl (cI, 3600, .inl mrof)), (mle, .inl (cI, 300, .inl (upd mlef i.toNatClampNeg v2))), (mra, .inl (cI, 300, .inl mraf))] := hD
  generalize ef3 : upd mlef i.toNatClampNeg v2 = f3 at hP hD
  have ha4 : ∀ j : Nat, 0 ≤ (f3 j).toInt ∧ (f3 j).toInt ≤ 12 := by rw [← ef3]; exact upd_all (P := fun z => 0 ≤ z.toInt ∧ z.toInt ≤ 12) hq0 (by first | assumption | omega | (refine ⟨?_, ?_⟩ <;> omega)) _
  refine lv_aload_n hx hb dX9_swap_19 rfl (lv_at hl 1 rfl) ?_
  refine va_get (D := (dC, dI)) (ci := 8) (v := .ref mle) (C := RX9) (T := TX9) (N := 32) hx hb hts inG_X9 hown hK hP 0 rfl rfl 21 (by decide) (hts _ fl_X9_50) (fun _ h9 => h9) rfl dX9_swap_20 ?_
  refine lv_iload_n hx hb dX9_swap_23 rfl (lv_at hl 3 rfl) ?_
  refine lv_iload_n hx hb dX9_swap_24 rfl (lv_at hl 0 rfl) ?_
  refine va_iast (t0 := 0) hx hb hK hP hD hS 2 (ha := rfl) (ht := rfl) (I_in (by omega) (by omega)) dX9_swap_25 (fun H locs hP hD hS => ?_)
  have hP : va_P (dC, dI) vwCl [(m0, .inr (8, [.int mth, .int mst, .ref mp, .int mln, .ref mk, .int mts, .ref mti, .ref mtw, .ref mi, .int mmn, .ref mpo, .int mpd, .ref mpi, .int mpl, .int mcp, .ref mre, .ref mnn, .ref mwo, .ref mga, .ref mlo, .ref mro, .ref mle, .ref mra, .int mme, .ref mha, .int mch, .int mtm, .int mgo, .int mwa, .ref mba, .int mbl, .ref mon])), (mro, .inl (cI, 3600, .inl mrof)), (mle, .inl (cI, 300, .inl (upd f3 x.toNatClampNeg v1))), (mra, .inl (cI, 300, .inl mraf))] H := hP
  have hD : va_D A [(m0, .inr (8, [.int mth, .int mst, .ref mp, .int mln, .ref mk, .int mts, .ref mti, .ref mtw, .ref mi, .int mmn, .ref mpo, .int mpd, .ref mpi, .int mpl, .int mcp, .ref mre, .ref mnn, .ref mwo, .ref mga, .ref mlo, .ref mro, .ref mle, .ref mra, .int mme, .ref mha, .int mch, .int mtm, .int mgo, .int mwa, .ref mba, .int mbl, .ref mon])), (mro, .inl (cI, 3600, .inl mrof)), (mle, .inl (cI, 300, .inl (upd f3 x.toNatClampNeg v1))), (mra, .inl (cI, 300, .inl mraf))] := hD
  generalize ef5 : upd f3 x.toNatClampNeg v1 = f5 at hP hD
  have ha6 : ∀ j : Nat, 0 ≤ (f5 j).toInt ∧ (f5 j).toInt ≤ 12 := by rw [← ef5]; exact upd_all (P := fun z => 0 ≤ z.toInt ∧ z.toInt ≤ 12) ha4 (by first | assumption | omega | (refine ⟨?_, ?_⟩ <;> omega)) _
  refine lv_aload_n hx hb dX9_swap_26 rfl (lv_at hl 1 rfl) ?_
  refine va_get (D := (dC, dI)) (ci := 8) (v := .ref mra) (C := RX9) (T := TX9) (N := 32) hx hb hts inG_X9 hown hK hP 0 rfl rfl 22 (by decide) (hts _ fl_X9_53) (fun _ h9 => h9) rfl dX9_swap_27 ?_
  refine lv_iload_n hx hb dX9_swap_30 rfl (lv_at hl 2 rfl) ?_
  refine va_iald (t0 := 0) hx hb hK hP 3 (ha := rfl) (ht := rfl) (I_in (by omega) (by omega)) dX9_swap_31 ?_
  refine lv_topi (fun v7 ev7 => ?_)
  refine lv_istore_n (lv' := [(3, .int v7), (0, .ref m0), (1, .int i), (2, .int x)]) hx hb dX9_swap_32 rfl hl (by decide) rfl (fun ls hl => ?_)
  refine lv_aload_n hx hb dX9_swap_33 rfl (lv_at hl 1 rfl) ?_
  refine va_get (D := (dC, dI)) (ci := 8) (v := .ref mra) (C := RX9) (T := TX9) (N := 32) hx hb hts inG_X9 hown hK hP 0 rfl rfl 22 (by decide) (hts _ fl_X9_53) (fun _ h9 => h9) rfl dX9_swap_34 ?_
  refine lv_iload_n hx hb dX9_swap_37 rfl (lv_at hl 2 rfl) ?_
  refine lv_aload_n hx hb dX9_swap_38 rfl (lv_at hl 1 rfl) ?_
  refine va_get (D := (dC, dI)) (ci := 8) (v := .ref mra) (C := RX9) (T := TX9) (N := 32) hx hb hts inG_X9 hown hK hP 0 rfl rfl 22 (by decide) (hts _ fl_X9_53) (fun _ h9 => h9) rfl dX9_swap_39 ?_
  refine lv_iload_n hx hb dX9_swap_42 rfl (lv_at hl 3 rfl) ?_
  refine va_iald (t0 := 0) hx hb hK hP 3 (ha := rfl) (ht := rfl) (I_in (by omega) (by omega)) dX9_swap_43 ?_
  refine lv_topi (fun v8 ev8 => ?_)
  refine va_iast (t0 := 0) hx hb hK hP hD hS 3 (ha := rfl) (ht := rfl) (I_in (by omega) (by omega)) dX9_swap_44 (fun H locs hP hD hS => ?_)
  have hP : va_P (dC, dI) vwCl [(m0, .inr (8, [.int mth, .int mst, .ref mp, .int mln, .ref mk, .int mts, .ref mti, .ref mtw, .ref mi, .int mmn, .ref mpo, .int mpd, .ref mpi, .int mpl, .int mcp, .ref mre, .ref mnn, .ref mwo, .ref mga, .ref mlo, .ref mro, .ref mle, .ref mra, .int mme, .ref mha, .int mch, .int mtm, .int mgo, .int mwa, .ref mba, .int mbl, .ref mon])), (mro, .inl (cI, 3600, .inl mrof)), (mle, .inl (cI, 300, .inl f5)), (mra, .inl (cI, 300, .inl (upd mraf i.toNatClampNeg v8)))] H := hP
  have hD : va_D A [(m0, .inr (8, [.int mth, .int mst, .ref mp, .int mln, .ref mk, .int mts, .ref mti, .ref mtw, .ref mi, .int mmn, .ref mpo, .int mpd, .ref mpi, .int mpl, .int mcp, .ref mre, .ref mnn, .ref mwo, .ref mga, .ref mlo, .ref mro, .ref mle, .ref mra, .int mme, .ref mha, .int mch, .int mtm, .int mgo, .int mwa, .ref mba, .int mbl, .ref mon])), (mro, .inl (cI, 3600, .inl mrof)), (mle, .inl (cI, 300, .inl f5)), (mra, .inl (cI, 300, .inl (upd mraf i.toNatClampNeg v8)))] := hD
  generalize ef9 : upd mraf i.toNatClampNeg v8 = f9 at hP hD
  refine lv_aload_n hx hb dX9_swap_45 rfl (lv_at hl 1 rfl) ?_
  refine va_get (D := (dC, dI)) (ci := 8) (v := .ref mra) (C := RX9) (T := TX9) (N := 32) hx hb hts inG_X9 hown hK hP 0 rfl rfl 22 (by decide) (hts _ fl_X9_53) (fun _ h9 => h9) rfl dX9_swap_46 ?_
  refine lv_iload_n hx hb dX9_swap_49 rfl (lv_at hl 3 rfl) ?_
  refine lv_iload_n hx hb dX9_swap_50 rfl (lv_at hl 0 rfl) ?_
  refine va_iast (t0 := 0) hx hb hK hP hD hS 3 (ha := rfl) (ht := rfl) (I_in (by omega) (by omega)) dX9_swap_51 (fun H locs hP hD hS => ?_)
  have hP : va_P (dC, dI) vwCl [(m0, .inr (8, [.int mth, .int mst, .ref mp, .int mln, .ref mk, .int mts, .ref mti, .ref mtw, .ref mi, .int mmn, .ref mpo, .int mpd, .ref mpi, .int mpl, .int mcp, .ref mre, .ref mnn, .ref mwo, .ref mga, .ref mlo, .ref mro, .ref mle, .ref mra, .int mme, .ref mha, .int mch, .int mtm, .int mgo, .int mwa, .ref mba, .int mbl, .ref mon])), (mro, .inl (cI, 3600, .inl mrof)), (mle, .inl (cI, 300, .inl f5)), (mra, .inl (cI, 300, .inl (upd f9 x.toNatClampNeg v7)))] H := hP
  have hD : va_D A [(m0, .inr (8, [.int mth, .int mst, .ref mp, .int mln, .ref mk, .int mts, .ref mti, .ref mtw, .ref mi, .int mmn, .ref mpo, .int mpd, .ref mpi, .int mpl, .int mcp, .ref mre, .ref mnn, .ref mwo, .ref mga, .ref mlo, .ref mro, .ref mle, .ref mra, .int mme, .ref mha, .int mch, .int mtm, .int mgo, .int mwa, .ref mba, .int mbl, .ref mon])), (mro, .inl (cI, 3600, .inl mrof)), (mle, .inl (cI, 300, .inl f5)), (mra, .inl (cI, 300, .inl (upd f9 x.toNatClampNeg v7)))] := hD
  generalize ef10 : upd f9 x.toNatClampNeg v7 = f10 at hP hD
  refine lv_iconst (v := 0) hx hb dX9_swap_52 (by decide) ?_
  refine lv_istore (lv' := [(4, .int 0), (3, .int v7), (0, .ref m0), (1, .int i), (2, .int x)]) hx hb dX9_swap_53 hl (by decide) rfl (fun ls hl => ?_)
  have J55 : ∀ (n : Nat) (L4_55 : Int32) (L3_55 : Int32) (mrof_55 : Nat → Int32), (0 ≤ L4_55.toInt ∧ L4_55.toInt ≤ 12) → (12 - L4_55.toInt) < (n : Int) → ∀ (H : Heap) (locs : List Loc) (ls : Array Slot), va_P (dC, dI) vwCl [(m0, .inr (8, [.int mth, .int mst, .ref mp, .int mln, .ref mk, .int mts, .ref mti, .ref mtw, .ref mi, .int mmn, .ref mpo, .int mpd, .ref mpi, .int mpl, .int mcp, .ref mre, .ref mnn, .ref mwo, .ref mga, .ref mlo, .ref mro, .ref mle, .ref mra, .int mme, .ref mha, .int mch, .int mtm, .int mgo, .int mwa, .ref mba, .int mbl, .ref mon])), (mro, .inl (cI, 3600, .inl mrof_55)), (mle, .inl (cI, 300, .inl f5)), (mra, .inl (cI, 300, .inl f10))] H → va_D A [(m0, .inr (8, [.int mth, .int mst, .ref mp, .int mln, .ref mk, .int mts, .ref mti, .ref mtw, .ref mi, .int mmn, .ref mpo, .int mpd, .ref mpi, .int mpl, .int mcp, .ref mre, .ref mnn, .ref mwo, .ref mga, .ref mlo, .ref mro, .ref mle, .ref mra, .int mme, .ref mha, .int mch, .int mtm, .int mgo, .int mwa, .ref mba, .int mbl, .ref mon])), (mro, .inl (cI, 3600, .inl mrof_55)), (mle, .inl (cI, 300, .inl f5)), (mra, .inl (cI, 300, .inl f10))] → va_S A s.heap H locs → lv_has ls 5 [(4, .int L4_55), (3, .int L3_55), (0, .ref m0), (1, .int i), (2, .int x)] → W p l e { frames := 0, cells := 0, slots := 0, locals := 0 } s m (List.toArray [.ref m0, .int i, .int x]) below meth c H locs 0 0 Q (F0 m 55 ls []) := by
    intro n
    induction n with
    | zero =>
      intro L4_55 L3_55 mrof_55 hi0_55 hm
      exact absurd hm (by omega)
    | succ n ih55 =>
      intro L4_55 L3_55 mrof_55 hi0_55 hm55 H locs ls hP hD hS hl
      refine lv_iload hx hb dX9_swap_55 (lv_at hl 0 rfl) ?_
      refine lv_bipush (v := 12) hx hb dX9_swap_57 (by decide) ?_
      refine lv_icmp_ge (tgt := 118) hx hb dX9_swap_59 (by decide) (fun c11 => ?_) (fun c11 => ?_)
      · have c11' := I_le c11
        exact hret (mrof_55, f5, f10) H locs 118 ls ⟨(show ∀ j : Nat, 0 ≤ (f5 j).toInt ∧ (f5 j).toInt ≤ 12 from by first | rfl | assumption | omega), trivial⟩ hP hD hS dX9_swap_118
      · have c11' := I_nle c11
        refine lv_aload_n hx hb dX9_swap_62 rfl (lv_at hl 2 rfl) ?_
        refine va_get (D := (dC, dI)) (ci := 8) (v := .ref mro) (C := RX9) (T := TX9) (N := 32) hx hb hts inG_X9 hown hK hP 0 rfl rfl 20 (by decide) (hts _ fl_X9_47) (fun _ h9 => h9) rfl dX9_swap_63 ?_
        refine lv_bipush (v := 12) hx hb dX9_swap_66 (by decide) ?_
        refine lv_iload_n hx hb dX9_swap_68 rfl (lv_at hl 3 rfl) ?_
        refine lv_imul hx hb dX9_swap_69 ?_
        refine lv_topi (fun v12 ev12 => ?_)
        try have hv12 := I_mulxl (12) ev12 (by decide) (by omega)
        refine lv_iload hx hb dX9_swap_70 (lv_at hl 0 rfl) ?_
        refine lv_iadd hx hb dX9_swap_72 ?_
        refine lv_topi (fun v13 ev13 => ?_)
        try have hv13 : v13.toInt = v12.toInt + L4_55.toInt := I_addx ev13 (by omega)
        refine va_iald (t0 := 0) hx hb hK hP 1 (ha := rfl) (ht := rfl) (I_in (by omega) (by omega)) dX9_swap_73 ?_
        refine lv_topi (fun v14 ev14 => ?_)
        refine lv_istore_n (lv' := [(3, .int v14), (4, .int L4_55), (0, .ref m0), (1, .int i), (2, .int x)]) hx hb dX9_swap_74 rfl hl (by decide) rfl (fun ls hl => ?_)
        refine lv_aload_n hx hb dX9_swap_75 rfl (lv_at hl 2 rfl) ?_
        refine va_get (D := (dC, dI)) (ci := 8) (v := .ref mro) (C := RX9) (T := TX9) (N := 32) hx hb hts inG_X9 hown hK hP 0 rfl rfl 20 (by decide) (hts _ fl_X9_47) (fun _ h9 => h9) rfl dX9_swap_76 ?_
        refine lv_bipush (v := 12) hx hb dX9_swap_79 (by decide) ?_
        refine lv_iload_n hx hb dX9_swap_81 rfl (lv_at hl 3 rfl) ?_
        refine lv_imul hx hb dX9_swap_82 ?_
        refine lv_topi (fun v15 ev15 => ?_)
        try have hv15 := I_mulxl (12) ev15 (by decide) (by omega)
        refine lv_iload hx hb dX9_swap_83 (lv_at hl 1 rfl) ?_
        refine lv_iadd hx hb dX9_swap_85 ?_
        refine lv_topi (fun v16 ev16 => ?_)
        try have hv16 : v16.toInt = v15.toInt + L4_55.toInt := I_addx ev16 (by omega)
        refine lv_aload_n hx hb dX9_swap_86 rfl (lv_at hl 2 rfl) ?_
        refine va_get (D := (dC, dI)) (ci := 8) (v := .ref mro) (C := RX9) (T := TX9) (N := 32) hx hb hts inG_X9 hown hK hP 0 rfl rfl 20 (by decide) (hts _ fl_X9_47) (fun _ h9 => h9) rfl dX9_swap_87 ?_
        refine lv_bipush (v := 12) hx hb dX9_swap_90 (by decide) ?_
        refine lv_iload_n hx hb dX9_swap_92 rfl (lv_at hl 4 rfl) ?_
        refine lv_imul hx hb dX9_swap_93 ?_
        refine lv_topi (fun v17 ev17 => ?_)
        try have hv17 := I_mulxl (12) ev17 (by decide) (by omega)
        refine lv_iload hx hb dX9_swap_94 (lv_at hl 1 rfl) ?_
        refine lv_iadd hx hb dX9_swap_96 ?_
        refine lv_topi (fun v18 ev18 => ?_)
        try have hv18 : v18.toInt = v17.toInt + L4_55.toInt := I_addx ev18 (by omega)
        refine va_iald (t0 := 0) hx hb hK hP 1 (ha := rfl) (ht := rfl) (I_in (by omega) (by omega)) dX9_swap_97 ?_
        refine lv_topi (fun v19 ev19 => ?_)
        refine va_iast (t0 := 0) hx hb hK hP hD hS 1 (ha := rfl) (ht := rfl) (I_in (by omega) (by omega)) dX9_swap_98 (fun H locs hP hD hS => ?_)
        have hP : va_P (dC, dI) vwCl [(m0, .inr (8, [.int mth, .int mst, .ref mp, .int mln, .ref mk, .int mts, .ref mti, .ref mtw, .ref mi, .int mmn, .ref mpo, .int mpd, .ref mpi, .int mpl, .int mcp, .ref mre, .ref mnn, .ref mwo, .ref mga, .ref mlo, .ref mro, .ref mle, .ref mra, .int mme, .ref mha, .int mch, .int mtm, .int mgo, .int mwa, .ref mba, .int mbl, .ref mon])), (mro, .inl (cI, 3600, .inl (upd mrof_55 v16.toNatClampNeg v19))), (mle, .inl (cI, 300, .inl f5)), (mra, .inl (cI, 300, .inl f10))] H := hP
        have hD : va_D A [(m0, .inr (8, [.int mth, .int mst, .ref mp, .int mln, .ref mk, .int mts, .ref mti, .ref mtw, .ref mi, .int mmn, .ref mpo, .int mpd, .ref mpi, .int mpl, .int mcp, .ref mre, .ref mnn, .ref mwo, .ref mga, .ref mlo, .ref mro, .ref mle, .ref mra, .int mme, .ref mha, .int mch, .int mtm, .int mgo, .int mwa, .ref mba, .int mbl, .ref mon])), (mro, .inl (cI, 3600, .inl (upd mrof_55 v16.toNatClampNeg v19))), (mle, .inl (cI, 300, .inl f5)), (mra, .inl (cI, 300, .inl f10))] := hD
        generalize ef20 : upd mrof_55 v16.toNatClampNeg v19 = f20 at hP hD
        refine lv_aload_n hx hb dX9_swap_99 rfl (lv_at hl 2 rfl) ?_
        refine va_get (D := (dC, dI)) (ci := 8) (v := .ref mro) (C := RX9) (T := TX9) (N := 32) hx hb hts inG_X9 hown hK hP 0 rfl rfl 20 (by decide) (hts _ fl_X9_47) (fun _ h9 => h9) rfl dX9_swap_100 ?_
        refine lv_bipush (v := 12) hx hb dX9_swap_103 (by decide) ?_
        refine lv_iload_n hx hb dX9_swap_105 rfl (lv_at hl 4 rfl) ?_
        refine lv_imul hx hb dX9_swap_106 ?_
        refine lv_topi (fun v21 ev21 => ?_)
        try have hv21 := I_mulxl (12) ev21 (by decide) (by omega)
        refine lv_iload hx hb dX9_swap_107 (lv_at hl 1 rfl) ?_
        refine lv_iadd hx hb dX9_swap_109 ?_
        refine lv_topi (fun v22 ev22 => ?_)
        try have hv22 : v22.toInt = v21.toInt + L4_55.toInt := I_addx ev22 (by omega)
        refine lv_iload_n hx hb dX9_swap_110 rfl (lv_at hl 0 rfl) ?_
        refine va_iast (t0 := 0) hx hb hK hP hD hS 1 (ha := rfl) (ht := rfl) (I_in (by omega) (by omega)) dX9_swap_111 (fun H locs hP hD hS => ?_)
        have hP : va_P (dC, dI) vwCl [(m0, .inr (8, [.int mth, .int mst, .ref mp, .int mln, .ref mk, .int mts, .ref mti, .ref mtw, .ref mi, .int mmn, .ref mpo, .int mpd, .ref mpi, .int mpl, .int mcp, .ref mre, .ref mnn, .ref mwo, .ref mga, .ref mlo, .ref mro, .ref mle, .ref mra, .int mme, .ref mha, .int mch, .int mtm, .int mgo, .int mwa, .ref mba, .int mbl, .ref mon])), (mro, .inl (cI, 3600, .inl (upd f20 v22.toNatClampNeg v14))), (mle, .inl (cI, 300, .inl f5)), (mra, .inl (cI, 300, .inl f10))] H := hP
        have hD : va_D A [(m0, .inr (8, [.int mth, .int mst, .ref mp, .int mln, .ref mk, .int mts, .ref mti, .ref mtw, .ref mi, .int mmn, .ref mpo, .int mpd, .ref mpi, .int mpl, .int mcp, .ref mre, .ref mnn, .ref mwo, .ref mga, .ref mlo, .ref mro, .ref mle, .ref mra, .int mme, .ref mha, .int mch, .int mtm, .int mgo, .int mwa, .ref mba, .int mbl, .ref mon])), (mro, .inl (cI, 3600, .inl (upd f20 v22.toNatClampNeg v14))), (mle, .inl (cI, 300, .inl f5)), (mra, .inl (cI, 300, .inl f10))] := hD
        generalize ef23 : upd f20 v22.toNatClampNeg v14 = f23 at hP hD
        obtain ⟨v24, ev24⟩ : ∃ y : Int32, y = L4_55 + 1 := ⟨_, rfl⟩
        try have hv24 : v24.toInt = L4_55.toInt + (1 : Int32).toInt := I_addx ev24 (by omega)
        refine lv_iinc (v := v24) (lv' := [(4, .int v24), (3, .int v14), (0, .ref m0), (1, .int i), (2, .int x)]) hx hb dX9_swap_112 hl (k := 1) rfl (by rw [ev24]; rfl) (by decide) rfl (fun ls hl => ?_)
        refine lv_goto (tgt := 55) hx hb dX9_swap_115 (by decide) ?_
        exact ih55 v24 v14 f23 (by first | assumption | omega) (by omega) H locs ls hP hD hS hl
  exact J55 ((12 - (0 : Int32).toInt).toNat + 1) 0 v7 mrof (by first | assumption | omega) (by omega) H locs ls hP hD hS hl
