set_option maxHeartbeats 4000000 in
set_option maxRecDepth 100000 in
theorem c_X9_takeProgram (l : Launch) (dC : Nat → ClassId) (dI : Nat → Nat → Nat) (cI cJ : ClassId) (base bB bO : Nat) (m0 : Nat) (mth : Int32) (mst : Int32) (mp : Nat) (mln : Int32) (mk : Nat) (mts : Int32) (mti : Nat) (mtw : Nat) (mi : Nat) (mmn : Int32) (mpo : Nat) (mpd : Int32) (mpi : Nat) (mpl : Int32) (mcp : Int32) (mre : Nat) (mnn : Nat) (mwo : Nat) (mga : Nat) (mlo : Nat) (mro : Nat) (mle : Nat) (mra : Nat) (mme : Int32) (mha : Nat) (mch : Int32) (mtm : Int32) (mgo : Int32) (mwa : Int32) (mba : Nat) (mbl : Int32) (mon : Nat) (mpf : Nat → Int32) (mif : Nat → Int32) (hq0 : 0 ≤ mln.toInt ∧ mln.toInt ≤ 10) : CtV l dC dI cI cJ base bB bO yX9_takeProgram cX9_takeProgram 2 0 0 0 0 [.ref m0] [(m0, .inr (8, [.int mth, .int mst, .ref mp, .int mln, .ref mk, .int mts, .ref mti, .ref mtw, .ref mi, .int mmn, .ref mpo, .int mpd, .ref mpi, .int mpl, .int mcp, .ref mre, .ref mnn, .ref mwo, .ref mga, .ref mlo, .ref mro, .ref mle, .ref mra, .int mme, .ref mha, .int mch, .int mtm, .int mgo, .int mwa, .ref mba, .int mbl, .ref mon])), (mp, .inl (cI, 10, .inl mpf)), (mi, .inl (cI, 12, .inl mif))] ((Int32) × (Nat → Int32)) (fun (u : (Int32) × (Nat → Int32)) => (u.1.toInt = mln.toInt) ∧ True) (fun (u : (Int32) × (Nat → Int32)) => [(m0, .inr (8, [.int mth, .int mst, .ref mp, .int mln, .ref mk, .int mts, .ref mti, .ref mtw, .ref mi, .int u.1, .ref mpo, .int mpd, .ref mpi, .int mpl, .int mcp, .ref mre, .ref mnn, .ref mwo, .ref mga, .ref mlo, .ref mro, .ref mle, .ref mra, .int mme, .ref mha, .int mch, .int mtm, .int mgo, .int mwa, .ref mba, .int mbl, .ref mon])), (mp, .inl (cI, 10, .inl mpf)), (mi, .inl (cI, 12, .inl u.2))]) := by
  refine entV (by decide) (Nat.le_of_ble_eq_true rfl) ?_
  intro p e s m below meth c A Q ls hAt hret hP hD hS hl
  obtain ⟨hx, hb, hml, hown, hts, hA, hAb, hK, hE, hlocks, hin⟩ := hAt
  have hG : CG dC dI cI cJ base bB bO cX9_takeProgram 2 RX9 p s m (List.toArray [.ref m0]) c A := ⟨hx, hb, hml, hown, hts, hA, hAb, hK, hE⟩
  have hl : lv_has ls 2 [(0, .ref m0)] := hl
  have c_0 : (0 : Int32).toInt = 0 := by decide
  have c_1 : (1 : Int32).toInt = 1 := by decide
  obtain ⟨H, hHe⟩ : ∃ H : Heap, H = s.heap := ⟨_, rfl⟩
  obtain ⟨locs, hle⟩ : ∃ z : List Loc, z = [] := ⟨_, rfl⟩
  rw [← hHe] at hP
  have hS : va_S A s.heap H locs := by rw [hHe, hle]; exact hS
  suffices hgo : W p l e { frames := 0, cells := 0, slots := 0, locals := 0 } s m (List.toArray [.ref m0]) below meth c H locs 0 0 Q (F0 m 0 ls []) by rw [hHe, hle] at hgo; exact hgo
  refine lv_aload_n hx hb dX9_takeProgram_0 rfl (lv_at hl 0 rfl) ?_
  refine lv_aload_n hx hb dX9_takeProgram_1 rfl (lv_at hl 0 rfl) ?_
  refine va_get (D := (dC, dI)) (ci := 8) (v := .int mln) (C := RX9) (T := TX9) (N := 32) hx hb hts inG_X9 hown hK hP 0 rfl rfl 3 (by decide) (hts _ fl_X9_89) (fun _ h9 => h9) rfl dX9_takeProgram_2 ?_
  refine va_put (D := (dC, dI)) (ci := 8) (v := .int mln) (ty := .int) (C := RX9) (T := TX9) (N := 32) hx hb hts inG_X9 tyX9 tyX9_ok nmX9 hown hK hP hD hS 0 rfl rfl 9 (by decide) (hts _ fl_X9_114) (fun _ h9 => h9) rfl (by decide +kernel) rfl rfl (Nat.le_of_ble_eq_true rfl) dX9_takeProgram_5 (fun H locs hP hD hS => ?_)
  have hP : va_P (dC, dI) vwCl [(m0, .inr (8, [.int mth, .int mst, .ref mp, .int mln, .ref mk, .int mts, .ref mti, .ref mtw, .ref mi, .int mln, .ref mpo, .int mpd, .ref mpi, .int mpl, .int mcp, .ref mre, .ref mnn, .ref mwo, .ref mga, .ref mlo, .ref mro, .ref mle, .ref mra, .int mme, .ref mha, .int mch, .int mtm, .int mgo, .int mwa, .ref mba, .int mbl, .ref mon])), (mp, .inl (cI, 10, .inl mpf)), (mi, .inl (cI, 12, .inl mif))] H := hP
  have hD : va_D A [(m0, .inr (8, [.int mth, .int mst, .ref mp, .int mln, .ref mk, .int mts, .ref mti, .ref mtw, .ref mi, .int mln, .ref mpo, .int mpd, .ref mpi, .int mpl, .int mcp, .ref mre, .ref mnn, .ref mwo, .ref mga, .ref mlo, .ref mro, .ref mle, .ref mra, .int mme, .ref mha, .int mch, .int mtm, .int mgo, .int mwa, .ref mba, .int mbl, .ref mon])), (mp, .inl (cI, 10, .inl mpf)), (mi, .inl (cI, 12, .inl mif))] := hD
  refine lv_iconst (v := 0) hx hb dX9_takeProgram_8 (by decide) ?_
  refine lv_istore_n (lv' := [(1, .int 0), (0, .ref m0)]) hx hb dX9_takeProgram_9 rfl hl (by decide) rfl (fun ls hl => ?_)
  have J10 : ∀ (n : Nat) (L1_10 : Int32) (mif_10 : Nat → Int32), (0 ≤ L1_10.toInt ∧ L1_10.toInt ≤ 10) → (10 - L1_10.toInt) < (n : Int) → ∀ (H : Heap) (locs : List Loc) (ls : Array Slot), va_P (dC, dI) vwCl [(m0, .inr (8, [.int mth, .int mst, .ref mp, .int mln, .ref mk, .int mts, .ref mti, .ref mtw, .ref mi, .int mln, .ref mpo, .int mpd, .ref mpi, .int mpl, .int mcp, .ref mre, .ref mnn, .ref mwo, .ref mga, .ref mlo, .ref mro, .ref mle, .ref mra, .int mme, .ref mha, .int mch, .int mtm, .int mgo, .int mwa, .ref mba, .int mbl, .ref mon])), (mp, .inl (cI, 10, .inl mpf)), (mi, .inl (cI, 12, .inl mif_10))] H → va_D A [(m0, .inr (8, [.int mth, .int mst, .ref mp, .int mln, .ref mk, .int mts, .ref mti, .ref mtw, .ref mi, .int mln, .ref mpo, .int mpd, .ref mpi, .int mpl, .int mcp, .ref mre, .ref mnn, .ref mwo, .ref mga, .ref mlo, .ref mro, .ref mle, .ref mra, .int mme, .ref mha, .int mch, .int mtm, .int mgo, .int mwa, .ref mba, .int mbl, .ref mon])), (mp, .inl (cI, 10, .inl mpf)), (mi, .inl (cI, 12, .inl mif_10))] → va_S A s.heap H locs → lv_has ls 2 [(1, .int L1_10), (0, .ref m0)] → W p l e { frames := 0, cells := 0, slots := 0, locals := 0 } s m (List.toArray [.ref m0]) below meth c H locs 0 0 Q (F0 m 10 ls []) := by
    intro n
    induction n with
    | zero =>
      intro L1_10 mif_10 hi0_10 hm
      exact absurd hm (by omega)
    | succ n ih10 =>
      intro L1_10 mif_10 hi0_10 hm10 H locs ls hP hD hS hl
      refine lv_iload_n hx hb dX9_takeProgram_10 rfl (lv_at hl 0 rfl) ?_
      refine lv_aload_n hx hb dX9_takeProgram_11 rfl (lv_at hl 1 rfl) ?_
      refine va_get (D := (dC, dI)) (ci := 8) (v := .int mln) (C := RX9) (T := TX9) (N := 32) hx hb hts inG_X9 hown hK hP 0 rfl rfl 3 (by decide) (hts _ fl_X9_89) (fun _ h9 => h9) rfl dX9_takeProgram_12 ?_
      refine lv_icmp_ge (tgt := 36) hx hb dX9_takeProgram_15 (by decide) (fun c1 => ?_) (fun c1 => ?_)
      · have c1' := I_le c1
        exact hret (mln, mif_10) H locs 36 ls ⟨(show mln.toInt = mln.toInt from by first | rfl | assumption | omega), trivial⟩ hP hD hS dX9_takeProgram_36
      · have c1' := I_nle c1
        refine lv_aload_n hx hb dX9_takeProgram_18 rfl (lv_at hl 1 rfl) ?_
        refine va_get (D := (dC, dI)) (ci := 8) (v := .ref mi) (C := RX9) (T := TX9) (N := 32) hx hb hts inG_X9 hown hK hP 0 rfl rfl 8 (by decide) (hts _ fl_X9_22) (fun _ h9 => h9) rfl dX9_takeProgram_19 ?_
        refine lv_iload_n hx hb dX9_takeProgram_22 rfl (lv_at hl 0 rfl) ?_
        refine lv_aload_n hx hb dX9_takeProgram_23 rfl (lv_at hl 1 rfl) ?_
        refine va_get (D := (dC, dI)) (ci := 8) (v := .ref mp) (C := RX9) (T := TX9) (N := 32) hx hb hts inG_X9 hown hK hP 0 rfl rfl 2 (by decide) (hts _ fl_X9_7) (fun _ h9 => h9) rfl dX9_takeProgram_24 ?_
        refine lv_iload_n hx hb dX9_takeProgram_27 rfl (lv_at hl 0 rfl) ?_
        refine va_iald (t0 := 0) hx hb hK hP 1 (ha := rfl) (ht := rfl) (I_in (by omega) (by omega)) dX9_takeProgram_28 ?_
        refine lv_topi (fun v2 ev2 => ?_)
        refine va_iast (t0 := 0) hx hb hK hP hD hS 2 (ha := rfl) (ht := rfl) (I_in (by omega) (by omega)) dX9_takeProgram_29 (fun H locs hP hD hS => ?_)
        have hP : va_P (dC, dI) vwCl [(m0, .inr (8, [.int mth, .int mst, .ref mp, .int mln, .ref mk, .int mts, .ref mti, .ref mtw, .ref mi, .int mln, .ref mpo, .int mpd, .ref mpi, .int mpl, .int mcp, .ref mre, .ref mnn, .ref mwo, .ref mga, .ref mlo, .ref mro, .ref mle, .ref mra, .int mme, .ref mha, .int mch, .int mtm, .int mgo, .int mwa, .ref mba, .int mbl, .ref mon])), (mp, .inl (cI, 10, .inl mpf)), (mi, .inl (cI, 12, .inl (upd mif_10 L1_10.toNatClampNeg v2)))] H := hP
        have hD : va_D A [(m0, .inr (8, [.int mth, .int mst, .ref mp, .int mln, .ref mk, .int mts, .ref mti, .ref mtw, .ref mi, .int mln, .ref mpo, .int mpd, .ref mpi, .int mpl, .int mcp, .ref mre, .ref mnn, .ref mwo, .ref mga, .ref mlo, .ref mro, .ref mle, .ref mra, .int mme, .ref mha, .int mch, .int mtm, .int mgo, .int mwa, .ref mba, .int mbl, .ref mon])), (mp, .inl (cI, 10, .inl mpf)), (mi, .inl (cI, 12, .inl (upd mif_10 L1_10.toNatClampNeg v2)))] := hD
        generalize ef3 : upd mif_10 L1_10.toNatClampNeg v2 = f3 at hP hD
        obtain ⟨v4, ev4⟩ : ∃ y : Int32, y = L1_10 + 1 := ⟨_, rfl⟩
        try have hv4 : v4.toInt = L1_10.toInt + (1 : Int32).toInt := I_addx ev4 (by omega)
        refine lv_iinc (v := v4) (lv' := [(1, .int v4), (0, .ref m0)]) hx hb dX9_takeProgram_30 hl (k := 0) rfl (by rw [ev4]; rfl) (by decide) rfl (fun ls hl => ?_)
        refine lv_goto (tgt := 10) hx hb dX9_takeProgram_33 (by decide) ?_
        exact ih10 v4 f3 (by first | assumption | omega) (by omega) H locs ls hP hD hS hl
  exact J10 ((10 - (0 : Int32).toInt).toNat + 1) 0 mif (by first | assumption | omega) (by omega) H locs ls hP hD hS hl
set_option maxHeartbeats 4000000 in
set_option maxRecDepth 100000 in
theorem c_X9_put (l : Launch) (dC : Nat → ClassId) (dI : Nat → Nat → Nat) (cI cJ : ClassId) (base bB bO : Nat) (m0 : Nat) (mth : Int32) (mst : Int32) (mp : Nat) (mln : Int32) (mk : Nat) (mts : Int32) (mti : Nat) (mtw : Nat) (mi : Nat) (mmn : Int32) (mpo : Nat) (mpd : Int32) (mpi : Nat) (mpl : Int32) (mcp : Int32) (mre : Nat) (mnn : Nat) (mwo : Nat) (mga : Nat) (mlo : Nat) (mro : Nat) (mle : Nat) (mra : Nat) (mme : Int32) (mha : Nat) (mch : Int32) (mtm : Int32) (mgo : Int32) (mwa : Int32) (mba : Nat) (mbl : Int32) (mon : Nat) (mpf : Nat → Int32) (x : Int32) (hq0 : 0 ≤ mln.toInt ∧ mln.toInt ≤ 10) : CtI l dC dI cI cJ base bB bO yX9_put cX9_put 2 .int 2 45 [.ref m0, .int x] [(m0, .inr (8, [.int mth, .int mst, .ref mp, .int mln, .ref mk, .int mts, .ref mti, .ref mtw, .ref mi, .int mmn, .ref mpo, .int mpd, .ref mpi, .int mpl, .int mcp, .ref mre, .ref mnn, .ref mwo, .ref mga, .ref mlo, .ref mro, .ref mle, .ref mra, .int mme, .ref mha, .int mch, .int mtm, .int mgo, .int mwa, .ref mba, .int mbl, .ref mon])), (mp, .inl (cI, 10, .inl mpf))] ((Int32) × (Int32) × (Int32) × (Nat → Int32)) (fun (res : Int32) (u : (Int32) × (Int32) × (Int32) × (Nat → Int32)) => (0 ≤ u.2.2.1.toInt ∧ u.2.2.1.toInt ≤ 10) ∧ True) (fun (u : (Int32) × (Int32) × (Int32) × (Nat → Int32)) => [(m0, .inr (8, [.int u.1, .int u.2.1, .ref mp, .int u.2.2.1, .ref mk, .int mts, .ref mti, .ref mtw, .ref mi, .int mmn, .ref mpo, .int mpd, .ref mpi, .int mpl, .int mcp, .ref mre, .ref mnn, .ref mwo, .ref mga, .ref mlo, .ref mro, .ref mle, .ref mra, .int mme, .ref mha, .int mch, .int mtm, .int mgo, .int mwa, .ref mba, .int mbl, .ref mon])), (mp, .inl (cI, 10, .inl u.2.2.2))]) := by
  refine entI (by decide) (Nat.le_of_ble_eq_true rfl) ?_
  intro p e s m below meth c A Q ls hAt hret hP hD hS hl
  obtain ⟨hx, hb, hml, hown, hts, hA, hAb, hK, hE, hlocks, hin⟩ := hAt
  have hG : CG dC dI cI cJ base bB bO cX9_put 2 RX9 p s m (List.toArray [.ref m0, .int x]) c A := ⟨hx, hb, hml, hown, hts, hA, hAb, hK, hE⟩
  have hl : lv_has ls 2 [(0, .ref m0), (1, .int x)] := hl
  have c_m5 : (-5 : Int32).toInt = -5 := by decide
  have c_m1 : (-1 : Int32).toInt = -1 := by decide
  have c_0 : (0 : Int32).toInt = 0 := by decide
  have c_1 : (1 : Int32).toInt = 1 := by decide
  have c_10 : (10 : Int32).toInt = 10 := by decide
  obtain ⟨H, hHe⟩ : ∃ H : Heap, H = s.heap := ⟨_, rfl⟩
  obtain ⟨locs, hle⟩ : ∃ z : List Loc, z = [] := ⟨_, rfl⟩
  rw [← hHe] at hP
  have hS : va_S A s.heap H locs := by rw [hHe, hle]; exact hS
  suffices hgo : W p l e { frames := 2, cells := 0, slots := 0, locals := 45 } s m (List.toArray [.ref m0, .int x]) below meth c H locs 0 0 Q (F0 m 0 ls []) by rw [hHe, hle] at hgo; exact hgo
  refine lv_aload_n hx hb dX9_put_0 rfl (lv_at hl 0 rfl) ?_
  refine lv_iconst (v := 0) hx hb dX9_put_1 (by decide) ?_
  refine va_put (D := (dC, dI)) (ci := 8) (v := .int 0) (ty := .int) (C := RX9) (T := TX9) (N := 32) hx hb hts inG_X9 tyX9 tyX9_ok nmX9 hown hK hP hD hS 0 rfl rfl 0 (by decide) (hts _ fl_X9_69) (fun _ h9 => h9) rfl (by decide +kernel) rfl rfl (Nat.le_of_ble_eq_true rfl) dX9_put_2 (fun H locs hP hD hS => ?_)
  have hP : va_P (dC, dI) vwCl [(m0, .inr (8, [.int 0, .int mst, .ref mp, .int mln, .ref mk, .int mts, .ref mti, .ref mtw, .ref mi, .int mmn, .ref mpo, .int mpd, .ref mpi, .int mpl, .int mcp, .ref mre, .ref mnn, .ref mwo, .ref mga, .ref mlo, .ref mro, .ref mle, .ref mra, .int mme, .ref mha, .int mch, .int mtm, .int mgo, .int mwa, .ref mba, .int mbl, .ref mon])), (mp, .inl (cI, 10, .inl mpf))] H := hP
  have hD : va_D A [(m0, .inr (8, [.int 0, .int mst, .ref mp, .int mln, .ref mk, .int mts, .ref mti, .ref mtw, .ref mi, .int mmn, .ref mpo, .int mpd, .ref mpi, .int mpl, .int mcp, .ref mre, .ref mnn, .ref mwo, .ref mga, .ref mlo, .ref mro, .ref mle, .ref mra, .int mme, .ref mha, .int mch, .int mtm, .int mgo, .int mwa, .ref mba, .int mbl, .ref mon])), (mp, .inl (cI, 10, .inl mpf))] := hD
  refine lv_iload_n hx hb dX9_put_5 rfl (lv_at hl 1 rfl) ?_
  refine calOI (rest := []) (wr := [(m0, .inr (8, [.int 0, .int mst, .ref mp, .int mln, .ref mk, .int mts, .ref mti, .ref mtw, .ref mi, .int mmn, .ref mpo, .int mpd, .ref mpi, .int mpl, .int mcp, .ref mre, .ref mnn, .ref mwo, .ref mga, .ref mlo, .ref mro, .ref mle, .ref mra, .int mme, .ref mha, .int mch, .int mtm, .int mgo, .int mwa, .ref mba, .int mbl, .ref mon])), (mp, .inl (cI, 10, .inl mpf))]) hG (c_X9_isToken l dC dI cI cJ base bB bO x ) ml_X9_81 st_X9_isToken ini_X9 cd_X9_isToken hd_X9_isToken.2 ⟨(Nat.le_of_ble_eq_true rfl), (Nat.le_of_ble_eq_true rfl)⟩ (Nat.le_of_ble_eq_true rfl) (Nat.le_of_ble_eq_true rfl) hP hD hS [] [0, 1] rfl rfl rfl rfl (by decide) hl.1 rfl (Nat.le_of_ble_eq_true rfl) dX9_put_6 (fun r1 u H locs hw2 hP hD hS => ?_)
  have hw2 : ((r1.toInt = 1 ∧ 0 ≤ x.toInt ∧ x.toInt ≤ 27) ∨ (r1.toInt = 0 ∧ (x.toInt < 0 ∨ 27 < x.toInt))) ∧ True := hw2
  obtain ⟨hp3, -⟩ := hw2
  have hP : va_P (dC, dI) vwCl [(m0, .inr (8, [.int 0, .int mst, .ref mp, .int mln, .ref mk, .int mts, .ref mti, .ref mtw, .ref mi, .int mmn, .ref mpo, .int mpd, .ref mpi, .int mpl, .int mcp, .ref mre, .ref mnn, .ref mwo, .ref mga, .ref mlo, .ref mro, .ref mle, .ref mra, .int mme, .ref mha, .int mch, .int mtm, .int mgo, .int mwa, .ref mba, .int mbl, .ref mon])), (mp, .inl (cI, 10, .inl mpf))] H := hP
  have hD : va_D A [(m0, .inr (8, [.int 0, .int mst, .ref mp, .int mln, .ref mk, .int mts, .ref mti, .ref mtw, .ref mi, .int mmn, .ref mpo, .int mpd, .ref mpi, .int mpl, .int mcp, .ref mre, .ref mnn, .ref mwo, .ref mga, .ref mlo, .ref mro, .ref mle, .ref mra, .int mme, .ref mha, .int mch, .int mtm, .int mgo, .int mwa, .ref mba, .int mbl, .ref mon])), (mp, .inl (cI, 10, .inl mpf))] := hD
  refine lv_if_ne (tgt := 18) hx hb dX9_put_9 (by decide) (fun c4 => ?_) (fun c4 => ?_)
  · have c4' := I_ne c4
    refine lv_aload_n hx hb dX9_put_18 rfl (lv_at hl 0 rfl) ?_
    refine va_get (D := (dC, dI)) (ci := 8) (v := .int mln) (C := RX9) (T := TX9) (N := 32) hx hb hts inG_X9 hown hK hP 0 rfl rfl 3 (by decide) (hts _ fl_X9_89) (fun _ h9 => h9) rfl dX9_put_19 ?_
    refine lv_bipush (v := 10) hx hb dX9_put_22 (by decide) ?_
    refine lv_icmp_ne (tgt := 34) hx hb dX9_put_24 (by decide) (fun c5 => ?_) (fun c5 => ?_)
    · have c5' := I_ne c5
      refine lv_aload_n hx hb dX9_put_34 rfl (lv_at hl 0 rfl) ?_
      refine va_get (D := (dC, dI)) (ci := 8) (v := .ref mp) (C := RX9) (T := TX9) (N := 32) hx hb hts inG_X9 hown hK hP 0 rfl rfl 2 (by decide) (hts _ fl_X9_7) (fun _ h9 => h9) rfl dX9_put_35 ?_
      refine lv_aload_n hx hb dX9_put_38 rfl (lv_at hl 0 rfl) ?_
      refine va_get (D := (dC, dI)) (ci := 8) (v := .int mln) (C := RX9) (T := TX9) (N := 32) hx hb hts inG_X9 hown hK hP 0 rfl rfl 3 (by decide) (hts _ fl_X9_89) (fun _ h9 => h9) rfl dX9_put_39 ?_
      refine lv_iload_n hx hb dX9_put_42 rfl (lv_at hl 1 rfl) ?_
      refine va_iast (t0 := 0) hx hb hK hP hD hS 1 (ha := rfl) (ht := rfl) (I_in (by omega) (by omega)) dX9_put_43 (fun H locs hP hD hS => ?_)
      have hP : va_P (dC, dI) vwCl [(m0, .inr (8, [.int 0, .int mst, .ref mp, .int mln, .ref mk, .int mts, .ref mti, .ref mtw, .ref mi, .int mmn, .ref mpo, .int mpd, .ref mpi, .int mpl, .int mcp, .ref mre, .ref mnn, .ref mwo, .ref mga, .ref mlo, .ref mro, .ref mle, .ref mra, .int mme, .ref mha, .int mch, .int mtm, .int mgo, .int mwa, .ref mba, .int mbl, .ref mon])), (mp, .inl (cI, 10, .inl (upd mpf mln.toNatClampNeg x)))] H := hP
      have hD : va_D A [(m0, .inr (8, [.int 0, .int mst, .ref mp, .int mln, .ref mk, .int mts, .ref mti, .ref mtw, .ref mi, .int mmn, .ref mpo, .int mpd, .ref mpi, .int mpl, .int mcp, .ref mre, .ref mnn, .ref mwo, .ref mga, .ref mlo, .ref mro, .ref mle, .ref mra, .int mme, .ref mha, .int mch, .int mtm, .int mgo, .int mwa, .ref mba, .int mbl, .ref mon])), (mp, .inl (cI, 10, .inl (upd mpf mln.toNatClampNeg x)))] := hD
      generalize ef6 : upd mpf mln.toNatClampNeg x = f6 at hP hD
      refine lv_aload_n hx hb dX9_put_44 rfl (lv_at hl 0 rfl) ?_
      refine lv_dup hx hb dX9_put_45 rfl ?_
      refine va_get (D := (dC, dI)) (ci := 8) (v := .int mln) (C := RX9) (T := TX9) (N := 32) hx hb hts inG_X9 hown hK hP 0 rfl rfl 3 (by decide) (hts _ fl_X9_89) (fun _ h9 => h9) rfl dX9_put_46 ?_
      refine lv_iconst (v := 1) hx hb dX9_put_49 (by decide) ?_
      refine lv_iadd hx hb dX9_put_50 ?_
      refine lv_topi (fun v7 ev7 => ?_)
      try have hv7 : v7.toInt = mln.toInt + (1 : Int32).toInt := I_addx ev7 (by omega)
      refine va_put (D := (dC, dI)) (ci := 8) (v := .int v7) (ty := .int) (C := RX9) (T := TX9) (N := 32) hx hb hts inG_X9 tyX9 tyX9_ok nmX9 hown hK hP hD hS 0 rfl rfl 3 (by decide) (hts _ fl_X9_89) (fun _ h9 => h9) rfl (by decide +kernel) rfl rfl (Nat.le_of_ble_eq_true rfl) dX9_put_51 (fun H locs hP hD hS => ?_)
      have hP : va_P (dC, dI) vwCl [(m0, .inr (8, [.int 0, .int mst, .ref mp, .int v7, .ref mk, .int mts, .ref mti, .ref mtw, .ref mi, .int mmn, .ref mpo, .int mpd, .ref mpi, .int mpl, .int mcp, .ref mre, .ref mnn, .ref mwo, .ref mga, .ref mlo, .ref mro, .ref mle, .ref mra, .int mme, .ref mha, .int mch, .int mtm, .int mgo, .int mwa, .ref mba, .int mbl, .ref mon])), (mp, .inl (cI, 10, .inl f6))] H := hP
      have hD : va_D A [(m0, .inr (8, [.int 0, .int mst, .ref mp, .int v7, .ref mk, .int mts, .ref mti, .ref mtw, .ref mi, .int mmn, .ref mpo, .int mpd, .ref mpi, .int mpl, .int mcp, .ref mre, .ref mnn, .ref mwo, .ref mga, .ref mlo, .ref mro, .ref mle, .ref mra, .int mme, .ref mha, .int mch, .int mtm, .int mgo, .int mwa, .ref mba, .int mbl, .ref mon])), (mp, .inl (cI, 10, .inl f6))] := hD
      refine lv_aload_n hx hb dX9_put_54 rfl (lv_at hl 0 rfl) ?_
      refine lv_aload_n hx hb dX9_put_55 rfl (lv_at hl 0 rfl) ?_
      refine va_get (D := (dC, dI)) (ci := 8) (v := .int v7) (C := RX9) (T := TX9) (N := 32) hx hb hts inG_X9 hown hK hP 0 rfl rfl 3 (by decide) (hts _ fl_X9_89) (fun _ h9 => h9) rfl dX9_put_56 ?_
      refine calI (rest := []) (wr := [(mp, .inl (cI, 10, .inl f6))]) hG (c_X9_told l dC dI cI cJ base bB bO m0 0 mst mp v7 mk mts mti mtw mi mmn mpo mpd mpi mpl mcp mre mnn mwo mga mlo mro mle mra mme mha mch mtm mgo mwa mba mbl mon v7 ) ml_X9_85 im_X9_told se_X9_told ini_X9 cd_X9_told hd_X9_told ⟨(Nat.le_of_ble_eq_true rfl), (Nat.le_of_ble_eq_true rfl)⟩ (Nat.le_of_ble_eq_true rfl) (Nat.le_of_ble_eq_true rfl) hP hD hS [0] [1] rfl rfl rfl rfl (by decide) 8 0 rfl rfl hl.1 rfl (Nat.le_of_ble_eq_true rfl) dX9_put_59 (fun r8 u H locs hw9 hP hD hS => ?_)
      obtain ⟨mst_10, rfl⟩ : ∃ z, z = u := ⟨_, rfl⟩
      have hw9 : (r8 = v7) ∧ True := hw9
      obtain ⟨hp11, -⟩ := hw9
      have hp11t := I_eq hp11
      have hP : va_P (dC, dI) vwCl [(mp, .inl (cI, 10, .inl f6)), (m0, .inr (8, [.int 0, .int mst_10, .ref mp, .int v7, .ref mk, .int mts, .ref mti, .ref mtw, .ref mi, .int mmn, .ref mpo, .int mpd, .ref mpi, .int mpl, .int mcp, .ref mre, .ref mnn, .ref mwo, .ref mga, .ref mlo, .ref mro, .ref mle, .ref mra, .int mme, .ref mha, .int mch, .int mtm, .int mgo, .int mwa, .ref mba, .int mbl, .ref mon]))] H := hP
      have hD : va_D A [(mp, .inl (cI, 10, .inl f6)), (m0, .inr (8, [.int 0, .int mst_10, .ref mp, .int v7, .ref mk, .int mts, .ref mti, .ref mtw, .ref mi, .int mmn, .ref mpo, .int mpd, .ref mpi, .int mpl, .int mcp, .ref mre, .ref mnn, .ref mwo, .ref mga, .ref mlo, .ref mro, .ref mle, .ref mra, .int mme, .ref mha, .int mch, .int mtm, .int mgo, .int mwa, .ref mba, .int mbl, .ref mon]))] := hD
      exact hret r8 (0, mst_10, v7, f6) H locs 62 ls rfl ⟨(show 0 ≤ v7.toInt ∧ v7.toInt ≤ 10 from by first | rfl | assumption | omega), trivial⟩ (hP.sub (ws' := [(m0, .inr (8, [.int 0, .int mst_10, .ref mp, .int v7, .ref mk, .int mts, .ref mti, .ref mtw, .ref mi, .int mmn, .ref mpo, .int mpd, .ref mpi, .int mpl, .int mcp, .ref mre, .ref mnn, .ref mwo, .ref mga, .ref mlo, .ref mro, .ref mle, .ref mra, .int mme, .ref mha, .int mch, .int mtm, .int mgo, .int mwa, .ref mba, .int mbl, .ref mon])), (mp, .inl (cI, 10, .inl f6))]) [1, 0] rfl) (hD.sub (ws' := [(m0, .inr (8, [.int 0, .int mst_10, .ref mp, .int v7, .ref mk, .int mts, .ref mti, .ref mtw, .ref mi, .int mmn, .ref mpo, .int mpd, .ref mpi, .int mpl, .int mcp, .ref mre, .ref mnn, .ref mwo, .ref mga, .ref mlo, .ref mro, .ref mle, .ref mra, .int mme, .ref mha, .int mch, .int mtm, .int mgo, .int mwa, .ref mba, .int mbl, .ref mon])), (mp, .inl (cI, 10, .inl f6))]) [1, 0] (by decide) rfl) hS dX9_put_62
    · have c5' := I_eq c5
      refine lv_aload_n hx hb dX9_put_27 rfl (lv_at hl 0 rfl) ?_
      refine lv_bipush (v := (-5)) hx hb dX9_put_28 (by decide) ?_
      refine calI (rest := []) (wr := [(mp, .inl (cI, 10, .inl mpf))]) hG (c_X9_told l dC dI cI cJ base bB bO m0 0 mst mp mln mk mts mti mtw mi mmn mpo mpd mpi mpl mcp mre mnn mwo mga mlo mro mle mra mme mha mch mtm mgo mwa mba mbl mon (-5) ) ml_X9_85 im_X9_told se_X9_told ini_X9 cd_X9_told hd_X9_told ⟨(Nat.le_of_ble_eq_true rfl), (Nat.le_of_ble_eq_true rfl)⟩ (Nat.le_of_ble_eq_true rfl) (Nat.le_of_ble_eq_true rfl) hP hD hS [0] [1] rfl rfl rfl rfl (by decide) 8 0 rfl rfl hl.1 rfl (Nat.le_of_ble_eq_true rfl) dX9_put_30 (fun r12 u H locs hw13 hP hD hS => ?_)
      obtain ⟨mst_14, rfl⟩ : ∃ z, z = u := ⟨_, rfl⟩
      have hw13 : (r12 = (-5 : Int32)) ∧ True := hw13
      obtain ⟨hp15, -⟩ := hw13
      have hp15t := I_eq hp15
      have hP : va_P (dC, dI) vwCl [(mp, .inl (cI, 10, .inl mpf)), (m0, .inr (8, [.int 0, .int mst_14, .ref mp, .int mln, .ref mk, .int mts, .ref mti, .ref mtw, .ref mi, .int mmn, .ref mpo, .int mpd, .ref mpi, .int mpl, .int mcp, .ref mre, .ref mnn, .ref mwo, .ref mga, .ref mlo, .ref mro, .ref mle, .ref mra, .int mme, .ref mha, .int mch, .int mtm, .int mgo, .int mwa, .ref mba, .int mbl, .ref mon]))] H := hP
      have hD : va_D A [(mp, .inl (cI, 10, .inl mpf)), (m0, .inr (8, [.int 0, .int mst_14, .ref mp, .int mln, .ref mk, .int mts, .ref mti, .ref mtw, .ref mi, .int mmn, .ref mpo, .int mpd, .ref mpi, .int mpl, .int mcp, .ref mre, .ref mnn, .ref mwo, .ref mga, .ref mlo, .ref mro, .ref mle, .ref mra, .int mme, .ref mha, .int mch, .int mtm, .int mgo, .int mwa, .ref mba, .int mbl, .ref mon]))] := hD
      exact hret r12 (0, mst_14, mln, mpf) H locs 33 ls rfl ⟨(show 0 ≤ mln.toInt ∧ mln.toInt ≤ 10 from by first | rfl | assumption | omega), trivial⟩ (hP.sub (ws' := [(m0, .inr (8, [.int 0, .int mst_14, .ref mp, .int mln, .ref mk, .int mts, .ref mti, .ref mtw, .ref mi, .int mmn, .ref mpo, .int mpd, .ref mpi, .int mpl, .int mcp, .ref mre, .ref mnn, .ref mwo, .ref mga, .ref mlo, .ref mro, .ref mle, .ref mra, .int mme, .ref mha, .int mch, .int mtm, .int mgo, .int mwa, .ref mba, .int mbl, .ref mon])), (mp, .inl (cI, 10, .inl mpf))]) [1, 0] rfl) (hD.sub (ws' := [(m0, .inr (8, [.int 0, .int mst_14, .ref mp, .int mln, .ref mk, .int mts, .ref mti, .ref mtw, .ref mi, .int mmn, .ref mpo, .int mpd, .ref mpi, .int mpl, .int mcp, .ref mre, .ref mnn, .ref mwo, .ref mga, .ref mlo, .ref mro, .ref mle, .ref mra, .int mme, .ref mha, .int mch, .int mtm, .int mgo, .int mwa, .ref mba, .int mbl, .ref mon])), (mp, .inl (cI, 10, .inl mpf))]) [1, 0] (by decide) rfl) hS dX9_put_33
  · have c4' := I_eq c4
    refine lv_aload_n hx hb dX9_put_12 rfl (lv_at hl 0 rfl) ?_
    refine lv_iconst (v := (-1)) hx hb dX9_put_13 (by decide) ?_
    refine calI (rest := []) (wr := [(mp, .inl (cI, 10, .inl mpf))]) hG (c_X9_told l dC dI cI cJ base bB bO m0 0 mst mp mln mk mts mti mtw mi mmn mpo mpd mpi mpl mcp mre mnn mwo mga mlo mro mle mra mme mha mch mtm mgo mwa mba mbl mon (-1) ) ml_X9_85 im_X9_told se_X9_told ini_X9 cd_X9_told hd_X9_told ⟨(Nat.le_of_ble_eq_true rfl), (Nat.le_of_ble_eq_true rfl)⟩ (Nat.le_of_ble_eq_true rfl) (Nat.le_of_ble_eq_true rfl) hP hD hS [0] [1] rfl rfl rfl rfl (by decide) 8 0 rfl rfl hl.1 rfl (Nat.le_of_ble_eq_true rfl) dX9_put_14 (fun r16 u H locs hw17 hP hD hS => ?_)
    obtain ⟨mst_18, rfl⟩ : ∃ z, z = u := ⟨_, rfl⟩
    have hw17 : (r16 = (-1 : Int32)) ∧ True := hw17
    obtain ⟨hp19, -⟩ := hw17
    have hp19t := I_eq hp19
    have hP : va_P (dC, dI) vwCl [(mp, .inl (cI, 10, .inl mpf)), (m0, .inr (8, [.int 0, .int mst_18, .ref mp, .int mln, .ref mk, .int mts, .ref mti, .ref mtw, .ref mi, .int mmn, .ref mpo, .int mpd, .ref mpi, .int mpl, .int mcp, .ref mre, .ref mnn, .ref mwo, .ref mga, .ref mlo, .ref mro, .ref mle, .ref mra, .int mme, .ref mha, .int mch, .int mtm, .int mgo, .int mwa, .ref mba, .int mbl, .ref mon]))] H := hP
    have hD : va_D A [(mp, .inl (cI, 10, .inl mpf)), (m0, .inr (8, [.int 0, .int mst_18, .ref mp, .int mln, .ref mk, .int mts, .ref mti, .ref mtw, .ref mi, .int mmn, .ref mpo, .int mpd, .ref mpi, .int mpl, .int mcp, .ref mre, .ref mnn, .ref mwo, .ref mga, .ref mlo, .ref mro, .ref mle, .ref mra, .int mme, .ref mha, .int mch, .int mtm, .int mgo, .int mwa, .ref mba, .int mbl, .ref mon]))] := hD
    exact hret r16 (0, mst_18, mln, mpf) H locs 17 ls rfl ⟨(show 0 ≤ mln.toInt ∧ mln.toInt ≤ 10 from by first | rfl | assumption | omega), trivial⟩ (hP.sub (ws' := [(m0, .inr (8, [.int 0, .int mst_18, .ref mp, .int mln, .ref mk, .int mts, .ref mti, .ref mtw, .ref mi, .int mmn, .ref mpo, .int mpd, .ref mpi, .int mpl, .int mcp, .ref mre, .ref mnn, .ref mwo, .ref mga, .ref mlo, .ref mro, .ref mle, .ref mra, .int mme, .ref mha, .int mch, .int mtm, .int mgo, .int mwa, .ref mba, .int mbl, .ref mon])), (mp, .inl (cI, 10, .inl mpf))]) [1, 0] rfl) (hD.sub (ws' := [(m0, .inr (8, [.int 0, .int mst_18, .ref mp, .int mln, .ref mk, .int mts, .ref mti, .ref mtw, .ref mi, .int mmn, .ref mpo, .int mpd, .ref mpi, .int mpl, .int mcp, .ref mre, .ref mnn, .ref mwo, .ref mga, .ref mlo, .ref mro, .ref mle, .ref mra, .int mme, .ref mha, .int mch, .int mtm, .int mgo, .int mwa, .ref mba, .int mbl, .ref mon])), (mp, .inl (cI, 10, .inl mpf))]) [1, 0] (by decide) rfl) hS dX9_put_17
set_option maxHeartbeats 4000000 in
set_option maxRecDepth 100000 in
theorem c_X9_set (l : Launch) (dC : Nat → ClassId) (dI : Nat → Nat → Nat) (cI cJ : ClassId) (base bB bO : Nat) (m0 : Nat) (mth : Int32) (mst : Int32) (mp : Nat) (mln : Int32) (mk : Nat) (mts : Int32) (mti : Nat) (mtw : Nat) (mi : Nat) (mmn : Int32) (mpo : Nat) (mpd : Int32) (mpi : Nat) (mpl : Int32) (mcp : Int32) (mre : Nat) (mnn : Nat) (mwo : Nat) (mga : Nat) (mlo : Nat) (mro : Nat) (mle : Nat) (mra : Nat) (mme : Int32) (mha : Nat) (mch : Int32) (mtm : Int32) (mgo : Int32) (mwa : Int32) (mba : Nat) (mbl : Int32) (mon : Nat) (mpf : Nat → Int32) (i : Int32) (x : Int32) (hq0 : 0 ≤ mln.toInt ∧ mln.toInt ≤ 10) : CtI l dC dI cI cJ base bB bO yX9_set cX9_set 4 .int 2 45 [.ref m0, .int i, .int x] [(m0, .inr (8, [.int mth, .int mst, .ref mp, .int mln, .ref mk, .int mts, .ref mti, .ref mtw, .ref mi, .int mmn, .ref mpo, .int mpd, .ref mpi, .int mpl, .int mcp, .ref mre, .ref mnn, .ref mwo, .ref mga, .ref mlo, .ref mro, .ref mle, .ref mra, .int mme, .ref mha, .int mch, .int mtm, .int mgo, .int mwa, .ref mba, .int mbl, .ref mon])), (mp, .inl (cI, 10, .inl mpf))] ((Int32) × (Int32) × (Int32) × (Nat → Int32)) (fun (res : Int32) (u : (Int32) × (Int32) × (Int32) × (Nat → Int32)) => (0 ≤ u.2.2.1.toInt ∧ u.2.2.1.toInt ≤ 10) ∧ True) (fun (u : (Int32) × (Int32) × (Int32) × (Nat → Int32)) => [(m0, .inr (8, [.int u.1, .int u.2.1, .ref mp, .int u.2.2.1, .ref mk, .int mts, .ref mti, .ref mtw, .ref mi, .int mmn, .ref mpo, .int mpd, .ref mpi, .int mpl, .int mcp, .ref mre, .ref mnn, .ref mwo, .ref mga, .ref mlo, .ref mro, .ref mle, .ref mra, .int mme, .ref mha, .int mch, .int mtm, .int mgo, .int mwa, .ref mba, .int mbl, .ref mon])), (mp, .inl (cI, 10, .inl u.2.2.2))]) := by
  refine entI (by decide) (Nat.le_of_ble_eq_true rfl) ?_
  intro p e s m below meth c A Q ls hAt hret hP hD hS hl
  obtain ⟨hx, hb, hml, hown, hts, hA, hAb, hK, hE, hlocks, hin⟩ := hAt
  have hG : CG dC dI cI cJ base bB bO cX9_set 4 RX9 p s m (List.toArray [.ref m0, .int i, .int x]) c A := ⟨hx, hb, hml, hown, hts, hA, hAb, hK, hE⟩
  have hl : lv_has ls 4 [(0, .ref m0), (1, .int i), (2, .int x)] := hl
  have c_m2 : (-2 : Int32).toInt = -2 := by decide
  have c_m1 : (-1 : Int32).toInt = -1 := by decide
  have c_0 : (0 : Int32).toInt = 0 := by decide
  have c_1 : (1 : Int32).toInt = 1 := by decide
  have cl_0 : (0 : Int64).toInt = 0 := by decide
  have cl_1 : (1 : Int64).toInt = 1 := by decide
  obtain ⟨H, hHe⟩ : ∃ H : Heap, H = s.heap := ⟨_, rfl⟩
  obtain ⟨locs, hle⟩ : ∃ z : List Loc, z = [] := ⟨_, rfl⟩
  rw [← hHe] at hP
  have hS : va_S A s.heap H locs := by rw [hHe, hle]; exact hS
  suffices hgo : W p l e { frames := 2, cells := 0, slots := 0, locals := 45 } s m (List.toArray [.ref m0, .int i, .int x]) below meth c H locs 0 0 Q (F0 m 0 ls []) by rw [hHe, hle] at hgo; exact hgo
  refine lv_aload_n hx hb dX9_set_0 rfl (lv_at hl 0 rfl) ?_
  refine lv_iconst (v := 0) hx hb dX9_set_1 (by decide) ?_
  refine va_put (D := (dC, dI)) (ci := 8) (v := .int 0) (ty := .int) (C := RX9) (T := TX9) (N := 32) hx hb hts inG_X9 tyX9 tyX9_ok nmX9 hown hK hP hD hS 0 rfl rfl 0 (by decide) (hts _ fl_X9_69) (fun _ h9 => h9) rfl (by decide +kernel) rfl rfl (Nat.le_of_ble_eq_true rfl) dX9_set_2 (fun H locs hP hD hS => ?_)
  have hP : va_P (dC, dI) vwCl [(m0, .inr (8, [.int 0, .int mst, .ref mp, .int mln, .ref mk, .int mts, .ref mti, .ref mtw, .ref mi, .int mmn, .ref mpo, .int mpd, .ref mpi, .int mpl, .int mcp, .ref mre, .ref mnn, .ref mwo, .ref mga, .ref mlo, .ref mro, .ref mle, .ref mra, .int mme, .ref mha, .int mch, .int mtm, .int mgo, .int mwa, .ref mba, .int mbl, .ref mon])), (mp, .inl (cI, 10, .inl mpf))] H := hP
  have hD : va_D A [(m0, .inr (8, [.int 0, .int mst, .ref mp, .int mln, .ref mk, .int mts, .ref mti, .ref mtw, .ref mi, .int mmn, .ref mpo, .int mpd, .ref mpi, .int mpl, .int mcp, .ref mre, .ref mnn, .ref mwo, .ref mga, .ref mlo, .ref mro, .ref mle, .ref mra, .int mme, .ref mha, .int mch, .int mtm, .int mgo, .int mwa, .ref mba, .int mbl, .ref mon])), (mp, .inl (cI, 10, .inl mpf))] := hD
  refine lv_iload_n hx hb dX9_set_5 rfl (lv_at hl 2 rfl) ?_
  refine lv_iconst (v := (-1)) hx hb dX9_set_6 (by decide) ?_
  refine lv_icmp_eq (tgt := 23) hx hb dX9_set_7 (by decide) (fun c1 => ?_) (fun c1 => ?_)
  · have c1' := I_eq c1
    refine lv_iload_n hx hb dX9_set_23 rfl (lv_at hl 1 rfl) ?_
    obtain ⟨w2, ew2⟩ : ∃ z : Int64, Int32.toInt64 i = z := ⟨_, rfl⟩
    have hw2 := J_of i
    rw [ew2] at hw2
    refine lv_i2l (v := w2) hx hb dX9_set_24 ew2 ?_
    refine lv_lconst (v := 0) hx hb dX9_set_25 (by decide) ?_
    refine lv_aload_n hx hb dX9_set_26 rfl (lv_at hl 0 rfl) ?_
    refine va_get (D := (dC, dI)) (ci := 8) (v := .int mln) (C := RX9) (T := TX9) (N := 32) hx hb hts inG_X9 hown hK hP 0 rfl rfl 3 (by decide) (hts _ fl_X9_89) (fun _ h9 => h9) rfl dX9_set_27 ?_
    obtain ⟨w3, ew3⟩ : ∃ z : Int64, Int32.toInt64 mln = z := ⟨_, rfl⟩
    have hw3 := J_of mln
    rw [ew3] at hw3
    refine lv_i2l (v := w3) hx hb dX9_set_30 ew3 ?_
    refine lv_lconst (v := 1) hx hb dX9_set_31 (by decide) ?_
    refine lv_lsub hx hb dX9_set_32 ?_
    refine lv_topl (fun w4 ew4 => ?_)
    try have hw4 : w4.toInt = w3.toInt - (1 : Int64).toInt := J_subx ew4 (by omega)
    refine calOI (rest := []) (wr := [(m0, .inr (8, [.int 0, .int mst, .ref mp, .int mln, .ref mk, .int mts, .ref mti, .ref mtw, .ref mi, .int mmn, .ref mpo, .int mpd, .ref mpi, .int mpl, .int mcp, .ref mre, .ref mnn, .ref mwo, .ref mga, .ref mlo, .ref mro, .ref mle, .ref mra, .int mme, .ref mha, .int mch, .int mtm, .int mgo, .int mwa, .ref mba, .int mbl, .ref mon])), (mp, .inl (cI, 10, .inl mpf))]) hG (c_X9_in l dC dI cI cJ base bB bO w2 0 w4 ) ml_X9_77 st_X9_in ini_X9 cd_X9_in hd_X9_in.2 ⟨(Nat.le_of_ble_eq_true rfl), (Nat.le_of_ble_eq_true rfl)⟩ (Nat.le_of_ble_eq_true rfl) (Nat.le_of_ble_eq_true rfl) hP hD hS [] [0, 1] rfl rfl rfl rfl (by decide) hl.1 rfl (Nat.le_of_ble_eq_true rfl) dX9_set_33 (fun r5 u H locs hw6 hP hD hS => ?_)
    have hw6 : ((r5.toInt = 1 ∧ (0 : Int64).toInt ≤ w2.toInt ∧ w2.toInt ≤ w4.toInt) ∨ (r5.toInt = 0 ∧ (w2.toInt < (0 : Int64).toInt ∨ w4.toInt < w2.toInt))) ∧ True := hw6
    obtain ⟨hp7, -⟩ := hw6
    have hP : va_P (dC, dI) vwCl [(m0, .inr (8, [.int 0, .int mst, .ref mp, .int mln, .ref mk, .int mts, .ref mti, .ref mtw, .ref mi, .int mmn, .ref mpo, .int mpd, .ref mpi, .int mpl, .int mcp, .ref mre, .ref mnn, .ref mwo, .ref mga, .ref mlo, .ref mro, .ref mle, .ref mra, .int mme, .ref mha, .int mch, .int mtm, .int mgo, .int mwa, .ref mba, .int mbl, .ref mon])), (mp, .inl (cI, 10, .inl mpf))] H := hP
    have hD : va_D A [(m0, .inr (8, [.int 0, .int mst, .ref mp, .int mln, .ref mk, .int mts, .ref mti, .ref mtw, .ref mi, .int mmn, .ref mpo, .int mpd, .ref mpi, .int mpl, .int mcp, .ref mre, .ref mnn, .ref mwo, .ref mga, .ref mlo, .ref mro, .ref mle, .ref mra, .int mme, .ref mha, .int mch, .int mtm, .int mgo, .int mwa, .ref mba, .int mbl, .ref mon])), (mp, .inl (cI, 10, .inl mpf))] := hD
    refine lv_if_ne (tgt := 46) hx hb dX9_set_36 (by decide) (fun c8 => ?_) (fun c8 => ?_)
    · have c8' := I_ne c8
      refine lv_iload_n hx hb dX9_set_46 rfl (lv_at hl 2 rfl) ?_
      refine lv_iconst (v := (-1)) hx hb dX9_set_47 (by decide) ?_
      refine lv_icmp_ne (tgt := 94) hx hb dX9_set_48 (by decide) (fun c9 => ?_) (fun c9 => ?_)
      · have c9' := I_ne c9
        refine lv_aload_n hx hb dX9_set_94 rfl (lv_at hl 0 rfl) ?_
        refine va_get (D := (dC, dI)) (ci := 8) (v := .ref mp) (C := RX9) (T := TX9) (N := 32) hx hb hts inG_X9 hown hK hP 0 rfl rfl 2 (by decide) (hts _ fl_X9_7) (fun _ h9 => h9) rfl dX9_set_95 ?_
        refine lv_iload_n hx hb dX9_set_98 rfl (lv_at hl 1 rfl) ?_
        refine lv_iload_n hx hb dX9_set_99 rfl (lv_at hl 2 rfl) ?_
        refine va_iast (t0 := 0) hx hb hK hP hD hS 1 (ha := rfl) (ht := rfl) (I_in (by omega) (by omega)) dX9_set_100 (fun H locs hP hD hS => ?_)
        have hP : va_P (dC, dI) vwCl [(m0, .inr (8, [.int 0, .int mst, .ref mp, .int mln, .ref mk, .int mts, .ref mti, .ref mtw, .ref mi, .int mmn, .ref mpo, .int mpd, .ref mpi, .int mpl, .int mcp, .ref mre, .ref mnn, .ref mwo, .ref mga, .ref mlo, .ref mro, .ref mle, .ref mra, .int mme, .ref mha, .int mch, .int mtm, .int mgo, .int mwa, .ref mba, .int mbl, .ref mon])), (mp, .inl (cI, 10, .inl (upd mpf i.toNatClampNeg x)))] H := hP
        have hD : va_D A [(m0, .inr (8, [.int 0, .int mst, .ref mp, .int mln, .ref mk, .int mts, .ref mti, .ref mtw, .ref mi, .int mmn, .ref mpo, .int mpd, .ref mpi, .int mpl, .int mcp, .ref mre, .ref mnn, .ref mwo, .ref mga, .ref mlo, .ref mro, .ref mle, .ref mra, .int mme, .ref mha, .int mch, .int mtm, .int mgo, .int mwa, .ref mba, .int mbl, .ref mon])), (mp, .inl (cI, 10, .inl (upd mpf i.toNatClampNeg x)))] := hD
        generalize ef10 : upd mpf i.toNatClampNeg x = f10 at hP hD
        refine lv_aload_n hx hb dX9_set_101 rfl (lv_at hl 0 rfl) ?_
        refine lv_aload_n hx hb dX9_set_102 rfl (lv_at hl 0 rfl) ?_
        refine va_get (D := (dC, dI)) (ci := 8) (v := .int mln) (C := RX9) (T := TX9) (N := 32) hx hb hts inG_X9 hown hK hP 0 rfl rfl 3 (by decide) (hts _ fl_X9_89) (fun _ h9 => h9) rfl dX9_set_103 ?_
        refine calI (rest := []) (wr := [(mp, .inl (cI, 10, .inl f10))]) hG (c_X9_told l dC dI cI cJ base bB bO m0 0 mst mp mln mk mts mti mtw mi mmn mpo mpd mpi mpl mcp mre mnn mwo mga mlo mro mle mra mme mha mch mtm mgo mwa mba mbl mon mln ) ml_X9_85 im_X9_told se_X9_told ini_X9 cd_X9_told hd_X9_told ⟨(Nat.le_of_ble_eq_true rfl), (Nat.le_of_ble_eq_true rfl)⟩ (Nat.le_of_ble_eq_true rfl) (Nat.le_of_ble_eq_true rfl) hP hD hS [0] [1] rfl rfl rfl rfl (by decide) 8 0 rfl rfl hl.1 rfl (Nat.le_of_ble_eq_true rfl) dX9_set_106 (fun r11 u H locs hw12 hP hD hS => ?_)
        obtain ⟨mst_13, rfl⟩ : ∃ z, z = u := ⟨_, rfl⟩
        have hw12 : (r11 = mln) ∧ True := hw12
        obtain ⟨hp14, -⟩ := hw12
        have hp14t := I_eq hp14
        have hP : va_P (dC, dI) vwCl [(mp, .inl (cI, 10, .inl f10)), (m0, .inr (8, [.int 0, .int mst_13, .ref mp, .int mln, .ref mk, .int mts, .ref mti, .ref mtw, .ref mi, .int mmn, .ref mpo, .int mpd, .ref mpi, .int mpl, .int mcp, .ref mre, .ref mnn, .ref mwo, .ref mga, .ref mlo, .ref mro, .ref mle, .ref mra, .int mme, .ref mha, .int mch, .int mtm, .int mgo, .int mwa, .ref mba, .int mbl, .ref mon]))] H := hP
        have hD : va_D A [(mp, .inl (cI, 10, .inl f10)), (m0, .inr (8, [.int 0, .int mst_13, .ref mp, .int mln, .ref mk, .int mts, .ref mti, .ref mtw, .ref mi, .int mmn, .ref mpo, .int mpd, .ref mpi, .int mpl, .int mcp, .ref mre, .ref mnn, .ref mwo, .ref mga, .ref mlo, .ref mro, .ref mle, .ref mra, .int mme, .ref mha, .int mch, .int mtm, .int mgo, .int mwa, .ref mba, .int mbl, .ref mon]))] := hD
        exact hret r11 (0, mst_13, mln, f10) H locs 109 ls rfl ⟨(show 0 ≤ mln.toInt ∧ mln.toInt ≤ 10 from by first | rfl | assumption | omega), trivial⟩ (hP.sub (ws' := [(m0, .inr (8, [.int 0, .int mst_13, .ref mp, .int mln, .ref mk, .int mts, .ref mti, .ref mtw, .ref mi, .int mmn, .ref mpo, .int mpd, .ref mpi, .int mpl, .int mcp, .ref mre, .ref mnn, .ref mwo, .ref mga, .ref mlo, .ref mro, .ref mle, .ref mra, .int mme, .ref mha, .int mch, .int mtm, .int mgo, .int mwa, .ref mba, .int mbl, .ref mon])), (mp, .inl (cI, 10, .inl f10))]) [1, 0] rfl) (hD.sub (ws' := [(m0, .inr (8, [.int 0, .int mst_13, .ref mp, .int mln, .ref mk, .int mts, .ref mti, .ref mtw, .ref mi, .int mmn, .ref mpo, .int mpd, .ref mpi, .int mpl, .int mcp, .ref mre, .ref mnn, .ref mwo, .ref mga, .ref mlo, .ref mro, .ref mle, .ref mra, .int mme, .ref mha, .int mch, .int mtm, .int mgo, .int mwa, .ref mba, .int mbl, .ref mon])), (mp, .inl (cI, 10, .inl f10))]) [1, 0] (by decide) rfl) hS dX9_set_109
      · have c9' := I_eq c9
        refine lv_aload_n hx hb dX9_set_51 rfl (lv_at hl 0 rfl) ?_
        refine lv_dup hx hb dX9_set_52 rfl ?_
        refine va_get (D := (dC, dI)) (ci := 8) (v := .int mln) (C := RX9) (T := TX9) (N := 32) hx hb hts inG_X9 hown hK hP 0 rfl rfl 3 (by decide) (hts _ fl_X9_89) (fun _ h9 => h9) rfl dX9_set_53 ?_
        refine lv_iconst (v := 1) hx hb dX9_set_56 (by decide) ?_
        refine lv_isub hx hb dX9_set_57 ?_
        refine lv_topi (fun v15 ev15 => ?_)
        try have hv15 : v15.toInt = mln.toInt - (1 : Int32).toInt := I_subx ev15 (by omega)
        refine va_put (D := (dC, dI)) (ci := 8) (v := .int v15) (ty := .int) (C := RX9) (T := TX9) (N := 32) hx hb hts inG_X9 tyX9 tyX9_ok nmX9 hown hK hP hD hS 0 rfl rfl 3 (by decide) (hts _ fl_X9_89) (fun _ h9 => h9) rfl (by decide +kernel) rfl rfl (Nat.le_of_ble_eq_true rfl) dX9_set_58 (fun H locs hP hD hS => ?_)
        have hP : va_P (dC, dI) vwCl [(m0, .inr (8, [.int 0, .int mst, .ref mp, .int v15, .ref mk, .int mts, .ref mti, .ref mtw, .ref mi, .int mmn, .ref mpo, .int mpd, .ref mpi, .int mpl, .int mcp, .ref mre, .ref mnn, .ref mwo, .ref mga, .ref mlo, .ref mro, .ref mle, .ref mra, .int mme, .ref mha, .int mch, .int mtm, .int mgo, .int mwa, .ref mba, .int mbl, .ref mon])), (mp, .inl (cI, 10, .inl mpf))] H := hP
        have hD : va_D A [(m0, .inr (8, [.int 0, .int mst, .ref mp, .int v15, .ref mk, .int mts, .ref mti, .ref mtw, .ref mi, .int mmn, .ref mpo, .int mpd, .ref mpi, .int mpl, .int mcp, .ref mre, .ref mnn, .ref mwo, .ref mga, .ref mlo, .ref mro, .ref mle, .ref mra, .int mme, .ref mha, .int mch, .int mtm, .int mgo, .int mwa, .ref mba, .int mbl, .ref mon])), (mp, .inl (cI, 10, .inl mpf))] := hD
        refine lv_iload_n hx hb dX9_set_61 rfl (lv_at hl 1 rfl) ?_
        refine lv_istore_n (lv' := [(3, .int i), (0, .ref m0), (1, .int i), (2, .int x)]) hx hb dX9_set_62 rfl hl (by decide) rfl (fun ls hl => ?_)
        have J63 : ∀ (n : Nat) (L3_63 : Int32) (mpf_63 : Nat → Int32), (0 ≤ L3_63.toInt ∧ L3_63.toInt ≤ 10) → (10 - L3_63.toInt) < (n : Int) → ∀ (H : Heap) (locs : List Loc) (ls : Array Slot), va_P (dC, dI) vwCl [(m0, .inr (8, [.int 0, .int mst, .ref mp, .int v15, .ref mk, .int mts, .ref mti, .ref mtw, .ref mi, .int mmn, .ref mpo, .int mpd, .ref mpi, .int mpl, .int mcp, .ref mre, .ref mnn, .ref mwo, .ref mga, .ref mlo, .ref mro, .ref mle, .ref mra, .int mme, .ref mha, .int mch, .int mtm, .int mgo, .int mwa, .ref mba, .int mbl, .ref mon])), (mp, .inl (cI, 10, .inl mpf_63))] H → va_D A [(m0, .inr (8, [.int 0, .int mst, .ref mp, .int v15, .ref mk, .int mts, .ref mti, .ref mtw, .ref mi, .int mmn, .ref mpo, .int mpd, .ref mpi, .int mpl, .int mcp, .ref mre, .ref mnn, .ref mwo, .ref mga, .ref mlo, .ref mro, .ref mle, .ref mra, .int mme, .ref mha, .int mch, .int mtm, .int mgo, .int mwa, .ref mba, .int mbl, .ref mon])), (mp, .inl (cI, 10, .inl mpf_63))] → va_S A s.heap H locs → lv_has ls 4 [(3, .int L3_63), (0, .ref m0), (1, .int i), (2, .int x)] → W p l e { frames := 2, cells := 0, slots := 0, locals := 45 } s m (List.toArray [.ref m0, .int i, .int x]) below meth c H locs 0 0 Q (F0 m 63 ls []) := by
          intro n
          induction n with
          | zero =>
            intro L3_63 mpf_63 hi0_63 hm
            exact absurd hm (by omega)
          | succ n ih63 =>
            intro L3_63 mpf_63 hi0_63 hm63 H locs ls hP hD hS hl
            refine lv_iload_n hx hb dX9_set_63 rfl (lv_at hl 0 rfl) ?_
            refine lv_aload_n hx hb dX9_set_64 rfl (lv_at hl 1 rfl) ?_
            refine va_get (D := (dC, dI)) (ci := 8) (v := .int v15) (C := RX9) (T := TX9) (N := 32) hx hb hts inG_X9 hown hK hP 0 rfl rfl 3 (by decide) (hts _ fl_X9_89) (fun _ h9 => h9) rfl dX9_set_65 ?_
            refine lv_icmp_ge (tgt := 91) hx hb dX9_set_68 (by decide) (fun c16 => ?_) (fun c16 => ?_)
            · have c16' := I_le c16
              refine lv_goto (tgt := 101) hx hb dX9_set_91 (by decide) ?_
              refine lv_aload_n hx hb dX9_set_101 rfl (lv_at hl 1 rfl) ?_
              refine lv_aload_n hx hb dX9_set_102 rfl (lv_at hl 1 rfl) ?_
              refine va_get (D := (dC, dI)) (ci := 8) (v := .int v15) (C := RX9) (T := TX9) (N := 32) hx hb hts inG_X9 hown hK hP 0 rfl rfl 3 (by decide) (hts _ fl_X9_89) (fun _ h9 => h9) rfl dX9_set_103 ?_
              refine calI (rest := []) (wr := [(mp, .inl (cI, 10, .inl mpf_63))]) hG (c_X9_told l dC dI cI cJ base bB bO m0 0 mst mp v15 mk mts mti mtw mi mmn mpo mpd mpi mpl mcp mre mnn mwo mga mlo mro mle mra mme mha mch mtm mgo mwa mba mbl mon v15 ) ml_X9_85 im_X9_told se_X9_told ini_X9 cd_X9_told hd_X9_told ⟨(Nat.le_of_ble_eq_true rfl), (Nat.le_of_ble_eq_true rfl)⟩ (Nat.le_of_ble_eq_true rfl) (Nat.le_of_ble_eq_true rfl) hP hD hS [0] [1] rfl rfl rfl rfl (by decide) 8 0 rfl rfl hl.1 rfl (Nat.le_of_ble_eq_true rfl) dX9_set_106 (fun r17 u H locs hw18 hP hD hS => ?_)
              obtain ⟨mst_19, rfl⟩ : ∃ z, z = u := ⟨_, rfl⟩
              have hw18 : (r17 = v15) ∧ True := hw18
              obtain ⟨hp20, -⟩ := hw18
              have hp20t := I_eq hp20
              have hP : va_P (dC, dI) vwCl [(mp, .inl (cI, 10, .inl mpf_63)), (m0, .inr (8, [.int 0, .int mst_19, .ref mp, .int v15, .ref mk, .int mts, .ref mti, .ref mtw, .ref mi, .int mmn, .ref mpo, .int mpd, .ref mpi, .int mpl, .int mcp, .ref mre, .ref mnn, .ref mwo, .ref mga, .ref mlo, .ref mro, .ref mle, .ref mra, .int mme, .ref mha, .int mch, .int mtm, .int mgo, .int mwa, .ref mba, .int mbl, .ref mon]))] H := hP
              have hD : va_D A [(mp, .inl (cI, 10, .inl mpf_63)), (m0, .inr (8, [.int 0, .int mst_19, .ref mp, .int v15, .ref mk, .int mts, .ref mti, .ref mtw, .ref mi, .int mmn, .ref mpo, .int mpd, .ref mpi, .int mpl, .int mcp, .ref mre, .ref mnn, .ref mwo, .ref mga, .ref mlo, .ref mro, .ref mle, .ref mra, .int mme, .ref mha, .int mch, .int mtm, .int mgo, .int mwa, .ref mba, .int mbl, .ref mon]))] := hD
              exact hret r17 (0, mst_19, v15, mpf_63) H locs 109 ls rfl ⟨(show 0 ≤ v15.toInt ∧ v15.toInt ≤ 10 from by first | rfl | assumption | omega), trivial⟩ (hP.sub (ws' := [(m0, .inr (8, [.int 0, .int mst_19, .ref mp, .int v15, .ref mk, .int mts, .ref mti, .ref mtw, .ref mi, .int mmn, .ref mpo, .int mpd, .ref mpi, .int mpl, .int mcp, .ref mre, .ref mnn, .ref mwo, .ref mga, .ref mlo, .ref mro, .ref mle, .ref mra, .int mme, .ref mha, .int mch, .int mtm, .int mgo, .int mwa, .ref mba, .int mbl, .ref mon])), (mp, .inl (cI, 10, .inl mpf_63))]) [1, 0] rfl) (hD.sub (ws' := [(m0, .inr (8, [.int 0, .int mst_19, .ref mp, .int v15, .ref mk, .int mts, .ref mti, .ref mtw, .ref mi, .int mmn, .ref mpo, .int mpd, .ref mpi, .int mpl, .int mcp, .ref mre, .ref mnn, .ref mwo, .ref mga, .ref mlo, .ref mro, .ref mle, .ref mra, .int mme, .ref mha, .int mch, .int mtm, .int mgo, .int mwa, .ref mba, .int mbl, .ref mon])), (mp, .inl (cI, 10, .inl mpf_63))]) [1, 0] (by decide) rfl) hS dX9_set_109
            · have c16' := I_nle c16
              refine lv_aload_n hx hb dX9_set_71 rfl (lv_at hl 1 rfl) ?_
              refine va_get (D := (dC, dI)) (ci := 8) (v := .ref mp) (C := RX9) (T := TX9) (N := 32) hx hb hts inG_X9 hown hK hP 0 rfl rfl 2 (by decide) (hts _ fl_X9_7) (fun _ h9 => h9) rfl dX9_set_72 ?_
              refine lv_iload_n hx hb dX9_set_75 rfl (lv_at hl 0 rfl) ?_
              refine lv_aload_n hx hb dX9_set_76 rfl (lv_at hl 1 rfl) ?_
              refine va_get (D := (dC, dI)) (ci := 8) (v := .ref mp) (C := RX9) (T := TX9) (N := 32) hx hb hts inG_X9 hown hK hP 0 rfl rfl 2 (by decide) (hts _ fl_X9_7) (fun _ h9 => h9) rfl dX9_set_77 ?_
              refine lv_iload_n hx hb dX9_set_80 rfl (lv_at hl 0 rfl) ?_
              refine lv_iconst (v := 1) hx hb dX9_set_81 (by decide) ?_
              refine lv_iadd hx hb dX9_set_82 ?_
              refine lv_topi (fun v21 ev21 => ?_)
              try have hv21 : v21.toInt = L3_63.toInt + (1 : Int32).toInt := I_addx ev21 (by omega)
              refine va_iald (t0 := 0) hx hb hK hP 1 (ha := rfl) (ht := rfl) (I_in (by omega) (by omega)) dX9_set_83 ?_
              refine lv_topi (fun v22 ev22 => ?_)
              refine va_iast (t0 := 0) hx hb hK hP hD hS 1 (ha := rfl) (ht := rfl) (I_in (by omega) (by omega)) dX9_set_84 (fun H locs hP hD hS => ?_)
              have hP : va_P (dC, dI) vwCl [(m0, .inr (8, [.int 0, .int mst, .ref mp, .int v15, .ref mk, .int mts, .ref mti, .ref mtw, .ref mi, .int mmn, .ref mpo, .int mpd, .ref mpi, .int mpl, .int mcp, .ref mre, .ref mnn, .ref mwo, .ref mga, .ref mlo, .ref mro, .ref mle, .ref mra, .int mme, .ref mha, .int mch, .int mtm, .int mgo, .int mwa, .ref mba, .int mbl, .ref mon])), (mp, .inl (cI, 10, .inl (upd mpf_63 L3_63.toNatClampNeg v22)))] H := hP
              have hD : va_D A [(m0, .inr (8, [.int 0, .int mst, .ref mp, .int v15, .ref mk, .int mts, .ref mti, .ref mtw, .ref mi, .int mmn, .ref mpo, .int mpd, .ref mpi, .int mpl, .int mcp, .ref mre, .ref mnn, .ref mwo, .ref mga, .ref mlo, .ref mro, .ref mle, .ref mra, .int mme, .ref mha, .int mch, .int mtm, .int mgo, .int mwa, .ref mba, .int mbl, .ref mon])), (mp, .inl (cI, 10, .inl (upd mpf_63 L3_63.toNatClampNeg v22)))] := hD
              generalize ef23 : upd mpf_63 L3_63.toNatClampNeg v22 = f23 at hP hD
              obtain ⟨v24, ev24⟩ : ∃ y : Int32, y = L3_63 + 1 := ⟨_, rfl⟩
              try have hv24 : v24.toInt = L3_63.toInt + (1 : Int32).toInt := I_addx ev24 (by omega)
              refine lv_iinc (v := v24) (lv' := [(3, .int v24), (0, .ref m0), (1, .int i), (2, .int x)]) hx hb dX9_set_85 hl (k := 0) rfl (by rw [ev24]; rfl) (by decide) rfl (fun ls hl => ?_)
              refine lv_goto (tgt := 63) hx hb dX9_set_88 (by decide) ?_
              exact ih63 v24 f23 (by first | assumption | omega) (by omega) H locs ls hP hD hS hl
        exact J63 ((10 - i.toInt).toNat + 1) i mpf (by first | assumption | omega) (by omega) H locs ls hP hD hS hl
    · have c8' := I_eq c8
      refine lv_aload_n hx hb dX9_set_39 rfl (lv_at hl 0 rfl) ?_
      refine lv_bipush (v := (-2)) hx hb dX9_set_40 (by decide) ?_
      refine calI (rest := []) (wr := [(mp, .inl (cI, 10, .inl mpf))]) hG (c_X9_told l dC dI cI cJ base bB bO m0 0 mst mp mln mk mts mti mtw mi mmn mpo mpd mpi mpl mcp mre mnn mwo mga mlo mro mle mra mme mha mch mtm mgo mwa mba mbl mon (-2) ) ml_X9_85 im_X9_told se_X9_told ini_X9 cd_X9_told hd_X9_told ⟨(Nat.le_of_ble_eq_true rfl), (Nat.le_of_ble_eq_true rfl)⟩ (Nat.le_of_ble_eq_true rfl) (Nat.le_of_ble_eq_true rfl) hP hD hS [0] [1] rfl rfl rfl rfl (by decide) 8 0 rfl rfl hl.1 rfl (Nat.le_of_ble_eq_true rfl) dX9_set_42 (fun r25 u H locs hw26 hP hD hS => ?_)
      obtain ⟨mst_27, rfl⟩ : ∃ z, z = u := ⟨_, rfl⟩
      have hw26 : (r25 = (-2 : Int32)) ∧ True := hw26
      obtain ⟨hp28, -⟩ := hw26
      have hp28t := I_eq hp28
      have hP : va_P (dC, dI) vwCl [(mp, .inl (cI, 10, .inl mpf)), (m0, .inr (8, [.int 0, .int mst_27, .ref mp, .int mln, .ref mk, .int mts, .ref mti, .ref mtw, .ref mi, .int mmn, .ref mpo, .int mpd, .ref mpi, .int mpl, .int mcp, .ref mre, .ref mnn, .ref mwo, .ref mga, .ref mlo, .ref mro, .ref mle, .ref mra, .int mme, .ref mha, .int mch, .int mtm, .int mgo, .int mwa, .ref mba, .int mbl, .ref mon]))] H := hP
      have hD : va_D A [(mp, .inl (cI, 10, .inl mpf)), (m0, .inr (8, [.int 0, .int mst_27, .ref mp, .int mln, .ref mk, .int mts, .ref mti, .ref mtw, .ref mi, .int mmn, .ref mpo, .int mpd, .ref mpi, .int mpl, .int mcp, .ref mre, .ref mnn, .ref mwo, .ref mga, .ref mlo, .ref mro, .ref mle, .ref mra, .int mme, .ref mha, .int mch, .int mtm, .int mgo, .int mwa, .ref mba, .int mbl, .ref mon]))] := hD
      exact hret r25 (0, mst_27, mln, mpf) H locs 45 ls rfl ⟨(show 0 ≤ mln.toInt ∧ mln.toInt ≤ 10 from by first | rfl | assumption | omega), trivial⟩ (hP.sub (ws' := [(m0, .inr (8, [.int 0, .int mst_27, .ref mp, .int mln, .ref mk, .int mts, .ref mti, .ref mtw, .ref mi, .int mmn, .ref mpo, .int mpd, .ref mpi, .int mpl, .int mcp, .ref mre, .ref mnn, .ref mwo, .ref mga, .ref mlo, .ref mro, .ref mle, .ref mra, .int mme, .ref mha, .int mch, .int mtm, .int mgo, .int mwa, .ref mba, .int mbl, .ref mon])), (mp, .inl (cI, 10, .inl mpf))]) [1, 0] rfl) (hD.sub (ws' := [(m0, .inr (8, [.int 0, .int mst_27, .ref mp, .int mln, .ref mk, .int mts, .ref mti, .ref mtw, .ref mi, .int mmn, .ref mpo, .int mpd, .ref mpi, .int mpl, .int mcp, .ref mre, .ref mnn, .ref mwo, .ref mga, .ref mlo, .ref mro, .ref mle, .ref mra, .int mme, .ref mha, .int mch, .int mtm, .int mgo, .int mwa, .ref mba, .int mbl, .ref mon])), (mp, .inl (cI, 10, .inl mpf))]) [1, 0] (by decide) rfl) hS dX9_set_45
  · have c1' := I_ne c1
    refine lv_iload_n hx hb dX9_set_10 rfl (lv_at hl 2 rfl) ?_
    refine calOI (rest := []) (wr := [(m0, .inr (8, [.int 0, .int mst, .ref mp, .int mln, .ref mk, .int mts, .ref mti, .ref mtw, .ref mi, .int mmn, .ref mpo, .int mpd, .ref mpi, .int mpl, .int mcp, .ref mre, .ref mnn, .ref mwo, .ref mga, .ref mlo, .ref mro, .ref mle, .ref mra, .int mme, .ref mha, .int mch, .int mtm, .int mgo, .int mwa, .ref mba, .int mbl, .ref mon])), (mp, .inl (cI, 10, .inl mpf))]) hG (c_X9_isToken l dC dI cI cJ base bB bO x ) ml_X9_81 st_X9_isToken ini_X9 cd_X9_isToken hd_X9_isToken.2 ⟨(Nat.le_of_ble_eq_true rfl), (Nat.le_of_ble_eq_true rfl)⟩ (Nat.le_of_ble_eq_true rfl) (Nat.le_of_ble_eq_true rfl) hP hD hS [] [0, 1] rfl rfl rfl rfl (by decide) hl.1 rfl (Nat.le_of_ble_eq_true rfl) dX9_set_11 (fun r29 u H locs hw30 hP hD hS => ?_)
    have hw30 : ((r29.toInt = 1 ∧ 0 ≤ x.toInt ∧ x.toInt ≤ 27) ∨ (r29.toInt = 0 ∧ (x.toInt < 0 ∨ 27 < x.toInt))) ∧ True := hw30
    obtain ⟨hp31, -⟩ := hw30
    have hP : va_P (dC, dI) vwCl [(m0, .inr (8, [.int 0, .int mst, .ref mp, .int mln, .ref mk, .int mts, .ref mti, .ref mtw, .ref mi, .int mmn, .ref mpo, .int mpd, .ref mpi, .int mpl, .int mcp, .ref mre, .ref mnn, .ref mwo, .ref mga, .ref mlo, .ref mro, .ref mle, .ref mra, .int mme, .ref mha, .int mch, .int mtm, .int mgo, .int mwa, .ref mba, .int mbl, .ref mon])), (mp, .inl (cI, 10, .inl mpf))] H := hP
    have hD : va_D A [(m0, .inr (8, [.int 0, .int mst, .ref mp, .int mln, .ref mk, .int mts, .ref mti, .ref mtw, .ref mi, .int mmn, .ref mpo, .int mpd, .ref mpi, .int mpl, .int mcp, .ref mre, .ref mnn, .ref mwo, .ref mga, .ref mlo, .ref mro, .ref mle, .ref mra, .int mme, .ref mha, .int mch, .int mtm, .int mgo, .int mwa, .ref mba, .int mbl, .ref mon])), (mp, .inl (cI, 10, .inl mpf))] := hD
    refine lv_if_ne (tgt := 23) hx hb dX9_set_14 (by decide) (fun c32 => ?_) (fun c32 => ?_)
    · have c32' := I_ne c32
      refine lv_iload_n hx hb dX9_set_23 rfl (lv_at hl 1 rfl) ?_
      obtain ⟨w33, ew33⟩ : ∃ z : Int64, Int32.toInt64 i = z := ⟨_, rfl⟩
      have hw33 := J_of i
      rw [ew33] at hw33
      refine lv_i2l (v := w33) hx hb dX9_set_24 ew33 ?_
      refine lv_lconst (v := 0) hx hb dX9_set_25 (by decide) ?_
      refine lv_aload_n hx hb dX9_set_26 rfl (lv_at hl 0 rfl) ?_
      refine va_get (D := (dC, dI)) (ci := 8) (v := .int mln) (C := RX9) (T := TX9) (N := 32) hx hb hts inG_X9 hown hK hP 0 rfl rfl 3 (by decide) (hts _ fl_X9_89) (fun _ h9 => h9) rfl dX9_set_27 ?_
      obtain ⟨w34, ew34⟩ : ∃ z : Int64, Int32.toInt64 mln = z := ⟨_, rfl⟩
      have hw34 := J_of mln
      rw [ew34] at hw34
      refine lv_i2l (v := w34) hx hb dX9_set_30 ew34 ?_
      refine lv_lconst (v := 1) hx hb dX9_set_31 (by decide) ?_
      refine lv_lsub hx hb dX9_set_32 ?_
      refine lv_topl (fun w35 ew35 => ?_)
      try have hw35 : w35.toInt = w34.toInt - (1 : Int64).toInt := J_subx ew35 (by omega)
      refine calOI (rest := []) (wr := [(m0, .inr (8, [.int 0, .int mst, .ref mp, .int mln, .ref mk, .int mts, .ref mti, .ref mtw, .ref mi, .int mmn, .ref mpo, .int mpd, .ref mpi, .int mpl, .int mcp, .ref mre, .ref mnn, .ref mwo, .ref mga, .ref mlo, .ref mro, .ref mle, .ref mra, .int mme, .ref mha, .int mch, .int mtm, .int mgo, .int mwa, .ref mba, .int mbl, .ref mon])), (mp, .inl (cI, 10, .inl mpf))]) hG (c_X9_in l dC dI cI cJ base bB bO w33 0 w35 ) ml_X9_77 st_X9_in ini_X9 cd_X9_in hd_X9_in.2 ⟨(Nat.le_of_ble_eq_true rfl), (Nat.le_of_ble_eq_true rfl)⟩ (Nat.le_of_ble_eq_true rfl) (Nat.le_of_ble_eq_true rfl) hP hD hS [] [0, 1] rfl rfl rfl rfl (by decide) hl.1 rfl (Nat.le_of_ble_eq_true rfl) dX9_set_33 (fun r36 u H locs hw37 hP hD hS => ?_)
      have hw37 : ((r36.toInt = 1 ∧ (0 : Int64).toInt ≤ w33.toInt ∧ w33.toInt ≤ w35.toInt) ∨ (r36.toInt = 0 ∧ (w33.toInt < (0 : Int64).toInt ∨ w35.toInt < w33.toInt))) ∧ True := hw37
      obtain ⟨hp38, -⟩ := hw37
      have hP : va_P (dC, dI) vwCl [(m0, .inr (8, [.int 0, .int mst, .ref mp, .int mln, .ref mk, .int mts, .ref mti, .ref mtw, .ref mi, .int mmn, .ref mpo, .int mpd, .ref mpi, .int mpl, .int mcp, .ref mre, .ref mnn, .ref mwo, .ref mga, .ref mlo, .ref mro, .ref mle, .ref mra, .int mme, .ref mha, .int mch, .int mtm, .int mgo, .int mwa, .ref mba, .int mbl, .ref mon])), (mp, .inl (cI, 10, .inl mpf))] H := hP
      have hD : va_D A [(m0, .inr (8, [.int 0, .int mst, .ref mp, .int mln, .ref mk, .int mts, .ref mti, .ref mtw, .ref mi, .int mmn, .ref mpo, .int mpd, .ref mpi, .int mpl, .int mcp, .ref mre, .ref mnn, .ref mwo, .ref mga, .ref mlo, .ref mro, .ref mle, .ref mra, .int mme, .ref mha, .int mch, .int mtm, .int mgo, .int mwa, .ref mba, .int mbl, .ref mon])), (mp, .inl (cI, 10, .inl mpf))] := hD
      refine lv_if_ne (tgt := 46) hx hb dX9_set_36 (by decide) (fun c39 => ?_) (fun c39 => ?_)
      · have c39' := I_ne c39
        refine lv_iload_n hx hb dX9_set_46 rfl (lv_at hl 2 rfl) ?_
        refine lv_iconst (v := (-1)) hx hb dX9_set_47 (by decide) ?_
        refine lv_icmp_ne (tgt := 94) hx hb dX9_set_48 (by decide) (fun c40 => ?_) (fun c40 => ?_)
        · have c40' := I_ne c40
          refine lv_aload_n hx hb dX9_set_94 rfl (lv_at hl 0 rfl) ?_
          refine va_get (D := (dC, dI)) (ci := 8) (v := .ref mp) (C := RX9) (T := TX9) (N := 32) hx hb hts inG_X9 hown hK hP 0 rfl rfl 2 (by decide) (hts _ fl_X9_7) (fun _ h9 => h9) rfl dX9_set_95 ?_
          refine lv_iload_n hx hb dX9_set_98 rfl (lv_at hl 1 rfl) ?_
          refine lv_iload_n hx hb dX9_set_99 rfl (lv_at hl 2 rfl) ?_
          refine va_iast (t0 := 0) hx hb hK hP hD hS 1 (ha := rfl) (ht := rfl) (I_in (by omega) (by omega)) dX9_set_100 (fun H locs hP hD hS => ?_)
          have hP : va_P (dC, dI) vwCl [(m0, .inr (8, [.int 0, .int mst, .ref mp, .int mln, .ref mk, .int mts, .ref mti, .ref mtw, .ref mi, .int mmn, .ref mpo, .int mpd, .ref mpi, .int mpl, .int mcp, .ref mre, .ref mnn, .ref mwo, .ref mga, .ref mlo, .ref mro, .ref mle, .ref mra, .int mme, .ref mha, .int mch, .int mtm, .int mgo, .int mwa, .ref mba, .int mbl, .ref mon])), (mp, .inl (cI, 10, .inl (upd mpf i.toNatClampNeg x)))] H := hP
          have hD : va_D A [(m0, .inr (8, [.int 0, .int mst, .ref mp, .int mln, .ref mk, .int mts, .ref mti, .ref mtw, .ref mi, .int mmn, .ref mpo, .int mpd, .ref mpi, .int mpl, .int mcp, .ref mre, .ref mnn, .ref mwo, .ref mga, .ref mlo, .ref mro, .ref mle, .ref mra, .int mme, .ref mha, .int mch, .int mtm, .int mgo, .int mwa, .ref mba, .int mbl, .ref mon])), (mp, .inl (cI, 10, .inl (upd mpf i.toNatClampNeg x)))] := hD
          generalize ef41 : upd mpf i.toNatClampNeg x = f41 at hP hD
          refine lv_aload_n hx hb dX9_set_101 rfl (lv_at hl 0 rfl) ?_
          refine lv_aload_n hx hb dX9_set_102 rfl (lv_at hl 0 rfl) ?_
          refine va_get (D := (dC, dI)) (ci := 8) (v := .int mln) (C := RX9) (T := TX9) (N := 32) hx hb hts inG_X9 hown hK hP 0 rfl rfl 3 (by decide) (hts _ fl_X9_89) (fun _ h9 => h9) rfl dX9_set_103 ?_
          refine calI (rest := []) (wr := [(mp, .inl (cI, 10, .inl f41))]) hG (c_X9_told l dC dI cI cJ base bB bO m0 0 mst mp mln mk mts mti mtw mi mmn mpo mpd mpi mpl mcp mre mnn mwo mga mlo mro mle mra mme mha mch mtm mgo mwa mba mbl mon mln ) ml_X9_85 im_X9_told se_X9_told ini_X9 cd_X9_told hd_X9_told ⟨(Nat.le_of_ble_eq_true rfl), (Nat.le_of_ble_eq_true rfl)⟩ (Nat.le_of_ble_eq_true rfl) (Nat.le_of_ble_eq_true rfl) hP hD hS [0] [1] rfl rfl rfl rfl (by decide) 8 0 rfl rfl hl.1 rfl (Nat.le_of_ble_eq_true rfl) dX9_set_106 (fun r42 u H locs hw43 hP hD hS => ?_)
          obtain ⟨mst_44, rfl⟩ : ∃ z, z = u := ⟨_, rfl⟩
          have hw43 : (r42 = mln) ∧ True := hw43
          obtain ⟨hp45, -⟩ := hw43
          have hp45t := I_eq hp45
          have hP : va_P (dC, dI) vwCl [(mp, .inl (cI, 10, .inl f41)), (m0, .inr (8, [.int 0, .int mst_44, .ref mp, .int mln, .ref mk, .int mts, .ref mti, .ref mtw, .ref mi, .int mmn, .ref mpo, .int mpd, .ref mpi, .int mpl, .int mcp, .ref mre, .ref mnn, .ref mwo, .ref mga, .ref mlo, .ref mro, .ref mle, .ref mra, .int mme, .ref mha, .int mch, .int mtm, .int mgo, .int mwa, .ref mba, .int mbl, .ref mon]))] H := hP
          have hD : va_D A [(mp, .inl (cI, 10, .inl f41)), (m0, .inr (8, [.int 0, .int mst_44, .ref mp, .int mln, .ref mk, .int mts, .ref mti, .ref mtw, .ref mi, .int mmn, .ref mpo, .int mpd, .ref mpi, .int mpl, .int mcp, .ref mre, .ref mnn, .ref mwo, .ref mga, .ref mlo, .ref mro, .ref mle, .ref mra, .int mme, .ref mha, .int mch, .int mtm, .int mgo, .int mwa, .ref mba, .int mbl, .ref mon]))] := hD
          exact hret r42 (0, mst_44, mln, f41) H locs 109 ls rfl ⟨(show 0 ≤ mln.toInt ∧ mln.toInt ≤ 10 from by first | rfl | assumption | omega), trivial⟩ (hP.sub (ws' := [(m0, .inr (8, [.int 0, .int mst_44, .ref mp, .int mln, .ref mk, .int mts, .ref mti, .ref mtw, .ref mi, .int mmn, .ref mpo, .int mpd, .ref mpi, .int mpl, .int mcp, .ref mre, .ref mnn, .ref mwo, .ref mga, .ref mlo, .ref mro, .ref mle, .ref mra, .int mme, .ref mha, .int mch, .int mtm, .int mgo, .int mwa, .ref mba, .int mbl, .ref mon])), (mp, .inl (cI, 10, .inl f41))]) [1, 0] rfl) (hD.sub (ws' := [(m0, .inr (8, [.int 0, .int mst_44, .ref mp, .int mln, .ref mk, .int mts, .ref mti, .ref mtw, .ref mi, .int mmn, .ref mpo, .int mpd, .ref mpi, .int mpl, .int mcp, .ref mre, .ref mnn, .ref mwo, .ref mga, .ref mlo, .ref mro, .ref mle, .ref mra, .int mme, .ref mha, .int mch, .int mtm, .int mgo, .int mwa, .ref mba, .int mbl, .ref mon])), (mp, .inl (cI, 10, .inl f41))]) [1, 0] (by decide) rfl) hS dX9_set_109
        · have c40' := I_eq c40
          refine lv_aload_n hx hb dX9_set_51 rfl (lv_at hl 0 rfl) ?_
          refine lv_dup hx hb dX9_set_52 rfl ?_
          refine va_get (D := (dC, dI)) (ci := 8) (v := .int mln) (C := RX9) (T := TX9) (N := 32) hx hb hts inG_X9 hown hK hP 0 rfl rfl 3 (by decide) (hts _ fl_X9_89) (fun _ h9 => h9) rfl dX9_set_53 ?_
          refine lv_iconst (v := 1) hx hb dX9_set_56 (by decide) ?_
          refine lv_isub hx hb dX9_set_57 ?_
          refine lv_topi (fun v46 ev46 => ?_)
          try have hv46 : v46.toInt = mln.toInt - (1 : Int32).toInt := I_subx ev46 (by omega)
          refine va_put (D := (dC, dI)) (ci := 8) (v := .int v46) (ty := .int) (C := RX9) (T := TX9) (N := 32) hx hb hts inG_X9 tyX9 tyX9_ok nmX9 hown hK hP hD hS 0 rfl rfl 3 (by decide) (hts _ fl_X9_89) (fun _ h9 => h9) rfl (by decide +kernel) rfl rfl (Nat.le_of_ble_eq_true rfl) dX9_set_58 (fun H locs hP hD hS => ?_)
          have hP : va_P (dC, dI) vwCl [(m0, .inr (8, [.int 0, .int mst, .ref mp, .int v46, .ref mk, .int mts, .ref mti, .ref mtw, .ref mi, .int mmn, .ref mpo, .int mpd, .ref mpi, .int mpl, .int mcp, .ref mre, .ref mnn, .ref mwo, .ref mga, .ref mlo, .ref mro, .ref mle, .ref mra, .int mme, .ref mha, .int mch, .int mtm, .int mgo, .int mwa, .ref mba, .int mbl, .ref mon])), (mp, .inl (cI, 10, .inl mpf))] H := hP
          have hD : va_D A [(m0, .inr (8, [.int 0, .int mst, .ref mp, .int v46, .ref mk, .int mts, .ref mti, .ref mtw, .ref mi, .int mmn, .ref mpo, .int mpd, .ref mpi, .int mpl, .int mcp, .ref mre, .ref mnn, .ref mwo, .ref mga, .ref mlo, .ref mro, .ref mle, .ref mra, .int mme, .ref mha, .int mch, .int mtm, .int mgo, .int mwa, .ref mba, .int mbl, .ref mon])), (mp, .inl (cI, 10, .inl mpf))] := hD
          refine lv_iload_n hx hb dX9_set_61 rfl (lv_at hl 1 rfl) ?_
          refine lv_istore_n (lv' := [(3, .int i), (0, .ref m0), (1, .int i), (2, .int x)]) hx hb dX9_set_62 rfl hl (by decide) rfl (fun ls hl => ?_)
          have J63 : ∀ (n : Nat) (L3_63 : Int32) (mpf_63 : Nat → Int32), (0 ≤ L3_63.toInt ∧ L3_63.toInt ≤ 10) → (10 - L3_63.toInt) < (n : Int) → ∀ (H : Heap) (locs : List Loc) (ls : Array Slot), va_P (dC, dI) vwCl [(m0, .inr (8, [.int 0, .int mst, .ref mp, .int v46, .ref mk, .int mts, .ref mti, .ref mtw, .ref mi, .int mmn, .ref mpo, .int mpd, .ref mpi, .int mpl, .int mcp, .ref mre, .ref mnn, .ref mwo, .ref mga, .ref mlo, .ref mro, .ref mle, .ref mra, .int mme, .ref mha, .int mch, .int mtm, .int mgo, .int mwa, .ref mba, .int mbl, .ref mon])), (mp, .inl (cI, 10, .inl mpf_63))] H → va_D A [(m0, .inr (8, [.int 0, .int mst, .ref mp, .int v46, .ref mk, .int mts, .ref mti, .ref mtw, .ref mi, .int mmn, .ref mpo, .int mpd, .ref mpi, .int mpl, .int mcp, .ref mre, .ref mnn, .ref mwo, .ref mga, .ref mlo, .ref mro, .ref mle, .ref mra, .int mme, .ref mha, .int mch, .int mtm, .int mgo, .int mwa, .ref mba, .int mbl, .ref mon])), (mp, .inl (cI, 10, .inl mpf_63))] → va_S A s.heap H locs → lv_has ls 4 [(3, .int L3_63), (0, .ref m0), (1, .int i), (2, .int x)] → W p l e { frames := 2, cells := 0, slots := 0, locals := 45 } s m (List.toArray [.ref m0, .int i, .int x]) below meth c H locs 0 0 Q (F0 m 63 ls []) := by
            intro n
            induction n with
            | zero =>
              intro L3_63 mpf_63 hi0_63 hm
              exact absurd hm (by omega)
            | succ n ih63 =>
              intro L3_63 mpf_63 hi0_63 hm63 H locs ls hP hD hS hl
              refine lv_iload_n hx hb dX9_set_63 rfl (lv_at hl 0 rfl) ?_
              refine lv_aload_n hx hb dX9_set_64 rfl (lv_at hl 1 rfl) ?_
              refine va_get (D := (dC, dI)) (ci := 8) (v := .int v46) (C := RX9) (T := TX9) (N := 32) hx hb hts inG_X9 hown hK hP 0 rfl rfl 3 (by decide) (hts _ fl_X9_89) (fun _ h9 => h9) rfl dX9_set_65 ?_
              refine lv_icmp_ge (tgt := 91) hx hb dX9_set_68 (by decide) (fun c47 => ?_) (fun c47 => ?_)
              · have c47' := I_le c47
                refine lv_goto (tgt := 101) hx hb dX9_set_91 (by decide) ?_
                refine lv_aload_n hx hb dX9_set_101 rfl (lv_at hl 1 rfl) ?_
                refine lv_aload_n hx hb dX9_set_102 rfl (lv_at hl 1 rfl) ?_
                refine va_get (D := (dC, dI)) (ci := 8) (v := .int v46) (C := RX9) (T := TX9) (N := 32) hx hb hts inG_X9 hown hK hP 0 rfl rfl 3 (by decide) (hts _ fl_X9_89) (fun _ h9 => h9) rfl dX9_set_103 ?_
                refine calI (rest := []) (wr := [(mp, .inl (cI, 10, .inl mpf_63))]) hG (c_X9_told l dC dI cI cJ base bB bO m0 0 mst mp v46 mk mts mti mtw mi mmn mpo mpd mpi mpl mcp mre mnn mwo mga mlo mro mle mra mme mha mch mtm mgo mwa mba mbl mon v46 ) ml_X9_85 im_X9_told se_X9_told ini_X9 cd_X9_told hd_X9_told ⟨(Nat.le_of_ble_eq_true rfl), (Nat.le_of_ble_eq_true rfl)⟩ (Nat.le_of_ble_eq_true rfl) (Nat.le_of_ble_eq_true rfl) hP hD hS [0] [1] rfl rfl rfl rfl (by decide) 8 0 rfl rfl hl.1 rfl (Nat.le_of_ble_eq_true rfl) dX9_set_106 (fun r48 u H locs hw49 hP hD hS => ?_)
                obtain ⟨mst_50, rfl⟩ : ∃ z, z = u := ⟨_, rfl⟩
                have hw49 : (r48 = v46) ∧ True := hw49
                obtain ⟨hp51, -⟩ := hw49
                have hp51t := I_eq hp51
                have hP : va_P (dC, dI) vwCl [(mp, .inl (cI, 10, .inl mpf_63)), (m0, .inr (8, [.int 0, .int mst_50, .ref mp, .int v46, .ref mk, .int mts, .ref mti, .ref mtw, .ref mi, .int mmn, .ref mpo, .int mpd, .ref mpi, .int mpl, .int mcp, .ref mre, .ref mnn, .ref mwo, .ref mga, .ref mlo, .ref mro, .ref mle, .ref mra, .int mme, .ref mha, .int mch, .int mtm, .int mgo, .int mwa, .ref mba, .int mbl, .ref mon]))] H := hP
                have hD : va_D A [(mp, .inl (cI, 10, .inl mpf_63)), (m0, .inr (8, [.int 0, .int mst_50, .ref mp, .int v46, .ref mk, .int mts, .ref mti, .ref mtw, .ref mi, .int mmn, .ref mpo, .int mpd, .ref mpi, .int mpl, .int mcp, .ref mre, .ref mnn, .ref mwo, .ref mga, .ref mlo, .ref mro, .ref mle, .ref mra, .int mme, .ref mha, .int mch, .int mtm, .int mgo, .int mwa, .ref mba, .int mbl, .ref mon]))] := hD
                exact hret r48 (0, mst_50, v46, mpf_63) H locs 109 ls rfl ⟨(show 0 ≤ v46.toInt ∧ v46.toInt ≤ 10 from by first | rfl | assumption | omega), trivial⟩ (hP.sub (ws' := [(m0, .inr (8, [.int 0, .int mst_50, .ref mp, .int v46, .ref mk, .int mts, .ref mti, .ref mtw, .ref mi, .int mmn, .ref mpo, .int mpd, .ref mpi, .int mpl, .int mcp, .ref mre, .ref mnn, .ref mwo, .ref mga, .ref mlo, .ref mro, .ref mle, .ref mra, .int mme, .ref mha, .int mch, .int mtm, .int mgo, .int mwa, .ref mba, .int mbl, .ref mon])), (mp, .inl (cI, 10, .inl mpf_63))]) [1, 0] rfl) (hD.sub (ws' := [(m0, .inr (8, [.int 0, .int mst_50, .ref mp, .int v46, .ref mk, .int mts, .ref mti, .ref mtw, .ref mi, .int mmn, .ref mpo, .int mpd, .ref mpi, .int mpl, .int mcp, .ref mre, .ref mnn, .ref mwo, .ref mga, .ref mlo, .ref mro, .ref mle, .ref mra, .int mme, .ref mha, .int mch, .int mtm, .int mgo, .int mwa, .ref mba, .int mbl, .ref mon])), (mp, .inl (cI, 10, .inl mpf_63))]) [1, 0] (by decide) rfl) hS dX9_set_109
              · have c47' := I_nle c47
                refine lv_aload_n hx hb dX9_set_71 rfl (lv_at hl 1 rfl) ?_
                refine va_get (D := (dC, dI)) (ci := 8) (v := .ref mp) (C := RX9) (T := TX9) (N := 32) hx hb hts inG_X9 hown hK hP 0 rfl rfl 2 (by decide) (hts _ fl_X9_7) (fun _ h9 => h9) rfl dX9_set_72 ?_
                refine lv_iload_n hx hb dX9_set_75 rfl (lv_at hl 0 rfl) ?_
                refine lv_aload_n hx hb dX9_set_76 rfl (lv_at hl 1 rfl) ?_
                refine va_get (D := (dC, dI)) (ci := 8) (v := .ref mp) (C := RX9) (T := TX9) (N := 32) hx hb hts inG_X9 hown hK hP 0 rfl rfl 2 (by decide) (hts _ fl_X9_7) (fun _ h9 => h9) rfl dX9_set_77 ?_
                refine lv_iload_n hx hb dX9_set_80 rfl (lv_at hl 0 rfl) ?_
                refine lv_iconst (v := 1) hx hb dX9_set_81 (by decide) ?_
                refine lv_iadd hx hb dX9_set_82 ?_
                refine lv_topi (fun v52 ev52 => ?_)
                try have hv52 : v52.toInt = L3_63.toInt + (1 : Int32).toInt := I_addx ev52 (by omega)
                refine va_iald (t0 := 0) hx hb hK hP 1 (ha := rfl) (ht := rfl) (I_in (by omega) (by omega)) dX9_set_83 ?_
                refine lv_topi (fun v53 ev53 => ?_)
                refine va_iast (t0 := 0) hx hb hK hP hD hS 1 (ha := rfl) (ht := rfl) (I_in (by omega) (by omega)) dX9_set_84 (fun H locs hP hD hS => ?_)
                have hP : va_P (dC, dI) vwCl [(m0, .inr (8, [.int 0, .int mst, .ref mp, .int v46, .ref mk, .int mts, .ref mti, .ref mtw, .ref mi, .int mmn, .ref mpo, .int mpd, .ref mpi, .int mpl, .int mcp, .ref mre, .ref mnn, .ref mwo, .ref mga, .ref mlo, .ref mro, .ref mle, .ref mra, .int mme, .ref mha, .int mch, .int mtm, .int mgo, .int mwa, .ref mba, .int mbl, .ref mon])), (mp, .inl (cI, 10, .inl (upd mpf_63 L3_63.toNatClampNeg v53)))] H := hP
                have hD : va_D A [(m0, .inr (8, [.int 0, .int mst, .ref mp, .int v46, .ref mk, .int mts, .ref mti, .ref mtw, .ref mi, .int mmn, .ref mpo, .int mpd, .ref mpi, .int mpl, .int mcp, .ref mre, .ref mnn, .ref mwo, .ref mga, .ref mlo, .ref mro, .ref mle, .ref mra, .int mme, .ref mha, .int mch, .int mtm, .int mgo, .int mwa, .ref mba, .int mbl, .ref mon])), (mp, .inl (cI, 10, .inl (upd mpf_63 L3_63.toNatClampNeg v53)))] := hD
                generalize ef54 : upd mpf_63 L3_63.toNatClampNeg v53 = f54 at hP hD
                obtain ⟨v55, ev55⟩ : ∃ y : Int32, y = L3_63 + 1 := ⟨_, rfl⟩
                try have hv55 : v55.toInt = L3_63.toInt + (1 : Int32).toInt := I_addx ev55 (by omega)
                refine lv_iinc (v := v55) (lv' := [(3, .int v55), (0, .ref m0), (1, .int i), (2, .int x)]) hx hb dX9_set_85 hl (k := 0) rfl (by rw [ev55]; rfl) (by decide) rfl (fun ls hl => ?_)
                refine lv_goto (tgt := 63) hx hb dX9_set_88 (by decide) ?_
                exact ih63 v55 f54 (by first | assumption | omega) (by omega) H locs ls hP hD hS hl
          exact J63 ((10 - i.toInt).toNat + 1) i mpf (by first | assumption | omega) (by omega) H locs ls hP hD hS hl
      · have c39' := I_eq c39
        refine lv_aload_n hx hb dX9_set_39 rfl (lv_at hl 0 rfl) ?_
        refine lv_bipush (v := (-2)) hx hb dX9_set_40 (by decide) ?_
        refine calI (rest := []) (wr := [(mp, .inl (cI, 10, .inl mpf))]) hG (c_X9_told l dC dI cI cJ base bB bO m0 0 mst mp mln mk mts mti mtw mi mmn mpo mpd mpi mpl mcp mre mnn mwo mga mlo mro mle mra mme mha mch mtm mgo mwa mba mbl mon (-2) ) ml_X9_85 im_X9_told se_X9_told ini_X9 cd_X9_told hd_X9_told ⟨(Nat.le_of_ble_eq_true rfl), (Nat.le_of_ble_eq_true rfl)⟩ (Nat.le_of_ble_eq_true rfl) (Nat.le_of_ble_eq_true rfl) hP hD hS [0] [1] rfl rfl rfl rfl (by decide) 8 0 rfl rfl hl.1 rfl (Nat.le_of_ble_eq_true rfl) dX9_set_42 (fun r56 u H locs hw57 hP hD hS => ?_)
        obtain ⟨mst_58, rfl⟩ : ∃ z, z = u := ⟨_, rfl⟩
        have hw57 : (r56 = (-2 : Int32)) ∧ True := hw57
        obtain ⟨hp59, -⟩ := hw57
        have hp59t := I_eq hp59
        have hP : va_P (dC, dI) vwCl [(mp, .inl (cI, 10, .inl mpf)), (m0, .inr (8, [.int 0, .int mst_58, .ref mp, .int mln, .ref mk, .int mts, .ref mti, .ref mtw, .ref mi, .int mmn, .ref mpo, .int mpd, .ref mpi, .int mpl, .int mcp, .ref mre, .ref mnn, .ref mwo, .ref mga, .ref mlo, .ref mro, .ref mle, .ref mra, .int mme, .ref mha, .int mch, .int mtm, .int mgo, .int mwa, .ref mba, .int mbl, .ref mon]))] H := hP
        have hD : va_D A [(mp, .inl (cI, 10, .inl mpf)), (m0, .inr (8, [.int 0, .int mst_58, .ref mp, .int mln, .ref mk, .int mts, .ref mti, .ref mtw, .ref mi, .int mmn, .ref mpo, .int mpd, .ref mpi, .int mpl, .int mcp, .ref mre, .ref mnn, .ref mwo, .ref mga, .ref mlo, .ref mro, .ref mle, .ref mra, .int mme, .ref mha, .int mch, .int mtm, .int mgo, .int mwa, .ref mba, .int mbl, .ref mon]))] := hD
        exact hret r56 (0, mst_58, mln, mpf) H locs 45 ls rfl ⟨(show 0 ≤ mln.toInt ∧ mln.toInt ≤ 10 from by first | rfl | assumption | omega), trivial⟩ (hP.sub (ws' := [(m0, .inr (8, [.int 0, .int mst_58, .ref mp, .int mln, .ref mk, .int mts, .ref mti, .ref mtw, .ref mi, .int mmn, .ref mpo, .int mpd, .ref mpi, .int mpl, .int mcp, .ref mre, .ref mnn, .ref mwo, .ref mga, .ref mlo, .ref mro, .ref mle, .ref mra, .int mme, .ref mha, .int mch, .int mtm, .int mgo, .int mwa, .ref mba, .int mbl, .ref mon])), (mp, .inl (cI, 10, .inl mpf))]) [1, 0] rfl) (hD.sub (ws' := [(m0, .inr (8, [.int 0, .int mst_58, .ref mp, .int mln, .ref mk, .int mts, .ref mti, .ref mtw, .ref mi, .int mmn, .ref mpo, .int mpd, .ref mpi, .int mpl, .int mcp, .ref mre, .ref mnn, .ref mwo, .ref mga, .ref mlo, .ref mro, .ref mle, .ref mra, .int mme, .ref mha, .int mch, .int mtm, .int mgo, .int mwa, .ref mba, .int mbl, .ref mon])), (mp, .inl (cI, 10, .inl mpf))]) [1, 0] (by decide) rfl) hS dX9_set_45
    · have c32' := I_eq c32
      refine lv_aload_n hx hb dX9_set_17 rfl (lv_at hl 0 rfl) ?_
      refine lv_iconst (v := (-1)) hx hb dX9_set_18 (by decide) ?_
      refine calI (rest := []) (wr := [(mp, .inl (cI, 10, .inl mpf))]) hG (c_X9_told l dC dI cI cJ base bB bO m0 0 mst mp mln mk mts mti mtw mi mmn mpo mpd mpi mpl mcp mre mnn mwo mga mlo mro mle mra mme mha mch mtm mgo mwa mba mbl mon (-1) ) ml_X9_85 im_X9_told se_X9_told ini_X9 cd_X9_told hd_X9_told ⟨(Nat.le_of_ble_eq_true rfl), (Nat.le_of_ble_eq_true rfl)⟩ (Nat.le_of_ble_eq_true rfl) (Nat.le_of_ble_eq_true rfl) hP hD hS [0] [1] rfl rfl rfl rfl (by decide) 8 0 rfl rfl hl.1 rfl (Nat.le_of_ble_eq_true rfl) dX9_set_19 (fun r60 u H locs hw61 hP hD hS => ?_)
      obtain ⟨mst_62, rfl⟩ : ∃ z, z = u := ⟨_, rfl⟩
      have hw61 : (r60 = (-1 : Int32)) ∧ True := hw61
      obtain ⟨hp63, -⟩ := hw61
      have hp63t := I_eq hp63
      have hP : va_P (dC, dI) vwCl [(mp, .inl (cI, 10, .inl mpf)), (m0, .inr (8, [.int 0, .int mst_62, .ref mp, .int mln, .ref mk, .int mts, .ref mti, .ref mtw, .ref mi, .int mmn, .ref mpo, .int mpd, .ref mpi, .int mpl, .int mcp, .ref mre, .ref mnn, .ref mwo, .ref mga, .ref mlo, .ref mro, .ref mle, .ref mra, .int mme, .ref mha, .int mch, .int mtm, .int mgo, .int mwa, .ref mba, .int mbl, .ref mon]))] H := hP
      have hD : va_D A [(mp, .inl (cI, 10, .inl mpf)), (m0, .inr (8, [.int 0, .int mst_62, .ref mp, .int mln, .ref mk, .int mts, .ref mti, .ref mtw, .ref mi, .int mmn, .ref mpo, .int mpd, .ref mpi, .int mpl, .int mcp, .ref mre, .ref mnn, .ref mwo, .ref mga, .ref mlo, .ref mro, .ref mle, .ref mra, .int mme, .ref mha, .int mch, .int mtm, .int mgo, .int mwa, .ref mba, .int mbl, .ref mon]))] := hD
      exact hret r60 (0, mst_62, mln, mpf) H locs 22 ls rfl ⟨(show 0 ≤ mln.toInt ∧ mln.toInt ≤ 10 from by first | rfl | assumption | omega), trivial⟩ (hP.sub (ws' := [(m0, .inr (8, [.int 0, .int mst_62, .ref mp, .int mln, .ref mk, .int mts, .ref mti, .ref mtw, .ref mi, .int mmn, .ref mpo, .int mpd, .ref mpi, .int mpl, .int mcp, .ref mre, .ref mnn, .ref mwo, .ref mga, .ref mlo, .ref mro, .ref mle, .ref mra, .int mme, .ref mha, .int mch, .int mtm, .int mgo, .int mwa, .ref mba, .int mbl, .ref mon])), (mp, .inl (cI, 10, .inl mpf))]) [1, 0] rfl) (hD.sub (ws' := [(m0, .inr (8, [.int 0, .int mst_62, .ref mp, .int mln, .ref mk, .int mts, .ref mti, .ref mtw, .ref mi, .int mmn, .ref mpo, .int mpd, .ref mpi, .int mpl, .int mcp, .ref mre, .ref mnn, .ref mwo, .ref mga, .ref mlo, .ref mro, .ref mle, .ref mra, .int mme, .ref mha, .int mch, .int mtm, .int mgo, .int mwa, .ref mba, .int mbl, .ref mon])), (mp, .inl (cI, 10, .inl mpf))]) [1, 0] (by decide) rfl) hS dX9_set_22
set_option maxHeartbeats 4000000 in
set_option maxRecDepth 100000 in
theorem c_X9_clear (l : Launch) (dC : Nat → ClassId) (dI : Nat → Nat → Nat) (cI cJ : ClassId) (base bB bO : Nat) (m0 : Nat) (mth : Int32) (mst : Int32) (mp : Nat) (mln : Int32) (mk : Nat) (mts : Int32) (mti : Nat) (mtw : Nat) (mi : Nat) (mmn : Int32) (mpo : Nat) (mpd : Int32) (mpi : Nat) (mpl : Int32) (mcp : Int32) (mre : Nat) (mnn : Nat) (mwo : Nat) (mga : Nat) (mlo : Nat) (mro : Nat) (mle : Nat) (mra : Nat) (mme : Int32) (mha : Nat) (mch : Int32) (mtm : Int32) (mgo : Int32) (mwa : Int32) (mba : Nat) (mbl : Int32) (mon : Nat)  : CtI l dC dI cI cJ base bB bO yX9_clear cX9_clear 2 .int 0 0 [.ref m0] [(m0, .inr (8, [.int mth, .int mst, .ref mp, .int mln, .ref mk, .int mts, .ref mti, .ref mtw, .ref mi, .int mmn, .ref mpo, .int mpd, .ref mpi, .int mpl, .int mcp, .ref mre, .ref mnn, .ref mwo, .ref mga, .ref mlo, .ref mro, .ref mle, .ref mra, .int mme, .ref mha, .int mch, .int mtm, .int mgo, .int mwa, .ref mba, .int mbl, .ref mon]))] ((Int32) × (Int32)) (fun (res : Int32) (u : (Int32) × (Int32)) => (u.2.toInt = 0) ∧ True) (fun (u : (Int32) × (Int32)) => [(m0, .inr (8, [.int u.1, .int mst, .ref mp, .int u.2, .ref mk, .int mts, .ref mti, .ref mtw, .ref mi, .int mmn, .ref mpo, .int mpd, .ref mpi, .int mpl, .int mcp, .ref mre, .ref mnn, .ref mwo, .ref mga, .ref mlo, .ref mro, .ref mle, .ref mra, .int mme, .ref mha, .int mch, .int mtm, .int mgo, .int mwa, .ref mba, .int mbl, .ref mon]))]) := by
  refine entI (by decide) (Nat.le_of_ble_eq_true rfl) ?_
  intro p e s m below meth c A Q ls hAt hret hP hD hS hl
  obtain ⟨hx, hb, hml, hown, hts, hA, hAb, hK, hE, hlocks, hin⟩ := hAt
  have hG : CG dC dI cI cJ base bB bO cX9_clear 2 RX9 p s m (List.toArray [.ref m0]) c A := ⟨hx, hb, hml, hown, hts, hA, hAb, hK, hE⟩
  have hl : lv_has ls 2 [(0, .ref m0)] := hl
  have c_0 : (0 : Int32).toInt = 0 := by decide
  have c_1 : (1 : Int32).toInt = 1 := by decide
  obtain ⟨H, hHe⟩ : ∃ H : Heap, H = s.heap := ⟨_, rfl⟩
  obtain ⟨locs, hle⟩ : ∃ z : List Loc, z = [] := ⟨_, rfl⟩
  rw [← hHe] at hP
  have hS : va_S A s.heap H locs := by rw [hHe, hle]; exact hS
  suffices hgo : W p l e { frames := 0, cells := 0, slots := 0, locals := 0 } s m (List.toArray [.ref m0]) below meth c H locs 0 0 Q (F0 m 0 ls []) by rw [hHe, hle] at hgo; exact hgo
  refine lv_aload_n hx hb dX9_clear_0 rfl (lv_at hl 0 rfl) ?_
  refine lv_iconst (v := 0) hx hb dX9_clear_1 (by decide) ?_
  refine va_put (D := (dC, dI)) (ci := 8) (v := .int 0) (ty := .int) (C := RX9) (T := TX9) (N := 32) hx hb hts inG_X9 tyX9 tyX9_ok nmX9 hown hK hP hD hS 0 rfl rfl 0 (by decide) (hts _ fl_X9_69) (fun _ h9 => h9) rfl (by decide +kernel) rfl rfl (Nat.le_of_ble_eq_true rfl) dX9_clear_2 (fun H locs hP hD hS => ?_)
  have hP : va_P (dC, dI) vwCl [(m0, .inr (8, [.int 0, .int mst, .ref mp, .int mln, .ref mk, .int mts, .ref mti, .ref mtw, .ref mi, .int mmn, .ref mpo, .int mpd, .ref mpi, .int mpl, .int mcp, .ref mre, .ref mnn, .ref mwo, .ref mga, .ref mlo, .ref mro, .ref mle, .ref mra, .int mme, .ref mha, .int mch, .int mtm, .int mgo, .int mwa, .ref mba, .int mbl, .ref mon]))] H := hP
  have hD : va_D A [(m0, .inr (8, [.int 0, .int mst, .ref mp, .int mln, .ref mk, .int mts, .ref mti, .ref mtw, .ref mi, .int mmn, .ref mpo, .int mpd, .ref mpi, .int mpl, .int mcp, .ref mre, .ref mnn, .ref mwo, .ref mga, .ref mlo, .ref mro, .ref mle, .ref mra, .int mme, .ref mha, .int mch, .int mtm, .int mgo, .int mwa, .ref mba, .int mbl, .ref mon]))] := hD
  refine lv_aload_n hx hb dX9_clear_5 rfl (lv_at hl 0 rfl) ?_
  refine va_get (D := (dC, dI)) (ci := 8) (v := .int mln) (C := RX9) (T := TX9) (N := 32) hx hb hts inG_X9 hown hK hP 0 rfl rfl 3 (by decide) (hts _ fl_X9_89) (fun _ h9 => h9) rfl dX9_clear_6 ?_
  refine lv_istore_n (lv' := [(1, .int mln), (0, .ref m0)]) hx hb dX9_clear_9 rfl hl (by decide) rfl (fun ls hl => ?_)
  refine lv_aload_n hx hb dX9_clear_10 rfl (lv_at hl 1 rfl) ?_
  refine lv_iconst (v := 0) hx hb dX9_clear_11 (by decide) ?_
  refine va_put (D := (dC, dI)) (ci := 8) (v := .int 0) (ty := .int) (C := RX9) (T := TX9) (N := 32) hx hb hts inG_X9 tyX9 tyX9_ok nmX9 hown hK hP hD hS 0 rfl rfl 3 (by decide) (hts _ fl_X9_89) (fun _ h9 => h9) rfl (by decide +kernel) rfl rfl (Nat.le_of_ble_eq_true rfl) dX9_clear_12 (fun H locs hP hD hS => ?_)
  have hP : va_P (dC, dI) vwCl [(m0, .inr (8, [.int 0, .int mst, .ref mp, .int 0, .ref mk, .int mts, .ref mti, .ref mtw, .ref mi, .int mmn, .ref mpo, .int mpd, .ref mpi, .int mpl, .int mcp, .ref mre, .ref mnn, .ref mwo, .ref mga, .ref mlo, .ref mro, .ref mle, .ref mra, .int mme, .ref mha, .int mch, .int mtm, .int mgo, .int mwa, .ref mba, .int mbl, .ref mon]))] H := hP
  have hD : va_D A [(m0, .inr (8, [.int 0, .int mst, .ref mp, .int 0, .ref mk, .int mts, .ref mti, .ref mtw, .ref mi, .int mmn, .ref mpo, .int mpd, .ref mpi, .int mpl, .int mcp, .ref mre, .ref mnn, .ref mwo, .ref mga, .ref mlo, .ref mro, .ref mle, .ref mra, .int mme, .ref mha, .int mch, .int mtm, .int mgo, .int mwa, .ref mba, .int mbl, .ref mon]))] := hD
  refine lv_iload_n hx hb dX9_clear_15 rfl (lv_at hl 0 rfl) ?_
  exact hret mln (0, 0) H locs 16 ls rfl ⟨(show (0 : Int32).toInt = 0 from by first | rfl | assumption | omega), trivial⟩ hP hD hS dX9_clear_16
set_option maxHeartbeats 4000000 in
set_option maxRecDepth 100000 in
theorem c_X9_token (l : Launch) (dC : Nat → ClassId) (dI : Nat → Nat → Nat) (cI cJ : ClassId) (base bB bO : Nat) (m0 : Nat) (mth : Int32) (mst : Int32) (mp : Nat) (mln : Int32) (mk : Nat) (mts : Int32) (mti : Nat) (mtw : Nat) (mi : Nat) (mmn : Int32) (mpo : Nat) (mpd : Int32) (mpi : Nat) (mpl : Int32) (mcp : Int32) (mre : Nat) (mnn : Nat) (mwo : Nat) (mga : Nat) (mlo : Nat) (mro : Nat) (mle : Nat) (mra : Nat) (mme : Int32) (mha : Nat) (mch : Int32) (mtm : Int32) (mgo : Int32) (mwa : Int32) (mba : Nat) (mbl : Int32) (mon : Nat) (mpf : Nat → Int32) (i : Int32) (hq0 : 0 ≤ mln.toInt ∧ mln.toInt ≤ 10) : CtI l dC dI cI cJ base bB bO yX9_token cX9_token 2 .int 1 25 [.ref m0, .int i] [(m0, .inr (8, [.int mth, .int mst, .ref mp, .int mln, .ref mk, .int mts, .ref mti, .ref mtw, .ref mi, .int mmn, .ref mpo, .int mpd, .ref mpi, .int mpl, .int mcp, .ref mre, .ref mnn, .ref mwo, .ref mga, .ref mlo, .ref mro, .ref mle, .ref mra, .int mme, .ref mha, .int mch, .int mtm, .int mgo, .int mwa, .ref mba, .int mbl, .ref mon])), (mp, .inl (cI, 10, .inl mpf))] ((Int32)) (fun (res : Int32) (u : (Int32)) => True) (fun (u : (Int32)) => [(m0, .inr (8, [.int u, .int mst, .ref mp, .int mln, .ref mk, .int mts, .ref mti, .ref mtw, .ref mi, .int mmn, .ref mpo, .int mpd, .ref mpi, .int mpl, .int mcp, .ref mre, .ref mnn, .ref mwo, .ref mga, .ref mlo, .ref mro, .ref mle, .ref mra, .int mme, .ref mha, .int mch, .int mtm, .int mgo, .int mwa, .ref mba, .int mbl, .ref mon])), (mp, .inl (cI, 10, .inl mpf))]) := by
  refine entI (by decide) (Nat.le_of_ble_eq_true rfl) ?_
  intro p e s m below meth c A Q ls hAt hret hP hD hS hl
  obtain ⟨hx, hb, hml, hown, hts, hA, hAb, hK, hE, hlocks, hin⟩ := hAt
  have hG : CG dC dI cI cJ base bB bO cX9_token 2 RX9 p s m (List.toArray [.ref m0, .int i]) c A := ⟨hx, hb, hml, hown, hts, hA, hAb, hK, hE⟩
  have hl : lv_has ls 2 [(0, .ref m0), (1, .int i)] := hl
  have c_m1 : (-1 : Int32).toInt = -1 := by decide
  have c_0 : (0 : Int32).toInt = 0 := by decide
  have c_1 : (1 : Int32).toInt = 1 := by decide
  have cl_0 : (0 : Int64).toInt = 0 := by decide
  have cl_1 : (1 : Int64).toInt = 1 := by decide
  obtain ⟨H, hHe⟩ : ∃ H : Heap, H = s.heap := ⟨_, rfl⟩
  obtain ⟨locs, hle⟩ : ∃ z : List Loc, z = [] := ⟨_, rfl⟩
  rw [← hHe] at hP
  have hS : va_S A s.heap H locs := by rw [hHe, hle]; exact hS
  suffices hgo : W p l e { frames := 1, cells := 0, slots := 0, locals := 25 } s m (List.toArray [.ref m0, .int i]) below meth c H locs 0 0 Q (F0 m 0 ls []) by rw [hHe, hle] at hgo; exact hgo
  refine lv_aload_n hx hb dX9_token_0 rfl (lv_at hl 0 rfl) ?_
  refine lv_iconst (v := 0) hx hb dX9_token_1 (by decide) ?_
  refine va_put (D := (dC, dI)) (ci := 8) (v := .int 0) (ty := .int) (C := RX9) (T := TX9) (N := 32) hx hb hts inG_X9 tyX9 tyX9_ok nmX9 hown hK hP hD hS 0 rfl rfl 0 (by decide) (hts _ fl_X9_69) (fun _ h9 => h9) rfl (by decide +kernel) rfl rfl (Nat.le_of_ble_eq_true rfl) dX9_token_2 (fun H locs hP hD hS => ?_)
  have hP : va_P (dC, dI) vwCl [(m0, .inr (8, [.int 0, .int mst, .ref mp, .int mln, .ref mk, .int mts, .ref mti, .ref mtw, .ref mi, .int mmn, .ref mpo, .int mpd, .ref mpi, .int mpl, .int mcp, .ref mre, .ref mnn, .ref mwo, .ref mga, .ref mlo, .ref mro, .ref mle, .ref mra, .int mme, .ref mha, .int mch, .int mtm, .int mgo, .int mwa, .ref mba, .int mbl, .ref mon])), (mp, .inl (cI, 10, .inl mpf))] H := hP
  have hD : va_D A [(m0, .inr (8, [.int 0, .int mst, .ref mp, .int mln, .ref mk, .int mts, .ref mti, .ref mtw, .ref mi, .int mmn, .ref mpo, .int mpd, .ref mpi, .int mpl, .int mcp, .ref mre, .ref mnn, .ref mwo, .ref mga, .ref mlo, .ref mro, .ref mle, .ref mra, .int mme, .ref mha, .int mch, .int mtm, .int mgo, .int mwa, .ref mba, .int mbl, .ref mon])), (mp, .inl (cI, 10, .inl mpf))] := hD
  refine lv_iload_n hx hb dX9_token_5 rfl (lv_at hl 1 rfl) ?_
  refine lv_iconst (v := (-1)) hx hb dX9_token_6 (by decide) ?_
  refine lv_icmp_ne (tgt := 17) hx hb dX9_token_7 (by decide) (fun c1 => ?_) (fun c1 => ?_)
  · have c1' := I_ne c1
    refine lv_iload_n hx hb dX9_token_17 rfl (lv_at hl 1 rfl) ?_
    obtain ⟨w2, ew2⟩ : ∃ z : Int64, Int32.toInt64 i = z := ⟨_, rfl⟩
    have hw2 := J_of i
    rw [ew2] at hw2
    refine lv_i2l (v := w2) hx hb dX9_token_18 ew2 ?_
    refine lv_lconst (v := 0) hx hb dX9_token_19 (by decide) ?_
    refine lv_aload_n hx hb dX9_token_20 rfl (lv_at hl 0 rfl) ?_
    refine va_get (D := (dC, dI)) (ci := 8) (v := .int mln) (C := RX9) (T := TX9) (N := 32) hx hb hts inG_X9 hown hK hP 0 rfl rfl 3 (by decide) (hts _ fl_X9_89) (fun _ h9 => h9) rfl dX9_token_21 ?_
    obtain ⟨w3, ew3⟩ : ∃ z : Int64, Int32.toInt64 mln = z := ⟨_, rfl⟩
    have hw3 := J_of mln
    rw [ew3] at hw3
    refine lv_i2l (v := w3) hx hb dX9_token_24 ew3 ?_
    refine lv_lconst (v := 1) hx hb dX9_token_25 (by decide) ?_
    refine lv_lsub hx hb dX9_token_26 ?_
    refine lv_topl (fun w4 ew4 => ?_)
    try have hw4 : w4.toInt = w3.toInt - (1 : Int64).toInt := J_subx ew4 (by omega)
    refine calOI (rest := []) (wr := [(m0, .inr (8, [.int 0, .int mst, .ref mp, .int mln, .ref mk, .int mts, .ref mti, .ref mtw, .ref mi, .int mmn, .ref mpo, .int mpd, .ref mpi, .int mpl, .int mcp, .ref mre, .ref mnn, .ref mwo, .ref mga, .ref mlo, .ref mro, .ref mle, .ref mra, .int mme, .ref mha, .int mch, .int mtm, .int mgo, .int mwa, .ref mba, .int mbl, .ref mon])), (mp, .inl (cI, 10, .inl mpf))]) hG (c_X9_in l dC dI cI cJ base bB bO w2 0 w4 ) ml_X9_77 st_X9_in ini_X9 cd_X9_in hd_X9_in.2 ⟨(Nat.le_of_ble_eq_true rfl), (Nat.le_of_ble_eq_true rfl)⟩ (Nat.le_of_ble_eq_true rfl) (Nat.le_of_ble_eq_true rfl) hP hD hS [] [0, 1] rfl rfl rfl rfl (by decide) hl.1 rfl (Nat.le_of_ble_eq_true rfl) dX9_token_27 (fun r5 u H locs hw6 hP hD hS => ?_)
    have hw6 : ((r5.toInt = 1 ∧ (0 : Int64).toInt ≤ w2.toInt ∧ w2.toInt ≤ w4.toInt) ∨ (r5.toInt = 0 ∧ (w2.toInt < (0 : Int64).toInt ∨ w4.toInt < w2.toInt))) ∧ True := hw6
    obtain ⟨hp7, -⟩ := hw6
    have hP : va_P (dC, dI) vwCl [(m0, .inr (8, [.int 0, .int mst, .ref mp, .int mln, .ref mk, .int mts, .ref mti, .ref mtw, .ref mi, .int mmn, .ref mpo, .int mpd, .ref mpi, .int mpl, .int mcp, .ref mre, .ref mnn, .ref mwo, .ref mga, .ref mlo, .ref mro, .ref mle, .ref mra, .int mme, .ref mha, .int mch, .int mtm, .int mgo, .int mwa, .ref mba, .int mbl, .ref mon])), (mp, .inl (cI, 10, .inl mpf))] H := hP
    have hD : va_D A [(m0, .inr (8, [.int 0, .int mst, .ref mp, .int mln, .ref mk, .int mts, .ref mti, .ref mtw, .ref mi, .int mmn, .ref mpo, .int mpd, .ref mpi, .int mpl, .int mcp, .ref mre, .ref mnn, .ref mwo, .ref mga, .ref mlo, .ref mro, .ref mle, .ref mra, .int mme, .ref mha, .int mch, .int mtm, .int mgo, .int mwa, .ref mba, .int mbl, .ref mon])), (mp, .inl (cI, 10, .inl mpf))] := hD
    refine lv_if_eq (tgt := 42) hx hb dX9_token_30 (by decide) (fun c8 => ?_) (fun c8 => ?_)
    · have c8' := I_eq c8
      refine lv_iconst (v := (-1)) hx hb dX9_token_42 (by decide) ?_
      exact hret (-1) 0 H locs 43 ls rfl trivial hP hD hS dX9_token_43
    · have c8' := I_ne c8
      refine lv_aload_n hx hb dX9_token_33 rfl (lv_at hl 0 rfl) ?_
      refine va_get (D := (dC, dI)) (ci := 8) (v := .ref mp) (C := RX9) (T := TX9) (N := 32) hx hb hts inG_X9 hown hK hP 0 rfl rfl 2 (by decide) (hts _ fl_X9_7) (fun _ h9 => h9) rfl dX9_token_34 ?_
      refine lv_iload_n hx hb dX9_token_37 rfl (lv_at hl 1 rfl) ?_
      refine va_iald (t0 := 0) hx hb hK hP 1 (ha := rfl) (ht := rfl) (I_in (by omega) (by omega)) dX9_token_38 ?_
      refine lv_topi (fun v9 ev9 => ?_)
      refine lv_goto (tgt := 43) hx hb dX9_token_39 (by decide) ?_
      exact hret v9 0 H locs 43 ls rfl trivial hP hD hS dX9_token_43
  · have c1' := I_eq c1
    refine lv_aload_n hx hb dX9_token_10 rfl (lv_at hl 0 rfl) ?_
    refine va_get (D := (dC, dI)) (ci := 8) (v := .int mln) (C := RX9) (T := TX9) (N := 32) hx hb hts inG_X9 hown hK hP 0 rfl rfl 3 (by decide) (hts _ fl_X9_89) (fun _ h9 => h9) rfl dX9_token_11 ?_
    refine lv_goto (tgt := 43) hx hb dX9_token_14 (by decide) ?_
    exact hret mln 0 H locs 43 ls rfl trivial hP hD hS dX9_token_43
set_option maxHeartbeats 4000000 in
set_option maxRecDepth 100000 in
theorem c_X9_kind (l : Launch) (dC : Nat → ClassId) (dI : Nat → Nat → Nat) (cI cJ : ClassId) (base bB bO : Nat) (m0 : Nat) (mth : Int32) (mst : Int32) (mp : Nat) (mln : Int32) (mk : Nat) (mts : Int32) (mti : Nat) (mtw : Nat) (mi : Nat) (mmn : Int32) (mpo : Nat) (mpd : Int32) (mpi : Nat) (mpl : Int32) (mcp : Int32) (mre : Nat) (mnn : Nat) (mwo : Nat) (mga : Nat) (mlo : Nat) (mro : Nat) (mle : Nat) (mra : Nat) (mme : Int32) (mha : Nat) (mch : Int32) (mtm : Int32) (mgo : Int32) (mwa : Int32) (mba : Nat) (mbl : Int32) (mon : Nat) (mkf : Nat → Int32) (x : Int32) (y : Int32)  : CtI l dC dI cI cJ base bB bO yX9_kind cX9_kind 4 .int 1 25 [.ref m0, .int x, .int y] [(m0, .inr (8, [.int mth, .int mst, .ref mp, .int mln, .ref mk, .int mts, .ref mti, .ref mtw, .ref mi, .int mmn, .ref mpo, .int mpd, .ref mpi, .int mpl, .int mcp, .ref mre, .ref mnn, .ref mwo, .ref mga, .ref mlo, .ref mro, .ref mle, .ref mra, .int mme, .ref mha, .int mch, .int mtm, .int mgo, .int mwa, .ref mba, .int mbl, .ref mon])), (mk, .inl (cI, 4, .inl mkf))] ((Int32) × (Int32) × (Nat → Int32)) (fun (res : Int32) (u : (Int32) × (Int32) × (Nat → Int32)) => (res = kindRes mkf x y) ∧ (u.2.2 = kindNew mkf x y) ∧ True) (fun (u : (Int32) × (Int32) × (Nat → Int32)) => [(m0, .inr (8, [.int u.1, .int u.2.1, .ref mp, .int mln, .ref mk, .int mts, .ref mti, .ref mtw, .ref mi, .int mmn, .ref mpo, .int mpd, .ref mpi, .int mpl, .int mcp, .ref mre, .ref mnn, .ref mwo, .ref mga, .ref mlo, .ref mro, .ref mle, .ref mra, .int mme, .ref mha, .int mch, .int mtm, .int mgo, .int mwa, .ref mba, .int mbl, .ref mon])), (mk, .inl (cI, 4, .inl u.2.2))]) := by
  refine entI (by decide) (Nat.le_of_ble_eq_true rfl) ?_
  intro p e s m below meth c A Q ls hAt hret hP hD hS hl
  obtain ⟨hx, hb, hml, hown, hts, hA, hAb, hK, hE, hlocks, hin⟩ := hAt
  have hG : CG dC dI cI cJ base bB bO cX9_kind 4 RX9 p s m (List.toArray [.ref m0, .int x, .int y]) c A := ⟨hx, hb, hml, hown, hts, hA, hAb, hK, hE⟩
  have hl : lv_has ls 4 [(0, .ref m0), (1, .int x), (2, .int y)] := hl
  have c_m1 : (-1 : Int32).toInt = -1 := by decide
  have c_0 : (0 : Int32).toInt = 0 := by decide
  have c_1 : (1 : Int32).toInt = 1 := by decide
  have cl_0 : (0 : Int64).toInt = 0 := by decide
  have cl_1 : (1 : Int64).toInt = 1 := by decide
  have cl_3 : (3 : Int64).toInt = 3 := by decide
  obtain ⟨H, hHe⟩ : ∃ H : Heap, H = s.heap := ⟨_, rfl⟩
  obtain ⟨locs, hle⟩ : ∃ z : List Loc, z = [] := ⟨_, rfl⟩
  rw [← hHe] at hP
  have hS : va_S A s.heap H locs := by rw [hHe, hle]; exact hS
  suffices hgo : W p l e { frames := 1, cells := 0, slots := 0, locals := 25 } s m (List.toArray [.ref m0, .int x, .int y]) below meth c H locs 0 0 Q (F0 m 0 ls []) by rw [hHe, hle] at hgo; exact hgo
  refine lv_aload_n hx hb dX9_kind_0 rfl (lv_at hl 0 rfl) ?_
  refine lv_iconst (v := 0) hx hb dX9_kind_1 (by decide) ?_
  refine va_put (D := (dC, dI)) (ci := 8) (v := .int 0) (ty := .int) (C := RX9) (T := TX9) (N := 32) hx hb hts inG_X9 tyX9 tyX9_ok nmX9 hown hK hP hD hS 0 rfl rfl 0 (by decide) (hts _ fl_X9_69) (fun _ h9 => h9) rfl (by decide +kernel) rfl rfl (Nat.le_of_ble_eq_true rfl) dX9_kind_2 (fun H locs hP hD hS => ?_)
  have hP : va_P (dC, dI) vwCl [(m0, .inr (8, [.int 0, .int mst, .ref mp, .int mln, .ref mk, .int mts, .ref mti, .ref mtw, .ref mi, .int mmn, .ref mpo, .int mpd, .ref mpi, .int mpl, .int mcp, .ref mre, .ref mnn, .ref mwo, .ref mga, .ref mlo, .ref mro, .ref mle, .ref mra, .int mme, .ref mha, .int mch, .int mtm, .int mgo, .int mwa, .ref mba, .int mbl, .ref mon])), (mk, .inl (cI, 4, .inl mkf))] H := hP
  have hD : va_D A [(m0, .inr (8, [.int 0, .int mst, .ref mp, .int mln, .ref mk, .int mts, .ref mti, .ref mtw, .ref mi, .int mmn, .ref mpo, .int mpd, .ref mpi, .int mpl, .int mcp, .ref mre, .ref mnn, .ref mwo, .ref mga, .ref mlo, .ref mro, .ref mle, .ref mra, .int mme, .ref mha, .int mch, .int mtm, .int mgo, .int mwa, .ref mba, .int mbl, .ref mon])), (mk, .inl (cI, 4, .inl mkf))] := hD
  refine lv_iload_n hx hb dX9_kind_5 rfl (lv_at hl 1 rfl) ?_
  obtain ⟨w1, ew1⟩ : ∃ z : Int64, Int32.toInt64 x = z := ⟨_, rfl⟩
  have hw1 := J_of x
  rw [ew1] at hw1
  refine lv_i2l (v := w1) hx hb dX9_kind_6 ew1 ?_
  refine lv_lconst (v := 0) hx hb dX9_kind_7 (by decide) ?_
  refine lv_ldc2 (v := 3) hx hb hown (hts _ k_X9_92) dX9_kind_8 ?_
  refine calOI (rest := []) (wr := [(m0, .inr (8, [.int 0, .int mst, .ref mp, .int mln, .ref mk, .int mts, .ref mti, .ref mtw, .ref mi, .int mmn, .ref mpo, .int mpd, .ref mpi, .int mpl, .int mcp, .ref mre, .ref mnn, .ref mwo, .ref mga, .ref mlo, .ref mro, .ref mle, .ref mra, .int mme, .ref mha, .int mch, .int mtm, .int mgo, .int mwa, .ref mba, .int mbl, .ref mon])), (mk, .inl (cI, 4, .inl mkf))]) hG (c_X9_in l dC dI cI cJ base bB bO w1 0 3 ) ml_X9_77 st_X9_in ini_X9 cd_X9_in hd_X9_in.2 ⟨(Nat.le_of_ble_eq_true rfl), (Nat.le_of_ble_eq_true rfl)⟩ (Nat.le_of_ble_eq_true rfl) (Nat.le_of_ble_eq_true rfl) hP hD hS [] [0, 1] rfl rfl rfl rfl (by decide) hl.1 rfl (Nat.le_of_ble_eq_true rfl) dX9_kind_11 (fun r2 u H locs hw3 hP hD hS => ?_)
  have hw3 : ((r2.toInt = 1 ∧ (0 : Int64).toInt ≤ w1.toInt ∧ w1.toInt ≤ (3 : Int64).toInt) ∨ (r2.toInt = 0 ∧ (w1.toInt < (0 : Int64).toInt ∨ (3 : Int64).toInt < w1.toInt))) ∧ True := hw3
  obtain ⟨hp4, -⟩ := hw3
  have hP : va_P (dC, dI) vwCl [(m0, .inr (8, [.int 0, .int mst, .ref mp, .int mln, .ref mk, .int mts, .ref mti, .ref mtw, .ref mi, .int mmn, .ref mpo, .int mpd, .ref mpi, .int mpl, .int mcp, .ref mre, .ref mnn, .ref mwo, .ref mga, .ref mlo, .ref mro, .ref mle, .ref mra, .int mme, .ref mha, .int mch, .int mtm, .int mgo, .int mwa, .ref mba, .int mbl, .ref mon])), (mk, .inl (cI, 4, .inl mkf))] H := hP
  have hD : va_D A [(m0, .inr (8, [.int 0, .int mst, .ref mp, .int mln, .ref mk, .int mts, .ref mti, .ref mtw, .ref mi, .int mmn, .ref mpo, .int mpd, .ref mpi, .int mpl, .int mcp, .ref mre, .ref mnn, .ref mwo, .ref mga, .ref mlo, .ref mro, .ref mle, .ref mra, .int mme, .ref mha, .int mch, .int mtm, .int mgo, .int mwa, .ref mba, .int mbl, .ref mon])), (mk, .inl (cI, 4, .inl mkf))] := hD
  refine lv_if_eq (tgt := 27) hx hb dX9_kind_14 (by decide) (fun c5 => ?_) (fun c5 => ?_)
  · have c5' := I_eq c5
    refine lv_aload_n hx hb dX9_kind_27 rfl (lv_at hl 0 rfl) ?_
    refine lv_iconst (v := (-1)) hx hb dX9_kind_28 (by decide) ?_
    refine calI (rest := []) (wr := [(mk, .inl (cI, 4, .inl mkf))]) hG (c_X9_told l dC dI cI cJ base bB bO m0 0 mst mp mln mk mts mti mtw mi mmn mpo mpd mpi mpl mcp mre mnn mwo mga mlo mro mle mra mme mha mch mtm mgo mwa mba mbl mon (-1) ) ml_X9_85 im_X9_told se_X9_told ini_X9 cd_X9_told hd_X9_told ⟨(Nat.le_of_ble_eq_true rfl), (Nat.le_of_ble_eq_true rfl)⟩ (Nat.le_of_ble_eq_true rfl) (Nat.le_of_ble_eq_true rfl) hP hD hS [0] [1] rfl rfl rfl rfl (by decide) 8 0 rfl rfl hl.1 rfl (Nat.le_of_ble_eq_true rfl) dX9_kind_29 (fun r6 u H locs hw7 hP hD hS => ?_)
    obtain ⟨mst_8, rfl⟩ : ∃ z, z = u := ⟨_, rfl⟩
    have hw7 : (r6 = (-1 : Int32)) ∧ True := hw7
    obtain ⟨hp9, -⟩ := hw7
    have hp9t := I_eq hp9
    have hP : va_P (dC, dI) vwCl [(mk, .inl (cI, 4, .inl mkf)), (m0, .inr (8, [.int 0, .int mst_8, .ref mp, .int mln, .ref mk, .int mts, .ref mti, .ref mtw, .ref mi, .int mmn, .ref mpo, .int mpd, .ref mpi, .int mpl, .int mcp, .ref mre, .ref mnn, .ref mwo, .ref mga, .ref mlo, .ref mro, .ref mle, .ref mra, .int mme, .ref mha, .int mch, .int mtm, .int mgo, .int mwa, .ref mba, .int mbl, .ref mon]))] H := hP
    have hD : va_D A [(mk, .inl (cI, 4, .inl mkf)), (m0, .inr (8, [.int 0, .int mst_8, .ref mp, .int mln, .ref mk, .int mts, .ref mti, .ref mtw, .ref mi, .int mmn, .ref mpo, .int mpd, .ref mpi, .int mpl, .int mcp, .ref mre, .ref mnn, .ref mwo, .ref mga, .ref mlo, .ref mro, .ref mle, .ref mra, .int mme, .ref mha, .int mch, .int mtm, .int mgo, .int mwa, .ref mba, .int mbl, .ref mon]))] := hD
    exact hret r6 (0, mst_8, mkf) H locs 32 ls rfl ⟨(show r6 = kindRes mkf x y from by first | exact kindRes_no (by omega) (by assumption) | exact kindRes_yes (by omega) (by assumption) e_), (show mkf = kindNew mkf x y from by first | exact kindNew_no (by omega) | exact kindNew_yes (by omega) emkf), trivial⟩ (hP.sub (ws' := [(m0, .inr (8, [.int 0, .int mst_8, .ref mp, .int mln, .ref mk, .int mts, .ref mti, .ref mtw, .ref mi, .int mmn, .ref mpo, .int mpd, .ref mpi, .int mpl, .int mcp, .ref mre, .ref mnn, .ref mwo, .ref mga, .ref mlo, .ref mro, .ref mle, .ref mra, .int mme, .ref mha, .int mch, .int mtm, .int mgo, .int mwa, .ref mba, .int mbl, .ref mon])), (mk, .inl (cI, 4, .inl mkf))]) [1, 0] rfl) (hD.sub (ws' := [(m0, .inr (8, [.int 0, .int mst_8, .ref mp, .int mln, .ref mk, .int mts, .ref mti, .ref mtw, .ref mi, .int mmn, .ref mpo, .int mpd, .ref mpi, .int mpl, .int mcp, .ref mre, .ref mnn, .ref mwo, .ref mga, .ref mlo, .ref mro, .ref mle, .ref mra, .int mme, .ref mha, .int mch, .int mtm, .int mgo, .int mwa, .ref mba, .int mbl, .ref mon])), (mk, .inl (cI, 4, .inl mkf))]) [1, 0] (by decide) rfl) hS dX9_kind_32
  · have c5' := I_ne c5
    refine lv_iload_n hx hb dX9_kind_17 rfl (lv_at hl 2 rfl) ?_
    obtain ⟨w10, ew10⟩ : ∃ z : Int64, Int32.toInt64 y = z := ⟨_, rfl⟩
    have hw10 := J_of y
    rw [ew10] at hw10
    refine lv_i2l (v := w10) hx hb dX9_kind_18 ew10 ?_
    refine lv_lconst (v := 0) hx hb dX9_kind_19 (by decide) ?_
    refine lv_lconst (v := 1) hx hb dX9_kind_20 (by decide) ?_
    refine calOI (rest := []) (wr := [(m0, .inr (8, [.int 0, .int mst, .ref mp, .int mln, .ref mk, .int mts, .ref mti, .ref mtw, .ref mi, .int mmn, .ref mpo, .int mpd, .ref mpi, .int mpl, .int mcp, .ref mre, .ref mnn, .ref mwo, .ref mga, .ref mlo, .ref mro, .ref mle, .ref mra, .int mme, .ref mha, .int mch, .int mtm, .int mgo, .int mwa, .ref mba, .int mbl, .ref mon])), (mk, .inl (cI, 4, .inl mkf))]) hG (c_X9_in l dC dI cI cJ base bB bO w10 0 1 ) ml_X9_77 st_X9_in ini_X9 cd_X9_in hd_X9_in.2 ⟨(Nat.le_of_ble_eq_true rfl), (Nat.le_of_ble_eq_true rfl)⟩ (Nat.le_of_ble_eq_true rfl) (Nat.le_of_ble_eq_true rfl) hP hD hS [] [0, 1] rfl rfl rfl rfl (by decide) hl.1 rfl (Nat.le_of_ble_eq_true rfl) dX9_kind_21 (fun r11 u H locs hw12 hP hD hS => ?_)
    have hw12 : ((r11.toInt = 1 ∧ (0 : Int64).toInt ≤ w10.toInt ∧ w10.toInt ≤ (1 : Int64).toInt) ∨ (r11.toInt = 0 ∧ (w10.toInt < (0 : Int64).toInt ∨ (1 : Int64).toInt < w10.toInt))) ∧ True := hw12
    obtain ⟨hp13, -⟩ := hw12
    have hP : va_P (dC, dI) vwCl [(m0, .inr (8, [.int 0, .int mst, .ref mp, .int mln, .ref mk, .int mts, .ref mti, .ref mtw, .ref mi, .int mmn, .ref mpo, .int mpd, .ref mpi, .int mpl, .int mcp, .ref mre, .ref mnn, .ref mwo, .ref mga, .ref mlo, .ref mro, .ref mle, .ref mra, .int mme, .ref mha, .int mch, .int mtm, .int mgo, .int mwa, .ref mba, .int mbl, .ref mon])), (mk, .inl (cI, 4, .inl mkf))] H := hP
    have hD : va_D A [(m0, .inr (8, [.int 0, .int mst, .ref mp, .int mln, .ref mk, .int mts, .ref mti, .ref mtw, .ref mi, .int mmn, .ref mpo, .int mpd, .ref mpi, .int mpl, .int mcp, .ref mre, .ref mnn, .ref mwo, .ref mga, .ref mlo, .ref mro, .ref mle, .ref mra, .int mme, .ref mha, .int mch, .int mtm, .int mgo, .int mwa, .ref mba, .int mbl, .ref mon])), (mk, .inl (cI, 4, .inl mkf))] := hD
    refine lv_if_ne (tgt := 33) hx hb dX9_kind_24 (by decide) (fun c14 => ?_) (fun c14 => ?_)
    · have c14' := I_ne c14
      refine lv_aload_n hx hb dX9_kind_33 rfl (lv_at hl 0 rfl) ?_
      refine va_get (D := (dC, dI)) (ci := 8) (v := .ref mk) (C := RX9) (T := TX9) (N := 32) hx hb hts inG_X9 hown hK hP 0 rfl rfl 4 (by decide) (hts _ fl_X9_13) (fun _ h9 => h9) rfl dX9_kind_34 ?_
      refine lv_iload_n hx hb dX9_kind_37 rfl (lv_at hl 1 rfl) ?_
      refine va_iald (t0 := 0) hx hb hK hP 1 (ha := rfl) (ht := rfl) (I_in (by omega) (by omega)) dX9_kind_38 ?_
      refine lv_topi (fun v15 ev15 => ?_)
      refine lv_istore_n (lv' := [(3, .int v15), (0, .ref m0), (1, .int x), (2, .int y)]) hx hb dX9_kind_39 rfl hl (by decide) rfl (fun ls hl => ?_)
      refine lv_aload_n hx hb dX9_kind_40 rfl (lv_at hl 1 rfl) ?_
      refine va_get (D := (dC, dI)) (ci := 8) (v := .ref mk) (C := RX9) (T := TX9) (N := 32) hx hb hts inG_X9 hown hK hP 0 rfl rfl 4 (by decide) (hts _ fl_X9_13) (fun _ h9 => h9) rfl dX9_kind_41 ?_
      refine lv_iload_n hx hb dX9_kind_44 rfl (lv_at hl 2 rfl) ?_
      refine lv_iload_n hx hb dX9_kind_45 rfl (lv_at hl 3 rfl) ?_
      refine va_iast (t0 := 0) hx hb hK hP hD hS 1 (ha := rfl) (ht := rfl) (I_in (by omega) (by omega)) dX9_kind_46 (fun H locs hP hD hS => ?_)
      have hP : va_P (dC, dI) vwCl [(m0, .inr (8, [.int 0, .int mst, .ref mp, .int mln, .ref mk, .int mts, .ref mti, .ref mtw, .ref mi, .int mmn, .ref mpo, .int mpd, .ref mpi, .int mpl, .int mcp, .ref mre, .ref mnn, .ref mwo, .ref mga, .ref mlo, .ref mro, .ref mle, .ref mra, .int mme, .ref mha, .int mch, .int mtm, .int mgo, .int mwa, .ref mba, .int mbl, .ref mon])), (mk, .inl (cI, 4, .inl (upd mkf x.toNatClampNeg y)))] H := hP
      have hD : va_D A [(m0, .inr (8, [.int 0, .int mst, .ref mp, .int mln, .ref mk, .int mts, .ref mti, .ref mtw, .ref mi, .int mmn, .ref mpo, .int mpd, .ref mpi, .int mpl, .int mcp, .ref mre, .ref mnn, .ref mwo, .ref mga, .ref mlo, .ref mro, .ref mle, .ref mra, .int mme, .ref mha, .int mch, .int mtm, .int mgo, .int mwa, .ref mba, .int mbl, .ref mon])), (mk, .inl (cI, 4, .inl (upd mkf x.toNatClampNeg y)))] := hD
      generalize ef16 : upd mkf x.toNatClampNeg y = f16 at hP hD
      refine lv_aload_n hx hb dX9_kind_47 rfl (lv_at hl 1 rfl) ?_
      refine lv_iload_n hx hb dX9_kind_48 rfl (lv_at hl 0 rfl) ?_
      refine calI (rest := []) (wr := [(mk, .inl (cI, 4, .inl f16))]) hG (c_X9_told l dC dI cI cJ base bB bO m0 0 mst mp mln mk mts mti mtw mi mmn mpo mpd mpi mpl mcp mre mnn mwo mga mlo mro mle mra mme mha mch mtm mgo mwa mba mbl mon v15 ) ml_X9_85 im_X9_told se_X9_told ini_X9 cd_X9_told hd_X9_told ⟨(Nat.le_of_ble_eq_true rfl), (Nat.le_of_ble_eq_true rfl)⟩ (Nat.le_of_ble_eq_true rfl) (Nat.le_of_ble_eq_true rfl) hP hD hS [0] [1] rfl rfl rfl rfl (by decide) 8 0 rfl rfl hl.1 rfl (Nat.le_of_ble_eq_true rfl) dX9_kind_49 (fun r17 u H locs hw18 hP hD hS => ?_)
      obtain ⟨mst_19, rfl⟩ : ∃ z, z = u := ⟨_, rfl⟩
      have hw18 : (r17 = v15) ∧ True := hw18
      obtain ⟨hp20, -⟩ := hw18
      have hp20t := I_eq hp20
      have hP : va_P (dC, dI) vwCl [(mk, .inl (cI, 4, .inl f16)), (m0, .inr (8, [.int 0, .int mst_19, .ref mp, .int mln, .ref mk, .int mts, .ref mti, .ref mtw, .ref mi, .int mmn, .ref mpo, .int mpd, .ref mpi, .int mpl, .int mcp, .ref mre, .ref mnn, .ref mwo, .ref mga, .ref mlo, .ref mro, .ref mle, .ref mra, .int mme, .ref mha, .int mch, .int mtm, .int mgo, .int mwa, .ref mba, .int mbl, .ref mon]))] H := hP
      have hD : va_D A [(mk, .inl (cI, 4, .inl f16)), (m0, .inr (8, [.int 0, .int mst_19, .ref mp, .int mln, .ref mk, .int mts, .ref mti, .ref mtw, .ref mi, .int mmn, .ref mpo, .int mpd, .ref mpi, .int mpl, .int mcp, .ref mre, .ref mnn, .ref mwo, .ref mga, .ref mlo, .ref mro, .ref mle, .ref mra, .int mme, .ref mha, .int mch, .int mtm, .int mgo, .int mwa, .ref mba, .int mbl, .ref mon]))] := hD
      exact hret r17 (0, mst_19, f16) H locs 52 ls rfl ⟨(show r17 = kindRes mkf x y from by first | exact kindRes_no (by omega) (by assumption) | exact kindRes_yes (by omega) (by assumption) ev15), (show f16 = kindNew mkf x y from by first | exact kindNew_no (by omega) | exact kindNew_yes (by omega) ef16), trivial⟩ (hP.sub (ws' := [(m0, .inr (8, [.int 0, .int mst_19, .ref mp, .int mln, .ref mk, .int mts, .ref mti, .ref mtw, .ref mi, .int mmn, .ref mpo, .int mpd, .ref mpi, .int mpl, .int mcp, .ref mre, .ref mnn, .ref mwo, .ref mga, .ref mlo, .ref mro, .ref mle, .ref mra, .int mme, .ref mha, .int mch, .int mtm, .int mgo, .int mwa, .ref mba, .int mbl, .ref mon])), (mk, .inl (cI, 4, .inl f16))]) [1, 0] rfl) (hD.sub (ws' := [(m0, .inr (8, [.int 0, .int mst_19, .ref mp, .int mln, .ref mk, .int mts, .ref mti, .ref mtw, .ref mi, .int mmn, .ref mpo, .int mpd, .ref mpi, .int mpl, .int mcp, .ref mre, .ref mnn, .ref mwo, .ref mga, .ref mlo, .ref mro, .ref mle, .ref mra, .int mme, .ref mha, .int mch, .int mtm, .int mgo, .int mwa, .ref mba, .int mbl, .ref mon])), (mk, .inl (cI, 4, .inl f16))]) [1, 0] (by decide) rfl) hS dX9_kind_52
    · have c14' := I_eq c14
      refine lv_aload_n hx hb dX9_kind_27 rfl (lv_at hl 0 rfl) ?_
      refine lv_iconst (v := (-1)) hx hb dX9_kind_28 (by decide) ?_
      refine calI (rest := []) (wr := [(mk, .inl (cI, 4, .inl mkf))]) hG (c_X9_told l dC dI cI cJ base bB bO m0 0 mst mp mln mk mts mti mtw mi mmn mpo mpd mpi mpl mcp mre mnn mwo mga mlo mro mle mra mme mha mch mtm mgo mwa mba mbl mon (-1) ) ml_X9_85 im_X9_told se_X9_told ini_X9 cd_X9_told hd_X9_told ⟨(Nat.le_of_ble_eq_true rfl), (Nat.le_of_ble_eq_true rfl)⟩ (Nat.le_of_ble_eq_true rfl) (Nat.le_of_ble_eq_true rfl) hP hD hS [0] [1] rfl rfl rfl rfl (by decide) 8 0 rfl rfl hl.1 rfl (Nat.le_of_ble_eq_true rfl) dX9_kind_29 (fun r21 u H locs hw22 hP hD hS => ?_)
      obtain ⟨mst_23, rfl⟩ : ∃ z, z = u := ⟨_, rfl⟩
      have hw22 : (r21 = (-1 : Int32)) ∧ True := hw22
      obtain ⟨hp24, -⟩ := hw22
      have hp24t := I_eq hp24
      have hP : va_P (dC, dI) vwCl [(mk, .inl (cI, 4, .inl mkf)), (m0, .inr (8, [.int 0, .int mst_23, .ref mp, .int mln, .ref mk, .int mts, .ref mti, .ref mtw, .ref mi, .int mmn, .ref mpo, .int mpd, .ref mpi, .int mpl, .int mcp, .ref mre, .ref mnn, .ref mwo, .ref mga, .ref mlo, .ref mro, .ref mle, .ref mra, .int mme, .ref mha, .int mch, .int mtm, .int mgo, .int mwa, .ref mba, .int mbl, .ref mon]))] H := hP
      have hD : va_D A [(mk, .inl (cI, 4, .inl mkf)), (m0, .inr (8, [.int 0, .int mst_23, .ref mp, .int mln, .ref mk, .int mts, .ref mti, .ref mtw, .ref mi, .int mmn, .ref mpo, .int mpd, .ref mpi, .int mpl, .int mcp, .ref mre, .ref mnn, .ref mwo, .ref mga, .ref mlo, .ref mro, .ref mle, .ref mra, .int mme, .ref mha, .int mch, .int mtm, .int mgo, .int mwa, .ref mba, .int mbl, .ref mon]))] := hD
      exact hret r21 (0, mst_23, mkf) H locs 32 ls rfl ⟨(show r21 = kindRes mkf x y from by first | exact kindRes_no (by omega) (by assumption) | exact kindRes_yes (by omega) (by assumption) ev15), (show mkf = kindNew mkf x y from by first | exact kindNew_no (by omega) | exact kindNew_yes (by omega) emkf), trivial⟩ (hP.sub (ws' := [(m0, .inr (8, [.int 0, .int mst_23, .ref mp, .int mln, .ref mk, .int mts, .ref mti, .ref mtw, .ref mi, .int mmn, .ref mpo, .int mpd, .ref mpi, .int mpl, .int mcp, .ref mre, .ref mnn, .ref mwo, .ref mga, .ref mlo, .ref mro, .ref mle, .ref mra, .int mme, .ref mha, .int mch, .int mtm, .int mgo, .int mwa, .ref mba, .int mbl, .ref mon])), (mk, .inl (cI, 4, .inl mkf))]) [1, 0] rfl) (hD.sub (ws' := [(m0, .inr (8, [.int 0, .int mst_23, .ref mp, .int mln, .ref mk, .int mts, .ref mti, .ref mtw, .ref mi, .int mmn, .ref mpo, .int mpd, .ref mpi, .int mpl, .int mcp, .ref mre, .ref mnn, .ref mwo, .ref mga, .ref mlo, .ref mro, .ref mle, .ref mra, .int mme, .ref mha, .int mch, .int mtm, .int mgo, .int mwa, .ref mba, .int mbl, .ref mon])), (mk, .inl (cI, 4, .inl mkf))]) [1, 0] (by decide) rfl) hS dX9_kind_32
set_option maxHeartbeats 4000000 in
set_option maxRecDepth 100000 in
theorem c_X9_fault (l : Launch) (dC : Nat → ClassId) (dI : Nat → Nat → Nat) (cI cJ : ClassId) (base bB bO : Nat) (m0 : Nat) (mth : Int32) (mst : Int32) (mp : Nat) (mln : Int32) (mk : Nat) (mts : Int32) (mti : Nat) (mtw : Nat) (mi : Nat) (mmn : Int32) (mpo : Nat) (mpd : Int32) (mpi : Nat) (mpl : Int32) (mcp : Int32) (mre : Nat) (mnn : Nat) (mwo : Nat) (mga : Nat) (mlo : Nat) (mro : Nat) (mle : Nat) (mra : Nat) (mme : Int32) (mha : Nat) (mch : Int32) (mtm : Int32) (mgo : Int32) (mwa : Int32) (mba : Nat) (mbl : Int32) (mon : Nat) (mpf : Nat → Int32) (mif : Nat → Int32) (mpof : Nat → Int32) (mpif : Nat → Int32) (hq0 : 0 ≤ mln.toInt ∧ mln.toInt ≤ 10) : CtI l dC dI cI cJ base bB bO yX9_fault cX9_fault 1 .int 5 105 [.ref m0] [(m0, .inr (8, [.int mth, .int mst, .ref mp, .int mln, .ref mk, .int mts, .ref mti, .ref mtw, .ref mi, .int mmn, .ref mpo, .int mpd, .ref mpi, .int mpl, .int mcp, .ref mre, .ref mnn, .ref mwo, .ref mga, .ref mlo, .ref mro, .ref mle, .ref mra, .int mme, .ref mha, .int mch, .int mtm, .int mgo, .int mwa, .ref mba, .int mbl, .ref mon])), (mp, .inl (cI, 10, .inl mpf)), (mi, .inl (cI, 12, .inl mif)), (mpo, .inl (cI, 12, .inl mpof)), (mpi, .inl (cI, 26, .inl mpif))] ((Int32) × (Int32) × (Nat → Int32) × (Int32) × (Int32) × (Int32) × (Nat → Int32) × (Nat → Int32)) (fun (res : Int32) (u : (Int32) × (Int32) × (Nat → Int32) × (Int32) × (Int32) × (Int32) × (Nat → Int32) × (Nat → Int32)) => (0 ≤ u.2.1.toInt ∧ u.2.1.toInt ≤ 12) ∧ (u.2.2.2.2.2.1.toInt = 0 ∨ u.2.2.2.2.2.1.toInt = 1) ∧ True) (fun (u : (Int32) × (Int32) × (Nat → Int32) × (Int32) × (Int32) × (Int32) × (Nat → Int32) × (Nat → Int32)) => [(m0, .inr (8, [.int u.1, .int mst, .ref mp, .int mln, .ref mk, .int mts, .ref mti, .ref mtw, .ref mi, .int u.2.1, .ref mpo, .int u.2.2.2.1, .ref mpi, .int u.2.2.2.2.1, .int u.2.2.2.2.2.1, .ref mre, .ref mnn, .ref mwo, .ref mga, .ref mlo, .ref mro, .ref mle, .ref mra, .int mme, .ref mha, .int mch, .int mtm, .int mgo, .int mwa, .ref mba, .int mbl, .ref mon])), (mp, .inl (cI, 10, .inl mpf)), (mi, .inl (cI, 12, .inl u.2.2.1)), (mpo, .inl (cI, 12, .inl u.2.2.2.2.2.2.1)), (mpi, .inl (cI, 26, .inl u.2.2.2.2.2.2.2))]) := by
  refine entI (by decide) (Nat.le_of_ble_eq_true rfl) ?_
  intro p e s m below meth c A Q ls hAt hret hP hD hS hl
  obtain ⟨hx, hb, hml, hown, hts, hA, hAb, hK, hE, hlocks, hin⟩ := hAt
  have hG : CG dC dI cI cJ base bB bO cX9_fault 1 RX9 p s m (List.toArray [.ref m0]) c A := ⟨hx, hb, hml, hown, hts, hA, hAb, hK, hE⟩
  have hl : lv_has ls 1 [(0, .ref m0)] := hl
  have c_0 : (0 : Int32).toInt = 0 := by decide
  have c_1 : (1 : Int32).toInt = 1 := by decide
  obtain ⟨H, hHe⟩ : ∃ H : Heap, H = s.heap := ⟨_, rfl⟩
  obtain ⟨locs, hle⟩ : ∃ z : List Loc, z = [] := ⟨_, rfl⟩
  rw [← hHe] at hP
  have hS : va_S A s.heap H locs := by rw [hHe, hle]; exact hS
  suffices hgo : W p l e { frames := 5, cells := 0, slots := 0, locals := 105 } s m (List.toArray [.ref m0]) below meth c H locs 0 0 Q (F0 m 0 ls []) by rw [hHe, hle] at hgo; exact hgo
  refine lv_aload_n hx hb dX9_fault_0 rfl (lv_at hl 0 rfl) ?_
  refine lv_iconst (v := 0) hx hb dX9_fault_1 (by decide) ?_
  refine va_put (D := (dC, dI)) (ci := 8) (v := .int 0) (ty := .int) (C := RX9) (T := TX9) (N := 32) hx hb hts inG_X9 tyX9 tyX9_ok nmX9 hown hK hP hD hS 0 rfl rfl 0 (by decide) (hts _ fl_X9_69) (fun _ h9 => h9) rfl (by decide +kernel) rfl rfl (Nat.le_of_ble_eq_true rfl) dX9_fault_2 (fun H locs hP hD hS => ?_)
  have hP : va_P (dC, dI) vwCl [(m0, .inr (8, [.int 0, .int mst, .ref mp, .int mln, .ref mk, .int mts, .ref mti, .ref mtw, .ref mi, .int mmn, .ref mpo, .int mpd, .ref mpi, .int mpl, .int mcp, .ref mre, .ref mnn, .ref mwo, .ref mga, .ref mlo, .ref mro, .ref mle, .ref mra, .int mme, .ref mha, .int mch, .int mtm, .int mgo, .int mwa, .ref mba, .int mbl, .ref mon])), (mp, .inl (cI, 10, .inl mpf)), (mi, .inl (cI, 12, .inl mif)), (mpo, .inl (cI, 12, .inl mpof)), (mpi, .inl (cI, 26, .inl mpif))] H := hP
  have hD : va_D A [(m0, .inr (8, [.int 0, .int mst, .ref mp, .int mln, .ref mk, .int mts, .ref mti, .ref mtw, .ref mi, .int mmn, .ref mpo, .int mpd, .ref mpi, .int mpl, .int mcp, .ref mre, .ref mnn, .ref mwo, .ref mga, .ref mlo, .ref mro, .ref mle, .ref mra, .int mme, .ref mha, .int mch, .int mtm, .int mgo, .int mwa, .ref mba, .int mbl, .ref mon])), (mp, .inl (cI, 10, .inl mpf)), (mi, .inl (cI, 12, .inl mif)), (mpo, .inl (cI, 12, .inl mpof)), (mpi, .inl (cI, 26, .inl mpif))] := hD
  refine lv_aload_n hx hb dX9_fault_5 rfl (lv_at hl 0 rfl) ?_
  refine calV (rest := []) (wr := [(mpo, .inl (cI, 12, .inl mpof)), (mpi, .inl (cI, 26, .inl mpif))]) hG (c_X9_takeProgram l dC dI cI cJ base bB bO m0 0 mst mp mln mk mts mti mtw mi mmn mpo mpd mpi mpl mcp mre mnn mwo mga mlo mro mle mra mme mha mch mtm mgo mwa mba mbl mon mpf mif (by first | assumption | omega)) ml_X9_139 im_X9_takeProgram se_X9_takeProgram ini_X9 cd_X9_takeProgram hd_X9_takeProgram ⟨(Nat.le_of_ble_eq_true rfl), (Nat.le_of_ble_eq_true rfl)⟩ (Nat.le_of_ble_eq_true rfl) (Nat.le_of_ble_eq_true rfl) hP hD hS [0, 1, 2] [3, 4] rfl rfl rfl rfl (by decide) 8 0 rfl rfl hl.1 rfl (Nat.le_of_ble_eq_true rfl) dX9_fault_6 (fun u H locs hw1 hP hD hS => ?_)
  obtain ⟨mmn_2, mif_3⟩ := u
  have hw1 : (mmn_2.toInt = mln.toInt) ∧ True := hw1
  obtain ⟨hp4, -⟩ := hw1
  have hP : va_P (dC, dI) vwCl [(mpo, .inl (cI, 12, .inl mpof)), (mpi, .inl (cI, 26, .inl mpif)), (m0, .inr (8, [.int 0, .int mst, .ref mp, .int mln, .ref mk, .int mts, .ref mti, .ref mtw, .ref mi, .int mmn_2, .ref mpo, .int mpd, .ref mpi, .int mpl, .int mcp, .ref mre, .ref mnn, .ref mwo, .ref mga, .ref mlo, .ref mro, .ref mle, .ref mra, .int mme, .ref mha, .int mch, .int mtm, .int mgo, .int mwa, .ref mba, .int mbl, .ref mon])), (mp, .inl (cI, 10, .inl mpf)), (mi, .inl (cI, 12, .inl mif_3))] H := hP
  have hD : va_D A [(mpo, .inl (cI, 12, .inl mpof)), (mpi, .inl (cI, 26, .inl mpif)), (m0, .inr (8, [.int 0, .int mst, .ref mp, .int mln, .ref mk, .int mts, .ref mti, .ref mtw, .ref mi, .int mmn_2, .ref mpo, .int mpd, .ref mpi, .int mpl, .int mcp, .ref mre, .ref mnn, .ref mwo, .ref mga, .ref mlo, .ref mro, .ref mle, .ref mra, .int mme, .ref mha, .int mch, .int mtm, .int mgo, .int mwa, .ref mba, .int mbl, .ref mon])), (mp, .inl (cI, 10, .inl mpf)), (mi, .inl (cI, 12, .inl mif_3))] := hD
  refine lv_aload_n hx hb dX9_fault_9 rfl (lv_at hl 0 rfl) ?_
  refine calI (rest := []) (wr := [(mp, .inl (cI, 10, .inl mpf))]) hG (c_X9_read l dC dI cI cJ base bB bO m0 0 mst mp mln mk mts mti mtw mi mmn_2 mpo mpd mpi mpl mcp mre mnn mwo mga mlo mro mle mra mme mha mch mtm mgo mwa mba mbl mon mif_3 mpof mpif (by first | assumption | omega)) ml_X9_142 im_X9_read se_X9_read ini_X9 cd_X9_read hd_X9_read ⟨(Nat.le_of_ble_eq_true rfl), (Nat.le_of_ble_eq_true rfl)⟩ (Nat.le_of_ble_eq_true rfl) (Nat.le_of_ble_eq_true rfl) hP hD hS [2, 4, 0, 1] [3] rfl rfl rfl rfl (by decide) 8 2 rfl rfl hl.1 rfl (Nat.le_of_ble_eq_true rfl) dX9_fault_10 (fun r5 u H locs hw6 hP hD hS => ?_)
  obtain ⟨mpd_7, mpl_8, mcp_9, mpof_10, mpif_11⟩ := u
  have hw6 : (¬ r5.toInt = -1 ∨ (0 ≤ mpd_7.toInt ∧ mpd_7.toInt ≤ 12)) ∧ (¬ r5.toInt = -1 ∨ WFn mpof_10 mpd_7.toInt.toNat) ∧ (mcp_9.toInt = 0 ∨ mcp_9.toInt = 1) ∧ True := hw6
  obtain ⟨hp12, hp13, hp14, -⟩ := hw6
  have hP : va_P (dC, dI) vwCl [(mp, .inl (cI, 10, .inl mpf)), (m0, .inr (8, [.int 0, .int mst, .ref mp, .int mln, .ref mk, .int mts, .ref mti, .ref mtw, .ref mi, .int mmn_2, .ref mpo, .int mpd_7, .ref mpi, .int mpl_8, .int mcp_9, .ref mre, .ref mnn, .ref mwo, .ref mga, .ref mlo, .ref mro, .ref mle, .ref mra, .int mme, .ref mha, .int mch, .int mtm, .int mgo, .int mwa, .ref mba, .int mbl, .ref mon])), (mi, .inl (cI, 12, .inl mif_3)), (mpo, .inl (cI, 12, .inl mpof_10)), (mpi, .inl (cI, 26, .inl mpif_11))] H := hP
  have hD : va_D A [(mp, .inl (cI, 10, .inl mpf)), (m0, .inr (8, [.int 0, .int mst, .ref mp, .int mln, .ref mk, .int mts, .ref mti, .ref mtw, .ref mi, .int mmn_2, .ref mpo, .int mpd_7, .ref mpi, .int mpl_8, .int mcp_9, .ref mre, .ref mnn, .ref mwo, .ref mga, .ref mlo, .ref mro, .ref mle, .ref mra, .int mme, .ref mha, .int mch, .int mtm, .int mgo, .int mwa, .ref mba, .int mbl, .ref mon])), (mi, .inl (cI, 12, .inl mif_3)), (mpo, .inl (cI, 12, .inl mpof_10)), (mpi, .inl (cI, 26, .inl mpif_11))] := hD
  exact hret r5 (0, mmn_2, mif_3, mpd_7, mpl_8, mcp_9, mpof_10, mpif_11) H locs 13 ls rfl ⟨(show 0 ≤ mmn_2.toInt ∧ mmn_2.toInt ≤ 12 from by first | rfl | assumption | omega), (show mcp_9.toInt = 0 ∨ mcp_9.toInt = 1 from by first | rfl | assumption | omega), trivial⟩ (hP.sub (ws' := [(m0, .inr (8, [.int 0, .int mst, .ref mp, .int mln, .ref mk, .int mts, .ref mti, .ref mtw, .ref mi, .int mmn_2, .ref mpo, .int mpd_7, .ref mpi, .int mpl_8, .int mcp_9, .ref mre, .ref mnn, .ref mwo, .ref mga, .ref mlo, .ref mro, .ref mle, .ref mra, .int mme, .ref mha, .int mch, .int mtm, .int mgo, .int mwa, .ref mba, .int mbl, .ref mon])), (mp, .inl (cI, 10, .inl mpf)), (mi, .inl (cI, 12, .inl mif_3)), (mpo, .inl (cI, 12, .inl mpof_10)), (mpi, .inl (cI, 26, .inl mpif_11))]) [1, 0, 2, 3, 4] rfl) (hD.sub (ws' := [(m0, .inr (8, [.int 0, .int mst, .ref mp, .int mln, .ref mk, .int mts, .ref mti, .ref mtw, .ref mi, .int mmn_2, .ref mpo, .int mpd_7, .ref mpi, .int mpl_8, .int mcp_9, .ref mre, .ref mnn, .ref mwo, .ref mga, .ref mlo, .ref mro, .ref mle, .ref mra, .int mme, .ref mha, .int mch, .int mtm, .int mgo, .int mwa, .ref mba, .int mbl, .ref mon])), (mp, .inl (cI, 10, .inl mpf)), (mi, .inl (cI, 12, .inl mif_3)), (mpo, .inl (cI, 12, .inl mpof_10)), (mpi, .inl (cI, 26, .inl mpif_11))]) [1, 0, 2, 3, 4] (by decide) rfl) hS dX9_fault_13
set_option maxHeartbeats 4000000 in
set_option maxRecDepth 100000 in
theorem c_X9_fits (l : Launch) (dC : Nat → ClassId) (dI : Nat → Nat → Nat) (cI cJ : ClassId) (base bB bO : Nat) (m0 : Nat) (mth : Int32) (mst : Int32) (mp : Nat) (mln : Int32) (mk : Nat) (mts : Int32) (mti : Nat) (mtw : Nat) (mi : Nat) (mmn : Int32) (mpo : Nat) (mpd : Int32) (mpi : Nat) (mpl : Int32) (mcp : Int32) (mre : Nat) (mnn : Nat) (mwo : Nat) (mga : Nat) (mlo : Nat) (mro : Nat) (mle : Nat) (mra : Nat) (mme : Int32) (mha : Nat) (mch : Int32) (mtm : Int32) (mgo : Int32) (mwa : Int32) (mba : Nat) (mbl : Int32) (mon : Nat) (mpf : Nat → Int32) (mkf : Nat → Int32) (mif : Nat → Int32) (mpof : Nat → Int32) (mpif : Nat → Int32) (mref : Nat → Int32) (hq0 : 0 ≤ mln.toInt ∧ mln.toInt ≤ 10) : CtI l dC dI cI cJ base bB bO yX9_fits cX9_fits 2 .int 5 105 [.ref m0] [(m0, .inr (8, [.int mth, .int mst, .ref mp, .int mln, .ref mk, .int mts, .ref mti, .ref mtw, .ref mi, .int mmn, .ref mpo, .int mpd, .ref mpi, .int mpl, .int mcp, .ref mre, .ref mnn, .ref mwo, .ref mga, .ref mlo, .ref mro, .ref mle, .ref mra, .int mme, .ref mha, .int mch, .int mtm, .int mgo, .int mwa, .ref mba, .int mbl, .ref mon])), (mp, .inl (cI, 10, .inl mpf)), (mk, .inl (cI, 4, .inl mkf)), (mi, .inl (cI, 12, .inl mif)), (mpo, .inl (cI, 12, .inl mpof)), (mpi, .inl (cI, 26, .inl mpif)), (mre, .inl (cI, 12, .inl mref))] ((Int32) × (Int32) × (Nat → Int32) × (Int32) × (Int32) × (Int32) × (Nat → Int32) × (Nat → Int32) × (Nat → Int32)) (fun (res : Int32) (u : (Int32) × (Int32) × (Nat → Int32) × (Int32) × (Int32) × (Int32) × (Nat → Int32) × (Nat → Int32) × (Nat → Int32)) => (0 ≤ u.2.1.toInt ∧ u.2.1.toInt ≤ 12) ∧ (u.2.2.2.2.2.1.toInt = 0 ∨ u.2.2.2.2.2.1.toInt = 1) ∧ True) (fun (u : (Int32) × (Int32) × (Nat → Int32) × (Int32) × (Int32) × (Int32) × (Nat → Int32) × (Nat → Int32) × (Nat → Int32)) => [(m0, .inr (8, [.int u.1, .int mst, .ref mp, .int mln, .ref mk, .int mts, .ref mti, .ref mtw, .ref mi, .int u.2.1, .ref mpo, .int u.2.2.2.1, .ref mpi, .int u.2.2.2.2.1, .int u.2.2.2.2.2.1, .ref mre, .ref mnn, .ref mwo, .ref mga, .ref mlo, .ref mro, .ref mle, .ref mra, .int mme, .ref mha, .int mch, .int mtm, .int mgo, .int mwa, .ref mba, .int mbl, .ref mon])), (mp, .inl (cI, 10, .inl mpf)), (mk, .inl (cI, 4, .inl mkf)), (mi, .inl (cI, 12, .inl u.2.2.1)), (mpo, .inl (cI, 12, .inl u.2.2.2.2.2.2.1)), (mpi, .inl (cI, 26, .inl u.2.2.2.2.2.2.2.1)), (mre, .inl (cI, 12, .inl u.2.2.2.2.2.2.2.2))]) := by
  refine entI (by decide) (Nat.le_of_ble_eq_true rfl) ?_
  intro p e s m below meth c A Q ls hAt hret hP hD hS hl
  obtain ⟨hx, hb, hml, hown, hts, hA, hAb, hK, hE, hlocks, hin⟩ := hAt
  have hG : CG dC dI cI cJ base bB bO cX9_fits 2 RX9 p s m (List.toArray [.ref m0]) c A := ⟨hx, hb, hml, hown, hts, hA, hAb, hK, hE⟩
  have hl : lv_has ls 2 [(0, .ref m0)] := hl
  have c_m6 : (-6 : Int32).toInt = -6 := by decide
  have c_m5 : (-5 : Int32).toInt = -5 := by decide
  have c_m1 : (-1 : Int32).toInt = -1 := by decide
  have c_0 : (0 : Int32).toInt = 0 := by decide
  have c_1 : (1 : Int32).toInt = 1 := by decide
  obtain ⟨H, hHe⟩ : ∃ H : Heap, H = s.heap := ⟨_, rfl⟩
  obtain ⟨locs, hle⟩ : ∃ z : List Loc, z = [] := ⟨_, rfl⟩
  rw [← hHe] at hP
  have hS : va_S A s.heap H locs := by rw [hHe, hle]; exact hS
  suffices hgo : W p l e { frames := 5, cells := 0, slots := 0, locals := 105 } s m (List.toArray [.ref m0]) below meth c H locs 0 0 Q (F0 m 0 ls []) by rw [hHe, hle] at hgo; exact hgo
  refine lv_aload_n hx hb dX9_fits_0 rfl (lv_at hl 0 rfl) ?_
  refine lv_iconst (v := 0) hx hb dX9_fits_1 (by decide) ?_
  refine va_put (D := (dC, dI)) (ci := 8) (v := .int 0) (ty := .int) (C := RX9) (T := TX9) (N := 32) hx hb hts inG_X9 tyX9 tyX9_ok nmX9 hown hK hP hD hS 0 rfl rfl 0 (by decide) (hts _ fl_X9_69) (fun _ h9 => h9) rfl (by decide +kernel) rfl rfl (Nat.le_of_ble_eq_true rfl) dX9_fits_2 (fun H locs hP hD hS => ?_)
  have hP : va_P (dC, dI) vwCl [(m0, .inr (8, [.int 0, .int mst, .ref mp, .int mln, .ref mk, .int mts, .ref mti, .ref mtw, .ref mi, .int mmn, .ref mpo, .int mpd, .ref mpi, .int mpl, .int mcp, .ref mre, .ref mnn, .ref mwo, .ref mga, .ref mlo, .ref mro, .ref mle, .ref mra, .int mme, .ref mha, .int mch, .int mtm, .int mgo, .int mwa, .ref mba, .int mbl, .ref mon])), (mp, .inl (cI, 10, .inl mpf)), (mk, .inl (cI, 4, .inl mkf)), (mi, .inl (cI, 12, .inl mif)), (mpo, .inl (cI, 12, .inl mpof)), (mpi, .inl (cI, 26, .inl mpif)), (mre, .inl (cI, 12, .inl mref))] H := hP
  have hD : va_D A [(m0, .inr (8, [.int 0, .int mst, .ref mp, .int mln, .ref mk, .int mts, .ref mti, .ref mtw, .ref mi, .int mmn, .ref mpo, .int mpd, .ref mpi, .int mpl, .int mcp, .ref mre, .ref mnn, .ref mwo, .ref mga, .ref mlo, .ref mro, .ref mle, .ref mra, .int mme, .ref mha, .int mch, .int mtm, .int mgo, .int mwa, .ref mba, .int mbl, .ref mon])), (mp, .inl (cI, 10, .inl mpf)), (mk, .inl (cI, 4, .inl mkf)), (mi, .inl (cI, 12, .inl mif)), (mpo, .inl (cI, 12, .inl mpof)), (mpi, .inl (cI, 26, .inl mpif)), (mre, .inl (cI, 12, .inl mref))] := hD
  refine lv_aload_n hx hb dX9_fits_5 rfl (lv_at hl 0 rfl) ?_
  refine calV (rest := []) (wr := [(mk, .inl (cI, 4, .inl mkf)), (mpo, .inl (cI, 12, .inl mpof)), (mpi, .inl (cI, 26, .inl mpif)), (mre, .inl (cI, 12, .inl mref))]) hG (c_X9_takeProgram l dC dI cI cJ base bB bO m0 0 mst mp mln mk mts mti mtw mi mmn mpo mpd mpi mpl mcp mre mnn mwo mga mlo mro mle mra mme mha mch mtm mgo mwa mba mbl mon mpf mif (by first | assumption | omega)) ml_X9_139 im_X9_takeProgram se_X9_takeProgram ini_X9 cd_X9_takeProgram hd_X9_takeProgram ⟨(Nat.le_of_ble_eq_true rfl), (Nat.le_of_ble_eq_true rfl)⟩ (Nat.le_of_ble_eq_true rfl) (Nat.le_of_ble_eq_true rfl) hP hD hS [0, 1, 3] [2, 4, 5, 6] rfl rfl rfl rfl (by decide) 8 0 rfl rfl hl.1 rfl (Nat.le_of_ble_eq_true rfl) dX9_fits_6 (fun u H locs hw1 hP hD hS => ?_)
  obtain ⟨mmn_2, mif_3⟩ := u
  have hw1 : (mmn_2.toInt = mln.toInt) ∧ True := hw1
  obtain ⟨hp4, -⟩ := hw1
  have hP : va_P (dC, dI) vwCl [(mk, .inl (cI, 4, .inl mkf)), (mpo, .inl (cI, 12, .inl mpof)), (mpi, .inl (cI, 26, .inl mpif)), (mre, .inl (cI, 12, .inl mref)), (m0, .inr (8, [.int 0, .int mst, .ref mp, .int mln, .ref mk, .int mts, .ref mti, .ref mtw, .ref mi, .int mmn_2, .ref mpo, .int mpd, .ref mpi, .int mpl, .int mcp, .ref mre, .ref mnn, .ref mwo, .ref mga, .ref mlo, .ref mro, .ref mle, .ref mra, .int mme, .ref mha, .int mch, .int mtm, .int mgo, .int mwa, .ref mba, .int mbl, .ref mon])), (mp, .inl (cI, 10, .inl mpf)), (mi, .inl (cI, 12, .inl mif_3))] H := hP
  have hD : va_D A [(mk, .inl (cI, 4, .inl mkf)), (mpo, .inl (cI, 12, .inl mpof)), (mpi, .inl (cI, 26, .inl mpif)), (mre, .inl (cI, 12, .inl mref)), (m0, .inr (8, [.int 0, .int mst, .ref mp, .int mln, .ref mk, .int mts, .ref mti, .ref mtw, .ref mi, .int mmn_2, .ref mpo, .int mpd, .ref mpi, .int mpl, .int mcp, .ref mre, .ref mnn, .ref mwo, .ref mga, .ref mlo, .ref mro, .ref mle, .ref mra, .int mme, .ref mha, .int mch, .int mtm, .int mgo, .int mwa, .ref mba, .int mbl, .ref mon])), (mp, .inl (cI, 10, .inl mpf)), (mi, .inl (cI, 12, .inl mif_3))] := hD
  refine lv_aload_n hx hb dX9_fits_9 rfl (lv_at hl 0 rfl) ?_
  refine calI (rest := []) (wr := [(mk, .inl (cI, 4, .inl mkf)), (mre, .inl (cI, 12, .inl mref)), (mp, .inl (cI, 10, .inl mpf))]) hG (c_X9_read l dC dI cI cJ base bB bO m0 0 mst mp mln mk mts mti mtw mi mmn_2 mpo mpd mpi mpl mcp mre mnn mwo mga mlo mro mle mra mme mha mch mtm mgo mwa mba mbl mon mif_3 mpof mpif (by first | assumption | omega)) ml_X9_142 im_X9_read se_X9_read ini_X9 cd_X9_read hd_X9_read ⟨(Nat.le_of_ble_eq_true rfl), (Nat.le_of_ble_eq_true rfl)⟩ (Nat.le_of_ble_eq_true rfl) (Nat.le_of_ble_eq_true rfl) hP hD hS [4, 6, 1, 2] [0, 3, 5] rfl rfl rfl rfl (by decide) 8 4 rfl rfl hl.1 rfl (Nat.le_of_ble_eq_true rfl) dX9_fits_10 (fun r5 u H locs hw6 hP hD hS => ?_)
  obtain ⟨mpd_7, mpl_8, mcp_9, mpof_10, mpif_11⟩ := u
  have hw6 : (¬ r5.toInt = -1 ∨ (0 ≤ mpd_7.toInt ∧ mpd_7.toInt ≤ 12)) ∧ (¬ r5.toInt = -1 ∨ WFn mpof_10 mpd_7.toInt.toNat) ∧ (mcp_9.toInt = 0 ∨ mcp_9.toInt = 1) ∧ True := hw6
  obtain ⟨hp12, hp13, hp14, -⟩ := hw6
  have hP : va_P (dC, dI) vwCl [(mk, .inl (cI, 4, .inl mkf)), (mre, .inl (cI, 12, .inl mref)), (mp, .inl (cI, 10, .inl mpf)), (m0, .inr (8, [.int 0, .int mst, .ref mp, .int mln, .ref mk, .int mts, .ref mti, .ref mtw, .ref mi, .int mmn_2, .ref mpo, .int mpd_7, .ref mpi, .int mpl_8, .int mcp_9, .ref mre, .ref mnn, .ref mwo, .ref mga, .ref mlo, .ref mro, .ref mle, .ref mra, .int mme, .ref mha, .int mch, .int mtm, .int mgo, .int mwa, .ref mba, .int mbl, .ref mon])), (mi, .inl (cI, 12, .inl mif_3)), (mpo, .inl (cI, 12, .inl mpof_10)), (mpi, .inl (cI, 26, .inl mpif_11))] H := hP
  have hD : va_D A [(mk, .inl (cI, 4, .inl mkf)), (mre, .inl (cI, 12, .inl mref)), (mp, .inl (cI, 10, .inl mpf)), (m0, .inr (8, [.int 0, .int mst, .ref mp, .int mln, .ref mk, .int mts, .ref mti, .ref mtw, .ref mi, .int mmn_2, .ref mpo, .int mpd_7, .ref mpi, .int mpl_8, .int mcp_9, .ref mre, .ref mnn, .ref mwo, .ref mga, .ref mlo, .ref mro, .ref mle, .ref mra, .int mme, .ref mha, .int mch, .int mtm, .int mgo, .int mwa, .ref mba, .int mbl, .ref mon])), (mi, .inl (cI, 12, .inl mif_3)), (mpo, .inl (cI, 12, .inl mpof_10)), (mpi, .inl (cI, 26, .inl mpif_11))] := hD
  have hr0 := hp12
  have hr1 := hp13
  refine lv_iconst (v := (-1)) hx hb dX9_fits_13 (by decide) ?_
  refine lv_icmp_eq (tgt := 20) hx hb dX9_fits_14 (by decide) (fun c15 => ?_) (fun c15 => ?_)
  · have c15' := I_eq c15
    refine lv_aload_n hx hb dX9_fits_20 rfl (lv_at hl 0 rfl) ?_
    refine calI (rest := []) (wr := [(mp, .inl (cI, 10, .inl mpf)), (mi, .inl (cI, 12, .inl mif_3)), (mpi, .inl (cI, 26, .inl mpif_11))]) hG (c_X9_kindOf l dC dI cI cJ base bB bO m0 0 mst mp mln mk mts mti mtw mi mmn_2 mpo mpd_7 mpi mpl_8 mcp_9 mre mnn mwo mga mlo mro mle mra mme mha mch mtm mgo mwa mba mbl mon mkf mpof_10 mref (by rcases hr1 with h | h; exact absurd (by omega) h; exact h) (by first | assumption | omega)) ml_X9_145 im_X9_kindOf se_X9_kindOf ini_X9 cd_X9_kindOf hd_X9_kindOf ⟨(Nat.le_of_ble_eq_true rfl), (Nat.le_of_ble_eq_true rfl)⟩ (Nat.le_of_ble_eq_true rfl) (Nat.le_of_ble_eq_true rfl) hP hD hS [3, 0, 5, 1] [2, 4, 6] rfl rfl rfl rfl (by decide) 8 3 rfl rfl hl.1 rfl (Nat.le_of_ble_eq_true rfl) dX9_fits_21 (fun r16 u H locs hw17 hP hD hS => ?_)
    obtain ⟨mref_18, rfl⟩ : ∃ z, z = u := ⟨_, rfl⟩
    have hP : va_P (dC, dI) vwCl [(mp, .inl (cI, 10, .inl mpf)), (mi, .inl (cI, 12, .inl mif_3)), (mpi, .inl (cI, 26, .inl mpif_11)), (m0, .inr (8, [.int 0, .int mst, .ref mp, .int mln, .ref mk, .int mts, .ref mti, .ref mtw, .ref mi, .int mmn_2, .ref mpo, .int mpd_7, .ref mpi, .int mpl_8, .int mcp_9, .ref mre, .ref mnn, .ref mwo, .ref mga, .ref mlo, .ref mro, .ref mle, .ref mra, .int mme, .ref mha, .int mch, .int mtm, .int mgo, .int mwa, .ref mba, .int mbl, .ref mon])), (mk, .inl (cI, 4, .inl mkf)), (mpo, .inl (cI, 12, .inl mpof_10)), (mre, .inl (cI, 12, .inl mref_18))] H := hP
    have hD : va_D A [(mp, .inl (cI, 10, .inl mpf)), (mi, .inl (cI, 12, .inl mif_3)), (mpi, .inl (cI, 26, .inl mpif_11)), (m0, .inr (8, [.int 0, .int mst, .ref mp, .int mln, .ref mk, .int mts, .ref mti, .ref mtw, .ref mi, .int mmn_2, .ref mpo, .int mpd_7, .ref mpi, .int mpl_8, .int mcp_9, .ref mre, .ref mnn, .ref mwo, .ref mga, .ref mlo, .ref mro, .ref mle, .ref mra, .int mme, .ref mha, .int mch, .int mtm, .int mgo, .int mwa, .ref mba, .int mbl, .ref mon])), (mk, .inl (cI, 4, .inl mkf)), (mpo, .inl (cI, 12, .inl mpof_10)), (mre, .inl (cI, 12, .inl mref_18))] := hD
    refine lv_istore_n (lv' := [(1, .int r16), (0, .ref m0)]) hx hb dX9_fits_24 rfl hl (by decide) rfl (fun ls hl => ?_)
    refine lv_iload_n hx hb dX9_fits_25 rfl (lv_at hl 0 rfl) ?_
    refine lv_if_ge (tgt := 34) hx hb dX9_fits_26 (by decide) (fun c19 => ?_) (fun c19 => ?_)
    · have c19' := I_le c19
      refine lv_iload_n hx hb dX9_fits_34 rfl (lv_at hl 0 rfl) ?_
      exact hret r16 (0, mmn_2, mif_3, mpd_7, mpl_8, mcp_9, mpof_10, mpif_11, mref_18) H locs 35 ls rfl ⟨(show 0 ≤ mmn_2.toInt ∧ mmn_2.toInt ≤ 12 from by first | rfl | assumption | omega), (show mcp_9.toInt = 0 ∨ mcp_9.toInt = 1 from by first | rfl | assumption | omega), trivial⟩ (hP.sub (ws' := [(m0, .inr (8, [.int 0, .int mst, .ref mp, .int mln, .ref mk, .int mts, .ref mti, .ref mtw, .ref mi, .int mmn_2, .ref mpo, .int mpd_7, .ref mpi, .int mpl_8, .int mcp_9, .ref mre, .ref mnn, .ref mwo, .ref mga, .ref mlo, .ref mro, .ref mle, .ref mra, .int mme, .ref mha, .int mch, .int mtm, .int mgo, .int mwa, .ref mba, .int mbl, .ref mon])), (mp, .inl (cI, 10, .inl mpf)), (mk, .inl (cI, 4, .inl mkf)), (mi, .inl (cI, 12, .inl mif_3)), (mpo, .inl (cI, 12, .inl mpof_10)), (mpi, .inl (cI, 26, .inl mpif_11)), (mre, .inl (cI, 12, .inl mref_18))]) [3, 0, 4, 1, 5, 2, 6] rfl) (hD.sub (ws' := [(m0, .inr (8, [.int 0, .int mst, .ref mp, .int mln, .ref mk, .int mts, .ref mti, .ref mtw, .ref mi, .int mmn_2, .ref mpo, .int mpd_7, .ref mpi, .int mpl_8, .int mcp_9, .ref mre, .ref mnn, .ref mwo, .ref mga, .ref mlo, .ref mro, .ref mle, .ref mra, .int mme, .ref mha, .int mch, .int mtm, .int mgo, .int mwa, .ref mba, .int mbl, .ref mon])), (mp, .inl (cI, 10, .inl mpf)), (mk, .inl (cI, 4, .inl mkf)), (mi, .inl (cI, 12, .inl mif_3)), (mpo, .inl (cI, 12, .inl mpof_10)), (mpi, .inl (cI, 26, .inl mpif_11)), (mre, .inl (cI, 12, .inl mref_18))]) [3, 0, 4, 1, 5, 2, 6] (by decide) rfl) hS dX9_fits_35
    · have c19' := I_nle c19
      refine lv_bipush (v := (-6)) hx hb dX9_fits_29 (by decide) ?_
      refine lv_goto (tgt := 35) hx hb dX9_fits_31 (by decide) ?_
      exact hret (-6) (0, mmn_2, mif_3, mpd_7, mpl_8, mcp_9, mpof_10, mpif_11, mref_18) H locs 35 ls rfl ⟨(show 0 ≤ mmn_2.toInt ∧ mmn_2.toInt ≤ 12 from by first | rfl | assumption | omega), (show mcp_9.toInt = 0 ∨ mcp_9.toInt = 1 from by first | rfl | assumption | omega), trivial⟩ (hP.sub (ws' := [(m0, .inr (8, [.int 0, .int mst, .ref mp, .int mln, .ref mk, .int mts, .ref mti, .ref mtw, .ref mi, .int mmn_2, .ref mpo, .int mpd_7, .ref mpi, .int mpl_8, .int mcp_9, .ref mre, .ref mnn, .ref mwo, .ref mga, .ref mlo, .ref mro, .ref mle, .ref mra, .int mme, .ref mha, .int mch, .int mtm, .int mgo, .int mwa, .ref mba, .int mbl, .ref mon])), (mp, .inl (cI, 10, .inl mpf)), (mk, .inl (cI, 4, .inl mkf)), (mi, .inl (cI, 12, .inl mif_3)), (mpo, .inl (cI, 12, .inl mpof_10)), (mpi, .inl (cI, 26, .inl mpif_11)), (mre, .inl (cI, 12, .inl mref_18))]) [3, 0, 4, 1, 5, 2, 6] rfl) (hD.sub (ws' := [(m0, .inr (8, [.int 0, .int mst, .ref mp, .int mln, .ref mk, .int mts, .ref mti, .ref mtw, .ref mi, .int mmn_2, .ref mpo, .int mpd_7, .ref mpi, .int mpl_8, .int mcp_9, .ref mre, .ref mnn, .ref mwo, .ref mga, .ref mlo, .ref mro, .ref mle, .ref mra, .int mme, .ref mha, .int mch, .int mtm, .int mgo, .int mwa, .ref mba, .int mbl, .ref mon])), (mp, .inl (cI, 10, .inl mpf)), (mk, .inl (cI, 4, .inl mkf)), (mi, .inl (cI, 12, .inl mif_3)), (mpo, .inl (cI, 12, .inl mpof_10)), (mpi, .inl (cI, 26, .inl mpif_11)), (mre, .inl (cI, 12, .inl mref_18))]) [3, 0, 4, 1, 5, 2, 6] (by decide) rfl) hS dX9_fits_35
  · have c15' := I_ne c15
    refine lv_bipush (v := (-5)) hx hb dX9_fits_17 (by decide) ?_
    exact hret (-5) (0, mmn_2, mif_3, mpd_7, mpl_8, mcp_9, mpof_10, mpif_11, mref) H locs 19 ls rfl ⟨(show 0 ≤ mmn_2.toInt ∧ mmn_2.toInt ≤ 12 from by first | rfl | assumption | omega), (show mcp_9.toInt = 0 ∨ mcp_9.toInt = 1 from by first | rfl | assumption | omega), trivial⟩ (hP.sub (ws' := [(m0, .inr (8, [.int 0, .int mst, .ref mp, .int mln, .ref mk, .int mts, .ref mti, .ref mtw, .ref mi, .int mmn_2, .ref mpo, .int mpd_7, .ref mpi, .int mpl_8, .int mcp_9, .ref mre, .ref mnn, .ref mwo, .ref mga, .ref mlo, .ref mro, .ref mle, .ref mra, .int mme, .ref mha, .int mch, .int mtm, .int mgo, .int mwa, .ref mba, .int mbl, .ref mon])), (mp, .inl (cI, 10, .inl mpf)), (mk, .inl (cI, 4, .inl mkf)), (mi, .inl (cI, 12, .inl mif_3)), (mpo, .inl (cI, 12, .inl mpof_10)), (mpi, .inl (cI, 26, .inl mpif_11)), (mre, .inl (cI, 12, .inl mref))]) [3, 2, 0, 4, 5, 6, 1] rfl) (hD.sub (ws' := [(m0, .inr (8, [.int 0, .int mst, .ref mp, .int mln, .ref mk, .int mts, .ref mti, .ref mtw, .ref mi, .int mmn_2, .ref mpo, .int mpd_7, .ref mpi, .int mpl_8, .int mcp_9, .ref mre, .ref mnn, .ref mwo, .ref mga, .ref mlo, .ref mro, .ref mle, .ref mra, .int mme, .ref mha, .int mch, .int mtm, .int mgo, .int mwa, .ref mba, .int mbl, .ref mon])), (mp, .inl (cI, 10, .inl mpf)), (mk, .inl (cI, 4, .inl mkf)), (mi, .inl (cI, 12, .inl mif_3)), (mpo, .inl (cI, 12, .inl mpof_10)), (mpi, .inl (cI, 26, .inl mpif_11)), (mre, .inl (cI, 12, .inl mref))]) [3, 2, 0, 4, 5, 6, 1] (by decide) rfl) hS dX9_fits_19
set_option maxHeartbeats 4000000 in
set_option maxRecDepth 100000 in
theorem c_X9_value (l : Launch) (dC : Nat → ClassId) (dI : Nat → Nat → Nat) (cI cJ : ClassId) (base bB bO : Nat) (m0 : Nat) (mth : Int32) (mst : Int32) (mp : Nat) (mln : Int32) (mk : Nat) (mts : Int32) (mti : Nat) (mtw : Nat) (mi : Nat) (mmn : Int32) (mpo : Nat) (mpd : Int32) (mpi : Nat) (mpl : Int32) (mcp : Int32) (mre : Nat) (mnn : Nat) (mwo : Nat) (mga : Nat) (mlo : Nat) (mro : Nat) (mle : Nat) (mra : Nat) (mme : Int32) (mha : Nat) (mch : Int32) (mtm : Int32) (mgo : Int32) (mwa : Int32) (mba : Nat) (mbl : Int32) (mon : Nat) (mpf : Nat → Int32) (mkf : Nat → Int32) (mif : Nat → Int32) (mpof : Nat → Int32) (mpif : Nat → Int32) (mref : Nat → Int32) (mnnf : Nat → Int32) (mwof : Nat → Int64) (i1 : Int32) (i2 : Int32) (i3 : Int32) (i4 : Int32) (hq0 : 0 ≤ mln.toInt ∧ mln.toInt ≤ 10) : CtI l dC dI cI cJ base bB bO yX9_value cX9_value 5 .int 5 105 [.ref m0, .int i1, .int i2, .int i3, .int i4] [(m0, .inr (8, [.int mth, .int mst, .ref mp, .int mln, .ref mk, .int mts, .ref mti, .ref mtw, .ref mi, .int mmn, .ref mpo, .int mpd, .ref mpi, .int mpl, .int mcp, .ref mre, .ref mnn, .ref mwo, .ref mga, .ref mlo, .ref mro, .ref mle, .ref mra, .int mme, .ref mha, .int mch, .int mtm, .int mgo, .int mwa, .ref mba, .int mbl, .ref mon])), (mp, .inl (cI, 10, .inl mpf)), (mk, .inl (cI, 4, .inl mkf)), (mi, .inl (cI, 12, .inl mif)), (mpo, .inl (cI, 12, .inl mpof)), (mpi, .inl (cI, 26, .inl mpif)), (mre, .inl (cI, 12, .inl mref)), (mnn, .inl (cI, 4, .inl mnnf)), (mwo, .inl (cJ, 12, .inr (.inl mwof)))] ((Int32) × (Int32) × (Nat → Int32) × (Int32) × (Int32) × (Int32) × (Nat → Int32) × (Nat → Int32) × (Nat → Int32) × (Nat → Int32) × (Nat → Int64)) (fun (res : Int32) (u : (Int32) × (Int32) × (Nat → Int32) × (Int32) × (Int32) × (Int32) × (Nat → Int32) × (Nat → Int32) × (Nat → Int32) × (Nat → Int32) × (Nat → Int64)) => (0 ≤ u.2.1.toInt ∧ u.2.1.toInt ≤ 12) ∧ (u.2.2.2.2.2.1.toInt = 0 ∨ u.2.2.2.2.2.1.toInt = 1) ∧ True) (fun (u : (Int32) × (Int32) × (Nat → Int32) × (Int32) × (Int32) × (Int32) × (Nat → Int32) × (Nat → Int32) × (Nat → Int32) × (Nat → Int32) × (Nat → Int64)) => [(m0, .inr (8, [.int u.1, .int mst, .ref mp, .int mln, .ref mk, .int mts, .ref mti, .ref mtw, .ref mi, .int u.2.1, .ref mpo, .int u.2.2.2.1, .ref mpi, .int u.2.2.2.2.1, .int u.2.2.2.2.2.1, .ref mre, .ref mnn, .ref mwo, .ref mga, .ref mlo, .ref mro, .ref mle, .ref mra, .int mme, .ref mha, .int mch, .int mtm, .int mgo, .int mwa, .ref mba, .int mbl, .ref mon])), (mp, .inl (cI, 10, .inl mpf)), (mk, .inl (cI, 4, .inl mkf)), (mi, .inl (cI, 12, .inl u.2.2.1)), (mpo, .inl (cI, 12, .inl u.2.2.2.2.2.2.1)), (mpi, .inl (cI, 26, .inl u.2.2.2.2.2.2.2.1)), (mre, .inl (cI, 12, .inl u.2.2.2.2.2.2.2.2.1)), (mnn, .inl (cI, 4, .inl u.2.2.2.2.2.2.2.2.2.1)), (mwo, .inl (cJ, 12, .inr (.inl u.2.2.2.2.2.2.2.2.2.2)))]) := by
  refine entI (by decide) (Nat.le_of_ble_eq_true rfl) ?_
  intro p e s m below meth c A Q ls hAt hret hP hD hS hl
  obtain ⟨hx, hb, hml, hown, hts, hA, hAb, hK, hE, hlocks, hin⟩ := hAt
  have hG : CG dC dI cI cJ base bB bO cX9_value 5 RX9 p s m (List.toArray [.ref m0, .int i1, .int i2, .int i3, .int i4]) c A := ⟨hx, hb, hml, hown, hts, hA, hAb, hK, hE⟩
  have hl : lv_has ls 5 [(0, .ref m0), (1, .int i1), (2, .int i2), (3, .int i3), (4, .int i4)] := hl
  have c_m2000000 : (-2000000 : Int32).toInt = -2000000 := by decide
  have c_m1 : (-1 : Int32).toInt = -1 := by decide
  have c_0 : (0 : Int32).toInt = 0 := by decide
  have c_1 : (1 : Int32).toInt = 1 := by decide
  have c_2 : (2 : Int32).toInt = 2 := by decide
  have c_3 : (3 : Int32).toInt = 3 := by decide
  obtain ⟨H, hHe⟩ : ∃ H : Heap, H = s.heap := ⟨_, rfl⟩
  obtain ⟨locs, hle⟩ : ∃ z : List Loc, z = [] := ⟨_, rfl⟩
  rw [← hHe] at hP
  have hS : va_S A s.heap H locs := by rw [hHe, hle]; exact hS
  suffices hgo : W p l e { frames := 5, cells := 0, slots := 0, locals := 105 } s m (List.toArray [.ref m0, .int i1, .int i2, .int i3, .int i4]) below meth c H locs 0 0 Q (F0 m 0 ls []) by rw [hHe, hle] at hgo; exact hgo
  refine lv_aload_n hx hb dX9_value_0 rfl (lv_at hl 0 rfl) ?_
  refine lv_iconst (v := 0) hx hb dX9_value_1 (by decide) ?_
  refine va_put (D := (dC, dI)) (ci := 8) (v := .int 0) (ty := .int) (C := RX9) (T := TX9) (N := 32) hx hb hts inG_X9 tyX9 tyX9_ok nmX9 hown hK hP hD hS 0 rfl rfl 0 (by decide) (hts _ fl_X9_69) (fun _ h9 => h9) rfl (by decide +kernel) rfl rfl (Nat.le_of_ble_eq_true rfl) dX9_value_2 (fun H locs hP hD hS => ?_)
  have hP : va_P (dC, dI) vwCl [(m0, .inr (8, [.int 0, .int mst, .ref mp, .int mln, .ref mk, .int mts, .ref mti, .ref mtw, .ref mi, .int mmn, .ref mpo, .int mpd, .ref mpi, .int mpl, .int mcp, .ref mre, .ref mnn, .ref mwo, .ref mga, .ref mlo, .ref mro, .ref mle, .ref mra, .int mme, .ref mha, .int mch, .int mtm, .int mgo, .int mwa, .ref mba, .int mbl, .ref mon])), (mp, .inl (cI, 10, .inl mpf)), (mk, .inl (cI, 4, .inl mkf)), (mi, .inl (cI, 12, .inl mif)), (mpo, .inl (cI, 12, .inl mpof)), (mpi, .inl (cI, 26, .inl mpif)), (mre, .inl (cI, 12, .inl mref)), (mnn, .inl (cI, 4, .inl mnnf)), (mwo, .inl (cJ, 12, .inr (.inl mwof)))] H := hP
  have hD : va_D A [(m0, .inr (8, [.int 0, .int mst, .ref mp, .int mln, .ref mk, .int mts, .ref mti, .ref mtw, .ref mi, .int mmn, .ref mpo, .int mpd, .ref mpi, .int mpl, .int mcp, .ref mre, .ref mnn, .ref mwo, .ref mga, .ref mlo, .ref mro, .ref mle, .ref mra, .int mme, .ref mha, .int mch, .int mtm, .int mgo, .int mwa, .ref mba, .int mbl, .ref mon])), (mp, .inl (cI, 10, .inl mpf)), (mk, .inl (cI, 4, .inl mkf)), (mi, .inl (cI, 12, .inl mif)), (mpo, .inl (cI, 12, .inl mpof)), (mpi, .inl (cI, 26, .inl mpif)), (mre, .inl (cI, 12, .inl mref)), (mnn, .inl (cI, 4, .inl mnnf)), (mwo, .inl (cJ, 12, .inr (.inl mwof)))] := hD
  refine lv_aload_n hx hb dX9_value_5 rfl (lv_at hl 0 rfl) ?_
  refine calV (rest := []) (wr := [(mk, .inl (cI, 4, .inl mkf)), (mpo, .inl (cI, 12, .inl mpof)), (mpi, .inl (cI, 26, .inl mpif)), (mre, .inl (cI, 12, .inl mref)), (mnn, .inl (cI, 4, .inl mnnf)), (mwo, .inl (cJ, 12, .inr (.inl mwof)))]) hG (c_X9_takeProgram l dC dI cI cJ base bB bO m0 0 mst mp mln mk mts mti mtw mi mmn mpo mpd mpi mpl mcp mre mnn mwo mga mlo mro mle mra mme mha mch mtm mgo mwa mba mbl mon mpf mif (by first | assumption | omega)) ml_X9_139 im_X9_takeProgram se_X9_takeProgram ini_X9 cd_X9_takeProgram hd_X9_takeProgram ⟨(Nat.le_of_ble_eq_true rfl), (Nat.le_of_ble_eq_true rfl)⟩ (Nat.le_of_ble_eq_true rfl) (Nat.le_of_ble_eq_true rfl) hP hD hS [0, 1, 3] [2, 4, 5, 6, 7, 8] rfl rfl rfl rfl (by decide) 8 0 rfl rfl hl.1 rfl (Nat.le_of_ble_eq_true rfl) dX9_value_6 (fun u H locs hw1 hP hD hS => ?_)
  obtain ⟨mmn_2, mif_3⟩ := u
  have hw1 : (mmn_2.toInt = mln.toInt) ∧ True := hw1
  obtain ⟨hp4, -⟩ := hw1
  have hP : va_P (dC, dI) vwCl [(mk, .inl (cI, 4, .inl mkf)), (mpo, .inl (cI, 12, .inl mpof)), (mpi, .inl (cI, 26, .inl mpif)), (mre, .inl (cI, 12, .inl mref)), (mnn, .inl (cI, 4, .inl mnnf)), (mwo, .inl (cJ, 12, .inr (.inl mwof))), (m0, .inr (8, [.int 0, .int mst, .ref mp, .int mln, .ref mk, .int mts, .ref mti, .ref mtw, .ref mi, .int mmn_2, .ref mpo, .int mpd, .ref mpi, .int mpl, .int mcp, .ref mre, .ref mnn, .ref mwo, .ref mga, .ref mlo, .ref mro, .ref mle, .ref mra, .int mme, .ref mha, .int mch, .int mtm, .int mgo, .int mwa, .ref mba, .int mbl, .ref mon])), (mp, .inl (cI, 10, .inl mpf)), (mi, .inl (cI, 12, .inl mif_3))] H := hP
  have hD : va_D A [(mk, .inl (cI, 4, .inl mkf)), (mpo, .inl (cI, 12, .inl mpof)), (mpi, .inl (cI, 26, .inl mpif)), (mre, .inl (cI, 12, .inl mref)), (mnn, .inl (cI, 4, .inl mnnf)), (mwo, .inl (cJ, 12, .inr (.inl mwof))), (m0, .inr (8, [.int 0, .int mst, .ref mp, .int mln, .ref mk, .int mts, .ref mti, .ref mtw, .ref mi, .int mmn_2, .ref mpo, .int mpd, .ref mpi, .int mpl, .int mcp, .ref mre, .ref mnn, .ref mwo, .ref mga, .ref mlo, .ref mro, .ref mle, .ref mra, .int mme, .ref mha, .int mch, .int mtm, .int mgo, .int mwa, .ref mba, .int mbl, .ref mon])), (mp, .inl (cI, 10, .inl mpf)), (mi, .inl (cI, 12, .inl mif_3))] := hD
  refine lv_aload_n hx hb dX9_value_9 rfl (lv_at hl 0 rfl) ?_
  refine calI (rest := []) (wr := [(mk, .inl (cI, 4, .inl mkf)), (mre, .inl (cI, 12, .inl mref)), (mnn, .inl (cI, 4, .inl mnnf)), (mwo, .inl (cJ, 12, .inr (.inl mwof))), (mp, .inl (cI, 10, .inl mpf))]) hG (c_X9_read l dC dI cI cJ base bB bO m0 0 mst mp mln mk mts mti mtw mi mmn_2 mpo mpd mpi mpl mcp mre mnn mwo mga mlo mro mle mra mme mha mch mtm mgo mwa mba mbl mon mif_3 mpof mpif (by first | assumption | omega)) ml_X9_142 im_X9_read se_X9_read ini_X9 cd_X9_read hd_X9_read ⟨(Nat.le_of_ble_eq_true rfl), (Nat.le_of_ble_eq_true rfl)⟩ (Nat.le_of_ble_eq_true rfl) (Nat.le_of_ble_eq_true rfl) hP hD hS [6, 8, 1, 2] [0, 3, 4, 5, 7] rfl rfl rfl rfl (by decide) 8 6 rfl rfl hl.1 rfl (Nat.le_of_ble_eq_true rfl) dX9_value_10 (fun r5 u H locs hw6 hP hD hS => ?_)
  obtain ⟨mpd_7, mpl_8, mcp_9, mpof_10, mpif_11⟩ := u
  have hw6 : (¬ r5.toInt = -1 ∨ (0 ≤ mpd_7.toInt ∧ mpd_7.toInt ≤ 12)) ∧ (¬ r5.toInt = -1 ∨ WFn mpof_10 mpd_7.toInt.toNat) ∧ (mcp_9.toInt = 0 ∨ mcp_9.toInt = 1) ∧ True := hw6
  obtain ⟨hp12, hp13, hp14, -⟩ := hw6
  have hP : va_P (dC, dI) vwCl [(mk, .inl (cI, 4, .inl mkf)), (mre, .inl (cI, 12, .inl mref)), (mnn, .inl (cI, 4, .inl mnnf)), (mwo, .inl (cJ, 12, .inr (.inl mwof))), (mp, .inl (cI, 10, .inl mpf)), (m0, .inr (8, [.int 0, .int mst, .ref mp, .int mln, .ref mk, .int mts, .ref mti, .ref mtw, .ref mi, .int mmn_2, .ref mpo, .int mpd_7, .ref mpi, .int mpl_8, .int mcp_9, .ref mre, .ref mnn, .ref mwo, .ref mga, .ref mlo, .ref mro, .ref mle, .ref mra, .int mme, .ref mha, .int mch, .int mtm, .int mgo, .int mwa, .ref mba, .int mbl, .ref mon])), (mi, .inl (cI, 12, .inl mif_3)), (mpo, .inl (cI, 12, .inl mpof_10)), (mpi, .inl (cI, 26, .inl mpif_11))] H := hP
  have hD : va_D A [(mk, .inl (cI, 4, .inl mkf)), (mre, .inl (cI, 12, .inl mref)), (mnn, .inl (cI, 4, .inl mnnf)), (mwo, .inl (cJ, 12, .inr (.inl mwof))), (mp, .inl (cI, 10, .inl mpf)), (m0, .inr (8, [.int 0, .int mst, .ref mp, .int mln, .ref mk, .int mts, .ref mti, .ref mtw, .ref mi, .int mmn_2, .ref mpo, .int mpd_7, .ref mpi, .int mpl_8, .int mcp_9, .ref mre, .ref mnn, .ref mwo, .ref mga, .ref mlo, .ref mro, .ref mle, .ref mra, .int mme, .ref mha, .int mch, .int mtm, .int mgo, .int mwa, .ref mba, .int mbl, .ref mon])), (mi, .inl (cI, 12, .inl mif_3)), (mpo, .inl (cI, 12, .inl mpof_10)), (mpi, .inl (cI, 26, .inl mpif_11))] := hD
  have hr0 := hp12
  have hr1 := hp13
  refine lv_iconst (v := (-1)) hx hb dX9_value_13 (by decide) ?_
  refine lv_icmp_ne (tgt := 24) hx hb dX9_value_14 (by decide) (fun c15 => ?_) (fun c15 => ?_)
  · have c15' := I_ne c15
    refine lv_ldc (v := (-2000000)) hx hb hown (hts _ k_X9_138) dX9_value_24 ?_
    exact hret (-2000000) (0, mmn_2, mif_3, mpd_7, mpl_8, mcp_9, mpof_10, mpif_11, mref, mnnf, mwof) H locs 26 ls rfl ⟨(show 0 ≤ mmn_2.toInt ∧ mmn_2.toInt ≤ 12 from by first | rfl | assumption | omega), (show mcp_9.toInt = 0 ∨ mcp_9.toInt = 1 from by first | rfl | assumption | omega), trivial⟩ (hP.sub (ws' := [(m0, .inr (8, [.int 0, .int mst, .ref mp, .int mln, .ref mk, .int mts, .ref mti, .ref mtw, .ref mi, .int mmn_2, .ref mpo, .int mpd_7, .ref mpi, .int mpl_8, .int mcp_9, .ref mre, .ref mnn, .ref mwo, .ref mga, .ref mlo, .ref mro, .ref mle, .ref mra, .int mme, .ref mha, .int mch, .int mtm, .int mgo, .int mwa, .ref mba, .int mbl, .ref mon])), (mp, .inl (cI, 10, .inl mpf)), (mk, .inl (cI, 4, .inl mkf)), (mi, .inl (cI, 12, .inl mif_3)), (mpo, .inl (cI, 12, .inl mpof_10)), (mpi, .inl (cI, 26, .inl mpif_11)), (mre, .inl (cI, 12, .inl mref)), (mnn, .inl (cI, 4, .inl mnnf)), (mwo, .inl (cJ, 12, .inr (.inl mwof)))]) [5, 4, 0, 6, 7, 8, 1, 2, 3] rfl) (hD.sub (ws' := [(m0, .inr (8, [.int 0, .int mst, .ref mp, .int mln, .ref mk, .int mts, .ref mti, .ref mtw, .ref mi, .int mmn_2, .ref mpo, .int mpd_7, .ref mpi, .int mpl_8, .int mcp_9, .ref mre, .ref mnn, .ref mwo, .ref mga, .ref mlo, .ref mro, .ref mle, .ref mra, .int mme, .ref mha, .int mch, .int mtm, .int mgo, .int mwa, .ref mba, .int mbl, .ref mon])), (mp, .inl (cI, 10, .inl mpf)), (mk, .inl (cI, 4, .inl mkf)), (mi, .inl (cI, 12, .inl mif_3)), (mpo, .inl (cI, 12, .inl mpof_10)), (mpi, .inl (cI, 26, .inl mpif_11)), (mre, .inl (cI, 12, .inl mref)), (mnn, .inl (cI, 4, .inl mnnf)), (mwo, .inl (cJ, 12, .inr (.inl mwof)))]) [5, 4, 0, 6, 7, 8, 1, 2, 3] (by decide) rfl) hS dX9_value_26
  · have c15' := I_eq c15
    refine lv_aload_n hx hb dX9_value_17 rfl (lv_at hl 0 rfl) ?_
    refine calI (rest := []) (wr := [(mnn, .inl (cI, 4, .inl mnnf)), (mwo, .inl (cJ, 12, .inr (.inl mwof))), (mp, .inl (cI, 10, .inl mpf)), (mi, .inl (cI, 12, .inl mif_3)), (mpi, .inl (cI, 26, .inl mpif_11))]) hG (c_X9_kindOf l dC dI cI cJ base bB bO m0 0 mst mp mln mk mts mti mtw mi mmn_2 mpo mpd_7 mpi mpl_8 mcp_9 mre mnn mwo mga mlo mro mle mra mme mha mch mtm mgo mwa mba mbl mon mkf mpof_10 mref (by rcases hr1 with h | h; exact absurd (by omega) h; exact h) (by first | assumption | omega)) ml_X9_145 im_X9_kindOf se_X9_kindOf ini_X9 cd_X9_kindOf hd_X9_kindOf ⟨(Nat.le_of_ble_eq_true rfl), (Nat.le_of_ble_eq_true rfl)⟩ (Nat.le_of_ble_eq_true rfl) (Nat.le_of_ble_eq_true rfl) hP hD hS [5, 0, 7, 1] [2, 3, 4, 6, 8] rfl rfl rfl rfl (by decide) 8 5 rfl rfl hl.1 rfl (Nat.le_of_ble_eq_true rfl) dX9_value_18 (fun r16 u H locs hw17 hP hD hS => ?_)
    obtain ⟨mref_18, rfl⟩ : ∃ z, z = u := ⟨_, rfl⟩
    have hP : va_P (dC, dI) vwCl [(mnn, .inl (cI, 4, .inl mnnf)), (mwo, .inl (cJ, 12, .inr (.inl mwof))), (mp, .inl (cI, 10, .inl mpf)), (mi, .inl (cI, 12, .inl mif_3)), (mpi, .inl (cI, 26, .inl mpif_11)), (m0, .inr (8, [.int 0, .int mst, .ref mp, .int mln, .ref mk, .int mts, .ref mti, .ref mtw, .ref mi, .int mmn_2, .ref mpo, .int mpd_7, .ref mpi, .int mpl_8, .int mcp_9, .ref mre, .ref mnn, .ref mwo, .ref mga, .ref mlo, .ref mro, .ref mle, .ref mra, .int mme, .ref mha, .int mch, .int mtm, .int mgo, .int mwa, .ref mba, .int mbl, .ref mon])), (mk, .inl (cI, 4, .inl mkf)), (mpo, .inl (cI, 12, .inl mpof_10)), (mre, .inl (cI, 12, .inl mref_18))] H := hP
    have hD : va_D A [(mnn, .inl (cI, 4, .inl mnnf)), (mwo, .inl (cJ, 12, .inr (.inl mwof))), (mp, .inl (cI, 10, .inl mpf)), (mi, .inl (cI, 12, .inl mif_3)), (mpi, .inl (cI, 26, .inl mpif_11)), (m0, .inr (8, [.int 0, .int mst, .ref mp, .int mln, .ref mk, .int mts, .ref mti, .ref mtw, .ref mi, .int mmn_2, .ref mpo, .int mpd_7, .ref mpi, .int mpl_8, .int mcp_9, .ref mre, .ref mnn, .ref mwo, .ref mga, .ref mlo, .ref mro, .ref mle, .ref mra, .int mme, .ref mha, .int mch, .int mtm, .int mgo, .int mwa, .ref mba, .int mbl, .ref mon])), (mk, .inl (cI, 4, .inl mkf)), (mpo, .inl (cI, 12, .inl mpof_10)), (mre, .inl (cI, 12, .inl mref_18))] := hD
    refine lv_if_ge (tgt := 27) hx hb dX9_value_21 (by decide) (fun c19 => ?_) (fun c19 => ?_)
    · have c19' := I_le c19
      refine lv_aload_n hx hb dX9_value_27 rfl (lv_at hl 0 rfl) ?_
      refine va_get (D := (dC, dI)) (ci := 8) (v := .ref mnn) (C := RX9) (T := TX9) (N := 32) hx hb hts inG_X9 hown hK hP 5 rfl rfl 16 (by decide) (hts _ fl_X9_34) (fun _ h9 => h9) rfl dX9_value_28 ?_
      refine lv_iconst (v := 0) hx hb dX9_value_31 (by decide) ?_
      refine lv_iload_n hx hb dX9_value_32 rfl (lv_at hl 1 rfl) ?_
      refine va_iast (t0 := 0) hx hb hK hP hD hS 0 (ha := rfl) (ht := rfl) (I_in (by omega) (by omega)) dX9_value_33 (fun H locs hP hD hS => ?_)
      have hP : va_P (dC, dI) vwCl [(mnn, .inl (cI, 4, .inl (upd mnnf (0 : Int32).toNatClampNeg i1))), (mwo, .inl (cJ, 12, .inr (.inl mwof))), (mp, .inl (cI, 10, .inl mpf)), (mi, .inl (cI, 12, .inl mif_3)), (mpi, .inl (cI, 26, .inl mpif_11)), (m0, .inr (8, [.int 0, .int mst, .ref mp, .int mln, .ref mk, .int mts, .ref mti, .ref mtw, .ref mi, .int mmn_2, .ref mpo, .int mpd_7, .ref mpi, .int mpl_8, .int mcp_9, .ref mre, .ref mnn, .ref mwo, .ref mga, .ref mlo, .ref mro, .ref mle, .ref mra, .int mme, .ref mha, .int mch, .int mtm, .int mgo, .int mwa, .ref mba, .int mbl, .ref mon])), (mk, .inl (cI, 4, .inl mkf)), (mpo, .inl (cI, 12, .inl mpof_10)), (mre, .inl (cI, 12, .inl mref_18))] H := hP
      have hD : va_D A [(mnn, .inl (cI, 4, .inl (upd mnnf (0 : Int32).toNatClampNeg i1))), (mwo, .inl (cJ, 12, .inr (.inl mwof))), (mp, .inl (cI, 10, .inl mpf)), (mi, .inl (cI, 12, .inl mif_3)), (mpi, .inl (cI, 26, .inl mpif_11)), (m0, .inr (8, [.int 0, .int mst, .ref mp, .int mln, .ref mk, .int mts, .ref mti, .ref mtw, .ref mi, .int mmn_2, .ref mpo, .int mpd_7, .ref mpi, .int mpl_8, .int mcp_9, .ref mre, .ref mnn, .ref mwo, .ref mga, .ref mlo, .ref mro, .ref mle, .ref mra, .int mme, .ref mha, .int mch, .int mtm, .int mgo, .int mwa, .ref mba, .int mbl, .ref mon])), (mk, .inl (cI, 4, .inl mkf)), (mpo, .inl (cI, 12, .inl mpof_10)), (mre, .inl (cI, 12, .inl mref_18))] := hD
      generalize ef20 : upd mnnf (0 : Int32).toNatClampNeg i1 = f20 at hP hD
      refine lv_aload_n hx hb dX9_value_34 rfl (lv_at hl 0 rfl) ?_
      refine va_get (D := (dC, dI)) (ci := 8) (v := .ref mnn) (C := RX9) (T := TX9) (N := 32) hx hb hts inG_X9 hown hK hP 5 rfl rfl 16 (by decide) (hts _ fl_X9_34) (fun _ h9 => h9) rfl dX9_value_35 ?_
      refine lv_iconst (v := 1) hx hb dX9_value_38 (by decide) ?_
      refine lv_iload_n hx hb dX9_value_39 rfl (lv_at hl 2 rfl) ?_
      refine va_iast (t0 := 0) hx hb hK hP hD hS 0 (ha := rfl) (ht := rfl) (I_in (by omega) (by omega)) dX9_value_40 (fun H locs hP hD hS => ?_)
      have hP : va_P (dC, dI) vwCl [(mnn, .inl (cI, 4, .inl (upd f20 (1 : Int32).toNatClampNeg i2))), (mwo, .inl (cJ, 12, .inr (.inl mwof))), (mp, .inl (cI, 10, .inl mpf)), (mi, .inl (cI, 12, .inl mif_3)), (mpi, .inl (cI, 26, .inl mpif_11)), (m0, .inr (8, [.int 0, .int mst, .ref mp, .int mln, .ref mk, .int mts, .ref mti, .ref mtw, .ref mi, .int mmn_2, .ref mpo, .int mpd_7, .ref mpi, .int mpl_8, .int mcp_9, .ref mre, .ref mnn, .ref mwo, .ref mga, .ref mlo, .ref mro, .ref mle, .ref mra, .int mme, .ref mha, .int mch, .int mtm, .int mgo, .int mwa, .ref mba, .int mbl, .ref mon])), (mk, .inl (cI, 4, .inl mkf)), (mpo, .inl (cI, 12, .inl mpof_10)), (mre, .inl (cI, 12, .inl mref_18))] H := hP
      have hD : va_D A [(mnn, .inl (cI, 4, .inl (upd f20 (1 : Int32).toNatClampNeg i2))), (mwo, .inl (cJ, 12, .inr (.inl mwof))), (mp, .inl (cI, 10, .inl mpf)), (mi, .inl (cI, 12, .inl mif_3)), (mpi, .inl (cI, 26, .inl mpif_11)), (m0, .inr (8, [.int 0, .int mst, .ref mp, .int mln, .ref mk, .int mts, .ref mti, .ref mtw, .ref mi, .int mmn_2, .ref mpo, .int mpd_7, .ref mpi, .int mpl_8, .int mcp_9, .ref mre, .ref mnn, .ref mwo, .ref mga, .ref mlo, .ref mro, .ref mle, .ref mra, .int mme, .ref mha, .int mch, .int mtm, .int mgo, .int mwa, .ref mba, .int mbl, .ref mon])), (mk, .inl (cI, 4, .inl mkf)), (mpo, .inl (cI, 12, .inl mpof_10)), (mre, .inl (cI, 12, .inl mref_18))] := hD
      generalize ef21 : upd f20 (1 : Int32).toNatClampNeg i2 = f21 at hP hD
      refine lv_aload_n hx hb dX9_value_41 rfl (lv_at hl 0 rfl) ?_
      refine va_get (D := (dC, dI)) (ci := 8) (v := .ref mnn) (C := RX9) (T := TX9) (N := 32) hx hb hts inG_X9 hown hK hP 5 rfl rfl 16 (by decide) (hts _ fl_X9_34) (fun _ h9 => h9) rfl dX9_value_42 ?_
      refine lv_iconst (v := 2) hx hb dX9_value_45 (by decide) ?_
      refine lv_iload_n hx hb dX9_value_46 rfl (lv_at hl 3 rfl) ?_
      refine va_iast (t0 := 0) hx hb hK hP hD hS 0 (ha := rfl) (ht := rfl) (I_in (by omega) (by omega)) dX9_value_47 (fun H locs hP hD hS => ?_)
      have hP : va_P (dC, dI) vwCl [(mnn, .inl (cI, 4, .inl (upd f21 (2 : Int32).toNatClampNeg i3))), (mwo, .inl (cJ, 12, .inr (.inl mwof))), (mp, .inl (cI, 10, .inl mpf)), (mi, .inl (cI, 12, .inl mif_3)), (mpi, .inl (cI, 26, .inl mpif_11)), (m0, .inr (8, [.int 0, .int mst, .ref mp, .int mln, .ref mk, .int mts, .ref mti, .ref mtw, .ref mi, .int mmn_2, .ref mpo, .int mpd_7, .ref mpi, .int mpl_8, .int mcp_9, .ref mre, .ref mnn, .ref mwo, .ref mga, .ref mlo, .ref mro, .ref mle, .ref mra, .int mme, .ref mha, .int mch, .int mtm, .int mgo, .int mwa, .ref mba, .int mbl, .ref mon])), (mk, .inl (cI, 4, .inl mkf)), (mpo, .inl (cI, 12, .inl mpof_10)), (mre, .inl (cI, 12, .inl mref_18))] H := hP
      have hD : va_D A [(mnn, .inl (cI, 4, .inl (upd f21 (2 : Int32).toNatClampNeg i3))), (mwo, .inl (cJ, 12, .inr (.inl mwof))), (mp, .inl (cI, 10, .inl mpf)), (mi, .inl (cI, 12, .inl mif_3)), (mpi, .inl (cI, 26, .inl mpif_11)), (m0, .inr (8, [.int 0, .int mst, .ref mp, .int mln, .ref mk, .int mts, .ref mti, .ref mtw, .ref mi, .int mmn_2, .ref mpo, .int mpd_7, .ref mpi, .int mpl_8, .int mcp_9, .ref mre, .ref mnn, .ref mwo, .ref mga, .ref mlo, .ref mro, .ref mle, .ref mra, .int mme, .ref mha, .int mch, .int mtm, .int mgo, .int mwa, .ref mba, .int mbl, .ref mon])), (mk, .inl (cI, 4, .inl mkf)), (mpo, .inl (cI, 12, .inl mpof_10)), (mre, .inl (cI, 12, .inl mref_18))] := hD
      generalize ef22 : upd f21 (2 : Int32).toNatClampNeg i3 = f22 at hP hD
      refine lv_aload_n hx hb dX9_value_48 rfl (lv_at hl 0 rfl) ?_
      refine va_get (D := (dC, dI)) (ci := 8) (v := .ref mnn) (C := RX9) (T := TX9) (N := 32) hx hb hts inG_X9 hown hK hP 5 rfl rfl 16 (by decide) (hts _ fl_X9_34) (fun _ h9 => h9) rfl dX9_value_49 ?_
      refine lv_iconst (v := 3) hx hb dX9_value_52 (by decide) ?_
      refine lv_iload hx hb dX9_value_53 (lv_at hl 4 rfl) ?_
      refine va_iast (t0 := 0) hx hb hK hP hD hS 0 (ha := rfl) (ht := rfl) (I_in (by omega) (by omega)) dX9_value_55 (fun H locs hP hD hS => ?_)
      have hP : va_P (dC, dI) vwCl [(mnn, .inl (cI, 4, .inl (upd f22 (3 : Int32).toNatClampNeg i4))), (mwo, .inl (cJ, 12, .inr (.inl mwof))), (mp, .inl (cI, 10, .inl mpf)), (mi, .inl (cI, 12, .inl mif_3)), (mpi, .inl (cI, 26, .inl mpif_11)), (m0, .inr (8, [.int 0, .int mst, .ref mp, .int mln, .ref mk, .int mts, .ref mti, .ref mtw, .ref mi, .int mmn_2, .ref mpo, .int mpd_7, .ref mpi, .int mpl_8, .int mcp_9, .ref mre, .ref mnn, .ref mwo, .ref mga, .ref mlo, .ref mro, .ref mle, .ref mra, .int mme, .ref mha, .int mch, .int mtm, .int mgo, .int mwa, .ref mba, .int mbl, .ref mon])), (mk, .inl (cI, 4, .inl mkf)), (mpo, .inl (cI, 12, .inl mpof_10)), (mre, .inl (cI, 12, .inl mref_18))] H := hP
      have hD : va_D A [(mnn, .inl (cI, 4, .inl (upd f22 (3 : Int32).toNatClampNeg i4))), (mwo, .inl (cJ, 12, .inr (.inl mwof))), (mp, .inl (cI, 10, .inl mpf)), (mi, .inl (cI, 12, .inl mif_3)), (mpi, .inl (cI, 26, .inl mpif_11)), (m0, .inr (8, [.int 0, .int mst, .ref mp, .int mln, .ref mk, .int mts, .ref mti, .ref mtw, .ref mi, .int mmn_2, .ref mpo, .int mpd_7, .ref mpi, .int mpl_8, .int mcp_9, .ref mre, .ref mnn, .ref mwo, .ref mga, .ref mlo, .ref mro, .ref mle, .ref mra, .int mme, .ref mha, .int mch, .int mtm, .int mgo, .int mwa, .ref mba, .int mbl, .ref mon])), (mk, .inl (cI, 4, .inl mkf)), (mpo, .inl (cI, 12, .inl mpof_10)), (mre, .inl (cI, 12, .inl mref_18))] := hD
      generalize ef23 : upd f22 (3 : Int32).toNatClampNeg i4 = f23 at hP hD
      refine lv_aload_n hx hb dX9_value_56 rfl (lv_at hl 0 rfl) ?_
      refine calI (rest := []) (wr := [(mp, .inl (cI, 10, .inl mpf)), (mi, .inl (cI, 12, .inl mif_3)), (mpi, .inl (cI, 26, .inl mpif_11)), (mre, .inl (cI, 12, .inl mref_18))]) hG (c_X9_valueOf l dC dI cI cJ base bB bO m0 0 mst mp mln mk mts mti mtw mi mmn_2 mpo mpd_7 mpi mpl_8 mcp_9 mre mnn mwo mga mlo mro mle mra mme mha mch mtm mgo mwa mba mbl mon mkf mpof_10 f23 mwof (by rcases hr1 with h | h; exact absurd (by omega) h; exact h) (by first | assumption | omega)) ml_X9_148 im_X9_valueOf se_X9_valueOf ini_X9 cd_X9_valueOf hd_X9_valueOf ⟨(Nat.le_of_ble_eq_true rfl), (Nat.le_of_ble_eq_true rfl)⟩ (Nat.le_of_ble_eq_true rfl) (Nat.le_of_ble_eq_true rfl) hP hD hS [5, 6, 7, 0, 1] [2, 3, 4, 8] rfl rfl rfl rfl (by decide) 8 5 rfl rfl hl.1 rfl (Nat.le_of_ble_eq_true rfl) dX9_value_57 (fun r24 u H locs hw25 hP hD hS => ?_)
      obtain ⟨mwof_26, rfl⟩ : ∃ z, z = u := ⟨_, rfl⟩
      have hP : va_P (dC, dI) vwCl [(mp, .inl (cI, 10, .inl mpf)), (mi, .inl (cI, 12, .inl mif_3)), (mpi, .inl (cI, 26, .inl mpif_11)), (mre, .inl (cI, 12, .inl mref_18)), (m0, .inr (8, [.int 0, .int mst, .ref mp, .int mln, .ref mk, .int mts, .ref mti, .ref mtw, .ref mi, .int mmn_2, .ref mpo, .int mpd_7, .ref mpi, .int mpl_8, .int mcp_9, .ref mre, .ref mnn, .ref mwo, .ref mga, .ref mlo, .ref mro, .ref mle, .ref mra, .int mme, .ref mha, .int mch, .int mtm, .int mgo, .int mwa, .ref mba, .int mbl, .ref mon])), (mk, .inl (cI, 4, .inl mkf)), (mpo, .inl (cI, 12, .inl mpof_10)), (mnn, .inl (cI, 4, .inl f23)), (mwo, .inl (cJ, 12, .inr (.inl mwof_26)))] H := hP
      have hD : va_D A [(mp, .inl (cI, 10, .inl mpf)), (mi, .inl (cI, 12, .inl mif_3)), (mpi, .inl (cI, 26, .inl mpif_11)), (mre, .inl (cI, 12, .inl mref_18)), (m0, .inr (8, [.int 0, .int mst, .ref mp, .int mln, .ref mk, .int mts, .ref mti, .ref mtw, .ref mi, .int mmn_2, .ref mpo, .int mpd_7, .ref mpi, .int mpl_8, .int mcp_9, .ref mre, .ref mnn, .ref mwo, .ref mga, .ref mlo, .ref mro, .ref mle, .ref mra, .int mme, .ref mha, .int mch, .int mtm, .int mgo, .int mwa, .ref mba, .int mbl, .ref mon])), (mk, .inl (cI, 4, .inl mkf)), (mpo, .inl (cI, 12, .inl mpof_10)), (mnn, .inl (cI, 4, .inl f23)), (mwo, .inl (cJ, 12, .inr (.inl mwof_26)))] := hD
      exact hret r24 (0, mmn_2, mif_3, mpd_7, mpl_8, mcp_9, mpof_10, mpif_11, mref_18, f23, mwof_26) H locs 60 ls rfl ⟨(show 0 ≤ mmn_2.toInt ∧ mmn_2.toInt ≤ 12 from by first | rfl | assumption | omega), (show mcp_9.toInt = 0 ∨ mcp_9.toInt = 1 from by first | rfl | assumption | omega), trivial⟩ (hP.sub (ws' := [(m0, .inr (8, [.int 0, .int mst, .ref mp, .int mln, .ref mk, .int mts, .ref mti, .ref mtw, .ref mi, .int mmn_2, .ref mpo, .int mpd_7, .ref mpi, .int mpl_8, .int mcp_9, .ref mre, .ref mnn, .ref mwo, .ref mga, .ref mlo, .ref mro, .ref mle, .ref mra, .int mme, .ref mha, .int mch, .int mtm, .int mgo, .int mwa, .ref mba, .int mbl, .ref mon])), (mp, .inl (cI, 10, .inl mpf)), (mk, .inl (cI, 4, .inl mkf)), (mi, .inl (cI, 12, .inl mif_3)), (mpo, .inl (cI, 12, .inl mpof_10)), (mpi, .inl (cI, 26, .inl mpif_11)), (mre, .inl (cI, 12, .inl mref_18)), (mnn, .inl (cI, 4, .inl f23)), (mwo, .inl (cJ, 12, .inr (.inl mwof_26)))]) [4, 0, 5, 1, 6, 2, 3, 7, 8] rfl) (hD.sub (ws' := [(m0, .inr (8, [.int 0, .int mst, .ref mp, .int mln, .ref mk, .int mts, .ref mti, .ref mtw, .ref mi, .int mmn_2, .ref mpo, .int mpd_7, .ref mpi, .int mpl_8, .int mcp_9, .ref mre, .ref mnn, .ref mwo, .ref mga, .ref mlo, .ref mro, .ref mle, .ref mra, .int mme, .ref mha, .int mch, .int mtm, .int mgo, .int mwa, .ref mba, .int mbl, .ref mon])), (mp, .inl (cI, 10, .inl mpf)), (mk, .inl (cI, 4, .inl mkf)), (mi, .inl (cI, 12, .inl mif_3)), (mpo, .inl (cI, 12, .inl mpof_10)), (mpi, .inl (cI, 26, .inl mpif_11)), (mre, .inl (cI, 12, .inl mref_18)), (mnn, .inl (cI, 4, .inl f23)), (mwo, .inl (cJ, 12, .inr (.inl mwof_26)))]) [4, 0, 5, 1, 6, 2, 3, 7, 8] (by decide) rfl) hS dX9_value_60
    · have c19' := I_nle c19
      refine lv_ldc (v := (-2000000)) hx hb hown (hts _ k_X9_138) dX9_value_24 ?_
      exact hret (-2000000) (0, mmn_2, mif_3, mpd_7, mpl_8, mcp_9, mpof_10, mpif_11, mref_18, mnnf, mwof) H locs 26 ls rfl ⟨(show 0 ≤ mmn_2.toInt ∧ mmn_2.toInt ≤ 12 from by first | rfl | assumption | omega), (show mcp_9.toInt = 0 ∨ mcp_9.toInt = 1 from by first | rfl | assumption | omega), trivial⟩ (hP.sub (ws' := [(m0, .inr (8, [.int 0, .int mst, .ref mp, .int mln, .ref mk, .int mts, .ref mti, .ref mtw, .ref mi, .int mmn_2, .ref mpo, .int mpd_7, .ref mpi, .int mpl_8, .int mcp_9, .ref mre, .ref mnn, .ref mwo, .ref mga, .ref mlo, .ref mro, .ref mle, .ref mra, .int mme, .ref mha, .int mch, .int mtm, .int mgo, .int mwa, .ref mba, .int mbl, .ref mon])), (mp, .inl (cI, 10, .inl mpf)), (mk, .inl (cI, 4, .inl mkf)), (mi, .inl (cI, 12, .inl mif_3)), (mpo, .inl (cI, 12, .inl mpof_10)), (mpi, .inl (cI, 26, .inl mpif_11)), (mre, .inl (cI, 12, .inl mref_18)), (mnn, .inl (cI, 4, .inl mnnf)), (mwo, .inl (cJ, 12, .inr (.inl mwof)))]) [5, 2, 6, 3, 7, 4, 8, 0, 1] rfl) (hD.sub (ws' := [(m0, .inr (8, [.int 0, .int mst, .ref mp, .int mln, .ref mk, .int mts, .ref mti, .ref mtw, .ref mi, .int mmn_2, .ref mpo, .int mpd_7, .ref mpi, .int mpl_8, .int mcp_9, .ref mre, .ref mnn, .ref mwo, .ref mga, .ref mlo, .ref mro, .ref mle, .ref mra, .int mme, .ref mha, .int mch, .int mtm, .int mgo, .int mwa, .ref mba, .int mbl, .ref mon])), (mp, .inl (cI, 10, .inl mpf)), (mk, .inl (cI, 4, .inl mkf)), (mi, .inl (cI, 12, .inl mif_3)), (mpo, .inl (cI, 12, .inl mpof_10)), (mpi, .inl (cI, 26, .inl mpif_11)), (mre, .inl (cI, 12, .inl mref_18)), (mnn, .inl (cI, 4, .inl mnnf)), (mwo, .inl (cJ, 12, .inr (.inl mwof)))]) [5, 2, 6, 3, 7, 4, 8, 0, 1] (by decide) rfl) hS dX9_value_26
set_option maxHeartbeats 4000000 in
set_option maxRecDepth 100000 in
theorem c_X9_test (l : Launch) (dC : Nat → ClassId) (dI : Nat → Nat → Nat) (cI cJ : ClassId) (base bB bO : Nat) (m0 : Nat) (mth : Int32) (mst : Int32) (mp : Nat) (mln : Int32) (mk : Nat) (mts : Int32) (mti : Nat) (mtw : Nat) (mi : Nat) (mmn : Int32) (mpo : Nat) (mpd : Int32) (mpi : Nat) (mpl : Int32) (mcp : Int32) (mre : Nat) (mnn : Nat) (mwo : Nat) (mga : Nat) (mlo : Nat) (mro : Nat) (mle : Nat) (mra : Nat) (mme : Int32) (mha : Nat) (mch : Int32) (mtm : Int32) (mgo : Int32) (mwa : Int32) (mba : Nat) (mbl : Int32) (mon : Nat) (mtif : Nat → Int32) (mtwf : Nat → Int32) (i1 : Int32) (i2 : Int32) (i3 : Int32) (i4 : Int32) (y : Int32) (hq0 : 0 ≤ mts.toInt ∧ mts.toInt ≤ 8) : CtI l dC dI cI cJ base bB bO yX9_test cX9_test 7 .int 1 25 [.ref m0, .int i1, .int i2, .int i3, .int i4, .int y] [(m0, .inr (8, [.int mth, .int mst, .ref mp, .int mln, .ref mk, .int mts, .ref mti, .ref mtw, .ref mi, .int mmn, .ref mpo, .int mpd, .ref mpi, .int mpl, .int mcp, .ref mre, .ref mnn, .ref mwo, .ref mga, .ref mlo, .ref mro, .ref mle, .ref mra, .int mme, .ref mha, .int mch, .int mtm, .int mgo, .int mwa, .ref mba, .int mbl, .ref mon])), (mti, .inl (cI, 32, .inl mtif)), (mtw, .inl (cI, 8, .inl mtwf))] ((Int32) × (Int32) × (Int32) × (Nat → Int32) × (Nat → Int32)) (fun (res : Int32) (u : (Int32) × (Int32) × (Int32) × (Nat → Int32) × (Nat → Int32)) => (0 ≤ u.2.2.1.toInt ∧ u.2.2.1.toInt ≤ 8) ∧ (((-100 ≤ i1.toInt ∧ i1.toInt ≤ 100 ∧ -100 ≤ i2.toInt ∧ i2.toInt ≤ 100 ∧ -100 ≤ i3.toInt ∧ i3.toInt ≤ 100 ∧ -100 ≤ i4.toInt ∧ i4.toInt ≤ 100 ∧ -1000000 ≤ y.toInt ∧ y.toInt ≤ 1000000) ∧ mts.toInt < 8 ∧ res.toInt = mts.toInt ∧ u.2.2.1.toInt = mts.toInt + 1) ∨ ((-100 ≤ i1.toInt ∧ i1.toInt ≤ 100 ∧ -100 ≤ i2.toInt ∧ i2.toInt ≤ 100 ∧ -100 ≤ i3.toInt ∧ i3.toInt ≤ 100 ∧ -100 ≤ i4.toInt ∧ i4.toInt ≤ 100 ∧ -1000000 ≤ y.toInt ∧ y.toInt ≤ 1000000) ∧ mts.toInt = 8 ∧ res.toInt = -5 ∧ u.2.2.1.toInt = mts.toInt) ∨ (¬ (-100 ≤ i1.toInt ∧ i1.toInt ≤ 100 ∧ -100 ≤ i2.toInt ∧ i2.toInt ≤ 100 ∧ -100 ≤ i3.toInt ∧ i3.toInt ≤ 100 ∧ -100 ≤ i4.toInt ∧ i4.toInt ≤ 100 ∧ -1000000 ≤ y.toInt ∧ y.toInt ≤ 1000000) ∧ res.toInt = -1 ∧ u.2.2.1.toInt = mts.toInt)) ∧ True) (fun (u : (Int32) × (Int32) × (Int32) × (Nat → Int32) × (Nat → Int32)) => [(m0, .inr (8, [.int u.1, .int u.2.1, .ref mp, .int mln, .ref mk, .int u.2.2.1, .ref mti, .ref mtw, .ref mi, .int mmn, .ref mpo, .int mpd, .ref mpi, .int mpl, .int mcp, .ref mre, .ref mnn, .ref mwo, .ref mga, .ref mlo, .ref mro, .ref mle, .ref mra, .int mme, .ref mha, .int mch, .int mtm, .int mgo, .int mwa, .ref mba, .int mbl, .ref mon])), (mti, .inl (cI, 32, .inl u.2.2.2.1)), (mtw, .inl (cI, 8, .inl u.2.2.2.2))]) := by
  refine entI (by decide) (Nat.le_of_ble_eq_true rfl) ?_
  intro p e s m below meth c A Q ls hAt hret hP hD hS hl
  obtain ⟨hx, hb, hml, hown, hts, hA, hAb, hK, hE, hlocks, hin⟩ := hAt
  have hG : CG dC dI cI cJ base bB bO cX9_test 7 RX9 p s m (List.toArray [.ref m0, .int i1, .int i2, .int i3, .int i4, .int y]) c A := ⟨hx, hb, hml, hown, hts, hA, hAb, hK, hE⟩
  have hl : lv_has ls 7 [(0, .ref m0), (1, .int i1), (2, .int i2), (3, .int i3), (4, .int i4), (5, .int y)] := hl
  have c_m5 : (-5 : Int32).toInt = -5 := by decide
  have c_m1 : (-1 : Int32).toInt = -1 := by decide
  have c_0 : (0 : Int32).toInt = 0 := by decide
  have c_1 : (1 : Int32).toInt = 1 := by decide
  have c_2 : (2 : Int32).toInt = 2 := by decide
  have c_3 : (3 : Int32).toInt = 3 := by decide
  have c_4 : (4 : Int32).toInt = 4 := by decide
  have c_8 : (8 : Int32).toInt = 8 := by decide
  have cl_m1000000 : (-1000000 : Int64).toInt = -1000000 := by decide
  have cl_m100 : (-100 : Int64).toInt = -100 := by decide
  have cl_100 : (100 : Int64).toInt = 100 := by decide
  have cl_1000000 : (1000000 : Int64).toInt = 1000000 := by decide
  obtain ⟨H, hHe⟩ : ∃ H : Heap, H = s.heap := ⟨_, rfl⟩
  obtain ⟨locs, hle⟩ : ∃ z : List Loc, z = [] := ⟨_, rfl⟩
  rw [← hHe] at hP
  have hS : va_S A s.heap H locs := by rw [hHe, hle]; exact hS
  suffices hgo : W p l e { frames := 1, cells := 0, slots := 0, locals := 25 } s m (List.toArray [.ref m0, .int i1, .int i2, .int i3, .int i4, .int y]) below meth c H locs 0 0 Q (F0 m 0 ls []) by rw [hHe, hle] at hgo; exact hgo
  refine lv_aload_n hx hb dX9_test_0 rfl (lv_at hl 0 rfl) ?_
  refine lv_iconst (v := 0) hx hb dX9_test_1 (by decide) ?_
  refine va_put (D := (dC, dI)) (ci := 8) (v := .int 0) (ty := .int) (C := RX9) (T := TX9) (N := 32) hx hb hts inG_X9 tyX9 tyX9_ok nmX9 hown hK hP hD hS 0 rfl rfl 0 (by decide) (hts _ fl_X9_69) (fun _ h9 => h9) rfl (by decide +kernel) rfl rfl (Nat.le_of_ble_eq_true rfl) dX9_test_2 (fun H locs hP hD hS => ?_)
  have hP : va_P (dC, dI) vwCl [(m0, .inr (8, [.int 0, .int mst, .ref mp, .int mln, .ref mk, .int mts, .ref mti, .ref mtw, .ref mi, .int mmn, .ref mpo, .int mpd, .ref mpi, .int mpl, .int mcp, .ref mre, .ref mnn, .ref mwo, .ref mga, .ref mlo, .ref mro, .ref mle, .ref mra, .int mme, .ref mha, .int mch, .int mtm, .int mgo, .int mwa, .ref mba, .int mbl, .ref mon])), (mti, .inl (cI, 32, .inl mtif)), (mtw, .inl (cI, 8, .inl mtwf))] H := hP
  have hD : va_D A [(m0, .inr (8, [.int 0, .int mst, .ref mp, .int mln, .ref mk, .int mts, .ref mti, .ref mtw, .ref mi, .int mmn, .ref mpo, .int mpd, .ref mpi, .int mpl, .int mcp, .ref mre, .ref mnn, .ref mwo, .ref mga, .ref mlo, .ref mro, .ref mle, .ref mra, .int mme, .ref mha, .int mch, .int mtm, .int mgo, .int mwa, .ref mba, .int mbl, .ref mon])), (mti, .inl (cI, 32, .inl mtif)), (mtw, .inl (cI, 8, .inl mtwf))] := hD
  refine lv_iload_n hx hb dX9_test_5 rfl (lv_at hl 1 rfl) ?_
  obtain ⟨w1, ew1⟩ : ∃ z : Int64, Int32.toInt64 i1 = z := ⟨_, rfl⟩
  have hw1 := J_of i1
  rw [ew1] at hw1
  refine lv_i2l (v := w1) hx hb dX9_test_6 ew1 ?_
  refine lv_ldc2 (v := (-100)) hx hb hown (hts _ k_X9_151) dX9_test_7 ?_
  refine lv_ldc2 (v := 100) hx hb hown (hts _ k_X9_153) dX9_test_10 ?_
  refine calOI (rest := []) (wr := [(m0, .inr (8, [.int 0, .int mst, .ref mp, .int mln, .ref mk, .int mts, .ref mti, .ref mtw, .ref mi, .int mmn, .ref mpo, .int mpd, .ref mpi, .int mpl, .int mcp, .ref mre, .ref mnn, .ref mwo, .ref mga, .ref mlo, .ref mro, .ref mle, .ref mra, .int mme, .ref mha, .int mch, .int mtm, .int mgo, .int mwa, .ref mba, .int mbl, .ref mon])), (mti, .inl (cI, 32, .inl mtif)), (mtw, .inl (cI, 8, .inl mtwf))]) hG (c_X9_in l dC dI cI cJ base bB bO w1 (-100) 100 ) ml_X9_77 st_X9_in ini_X9 cd_X9_in hd_X9_in.2 ⟨(Nat.le_of_ble_eq_true rfl), (Nat.le_of_ble_eq_true rfl)⟩ (Nat.le_of_ble_eq_true rfl) (Nat.le_of_ble_eq_true rfl) hP hD hS [] [0, 1, 2] rfl rfl rfl rfl (by decide) hl.1 rfl (Nat.le_of_ble_eq_true rfl) dX9_test_13 (fun r2 u H locs hw3 hP hD hS => ?_)
  have hw3 : ((r2.toInt = 1 ∧ (-100 : Int64).toInt ≤ w1.toInt ∧ w1.toInt ≤ (100 : Int64).toInt) ∨ (r2.toInt = 0 ∧ (w1.toInt < (-100 : Int64).toInt ∨ (100 : Int64).toInt < w1.toInt))) ∧ True := hw3
  obtain ⟨hp4, -⟩ := hw3
  have hP : va_P (dC, dI) vwCl [(m0, .inr (8, [.int 0, .int mst, .ref mp, .int mln, .ref mk, .int mts, .ref mti, .ref mtw, .ref mi, .int mmn, .ref mpo, .int mpd, .ref mpi, .int mpl, .int mcp, .ref mre, .ref mnn, .ref mwo, .ref mga, .ref mlo, .ref mro, .ref mle, .ref mra, .int mme, .ref mha, .int mch, .int mtm, .int mgo, .int mwa, .ref mba, .int mbl, .ref mon])), (mti, .inl (cI, 32, .inl mtif)), (mtw, .inl (cI, 8, .inl mtwf))] H := hP
  have hD : va_D A [(m0, .inr (8, [.int 0, .int mst, .ref mp, .int mln, .ref mk, .int mts, .ref mti, .ref mtw, .ref mi, .int mmn, .ref mpo, .int mpd, .ref mpi, .int mpl, .int mcp, .ref mre, .ref mnn, .ref mwo, .ref mga, .ref mlo, .ref mro, .ref mle, .ref mra, .int mme, .ref mha, .int mch, .int mtm, .int mgo, .int mwa, .ref mba, .int mbl, .ref mon])), (mti, .inl (cI, 32, .inl mtif)), (mtw, .inl (cI, 8, .inl mtwf))] := hD
  refine lv_if_eq (tgt := 81) hx hb dX9_test_16 (by decide) (fun c5 => ?_) (fun c5 => ?_)
  · have c5' := I_eq c5
    refine lv_iconst (v := 0) hx hb dX9_test_81 (by decide) ?_
    refine lv_istore (lv' := [(6, .int 0), (0, .ref m0), (1, .int i1), (2, .int i2), (3, .int i3), (4, .int i4), (5, .int y)]) hx hb dX9_test_82 hl (by decide) rfl (fun ls hl => ?_)
    refine lv_iload hx hb dX9_test_84 (lv_at hl 0 rfl) ?_
    refine lv_if_ne (tgt := 95) hx hb dX9_test_86 (by decide) (fun c6 => ?_) (fun c6 => ?_)
    · have c6' := I_ne c6
      exact absurd c6 (by decide)
    · have c6' := I_eq c6
      refine lv_aload_n hx hb dX9_test_89 rfl (lv_at hl 1 rfl) ?_
      refine lv_iconst (v := (-1)) hx hb dX9_test_90 (by decide) ?_
      refine calI (rest := []) (wr := [(mti, .inl (cI, 32, .inl mtif)), (mtw, .inl (cI, 8, .inl mtwf))]) hG (c_X9_told l dC dI cI cJ base bB bO m0 0 mst mp mln mk mts mti mtw mi mmn mpo mpd mpi mpl mcp mre mnn mwo mga mlo mro mle mra mme mha mch mtm mgo mwa mba mbl mon (-1) ) ml_X9_85 im_X9_told se_X9_told ini_X9 cd_X9_told hd_X9_told ⟨(Nat.le_of_ble_eq_true rfl), (Nat.le_of_ble_eq_true rfl)⟩ (Nat.le_of_ble_eq_true rfl) (Nat.le_of_ble_eq_true rfl) hP hD hS [0] [1, 2] rfl rfl rfl rfl (by decide) 8 0 rfl rfl hl.1 rfl (Nat.le_of_ble_eq_true rfl) dX9_test_91 (fun r7 u H locs hw8 hP hD hS => ?_)
      obtain ⟨mst_9, rfl⟩ : ∃ z, z = u := ⟨_, rfl⟩
      have hw8 : (r7 = (-1 : Int32)) ∧ True := hw8
      obtain ⟨hp10, -⟩ := hw8
      have hp10t := I_eq hp10
      have hP : va_P (dC, dI) vwCl [(mti, .inl (cI, 32, .inl mtif)), (mtw, .inl (cI, 8, .inl mtwf)), (m0, .inr (8, [.int 0, .int mst_9, .ref mp, .int mln, .ref mk, .int mts, .ref mti, .ref mtw, .ref mi, .int mmn, .ref mpo, .int mpd, .ref mpi, .int mpl, .int mcp, .ref mre, .ref mnn, .ref mwo, .ref mga, .ref mlo, .ref mro, .ref mle, .ref mra, .int mme, .ref mha, .int mch, .int mtm, .int mgo, .int mwa, .ref mba, .int mbl, .ref mon]))] H := hP
      have hD : va_D A [(mti, .inl (cI, 32, .inl mtif)), (mtw, .inl (cI, 8, .inl mtwf)), (m0, .inr (8, [.int 0, .int mst_9, .ref mp, .int mln, .ref mk, .int mts, .ref mti, .ref mtw, .ref mi, .int mmn, .ref mpo, .int mpd, .ref mpi, .int mpl, .int mcp, .ref mre, .ref mnn, .ref mwo, .ref mga, .ref mlo, .ref mro, .ref mle, .ref mra, .int mme, .ref mha, .int mch, .int mtm, .int mgo, .int mwa, .ref mba, .int mbl, .ref mon]))] := hD
      exact hret r7 (0, mst_9, mts, mtif, mtwf) H locs 94 ls rfl ⟨(show 0 ≤ mts.toInt ∧ mts.toInt ≤ 8 from by first | rfl | assumption | omega), (show ((-100 ≤ i1.toInt ∧ i1.toInt ≤ 100 ∧ -100 ≤ i2.toInt ∧ i2.toInt ≤ 100 ∧ -100 ≤ i3.toInt ∧ i3.toInt ≤ 100 ∧ -100 ≤ i4.toInt ∧ i4.toInt ≤ 100 ∧ -1000000 ≤ y.toInt ∧ y.toInt ≤ 1000000) ∧ mts.toInt < 8 ∧ r7.toInt = mts.toInt ∧ mts.toInt = mts.toInt + 1) ∨ ((-100 ≤ i1.toInt ∧ i1.toInt ≤ 100 ∧ -100 ≤ i2.toInt ∧ i2.toInt ≤ 100 ∧ -100 ≤ i3.toInt ∧ i3.toInt ≤ 100 ∧ -100 ≤ i4.toInt ∧ i4.toInt ≤ 100 ∧ -1000000 ≤ y.toInt ∧ y.toInt ≤ 1000000) ∧ mts.toInt = 8 ∧ r7.toInt = -5 ∧ mts.toInt = mts.toInt) ∨ (¬ (-100 ≤ i1.toInt ∧ i1.toInt ≤ 100 ∧ -100 ≤ i2.toInt ∧ i2.toInt ≤ 100 ∧ -100 ≤ i3.toInt ∧ i3.toInt ≤ 100 ∧ -100 ≤ i4.toInt ∧ i4.toInt ≤ 100 ∧ -1000000 ≤ y.toInt ∧ y.toInt ≤ 1000000) ∧ r7.toInt = -1 ∧ mts.toInt = mts.toInt) from by first | rfl | assumption | omega), trivial⟩ (hP.sub (ws' := [(m0, .inr (8, [.int 0, .int mst_9, .ref mp, .int mln, .ref mk, .int mts, .ref mti, .ref mtw, .ref mi, .int mmn, .ref mpo, .int mpd, .ref mpi, .int mpl, .int mcp, .ref mre, .ref mnn, .ref mwo, .ref mga, .ref mlo, .ref mro, .ref mle, .ref mra, .int mme, .ref mha, .int mch, .int mtm, .int mgo, .int mwa, .ref mba, .int mbl, .ref mon])), (mti, .inl (cI, 32, .inl mtif)), (mtw, .inl (cI, 8, .inl mtwf))]) [2, 0, 1] rfl) (hD.sub (ws' := [(m0, .inr (8, [.int 0, .int mst_9, .ref mp, .int mln, .ref mk, .int mts, .ref mti, .ref mtw, .ref mi, .int mmn, .ref mpo, .int mpd, .ref mpi, .int mpl, .int mcp, .ref mre, .ref mnn, .ref mwo, .ref mga, .ref mlo, .ref mro, .ref mle, .ref mra, .int mme, .ref mha, .int mch, .int mtm, .int mgo, .int mwa, .ref mba, .int mbl, .ref mon])), (mti, .inl (cI, 32, .inl mtif)), (mtw, .inl (cI, 8, .inl mtwf))]) [2, 0, 1] (by decide) rfl) hS dX9_test_94
  · have c5' := I_ne c5
    refine lv_iload_n hx hb dX9_test_19 rfl (lv_at hl 2 rfl) ?_
    obtain ⟨w11, ew11⟩ : ∃ z : Int64, Int32.toInt64 i2 = z := ⟨_, rfl⟩
    have hw11 := J_of i2
    rw [ew11] at hw11
    refine lv_i2l (v := w11) hx hb dX9_test_20 ew11 ?_
    refine lv_ldc2 (v := (-100)) hx hb hown (hts _ k_X9_151) dX9_test_21 ?_
    refine lv_ldc2 (v := 100) hx hb hown (hts _ k_X9_153) dX9_test_24 ?_
    refine calOI (rest := []) (wr := [(m0, .inr (8, [.int 0, .int mst, .ref mp, .int mln, .ref mk, .int mts, .ref mti, .ref mtw, .ref mi, .int mmn, .ref mpo, .int mpd, .ref mpi, .int mpl, .int mcp, .ref mre, .ref mnn, .ref mwo, .ref mga, .ref mlo, .ref mro, .ref mle, .ref mra, .int mme, .ref mha, .int mch, .int mtm, .int mgo, .int mwa, .ref mba, .int mbl, .ref mon])), (mti, .inl (cI, 32, .inl mtif)), (mtw, .inl (cI, 8, .inl mtwf))]) hG (c_X9_in l dC dI cI cJ base bB bO w11 (-100) 100 ) ml_X9_77 st_X9_in ini_X9 cd_X9_in hd_X9_in.2 ⟨(Nat.le_of_ble_eq_true rfl), (Nat.le_of_ble_eq_true rfl)⟩ (Nat.le_of_ble_eq_true rfl) (Nat.le_of_ble_eq_true rfl) hP hD hS [] [0, 1, 2] rfl rfl rfl rfl (by decide) hl.1 rfl (Nat.le_of_ble_eq_true rfl) dX9_test_27 (fun r12 u H locs hw13 hP hD hS => ?_)
    have hw13 : ((r12.toInt = 1 ∧ (-100 : Int64).toInt ≤ w11.toInt ∧ w11.toInt ≤ (100 : Int64).toInt) ∨ (r12.toInt = 0 ∧ (w11.toInt < (-100 : Int64).toInt ∨ (100 : Int64).toInt < w11.toInt))) ∧ True := hw13
    obtain ⟨hp14, -⟩ := hw13
    have hP : va_P (dC, dI) vwCl [(m0, .inr (8, [.int 0, .int mst, .ref mp, .int mln, .ref mk, .int mts, .ref mti, .ref mtw, .ref mi, .int mmn, .ref mpo, .int mpd, .ref mpi, .int mpl, .int mcp, .ref mre, .ref mnn, .ref mwo, .ref mga, .ref mlo, .ref mro, .ref mle, .ref mra, .int mme, .ref mha, .int mch, .int mtm, .int mgo, .int mwa, .ref mba, .int mbl, .ref mon])), (mti, .inl (cI, 32, .inl mtif)), (mtw, .inl (cI, 8, .inl mtwf))] H := hP
    have hD : va_D A [(m0, .inr (8, [.int 0, .int mst, .ref mp, .int mln, .ref mk, .int mts, .ref mti, .ref mtw, .ref mi, .int mmn, .ref mpo, .int mpd, .ref mpi, .int mpl, .int mcp, .ref mre, .ref mnn, .ref mwo, .ref mga, .ref mlo, .ref mro, .ref mle, .ref mra, .int mme, .ref mha, .int mch, .int mtm, .int mgo, .int mwa, .ref mba, .int mbl, .ref mon])), (mti, .inl (cI, 32, .inl mtif)), (mtw, .inl (cI, 8, .inl mtwf))] := hD
    refine lv_if_eq (tgt := 81) hx hb dX9_test_30 (by decide) (fun c15 => ?_) (fun c15 => ?_)
    · have c15' := I_eq c15
      refine lv_iconst (v := 0) hx hb dX9_test_81 (by decide) ?_
      refine lv_istore (lv' := [(6, .int 0), (0, .ref m0), (1, .int i1), (2, .int i2), (3, .int i3), (4, .int i4), (5, .int y)]) hx hb dX9_test_82 hl (by decide) rfl (fun ls hl => ?_)
      refine lv_iload hx hb dX9_test_84 (lv_at hl 0 rfl) ?_
      refine lv_if_ne (tgt := 95) hx hb dX9_test_86 (by decide) (fun c16 => ?_) (fun c16 => ?_)
      · have c16' := I_ne c16
        exact absurd c16 (by decide)
      · have c16' := I_eq c16
        refine lv_aload_n hx hb dX9_test_89 rfl (lv_at hl 1 rfl) ?_
        refine lv_iconst (v := (-1)) hx hb dX9_test_90 (by decide) ?_
        refine calI (rest := []) (wr := [(mti, .inl (cI, 32, .inl mtif)), (mtw, .inl (cI, 8, .inl mtwf))]) hG (c_X9_told l dC dI cI cJ base bB bO m0 0 mst mp mln mk mts mti mtw mi mmn mpo mpd mpi mpl mcp mre mnn mwo mga mlo mro mle mra mme mha mch mtm mgo mwa mba mbl mon (-1) ) ml_X9_85 im_X9_told se_X9_told ini_X9 cd_X9_told hd_X9_told ⟨(Nat.le_of_ble_eq_true rfl), (Nat.le_of_ble_eq_true rfl)⟩ (Nat.le_of_ble_eq_true rfl) (Nat.le_of_ble_eq_true rfl) hP hD hS [0] [1, 2] rfl rfl rfl rfl (by decide) 8 0 rfl rfl hl.1 rfl (Nat.le_of_ble_eq_true rfl) dX9_test_91 (fun r17 u H locs hw18 hP hD hS => ?_)
        obtain ⟨mst_19, rfl⟩ : ∃ z, z = u := ⟨_, rfl⟩
        have hw18 : (r17 = (-1 : Int32)) ∧ True := hw18
        obtain ⟨hp20, -⟩ := hw18
        have hp20t := I_eq hp20
        have hP : va_P (dC, dI) vwCl [(mti, .inl (cI, 32, .inl mtif)), (mtw, .inl (cI, 8, .inl mtwf)), (m0, .inr (8, [.int 0, .int mst_19, .ref mp, .int mln, .ref mk, .int mts, .ref mti, .ref mtw, .ref mi, .int mmn, .ref mpo, .int mpd, .ref mpi, .int mpl, .int mcp, .ref mre, .ref mnn, .ref mwo, .ref mga, .ref mlo, .ref mro, .ref mle, .ref mra, .int mme, .ref mha, .int mch, .int mtm, .int mgo, .int mwa, .ref mba, .int mbl, .ref mon]))] H := hP
        have hD : va_D A [(mti, .inl (cI, 32, .inl mtif)), (mtw, .inl (cI, 8, .inl mtwf)), (m0, .inr (8, [.int 0, .int mst_19, .ref mp, .int mln, .ref mk, .int mts, .ref mti, .ref mtw, .ref mi, .int mmn, .ref mpo, .int mpd, .ref mpi, .int mpl, .int mcp, .ref mre, .ref mnn, .ref mwo, .ref mga, .ref mlo, .ref mro, .ref mle, .ref mra, .int mme, .ref mha, .int mch, .int mtm, .int mgo, .int mwa, .ref mba, .int mbl, .ref mon]))] := hD
        exact hret r17 (0, mst_19, mts, mtif, mtwf) H locs 94 ls rfl ⟨(show 0 ≤ mts.toInt ∧ mts.toInt ≤ 8 from by first | rfl | assumption | omega), (show ((-100 ≤ i1.toInt ∧ i1.toInt ≤ 100 ∧ -100 ≤ i2.toInt ∧ i2.toInt ≤ 100 ∧ -100 ≤ i3.toInt ∧ i3.toInt ≤ 100 ∧ -100 ≤ i4.toInt ∧ i4.toInt ≤ 100 ∧ -1000000 ≤ y.toInt ∧ y.toInt ≤ 1000000) ∧ mts.toInt < 8 ∧ r17.toInt = mts.toInt ∧ mts.toInt = mts.toInt + 1) ∨ ((-100 ≤ i1.toInt ∧ i1.toInt ≤ 100 ∧ -100 ≤ i2.toInt ∧ i2.toInt ≤ 100 ∧ -100 ≤ i3.toInt ∧ i3.toInt ≤ 100 ∧ -100 ≤ i4.toInt ∧ i4.toInt ≤ 100 ∧ -1000000 ≤ y.toInt ∧ y.toInt ≤ 1000000) ∧ mts.toInt = 8 ∧ r17.toInt = -5 ∧ mts.toInt = mts.toInt) ∨ (¬ (-100 ≤ i1.toInt ∧ i1.toInt ≤ 100 ∧ -100 ≤ i2.toInt ∧ i2.toInt ≤ 100 ∧ -100 ≤ i3.toInt ∧ i3.toInt ≤ 100 ∧ -100 ≤ i4.toInt ∧ i4.toInt ≤ 100 ∧ -1000000 ≤ y.toInt ∧ y.toInt ≤ 1000000) ∧ r17.toInt = -1 ∧ mts.toInt = mts.toInt) from by first | rfl | assumption | omega), trivial⟩ (hP.sub (ws' := [(m0, .inr (8, [.int 0, .int mst_19, .ref mp, .int mln, .ref mk, .int mts, .ref mti, .ref mtw, .ref mi, .int mmn, .ref mpo, .int mpd, .ref mpi, .int mpl, .int mcp, .ref mre, .ref mnn, .ref mwo, .ref mga, .ref mlo, .ref mro, .ref mle, .ref mra, .int mme, .ref mha, .int mch, .int mtm, .int mgo, .int mwa, .ref mba, .int mbl, .ref mon])), (mti, .inl (cI, 32, .inl mtif)), (mtw, .inl (cI, 8, .inl mtwf))]) [2, 0, 1] rfl) (hD.sub (ws' := [(m0, .inr (8, [.int 0, .int mst_19, .ref mp, .int mln, .ref mk, .int mts, .ref mti, .ref mtw, .ref mi, .int mmn, .ref mpo, .int mpd, .ref mpi, .int mpl, .int mcp, .ref mre, .ref mnn, .ref mwo, .ref mga, .ref mlo, .ref mro, .ref mle, .ref mra, .int mme, .ref mha, .int mch, .int mtm, .int mgo, .int mwa, .ref mba, .int mbl, .ref mon])), (mti, .inl (cI, 32, .inl mtif)), (mtw, .inl (cI, 8, .inl mtwf))]) [2, 0, 1] (by decide) rfl) hS dX9_test_94
    · have c15' := I_ne c15
      refine lv_iload_n hx hb dX9_test_33 rfl (lv_at hl 3 rfl) ?_
      obtain ⟨w21, ew21⟩ : ∃ z : Int64, Int32.toInt64 i3 = z := ⟨_, rfl⟩
      have hw21 := J_of i3
      rw [ew21] at hw21
      refine lv_i2l (v := w21) hx hb dX9_test_34 ew21 ?_
      refine lv_ldc2 (v := (-100)) hx hb hown (hts _ k_X9_151) dX9_test_35 ?_
      refine lv_ldc2 (v := 100) hx hb hown (hts _ k_X9_153) dX9_test_38 ?_
      refine calOI (rest := []) (wr := [(m0, .inr (8, [.int 0, .int mst, .ref mp, .int mln, .ref mk, .int mts, .ref mti, .ref mtw, .ref mi, .int mmn, .ref mpo, .int mpd, .ref mpi, .int mpl, .int mcp, .ref mre, .ref mnn, .ref mwo, .ref mga, .ref mlo, .ref mro, .ref mle, .ref mra, .int mme, .ref mha, .int mch, .int mtm, .int mgo, .int mwa, .ref mba, .int mbl, .ref mon])), (mti, .inl (cI, 32, .inl mtif)), (mtw, .inl (cI, 8, .inl mtwf))]) hG (c_X9_in l dC dI cI cJ base bB bO w21 (-100) 100 ) ml_X9_77 st_X9_in ini_X9 cd_X9_in hd_X9_in.2 ⟨(Nat.le_of_ble_eq_true rfl), (Nat.le_of_ble_eq_true rfl)⟩ (Nat.le_of_ble_eq_true rfl) (Nat.le_of_ble_eq_true rfl) hP hD hS [] [0, 1, 2] rfl rfl rfl rfl (by decide) hl.1 rfl (Nat.le_of_ble_eq_true rfl) dX9_test_41 (fun r22 u H locs hw23 hP hD hS => ?_)
      have hw23 : ((r22.toInt = 1 ∧ (-100 : Int64).toInt ≤ w21.toInt ∧ w21.toInt ≤ (100 : Int64).toInt) ∨ (r22.toInt = 0 ∧ (w21.toInt < (-100 : Int64).toInt ∨ (100 : Int64).toInt < w21.toInt))) ∧ True := hw23
      obtain ⟨hp24, -⟩ := hw23
      have hP : va_P (dC, dI) vwCl [(m0, .inr (8, [.int 0, .int mst, .ref mp, .int mln, .ref mk, .int mts, .ref mti, .ref mtw, .ref mi, .int mmn, .ref mpo, .int mpd, .ref mpi, .int mpl, .int mcp, .ref mre, .ref mnn, .ref mwo, .ref mga, .ref mlo, .ref mro, .ref mle, .ref mra, .int mme, .ref mha, .int mch, .int mtm, .int mgo, .int mwa, .ref mba, .int mbl, .ref mon])), (mti, .inl (cI, 32, .inl mtif)), (mtw, .inl (cI, 8, .inl mtwf))] H := hP
      have hD : va_D A [(m0, .inr (8, [.int 0, .int mst, .ref mp, .int mln, .ref mk, .int mts, .ref mti, .ref mtw, .ref mi, .int mmn, .ref mpo, .int mpd, .ref mpi, .int mpl, .int mcp, .ref mre, .ref mnn, .ref mwo, .ref mga, .ref mlo, .ref mro, .ref mle, .ref mra, .int mme, .ref mha, .int mch, .int mtm, .int mgo, .int mwa, .ref mba, .int mbl, .ref mon])), (mti, .inl (cI, 32, .inl mtif)), (mtw, .inl (cI, 8, .inl mtwf))] := hD
      refine lv_if_eq (tgt := 81) hx hb dX9_test_44 (by decide) (fun c25 => ?_) (fun c25 => ?_)
      · have c25' := I_eq c25
        refine lv_iconst (v := 0) hx hb dX9_test_81 (by decide) ?_
        refine lv_istore (lv' := [(6, .int 0), (0, .ref m0), (1, .int i1), (2, .int i2), (3, .int i3), (4, .int i4), (5, .int y)]) hx hb dX9_test_82 hl (by decide) rfl (fun ls hl => ?_)
        refine lv_iload hx hb dX9_test_84 (lv_at hl 0 rfl) ?_
        refine lv_if_ne (tgt := 95) hx hb dX9_test_86 (by decide) (fun c26 => ?_) (fun c26 => ?_)
        · have c26' := I_ne c26
          exact absurd c26 (by decide)
        · have c26' := I_eq c26
          refine lv_aload_n hx hb dX9_test_89 rfl (lv_at hl 1 rfl) ?_
          refine lv_iconst (v := (-1)) hx hb dX9_test_90 (by decide) ?_
          refine calI (rest := []) (wr := [(mti, .inl (cI, 32, .inl mtif)), (mtw, .inl (cI, 8, .inl mtwf))]) hG (c_X9_told l dC dI cI cJ base bB bO m0 0 mst mp mln mk mts mti mtw mi mmn mpo mpd mpi mpl mcp mre mnn mwo mga mlo mro mle mra mme mha mch mtm mgo mwa mba mbl mon (-1) ) ml_X9_85 im_X9_told se_X9_told ini_X9 cd_X9_told hd_X9_told ⟨(Nat.le_of_ble_eq_true rfl), (Nat.le_of_ble_eq_true rfl)⟩ (Nat.le_of_ble_eq_true rfl) (Nat.le_of_ble_eq_true rfl) hP hD hS [0] [1, 2] rfl rfl rfl rfl (by decide) 8 0 rfl rfl hl.1 rfl (Nat.le_of_ble_eq_true rfl) dX9_test_91 (fun r27 u H locs hw28 hP hD hS => ?_)
          obtain ⟨mst_29, rfl⟩ : ∃ z, z = u := ⟨_, rfl⟩
          have hw28 : (r27 = (-1 : Int32)) ∧ True := hw28
          obtain ⟨hp30, -⟩ := hw28
          have hp30t := I_eq hp30
          have hP : va_P (dC, dI) vwCl [(mti, .inl (cI, 32, .inl mtif)), (mtw, .inl (cI, 8, .inl mtwf)), (m0, .inr (8, [.int 0, .int mst_29, .ref mp, .int mln, .ref mk, .int mts, .ref mti, .ref mtw, .ref mi, .int mmn, .ref mpo, .int mpd, .ref mpi, .int mpl, .int mcp, .ref mre, .ref mnn, .ref mwo, .ref mga, .ref mlo, .ref mro, .ref mle, .ref mra, .int mme, .ref mha, .int mch, .int mtm, .int mgo, .int mwa, .ref mba, .int mbl, .ref mon]))] H := hP
          have hD : va_D A [(mti, .inl (cI, 32, .inl mtif)), (mtw, .inl (cI, 8, .inl mtwf)), (m0, .inr (8, [.int 0, .int mst_29, .ref mp, .int mln, .ref mk, .int mts, .ref mti, .ref mtw, .ref mi, .int mmn, .ref mpo, .int mpd, .ref mpi, .int mpl, .int mcp, .ref mre, .ref mnn, .ref mwo, .ref mga, .ref mlo, .ref mro, .ref mle, .ref mra, .int mme, .ref mha, .int mch, .int mtm, .int mgo, .int mwa, .ref mba, .int mbl, .ref mon]))] := hD
          exact hret r27 (0, mst_29, mts, mtif, mtwf) H locs 94 ls rfl ⟨(show 0 ≤ mts.toInt ∧ mts.toInt ≤ 8 from by first | rfl | assumption | omega), (show ((-100 ≤ i1.toInt ∧ i1.toInt ≤ 100 ∧ -100 ≤ i2.toInt ∧ i2.toInt ≤ 100 ∧ -100 ≤ i3.toInt ∧ i3.toInt ≤ 100 ∧ -100 ≤ i4.toInt ∧ i4.toInt ≤ 100 ∧ -1000000 ≤ y.toInt ∧ y.toInt ≤ 1000000) ∧ mts.toInt < 8 ∧ r27.toInt = mts.toInt ∧ mts.toInt = mts.toInt + 1) ∨ ((-100 ≤ i1.toInt ∧ i1.toInt ≤ 100 ∧ -100 ≤ i2.toInt ∧ i2.toInt ≤ 100 ∧ -100 ≤ i3.toInt ∧ i3.toInt ≤ 100 ∧ -100 ≤ i4.toInt ∧ i4.toInt ≤ 100 ∧ -1000000 ≤ y.toInt ∧ y.toInt ≤ 1000000) ∧ mts.toInt = 8 ∧ r27.toInt = -5 ∧ mts.toInt = mts.toInt) ∨ (¬ (-100 ≤ i1.toInt ∧ i1.toInt ≤ 100 ∧ -100 ≤ i2.toInt ∧ i2.toInt ≤ 100 ∧ -100 ≤ i3.toInt ∧ i3.toInt ≤ 100 ∧ -100 ≤ i4.toInt ∧ i4.toInt ≤ 100 ∧ -1000000 ≤ y.toInt ∧ y.toInt ≤ 1000000) ∧ r27.toInt = -1 ∧ mts.toInt = mts.toInt) from by first | rfl | assumption | omega), trivial⟩ (hP.sub (ws' := [(m0, .inr (8, [.int 0, .int mst_29, .ref mp, .int mln, .ref mk, .int mts, .ref mti, .ref mtw, .ref mi, .int mmn, .ref mpo, .int mpd, .ref mpi, .int mpl, .int mcp, .ref mre, .ref mnn, .ref mwo, .ref mga, .ref mlo, .ref mro, .ref mle, .ref mra, .int mme, .ref mha, .int mch, .int mtm, .int mgo, .int mwa, .ref mba, .int mbl, .ref mon])), (mti, .inl (cI, 32, .inl mtif)), (mtw, .inl (cI, 8, .inl mtwf))]) [2, 0, 1] rfl) (hD.sub (ws' := [(m0, .inr (8, [.int 0, .int mst_29, .ref mp, .int mln, .ref mk, .int mts, .ref mti, .ref mtw, .ref mi, .int mmn, .ref mpo, .int mpd, .ref mpi, .int mpl, .int mcp, .ref mre, .ref mnn, .ref mwo, .ref mga, .ref mlo, .ref mro, .ref mle, .ref mra, .int mme, .ref mha, .int mch, .int mtm, .int mgo, .int mwa, .ref mba, .int mbl, .ref mon])), (mti, .inl (cI, 32, .inl mtif)), (mtw, .inl (cI, 8, .inl mtwf))]) [2, 0, 1] (by decide) rfl) hS dX9_test_94
      · have c25' := I_ne c25
        refine lv_iload hx hb dX9_test_47 (lv_at hl 4 rfl) ?_
        obtain ⟨w31, ew31⟩ : ∃ z : Int64, Int32.toInt64 i4 = z := ⟨_, rfl⟩
        have hw31 := J_of i4
        rw [ew31] at hw31
        refine lv_i2l (v := w31) hx hb dX9_test_49 ew31 ?_
        refine lv_ldc2 (v := (-100)) hx hb hown (hts _ k_X9_151) dX9_test_50 ?_
        refine lv_ldc2 (v := 100) hx hb hown (hts _ k_X9_153) dX9_test_53 ?_
        refine calOI (rest := []) (wr := [(m0, .inr (8, [.int 0, .int mst, .ref mp, .int mln, .ref mk, .int mts, .ref mti, .ref mtw, .ref mi, .int mmn, .ref mpo, .int mpd, .ref mpi, .int mpl, .int mcp, .ref mre, .ref mnn, .ref mwo, .ref mga, .ref mlo, .ref mro, .ref mle, .ref mra, .int mme, .ref mha, .int mch, .int mtm, .int mgo, .int mwa, .ref mba, .int mbl, .ref mon])), (mti, .inl (cI, 32, .inl mtif)), (mtw, .inl (cI, 8, .inl mtwf))]) hG (c_X9_in l dC dI cI cJ base bB bO w31 (-100) 100 ) ml_X9_77 st_X9_in ini_X9 cd_X9_in hd_X9_in.2 ⟨(Nat.le_of_ble_eq_true rfl), (Nat.le_of_ble_eq_true rfl)⟩ (Nat.le_of_ble_eq_true rfl) (Nat.le_of_ble_eq_true rfl) hP hD hS [] [0, 1, 2] rfl rfl rfl rfl (by decide) hl.1 rfl (Nat.le_of_ble_eq_true rfl) dX9_test_56 (fun r32 u H locs hw33 hP hD hS => ?_)
        have hw33 : ((r32.toInt = 1 ∧ (-100 : Int64).toInt ≤ w31.toInt ∧ w31.toInt ≤ (100 : Int64).toInt) ∨ (r32.toInt = 0 ∧ (w31.toInt < (-100 : Int64).toInt ∨ (100 : Int64).toInt < w31.toInt))) ∧ True := hw33
        obtain ⟨hp34, -⟩ := hw33
        have hP : va_P (dC, dI) vwCl [(m0, .inr (8, [.int 0, .int mst, .ref mp, .int mln, .ref mk, .int mts, .ref mti, .ref mtw, .ref mi, .int mmn, .ref mpo, .int mpd, .ref mpi, .int mpl, .int mcp, .ref mre, .ref mnn, .ref mwo, .ref mga, .ref mlo, .ref mro, .ref mle, .ref mra, .int mme, .ref mha, .int mch, .int mtm, .int mgo, .int mwa, .ref mba, .int mbl, .ref mon])), (mti, .inl (cI, 32, .inl mtif)), (mtw, .inl (cI, 8, .inl mtwf))] H := hP
        have hD : va_D A [(m0, .inr (8, [.int 0, .int mst, .ref mp, .int mln, .ref mk, .int mts, .ref mti, .ref mtw, .ref mi, .int mmn, .ref mpo, .int mpd, .ref mpi, .int mpl, .int mcp, .ref mre, .ref mnn, .ref mwo, .ref mga, .ref mlo, .ref mro, .ref mle, .ref mra, .int mme, .ref mha, .int mch, .int mtm, .int mgo, .int mwa, .ref mba, .int mbl, .ref mon])), (mti, .inl (cI, 32, .inl mtif)), (mtw, .inl (cI, 8, .inl mtwf))] := hD
        refine lv_if_eq (tgt := 81) hx hb dX9_test_59 (by decide) (fun c35 => ?_) (fun c35 => ?_)
        · have c35' := I_eq c35
          refine lv_iconst (v := 0) hx hb dX9_test_81 (by decide) ?_
          refine lv_istore (lv' := [(6, .int 0), (0, .ref m0), (1, .int i1), (2, .int i2), (3, .int i3), (4, .int i4), (5, .int y)]) hx hb dX9_test_82 hl (by decide) rfl (fun ls hl => ?_)
          refine lv_iload hx hb dX9_test_84 (lv_at hl 0 rfl) ?_
          refine lv_if_ne (tgt := 95) hx hb dX9_test_86 (by decide) (fun c36 => ?_) (fun c36 => ?_)
          · have c36' := I_ne c36
            exact absurd c36 (by decide)
          · have c36' := I_eq c36
            refine lv_aload_n hx hb dX9_test_89 rfl (lv_at hl 1 rfl) ?_
            refine lv_iconst (v := (-1)) hx hb dX9_test_90 (by decide) ?_
            refine calI (rest := []) (wr := [(mti, .inl (cI, 32, .inl mtif)), (mtw, .inl (cI, 8, .inl mtwf))]) hG (c_X9_told l dC dI cI cJ base bB bO m0 0 mst mp mln mk mts mti mtw mi mmn mpo mpd mpi mpl mcp mre mnn mwo mga mlo mro mle mra mme mha mch mtm mgo mwa mba mbl mon (-1) ) ml_X9_85 im_X9_told se_X9_told ini_X9 cd_X9_told hd_X9_told ⟨(Nat.le_of_ble_eq_true rfl), (Nat.le_of_ble_eq_true rfl)⟩ (Nat.le_of_ble_eq_true rfl) (Nat.le_of_ble_eq_true rfl) hP hD hS [0] [1, 2] rfl rfl rfl rfl (by decide) 8 0 rfl rfl hl.1 rfl (Nat.le_of_ble_eq_true rfl) dX9_test_91 (fun r37 u H locs hw38 hP hD hS => ?_)
            obtain ⟨mst_39, rfl⟩ : ∃ z, z = u := ⟨_, rfl⟩
            have hw38 : (r37 = (-1 : Int32)) ∧ True := hw38
            obtain ⟨hp40, -⟩ := hw38
            have hp40t := I_eq hp40
            have hP : va_P (dC, dI) vwCl [(mti, .inl (cI, 32, .inl mtif)), (mtw, .inl (cI, 8, .inl mtwf)), (m0, .inr (8, [.int 0, .int mst_39, .ref mp, .int mln, .ref mk, .int mts, .ref mti, .ref mtw, .ref mi, .int mmn, .ref mpo, .int mpd, .ref mpi, .int mpl, .int mcp, .ref mre, .ref mnn, .ref mwo, .ref mga, .ref mlo, .ref mro, .ref mle, .ref mra, .int mme, .ref mha, .int mch, .int mtm, .int mgo, .int mwa, .ref mba, .int mbl, .ref mon]))] H := hP
            have hD : va_D A [(mti, .inl (cI, 32, .inl mtif)), (mtw, .inl (cI, 8, .inl mtwf)), (m0, .inr (8, [.int 0, .int mst_39, .ref mp, .int mln, .ref mk, .int mts, .ref mti, .ref mtw, .ref mi, .int mmn, .ref mpo, .int mpd, .ref mpi, .int mpl, .int mcp, .ref mre, .ref mnn, .ref mwo, .ref mga, .ref mlo, .ref mro, .ref mle, .ref mra, .int mme, .ref mha, .int mch, .int mtm, .int mgo, .int mwa, .ref mba, .int mbl, .ref mon]))] := hD
            exact hret r37 (0, mst_39, mts, mtif, mtwf) H locs 94 ls rfl ⟨(show 0 ≤ mts.toInt ∧ mts.toInt ≤ 8 from by first | rfl | assumption | omega), (show ((-100 ≤ i1.toInt ∧ i1.toInt ≤ 100 ∧ -100 ≤ i2.toInt ∧ i2.toInt ≤ 100 ∧ -100 ≤ i3.toInt ∧ i3.toInt ≤ 100 ∧ -100 ≤ i4.toInt ∧ i4.toInt ≤ 100 ∧ -1000000 ≤ y.toInt ∧ y.toInt ≤ 1000000) ∧ mts.toInt < 8 ∧ r37.toInt = mts.toInt ∧ mts.toInt = mts.toInt + 1) ∨ ((-100 ≤ i1.toInt ∧ i1.toInt ≤ 100 ∧ -100 ≤ i2.toInt ∧ i2.toInt ≤ 100 ∧ -100 ≤ i3.toInt ∧ i3.toInt ≤ 100 ∧ -100 ≤ i4.toInt ∧ i4.toInt ≤ 100 ∧ -1000000 ≤ y.toInt ∧ y.toInt ≤ 1000000) ∧ mts.toInt = 8 ∧ r37.toInt = -5 ∧ mts.toInt = mts.toInt) ∨ (¬ (-100 ≤ i1.toInt ∧ i1.toInt ≤ 100 ∧ -100 ≤ i2.toInt ∧ i2.toInt ≤ 100 ∧ -100 ≤ i3.toInt ∧ i3.toInt ≤ 100 ∧ -100 ≤ i4.toInt ∧ i4.toInt ≤ 100 ∧ -1000000 ≤ y.toInt ∧ y.toInt ≤ 1000000) ∧ r37.toInt = -1 ∧ mts.toInt = mts.toInt) from by first | rfl | assumption | omega), trivial⟩ (hP.sub (ws' := [(m0, .inr (8, [.int 0, .int mst_39, .ref mp, .int mln, .ref mk, .int mts, .ref mti, .ref mtw, .ref mi, .int mmn, .ref mpo, .int mpd, .ref mpi, .int mpl, .int mcp, .ref mre, .ref mnn, .ref mwo, .ref mga, .ref mlo, .ref mro, .ref mle, .ref mra, .int mme, .ref mha, .int mch, .int mtm, .int mgo, .int mwa, .ref mba, .int mbl, .ref mon])), (mti, .inl (cI, 32, .inl mtif)), (mtw, .inl (cI, 8, .inl mtwf))]) [2, 0, 1] rfl) (hD.sub (ws' := [(m0, .inr (8, [.int 0, .int mst_39, .ref mp, .int mln, .ref mk, .int mts, .ref mti, .ref mtw, .ref mi, .int mmn, .ref mpo, .int mpd, .ref mpi, .int mpl, .int mcp, .ref mre, .ref mnn, .ref mwo, .ref mga, .ref mlo, .ref mro, .ref mle, .ref mra, .int mme, .ref mha, .int mch, .int mtm, .int mgo, .int mwa, .ref mba, .int mbl, .ref mon])), (mti, .inl (cI, 32, .inl mtif)), (mtw, .inl (cI, 8, .inl mtwf))]) [2, 0, 1] (by decide) rfl) hS dX9_test_94
        · have c35' := I_ne c35
          refine lv_iload hx hb dX9_test_62 (lv_at hl 5 rfl) ?_
          obtain ⟨w41, ew41⟩ : ∃ z : Int64, Int32.toInt64 y = z := ⟨_, rfl⟩
          have hw41 := J_of y
          rw [ew41] at hw41
          refine lv_i2l (v := w41) hx hb dX9_test_64 ew41 ?_
          refine lv_ldc2 (v := (-1000000)) hx hb hown (hts _ k_X9_134) dX9_test_65 ?_
          refine lv_ldc2 (v := 1000000) hx hb hown (hts _ k_X9_136) dX9_test_68 ?_
          refine calOI (rest := []) (wr := [(m0, .inr (8, [.int 0, .int mst, .ref mp, .int mln, .ref mk, .int mts, .ref mti, .ref mtw, .ref mi, .int mmn, .ref mpo, .int mpd, .ref mpi, .int mpl, .int mcp, .ref mre, .ref mnn, .ref mwo, .ref mga, .ref mlo, .ref mro, .ref mle, .ref mra, .int mme, .ref mha, .int mch, .int mtm, .int mgo, .int mwa, .ref mba, .int mbl, .ref mon])), (mti, .inl (cI, 32, .inl mtif)), (mtw, .inl (cI, 8, .inl mtwf))]) hG (c_X9_in l dC dI cI cJ base bB bO w41 (-1000000) 1000000 ) ml_X9_77 st_X9_in ini_X9 cd_X9_in hd_X9_in.2 ⟨(Nat.le_of_ble_eq_true rfl), (Nat.le_of_ble_eq_true rfl)⟩ (Nat.le_of_ble_eq_true rfl) (Nat.le_of_ble_eq_true rfl) hP hD hS [] [0, 1, 2] rfl rfl rfl rfl (by decide) hl.1 rfl (Nat.le_of_ble_eq_true rfl) dX9_test_71 (fun r42 u H locs hw43 hP hD hS => ?_)
          have hw43 : ((r42.toInt = 1 ∧ (-1000000 : Int64).toInt ≤ w41.toInt ∧ w41.toInt ≤ (1000000 : Int64).toInt) ∨ (r42.toInt = 0 ∧ (w41.toInt < (-1000000 : Int64).toInt ∨ (1000000 : Int64).toInt < w41.toInt))) ∧ True := hw43
          obtain ⟨hp44, -⟩ := hw43
          have hP : va_P (dC, dI) vwCl [(m0, .inr (8, [.int 0, .int mst, .ref mp, .int mln, .ref mk, .int mts, .ref mti, .ref mtw, .ref mi, .int mmn, .ref mpo, .int mpd, .ref mpi, .int mpl, .int mcp, .ref mre, .ref mnn, .ref mwo, .ref mga, .ref mlo, .ref mro, .ref mle, .ref mra, .int mme, .ref mha, .int mch, .int mtm, .int mgo, .int mwa, .ref mba, .int mbl, .ref mon])), (mti, .inl (cI, 32, .inl mtif)), (mtw, .inl (cI, 8, .inl mtwf))] H := hP
          have hD : va_D A [(m0, .inr (8, [.int 0, .int mst, .ref mp, .int mln, .ref mk, .int mts, .ref mti, .ref mtw, .ref mi, .int mmn, .ref mpo, .int mpd, .ref mpi, .int mpl, .int mcp, .ref mre, .ref mnn, .ref mwo, .ref mga, .ref mlo, .ref mro, .ref mle, .ref mra, .int mme, .ref mha, .int mch, .int mtm, .int mgo, .int mwa, .ref mba, .int mbl, .ref mon])), (mti, .inl (cI, 32, .inl mtif)), (mtw, .inl (cI, 8, .inl mtwf))] := hD
          refine lv_if_eq (tgt := 81) hx hb dX9_test_74 (by decide) (fun c45 => ?_) (fun c45 => ?_)
          · have c45' := I_eq c45
            refine lv_iconst (v := 0) hx hb dX9_test_81 (by decide) ?_
            refine lv_istore (lv' := [(6, .int 0), (0, .ref m0), (1, .int i1), (2, .int i2), (3, .int i3), (4, .int i4), (5, .int y)]) hx hb dX9_test_82 hl (by decide) rfl (fun ls hl => ?_)
            refine lv_iload hx hb dX9_test_84 (lv_at hl 0 rfl) ?_
            refine lv_if_ne (tgt := 95) hx hb dX9_test_86 (by decide) (fun c46 => ?_) (fun c46 => ?_)
            · have c46' := I_ne c46
              exact absurd c46 (by decide)
            · have c46' := I_eq c46
              refine lv_aload_n hx hb dX9_test_89 rfl (lv_at hl 1 rfl) ?_
              refine lv_iconst (v := (-1)) hx hb dX9_test_90 (by decide) ?_
              refine calI (rest := []) (wr := [(mti, .inl (cI, 32, .inl mtif)), (mtw, .inl (cI, 8, .inl mtwf))]) hG (c_X9_told l dC dI cI cJ base bB bO m0 0 mst mp mln mk mts mti mtw mi mmn mpo mpd mpi mpl mcp mre mnn mwo mga mlo mro mle mra mme mha mch mtm mgo mwa mba mbl mon (-1) ) ml_X9_85 im_X9_told se_X9_told ini_X9 cd_X9_told hd_X9_told ⟨(Nat.le_of_ble_eq_true rfl), (Nat.le_of_ble_eq_true rfl)⟩ (Nat.le_of_ble_eq_true rfl) (Nat.le_of_ble_eq_true rfl) hP hD hS [0] [1, 2] rfl rfl rfl rfl (by decide) 8 0 rfl rfl hl.1 rfl (Nat.le_of_ble_eq_true rfl) dX9_test_91 (fun r47 u H locs hw48 hP hD hS => ?_)
              obtain ⟨mst_49, rfl⟩ : ∃ z, z = u := ⟨_, rfl⟩
              have hw48 : (r47 = (-1 : Int32)) ∧ True := hw48
              obtain ⟨hp50, -⟩ := hw48
              have hp50t := I_eq hp50
              have hP : va_P (dC, dI) vwCl [(mti, .inl (cI, 32, .inl mtif)), (mtw, .inl (cI, 8, .inl mtwf)), (m0, .inr (8, [.int 0, .int mst_49, .ref mp, .int mln, .ref mk, .int mts, .ref mti, .ref mtw, .ref mi, .int mmn, .ref mpo, .int mpd, .ref mpi, .int mpl, .int mcp, .ref mre, .ref mnn, .ref mwo, .ref mga, .ref mlo, .ref mro, .ref mle, .ref mra, .int mme, .ref mha, .int mch, .int mtm, .int mgo, .int mwa, .ref mba, .int mbl, .ref mon]))] H := hP
              have hD : va_D A [(mti, .inl (cI, 32, .inl mtif)), (mtw, .inl (cI, 8, .inl mtwf)), (m0, .inr (8, [.int 0, .int mst_49, .ref mp, .int mln, .ref mk, .int mts, .ref mti, .ref mtw, .ref mi, .int mmn, .ref mpo, .int mpd, .ref mpi, .int mpl, .int mcp, .ref mre, .ref mnn, .ref mwo, .ref mga, .ref mlo, .ref mro, .ref mle, .ref mra, .int mme, .ref mha, .int mch, .int mtm, .int mgo, .int mwa, .ref mba, .int mbl, .ref mon]))] := hD
              exact hret r47 (0, mst_49, mts, mtif, mtwf) H locs 94 ls rfl ⟨(show 0 ≤ mts.toInt ∧ mts.toInt ≤ 8 from by first | rfl | assumption | omega), (show ((-100 ≤ i1.toInt ∧ i1.toInt ≤ 100 ∧ -100 ≤ i2.toInt ∧ i2.toInt ≤ 100 ∧ -100 ≤ i3.toInt ∧ i3.toInt ≤ 100 ∧ -100 ≤ i4.toInt ∧ i4.toInt ≤ 100 ∧ -1000000 ≤ y.toInt ∧ y.toInt ≤ 1000000) ∧ mts.toInt < 8 ∧ r47.toInt = mts.toInt ∧ mts.toInt = mts.toInt + 1) ∨ ((-100 ≤ i1.toInt ∧ i1.toInt ≤ 100 ∧ -100 ≤ i2.toInt ∧ i2.toInt ≤ 100 ∧ -100 ≤ i3.toInt ∧ i3.toInt ≤ 100 ∧ -100 ≤ i4.toInt ∧ i4.toInt ≤ 100 ∧ -1000000 ≤ y.toInt ∧ y.toInt ≤ 1000000) ∧ mts.toInt = 8 ∧ r47.toInt = -5 ∧ mts.toInt = mts.toInt) ∨ (¬ (-100 ≤ i1.toInt ∧ i1.toInt ≤ 100 ∧ -100 ≤ i2.toInt ∧ i2.toInt ≤ 100 ∧ -100 ≤ i3.toInt ∧ i3.toInt ≤ 100 ∧ -100 ≤ i4.toInt ∧ i4.toInt ≤ 100 ∧ -1000000 ≤ y.toInt ∧ y.toInt ≤ 1000000) ∧ r47.toInt = -1 ∧ mts.toInt = mts.toInt) from by first | rfl | assumption | omega), trivial⟩ (hP.sub (ws' := [(m0, .inr (8, [.int 0, .int mst_49, .ref mp, .int mln, .ref mk, .int mts, .ref mti, .ref mtw, .ref mi, .int mmn, .ref mpo, .int mpd, .ref mpi, .int mpl, .int mcp, .ref mre, .ref mnn, .ref mwo, .ref mga, .ref mlo, .ref mro, .ref mle, .ref mra, .int mme, .ref mha, .int mch, .int mtm, .int mgo, .int mwa, .ref mba, .int mbl, .ref mon])), (mti, .inl (cI, 32, .inl mtif)), (mtw, .inl (cI, 8, .inl mtwf))]) [2, 0, 1] rfl) (hD.sub (ws' := [(m0, .inr (8, [.int 0, .int mst_49, .ref mp, .int mln, .ref mk, .int mts, .ref mti, .ref mtw, .ref mi, .int mmn, .ref mpo, .int mpd, .ref mpi, .int mpl, .int mcp, .ref mre, .ref mnn, .ref mwo, .ref mga, .ref mlo, .ref mro, .ref mle, .ref mra, .int mme, .ref mha, .int mch, .int mtm, .int mgo, .int mwa, .ref mba, .int mbl, .ref mon])), (mti, .inl (cI, 32, .inl mtif)), (mtw, .inl (cI, 8, .inl mtwf))]) [2, 0, 1] (by decide) rfl) hS dX9_test_94
          · have c45' := I_ne c45
            refine lv_iconst (v := 1) hx hb dX9_test_77 (by decide) ?_
            refine lv_goto (tgt := 82) hx hb dX9_test_78 (by decide) ?_
            refine lv_istore (lv' := [(6, .int 1), (0, .ref m0), (1, .int i1), (2, .int i2), (3, .int i3), (4, .int i4), (5, .int y)]) hx hb dX9_test_82 hl (by decide) rfl (fun ls hl => ?_)
            refine lv_iload hx hb dX9_test_84 (lv_at hl 0 rfl) ?_
            refine lv_if_ne (tgt := 95) hx hb dX9_test_86 (by decide) (fun c51 => ?_) (fun c51 => ?_)
            · have c51' := I_ne c51
              refine lv_aload_n hx hb dX9_test_95 rfl (lv_at hl 1 rfl) ?_
              refine va_get (D := (dC, dI)) (ci := 8) (v := .int mts) (C := RX9) (T := TX9) (N := 32) hx hb hts inG_X9 hown hK hP 0 rfl rfl 5 (by decide) (hts _ fl_X9_155) (fun _ h9 => h9) rfl dX9_test_96 ?_
              refine lv_bipush (v := 8) hx hb dX9_test_99 (by decide) ?_
              refine lv_icmp_ne (tgt := 111) hx hb dX9_test_101 (by decide) (fun c52 => ?_) (fun c52 => ?_)
              · have c52' := I_ne c52
                refine lv_aload_n hx hb dX9_test_111 rfl (lv_at hl 1 rfl) ?_
                refine va_get (D := (dC, dI)) (ci := 8) (v := .ref mti) (C := RX9) (T := TX9) (N := 32) hx hb hts inG_X9 hown hK hP 0 rfl rfl 6 (by decide) (hts _ fl_X9_16) (fun _ h9 => h9) rfl dX9_test_112 ?_
                refine lv_iconst (v := 4) hx hb dX9_test_115 (by decide) ?_
                refine lv_aload_n hx hb dX9_test_116 rfl (lv_at hl 1 rfl) ?_
                refine va_get (D := (dC, dI)) (ci := 8) (v := .int mts) (C := RX9) (T := TX9) (N := 32) hx hb hts inG_X9 hown hK hP 0 rfl rfl 5 (by decide) (hts _ fl_X9_155) (fun _ h9 => h9) rfl dX9_test_117 ?_
                refine lv_imul hx hb dX9_test_120 ?_
                refine lv_topi (fun v53 ev53 => ?_)
                try have hv53 := I_mulxl (4) ev53 (by decide) (by omega)
                refine lv_iload_n hx hb dX9_test_121 rfl (lv_at hl 2 rfl) ?_
                refine va_iast (t0 := 0) hx hb hK hP hD hS 1 (ha := rfl) (ht := rfl) (I_in (by omega) (by omega)) dX9_test_122 (fun H locs hP hD hS => ?_)
                have hP : va_P (dC, dI) vwCl [(m0, .inr (8, [.int 0, .int mst, .ref mp, .int mln, .ref mk, .int mts, .ref mti, .ref mtw, .ref mi, .int mmn, .ref mpo, .int mpd, .ref mpi, .int mpl, .int mcp, .ref mre, .ref mnn, .ref mwo, .ref mga, .ref mlo, .ref mro, .ref mle, .ref mra, .int mme, .ref mha, .int mch, .int mtm, .int mgo, .int mwa, .ref mba, .int mbl, .ref mon])), (mti, .inl (cI, 32, .inl (upd mtif v53.toNatClampNeg i1))), (mtw, .inl (cI, 8, .inl mtwf))] H := hP
                have hD : va_D A [(m0, .inr (8, [.int 0, .int mst, .ref mp, .int mln, .ref mk, .int mts, .ref mti, .ref mtw, .ref mi, .int mmn, .ref mpo, .int mpd, .ref mpi, .int mpl, .int mcp, .ref mre, .ref mnn, .ref mwo, .ref mga, .ref mlo, .ref mro, .ref mle, .ref mra, .int mme, .ref mha, .int mch, .int mtm, .int mgo, .int mwa, .ref mba, .int mbl, .ref mon])), (mti, .inl (cI, 32, .inl (upd mtif v53.toNatClampNeg i1))), (mtw, .inl (cI, 8, .inl mtwf))] := hD
                generalize ef54 : upd mtif v53.toNatClampNeg i1 = f54 at hP hD
                refine lv_aload_n hx hb dX9_test_123 rfl (lv_at hl 1 rfl) ?_
                refine va_get (D := (dC, dI)) (ci := 8) (v := .ref mti) (C := RX9) (T := TX9) (N := 32) hx hb hts inG_X9 hown hK hP 0 rfl rfl 6 (by decide) (hts _ fl_X9_16) (fun _ h9 => h9) rfl dX9_test_124 ?_
                refine lv_iconst (v := 4) hx hb dX9_test_127 (by decide) ?_
                refine lv_aload_n hx hb dX9_test_128 rfl (lv_at hl 1 rfl) ?_
                refine va_get (D := (dC, dI)) (ci := 8) (v := .int mts) (C := RX9) (T := TX9) (N := 32) hx hb hts inG_X9 hown hK hP 0 rfl rfl 5 (by decide) (hts _ fl_X9_155) (fun _ h9 => h9) rfl dX9_test_129 ?_
                refine lv_imul hx hb dX9_test_132 ?_
                refine lv_topi (fun v55 ev55 => ?_)
                try have hv55 := I_mulxl (4) ev55 (by decide) (by omega)
                refine lv_iconst (v := 1) hx hb dX9_test_133 (by decide) ?_
                refine lv_iadd hx hb dX9_test_134 ?_
                refine lv_topi (fun v56 ev56 => ?_)
                try have hv56 : v56.toInt = v55.toInt + (1 : Int32).toInt := I_addx ev56 (by omega)
                refine lv_iload_n hx hb dX9_test_135 rfl (lv_at hl 3 rfl) ?_
                refine va_iast (t0 := 0) hx hb hK hP hD hS 1 (ha := rfl) (ht := rfl) (I_in (by omega) (by omega)) dX9_test_136 (fun H locs hP hD hS => ?_)
                have hP : va_P (dC, dI) vwCl [(m0, .inr (8, [.int 0, .int mst, .ref mp, .int mln, .ref mk, .int mts, .ref mti, .ref mtw, .ref mi, .int mmn, .ref mpo, .int mpd, .ref mpi, .int mpl, .int mcp, .ref mre, .ref mnn, .ref mwo, .ref mga, .ref mlo, .ref mro, .ref mle, .ref mra, .int mme, .ref mha, .int mch, .int mtm, .int mgo, .int mwa, .ref mba, .int mbl, .ref mon])), (mti, .inl (cI, 32, .inl (upd f54 v56.toNatClampNeg i2))), (mtw, .inl (cI, 8, .inl mtwf))] H := hP
                have hD : va_D A [(m0, .inr (8, [.int 0, .int mst, .ref mp, .int mln, .ref mk, .int mts, .ref mti, .ref mtw, .ref mi, .int mmn, .ref mpo, .int mpd, .ref mpi, .int mpl, .int mcp, .ref mre, .ref mnn, .ref mwo, .ref mga, .ref mlo, .ref mro, .ref mle, .ref mra, .int mme, .ref mha, .int mch, .int mtm, .int mgo, .int mwa, .ref mba, .int mbl, .ref mon])), (mti, .inl (cI, 32, .inl (upd f54 v56.toNatClampNeg i2))), (mtw, .inl (cI, 8, .inl mtwf))] := hD
                generalize ef57 : upd f54 v56.toNatClampNeg i2 = f57 at hP hD
                refine lv_aload_n hx hb dX9_test_137 rfl (lv_at hl 1 rfl) ?_
                refine va_get (D := (dC, dI)) (ci := 8) (v := .ref mti) (C := RX9) (T := TX9) (N := 32) hx hb hts inG_X9 hown hK hP 0 rfl rfl 6 (by decide) (hts _ fl_X9_16) (fun _ h9 => h9) rfl dX9_test_138 ?_
                refine lv_iconst (v := 4) hx hb dX9_test_141 (by decide) ?_
                refine lv_aload_n hx hb dX9_test_142 rfl (lv_at hl 1 rfl) ?_
                refine va_get (D := (dC, dI)) (ci := 8) (v := .int mts) (C := RX9) (T := TX9) (N := 32) hx hb hts inG_X9 hown hK hP 0 rfl rfl 5 (by decide) (hts _ fl_X9_155) (fun _ h9 => h9) rfl dX9_test_143 ?_
                refine lv_imul hx hb dX9_test_146 ?_
                refine lv_topi (fun v58 ev58 => ?_)
                try have hv58 := I_mulxl (4) ev58 (by decide) (by omega)
                refine lv_iconst (v := 2) hx hb dX9_test_147 (by decide) ?_
                refine lv_iadd hx hb dX9_test_148 ?_
                refine lv_topi (fun v59 ev59 => ?_)
                try have hv59 : v59.toInt = v58.toInt + (2 : Int32).toInt := I_addx ev59 (by omega)
                refine lv_iload_n hx hb dX9_test_149 rfl (lv_at hl 4 rfl) ?_
                refine va_iast (t0 := 0) hx hb hK hP hD hS 1 (ha := rfl) (ht := rfl) (I_in (by omega) (by omega)) dX9_test_150 (fun H locs hP hD hS => ?_)
                have hP : va_P (dC, dI) vwCl [(m0, .inr (8, [.int 0, .int mst, .ref mp, .int mln, .ref mk, .int mts, .ref mti, .ref mtw, .ref mi, .int mmn, .ref mpo, .int mpd, .ref mpi, .int mpl, .int mcp, .ref mre, .ref mnn, .ref mwo, .ref mga, .ref mlo, .ref mro, .ref mle, .ref mra, .int mme, .ref mha, .int mch, .int mtm, .int mgo, .int mwa, .ref mba, .int mbl, .ref mon])), (mti, .inl (cI, 32, .inl (upd f57 v59.toNatClampNeg i3))), (mtw, .inl (cI, 8, .inl mtwf))] H := hP
                have hD : va_D A [(m0, .inr (8, [.int 0, .int mst, .ref mp, .int mln, .ref mk, .int mts, .ref mti, .ref mtw, .ref mi, .int mmn, .ref mpo, .int mpd, .ref mpi, .int mpl, .int mcp, .ref mre, .ref mnn, .ref mwo, .ref mga, .ref mlo, .ref mro, .ref mle, .ref mra, .int mme, .ref mha, .int mch, .int mtm, .int mgo, .int mwa, .ref mba, .int mbl, .ref mon])), (mti, .inl (cI, 32, .inl (upd f57 v59.toNatClampNeg i3))), (mtw, .inl (cI, 8, .inl mtwf))] := hD
                generalize ef60 : upd f57 v59.toNatClampNeg i3 = f60 at hP hD
                refine lv_aload_n hx hb dX9_test_151 rfl (lv_at hl 1 rfl) ?_
                refine va_get (D := (dC, dI)) (ci := 8) (v := .ref mti) (C := RX9) (T := TX9) (N := 32) hx hb hts inG_X9 hown hK hP 0 rfl rfl 6 (by decide) (hts _ fl_X9_16) (fun _ h9 => h9) rfl dX9_test_152 ?_
                refine lv_iconst (v := 4) hx hb dX9_test_155 (by decide) ?_
                refine lv_aload_n hx hb dX9_test_156 rfl (lv_at hl 1 rfl) ?_
                refine va_get (D := (dC, dI)) (ci := 8) (v := .int mts) (C := RX9) (T := TX9) (N := 32) hx hb hts inG_X9 hown hK hP 0 rfl rfl 5 (by decide) (hts _ fl_X9_155) (fun _ h9 => h9) rfl dX9_test_157 ?_
                refine lv_imul hx hb dX9_test_160 ?_
                refine lv_topi (fun v61 ev61 => ?_)
                try have hv61 := I_mulxl (4) ev61 (by decide) (by omega)
                refine lv_iconst (v := 3) hx hb dX9_test_161 (by decide) ?_
                refine lv_iadd hx hb dX9_test_162 ?_
                refine lv_topi (fun v62 ev62 => ?_)
                try have hv62 : v62.toInt = v61.toInt + (3 : Int32).toInt := I_addx ev62 (by omega)
                refine lv_iload hx hb dX9_test_163 (lv_at hl 5 rfl) ?_
                refine va_iast (t0 := 0) hx hb hK hP hD hS 1 (ha := rfl) (ht := rfl) (I_in (by omega) (by omega)) dX9_test_165 (fun H locs hP hD hS => ?_)
                have hP : va_P (dC, dI) vwCl [(m0, .inr (8, [.int 0, .int mst, .ref mp, .int mln, .ref mk, .int mts, .ref mti, .ref mtw, .ref mi, .int mmn, .ref mpo, .int mpd, .ref mpi, .int mpl, .int mcp, .ref mre, .ref mnn, .ref mwo, .ref mga, .ref mlo, .ref mro, .ref mle, .ref mra, .int mme, .ref mha, .int mch, .int mtm, .int mgo, .int mwa, .ref mba, .int mbl, .ref mon])), (mti, .inl (cI, 32, .inl (upd f60 v62.toNatClampNeg i4))), (mtw, .inl (cI, 8, .inl mtwf))] H := hP
                have hD : va_D A [(m0, .inr (8, [.int 0, .int mst, .ref mp, .int mln, .ref mk, .int mts, .ref mti, .ref mtw, .ref mi, .int mmn, .ref mpo, .int mpd, .ref mpi, .int mpl, .int mcp, .ref mre, .ref mnn, .ref mwo, .ref mga, .ref mlo, .ref mro, .ref mle, .ref mra, .int mme, .ref mha, .int mch, .int mtm, .int mgo, .int mwa, .ref mba, .int mbl, .ref mon])), (mti, .inl (cI, 32, .inl (upd f60 v62.toNatClampNeg i4))), (mtw, .inl (cI, 8, .inl mtwf))] := hD
                generalize ef63 : upd f60 v62.toNatClampNeg i4 = f63 at hP hD
                refine lv_aload_n hx hb dX9_test_166 rfl (lv_at hl 1 rfl) ?_
                refine va_get (D := (dC, dI)) (ci := 8) (v := .ref mtw) (C := RX9) (T := TX9) (N := 32) hx hb hts inG_X9 hown hK hP 0 rfl rfl 7 (by decide) (hts _ fl_X9_19) (fun _ h9 => h9) rfl dX9_test_167 ?_
                refine lv_aload_n hx hb dX9_test_170 rfl (lv_at hl 1 rfl) ?_
                refine va_get (D := (dC, dI)) (ci := 8) (v := .int mts) (C := RX9) (T := TX9) (N := 32) hx hb hts inG_X9 hown hK hP 0 rfl rfl 5 (by decide) (hts _ fl_X9_155) (fun _ h9 => h9) rfl dX9_test_171 ?_
                refine lv_iload hx hb dX9_test_174 (lv_at hl 6 rfl) ?_
                refine va_iast (t0 := 0) hx hb hK hP hD hS 2 (ha := rfl) (ht := rfl) (I_in (by omega) (by omega)) dX9_test_176 (fun H locs hP hD hS => ?_)
                have hP : va_P (dC, dI) vwCl [(m0, .inr (8, [.int 0, .int mst, .ref mp, .int mln, .ref mk, .int mts, .ref mti, .ref mtw, .ref mi, .int mmn, .ref mpo, .int mpd, .ref mpi, .int mpl, .int mcp, .ref mre, .ref mnn, .ref mwo, .ref mga, .ref mlo, .ref mro, .ref mle, .ref mra, .int mme, .ref mha, .int mch, .int mtm, .int mgo, .int mwa, .ref mba, .int mbl, .ref mon])), (mti, .inl (cI, 32, .inl f63)), (mtw, .inl (cI, 8, .inl (upd mtwf mts.toNatClampNeg y)))] H := hP
                have hD : va_D A [(m0, .inr (8, [.int 0, .int mst, .ref mp, .int mln, .ref mk, .int mts, .ref mti, .ref mtw, .ref mi, .int mmn, .ref mpo, .int mpd, .ref mpi, .int mpl, .int mcp, .ref mre, .ref mnn, .ref mwo, .ref mga, .ref mlo, .ref mro, .ref mle, .ref mra, .int mme, .ref mha, .int mch, .int mtm, .int mgo, .int mwa, .ref mba, .int mbl, .ref mon])), (mti, .inl (cI, 32, .inl f63)), (mtw, .inl (cI, 8, .inl (upd mtwf mts.toNatClampNeg y)))] := hD
                generalize ef64 : upd mtwf mts.toNatClampNeg y = f64 at hP hD
                refine lv_aload_n hx hb dX9_test_177 rfl (lv_at hl 1 rfl) ?_
                refine lv_dup hx hb dX9_test_178 rfl ?_
                refine va_get (D := (dC, dI)) (ci := 8) (v := .int mts) (C := RX9) (T := TX9) (N := 32) hx hb hts inG_X9 hown hK hP 0 rfl rfl 5 (by decide) (hts _ fl_X9_155) (fun _ h9 => h9) rfl dX9_test_179 ?_
                refine lv_iconst (v := 1) hx hb dX9_test_182 (by decide) ?_
                refine lv_iadd hx hb dX9_test_183 ?_
                refine lv_topi (fun v65 ev65 => ?_)
                try have hv65 : v65.toInt = mts.toInt + (1 : Int32).toInt := I_addx ev65 (by omega)
                refine va_put (D := (dC, dI)) (ci := 8) (v := .int v65) (ty := .int) (C := RX9) (T := TX9) (N := 32) hx hb hts inG_X9 tyX9 tyX9_ok nmX9 hown hK hP hD hS 0 rfl rfl 5 (by decide) (hts _ fl_X9_155) (fun _ h9 => h9) rfl (by decide +kernel) rfl rfl (Nat.le_of_ble_eq_true rfl) dX9_test_184 (fun H locs hP hD hS => ?_)
                have hP : va_P (dC, dI) vwCl [(m0, .inr (8, [.int 0, .int mst, .ref mp, .int mln, .ref mk, .int v65, .ref mti, .ref mtw, .ref mi, .int mmn, .ref mpo, .int mpd, .ref mpi, .int mpl, .int mcp, .ref mre, .ref mnn, .ref mwo, .ref mga, .ref mlo, .ref mro, .ref mle, .ref mra, .int mme, .ref mha, .int mch, .int mtm, .int mgo, .int mwa, .ref mba, .int mbl, .ref mon])), (mti, .inl (cI, 32, .inl f63)), (mtw, .inl (cI, 8, .inl f64))] H := hP
                have hD : va_D A [(m0, .inr (8, [.int 0, .int mst, .ref mp, .int mln, .ref mk, .int v65, .ref mti, .ref mtw, .ref mi, .int mmn, .ref mpo, .int mpd, .ref mpi, .int mpl, .int mcp, .ref mre, .ref mnn, .ref mwo, .ref mga, .ref mlo, .ref mro, .ref mle, .ref mra, .int mme, .ref mha, .int mch, .int mtm, .int mgo, .int mwa, .ref mba, .int mbl, .ref mon])), (mti, .inl (cI, 32, .inl f63)), (mtw, .inl (cI, 8, .inl f64))] := hD
                refine lv_aload_n hx hb dX9_test_187 rfl (lv_at hl 1 rfl) ?_
                refine lv_aload_n hx hb dX9_test_188 rfl (lv_at hl 1 rfl) ?_
                refine va_get (D := (dC, dI)) (ci := 8) (v := .int v65) (C := RX9) (T := TX9) (N := 32) hx hb hts inG_X9 hown hK hP 0 rfl rfl 5 (by decide) (hts _ fl_X9_155) (fun _ h9 => h9) rfl dX9_test_189 ?_
                refine lv_iconst (v := 1) hx hb dX9_test_192 (by decide) ?_
                refine lv_isub hx hb dX9_test_193 ?_
                refine lv_topi (fun v66 ev66 => ?_)
                try have hv66 : v66.toInt = v65.toInt - (1 : Int32).toInt := I_subx ev66 (by omega)
                refine calI (rest := []) (wr := [(mti, .inl (cI, 32, .inl f63)), (mtw, .inl (cI, 8, .inl f64))]) hG (c_X9_told l dC dI cI cJ base bB bO m0 0 mst mp mln mk v65 mti mtw mi mmn mpo mpd mpi mpl mcp mre mnn mwo mga mlo mro mle mra mme mha mch mtm mgo mwa mba mbl mon v66 ) ml_X9_85 im_X9_told se_X9_told ini_X9 cd_X9_told hd_X9_told ⟨(Nat.le_of_ble_eq_true rfl), (Nat.le_of_ble_eq_true rfl)⟩ (Nat.le_of_ble_eq_true rfl) (Nat.le_of_ble_eq_true rfl) hP hD hS [0] [1, 2] rfl rfl rfl rfl (by decide) 8 0 rfl rfl hl.1 rfl (Nat.le_of_ble_eq_true rfl) dX9_test_194 (fun r67 u H locs hw68 hP hD hS => ?_)
                obtain ⟨mst_69, rfl⟩ : ∃ z, z = u := ⟨_, rfl⟩
                have hw68 : (r67 = v66) ∧ True := hw68
                obtain ⟨hp70, -⟩ := hw68
                have hp70t := I_eq hp70
                have hP : va_P (dC, dI) vwCl [(mti, .inl (cI, 32, .inl f63)), (mtw, .inl (cI, 8, .inl f64)), (m0, .inr (8, [.int 0, .int mst_69, .ref mp, .int mln, .ref mk, .int v65, .ref mti, .ref mtw, .ref mi, .int mmn, .ref mpo, .int mpd, .ref mpi, .int mpl, .int mcp, .ref mre, .ref mnn, .ref mwo, .ref mga, .ref mlo, .ref mro, .ref mle, .ref mra, .int mme, .ref mha, .int mch, .int mtm, .int mgo, .int mwa, .ref mba, .int mbl, .ref mon]))] H := hP
                have hD : va_D A [(mti, .inl (cI, 32, .inl f63)), (mtw, .inl (cI, 8, .inl f64)), (m0, .inr (8, [.int 0, .int mst_69, .ref mp, .int mln, .ref mk, .int v65, .ref mti, .ref mtw, .ref mi, .int mmn, .ref mpo, .int mpd, .ref mpi, .int mpl, .int mcp, .ref mre, .ref mnn, .ref mwo, .ref mga, .ref mlo, .ref mro, .ref mle, .ref mra, .int mme, .ref mha, .int mch, .int mtm, .int mgo, .int mwa, .ref mba, .int mbl, .ref mon]))] := hD
                exact hret r67 (0, mst_69, v65, f63, f64) H locs 197 ls rfl ⟨(show 0 ≤ v65.toInt ∧ v65.toInt ≤ 8 from by first | rfl | assumption | omega), (show ((-100 ≤ i1.toInt ∧ i1.toInt ≤ 100 ∧ -100 ≤ i2.toInt ∧ i2.toInt ≤ 100 ∧ -100 ≤ i3.toInt ∧ i3.toInt ≤ 100 ∧ -100 ≤ i4.toInt ∧ i4.toInt ≤ 100 ∧ -1000000 ≤ y.toInt ∧ y.toInt ≤ 1000000) ∧ mts.toInt < 8 ∧ r67.toInt = mts.toInt ∧ v65.toInt = mts.toInt + 1) ∨ ((-100 ≤ i1.toInt ∧ i1.toInt ≤ 100 ∧ -100 ≤ i2.toInt ∧ i2.toInt ≤ 100 ∧ -100 ≤ i3.toInt ∧ i3.toInt ≤ 100 ∧ -100 ≤ i4.toInt ∧ i4.toInt ≤ 100 ∧ -1000000 ≤ y.toInt ∧ y.toInt ≤ 1000000) ∧ mts.toInt = 8 ∧ r67.toInt = -5 ∧ v65.toInt = mts.toInt) ∨ (¬ (-100 ≤ i1.toInt ∧ i1.toInt ≤ 100 ∧ -100 ≤ i2.toInt ∧ i2.toInt ≤ 100 ∧ -100 ≤ i3.toInt ∧ i3.toInt ≤ 100 ∧ -100 ≤ i4.toInt ∧ i4.toInt ≤ 100 ∧ -1000000 ≤ y.toInt ∧ y.toInt ≤ 1000000) ∧ r67.toInt = -1 ∧ v65.toInt = mts.toInt) from by first | rfl | assumption | omega), trivial⟩ (hP.sub (ws' := [(m0, .inr (8, [.int 0, .int mst_69, .ref mp, .int mln, .ref mk, .int v65, .ref mti, .ref mtw, .ref mi, .int mmn, .ref mpo, .int mpd, .ref mpi, .int mpl, .int mcp, .ref mre, .ref mnn, .ref mwo, .ref mga, .ref mlo, .ref mro, .ref mle, .ref mra, .int mme, .ref mha, .int mch, .int mtm, .int mgo, .int mwa, .ref mba, .int mbl, .ref mon])), (mti, .inl (cI, 32, .inl f63)), (mtw, .inl (cI, 8, .inl f64))]) [2, 0, 1] rfl) (hD.sub (ws' := [(m0, .inr (8, [.int 0, .int mst_69, .ref mp, .int mln, .ref mk, .int v65, .ref mti, .ref mtw, .ref mi, .int mmn, .ref mpo, .int mpd, .ref mpi, .int mpl, .int mcp, .ref mre, .ref mnn, .ref mwo, .ref mga, .ref mlo, .ref mro, .ref mle, .ref mra, .int mme, .ref mha, .int mch, .int mtm, .int mgo, .int mwa, .ref mba, .int mbl, .ref mon])), (mti, .inl (cI, 32, .inl f63)), (mtw, .inl (cI, 8, .inl f64))]) [2, 0, 1] (by decide) rfl) hS dX9_test_197
              · have c52' := I_eq c52
                refine lv_aload_n hx hb dX9_test_104 rfl (lv_at hl 1 rfl) ?_
                refine lv_bipush (v := (-5)) hx hb dX9_test_105 (by decide) ?_
                refine calI (rest := []) (wr := [(mti, .inl (cI, 32, .inl mtif)), (mtw, .inl (cI, 8, .inl mtwf))]) hG (c_X9_told l dC dI cI cJ base bB bO m0 0 mst mp mln mk mts mti mtw mi mmn mpo mpd mpi mpl mcp mre mnn mwo mga mlo mro mle mra mme mha mch mtm mgo mwa mba mbl mon (-5) ) ml_X9_85 im_X9_told se_X9_told ini_X9 cd_X9_told hd_X9_told ⟨(Nat.le_of_ble_eq_true rfl), (Nat.le_of_ble_eq_true rfl)⟩ (Nat.le_of_ble_eq_true rfl) (Nat.le_of_ble_eq_true rfl) hP hD hS [0] [1, 2] rfl rfl rfl rfl (by decide) 8 0 rfl rfl hl.1 rfl (Nat.le_of_ble_eq_true rfl) dX9_test_107 (fun r71 u H locs hw72 hP hD hS => ?_)
                obtain ⟨mst_73, rfl⟩ : ∃ z, z = u := ⟨_, rfl⟩
                have hw72 : (r71 = (-5 : Int32)) ∧ True := hw72
                obtain ⟨hp74, -⟩ := hw72
                have hp74t := I_eq hp74
                have hP : va_P (dC, dI) vwCl [(mti, .inl (cI, 32, .inl mtif)), (mtw, .inl (cI, 8, .inl mtwf)), (m0, .inr (8, [.int 0, .int mst_73, .ref mp, .int mln, .ref mk, .int mts, .ref mti, .ref mtw, .ref mi, .int mmn, .ref mpo, .int mpd, .ref mpi, .int mpl, .int mcp, .ref mre, .ref mnn, .ref mwo, .ref mga, .ref mlo, .ref mro, .ref mle, .ref mra, .int mme, .ref mha, .int mch, .int mtm, .int mgo, .int mwa, .ref mba, .int mbl, .ref mon]))] H := hP
                have hD : va_D A [(mti, .inl (cI, 32, .inl mtif)), (mtw, .inl (cI, 8, .inl mtwf)), (m0, .inr (8, [.int 0, .int mst_73, .ref mp, .int mln, .ref mk, .int mts, .ref mti, .ref mtw, .ref mi, .int mmn, .ref mpo, .int mpd, .ref mpi, .int mpl, .int mcp, .ref mre, .ref mnn, .ref mwo, .ref mga, .ref mlo, .ref mro, .ref mle, .ref mra, .int mme, .ref mha, .int mch, .int mtm, .int mgo, .int mwa, .ref mba, .int mbl, .ref mon]))] := hD
                exact hret r71 (0, mst_73, mts, mtif, mtwf) H locs 110 ls rfl ⟨(show 0 ≤ mts.toInt ∧ mts.toInt ≤ 8 from by first | rfl | assumption | omega), (show ((-100 ≤ i1.toInt ∧ i1.toInt ≤ 100 ∧ -100 ≤ i2.toInt ∧ i2.toInt ≤ 100 ∧ -100 ≤ i3.toInt ∧ i3.toInt ≤ 100 ∧ -100 ≤ i4.toInt ∧ i4.toInt ≤ 100 ∧ -1000000 ≤ y.toInt ∧ y.toInt ≤ 1000000) ∧ mts.toInt < 8 ∧ r71.toInt = mts.toInt ∧ mts.toInt = mts.toInt + 1) ∨ ((-100 ≤ i1.toInt ∧ i1.toInt ≤ 100 ∧ -100 ≤ i2.toInt ∧ i2.toInt ≤ 100 ∧ -100 ≤ i3.toInt ∧ i3.toInt ≤ 100 ∧ -100 ≤ i4.toInt ∧ i4.toInt ≤ 100 ∧ -1000000 ≤ y.toInt ∧ y.toInt ≤ 1000000) ∧ mts.toInt = 8 ∧ r71.toInt = -5 ∧ mts.toInt = mts.toInt) ∨ (¬ (-100 ≤ i1.toInt ∧ i1.toInt ≤ 100 ∧ -100 ≤ i2.toInt ∧ i2.toInt ≤ 100 ∧ -100 ≤ i3.toInt ∧ i3.toInt ≤ 100 ∧ -100 ≤ i4.toInt ∧ i4.toInt ≤ 100 ∧ -1000000 ≤ y.toInt ∧ y.toInt ≤ 1000000) ∧ r71.toInt = -1 ∧ mts.toInt = mts.toInt) from by first | rfl | assumption | omega), trivial⟩ (hP.sub (ws' := [(m0, .inr (8, [.int 0, .int mst_73, .ref mp, .int mln, .ref mk, .int mts, .ref mti, .ref mtw, .ref mi, .int mmn, .ref mpo, .int mpd, .ref mpi, .int mpl, .int mcp, .ref mre, .ref mnn, .ref mwo, .ref mga, .ref mlo, .ref mro, .ref mle, .ref mra, .int mme, .ref mha, .int mch, .int mtm, .int mgo, .int mwa, .ref mba, .int mbl, .ref mon])), (mti, .inl (cI, 32, .inl mtif)), (mtw, .inl (cI, 8, .inl mtwf))]) [2, 0, 1] rfl) (hD.sub (ws' := [(m0, .inr (8, [.int 0, .int mst_73, .ref mp, .int mln, .ref mk, .int mts, .ref mti, .ref mtw, .ref mi, .int mmn, .ref mpo, .int mpd, .ref mpi, .int mpl, .int mcp, .ref mre, .ref mnn, .ref mwo, .ref mga, .ref mlo, .ref mro, .ref mle, .ref mra, .int mme, .ref mha, .int mch, .int mtm, .int mgo, .int mwa, .ref mba, .int mbl, .ref mon])), (mti, .inl (cI, 32, .inl mtif)), (mtw, .inl (cI, 8, .inl mtwf))]) [2, 0, 1] (by decide) rfl) hS dX9_test_110
            · have c51' := I_eq c51
              exact absurd c51 (by decide)
set_option maxHeartbeats 4000000 in
set_option maxRecDepth 100000 in
theorem c_X9_drop (l : Launch) (dC : Nat → ClassId) (dI : Nat → Nat → Nat) (cI cJ : ClassId) (base bB bO : Nat) (m0 : Nat) (mth : Int32) (mst : Int32) (mp : Nat) (mln : Int32) (mk : Nat) (mts : Int32) (mti : Nat) (mtw : Nat) (mi : Nat) (mmn : Int32) (mpo : Nat) (mpd : Int32) (mpi : Nat) (mpl : Int32) (mcp : Int32) (mre : Nat) (mnn : Nat) (mwo : Nat) (mga : Nat) (mlo : Nat) (mro : Nat) (mle : Nat) (mra : Nat) (mme : Int32) (mha : Nat) (mch : Int32) (mtm : Int32) (mgo : Int32) (mwa : Int32) (mba : Nat) (mbl : Int32) (mon : Nat) (mtif : Nat → Int32) (mtwf : Nat → Int32) (i : Int32) (hq0 : 0 ≤ mts.toInt ∧ mts.toInt ≤ 8) : CtI l dC dI cI cJ base bB bO yX9_drop cX9_drop 4 .int 1 25 [.ref m0, .int i] [(m0, .inr (8, [.int mth, .int mst, .ref mp, .int mln, .ref mk, .int mts, .ref mti, .ref mtw, .ref mi, .int mmn, .ref mpo, .int mpd, .ref mpi, .int mpl, .int mcp, .ref mre, .ref mnn, .ref mwo, .ref mga, .ref mlo, .ref mro, .ref mle, .ref mra, .int mme, .ref mha, .int mch, .int mtm, .int mgo, .int mwa, .ref mba, .int mbl, .ref mon])), (mti, .inl (cI, 32, .inl mtif)), (mtw, .inl (cI, 8, .inl mtwf))] ((Int32) × (Int32) × (Int32) × (Nat → Int32) × (Nat → Int32)) (fun (res : Int32) (u : (Int32) × (Int32) × (Int32) × (Nat → Int32) × (Nat → Int32)) => (0 ≤ u.2.2.1.toInt ∧ u.2.2.1.toInt ≤ 8) ∧ ((0 ≤ i.toInt ∧ i.toInt < mts.toInt ∧ res.toInt = mts.toInt - 1 ∧ u.2.2.1.toInt = mts.toInt - 1) ∨ ((i.toInt < 0 ∨ mts.toInt ≤ i.toInt) ∧ res.toInt = -2 ∧ u.2.2.1.toInt = mts.toInt)) ∧ True) (fun (u : (Int32) × (Int32) × (Int32) × (Nat → Int32) × (Nat → Int32)) => [(m0, .inr (8, [.int u.1, .int u.2.1, .ref mp, .int mln, .ref mk, .int u.2.2.1, .ref mti, .ref mtw, .ref mi, .int mmn, .ref mpo, .int mpd, .ref mpi, .int mpl, .int mcp, .ref mre, .ref mnn, .ref mwo, .ref mga, .ref mlo, .ref mro, .ref mle, .ref mra, .int mme, .ref mha, .int mch, .int mtm, .int mgo, .int mwa, .ref mba, .int mbl, .ref mon])), (mti, .inl (cI, 32, .inl u.2.2.2.1)), (mtw, .inl (cI, 8, .inl u.2.2.2.2))]) := by
  refine entI (by decide) (Nat.le_of_ble_eq_true rfl) ?_
  intro p e s m below meth c A Q ls hAt hret hP hD hS hl
  obtain ⟨hx, hb, hml, hown, hts, hA, hAb, hK, hE, hlocks, hin⟩ := hAt
  have hG : CG dC dI cI cJ base bB bO cX9_drop 4 RX9 p s m (List.toArray [.ref m0, .int i]) c A := ⟨hx, hb, hml, hown, hts, hA, hAb, hK, hE⟩
  have hl : lv_has ls 4 [(0, .ref m0), (1, .int i)] := hl
  have c_m2 : (-2 : Int32).toInt = -2 := by decide
  have c_0 : (0 : Int32).toInt = 0 := by decide
  have c_1 : (1 : Int32).toInt = 1 := by decide
  have c_4 : (4 : Int32).toInt = 4 := by decide
  have cl_0 : (0 : Int64).toInt = 0 := by decide
  have cl_1 : (1 : Int64).toInt = 1 := by decide
  obtain ⟨H, hHe⟩ : ∃ H : Heap, H = s.heap := ⟨_, rfl⟩
  obtain ⟨locs, hle⟩ : ∃ z : List Loc, z = [] := ⟨_, rfl⟩
  rw [← hHe] at hP
  have hS : va_S A s.heap H locs := by rw [hHe, hle]; exact hS
  suffices hgo : W p l e { frames := 1, cells := 0, slots := 0, locals := 25 } s m (List.toArray [.ref m0, .int i]) below meth c H locs 0 0 Q (F0 m 0 ls []) by rw [hHe, hle] at hgo; exact hgo
  refine lv_aload_n hx hb dX9_drop_0 rfl (lv_at hl 0 rfl) ?_
  refine lv_iconst (v := 0) hx hb dX9_drop_1 (by decide) ?_
  refine va_put (D := (dC, dI)) (ci := 8) (v := .int 0) (ty := .int) (C := RX9) (T := TX9) (N := 32) hx hb hts inG_X9 tyX9 tyX9_ok nmX9 hown hK hP hD hS 0 rfl rfl 0 (by decide) (hts _ fl_X9_69) (fun _ h9 => h9) rfl (by decide +kernel) rfl rfl (Nat.le_of_ble_eq_true rfl) dX9_drop_2 (fun H locs hP hD hS => ?_)
  have hP : va_P (dC, dI) vwCl [(m0, .inr (8, [.int 0, .int mst, .ref mp, .int mln, .ref mk, .int mts, .ref mti, .ref mtw, .ref mi, .int mmn, .ref mpo, .int mpd, .ref mpi, .int mpl, .int mcp, .ref mre, .ref mnn, .ref mwo, .ref mga, .ref mlo, .ref mro, .ref mle, .ref mra, .int mme, .ref mha, .int mch, .int mtm, .int mgo, .int mwa, .ref mba, .int mbl, .ref mon])), (mti, .inl (cI, 32, .inl mtif)), (mtw, .inl (cI, 8, .inl mtwf))] H := hP
  have hD : va_D A [(m0, .inr (8, [.int 0, .int mst, .ref mp, .int mln, .ref mk, .int mts, .ref mti, .ref mtw, .ref mi, .int mmn, .ref mpo, .int mpd, .ref mpi, .int mpl, .int mcp, .ref mre, .ref mnn, .ref mwo, .ref mga, .ref mlo, .ref mro, .ref mle, .ref mra, .int mme, .ref mha, .int mch, .int mtm, .int mgo, .int mwa, .ref mba, .int mbl, .ref mon])), (mti, .inl (cI, 32, .inl mtif)), (mtw, .inl (cI, 8, .inl mtwf))] := hD
  refine lv_iload_n hx hb dX9_drop_5 rfl (lv_at hl 1 rfl) ?_
  obtain ⟨w1, ew1⟩ : ∃ z : Int64, Int32.toInt64 i = z := ⟨_, rfl⟩
  have hw1 := J_of i
  rw [ew1] at hw1
  refine lv_i2l (v := w1) hx hb dX9_drop_6 ew1 ?_
  refine lv_lconst (v := 0) hx hb dX9_drop_7 (by decide) ?_
  refine lv_aload_n hx hb dX9_drop_8 rfl (lv_at hl 0 rfl) ?_
  refine va_get (D := (dC, dI)) (ci := 8) (v := .int mts) (C := RX9) (T := TX9) (N := 32) hx hb hts inG_X9 hown hK hP 0 rfl rfl 5 (by decide) (hts _ fl_X9_155) (fun _ h9 => h9) rfl dX9_drop_9 ?_
  obtain ⟨w2, ew2⟩ : ∃ z : Int64, Int32.toInt64 mts = z := ⟨_, rfl⟩
  have hw2 := J_of mts
  rw [ew2] at hw2
  refine lv_i2l (v := w2) hx hb dX9_drop_12 ew2 ?_
  refine lv_lconst (v := 1) hx hb dX9_drop_13 (by decide) ?_
  refine lv_lsub hx hb dX9_drop_14 ?_
  refine lv_topl (fun w3 ew3 => ?_)
  try have hw3 : w3.toInt = w2.toInt - (1 : Int64).toInt := J_subx ew3 (by omega)
  refine calOI (rest := []) (wr := [(m0, .inr (8, [.int 0, .int mst, .ref mp, .int mln, .ref mk, .int mts, .ref mti, .ref mtw, .ref mi, .int mmn, .ref mpo, .int mpd, .ref mpi, .int mpl, .int mcp, .ref mre, .ref mnn, .ref mwo, .ref mga, .ref mlo, .ref mro, .ref mle, .ref mra, .int mme, .ref mha, .int mch, .int mtm, .int mgo, .int mwa, .ref mba, .int mbl, .ref mon])), (mti, .inl (cI, 32, .inl mtif)), (mtw, .inl (cI, 8, .inl mtwf))]) hG (c_X9_in l dC dI cI cJ base bB bO w1 0 w3 ) ml_X9_77 st_X9_in ini_X9 cd_X9_in hd_X9_in.2 ⟨(Nat.le_of_ble_eq_true rfl), (Nat.le_of_ble_eq_true rfl)⟩ (Nat.le_of_ble_eq_true rfl) (Nat.le_of_ble_eq_true rfl) hP hD hS [] [0, 1, 2] rfl rfl rfl rfl (by decide) hl.1 rfl (Nat.le_of_ble_eq_true rfl) dX9_drop_15 (fun r4 u H locs hw5 hP hD hS => ?_)
  have hw5 : ((r4.toInt = 1 ∧ (0 : Int64).toInt ≤ w1.toInt ∧ w1.toInt ≤ w3.toInt) ∨ (r4.toInt = 0 ∧ (w1.toInt < (0 : Int64).toInt ∨ w3.toInt < w1.toInt))) ∧ True := hw5
  obtain ⟨hp6, -⟩ := hw5
  have hP : va_P (dC, dI) vwCl [(m0, .inr (8, [.int 0, .int mst, .ref mp, .int mln, .ref mk, .int mts, .ref mti, .ref mtw, .ref mi, .int mmn, .ref mpo, .int mpd, .ref mpi, .int mpl, .int mcp, .ref mre, .ref mnn, .ref mwo, .ref mga, .ref mlo, .ref mro, .ref mle, .ref mra, .int mme, .ref mha, .int mch, .int mtm, .int mgo, .int mwa, .ref mba, .int mbl, .ref mon])), (mti, .inl (cI, 32, .inl mtif)), (mtw, .inl (cI, 8, .inl mtwf))] H := hP
  have hD : va_D A [(m0, .inr (8, [.int 0, .int mst, .ref mp, .int mln, .ref mk, .int mts, .ref mti, .ref mtw, .ref mi, .int mmn, .ref mpo, .int mpd, .ref mpi, .int mpl, .int mcp, .ref mre, .ref mnn, .ref mwo, .ref mga, .ref mlo, .ref mro, .ref mle, .ref mra, .int mme, .ref mha, .int mch, .int mtm, .int mgo, .int mwa, .ref mba, .int mbl, .ref mon])), (mti, .inl (cI, 32, .inl mtif)), (mtw, .inl (cI, 8, .inl mtwf))] := hD
  refine lv_if_ne (tgt := 28) hx hb dX9_drop_18 (by decide) (fun c7 => ?_) (fun c7 => ?_)
  · have c7' := I_ne c7
    refine lv_aload_n hx hb dX9_drop_28 rfl (lv_at hl 0 rfl) ?_
    refine lv_dup hx hb dX9_drop_29 rfl ?_
    refine va_get (D := (dC, dI)) (ci := 8) (v := .int mts) (C := RX9) (T := TX9) (N := 32) hx hb hts inG_X9 hown hK hP 0 rfl rfl 5 (by decide) (hts _ fl_X9_155) (fun _ h9 => h9) rfl dX9_drop_30 ?_
    refine lv_iconst (v := 1) hx hb dX9_drop_33 (by decide) ?_
    refine lv_isub hx hb dX9_drop_34 ?_
    refine lv_topi (fun v8 ev8 => ?_)
    try have hv8 : v8.toInt = mts.toInt - (1 : Int32).toInt := I_subx ev8 (by omega)
    refine va_put (D := (dC, dI)) (ci := 8) (v := .int v8) (ty := .int) (C := RX9) (T := TX9) (N := 32) hx hb hts inG_X9 tyX9 tyX9_ok nmX9 hown hK hP hD hS 0 rfl rfl 5 (by decide) (hts _ fl_X9_155) (fun _ h9 => h9) rfl (by decide +kernel) rfl rfl (Nat.le_of_ble_eq_true rfl) dX9_drop_35 (fun H locs hP hD hS => ?_)
    have hP : va_P (dC, dI) vwCl [(m0, .inr (8, [.int 0, .int mst, .ref mp, .int mln, .ref mk, .int v8, .ref mti, .ref mtw, .ref mi, .int mmn, .ref mpo, .int mpd, .ref mpi, .int mpl, .int mcp, .ref mre, .ref mnn, .ref mwo, .ref mga, .ref mlo, .ref mro, .ref mle, .ref mra, .int mme, .ref mha, .int mch, .int mtm, .int mgo, .int mwa, .ref mba, .int mbl, .ref mon])), (mti, .inl (cI, 32, .inl mtif)), (mtw, .inl (cI, 8, .inl mtwf))] H := hP
    have hD : va_D A [(m0, .inr (8, [.int 0, .int mst, .ref mp, .int mln, .ref mk, .int v8, .ref mti, .ref mtw, .ref mi, .int mmn, .ref mpo, .int mpd, .ref mpi, .int mpl, .int mcp, .ref mre, .ref mnn, .ref mwo, .ref mga, .ref mlo, .ref mro, .ref mle, .ref mra, .int mme, .ref mha, .int mch, .int mtm, .int mgo, .int mwa, .ref mba, .int mbl, .ref mon])), (mti, .inl (cI, 32, .inl mtif)), (mtw, .inl (cI, 8, .inl mtwf))] := hD
    refine lv_iload_n hx hb dX9_drop_38 rfl (lv_at hl 1 rfl) ?_
    refine lv_istore_n (lv' := [(2, .int i), (0, .ref m0), (1, .int i)]) hx hb dX9_drop_39 rfl hl (by decide) rfl (fun ls hl => ?_)
    have J40 : ∀ (n : Nat) (L2_40 : Int32) (mtif_40 : Nat → Int32) (mtwf_40 : Nat → Int32), (0 ≤ L2_40.toInt ∧ L2_40.toInt ≤ 8) → (8 - L2_40.toInt) < (n : Int) → ∀ (H : Heap) (locs : List Loc) (ls : Array Slot), va_P (dC, dI) vwCl [(m0, .inr (8, [.int 0, .int mst, .ref mp, .int mln, .ref mk, .int v8, .ref mti, .ref mtw, .ref mi, .int mmn, .ref mpo, .int mpd, .ref mpi, .int mpl, .int mcp, .ref mre, .ref mnn, .ref mwo, .ref mga, .ref mlo, .ref mro, .ref mle, .ref mra, .int mme, .ref mha, .int mch, .int mtm, .int mgo, .int mwa, .ref mba, .int mbl, .ref mon])), (mti, .inl (cI, 32, .inl mtif_40)), (mtw, .inl (cI, 8, .inl mtwf_40))] H → va_D A [(m0, .inr (8, [.int 0, .int mst, .ref mp, .int mln, .ref mk, .int v8, .ref mti, .ref mtw, .ref mi, .int mmn, .ref mpo, .int mpd, .ref mpi, .int mpl, .int mcp, .ref mre, .ref mnn, .ref mwo, .ref mga, .ref mlo, .ref mro, .ref mle, .ref mra, .int mme, .ref mha, .int mch, .int mtm, .int mgo, .int mwa, .ref mba, .int mbl, .ref mon])), (mti, .inl (cI, 32, .inl mtif_40)), (mtw, .inl (cI, 8, .inl mtwf_40))] → va_S A s.heap H locs → lv_has ls 4 [(2, .int L2_40), (0, .ref m0), (1, .int i)] → W p l e { frames := 1, cells := 0, slots := 0, locals := 25 } s m (List.toArray [.ref m0, .int i]) below meth c H locs 0 0 Q (F0 m 40 ls []) := by
      intro n
      induction n with
      | zero =>
        intro L2_40 mtif_40 mtwf_40 hi0_40 hm
        exact absurd hm (by omega)
      | succ n ih40 =>
        intro L2_40 mtif_40 mtwf_40 hi0_40 hm40 H locs ls hP hD hS hl
        refine lv_iload_n hx hb dX9_drop_40 rfl (lv_at hl 0 rfl) ?_
        refine lv_aload_n hx hb dX9_drop_41 rfl (lv_at hl 1 rfl) ?_
        refine va_get (D := (dC, dI)) (ci := 8) (v := .int v8) (C := RX9) (T := TX9) (N := 32) hx hb hts inG_X9 hown hK hP 0 rfl rfl 5 (by decide) (hts _ fl_X9_155) (fun _ h9 => h9) rfl dX9_drop_42 ?_
        refine lv_icmp_ge (tgt := 103) hx hb dX9_drop_45 (by decide) (fun c9 => ?_) (fun c9 => ?_)
        · have c9' := I_le c9
          refine lv_aload_n hx hb dX9_drop_103 rfl (lv_at hl 1 rfl) ?_
          refine lv_aload_n hx hb dX9_drop_104 rfl (lv_at hl 1 rfl) ?_
          refine va_get (D := (dC, dI)) (ci := 8) (v := .int v8) (C := RX9) (T := TX9) (N := 32) hx hb hts inG_X9 hown hK hP 0 rfl rfl 5 (by decide) (hts _ fl_X9_155) (fun _ h9 => h9) rfl dX9_drop_105 ?_
          refine calI (rest := []) (wr := [(mti, .inl (cI, 32, .inl mtif_40)), (mtw, .inl (cI, 8, .inl mtwf_40))]) hG (c_X9_told l dC dI cI cJ base bB bO m0 0 mst mp mln mk v8 mti mtw mi mmn mpo mpd mpi mpl mcp mre mnn mwo mga mlo mro mle mra mme mha mch mtm mgo mwa mba mbl mon v8 ) ml_X9_85 im_X9_told se_X9_told ini_X9 cd_X9_told hd_X9_told ⟨(Nat.le_of_ble_eq_true rfl), (Nat.le_of_ble_eq_true rfl)⟩ (Nat.le_of_ble_eq_true rfl) (Nat.le_of_ble_eq_true rfl) hP hD hS [0] [1, 2] rfl rfl rfl rfl (by decide) 8 0 rfl rfl hl.1 rfl (Nat.le_of_ble_eq_true rfl) dX9_drop_108 (fun r10 u H locs hw11 hP hD hS => ?_)
          obtain ⟨mst_12, rfl⟩ : ∃ z, z = u := ⟨_, rfl⟩
          have hw11 : (r10 = v8) ∧ True := hw11
          obtain ⟨hp13, -⟩ := hw11
          have hp13t := I_eq hp13
          have hP : va_P (dC, dI) vwCl [(mti, .inl (cI, 32, .inl mtif_40)), (mtw, .inl (cI, 8, .inl mtwf_40)), (m0, .inr (8, [.int 0, .int mst_12, .ref mp, .int mln, .ref mk, .int v8, .ref mti, .ref mtw, .ref mi, .int mmn, .ref mpo, .int mpd, .ref mpi, .int mpl, .int mcp, .ref mre, .ref mnn, .ref mwo, .ref mga, .ref mlo, .ref mro, .ref mle, .ref mra, .int mme, .ref mha, .int mch, .int mtm, .int mgo, .int mwa, .ref mba, .int mbl, .ref mon]))] H := hP
          have hD : va_D A [(mti, .inl (cI, 32, .inl mtif_40)), (mtw, .inl (cI, 8, .inl mtwf_40)), (m0, .inr (8, [.int 0, .int mst_12, .ref mp, .int mln, .ref mk, .int v8, .ref mti, .ref mtw, .ref mi, .int mmn, .ref mpo, .int mpd, .ref mpi, .int mpl, .int mcp, .ref mre, .ref mnn, .ref mwo, .ref mga, .ref mlo, .ref mro, .ref mle, .ref mra, .int mme, .ref mha, .int mch, .int mtm, .int mgo, .int mwa, .ref mba, .int mbl, .ref mon]))] := hD
          exact hret r10 (0, mst_12, v8, mtif_40, mtwf_40) H locs 111 ls rfl ⟨(show 0 ≤ v8.toInt ∧ v8.toInt ≤ 8 from by first | rfl | assumption | omega), (show (0 ≤ i.toInt ∧ i.toInt < mts.toInt ∧ r10.toInt = mts.toInt - 1 ∧ v8.toInt = mts.toInt - 1) ∨ ((i.toInt < 0 ∨ mts.toInt ≤ i.toInt) ∧ r10.toInt = -2 ∧ v8.toInt = mts.toInt) from by first | rfl | assumption | omega), trivial⟩ (hP.sub (ws' := [(m0, .inr (8, [.int 0, .int mst_12, .ref mp, .int mln, .ref mk, .int v8, .ref mti, .ref mtw, .ref mi, .int mmn, .ref mpo, .int mpd, .ref mpi, .int mpl, .int mcp, .ref mre, .ref mnn, .ref mwo, .ref mga, .ref mlo, .ref mro, .ref mle, .ref mra, .int mme, .ref mha, .int mch, .int mtm, .int mgo, .int mwa, .ref mba, .int mbl, .ref mon])), (mti, .inl (cI, 32, .inl mtif_40)), (mtw, .inl (cI, 8, .inl mtwf_40))]) [2, 0, 1] rfl) (hD.sub (ws' := [(m0, .inr (8, [.int 0, .int mst_12, .ref mp, .int mln, .ref mk, .int v8, .ref mti, .ref mtw, .ref mi, .int mmn, .ref mpo, .int mpd, .ref mpi, .int mpl, .int mcp, .ref mre, .ref mnn, .ref mwo, .ref mga, .ref mlo, .ref mro, .ref mle, .ref mra, .int mme, .ref mha, .int mch, .int mtm, .int mgo, .int mwa, .ref mba, .int mbl, .ref mon])), (mti, .inl (cI, 32, .inl mtif_40)), (mtw, .inl (cI, 8, .inl mtwf_40))]) [2, 0, 1] (by decide) rfl) hS dX9_drop_111
        · have c9' := I_nle c9
          refine lv_aload_n hx hb dX9_drop_48 rfl (lv_at hl 1 rfl) ?_
          refine va_get (D := (dC, dI)) (ci := 8) (v := .ref mtw) (C := RX9) (T := TX9) (N := 32) hx hb hts inG_X9 hown hK hP 0 rfl rfl 7 (by decide) (hts _ fl_X9_19) (fun _ h9 => h9) rfl dX9_drop_49 ?_
          refine lv_iload_n hx hb dX9_drop_52 rfl (lv_at hl 0 rfl) ?_
          refine lv_aload_n hx hb dX9_drop_53 rfl (lv_at hl 1 rfl) ?_
          refine va_get (D := (dC, dI)) (ci := 8) (v := .ref mtw) (C := RX9) (T := TX9) (N := 32) hx hb hts inG_X9 hown hK hP 0 rfl rfl 7 (by decide) (hts _ fl_X9_19) (fun _ h9 => h9) rfl dX9_drop_54 ?_
          refine lv_iload_n hx hb dX9_drop_57 rfl (lv_at hl 0 rfl) ?_
          refine lv_iconst (v := 1) hx hb dX9_drop_58 (by decide) ?_
          refine lv_iadd hx hb dX9_drop_59 ?_
          refine lv_topi (fun v14 ev14 => ?_)
          try have hv14 : v14.toInt = L2_40.toInt + (1 : Int32).toInt := I_addx ev14 (by omega)
          refine va_iald (t0 := 0) hx hb hK hP 2 (ha := rfl) (ht := rfl) (I_in (by omega) (by omega)) dX9_drop_60 ?_
          refine lv_topi (fun v15 ev15 => ?_)
          refine va_iast (t0 := 0) hx hb hK hP hD hS 2 (ha := rfl) (ht := rfl) (I_in (by omega) (by omega)) dX9_drop_61 (fun H locs hP hD hS => ?_)
          have hP : va_P (dC, dI) vwCl [(m0, .inr (8, [.int 0, .int mst, .ref mp, .int mln, .ref mk, .int v8, .ref mti, .ref mtw, .ref mi, .int mmn, .ref mpo, .int mpd, .ref mpi, .int mpl, .int mcp, .ref mre, .ref mnn, .ref mwo, .ref mga, .ref mlo, .ref mro, .ref mle, .ref mra, .int mme, .ref mha, .int mch, .int mtm, .int mgo, .int mwa, .ref mba, .int mbl, .ref mon])), (mti, .inl (cI, 32, .inl mtif_40)), (mtw, .inl (cI, 8, .inl (upd mtwf_40 L2_40.toNatClampNeg v15)))] H := hP
          have hD : va_D A [(m0, .inr (8, [.int 0, .int mst, .ref mp, .int mln, .ref mk, .int v8, .ref mti, .ref mtw, .ref mi, .int mmn, .ref mpo, .int mpd, .ref mpi, .int mpl, .int mcp, .ref mre, .ref mnn, .ref mwo, .ref mga, .ref mlo, .ref mro, .ref mle, .ref mra, .int mme, .ref mha, .int mch, .int mtm, .int mgo, .int mwa, .ref mba, .int mbl, .ref mon])), (mti, .inl (cI, 32, .inl mtif_40)), (mtw, .inl (cI, 8, .inl (upd mtwf_40 L2_40.toNatClampNeg v15)))] := hD
          generalize ef16 : upd mtwf_40 L2_40.toNatClampNeg v15 = f16 at hP hD
          refine lv_iconst (v := 0) hx hb dX9_drop_62 (by decide) ?_
          refine lv_istore_n (lv' := [(3, .int 0), (2, .int L2_40), (0, .ref m0), (1, .int i)]) hx hb dX9_drop_63 rfl hl (by decide) rfl (fun ls hl => ?_)
          have J64 : ∀ (n : Nat) (L3_64 : Int32) (mtif_64 : Nat → Int32), (0 ≤ L3_64.toInt ∧ L3_64.toInt ≤ 4) → (4 - L3_64.toInt) < (n : Int) → ∀ (H : Heap) (locs : List Loc) (ls : Array Slot), va_P (dC, dI) vwCl [(m0, .inr (8, [.int 0, .int mst, .ref mp, .int mln, .ref mk, .int v8, .ref mti, .ref mtw, .ref mi, .int mmn, .ref mpo, .int mpd, .ref mpi, .int mpl, .int mcp, .ref mre, .ref mnn, .ref mwo, .ref mga, .ref mlo, .ref mro, .ref mle, .ref mra, .int mme, .ref mha, .int mch, .int mtm, .int mgo, .int mwa, .ref mba, .int mbl, .ref mon])), (mti, .inl (cI, 32, .inl mtif_64)), (mtw, .inl (cI, 8, .inl f16))] H → va_D A [(m0, .inr (8, [.int 0, .int mst, .ref mp, .int mln, .ref mk, .int v8, .ref mti, .ref mtw, .ref mi, .int mmn, .ref mpo, .int mpd, .ref mpi, .int mpl, .int mcp, .ref mre, .ref mnn, .ref mwo, .ref mga, .ref mlo, .ref mro, .ref mle, .ref mra, .int mme, .ref mha, .int mch, .int mtm, .int mgo, .int mwa, .ref mba, .int mbl, .ref mon])), (mti, .inl (cI, 32, .inl mtif_64)), (mtw, .inl (cI, 8, .inl f16))] → va_S A s.heap H locs → lv_has ls 4 [(3, .int L3_64), (2, .int L2_40), (0, .ref m0), (1, .int i)] → W p l e { frames := 1, cells := 0, slots := 0, locals := 25 } s m (List.toArray [.ref m0, .int i]) below meth c H locs 0 0 Q (F0 m 64 ls []) := by
            intro n
            induction n with
            | zero =>
              intro L3_64 mtif_64 hi0_64 hm
              exact absurd hm (by omega)
            | succ n ih64 =>
              intro L3_64 mtif_64 hi0_64 hm64 H locs ls hP hD hS hl
              refine lv_iload_n hx hb dX9_drop_64 rfl (lv_at hl 0 rfl) ?_
              refine lv_iconst (v := 4) hx hb dX9_drop_65 (by decide) ?_
              refine lv_icmp_ge (tgt := 97) hx hb dX9_drop_66 (by decide) (fun c17 => ?_) (fun c17 => ?_)
              · have c17' := I_le c17
                obtain ⟨v18, ev18⟩ : ∃ y : Int32, y = L2_40 + 1 := ⟨_, rfl⟩
                try have hv18 : v18.toInt = L2_40.toInt + (1 : Int32).toInt := I_addx ev18 (by omega)
                refine lv_iinc (v := v18) (lv' := [(2, .int v18), (3, .int L3_64), (0, .ref m0), (1, .int i)]) hx hb dX9_drop_97 hl (k := 1) rfl (by rw [ev18]; rfl) (by decide) rfl (fun ls hl => ?_)
                refine lv_goto (tgt := 40) hx hb dX9_drop_100 (by decide) ?_
                exact ih40 v18 mtif_64 f16 (by first | assumption | omega) (by omega) H locs ls hP hD hS (lv_sub hl [0, 2, 3] rfl)
              · have c17' := I_nle c17
                refine lv_aload_n hx hb dX9_drop_69 rfl (lv_at hl 2 rfl) ?_
                refine va_get (D := (dC, dI)) (ci := 8) (v := .ref mti) (C := RX9) (T := TX9) (N := 32) hx hb hts inG_X9 hown hK hP 0 rfl rfl 6 (by decide) (hts _ fl_X9_16) (fun _ h9 => h9) rfl dX9_drop_70 ?_
                refine lv_iconst (v := 4) hx hb dX9_drop_73 (by decide) ?_
                refine lv_iload_n hx hb dX9_drop_74 rfl (lv_at hl 1 rfl) ?_
                refine lv_imul hx hb dX9_drop_75 ?_
                refine lv_topi (fun v19 ev19 => ?_)
                try have hv19 := I_mulxl (4) ev19 (by decide) (by omega)
                refine lv_iload_n hx hb dX9_drop_76 rfl (lv_at hl 0 rfl) ?_
                refine lv_iadd hx hb dX9_drop_77 ?_
                refine lv_topi (fun v20 ev20 => ?_)
                try have hv20 : v20.toInt = v19.toInt + L3_64.toInt := I_addx ev20 (by omega)
                refine lv_aload_n hx hb dX9_drop_78 rfl (lv_at hl 2 rfl) ?_
                refine va_get (D := (dC, dI)) (ci := 8) (v := .ref mti) (C := RX9) (T := TX9) (N := 32) hx hb hts inG_X9 hown hK hP 0 rfl rfl 6 (by decide) (hts _ fl_X9_16) (fun _ h9 => h9) rfl dX9_drop_79 ?_
                refine lv_iconst (v := 4) hx hb dX9_drop_82 (by decide) ?_
                refine lv_iload_n hx hb dX9_drop_83 rfl (lv_at hl 1 rfl) ?_
                refine lv_imul hx hb dX9_drop_84 ?_
                refine lv_topi (fun v21 ev21 => ?_)
                try have hv21 := I_mulxl (4) ev21 (by decide) (by omega)
                refine lv_iconst (v := 4) hx hb dX9_drop_85 (by decide) ?_
                refine lv_iadd hx hb dX9_drop_86 ?_
                refine lv_topi (fun v22 ev22 => ?_)
                try have hv22 : v22.toInt = v21.toInt + (4 : Int32).toInt := I_addx ev22 (by omega)
                refine lv_iload_n hx hb dX9_drop_87 rfl (lv_at hl 0 rfl) ?_
                refine lv_iadd hx hb dX9_drop_88 ?_
                refine lv_topi (fun v23 ev23 => ?_)
                try have hv23 : v23.toInt = v22.toInt + L3_64.toInt := I_addx ev23 (by omega)
                refine va_iald (t0 := 0) hx hb hK hP 1 (ha := rfl) (ht := rfl) (I_in (by omega) (by omega)) dX9_drop_89 ?_
                refine lv_topi (fun v24 ev24 => ?_)
                refine va_iast (t0 := 0) hx hb hK hP hD hS 1 (ha := rfl) (ht := rfl) (I_in (by omega) (by omega)) dX9_drop_90 (fun H locs hP hD hS => ?_)
                have hP : va_P (dC, dI) vwCl [(m0, .inr (8, [.int 0, .int mst, .ref mp, .int mln, .ref mk, .int v8, .ref mti, .ref mtw, .ref mi, .int mmn, .ref mpo, .int mpd, .ref mpi, .int mpl, .int mcp, .ref mre, .ref mnn, .ref mwo, .ref mga, .ref mlo, .ref mro, .ref mle, .ref mra, .int mme, .ref mha, .int mch, .int mtm, .int mgo, .int mwa, .ref mba, .int mbl, .ref mon])), (mti, .inl (cI, 32, .inl (upd mtif_64 v20.toNatClampNeg v24))), (mtw, .inl (cI, 8, .inl f16))] H := hP
                have hD : va_D A [(m0, .inr (8, [.int 0, .int mst, .ref mp, .int mln, .ref mk, .int v8, .ref mti, .ref mtw, .ref mi, .int mmn, .ref mpo, .int mpd, .ref mpi, .int mpl, .int mcp, .ref mre, .ref mnn, .ref mwo, .ref mga, .ref mlo, .ref mro, .ref mle, .ref mra, .int mme, .ref mha, .int mch, .int mtm, .int mgo, .int mwa, .ref mba, .int mbl, .ref mon])), (mti, .inl (cI, 32, .inl (upd mtif_64 v20.toNatClampNeg v24))), (mtw, .inl (cI, 8, .inl f16))] := hD
                generalize ef25 : upd mtif_64 v20.toNatClampNeg v24 = f25 at hP hD
                obtain ⟨v26, ev26⟩ : ∃ y : Int32, y = L3_64 + 1 := ⟨_, rfl⟩
                try have hv26 : v26.toInt = L3_64.toInt + (1 : Int32).toInt := I_addx ev26 (by omega)
                refine lv_iinc (v := v26) (lv' := [(3, .int v26), (2, .int L2_40), (0, .ref m0), (1, .int i)]) hx hb dX9_drop_91 hl (k := 0) rfl (by rw [ev26]; rfl) (by decide) rfl (fun ls hl => ?_)
                refine lv_goto (tgt := 64) hx hb dX9_drop_94 (by decide) ?_
                exact ih64 v26 f25 (by first | assumption | omega) (by omega) H locs ls hP hD hS hl
          exact J64 ((4 - (0 : Int32).toInt).toNat + 1) 0 mtif_40 (by first | assumption | omega) (by omega) H locs ls hP hD hS hl
    exact J40 ((8 - i.toInt).toNat + 1) i mtif mtwf (by first | assumption | omega) (by omega) H locs ls hP hD hS hl
  · have c7' := I_eq c7
    refine lv_aload_n hx hb dX9_drop_21 rfl (lv_at hl 0 rfl) ?_
    refine lv_bipush (v := (-2)) hx hb dX9_drop_22 (by decide) ?_
    refine calI (rest := []) (wr := [(mti, .inl (cI, 32, .inl mtif)), (mtw, .inl (cI, 8, .inl mtwf))]) hG (c_X9_told l dC dI cI cJ base bB bO m0 0 mst mp mln mk mts mti mtw mi mmn mpo mpd mpi mpl mcp mre mnn mwo mga mlo mro mle mra mme mha mch mtm mgo mwa mba mbl mon (-2) ) ml_X9_85 im_X9_told se_X9_told ini_X9 cd_X9_told hd_X9_told ⟨(Nat.le_of_ble_eq_true rfl), (Nat.le_of_ble_eq_true rfl)⟩ (Nat.le_of_ble_eq_true rfl) (Nat.le_of_ble_eq_true rfl) hP hD hS [0] [1, 2] rfl rfl rfl rfl (by decide) 8 0 rfl rfl hl.1 rfl (Nat.le_of_ble_eq_true rfl) dX9_drop_24 (fun r27 u H locs hw28 hP hD hS => ?_)
    obtain ⟨mst_29, rfl⟩ : ∃ z, z = u := ⟨_, rfl⟩
    have hw28 : (r27 = (-2 : Int32)) ∧ True := hw28
    obtain ⟨hp30, -⟩ := hw28
    have hp30t := I_eq hp30
    have hP : va_P (dC, dI) vwCl [(mti, .inl (cI, 32, .inl mtif)), (mtw, .inl (cI, 8, .inl mtwf)), (m0, .inr (8, [.int 0, .int mst_29, .ref mp, .int mln, .ref mk, .int mts, .ref mti, .ref mtw, .ref mi, .int mmn, .ref mpo, .int mpd, .ref mpi, .int mpl, .int mcp, .ref mre, .ref mnn, .ref mwo, .ref mga, .ref mlo, .ref mro, .ref mle, .ref mra, .int mme, .ref mha, .int mch, .int mtm, .int mgo, .int mwa, .ref mba, .int mbl, .ref mon]))] H := hP
    have hD : va_D A [(mti, .inl (cI, 32, .inl mtif)), (mtw, .inl (cI, 8, .inl mtwf)), (m0, .inr (8, [.int 0, .int mst_29, .ref mp, .int mln, .ref mk, .int mts, .ref mti, .ref mtw, .ref mi, .int mmn, .ref mpo, .int mpd, .ref mpi, .int mpl, .int mcp, .ref mre, .ref mnn, .ref mwo, .ref mga, .ref mlo, .ref mro, .ref mle, .ref mra, .int mme, .ref mha, .int mch, .int mtm, .int mgo, .int mwa, .ref mba, .int mbl, .ref mon]))] := hD
    exact hret r27 (0, mst_29, mts, mtif, mtwf) H locs 27 ls rfl ⟨(show 0 ≤ mts.toInt ∧ mts.toInt ≤ 8 from by first | rfl | assumption | omega), (show (0 ≤ i.toInt ∧ i.toInt < mts.toInt ∧ r27.toInt = mts.toInt - 1 ∧ mts.toInt = mts.toInt - 1) ∨ ((i.toInt < 0 ∨ mts.toInt ≤ i.toInt) ∧ r27.toInt = -2 ∧ mts.toInt = mts.toInt) from by first | rfl | assumption | omega), trivial⟩ (hP.sub (ws' := [(m0, .inr (8, [.int 0, .int mst_29, .ref mp, .int mln, .ref mk, .int mts, .ref mti, .ref mtw, .ref mi, .int mmn, .ref mpo, .int mpd, .ref mpi, .int mpl, .int mcp, .ref mre, .ref mnn, .ref mwo, .ref mga, .ref mlo, .ref mro, .ref mle, .ref mra, .int mme, .ref mha, .int mch, .int mtm, .int mgo, .int mwa, .ref mba, .int mbl, .ref mon])), (mti, .inl (cI, 32, .inl mtif)), (mtw, .inl (cI, 8, .inl mtwf))]) [2, 0, 1] rfl) (hD.sub (ws' := [(m0, .inr (8, [.int 0, .int mst_29, .ref mp, .int mln, .ref mk, .int mts, .ref mti, .ref mtw, .ref mi, .int mmn, .ref mpo, .int mpd, .ref mpi, .int mpl, .int mcp, .ref mre, .ref mnn, .ref mwo, .ref mga, .ref mlo, .ref mro, .ref mle, .ref mra, .int mme, .ref mha, .int mch, .int mtm, .int mgo, .int mwa, .ref mba, .int mbl, .ref mon])), (mti, .inl (cI, 32, .inl mtif)), (mtw, .inl (cI, 8, .inl mtwf))]) [2, 0, 1] (by decide) rfl) hS dX9_drop_27
set_option maxHeartbeats 4000000 in
set_option maxRecDepth 100000 in
theorem c_X9_kept (l : Launch) (dC : Nat → ClassId) (dI : Nat → Nat → Nat) (cI cJ : ClassId) (base bB bO : Nat) (m0 : Nat) (mth : Int32) (mst : Int32) (mp : Nat) (mln : Int32) (mk : Nat) (mts : Int32) (mti : Nat) (mtw : Nat) (mi : Nat) (mmn : Int32) (mpo : Nat) (mpd : Int32) (mpi : Nat) (mpl : Int32) (mcp : Int32) (mre : Nat) (mnn : Nat) (mwo : Nat) (mga : Nat) (mlo : Nat) (mro : Nat) (mle : Nat) (mra : Nat) (mme : Int32) (mha : Nat) (mch : Int32) (mtm : Int32) (mgo : Int32) (mwa : Int32) (mba : Nat) (mbl : Int32) (mon : Nat) (mkf : Nat → Int32) (mtif : Nat → Int32) (mtwf : Nat → Int32) (mpof : Nat → Int32) (mnnf : Nat → Int32) (mwof : Nat → Int64) (hWF : WFn mpof mpd.toInt.toNat) (hq1 : 0 ≤ mpd.toInt ∧ mpd.toInt ≤ 12) (hq2 : 0 ≤ mts.toInt ∧ mts.toInt ≤ 8) : CtI l dC dI cI cJ base bB bO yX9_kept cX9_kept 4 .int 2 52 [.ref m0] [(m0, .inr (8, [.int mth, .int mst, .ref mp, .int mln, .ref mk, .int mts, .ref mti, .ref mtw, .ref mi, .int mmn, .ref mpo, .int mpd, .ref mpi, .int mpl, .int mcp, .ref mre, .ref mnn, .ref mwo, .ref mga, .ref mlo, .ref mro, .ref mle, .ref mra, .int mme, .ref mha, .int mch, .int mtm, .int mgo, .int mwa, .ref mba, .int mbl, .ref mon])), (mk, .inl (cI, 4, .inl mkf)), (mti, .inl (cI, 32, .inl mtif)), (mtw, .inl (cI, 8, .inl mtwf)), (mpo, .inl (cI, 12, .inl mpof)), (mnn, .inl (cI, 4, .inl mnnf)), (mwo, .inl (cJ, 12, .inr (.inl mwof)))] ((Nat → Int32) × (Nat → Int64)) (fun (res : Int32) (u : (Nat → Int32) × (Nat → Int64)) => True) (fun (u : (Nat → Int32) × (Nat → Int64)) => [(m0, .inr (8, [.int mth, .int mst, .ref mp, .int mln, .ref mk, .int mts, .ref mti, .ref mtw, .ref mi, .int mmn, .ref mpo, .int mpd, .ref mpi, .int mpl, .int mcp, .ref mre, .ref mnn, .ref mwo, .ref mga, .ref mlo, .ref mro, .ref mle, .ref mra, .int mme, .ref mha, .int mch, .int mtm, .int mgo, .int mwa, .ref mba, .int mbl, .ref mon])), (mk, .inl (cI, 4, .inl mkf)), (mti, .inl (cI, 32, .inl mtif)), (mtw, .inl (cI, 8, .inl mtwf)), (mpo, .inl (cI, 12, .inl mpof)), (mnn, .inl (cI, 4, .inl u.1)), (mwo, .inl (cJ, 12, .inr (.inl u.2)))]) := by
  refine entI (by decide) (Nat.le_of_ble_eq_true rfl) ?_
  intro p e s m below meth c A Q ls hAt hret hP hD hS hl
  obtain ⟨hx, hb, hml, hown, hts, hA, hAb, hK, hE, hlocks, hin⟩ := hAt
  have hG : CG dC dI cI cJ base bB bO cX9_kept 4 RX9 p s m (List.toArray [.ref m0]) c A := ⟨hx, hb, hml, hown, hts, hA, hAb, hK, hE⟩
  have hl : lv_has ls 4 [(0, .ref m0)] := hl
  have c_0 : (0 : Int32).toInt = 0 := by decide
  have c_1 : (1 : Int32).toInt = 1 := by decide
  have c_4 : (4 : Int32).toInt = 4 := by decide
  obtain ⟨H, hHe⟩ : ∃ H : Heap, H = s.heap := ⟨_, rfl⟩
  obtain ⟨locs, hle⟩ : ∃ z : List Loc, z = [] := ⟨_, rfl⟩
  rw [← hHe] at hP
  have hS : va_S A s.heap H locs := by rw [hHe, hle]; exact hS
  suffices hgo : W p l e { frames := 2, cells := 0, slots := 0, locals := 52 } s m (List.toArray [.ref m0]) below meth c H locs 0 0 Q (F0 m 0 ls []) by rw [hHe, hle] at hgo; exact hgo
  refine lv_iconst (v := 0) hx hb dX9_kept_0 (by decide) ?_
  refine lv_istore_n (lv' := [(1, .int 0), (0, .ref m0)]) hx hb dX9_kept_1 rfl hl (by decide) rfl (fun ls hl => ?_)
  refine lv_iconst (v := 0) hx hb dX9_kept_2 (by decide) ?_
  refine lv_istore_n (lv' := [(2, .int 0), (1, .int 0), (0, .ref m0)]) hx hb dX9_kept_3 rfl hl (by decide) rfl (fun ls hl => ?_)
  have J4 : ∀ (n : Nat) (L2_4 : Int32) (L1_4 : Int32) (mnnf_4 : Nat → Int32) (mwof_4 : Nat → Int64), (0 ≤ L2_4.toInt ∧ L2_4.toInt ≤ 8) → (8 - L2_4.toInt) < (n : Int) → ∀ (H : Heap) (locs : List Loc) (ls : Array Slot), va_P (dC, dI) vwCl [(m0, .inr (8, [.int mth, .int mst, .ref mp, .int mln, .ref mk, .int mts, .ref mti, .ref mtw, .ref mi, .int mmn, .ref mpo, .int mpd, .ref mpi, .int mpl, .int mcp, .ref mre, .ref mnn, .ref mwo, .ref mga, .ref mlo, .ref mro, .ref mle, .ref mra, .int mme, .ref mha, .int mch, .int mtm, .int mgo, .int mwa, .ref mba, .int mbl, .ref mon])), (mk, .inl (cI, 4, .inl mkf)), (mti, .inl (cI, 32, .inl mtif)), (mtw, .inl (cI, 8, .inl mtwf)), (mpo, .inl (cI, 12, .inl mpof)), (mnn, .inl (cI, 4, .inl mnnf_4)), (mwo, .inl (cJ, 12, .inr (.inl mwof_4)))] H → va_D A [(m0, .inr (8, [.int mth, .int mst, .ref mp, .int mln, .ref mk, .int mts, .ref mti, .ref mtw, .ref mi, .int mmn, .ref mpo, .int mpd, .ref mpi, .int mpl, .int mcp, .ref mre, .ref mnn, .ref mwo, .ref mga, .ref mlo, .ref mro, .ref mle, .ref mra, .int mme, .ref mha, .int mch, .int mtm, .int mgo, .int mwa, .ref mba, .int mbl, .ref mon])), (mk, .inl (cI, 4, .inl mkf)), (mti, .inl (cI, 32, .inl mtif)), (mtw, .inl (cI, 8, .inl mtwf)), (mpo, .inl (cI, 12, .inl mpof)), (mnn, .inl (cI, 4, .inl mnnf_4)), (mwo, .inl (cJ, 12, .inr (.inl mwof_4)))] → va_S A s.heap H locs → lv_has ls 4 [(2, .int L2_4), (1, .int L1_4), (0, .ref m0)] → W p l e { frames := 2, cells := 0, slots := 0, locals := 52 } s m (List.toArray [.ref m0]) below meth c H locs 0 0 Q (F0 m 4 ls []) := by
    intro n
    induction n with
    | zero =>
      intro L2_4 L1_4 mnnf_4 mwof_4 hi0_4 hm
      exact absurd hm (by omega)
    | succ n ih4 =>
      intro L2_4 L1_4 mnnf_4 mwof_4 hi0_4 hm4 H locs ls hP hD hS hl
      refine lv_iload_n hx hb dX9_kept_4 rfl (lv_at hl 0 rfl) ?_
      refine lv_aload_n hx hb dX9_kept_5 rfl (lv_at hl 2 rfl) ?_
      refine va_get (D := (dC, dI)) (ci := 8) (v := .int mts) (C := RX9) (T := TX9) (N := 32) hx hb hts inG_X9 hown hK hP 0 rfl rfl 5 (by decide) (hts _ fl_X9_155) (fun _ h9 => h9) rfl dX9_kept_6 ?_
      refine lv_icmp_ge (tgt := 68) hx hb dX9_kept_9 (by decide) (fun c1 => ?_) (fun c1 => ?_)
      · have c1' := I_le c1
        refine lv_iload_n hx hb dX9_kept_68 rfl (lv_at hl 1 rfl) ?_
        exact hret L1_4 (mnnf_4, mwof_4) H locs 69 ls rfl trivial hP hD hS dX9_kept_69
      · have c1' := I_nle c1
        refine lv_iconst (v := 0) hx hb dX9_kept_12 (by decide) ?_
        refine lv_istore_n (lv' := [(3, .int 0), (2, .int L2_4), (1, .int L1_4), (0, .ref m0)]) hx hb dX9_kept_13 rfl hl (by decide) rfl (fun ls hl => ?_)
        have J14 : ∀ (n : Nat) (L3_14 : Int32) (mnnf_14 : Nat → Int32), (0 ≤ L3_14.toInt ∧ L3_14.toInt ≤ 4) → (4 - L3_14.toInt) < (n : Int) → ∀ (H : Heap) (locs : List Loc) (ls : Array Slot), va_P (dC, dI) vwCl [(m0, .inr (8, [.int mth, .int mst, .ref mp, .int mln, .ref mk, .int mts, .ref mti, .ref mtw, .ref mi, .int mmn, .ref mpo, .int mpd, .ref mpi, .int mpl, .int mcp, .ref mre, .ref mnn, .ref mwo, .ref mga, .ref mlo, .ref mro, .ref mle, .ref mra, .int mme, .ref mha, .int mch, .int mtm, .int mgo, .int mwa, .ref mba, .int mbl, .ref mon])), (mk, .inl (cI, 4, .inl mkf)), (mti, .inl (cI, 32, .inl mtif)), (mtw, .inl (cI, 8, .inl mtwf)), (mpo, .inl (cI, 12, .inl mpof)), (mnn, .inl (cI, 4, .inl mnnf_14)), (mwo, .inl (cJ, 12, .inr (.inl mwof_4)))] H → va_D A [(m0, .inr (8, [.int mth, .int mst, .ref mp, .int mln, .ref mk, .int mts, .ref mti, .ref mtw, .ref mi, .int mmn, .ref mpo, .int mpd, .ref mpi, .int mpl, .int mcp, .ref mre, .ref mnn, .ref mwo, .ref mga, .ref mlo, .ref mro, .ref mle, .ref mra, .int mme, .ref mha, .int mch, .int mtm, .int mgo, .int mwa, .ref mba, .int mbl, .ref mon])), (mk, .inl (cI, 4, .inl mkf)), (mti, .inl (cI, 32, .inl mtif)), (mtw, .inl (cI, 8, .inl mtwf)), (mpo, .inl (cI, 12, .inl mpof)), (mnn, .inl (cI, 4, .inl mnnf_14)), (mwo, .inl (cJ, 12, .inr (.inl mwof_4)))] → va_S A s.heap H locs → lv_has ls 4 [(3, .int L3_14), (2, .int L2_4), (1, .int L1_4), (0, .ref m0)] → W p l e { frames := 2, cells := 0, slots := 0, locals := 52 } s m (List.toArray [.ref m0]) below meth c H locs 0 0 Q (F0 m 14 ls []) := by
          intro n
          induction n with
          | zero =>
            intro L3_14 mnnf_14 hi0_14 hm
            exact absurd hm (by omega)
          | succ n ih14 =>
            intro L3_14 mnnf_14 hi0_14 hm14 H locs ls hP hD hS hl
            refine lv_iload_n hx hb dX9_kept_14 rfl (lv_at hl 0 rfl) ?_
            refine lv_iconst (v := 4) hx hb dX9_kept_15 (by decide) ?_
            refine lv_icmp_ge (tgt := 41) hx hb dX9_kept_16 (by decide) (fun c2 => ?_) (fun c2 => ?_)
            · have c2' := I_le c2
              refine lv_iload_n hx hb dX9_kept_41 rfl (lv_at hl 2 rfl) ?_
              refine lv_aload_n hx hb dX9_kept_42 rfl (lv_at hl 3 rfl) ?_
              refine calI (rest := [.int L1_4]) (wr := [(mti, .inl (cI, 32, .inl mtif)), (mtw, .inl (cI, 8, .inl mtwf))]) hG (c_X9_valueOf l dC dI cI cJ base bB bO m0 mth mst mp mln mk mts mti mtw mi mmn mpo mpd mpi mpl mcp mre mnn mwo mga mlo mro mle mra mme mha mch mtm mgo mwa mba mbl mon mkf mpof mnnf_14 mwof_4 (by first | assumption | omega) (by first | assumption | omega)) ml_X9_148 im_X9_valueOf se_X9_valueOf ini_X9 cd_X9_valueOf hd_X9_valueOf ⟨(Nat.le_of_ble_eq_true rfl), (Nat.le_of_ble_eq_true rfl)⟩ (Nat.le_of_ble_eq_true rfl) (Nat.le_of_ble_eq_true rfl) hP hD hS [0, 1, 4, 5, 6] [2, 3] rfl rfl rfl rfl (by decide) 8 0 rfl rfl hl.1 rfl (Nat.le_of_ble_eq_true rfl) dX9_kept_43 (fun r3 u H locs hw4 hP hD hS => ?_)
              obtain ⟨mwof_5, rfl⟩ : ∃ z, z = u := ⟨_, rfl⟩
              have hP : va_P (dC, dI) vwCl [(mti, .inl (cI, 32, .inl mtif)), (mtw, .inl (cI, 8, .inl mtwf)), (m0, .inr (8, [.int mth, .int mst, .ref mp, .int mln, .ref mk, .int mts, .ref mti, .ref mtw, .ref mi, .int mmn, .ref mpo, .int mpd, .ref mpi, .int mpl, .int mcp, .ref mre, .ref mnn, .ref mwo, .ref mga, .ref mlo, .ref mro, .ref mle, .ref mra, .int mme, .ref mha, .int mch, .int mtm, .int mgo, .int mwa, .ref mba, .int mbl, .ref mon])), (mk, .inl (cI, 4, .inl mkf)), (mpo, .inl (cI, 12, .inl mpof)), (mnn, .inl (cI, 4, .inl mnnf_14)), (mwo, .inl (cJ, 12, .inr (.inl mwof_5)))] H := hP
              have hD : va_D A [(mti, .inl (cI, 32, .inl mtif)), (mtw, .inl (cI, 8, .inl mtwf)), (m0, .inr (8, [.int mth, .int mst, .ref mp, .int mln, .ref mk, .int mts, .ref mti, .ref mtw, .ref mi, .int mmn, .ref mpo, .int mpd, .ref mpi, .int mpl, .int mcp, .ref mre, .ref mnn, .ref mwo, .ref mga, .ref mlo, .ref mro, .ref mle, .ref mra, .int mme, .ref mha, .int mch, .int mtm, .int mgo, .int mwa, .ref mba, .int mbl, .ref mon])), (mk, .inl (cI, 4, .inl mkf)), (mpo, .inl (cI, 12, .inl mpof)), (mnn, .inl (cI, 4, .inl mnnf_14)), (mwo, .inl (cJ, 12, .inr (.inl mwof_5)))] := hD
              refine lv_aload_n hx hb dX9_kept_46 rfl (lv_at hl 3 rfl) ?_
              refine va_get (D := (dC, dI)) (ci := 8) (v := .ref mtw) (C := RX9) (T := TX9) (N := 32) hx hb hts inG_X9 hown hK hP 2 rfl rfl 7 (by decide) (hts _ fl_X9_19) (fun _ h9 => h9) rfl dX9_kept_47 ?_
              refine lv_iload_n hx hb dX9_kept_50 rfl (lv_at hl 1 rfl) ?_
              refine va_iald (t0 := 0) hx hb hK hP 1 (ha := rfl) (ht := rfl) (I_in (by omega) (by omega)) dX9_kept_51 ?_
              refine lv_topi (fun v6 ev6 => ?_)
              refine lv_icmp_ne (tgt := 59) hx hb dX9_kept_52 (by decide) (fun c7 => ?_) (fun c7 => ?_)
              · have c7' := I_ne c7
                refine lv_iconst (v := 0) hx hb dX9_kept_59 (by decide) ?_
                refine lv_iadd hx hb dX9_kept_60 ?_
                refine lv_topi (fun v8 ev8 => ?_)
                refine lv_istore_n (lv' := [(1, .int v8), (3, .int L3_14), (2, .int L2_4), (0, .ref m0)]) hx hb dX9_kept_61 rfl hl (by decide) rfl (fun ls hl => ?_)
                obtain ⟨v9, ev9⟩ : ∃ y : Int32, y = L2_4 + 1 := ⟨_, rfl⟩
                try have hv9 : v9.toInt = L2_4.toInt + (1 : Int32).toInt := I_addx ev9 (by omega)
                refine lv_iinc (v := v9) (lv' := [(2, .int v9), (1, .int v8), (3, .int L3_14), (0, .ref m0)]) hx hb dX9_kept_62 hl (k := 2) rfl (by rw [ev9]; rfl) (by decide) rfl (fun ls hl => ?_)
                refine lv_goto (tgt := 4) hx hb dX9_kept_65 (by decide) ?_
                exact ih4 v9 v8 mnnf_14 mwof_5 (by first | assumption | omega) (by omega) H locs ls (hP.sub (ws' := [(m0, .inr (8, [.int mth, .int mst, .ref mp, .int mln, .ref mk, .int mts, .ref mti, .ref mtw, .ref mi, .int mmn, .ref mpo, .int mpd, .ref mpi, .int mpl, .int mcp, .ref mre, .ref mnn, .ref mwo, .ref mga, .ref mlo, .ref mro, .ref mle, .ref mra, .int mme, .ref mha, .int mch, .int mtm, .int mgo, .int mwa, .ref mba, .int mbl, .ref mon])), (mk, .inl (cI, 4, .inl mkf)), (mti, .inl (cI, 32, .inl mtif)), (mtw, .inl (cI, 8, .inl mtwf)), (mpo, .inl (cI, 12, .inl mpof)), (mnn, .inl (cI, 4, .inl mnnf_14)), (mwo, .inl (cJ, 12, .inr (.inl mwof_5)))]) [2, 3, 0, 1, 4, 5, 6] rfl) (hD.sub (ws' := [(m0, .inr (8, [.int mth, .int mst, .ref mp, .int mln, .ref mk, .int mts, .ref mti, .ref mtw, .ref mi, .int mmn, .ref mpo, .int mpd, .ref mpi, .int mpl, .int mcp, .ref mre, .ref mnn, .ref mwo, .ref mga, .ref mlo, .ref mro, .ref mle, .ref mra, .int mme, .ref mha, .int mch, .int mtm, .int mgo, .int mwa, .ref mba, .int mbl, .ref mon])), (mk, .inl (cI, 4, .inl mkf)), (mti, .inl (cI, 32, .inl mtif)), (mtw, .inl (cI, 8, .inl mtwf)), (mpo, .inl (cI, 12, .inl mpof)), (mnn, .inl (cI, 4, .inl mnnf_14)), (mwo, .inl (cJ, 12, .inr (.inl mwof_5)))]) [2, 3, 0, 1, 4, 5, 6] (by decide) rfl) hS (lv_sub hl [0, 1, 3] rfl)
              · have c7' := I_eq c7
                refine lv_iconst (v := 1) hx hb dX9_kept_55 (by decide) ?_
                refine lv_goto (tgt := 60) hx hb dX9_kept_56 (by decide) ?_
                refine lv_iadd hx hb dX9_kept_60 ?_
                refine lv_topi (fun v10 ev10 => ?_)
                refine lv_istore_n (lv' := [(1, .int v10), (3, .int L3_14), (2, .int L2_4), (0, .ref m0)]) hx hb dX9_kept_61 rfl hl (by decide) rfl (fun ls hl => ?_)
                obtain ⟨v11, ev11⟩ : ∃ y : Int32, y = L2_4 + 1 := ⟨_, rfl⟩
                try have hv11 : v11.toInt = L2_4.toInt + (1 : Int32).toInt := I_addx ev11 (by omega)
                refine lv_iinc (v := v11) (lv' := [(2, .int v11), (1, .int v10), (3, .int L3_14), (0, .ref m0)]) hx hb dX9_kept_62 hl (k := 2) rfl (by rw [ev11]; rfl) (by decide) rfl (fun ls hl => ?_)
                refine lv_goto (tgt := 4) hx hb dX9_kept_65 (by decide) ?_
                exact ih4 v11 v10 mnnf_14 mwof_5 (by first | assumption | omega) (by omega) H locs ls (hP.sub (ws' := [(m0, .inr (8, [.int mth, .int mst, .ref mp, .int mln, .ref mk, .int mts, .ref mti, .ref mtw, .ref mi, .int mmn, .ref mpo, .int mpd, .ref mpi, .int mpl, .int mcp, .ref mre, .ref mnn, .ref mwo, .ref mga, .ref mlo, .ref mro, .ref mle, .ref mra, .int mme, .ref mha, .int mch, .int mtm, .int mgo, .int mwa, .ref mba, .int mbl, .ref mon])), (mk, .inl (cI, 4, .inl mkf)), (mti, .inl (cI, 32, .inl mtif)), (mtw, .inl (cI, 8, .inl mtwf)), (mpo, .inl (cI, 12, .inl mpof)), (mnn, .inl (cI, 4, .inl mnnf_14)), (mwo, .inl (cJ, 12, .inr (.inl mwof_5)))]) [2, 3, 0, 1, 4, 5, 6] rfl) (hD.sub (ws' := [(m0, .inr (8, [.int mth, .int mst, .ref mp, .int mln, .ref mk, .int mts, .ref mti, .ref mtw, .ref mi, .int mmn, .ref mpo, .int mpd, .ref mpi, .int mpl, .int mcp, .ref mre, .ref mnn, .ref mwo, .ref mga, .ref mlo, .ref mro, .ref mle, .ref mra, .int mme, .ref mha, .int mch, .int mtm, .int mgo, .int mwa, .ref mba, .int mbl, .ref mon])), (mk, .inl (cI, 4, .inl mkf)), (mti, .inl (cI, 32, .inl mtif)), (mtw, .inl (cI, 8, .inl mtwf)), (mpo, .inl (cI, 12, .inl mpof)), (mnn, .inl (cI, 4, .inl mnnf_14)), (mwo, .inl (cJ, 12, .inr (.inl mwof_5)))]) [2, 3, 0, 1, 4, 5, 6] (by decide) rfl) hS (lv_sub hl [0, 1, 3] rfl)
            · have c2' := I_nle c2
              refine lv_aload_n hx hb dX9_kept_19 rfl (lv_at hl 3 rfl) ?_
              refine va_get (D := (dC, dI)) (ci := 8) (v := .ref mnn) (C := RX9) (T := TX9) (N := 32) hx hb hts inG_X9 hown hK hP 0 rfl rfl 16 (by decide) (hts _ fl_X9_34) (fun _ h9 => h9) rfl dX9_kept_20 ?_
              refine lv_iload_n hx hb dX9_kept_23 rfl (lv_at hl 0 rfl) ?_
              refine lv_aload_n hx hb dX9_kept_24 rfl (lv_at hl 3 rfl) ?_
              refine va_get (D := (dC, dI)) (ci := 8) (v := .ref mti) (C := RX9) (T := TX9) (N := 32) hx hb hts inG_X9 hown hK hP 0 rfl rfl 6 (by decide) (hts _ fl_X9_16) (fun _ h9 => h9) rfl dX9_kept_25 ?_
              refine lv_iconst (v := 4) hx hb dX9_kept_28 (by decide) ?_
              refine lv_iload_n hx hb dX9_kept_29 rfl (lv_at hl 1 rfl) ?_
              refine lv_imul hx hb dX9_kept_30 ?_
              refine lv_topi (fun v12 ev12 => ?_)
              try have hv12 := I_mulxl (4) ev12 (by decide) (by omega)
              refine lv_iload_n hx hb dX9_kept_31 rfl (lv_at hl 0 rfl) ?_
              refine lv_iadd hx hb dX9_kept_32 ?_
              refine lv_topi (fun v13 ev13 => ?_)
              try have hv13 : v13.toInt = v12.toInt + L3_14.toInt := I_addx ev13 (by omega)
              refine va_iald (t0 := 0) hx hb hK hP 2 (ha := rfl) (ht := rfl) (I_in (by omega) (by omega)) dX9_kept_33 ?_
              refine lv_topi (fun v14 ev14 => ?_)
              refine va_iast (t0 := 0) hx hb hK hP hD hS 5 (ha := rfl) (ht := rfl) (I_in (by omega) (by omega)) dX9_kept_34 (fun H locs hP hD hS => ?_)
              have hP : va_P (dC, dI) vwCl [(m0, .inr (8, [.int mth, .int mst, .ref mp, .int mln, .ref mk, .int mts, .ref mti, .ref mtw, .ref mi, .int mmn, .ref mpo, .int mpd, .ref mpi, .int mpl, .int mcp, .ref mre, .ref mnn, .ref mwo, .ref mga, .ref mlo, .ref mro, .ref mle, .ref mra, .int mme, .ref mha, .int mch, .int mtm, .int mgo, .int mwa, .ref mba, .int mbl, .ref mon])), (mk, .inl (cI, 4, .inl mkf)), (mti, .inl (cI, 32, .inl mtif)), (mtw, .inl (cI, 8, .inl mtwf)), (mpo, .inl (cI, 12, .inl mpof)), (mnn, .inl (cI, 4, .inl (upd mnnf_14 L3_14.toNatClampNeg v14))), (mwo, .inl (cJ, 12, .inr (.inl mwof_4)))] H := hP
              have hD : va_D A [(m0, .inr (8, [.int mth, .int mst, .ref mp, .int mln, .ref mk, .int mts, .ref mti, .ref mtw, .ref mi, .int mmn, .ref mpo, .int mpd, .ref mpi, .int mpl, .int mcp, .ref mre, .ref mnn, .ref mwo, .ref mga, .ref mlo, .ref mro, .ref mle, .ref mra, .int mme, .ref mha, .int mch, .int mtm, .int mgo, .int mwa, .ref mba, .int mbl, .ref mon])), (mk, .inl (cI, 4, .inl mkf)), (mti, .inl (cI, 32, .inl mtif)), (mtw, .inl (cI, 8, .inl mtwf)), (mpo, .inl (cI, 12, .inl mpof)), (mnn, .inl (cI, 4, .inl (upd mnnf_14 L3_14.toNatClampNeg v14))), (mwo, .inl (cJ, 12, .inr (.inl mwof_4)))] := hD
              generalize ef15 : upd mnnf_14 L3_14.toNatClampNeg v14 = f15 at hP hD
              obtain ⟨v16, ev16⟩ : ∃ y : Int32, y = L3_14 + 1 := ⟨_, rfl⟩
              try have hv16 : v16.toInt = L3_14.toInt + (1 : Int32).toInt := I_addx ev16 (by omega)
              refine lv_iinc (v := v16) (lv' := [(3, .int v16), (2, .int L2_4), (1, .int L1_4), (0, .ref m0)]) hx hb dX9_kept_35 hl (k := 0) rfl (by rw [ev16]; rfl) (by decide) rfl (fun ls hl => ?_)
              refine lv_goto (tgt := 14) hx hb dX9_kept_38 (by decide) ?_
              exact ih14 v16 f15 (by first | assumption | omega) (by omega) H locs ls hP hD hS hl
        exact J14 ((4 - (0 : Int32).toInt).toNat + 1) 0 mnnf_4 (by first | assumption | omega) (by omega) H locs ls hP hD hS hl
  exact J4 ((8 - (0 : Int32).toInt).toNat + 1) 0 0 mnnf mwof (by first | assumption | omega) (by omega) H locs ls hP hD hS hl
set_option maxHeartbeats 4000000 in
set_option maxRecDepth 100000 in
theorem c_X9_keeps (l : Launch) (dC : Nat → ClassId) (dI : Nat → Nat → Nat) (cI cJ : ClassId) (base bB bO : Nat) (m0 : Nat) (mth : Int32) (mst : Int32) (mp : Nat) (mln : Int32) (mk : Nat) (mts : Int32) (mti : Nat) (mtw : Nat) (mi : Nat) (mmn : Int32) (mpo : Nat) (mpd : Int32) (mpi : Nat) (mpl : Int32) (mcp : Int32) (mre : Nat) (mnn : Nat) (mwo : Nat) (mga : Nat) (mlo : Nat) (mro : Nat) (mle : Nat) (mra : Nat) (mme : Int32) (mha : Nat) (mch : Int32) (mtm : Int32) (mgo : Int32) (mwa : Int32) (mba : Nat) (mbl : Int32) (mon : Nat) (mpf : Nat → Int32) (mkf : Nat → Int32) (mtif : Nat → Int32) (mtwf : Nat → Int32) (mif : Nat → Int32) (mpof : Nat → Int32) (mpif : Nat → Int32) (mref : Nat → Int32) (mnnf : Nat → Int32) (mwof : Nat → Int64) (hq0 : 0 ≤ mln.toInt ∧ mln.toInt ≤ 10) (hq1 : 0 ≤ mts.toInt ∧ mts.toInt ≤ 8) : CtI l dC dI cI cJ base bB bO yX9_keeps cX9_keeps 1 .int 5 105 [.ref m0] [(m0, .inr (8, [.int mth, .int mst, .ref mp, .int mln, .ref mk, .int mts, .ref mti, .ref mtw, .ref mi, .int mmn, .ref mpo, .int mpd, .ref mpi, .int mpl, .int mcp, .ref mre, .ref mnn, .ref mwo, .ref mga, .ref mlo, .ref mro, .ref mle, .ref mra, .int mme, .ref mha, .int mch, .int mtm, .int mgo, .int mwa, .ref mba, .int mbl, .ref mon])), (mp, .inl (cI, 10, .inl mpf)), (mk, .inl (cI, 4, .inl mkf)), (mti, .inl (cI, 32, .inl mtif)), (mtw, .inl (cI, 8, .inl mtwf)), (mi, .inl (cI, 12, .inl mif)), (mpo, .inl (cI, 12, .inl mpof)), (mpi, .inl (cI, 26, .inl mpif)), (mre, .inl (cI, 12, .inl mref)), (mnn, .inl (cI, 4, .inl mnnf)), (mwo, .inl (cJ, 12, .inr (.inl mwof)))] ((Int32) × (Int32) × (Nat → Int32) × (Int32) × (Int32) × (Int32) × (Nat → Int32) × (Nat → Int32) × (Nat → Int32) × (Nat → Int32) × (Nat → Int64)) (fun (res : Int32) (u : (Int32) × (Int32) × (Nat → Int32) × (Int32) × (Int32) × (Int32) × (Nat → Int32) × (Nat → Int32) × (Nat → Int32) × (Nat → Int32) × (Nat → Int64)) => (0 ≤ u.2.1.toInt ∧ u.2.1.toInt ≤ 12) ∧ (u.2.2.2.2.2.1.toInt = 0 ∨ u.2.2.2.2.2.1.toInt = 1) ∧ True) (fun (u : (Int32) × (Int32) × (Nat → Int32) × (Int32) × (Int32) × (Int32) × (Nat → Int32) × (Nat → Int32) × (Nat → Int32) × (Nat → Int32) × (Nat → Int64)) => [(m0, .inr (8, [.int u.1, .int mst, .ref mp, .int mln, .ref mk, .int mts, .ref mti, .ref mtw, .ref mi, .int u.2.1, .ref mpo, .int u.2.2.2.1, .ref mpi, .int u.2.2.2.2.1, .int u.2.2.2.2.2.1, .ref mre, .ref mnn, .ref mwo, .ref mga, .ref mlo, .ref mro, .ref mle, .ref mra, .int mme, .ref mha, .int mch, .int mtm, .int mgo, .int mwa, .ref mba, .int mbl, .ref mon])), (mp, .inl (cI, 10, .inl mpf)), (mk, .inl (cI, 4, .inl mkf)), (mti, .inl (cI, 32, .inl mtif)), (mtw, .inl (cI, 8, .inl mtwf)), (mi, .inl (cI, 12, .inl u.2.2.1)), (mpo, .inl (cI, 12, .inl u.2.2.2.2.2.2.1)), (mpi, .inl (cI, 26, .inl u.2.2.2.2.2.2.2.1)), (mre, .inl (cI, 12, .inl u.2.2.2.2.2.2.2.2.1)), (mnn, .inl (cI, 4, .inl u.2.2.2.2.2.2.2.2.2.1)), (mwo, .inl (cJ, 12, .inr (.inl u.2.2.2.2.2.2.2.2.2.2)))]) := by
  refine entI (by decide) (Nat.le_of_ble_eq_true rfl) ?_
  intro p e s m below meth c A Q ls hAt hret hP hD hS hl
  obtain ⟨hx, hb, hml, hown, hts, hA, hAb, hK, hE, hlocks, hin⟩ := hAt
  have hG : CG dC dI cI cJ base bB bO cX9_keeps 1 RX9 p s m (List.toArray [.ref m0]) c A := ⟨hx, hb, hml, hown, hts, hA, hAb, hK, hE⟩
  have hl : lv_has ls 1 [(0, .ref m0)] := hl
  have c_m6 : (-6 : Int32).toInt = -6 := by decide
  have c_m1 : (-1 : Int32).toInt = -1 := by decide
  have c_0 : (0 : Int32).toInt = 0 := by decide
  have c_1 : (1 : Int32).toInt = 1 := by decide
  obtain ⟨H, hHe⟩ : ∃ H : Heap, H = s.heap := ⟨_, rfl⟩
  obtain ⟨locs, hle⟩ : ∃ z : List Loc, z = [] := ⟨_, rfl⟩
  rw [← hHe] at hP
  have hS : va_S A s.heap H locs := by rw [hHe, hle]; exact hS
  suffices hgo : W p l e { frames := 5, cells := 0, slots := 0, locals := 105 } s m (List.toArray [.ref m0]) below meth c H locs 0 0 Q (F0 m 0 ls []) by rw [hHe, hle] at hgo; exact hgo
  refine lv_aload_n hx hb dX9_keeps_0 rfl (lv_at hl 0 rfl) ?_
  refine lv_iconst (v := 0) hx hb dX9_keeps_1 (by decide) ?_
  refine va_put (D := (dC, dI)) (ci := 8) (v := .int 0) (ty := .int) (C := RX9) (T := TX9) (N := 32) hx hb hts inG_X9 tyX9 tyX9_ok nmX9 hown hK hP hD hS 0 rfl rfl 0 (by decide) (hts _ fl_X9_69) (fun _ h9 => h9) rfl (by decide +kernel) rfl rfl (Nat.le_of_ble_eq_true rfl) dX9_keeps_2 (fun H locs hP hD hS => ?_)
  have hP : va_P (dC, dI) vwCl [(m0, .inr (8, [.int 0, .int mst, .ref mp, .int mln, .ref mk, .int mts, .ref mti, .ref mtw, .ref mi, .int mmn, .ref mpo, .int mpd, .ref mpi, .int mpl, .int mcp, .ref mre, .ref mnn, .ref mwo, .ref mga, .ref mlo, .ref mro, .ref mle, .ref mra, .int mme, .ref mha, .int mch, .int mtm, .int mgo, .int mwa, .ref mba, .int mbl, .ref mon])), (mp, .inl (cI, 10, .inl mpf)), (mk, .inl (cI, 4, .inl mkf)), (mti, .inl (cI, 32, .inl mtif)), (mtw, .inl (cI, 8, .inl mtwf)), (mi, .inl (cI, 12, .inl mif)), (mpo, .inl (cI, 12, .inl mpof)), (mpi, .inl (cI, 26, .inl mpif)), (mre, .inl (cI, 12, .inl mref)), (mnn, .inl (cI, 4, .inl mnnf)), (mwo, .inl (cJ, 12, .inr (.inl mwof)))] H := hP
  have hD : va_D A [(m0, .inr (8, [.int 0, .int mst, .ref mp, .int mln, .ref mk, .int mts, .ref mti, .ref mtw, .ref mi, .int mmn, .ref mpo, .int mpd, .ref mpi, .int mpl, .int mcp, .ref mre, .ref mnn, .ref mwo, .ref mga, .ref mlo, .ref mro, .ref mle, .ref mra, .int mme, .ref mha, .int mch, .int mtm, .int mgo, .int mwa, .ref mba, .int mbl, .ref mon])), (mp, .inl (cI, 10, .inl mpf)), (mk, .inl (cI, 4, .inl mkf)), (mti, .inl (cI, 32, .inl mtif)), (mtw, .inl (cI, 8, .inl mtwf)), (mi, .inl (cI, 12, .inl mif)), (mpo, .inl (cI, 12, .inl mpof)), (mpi, .inl (cI, 26, .inl mpif)), (mre, .inl (cI, 12, .inl mref)), (mnn, .inl (cI, 4, .inl mnnf)), (mwo, .inl (cJ, 12, .inr (.inl mwof)))] := hD
  refine lv_aload_n hx hb dX9_keeps_5 rfl (lv_at hl 0 rfl) ?_
  refine calV (rest := []) (wr := [(mk, .inl (cI, 4, .inl mkf)), (mti, .inl (cI, 32, .inl mtif)), (mtw, .inl (cI, 8, .inl mtwf)), (mpo, .inl (cI, 12, .inl mpof)), (mpi, .inl (cI, 26, .inl mpif)), (mre, .inl (cI, 12, .inl mref)), (mnn, .inl (cI, 4, .inl mnnf)), (mwo, .inl (cJ, 12, .inr (.inl mwof)))]) hG (c_X9_takeProgram l dC dI cI cJ base bB bO m0 0 mst mp mln mk mts mti mtw mi mmn mpo mpd mpi mpl mcp mre mnn mwo mga mlo mro mle mra mme mha mch mtm mgo mwa mba mbl mon mpf mif (by first | assumption | omega)) ml_X9_139 im_X9_takeProgram se_X9_takeProgram ini_X9 cd_X9_takeProgram hd_X9_takeProgram ⟨(Nat.le_of_ble_eq_true rfl), (Nat.le_of_ble_eq_true rfl)⟩ (Nat.le_of_ble_eq_true rfl) (Nat.le_of_ble_eq_true rfl) hP hD hS [0, 1, 5] [2, 3, 4, 6, 7, 8, 9, 10] rfl rfl rfl rfl (by decide) 8 0 rfl rfl hl.1 rfl (Nat.le_of_ble_eq_true rfl) dX9_keeps_6 (fun u H locs hw1 hP hD hS => ?_)
  obtain ⟨mmn_2, mif_3⟩ := u
  have hw1 : (mmn_2.toInt = mln.toInt) ∧ True := hw1
  obtain ⟨hp4, -⟩ := hw1
  have hP : va_P (dC, dI) vwCl [(mk, .inl (cI, 4, .inl mkf)), (mti, .inl (cI, 32, .inl mtif)), (mtw, .inl (cI, 8, .inl mtwf)), (mpo, .inl (cI, 12, .inl mpof)), (mpi, .inl (cI, 26, .inl mpif)), (mre, .inl (cI, 12, .inl mref)), (mnn, .inl (cI, 4, .inl mnnf)), (mwo, .inl (cJ, 12, .inr (.inl mwof))), (m0, .inr (8, [.int 0, .int mst, .ref mp, .int mln, .ref mk, .int mts, .ref mti, .ref mtw, .ref mi, .int mmn_2, .ref mpo, .int mpd, .ref mpi, .int mpl, .int mcp, .ref mre, .ref mnn, .ref mwo, .ref mga, .ref mlo, .ref mro, .ref mle, .ref mra, .int mme, .ref mha, .int mch, .int mtm, .int mgo, .int mwa, .ref mba, .int mbl, .ref mon])), (mp, .inl (cI, 10, .inl mpf)), (mi, .inl (cI, 12, .inl mif_3))] H := hP
  have hD : va_D A [(mk, .inl (cI, 4, .inl mkf)), (mti, .inl (cI, 32, .inl mtif)), (mtw, .inl (cI, 8, .inl mtwf)), (mpo, .inl (cI, 12, .inl mpof)), (mpi, .inl (cI, 26, .inl mpif)), (mre, .inl (cI, 12, .inl mref)), (mnn, .inl (cI, 4, .inl mnnf)), (mwo, .inl (cJ, 12, .inr (.inl mwof))), (m0, .inr (8, [.int 0, .int mst, .ref mp, .int mln, .ref mk, .int mts, .ref mti, .ref mtw, .ref mi, .int mmn_2, .ref mpo, .int mpd, .ref mpi, .int mpl, .int mcp, .ref mre, .ref mnn, .ref mwo, .ref mga, .ref mlo, .ref mro, .ref mle, .ref mra, .int mme, .ref mha, .int mch, .int mtm, .int mgo, .int mwa, .ref mba, .int mbl, .ref mon])), (mp, .inl (cI, 10, .inl mpf)), (mi, .inl (cI, 12, .inl mif_3))] := hD
  refine lv_aload_n hx hb dX9_keeps_9 rfl (lv_at hl 0 rfl) ?_
  refine calI (rest := []) (wr := [(mk, .inl (cI, 4, .inl mkf)), (mti, .inl (cI, 32, .inl mtif)), (mtw, .inl (cI, 8, .inl mtwf)), (mre, .inl (cI, 12, .inl mref)), (mnn, .inl (cI, 4, .inl mnnf)), (mwo, .inl (cJ, 12, .inr (.inl mwof))), (mp, .inl (cI, 10, .inl mpf))]) hG (c_X9_read l dC dI cI cJ base bB bO m0 0 mst mp mln mk mts mti mtw mi mmn_2 mpo mpd mpi mpl mcp mre mnn mwo mga mlo mro mle mra mme mha mch mtm mgo mwa mba mbl mon mif_3 mpof mpif (by first | assumption | omega)) ml_X9_142 im_X9_read se_X9_read ini_X9 cd_X9_read hd_X9_read ⟨(Nat.le_of_ble_eq_true rfl), (Nat.le_of_ble_eq_true rfl)⟩ (Nat.le_of_ble_eq_true rfl) (Nat.le_of_ble_eq_true rfl) hP hD hS [8, 10, 3, 4] [0, 1, 2, 5, 6, 7, 9] rfl rfl rfl rfl (by decide) 8 8 rfl rfl hl.1 rfl (Nat.le_of_ble_eq_true rfl) dX9_keeps_10 (fun r5 u H locs hw6 hP hD hS => ?_)
  obtain ⟨mpd_7, mpl_8, mcp_9, mpof_10, mpif_11⟩ := u
  have hw6 : (¬ r5.toInt = -1 ∨ (0 ≤ mpd_7.toInt ∧ mpd_7.toInt ≤ 12)) ∧ (¬ r5.toInt = -1 ∨ WFn mpof_10 mpd_7.toInt.toNat) ∧ (mcp_9.toInt = 0 ∨ mcp_9.toInt = 1) ∧ True := hw6
  obtain ⟨hp12, hp13, hp14, -⟩ := hw6
  have hP : va_P (dC, dI) vwCl [(mk, .inl (cI, 4, .inl mkf)), (mti, .inl (cI, 32, .inl mtif)), (mtw, .inl (cI, 8, .inl mtwf)), (mre, .inl (cI, 12, .inl mref)), (mnn, .inl (cI, 4, .inl mnnf)), (mwo, .inl (cJ, 12, .inr (.inl mwof))), (mp, .inl (cI, 10, .inl mpf)), (m0, .inr (8, [.int 0, .int mst, .ref mp, .int mln, .ref mk, .int mts, .ref mti, .ref mtw, .ref mi, .int mmn_2, .ref mpo, .int mpd_7, .ref mpi, .int mpl_8, .int mcp_9, .ref mre, .ref mnn, .ref mwo, .ref mga, .ref mlo, .ref mro, .ref mle, .ref mra, .int mme, .ref mha, .int mch, .int mtm, .int mgo, .int mwa, .ref mba, .int mbl, .ref mon])), (mi, .inl (cI, 12, .inl mif_3)), (mpo, .inl (cI, 12, .inl mpof_10)), (mpi, .inl (cI, 26, .inl mpif_11))] H := hP
  have hD : va_D A [(mk, .inl (cI, 4, .inl mkf)), (mti, .inl (cI, 32, .inl mtif)), (mtw, .inl (cI, 8, .inl mtwf)), (mre, .inl (cI, 12, .inl mref)), (mnn, .inl (cI, 4, .inl mnnf)), (mwo, .inl (cJ, 12, .inr (.inl mwof))), (mp, .inl (cI, 10, .inl mpf)), (m0, .inr (8, [.int 0, .int mst, .ref mp, .int mln, .ref mk, .int mts, .ref mti, .ref mtw, .ref mi, .int mmn_2, .ref mpo, .int mpd_7, .ref mpi, .int mpl_8, .int mcp_9, .ref mre, .ref mnn, .ref mwo, .ref mga, .ref mlo, .ref mro, .ref mle, .ref mra, .int mme, .ref mha, .int mch, .int mtm, .int mgo, .int mwa, .ref mba, .int mbl, .ref mon])), (mi, .inl (cI, 12, .inl mif_3)), (mpo, .inl (cI, 12, .inl mpof_10)), (mpi, .inl (cI, 26, .inl mpif_11))] := hD
  have hr0 := hp12
  have hr1 := hp13
  refine lv_iconst (v := (-1)) hx hb dX9_keeps_13 (by decide) ?_
  refine lv_icmp_ne (tgt := 24) hx hb dX9_keeps_14 (by decide) (fun c15 => ?_) (fun c15 => ?_)
  · have c15' := I_ne c15
    refine lv_bipush (v := (-6)) hx hb dX9_keeps_24 (by decide) ?_
    refine lv_goto (tgt := 33) hx hb dX9_keeps_26 (by decide) ?_
    exact hret (-6) (0, mmn_2, mif_3, mpd_7, mpl_8, mcp_9, mpof_10, mpif_11, mref, mnnf, mwof) H locs 33 ls rfl ⟨(show 0 ≤ mmn_2.toInt ∧ mmn_2.toInt ≤ 12 from by first | rfl | assumption | omega), (show mcp_9.toInt = 0 ∨ mcp_9.toInt = 1 from by first | rfl | assumption | omega), trivial⟩ (hP.sub (ws' := [(m0, .inr (8, [.int 0, .int mst, .ref mp, .int mln, .ref mk, .int mts, .ref mti, .ref mtw, .ref mi, .int mmn_2, .ref mpo, .int mpd_7, .ref mpi, .int mpl_8, .int mcp_9, .ref mre, .ref mnn, .ref mwo, .ref mga, .ref mlo, .ref mro, .ref mle, .ref mra, .int mme, .ref mha, .int mch, .int mtm, .int mgo, .int mwa, .ref mba, .int mbl, .ref mon])), (mp, .inl (cI, 10, .inl mpf)), (mk, .inl (cI, 4, .inl mkf)), (mti, .inl (cI, 32, .inl mtif)), (mtw, .inl (cI, 8, .inl mtwf)), (mi, .inl (cI, 12, .inl mif_3)), (mpo, .inl (cI, 12, .inl mpof_10)), (mpi, .inl (cI, 26, .inl mpif_11)), (mre, .inl (cI, 12, .inl mref)), (mnn, .inl (cI, 4, .inl mnnf)), (mwo, .inl (cJ, 12, .inr (.inl mwof)))]) [7, 6, 0, 1, 2, 8, 9, 10, 3, 4, 5] rfl) (hD.sub (ws' := [(m0, .inr (8, [.int 0, .int mst, .ref mp, .int mln, .ref mk, .int mts, .ref mti, .ref mtw, .ref mi, .int mmn_2, .ref mpo, .int mpd_7, .ref mpi, .int mpl_8, .int mcp_9, .ref mre, .ref mnn, .ref mwo, .ref mga, .ref mlo, .ref mro, .ref mle, .ref mra, .int mme, .ref mha, .int mch, .int mtm, .int mgo, .int mwa, .ref mba, .int mbl, .ref mon])), (mp, .inl (cI, 10, .inl mpf)), (mk, .inl (cI, 4, .inl mkf)), (mti, .inl (cI, 32, .inl mtif)), (mtw, .inl (cI, 8, .inl mtwf)), (mi, .inl (cI, 12, .inl mif_3)), (mpo, .inl (cI, 12, .inl mpof_10)), (mpi, .inl (cI, 26, .inl mpif_11)), (mre, .inl (cI, 12, .inl mref)), (mnn, .inl (cI, 4, .inl mnnf)), (mwo, .inl (cJ, 12, .inr (.inl mwof)))]) [7, 6, 0, 1, 2, 8, 9, 10, 3, 4, 5] (by decide) rfl) hS dX9_keeps_33
  · have c15' := I_eq c15
    refine lv_aload_n hx hb dX9_keeps_17 rfl (lv_at hl 0 rfl) ?_
    refine calI (rest := []) (wr := [(mti, .inl (cI, 32, .inl mtif)), (mtw, .inl (cI, 8, .inl mtwf)), (mnn, .inl (cI, 4, .inl mnnf)), (mwo, .inl (cJ, 12, .inr (.inl mwof))), (mp, .inl (cI, 10, .inl mpf)), (mi, .inl (cI, 12, .inl mif_3)), (mpi, .inl (cI, 26, .inl mpif_11))]) hG (c_X9_kindOf l dC dI cI cJ base bB bO m0 0 mst mp mln mk mts mti mtw mi mmn_2 mpo mpd_7 mpi mpl_8 mcp_9 mre mnn mwo mga mlo mro mle mra mme mha mch mtm mgo mwa mba mbl mon mkf mpof_10 mref (by rcases hr1 with h | h; exact absurd (by omega) h; exact h) (by first | assumption | omega)) ml_X9_145 im_X9_kindOf se_X9_kindOf ini_X9 cd_X9_kindOf hd_X9_kindOf ⟨(Nat.le_of_ble_eq_true rfl), (Nat.le_of_ble_eq_true rfl)⟩ (Nat.le_of_ble_eq_true rfl) (Nat.le_of_ble_eq_true rfl) hP hD hS [7, 0, 9, 3] [1, 2, 4, 5, 6, 8, 10] rfl rfl rfl rfl (by decide) 8 7 rfl rfl hl.1 rfl (Nat.le_of_ble_eq_true rfl) dX9_keeps_18 (fun r16 u H locs hw17 hP hD hS => ?_)
    obtain ⟨mref_18, rfl⟩ : ∃ z, z = u := ⟨_, rfl⟩
    have hP : va_P (dC, dI) vwCl [(mti, .inl (cI, 32, .inl mtif)), (mtw, .inl (cI, 8, .inl mtwf)), (mnn, .inl (cI, 4, .inl mnnf)), (mwo, .inl (cJ, 12, .inr (.inl mwof))), (mp, .inl (cI, 10, .inl mpf)), (mi, .inl (cI, 12, .inl mif_3)), (mpi, .inl (cI, 26, .inl mpif_11)), (m0, .inr (8, [.int 0, .int mst, .ref mp, .int mln, .ref mk, .int mts, .ref mti, .ref mtw, .ref mi, .int mmn_2, .ref mpo, .int mpd_7, .ref mpi, .int mpl_8, .int mcp_9, .ref mre, .ref mnn, .ref mwo, .ref mga, .ref mlo, .ref mro, .ref mle, .ref mra, .int mme, .ref mha, .int mch, .int mtm, .int mgo, .int mwa, .ref mba, .int mbl, .ref mon])), (mk, .inl (cI, 4, .inl mkf)), (mpo, .inl (cI, 12, .inl mpof_10)), (mre, .inl (cI, 12, .inl mref_18))] H := hP
    have hD : va_D A [(mti, .inl (cI, 32, .inl mtif)), (mtw, .inl (cI, 8, .inl mtwf)), (mnn, .inl (cI, 4, .inl mnnf)), (mwo, .inl (cJ, 12, .inr (.inl mwof))), (mp, .inl (cI, 10, .inl mpf)), (mi, .inl (cI, 12, .inl mif_3)), (mpi, .inl (cI, 26, .inl mpif_11)), (m0, .inr (8, [.int 0, .int mst, .ref mp, .int mln, .ref mk, .int mts, .ref mti, .ref mtw, .ref mi, .int mmn_2, .ref mpo, .int mpd_7, .ref mpi, .int mpl_8, .int mcp_9, .ref mre, .ref mnn, .ref mwo, .ref mga, .ref mlo, .ref mro, .ref mle, .ref mra, .int mme, .ref mha, .int mch, .int mtm, .int mgo, .int mwa, .ref mba, .int mbl, .ref mon])), (mk, .inl (cI, 4, .inl mkf)), (mpo, .inl (cI, 12, .inl mpof_10)), (mre, .inl (cI, 12, .inl mref_18))] := hD
    refine lv_if_ge (tgt := 29) hx hb dX9_keeps_21 (by decide) (fun c19 => ?_) (fun c19 => ?_)
    · have c19' := I_le c19
      refine lv_aload_n hx hb dX9_keeps_29 rfl (lv_at hl 0 rfl) ?_
      refine calI (rest := []) (wr := [(mp, .inl (cI, 10, .inl mpf)), (mi, .inl (cI, 12, .inl mif_3)), (mpi, .inl (cI, 26, .inl mpif_11)), (mre, .inl (cI, 12, .inl mref_18))]) hG (c_X9_kept l dC dI cI cJ base bB bO m0 0 mst mp mln mk mts mti mtw mi mmn_2 mpo mpd_7 mpi mpl_8 mcp_9 mre mnn mwo mga mlo mro mle mra mme mha mch mtm mgo mwa mba mbl mon mkf mtif mtwf mpof_10 mnnf mwof (by rcases hr1 with h | h; exact absurd (by omega) h; exact h) (by first | assumption | omega) (by first | assumption | omega)) ml_X9_158 im_X9_kept se_X9_kept ini_X9 cd_X9_kept hd_X9_kept ⟨(Nat.le_of_ble_eq_true rfl), (Nat.le_of_ble_eq_true rfl)⟩ (Nat.le_of_ble_eq_true rfl) (Nat.le_of_ble_eq_true rfl) hP hD hS [7, 8, 0, 1, 9, 2, 3] [4, 5, 6, 10] rfl rfl rfl rfl (by decide) 8 7 rfl rfl hl.1 rfl (Nat.le_of_ble_eq_true rfl) dX9_keeps_30 (fun r20 u H locs hw21 hP hD hS => ?_)
      obtain ⟨mnnf_22, mwof_23⟩ := u
      have hP : va_P (dC, dI) vwCl [(mp, .inl (cI, 10, .inl mpf)), (mi, .inl (cI, 12, .inl mif_3)), (mpi, .inl (cI, 26, .inl mpif_11)), (mre, .inl (cI, 12, .inl mref_18)), (m0, .inr (8, [.int 0, .int mst, .ref mp, .int mln, .ref mk, .int mts, .ref mti, .ref mtw, .ref mi, .int mmn_2, .ref mpo, .int mpd_7, .ref mpi, .int mpl_8, .int mcp_9, .ref mre, .ref mnn, .ref mwo, .ref mga, .ref mlo, .ref mro, .ref mle, .ref mra, .int mme, .ref mha, .int mch, .int mtm, .int mgo, .int mwa, .ref mba, .int mbl, .ref mon])), (mk, .inl (cI, 4, .inl mkf)), (mti, .inl (cI, 32, .inl mtif)), (mtw, .inl (cI, 8, .inl mtwf)), (mpo, .inl (cI, 12, .inl mpof_10)), (mnn, .inl (cI, 4, .inl mnnf_22)), (mwo, .inl (cJ, 12, .inr (.inl mwof_23)))] H := hP
      have hD : va_D A [(mp, .inl (cI, 10, .inl mpf)), (mi, .inl (cI, 12, .inl mif_3)), (mpi, .inl (cI, 26, .inl mpif_11)), (mre, .inl (cI, 12, .inl mref_18)), (m0, .inr (8, [.int 0, .int mst, .ref mp, .int mln, .ref mk, .int mts, .ref mti, .ref mtw, .ref mi, .int mmn_2, .ref mpo, .int mpd_7, .ref mpi, .int mpl_8, .int mcp_9, .ref mre, .ref mnn, .ref mwo, .ref mga, .ref mlo, .ref mro, .ref mle, .ref mra, .int mme, .ref mha, .int mch, .int mtm, .int mgo, .int mwa, .ref mba, .int mbl, .ref mon])), (mk, .inl (cI, 4, .inl mkf)), (mti, .inl (cI, 32, .inl mtif)), (mtw, .inl (cI, 8, .inl mtwf)), (mpo, .inl (cI, 12, .inl mpof_10)), (mnn, .inl (cI, 4, .inl mnnf_22)), (mwo, .inl (cJ, 12, .inr (.inl mwof_23)))] := hD
      exact hret r20 (0, mmn_2, mif_3, mpd_7, mpl_8, mcp_9, mpof_10, mpif_11, mref_18, mnnf_22, mwof_23) H locs 33 ls rfl ⟨(show 0 ≤ mmn_2.toInt ∧ mmn_2.toInt ≤ 12 from by first | rfl | assumption | omega), (show mcp_9.toInt = 0 ∨ mcp_9.toInt = 1 from by first | rfl | assumption | omega), trivial⟩ (hP.sub (ws' := [(m0, .inr (8, [.int 0, .int mst, .ref mp, .int mln, .ref mk, .int mts, .ref mti, .ref mtw, .ref mi, .int mmn_2, .ref mpo, .int mpd_7, .ref mpi, .int mpl_8, .int mcp_9, .ref mre, .ref mnn, .ref mwo, .ref mga, .ref mlo, .ref mro, .ref mle, .ref mra, .int mme, .ref mha, .int mch, .int mtm, .int mgo, .int mwa, .ref mba, .int mbl, .ref mon])), (mp, .inl (cI, 10, .inl mpf)), (mk, .inl (cI, 4, .inl mkf)), (mti, .inl (cI, 32, .inl mtif)), (mtw, .inl (cI, 8, .inl mtwf)), (mi, .inl (cI, 12, .inl mif_3)), (mpo, .inl (cI, 12, .inl mpof_10)), (mpi, .inl (cI, 26, .inl mpif_11)), (mre, .inl (cI, 12, .inl mref_18)), (mnn, .inl (cI, 4, .inl mnnf_22)), (mwo, .inl (cJ, 12, .inr (.inl mwof_23)))]) [4, 0, 5, 6, 7, 1, 8, 2, 3, 9, 10] rfl) (hD.sub (ws' := [(m0, .inr (8, [.int 0, .int mst, .ref mp, .int mln, .ref mk, .int mts, .ref mti, .ref mtw, .ref mi, .int mmn_2, .ref mpo, .int mpd_7, .ref mpi, .int mpl_8, .int mcp_9, .ref mre, .ref mnn, .ref mwo, .ref mga, .ref mlo, .ref mro, .ref mle, .ref mra, .int mme, .ref mha, .int mch, .int mtm, .int mgo, .int mwa, .ref mba, .int mbl, .ref mon])), (mp, .inl (cI, 10, .inl mpf)), (mk, .inl (cI, 4, .inl mkf)), (mti, .inl (cI, 32, .inl mtif)), (mtw, .inl (cI, 8, .inl mtwf)), (mi, .inl (cI, 12, .inl mif_3)), (mpo, .inl (cI, 12, .inl mpof_10)), (mpi, .inl (cI, 26, .inl mpif_11)), (mre, .inl (cI, 12, .inl mref_18)), (mnn, .inl (cI, 4, .inl mnnf_22)), (mwo, .inl (cJ, 12, .inr (.inl mwof_23)))]) [4, 0, 5, 6, 7, 1, 8, 2, 3, 9, 10] (by decide) rfl) hS dX9_keeps_33
    · have c19' := I_nle c19
      refine lv_bipush (v := (-6)) hx hb dX9_keeps_24 (by decide) ?_
      refine lv_goto (tgt := 33) hx hb dX9_keeps_26 (by decide) ?_
      exact hret (-6) (0, mmn_2, mif_3, mpd_7, mpl_8, mcp_9, mpof_10, mpif_11, mref_18, mnnf, mwof) H locs 33 ls rfl ⟨(show 0 ≤ mmn_2.toInt ∧ mmn_2.toInt ≤ 12 from by first | rfl | assumption | omega), (show mcp_9.toInt = 0 ∨ mcp_9.toInt = 1 from by first | rfl | assumption | omega), trivial⟩ (hP.sub (ws' := [(m0, .inr (8, [.int 0, .int mst, .ref mp, .int mln, .ref mk, .int mts, .ref mti, .ref mtw, .ref mi, .int mmn_2, .ref mpo, .int mpd_7, .ref mpi, .int mpl_8, .int mcp_9, .ref mre, .ref mnn, .ref mwo, .ref mga, .ref mlo, .ref mro, .ref mle, .ref mra, .int mme, .ref mha, .int mch, .int mtm, .int mgo, .int mwa, .ref mba, .int mbl, .ref mon])), (mp, .inl (cI, 10, .inl mpf)), (mk, .inl (cI, 4, .inl mkf)), (mti, .inl (cI, 32, .inl mtif)), (mtw, .inl (cI, 8, .inl mtwf)), (mi, .inl (cI, 12, .inl mif_3)), (mpo, .inl (cI, 12, .inl mpof_10)), (mpi, .inl (cI, 26, .inl mpif_11)), (mre, .inl (cI, 12, .inl mref_18)), (mnn, .inl (cI, 4, .inl mnnf)), (mwo, .inl (cJ, 12, .inr (.inl mwof)))]) [7, 4, 8, 0, 1, 5, 9, 6, 10, 2, 3] rfl) (hD.sub (ws' := [(m0, .inr (8, [.int 0, .int mst, .ref mp, .int mln, .ref mk, .int mts, .ref mti, .ref mtw, .ref mi, .int mmn_2, .ref mpo, .int mpd_7, .ref mpi, .int mpl_8, .int mcp_9, .ref mre, .ref mnn, .ref mwo, .ref mga, .ref mlo, .ref mro, .ref mle, .ref mra, .int mme, .ref mha, .int mch, .int mtm, .int mgo, .int mwa, .ref mba, .int mbl, .ref mon])), (mp, .inl (cI, 10, .inl mpf)), (mk, .inl (cI, 4, .inl mkf)), (mti, .inl (cI, 32, .inl mtif)), (mtw, .inl (cI, 8, .inl mtwf)), (mi, .inl (cI, 12, .inl mif_3)), (mpo, .inl (cI, 12, .inl mpof_10)), (mpi, .inl (cI, 26, .inl mpif_11)), (mre, .inl (cI, 12, .inl mref_18)), (mnn, .inl (cI, 4, .inl mnnf)), (mwo, .inl (cJ, 12, .inr (.inl mwof)))]) [7, 4, 8, 0, 1, 5, 9, 6, 10, 2, 3] (by decide) rfl) hS dX9_keeps_33
