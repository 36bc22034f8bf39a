set_option maxHeartbeats 4000000 in
set_option maxRecDepth 100000 in
theorem c_X3_innermost (l : Launch) (dC : Nat → ClassId) (dI : Nat → Nat → Nat) (cI cJ : ClassId) (base bB bO : Nat) (w : Int64)  : CtI l dC dI cI cJ base bB bO yX3_innermost cX3_innermost 2 .int 0 0 [.long w] [] (Unit) (fun (res : Int32) (u : Unit) => True) (fun (u : Unit) => []) := by
  refine entI (by decide) (Nat.le_of_ble_eq_true rfl) ?_
  intro p e s m below meth c A Q ls hAt hret hP hD hS hl
  obtain ⟨hx, hb, hml, hown, hts, hA, hAb, hK, hE, hlocks, hin⟩ := hAt
  have hG : CG dC dI cI cJ base bB bO cX3_innermost 2 RX3 p s m (List.toArray [.long w]) c A := ⟨hx, hb, hml, hown, hts, hA, hAb, hK, hE⟩
  have hl : lv_has ls 2 [(0, .long w)] := hl
  have c_0 : (0 : Int32).toInt = 0 := by decide
  have c_1 : (1 : Int32).toInt = 1 := by decide
  have c_3 : (3 : Int32).toInt = 3 := by decide
  have cl_7 : (7 : Int64).toInt = 7 := by decide
  obtain ⟨H, hHe⟩ : ∃ H : Heap, H = s.heap := ⟨_, rfl⟩
  obtain ⟨locs, hle⟩ : ∃ z : List Loc, z = [] := ⟨_, rfl⟩
  rw [← hHe] at hP
  have hS : va_S A s.heap H locs := by rw [hHe, hle]; exact hS
  suffices hgo : W p l e { frames := 0, cells := 0, slots := 0, locals := 0 } s m (List.toArray [.long w]) below meth c H locs 0 0 Q (F0 m 0 ls []) by rw [hHe, hle] at hgo; exact hgo
  refine lv_lload_n hx hb dX3_innermost_0 rfl (lv_at hl 0 rfl) ?_
  refine lv_iconst (v := 3) hx hb dX3_innermost_1 (by decide) ?_
  obtain ⟨w1, ew1⟩ : ∃ z : Int64, w >>> (Int32.toInt64 3 &&& 63) = z := ⟨_, rfl⟩
  refine lv_lshr (v := w1) hx hb dX3_innermost_2 ew1 ?_
  refine lv_ldc2 (v := 7) hx hb hown (hts _ k_X3_35) dX3_innermost_3 ?_
  refine lv_land hx hb dX3_innermost_6 ?_
  refine lv_topl (fun w2 ew2 => ?_)
  obtain ⟨v3, ev3⟩ : ∃ z : Int32, Int64.toInt32 w2 = z := ⟨_, rfl⟩
  refine lv_l2i (v := v3) hx hb dX3_innermost_7 ev3 ?_
  exact hret v3 () H locs 8 ls rfl trivial hP hD hS dX3_innermost_8
set_option maxHeartbeats 4000000 in
set_option maxRecDepth 100000 in
theorem c_X3_closer (l : Launch) (dC : Nat → ClassId) (dI : Nat → Nat → Nat) (cI cJ : ClassId) (base bB bO : Nat) (w : Int64)  : CtI l dC dI cI cJ base bB bO yX3_closer cX3_closer 2 .int 1 21 [.long w] [] (Unit) (fun (res : Int32) (u : Unit) => True) (fun (u : Unit) => []) := by
  refine entI (by decide) (Nat.le_of_ble_eq_true rfl) ?_
  intro p e s m below meth c A Q ls hAt hret hP hD hS hl
  obtain ⟨hx, hb, hml, hown, hts, hA, hAb, hK, hE, hlocks, hin⟩ := hAt
  have hG : CG dC dI cI cJ base bB bO cX3_closer 2 RX3 p s m (List.toArray [.long w]) c A := ⟨hx, hb, hml, hown, hts, hA, hAb, hK, hE⟩
  have hl : lv_has ls 2 [(0, .long w)] := hl
  have c_0 : (0 : Int32).toInt = 0 := by decide
  have c_1 : (1 : Int32).toInt = 1 := by decide
  have c_2 : (2 : Int32).toInt = 2 := by decide
  have c_1024 : (1024 : Int32).toInt = 1024 := by decide
  have c_2048 : (2048 : Int32).toInt = 2048 := by decide
  obtain ⟨H, hHe⟩ : ∃ H : Heap, H = s.heap := ⟨_, rfl⟩
  obtain ⟨locs, hle⟩ : ∃ z : List Loc, z = [] := ⟨_, rfl⟩
  rw [← hHe] at hP
  have hS : va_S A s.heap H locs := by rw [hHe, hle]; exact hS
  suffices hgo : W p l e { frames := 1, cells := 0, slots := 0, locals := 21 } s m (List.toArray [.long w]) below meth c H locs 0 0 Q (F0 m 0 ls []) by rw [hHe, hle] at hgo; exact hgo
  refine lv_lload_n hx hb dX3_closer_0 rfl (lv_at hl 0 rfl) ?_
  refine calOI (rest := []) (wr := []) hG (c_X3_innermost l dC dI cI cJ base bB bO w ) ml_X3_44 st_X3_innermost ini_X3 cd_X3_innermost hd_X3_innermost.2 ⟨(Nat.le_of_ble_eq_true rfl), (Nat.le_of_ble_eq_true rfl)⟩ (Nat.le_of_ble_eq_true rfl) (Nat.le_of_ble_eq_true rfl) hP hD hS [] [] rfl rfl rfl rfl (by decide) hl.1 rfl (Nat.le_of_ble_eq_true rfl) dX3_closer_1 (fun r1 u H locs hw2 hP hD hS => ?_)
  have hP : va_P (dC, dI) vwCl [] H := hP
  have hD : va_D A [] := hD
  rcases (by omega : r1.toInt = 1 ∨ r1.toInt = 2 ∨ r1.toInt = 3 ∨ r1.toInt = 4 ∨ (r1.toInt < 1 ∨ 4 < r1.toInt)) with c3 | c3 | c3 | c3 | c3
  · refine lv_tableIn (off := 32) (tgt := 36) hx hb dX3_closer_4 (by omega) (by omega) (by rw [c3]; rfl) (by decide) ?_
    refine lv_iconst (v := 2) hx hb dX3_closer_36 (by decide) ?_
    exact hret 2 () H locs 37 ls rfl trivial hP hD hS dX3_closer_37
  · refine lv_tableIn (off := 32) (tgt := 36) hx hb dX3_closer_4 (by omega) (by omega) (by rw [c3]; rfl) (by decide) ?_
    refine lv_iconst (v := 2) hx hb dX3_closer_36 (by decide) ?_
    exact hret 2 () H locs 37 ls rfl trivial hP hD hS dX3_closer_37
  · refine lv_tableIn (off := 34) (tgt := 38) hx hb dX3_closer_4 (by omega) (by omega) (by rw [c3]; rfl) (by decide) ?_
    refine lv_sipush (v := 1024) hx hb dX3_closer_38 (by decide) ?_
    exact hret 1024 () H locs 41 ls rfl trivial hP hD hS dX3_closer_41
  · refine lv_tableIn (off := 38) (tgt := 42) hx hb dX3_closer_4 (by omega) (by omega) (by rw [c3]; rfl) (by decide) ?_
    refine lv_sipush (v := 2048) hx hb dX3_closer_42 (by decide) ?_
    exact hret 2048 () H locs 45 ls rfl trivial hP hD hS dX3_closer_45
  · refine lv_tableOut (tgt := 46) hx hb dX3_closer_4 c3 (by decide) ?_
    refine lv_iconst (v := 0) hx hb dX3_closer_46 (by decide) ?_
    exact hret 0 () H locs 47 ls rfl trivial hP hD hS dX3_closer_47
set_option maxHeartbeats 4000000 in
set_option maxRecDepth 100000 in
theorem c_X3_followers (l : Launch) (dC : Nat → ClassId) (dI : Nat → Nat → Nat) (cI cJ : ClassId) (base bB bO : Nat) (w : Int64)  : CtI l dC dI cI cJ base bB bO yX3_followers cX3_followers 2 .int 2 42 [.long w] [] (Unit) (fun (res : Int32) (u : Unit) => True) (fun (u : Unit) => []) := by
  refine entI (by decide) (Nat.le_of_ble_eq_true rfl) ?_
  intro p e s m below meth c A Q ls hAt hret hP hD hS hl
  obtain ⟨hx, hb, hml, hown, hts, hA, hAb, hK, hE, hlocks, hin⟩ := hAt
  have hG : CG dC dI cI cJ base bB bO cX3_followers 2 RX3 p s m (List.toArray [.long w]) c A := ⟨hx, hb, hml, hown, hts, hA, hAb, hK, hE⟩
  have hl : lv_has ls 2 [(0, .long w)] := hl
  have c_0 : (0 : Int32).toInt = 0 := by decide
  have c_1 : (1 : Int32).toInt = 1 := by decide
  have c_156 : (156 : Int32).toInt = 156 := by decide
  have c_252 : (252 : Int32).toInt = 252 := by decide
  have c_268431361 : (268431361 : Int32).toInt = 268431361 := by decide
  have c_268431617 : (268431617 : Int32).toInt = 268431617 := by decide
  have c_268432129 : (268432129 : Int32).toInt = 268432129 := by decide
  have cl_7 : (7 : Int64).toInt = 7 := by decide
  obtain ⟨H, hHe⟩ : ∃ H : Heap, H = s.heap := ⟨_, rfl⟩
  obtain ⟨locs, hle⟩ : ∃ z : List Loc, z = [] := ⟨_, rfl⟩
  rw [← hHe] at hP
  have hS : va_S A s.heap H locs := by rw [hHe, hle]; exact hS
  suffices hgo : W p l e { frames := 2, cells := 0, slots := 0, locals := 42 } s m (List.toArray [.long w]) below meth c H locs 0 0 Q (F0 m 0 ls []) by rw [hHe, hle] at hgo; exact hgo
  refine lv_lload_n hx hb dX3_followers_0 rfl (lv_at hl 0 rfl) ?_
  refine lv_ldc2 (v := 7) hx hb hown (hts _ k_X3_35) dX3_followers_1 ?_
  refine lv_land hx hb dX3_followers_4 ?_
  refine lv_topl (fun w1 ew1 => ?_)
  obtain ⟨v2, ev2⟩ : ∃ z : Int32, Int64.toInt32 w1 = z := ⟨_, rfl⟩
  refine lv_l2i (v := v2) hx hb dX3_followers_5 ev2 ?_
  rcases (by omega : v2.toInt = 0 ∨ v2.toInt = 1 ∨ v2.toInt = 2 ∨ v2.toInt = 3 ∨ v2.toInt = 4 ∨ v2.toInt = 5 ∨ (v2.toInt < 0 ∨ 5 < v2.toInt)) with c3 | c3 | c3 | c3 | c3 | c3 | c3
  · refine lv_tableIn (off := 38) (tgt := 44) hx hb dX3_followers_6 (by omega) (by omega) (by rw [c3]; rfl) (by decide) ?_
    refine lv_ldc (v := 268432129) hx hb hown (hts _ k_X3_37) dX3_followers_44 ?_
    exact hret 268432129 () H locs 46 ls rfl trivial hP hD hS dX3_followers_46
  · refine lv_tableIn (off := 41) (tgt := 47) hx hb dX3_followers_6 (by omega) (by omega) (by rw [c3]; rfl) (by decide) ?_
    refine lv_ldc (v := 268431617) hx hb hown (hts _ k_X3_38) dX3_followers_47 ?_
    exact hret 268431617 () H locs 49 ls rfl trivial hP hD hS dX3_followers_49
  · refine lv_tableIn (off := 44) (tgt := 50) hx hb dX3_followers_6 (by omega) (by omega) (by rw [c3]; rfl) (by decide) ?_
    refine lv_ldc (v := 268431361) hx hb hown (hts _ k_X3_39) dX3_followers_50 ?_
    exact hret 268431361 () H locs 52 ls rfl trivial hP hD hS dX3_followers_52
  · refine lv_tableIn (off := 44) (tgt := 50) hx hb dX3_followers_6 (by omega) (by omega) (by rw [c3]; rfl) (by decide) ?_
    refine lv_ldc (v := 268431361) hx hb hown (hts _ k_X3_39) dX3_followers_50 ?_
    exact hret 268431361 () H locs 52 ls rfl trivial hP hD hS dX3_followers_52
  · refine lv_tableIn (off := 47) (tgt := 53) hx hb dX3_followers_6 (by omega) (by omega) (by rw [c3]; rfl) (by decide) ?_
    refine lv_sipush (v := 252) hx hb dX3_followers_53 (by decide) ?_
    refine lv_lload_n hx hb dX3_followers_56 rfl (lv_at hl 0 rfl) ?_
    refine calOI (rest := [.int 252]) (wr := []) hG (c_X3_closer l dC dI cI cJ base bB bO w ) ml_X3_40 st_X3_closer ini_X3 cd_X3_closer hd_X3_closer.2 ⟨(Nat.le_of_ble_eq_true rfl), (Nat.le_of_ble_eq_true rfl)⟩ (Nat.le_of_ble_eq_true rfl) (Nat.le_of_ble_eq_true rfl) hP hD hS [] [] rfl rfl rfl rfl (by decide) hl.1 rfl (Nat.le_of_ble_eq_true rfl) dX3_followers_57 (fun r4 u H locs hw5 hP hD hS => ?_)
    have hP : va_P (dC, dI) vwCl [] H := hP
    have hD : va_D A [] := hD
    refine lv_ior hx hb dX3_followers_60 ?_
    refine lv_topi (fun v6 ev6 => ?_)
    exact hret v6 () H locs 61 ls rfl trivial hP hD hS dX3_followers_61
  · refine lv_tableIn (off := 56) (tgt := 62) hx hb dX3_followers_6 (by omega) (by omega) (by rw [c3]; rfl) (by decide) ?_
    refine lv_sipush (v := 156) hx hb dX3_followers_62 (by decide) ?_
    refine lv_lload_n hx hb dX3_followers_65 rfl (lv_at hl 0 rfl) ?_
    refine calOI (rest := [.int 156]) (wr := []) hG (c_X3_closer l dC dI cI cJ base bB bO w ) ml_X3_40 st_X3_closer ini_X3 cd_X3_closer hd_X3_closer.2 ⟨(Nat.le_of_ble_eq_true rfl), (Nat.le_of_ble_eq_true rfl)⟩ (Nat.le_of_ble_eq_true rfl) (Nat.le_of_ble_eq_true rfl) hP hD hS [] [] rfl rfl rfl rfl (by decide) hl.1 rfl (Nat.le_of_ble_eq_true rfl) dX3_followers_66 (fun r7 u H locs hw8 hP hD hS => ?_)
    have hP : va_P (dC, dI) vwCl [] H := hP
    have hD : va_D A [] := hD
    refine lv_ior hx hb dX3_followers_69 ?_
    refine lv_topi (fun v9 ev9 => ?_)
    exact hret v9 () H locs 70 ls rfl trivial hP hD hS dX3_followers_70
  · refine lv_tableOut (tgt := 71) hx hb dX3_followers_6 c3 (by decide) ?_
    refine lv_iconst (v := 0) hx hb dX3_followers_71 (by decide) ?_
    exact hret 0 () H locs 72 ls rfl trivial hP hD hS dX3_followers_72
set_option maxHeartbeats 4000000 in
set_option maxRecDepth 100000 in
theorem c_X3_isWhole (l : Launch) (dC : Nat → ClassId) (dI : Nat → Nat → Nat) (cI cJ : ClassId) (base bB bO : Nat) (w : Int64)  : CtI l dC dI cI cJ base bB bO yX3_isWhole cX3_isWhole 2 .boolean 0 0 [.long w] [] (Unit) (fun (res : Int32) (u : Unit) => (res.toInt = 0 ∨ res.toInt = 1) ∧ True) (fun (u : Unit) => []) := by
  refine entI (by decide) (Nat.le_of_ble_eq_true rfl) ?_
  intro p e s m below meth c A Q ls hAt hret hP hD hS hl
  obtain ⟨hx, hb, hml, hown, hts, hA, hAb, hK, hE, hlocks, hin⟩ := hAt
  have hG : CG dC dI cI cJ base bB bO cX3_isWhole 2 RX3 p s m (List.toArray [.long w]) c A := ⟨hx, hb, hml, hown, hts, hA, hAb, hK, hE⟩
  have hl : lv_has ls 2 [(0, .long w)] := hl
  have c_0 : (0 : Int32).toInt = 0 := by decide
  have c_1 : (1 : Int32).toInt = 1 := by decide
  have cl_4 : (4 : Int64).toInt = 4 := by decide
  have cl_5 : (5 : Int64).toInt = 5 := by decide
  obtain ⟨H, hHe⟩ : ∃ H : Heap, H = s.heap := ⟨_, rfl⟩
  obtain ⟨locs, hle⟩ : ∃ z : List Loc, z = [] := ⟨_, rfl⟩
  rw [← hHe] at hP
  have hS : va_S A s.heap H locs := by rw [hHe, hle]; exact hS
  suffices hgo : W p l e { frames := 0, cells := 0, slots := 0, locals := 0 } s m (List.toArray [.long w]) below meth c H locs 0 0 Q (F0 m 0 ls []) by rw [hHe, hle] at hgo; exact hgo
  refine lv_lload_n hx hb dX3_isWhole_0 rfl (lv_at hl 0 rfl) ?_
  refine lv_ldc2 (v := 4) hx hb hown (hts _ k_X3_31) dX3_isWhole_1 ?_
  refine W.lcmp hx hb dX3_isWhole_4 ?_
  refine lv_topi (fun v1 ev1 => ?_)
  have hv1 := J_cmp w (4 : Int64)
  rw [← ev1] at hv1
  refine lv_if_eq (tgt := 16) hx hb dX3_isWhole_5 (by decide) (fun c2 => ?_) (fun c2 => ?_)
  · have c2' := I_eq c2
    refine lv_iconst (v := 1) hx hb dX3_isWhole_16 (by decide) ?_
    refine lv_goto (tgt := 21) hx hb dX3_isWhole_17 (by decide) ?_
    exact hret 1 () H locs 21 ls (by first | rfl | exact I_narz (by omega)) ⟨(show (1 : Int32).toInt = 0 ∨ (1 : Int32).toInt = 1 from by first | rfl | assumption | omega), trivial⟩ hP hD hS dX3_isWhole_21
  · have c2' := I_ne c2
    refine lv_lload_n hx hb dX3_isWhole_8 rfl (lv_at hl 0 rfl) ?_
    refine lv_ldc2 (v := 5) hx hb hown (hts _ k_X3_33) dX3_isWhole_9 ?_
    refine W.lcmp hx hb dX3_isWhole_12 ?_
    refine lv_topi (fun v3 ev3 => ?_)
    have hv3 := J_cmp w (5 : Int64)
    rw [← ev3] at hv3
    refine lv_if_ne (tgt := 20) hx hb dX3_isWhole_13 (by decide) (fun c4 => ?_) (fun c4 => ?_)
    · have c4' := I_ne c4
      refine lv_iconst (v := 0) hx hb dX3_isWhole_20 (by decide) ?_
      exact hret 0 () H locs 21 ls (by first | rfl | exact I_narz (by omega)) ⟨(show (0 : Int32).toInt = 0 ∨ (0 : Int32).toInt = 1 from by first | rfl | assumption | omega), trivial⟩ hP hD hS dX3_isWhole_21
    · have c4' := I_eq c4
      refine lv_iconst (v := 1) hx hb dX3_isWhole_16 (by decide) ?_
      refine lv_goto (tgt := 21) hx hb dX3_isWhole_17 (by decide) ?_
      exact hret 1 () H locs 21 ls (by first | rfl | exact I_narz (by omega)) ⟨(show (1 : Int32).toInt = 0 ∨ (1 : Int32).toInt = 1 from by first | rfl | assumption | omega), trivial⟩ hP hD hS dX3_isWhole_21
set_option maxHeartbeats 4000000 in
set_option maxRecDepth 100000 in
theorem c_X3_follow (l : Launch) (dC : Nat → ClassId) (dI : Nat → Nat → Nat) (cI cJ : ClassId) (base bB bO : Nat) (w : Int64) (x : Int32)  : CtL l dC dI cI cJ base bB bO yX3_follow cX3_follow 7 1 21 [.long w, .int x] [] (Unit) (fun (res : Int64) (u : Unit) => True) (fun (u : Unit) => []) := by
  refine entL (by decide) (Nat.le_of_ble_eq_true rfl) ?_
  intro p e s m below meth c A Q ls hAt hret hP hD hS hl
  obtain ⟨hx, hb, hml, hown, hts, hA, hAb, hK, hE, hlocks, hin⟩ := hAt
  have hG : CG dC dI cI cJ base bB bO cX3_follow 7 RX3 p s m (List.toArray [.long w, .int x]) c A := ⟨hx, hb, hml, hown, hts, hA, hAb, hK, hE⟩
  have hl : lv_has ls 7 [(0, .long w), (2, .int x)] := hl
  have c_0 : (0 : Int32).toInt = 0 := by decide
  have c_1 : (1 : Int32).toInt = 1 := by decide
  have c_2 : (2 : Int32).toInt = 2 := by decide
  have c_3 : (3 : Int32).toInt = 3 := by decide
  have c_4 : (4 : Int32).toInt = 4 := by decide
  have c_5 : (5 : Int32).toInt = 5 := by decide
  have cl_0 : (0 : Int64).toInt = 0 := by decide
  have cl_1 : (1 : Int64).toInt = 1 := by decide
  have cl_3 : (3 : Int64).toInt = 3 := by decide
  have cl_4 : (4 : Int64).toInt = 4 := by decide
  have cl_7 : (7 : Int64).toInt = 7 := by decide
  obtain ⟨H, hHe⟩ : ∃ H : Heap, H = s.heap := ⟨_, rfl⟩
  obtain ⟨locs, hle⟩ : ∃ z : List Loc, z = [] := ⟨_, rfl⟩
  rw [← hHe] at hP
  have hS : va_S A s.heap H locs := by rw [hHe, hle]; exact hS
  suffices hgo : W p l e { frames := 1, cells := 0, slots := 0, locals := 21 } s m (List.toArray [.long w, .int x]) below meth c H locs 0 0 Q (F0 m 0 ls []) by rw [hHe, hle] at hgo; exact hgo
  refine lv_lload_n hx hb dX3_follow_0 rfl (lv_at hl 0 rfl) ?_
  refine lv_ldc2 (v := 7) hx hb hown (hts _ k_X3_35) dX3_follow_1 ?_
  refine lv_land hx hb dX3_follow_4 ?_
  refine lv_topl (fun w1 ew1 => ?_)
  obtain ⟨v2, ev2⟩ : ∃ z : Int32, Int64.toInt32 w1 = z := ⟨_, rfl⟩
  refine lv_l2i (v := v2) hx hb dX3_follow_5 ev2 ?_
  refine lv_istore_n (lv' := [(3, .int v2), (0, .long w), (2, .int x)]) hx hb dX3_follow_6 rfl hl (by decide) rfl (fun ls hl => ?_)
  have J22 : ∀ (S0_22 : Int32), ∀ (H : Heap) (locs : List Loc) (ls : Array Slot), va_P (dC, dI) vwCl [] H → va_D A [] → va_S A s.heap H locs → lv_has ls 7 [(3, .int v2), (0, .long w), (2, .int x)] → W p l e { frames := 1, cells := 0, slots := 0, locals := 21 } s m (List.toArray [.long w, .int x]) below meth c H locs 0 0 Q (F0 m 22 ls [.int S0_22]) := by
    intro S0_22 H locs ls hP hD hS hl
    refine lv_istore (lv' := [(4, .int S0_22), (3, .int v2), (0, .long w), (2, .int x)]) hx hb dX3_follow_22 hl (by decide) rfl (fun ls hl => ?_)
    refine lv_lload_n hx hb dX3_follow_24 rfl (lv_at hl 2 rfl) ?_
    refine lv_iconst (v := 3) hx hb dX3_follow_25 (by decide) ?_
    obtain ⟨w3, ew3⟩ : ∃ z : Int64, w >>> (Int32.toInt64 3 &&& 63) = z := ⟨_, rfl⟩
    refine lv_lshr (v := w3) hx hb dX3_follow_26 ew3 ?_
    refine lv_lstore (lv' := [(5, .long w3), (4, .int S0_22), (3, .int v2), (0, .long w), (2, .int x)]) hx hb dX3_follow_27 hl (by decide) rfl (fun ls hl => ?_)
    refine lv_iload_n hx hb dX3_follow_29 rfl (lv_at hl 4 rfl) ?_
    rcases (by omega : x.toInt = 0 ∨ x.toInt = 1 ∨ x.toInt = 2 ∨ x.toInt = 3 ∨ x.toInt = 4 ∨ x.toInt = 5 ∨ x.toInt = 6 ∨ x.toInt = 7 ∨ x.toInt = 8 ∨ x.toInt = 9 ∨ x.toInt = 10 ∨ x.toInt = 11 ∨ (x.toInt < 0 ∨ 11 < x.toInt)) with c4 | c4 | c4 | c4 | c4 | c4 | c4 | c4 | c4 | c4 | c4 | c4 | c4
    · refine lv_tableIn (off := 62) (tgt := 92) hx hb dX3_follow_30 (by omega) (by omega) (by rw [c4]; rfl) (by decide) ?_
      refine lv_lload hx hb dX3_follow_92 (lv_at hl 0 rfl) ?_
      refine lv_iconst (v := 3) hx hb dX3_follow_94 (by decide) ?_
      obtain ⟨w5, ew5⟩ : ∃ z : Int64, w3 <<< (Int32.toInt64 3 &&& 63) = z := ⟨_, rfl⟩
      refine lv_lshl (v := w5) hx hb dX3_follow_95 ew5 ?_
      refine lv_iload hx hb dX3_follow_96 (lv_at hl 1 rfl) ?_
      refine lv_if_eq (tgt := 105) hx hb dX3_follow_98 (by decide) (fun c6 => ?_) (fun c6 => ?_)
      · have c6' := I_eq c6
        refine lv_iconst (v := 1) hx hb dX3_follow_105 (by decide) ?_
        obtain ⟨w7, ew7⟩ : ∃ z : Int64, Int32.toInt64 1 = z := ⟨_, rfl⟩
        have hw7 := J_of (1 : Int32)
        rw [ew7] at hw7
        refine lv_i2l (v := w7) hx hb dX3_follow_106 ew7 ?_
        refine lv_lor hx hb dX3_follow_107 ?_
        refine lv_topl (fun w8 ew8 => ?_)
        refine lv_iconst (v := 3) hx hb dX3_follow_108 (by decide) ?_
        obtain ⟨w9, ew9⟩ : ∃ z : Int64, w8 <<< (Int32.toInt64 3 &&& 63) = z := ⟨_, rfl⟩
        refine lv_lshl (v := w9) hx hb dX3_follow_109 ew9 ?_
        refine lv_lconst (v := 0) hx hb dX3_follow_110 (by decide) ?_
        refine lv_lor hx hb dX3_follow_111 ?_
        refine lv_topl (fun w10 ew10 => ?_)
        exact hret w10 () H locs 112 ls trivial hP hD hS dX3_follow_112
      · have c6' := I_ne c6
        refine lv_iconst (v := 2) hx hb dX3_follow_101 (by decide) ?_
        refine lv_goto (tgt := 106) hx hb dX3_follow_102 (by decide) ?_
        obtain ⟨w11, ew11⟩ : ∃ z : Int64, Int32.toInt64 2 = z := ⟨_, rfl⟩
        have hw11 := J_of (2 : Int32)
        rw [ew11] at hw11
        refine lv_i2l (v := w11) hx hb dX3_follow_106 ew11 ?_
        refine lv_lor hx hb dX3_follow_107 ?_
        refine lv_topl (fun w12 ew12 => ?_)
        refine lv_iconst (v := 3) hx hb dX3_follow_108 (by decide) ?_
        obtain ⟨w13, ew13⟩ : ∃ z : Int64, w12 <<< (Int32.toInt64 3 &&& 63) = z := ⟨_, rfl⟩
        refine lv_lshl (v := w13) hx hb dX3_follow_109 ew13 ?_
        refine lv_lconst (v := 0) hx hb dX3_follow_110 (by decide) ?_
        refine lv_lor hx hb dX3_follow_111 ?_
        refine lv_topl (fun w14 ew14 => ?_)
        exact hret w14 () H locs 112 ls trivial hP hD hS dX3_follow_112
    · refine lv_tableIn (off := 83) (tgt := 113) hx hb dX3_follow_30 (by omega) (by omega) (by rw [c4]; rfl) (by decide) ?_
      refine lv_lload hx hb dX3_follow_113 (lv_at hl 0 rfl) ?_
      refine lv_iconst (v := 3) hx hb dX3_follow_115 (by decide) ?_
      obtain ⟨w15, ew15⟩ : ∃ z : Int64, w3 >>> (Int32.toInt64 3 &&& 63) = z := ⟨_, rfl⟩
      refine lv_lshr (v := w15) hx hb dX3_follow_116 ew15 ?_
      refine lv_iconst (v := 3) hx hb dX3_follow_117 (by decide) ?_
      obtain ⟨w16, ew16⟩ : ∃ z : Int64, w15 <<< (Int32.toInt64 3 &&& 63) = z := ⟨_, rfl⟩
      refine lv_lshl (v := w16) hx hb dX3_follow_118 ew16 ?_
      refine lv_lload_n hx hb dX3_follow_119 rfl (lv_at hl 3 rfl) ?_
      refine calOI (rest := [.long w16]) (wr := []) hG (c_X3_innermost l dC dI cI cJ base bB bO w ) ml_X3_44 st_X3_innermost ini_X3 cd_X3_innermost hd_X3_innermost.2 ⟨(Nat.le_of_ble_eq_true rfl), (Nat.le_of_ble_eq_true rfl)⟩ (Nat.le_of_ble_eq_true rfl) (Nat.le_of_ble_eq_true rfl) hP hD hS [] [] rfl rfl rfl rfl (by decide) hl.1 rfl (Nat.le_of_ble_eq_true rfl) dX3_follow_120 (fun r17 u H locs hw18 hP hD hS => ?_)
      have hP : va_P (dC, dI) vwCl [] H := hP
      have hD : va_D A [] := hD
      refine lv_iconst (v := 2) hx hb dX3_follow_123 (by decide) ?_
      refine lv_icmp_ne (tgt := 131) hx hb dX3_follow_124 (by decide) (fun c19 => ?_) (fun c19 => ?_)
      · have c19' := I_ne c19
        refine lv_iconst (v := 4) hx hb dX3_follow_131 (by decide) ?_
        obtain ⟨w20, ew20⟩ : ∃ z : Int64, Int32.toInt64 4 = z := ⟨_, rfl⟩
        have hw20 := J_of (4 : Int32)
        rw [ew20] at hw20
        refine lv_i2l (v := w20) hx hb dX3_follow_132 ew20 ?_
        refine lv_lor hx hb dX3_follow_133 ?_
        refine lv_topl (fun w21 ew21 => ?_)
        exact hret w21 () H locs 134 ls trivial hP hD hS dX3_follow_134
      · have c19' := I_eq c19
        refine lv_iconst (v := 5) hx hb dX3_follow_127 (by decide) ?_
        refine lv_goto (tgt := 132) hx hb dX3_follow_128 (by decide) ?_
        obtain ⟨w22, ew22⟩ : ∃ z : Int64, Int32.toInt64 5 = z := ⟨_, rfl⟩
        have hw22 := J_of (5 : Int32)
        rw [ew22] at hw22
        refine lv_i2l (v := w22) hx hb dX3_follow_132 ew22 ?_
        refine lv_lor hx hb dX3_follow_133 ?_
        refine lv_topl (fun w23 ew23 => ?_)
        exact hret w23 () H locs 134 ls trivial hP hD hS dX3_follow_134
    · refine lv_tableIn (off := 105) (tgt := 135) hx hb dX3_follow_30 (by omega) (by omega) (by rw [c4]; rfl) (by decide) ?_
      refine lv_lload hx hb dX3_follow_135 (lv_at hl 0 rfl) ?_
      refine lv_iconst (v := 3) hx hb dX3_follow_137 (by decide) ?_
      obtain ⟨w24, ew24⟩ : ∃ z : Int64, w3 <<< (Int32.toInt64 3 &&& 63) = z := ⟨_, rfl⟩
      refine lv_lshl (v := w24) hx hb dX3_follow_138 ew24 ?_
      refine lv_iload hx hb dX3_follow_139 (lv_at hl 1 rfl) ?_
      refine lv_if_eq (tgt := 148) hx hb dX3_follow_141 (by decide) (fun c25 => ?_) (fun c25 => ?_)
      · have c25' := I_eq c25
        refine lv_iconst (v := 2) hx hb dX3_follow_148 (by decide) ?_
        obtain ⟨w26, ew26⟩ : ∃ z : Int64, Int32.toInt64 2 = z := ⟨_, rfl⟩
        have hw26 := J_of (2 : Int32)
        rw [ew26] at hw26
        refine lv_i2l (v := w26) hx hb dX3_follow_149 ew26 ?_
        refine lv_lor hx hb dX3_follow_150 ?_
        refine lv_topl (fun w27 ew27 => ?_)
        exact hret w27 () H locs 151 ls trivial hP hD hS dX3_follow_151
      · have c25' := I_ne c25
        refine lv_iconst (v := 3) hx hb dX3_follow_144 (by decide) ?_
        refine lv_goto (tgt := 149) hx hb dX3_follow_145 (by decide) ?_
        obtain ⟨w28, ew28⟩ : ∃ z : Int64, Int32.toInt64 3 = z := ⟨_, rfl⟩
        have hw28 := J_of (3 : Int32)
        rw [ew28] at hw28
        refine lv_i2l (v := w28) hx hb dX3_follow_149 ew28 ?_
        refine lv_lor hx hb dX3_follow_150 ?_
        refine lv_topl (fun w29 ew29 => ?_)
        exact hret w29 () H locs 151 ls trivial hP hD hS dX3_follow_151
    · refine lv_tableIn (off := 105) (tgt := 135) hx hb dX3_follow_30 (by omega) (by omega) (by rw [c4]; rfl) (by decide) ?_
      refine lv_lload hx hb dX3_follow_135 (lv_at hl 0 rfl) ?_
      refine lv_iconst (v := 3) hx hb dX3_follow_137 (by decide) ?_
      obtain ⟨w30, ew30⟩ : ∃ z : Int64, w3 <<< (Int32.toInt64 3 &&& 63) = z := ⟨_, rfl⟩
      refine lv_lshl (v := w30) hx hb dX3_follow_138 ew30 ?_
      refine lv_iload hx hb dX3_follow_139 (lv_at hl 1 rfl) ?_
      refine lv_if_eq (tgt := 148) hx hb dX3_follow_141 (by decide) (fun c31 => ?_) (fun c31 => ?_)
      · have c31' := I_eq c31
        refine lv_iconst (v := 2) hx hb dX3_follow_148 (by decide) ?_
        obtain ⟨w32, ew32⟩ : ∃ z : Int64, Int32.toInt64 2 = z := ⟨_, rfl⟩
        have hw32 := J_of (2 : Int32)
        rw [ew32] at hw32
        refine lv_i2l (v := w32) hx hb dX3_follow_149 ew32 ?_
        refine lv_lor hx hb dX3_follow_150 ?_
        refine lv_topl (fun w33 ew33 => ?_)
        exact hret w33 () H locs 151 ls trivial hP hD hS dX3_follow_151
      · have c31' := I_ne c31
        refine lv_iconst (v := 3) hx hb dX3_follow_144 (by decide) ?_
        refine lv_goto (tgt := 149) hx hb dX3_follow_145 (by decide) ?_
        obtain ⟨w34, ew34⟩ : ∃ z : Int64, Int32.toInt64 3 = z := ⟨_, rfl⟩
        have hw34 := J_of (3 : Int32)
        rw [ew34] at hw34
        refine lv_i2l (v := w34) hx hb dX3_follow_149 ew34 ?_
        refine lv_lor hx hb dX3_follow_150 ?_
        refine lv_topl (fun w35 ew35 => ?_)
        exact hret w35 () H locs 151 ls trivial hP hD hS dX3_follow_151
    · refine lv_tableIn (off := 105) (tgt := 135) hx hb dX3_follow_30 (by omega) (by omega) (by rw [c4]; rfl) (by decide) ?_
      refine lv_lload hx hb dX3_follow_135 (lv_at hl 0 rfl) ?_
      refine lv_iconst (v := 3) hx hb dX3_follow_137 (by decide) ?_
      obtain ⟨w36, ew36⟩ : ∃ z : Int64, w3 <<< (Int32.toInt64 3 &&& 63) = z := ⟨_, rfl⟩
      refine lv_lshl (v := w36) hx hb dX3_follow_138 ew36 ?_
      refine lv_iload hx hb dX3_follow_139 (lv_at hl 1 rfl) ?_
      refine lv_if_eq (tgt := 148) hx hb dX3_follow_141 (by decide) (fun c37 => ?_) (fun c37 => ?_)
      · have c37' := I_eq c37
        refine lv_iconst (v := 2) hx hb dX3_follow_148 (by decide) ?_
        obtain ⟨w38, ew38⟩ : ∃ z : Int64, Int32.toInt64 2 = z := ⟨_, rfl⟩
        have hw38 := J_of (2 : Int32)
        rw [ew38] at hw38
        refine lv_i2l (v := w38) hx hb dX3_follow_149 ew38 ?_
        refine lv_lor hx hb dX3_follow_150 ?_
        refine lv_topl (fun w39 ew39 => ?_)
        exact hret w39 () H locs 151 ls trivial hP hD hS dX3_follow_151
      · have c37' := I_ne c37
        refine lv_iconst (v := 3) hx hb dX3_follow_144 (by decide) ?_
        refine lv_goto (tgt := 149) hx hb dX3_follow_145 (by decide) ?_
        obtain ⟨w40, ew40⟩ : ∃ z : Int64, Int32.toInt64 3 = z := ⟨_, rfl⟩
        have hw40 := J_of (3 : Int32)
        rw [ew40] at hw40
        refine lv_i2l (v := w40) hx hb dX3_follow_149 ew40 ?_
        refine lv_lor hx hb dX3_follow_150 ?_
        refine lv_topl (fun w41 ew41 => ?_)
        exact hret w41 () H locs 151 ls trivial hP hD hS dX3_follow_151
    · refine lv_tableIn (off := 122) (tgt := 152) hx hb dX3_follow_30 (by omega) (by omega) (by rw [c4]; rfl) (by decide) ?_
      refine lv_lload hx hb dX3_follow_152 (lv_at hl 0 rfl) ?_
      refine lv_iconst (v := 3) hx hb dX3_follow_154 (by decide) ?_
      obtain ⟨w42, ew42⟩ : ∃ z : Int64, w3 <<< (Int32.toInt64 3 &&& 63) = z := ⟨_, rfl⟩
      refine lv_lshl (v := w42) hx hb dX3_follow_155 ew42 ?_
      refine lv_ldc2 (v := 3) hx hb hown (hts _ k_X3_57) dX3_follow_156 ?_
      refine lv_lor hx hb dX3_follow_159 ?_
      refine lv_topl (fun w43 ew43 => ?_)
      exact hret w43 () H locs 160 ls trivial hP hD hS dX3_follow_160
    · refine lv_tableIn (off := 122) (tgt := 152) hx hb dX3_follow_30 (by omega) (by omega) (by rw [c4]; rfl) (by decide) ?_
      refine lv_lload hx hb dX3_follow_152 (lv_at hl 0 rfl) ?_
      refine lv_iconst (v := 3) hx hb dX3_follow_154 (by decide) ?_
      obtain ⟨w44, ew44⟩ : ∃ z : Int64, w3 <<< (Int32.toInt64 3 &&& 63) = z := ⟨_, rfl⟩
      refine lv_lshl (v := w44) hx hb dX3_follow_155 ew44 ?_
      refine lv_ldc2 (v := 3) hx hb hown (hts _ k_X3_57) dX3_follow_156 ?_
      refine lv_lor hx hb dX3_follow_159 ?_
      refine lv_topl (fun w45 ew45 => ?_)
      exact hret w45 () H locs 160 ls trivial hP hD hS dX3_follow_160
    · refine lv_tableIn (off := 131) (tgt := 161) hx hb dX3_follow_30 (by omega) (by omega) (by rw [c4]; rfl) (by decide) ?_
      refine lv_lload hx hb dX3_follow_161 (lv_at hl 0 rfl) ?_
      refine lv_iconst (v := 3) hx hb dX3_follow_163 (by decide) ?_
      obtain ⟨w46, ew46⟩ : ∃ z : Int64, w3 <<< (Int32.toInt64 3 &&& 63) = z := ⟨_, rfl⟩
      refine lv_lshl (v := w46) hx hb dX3_follow_164 ew46 ?_
      refine lv_lconst (v := 1) hx hb dX3_follow_165 (by decide) ?_
      refine lv_lor hx hb dX3_follow_166 ?_
      refine lv_topl (fun w47 ew47 => ?_)
      exact hret w47 () H locs 167 ls trivial hP hD hS dX3_follow_167
    · refine lv_tableIn (off := 131) (tgt := 161) hx hb dX3_follow_30 (by omega) (by omega) (by rw [c4]; rfl) (by decide) ?_
      refine lv_lload hx hb dX3_follow_161 (lv_at hl 0 rfl) ?_
      refine lv_iconst (v := 3) hx hb dX3_follow_163 (by decide) ?_
      obtain ⟨w48, ew48⟩ : ∃ z : Int64, w3 <<< (Int32.toInt64 3 &&& 63) = z := ⟨_, rfl⟩
      refine lv_lshl (v := w48) hx hb dX3_follow_164 ew48 ?_
      refine lv_lconst (v := 1) hx hb dX3_follow_165 (by decide) ?_
      refine lv_lor hx hb dX3_follow_166 ?_
      refine lv_topl (fun w49 ew49 => ?_)
      exact hret w49 () H locs 167 ls trivial hP hD hS dX3_follow_167
    · refine lv_tableIn (off := 138) (tgt := 168) hx hb dX3_follow_30 (by omega) (by omega) (by rw [c4]; rfl) (by decide) ?_
      refine lv_lload hx hb dX3_follow_168 (lv_at hl 0 rfl) ?_
      refine lv_iconst (v := 3) hx hb dX3_follow_170 (by decide) ?_
      obtain ⟨w50, ew50⟩ : ∃ z : Int64, w3 <<< (Int32.toInt64 3 &&& 63) = z := ⟨_, rfl⟩
      refine lv_lshl (v := w50) hx hb dX3_follow_171 ew50 ?_
      refine lv_ldc2 (v := 3) hx hb hown (hts _ k_X3_57) dX3_follow_172 ?_
      refine lv_lor hx hb dX3_follow_175 ?_
      refine lv_topl (fun w51 ew51 => ?_)
      refine lv_iconst (v := 3) hx hb dX3_follow_176 (by decide) ?_
      obtain ⟨w52, ew52⟩ : ∃ z : Int64, w51 <<< (Int32.toInt64 3 &&& 63) = z := ⟨_, rfl⟩
      refine lv_lshl (v := w52) hx hb dX3_follow_177 ew52 ?_
      refine lv_lconst (v := 0) hx hb dX3_follow_178 (by decide) ?_
      refine lv_lor hx hb dX3_follow_179 ?_
      refine lv_topl (fun w53 ew53 => ?_)
      exact hret w53 () H locs 180 ls trivial hP hD hS dX3_follow_180
    · refine lv_tableIn (off := 151) (tgt := 181) hx hb dX3_follow_30 (by omega) (by omega) (by rw [c4]; rfl) (by decide) ?_
      refine lv_lload hx hb dX3_follow_181 (lv_at hl 0 rfl) ?_
      refine lv_iconst (v := 3) hx hb dX3_follow_183 (by decide) ?_
      obtain ⟨w54, ew54⟩ : ∃ z : Int64, w3 >>> (Int32.toInt64 3 &&& 63) = z := ⟨_, rfl⟩
      refine lv_lshr (v := w54) hx hb dX3_follow_184 ew54 ?_
      refine lv_iconst (v := 3) hx hb dX3_follow_185 (by decide) ?_
      obtain ⟨w55, ew55⟩ : ∃ z : Int64, w54 <<< (Int32.toInt64 3 &&& 63) = z := ⟨_, rfl⟩
      refine lv_lshl (v := w55) hx hb dX3_follow_186 ew55 ?_
      refine lv_ldc2 (v := 4) hx hb hown (hts _ k_X3_31) dX3_follow_187 ?_
      refine lv_lor hx hb dX3_follow_190 ?_
      refine lv_topl (fun w56 ew56 => ?_)
      refine lv_iconst (v := 3) hx hb dX3_follow_191 (by decide) ?_
      obtain ⟨w57, ew57⟩ : ∃ z : Int64, w56 <<< (Int32.toInt64 3 &&& 63) = z := ⟨_, rfl⟩
      refine lv_lshl (v := w57) hx hb dX3_follow_192 ew57 ?_
      refine lv_lconst (v := 0) hx hb dX3_follow_193 (by decide) ?_
      refine lv_lor hx hb dX3_follow_194 ?_
      refine lv_topl (fun w58 ew58 => ?_)
      exact hret w58 () H locs 195 ls trivial hP hD hS dX3_follow_195
    · refine lv_tableIn (off := 166) (tgt := 196) hx hb dX3_follow_30 (by omega) (by omega) (by rw [c4]; rfl) (by decide) ?_
      refine lv_lload hx hb dX3_follow_196 (lv_at hl 0 rfl) ?_
      refine lv_iconst (v := 3) hx hb dX3_follow_198 (by decide) ?_
      obtain ⟨w59, ew59⟩ : ∃ z : Int64, w3 >>> (Int32.toInt64 3 &&& 63) = z := ⟨_, rfl⟩
      refine lv_lshr (v := w59) hx hb dX3_follow_199 ew59 ?_
      refine lv_iconst (v := 3) hx hb dX3_follow_200 (by decide) ?_
      obtain ⟨w60, ew60⟩ : ∃ z : Int64, w59 <<< (Int32.toInt64 3 &&& 63) = z := ⟨_, rfl⟩
      refine lv_lshl (v := w60) hx hb dX3_follow_201 ew60 ?_
      refine lv_lconst (v := 0) hx hb dX3_follow_202 (by decide) ?_
      refine lv_lor hx hb dX3_follow_203 ?_
      refine lv_topl (fun w61 ew61 => ?_)
      exact hret w61 () H locs 204 ls trivial hP hD hS dX3_follow_204
    · refine lv_tableOut (tgt := 205) hx hb dX3_follow_30 c4 (by decide) ?_
      refine lv_lload hx hb dX3_follow_205 (lv_at hl 0 rfl) ?_
      refine lv_iconst (v := 3) hx hb dX3_follow_207 (by decide) ?_
      obtain ⟨w62, ew62⟩ : ∃ z : Int64, w3 <<< (Int32.toInt64 3 &&& 63) = z := ⟨_, rfl⟩
      refine lv_lshl (v := w62) hx hb dX3_follow_208 ew62 ?_
      refine lv_iload hx hb dX3_follow_209 (lv_at hl 1 rfl) ?_
      refine lv_if_eq (tgt := 218) hx hb dX3_follow_211 (by decide) (fun c63 => ?_) (fun c63 => ?_)
      · have c63' := I_eq c63
        refine lv_iconst (v := 4) hx hb dX3_follow_218 (by decide) ?_
        obtain ⟨w64, ew64⟩ : ∃ z : Int64, Int32.toInt64 4 = z := ⟨_, rfl⟩
        have hw64 := J_of (4 : Int32)
        rw [ew64] at hw64
        refine lv_i2l (v := w64) hx hb dX3_follow_219 ew64 ?_
        refine lv_lor hx hb dX3_follow_220 ?_
        refine lv_topl (fun w65 ew65 => ?_)
        exact hret w65 () H locs 221 ls trivial hP hD hS dX3_follow_221
      · have c63' := I_ne c63
        refine lv_iconst (v := 5) hx hb dX3_follow_214 (by decide) ?_
        refine lv_goto (tgt := 219) hx hb dX3_follow_215 (by decide) ?_
        obtain ⟨w66, ew66⟩ : ∃ z : Int64, Int32.toInt64 5 = z := ⟨_, rfl⟩
        have hw66 := J_of (5 : Int32)
        rw [ew66] at hw66
        refine lv_i2l (v := w66) hx hb dX3_follow_219 ew66 ?_
        refine lv_lor hx hb dX3_follow_220 ?_
        refine lv_topl (fun w67 ew67 => ?_)
        exact hret w67 () H locs 221 ls trivial hP hD hS dX3_follow_221
  refine lv_iload_n hx hb dX3_follow_7 rfl (lv_at hl 0 rfl) ?_
  refine lv_iconst (v := 3) hx hb dX3_follow_8 (by decide) ?_
  refine lv_icmp_eq (tgt := 17) hx hb dX3_follow_9 (by decide) (fun c68 => ?_) (fun c68 => ?_)
  · have c68' := I_eq c68
    refine lv_iconst (v := 1) hx hb dX3_follow_17 (by decide) ?_
    refine lv_goto (tgt := 22) hx hb dX3_follow_18 (by decide) ?_
    exact J22 1  H locs ls hP hD hS hl
  · have c68' := I_ne c68
    refine lv_iload_n hx hb dX3_follow_12 rfl (lv_at hl 0 rfl) ?_
    refine lv_iconst (v := 5) hx hb dX3_follow_13 (by decide) ?_
    refine lv_icmp_ne (tgt := 21) hx hb dX3_follow_14 (by decide) (fun c69 => ?_) (fun c69 => ?_)
    · have c69' := I_ne c69
      refine lv_iconst (v := 0) hx hb dX3_follow_21 (by decide) ?_
      exact J22 0  H locs ls hP hD hS hl
    · have c69' := I_eq c69
      refine lv_iconst (v := 1) hx hb dX3_follow_17 (by decide) ?_
      refine lv_goto (tgt := 22) hx hb dX3_follow_18 (by decide) ?_
      exact J22 1  H locs ls hP hD hS hl
set_option maxHeartbeats 4000000 in
set_option maxRecDepth 100000 in
theorem c_X3_after (l : Launch) (dC : Nat → ClassId) (dI : Nat → Nat → Nat) (cI cJ : ClassId) (base bB bO : Nat) (w : Int64) (x : Int32)  : CtL l dC dI cI cJ base bB bO yX3_after cX3_after 3 3 63 [.long w, .int x] [] (Unit) (fun (res : Int64) (u : Unit) => True) (fun (u : Unit) => []) := by
  refine entL (by decide) (Nat.le_of_ble_eq_true rfl) ?_
  intro p e s m below meth c A Q ls hAt hret hP hD hS hl
  obtain ⟨hx, hb, hml, hown, hts, hA, hAb, hK, hE, hlocks, hin⟩ := hAt
  have hG : CG dC dI cI cJ base bB bO cX3_after 3 RX3 p s m (List.toArray [.long w, .int x]) c A := ⟨hx, hb, hml, hown, hts, hA, hAb, hK, hE⟩
  have hl : lv_has ls 3 [(0, .long w), (2, .int x)] := hl
  have c_0 : (0 : Int32).toInt = 0 := by decide
  have c_1 : (1 : Int32).toInt = 1 := by decide
  have cl_m1 : (-1 : Int64).toInt = -1 := by decide
  obtain ⟨H, hHe⟩ : ∃ H : Heap, H = s.heap := ⟨_, rfl⟩
  obtain ⟨locs, hle⟩ : ∃ z : List Loc, z = [] := ⟨_, rfl⟩
  rw [← hHe] at hP
  have hS : va_S A s.heap H locs := by rw [hHe, hle]; exact hS
  suffices hgo : W p l e { frames := 3, cells := 0, slots := 0, locals := 63 } s m (List.toArray [.long w, .int x]) below meth c H locs 0 0 Q (F0 m 0 ls []) by rw [hHe, hle] at hgo; exact hgo
  refine lv_iload_n hx hb dX3_after_0 rfl (lv_at hl 1 rfl) ?_
  refine calNI (rest := []) (wr := []) hG (c_X8_isToken l dC dI cI cJ base bB bO x ) nl_X3_47 st_X8_isToken ini_X8 cd_X8_isToken hd_X8_isToken.2 ⟨(Nat.le_of_ble_eq_true rfl), (Nat.le_of_ble_eq_true rfl)⟩ (Nat.le_of_ble_eq_true rfl) (Nat.le_of_ble_eq_true rfl) hP hD hS [] [] rfl rfl rfl rfl (by decide) hl.1 rfl (Nat.le_of_ble_eq_true rfl) dX3_after_1 (fun r1 u H locs hw2 hP hD hS => ?_)
  have hw2 : ((r1.toInt = 1 ∧ 0 ≤ x.toInt ∧ x.toInt ≤ 27) ∨ (r1.toInt = 0 ∧ (x.toInt < 0 ∨ 27 < x.toInt))) ∧ True := hw2
  obtain ⟨hp3, -⟩ := hw2
  have hP : va_P (dC, dI) vwCl [] H := hP
  have hD : va_D A [] := hD
  refine lv_if_eq (tgt := 26) hx hb dX3_after_4 (by decide) (fun c4 => ?_) (fun c4 => ?_)
  · have c4' := I_eq c4
    refine lv_ldc2 (v := (-1)) hx hb hown (hts _ k_X3_25) dX3_after_26 ?_
    exact hret (-1) () H locs 29 ls trivial hP hD hS dX3_after_29
  · have c4' := I_ne c4
    refine lv_lload_n hx hb dX3_after_7 rfl (lv_at hl 0 rfl) ?_
    refine calOI (rest := []) (wr := []) hG (c_X3_followers l dC dI cI cJ base bB bO w ) ml_X3_51 st_X3_followers ini_X3 cd_X3_followers hd_X3_followers.2 ⟨(Nat.le_of_ble_eq_true rfl), (Nat.le_of_ble_eq_true rfl)⟩ (Nat.le_of_ble_eq_true rfl) (Nat.le_of_ble_eq_true rfl) hP hD hS [] [] rfl rfl rfl rfl (by decide) hl.1 rfl (Nat.le_of_ble_eq_true rfl) dX3_after_8 (fun r5 u H locs hw6 hP hD hS => ?_)
    have hP : va_P (dC, dI) vwCl [] H := hP
    have hD : va_D A [] := hD
    refine lv_iload_n hx hb dX3_after_11 rfl (lv_at hl 1 rfl) ?_
    refine lv_ishr hx hb dX3_after_12 ?_
    refine lv_topi (fun v7 ev7 => ?_)
    refine lv_iconst (v := 1) hx hb dX3_after_13 (by decide) ?_
    refine lv_iand hx hb dX3_after_14 ?_
    refine lv_topi (fun v8 ev8 => ?_)
    refine lv_if_eq (tgt := 26) hx hb dX3_after_15 (by decide) (fun c9 => ?_) (fun c9 => ?_)
    · have c9' := I_eq c9
      refine lv_ldc2 (v := (-1)) hx hb hown (hts _ k_X3_25) dX3_after_26 ?_
      exact hret (-1) () H locs 29 ls trivial hP hD hS dX3_after_29
    · have c9' := I_ne c9
      refine lv_lload_n hx hb dX3_after_18 rfl (lv_at hl 0 rfl) ?_
      refine lv_iload_n hx hb dX3_after_19 rfl (lv_at hl 1 rfl) ?_
      refine calOL (rest := []) (wr := []) hG (c_X3_follow l dC dI cI cJ base bB bO w x ) ml_X3_54 st_X3_follow ini_X3 cd_X3_follow hd_X3_follow.2 ⟨(Nat.le_of_ble_eq_true rfl), (Nat.le_of_ble_eq_true rfl)⟩ (Nat.le_of_ble_eq_true rfl) (Nat.le_of_ble_eq_true rfl) hP hD hS [] [] rfl rfl rfl rfl (by decide) hl.1 rfl (Nat.le_of_ble_eq_true rfl) dX3_after_20 (fun rl10 u H locs hw11 hP hD hS => ?_)
      have hP : va_P (dC, dI) vwCl [] H := hP
      have hD : va_D A [] := hD
      refine lv_goto (tgt := 29) hx hb dX3_after_23 (by decide) ?_
      exact hret rl10 () H locs 29 ls trivial hP hD hS dX3_after_29
set_option maxHeartbeats 4000000 in
set_option maxRecDepth 100000 in
theorem c_X3_faultOf (l : Launch) (dC : Nat → ClassId) (dI : Nat → Nat → Nat) (cI cJ : ClassId) (base bB bO : Nat) (r : Nat) (rt : Nat) (rsz : Int32) (rf : Nat → Int32) (hq0 : 0 ≤ rsz.toInt ∧ rsz.toInt ≤ 12) (hq1 : ∀ j : Nat, -1 ≤ (rf j).toInt ∧ (rf j).toInt ≤ 31) : CtI l dC dI cI cJ base bB bO yX3_faultOf cX3_faultOf 4 .int 4 85 [.ref r] [(r, .inr (3, [.ref rt, .int rsz])), (rt, .inl (cI, 12, .inl rf))] (Unit) (fun (res : Int32) (u : Unit) => True) (fun (u : Unit) => [(r, .inr (3, [.ref rt, .int rsz])), (rt, .inl (cI, 12, .inl rf))]) := by
  refine entI (by decide) (Nat.le_of_ble_eq_true rfl) ?_
  intro p e s m below meth c A Q ls hAt hret hP hD hS hl
  obtain ⟨hx, hb, hml, hown, hts, hA, hAb, hK, hE, hlocks, hin⟩ := hAt
  have hG : CG dC dI cI cJ base bB bO cX3_faultOf 4 RX3 p s m (List.toArray [.ref r]) c A := ⟨hx, hb, hml, hown, hts, hA, hAb, hK, hE⟩
  have hl : lv_has ls 4 [(0, .ref r)] := hl
  have c_m1 : (-1 : Int32).toInt = -1 := by decide
  have c_0 : (0 : Int32).toInt = 0 := by decide
  have c_1 : (1 : Int32).toInt = 1 := by decide
  have cl_m1 : (-1 : Int64).toInt = -1 := by decide
  have cl_0 : (0 : Int64).toInt = 0 := by decide
  obtain ⟨H, hHe⟩ : ∃ H : Heap, H = s.heap := ⟨_, rfl⟩
  obtain ⟨locs, hle⟩ : ∃ z : List Loc, z = [] := ⟨_, rfl⟩
  rw [← hHe] at hP
  have hS : va_S A s.heap H locs := by rw [hHe, hle]; exact hS
  suffices hgo : W p l e { frames := 4, cells := 0, slots := 0, locals := 85 } s m (List.toArray [.ref r]) below meth c H locs 0 0 Q (F0 m 0 ls []) by rw [hHe, hle] at hgo; exact hgo
  refine lv_lconst (v := 0) hx hb dX3_faultOf_0 (by decide) ?_
  refine lv_lstore_n (lv' := [(1, .long 0), (0, .ref r)]) hx hb dX3_faultOf_1 rfl hl (by decide) rfl (fun ls hl => ?_)
  refine lv_iconst (v := 0) hx hb dX3_faultOf_2 (by decide) ?_
  refine lv_istore_n (lv' := [(3, .int 0), (1, .long 0), (0, .ref r)]) hx hb dX3_faultOf_3 rfl hl (by decide) rfl (fun ls hl => ?_)
  have J4 : ∀ (n : Nat) (L3_4 : Int32) (L1_4 : Int64), (0 ≤ L3_4.toInt ∧ L3_4.toInt ≤ 12) → (12 - L3_4.toInt) < (n : Int) → ∀ (H : Heap) (locs : List Loc) (ls : Array Slot), va_P (dC, dI) vwCl [(r, .inr (3, [.ref rt, .int rsz])), (rt, .inl (cI, 12, .inl rf))] H → va_D A [(r, .inr (3, [.ref rt, .int rsz])), (rt, .inl (cI, 12, .inl rf))] → va_S A s.heap H locs → lv_has ls 4 [(3, .int L3_4), (1, .long L1_4), (0, .ref r)] → W p l e { frames := 4, cells := 0, slots := 0, locals := 85 } s m (List.toArray [.ref r]) below meth c H locs 0 0 Q (F0 m 4 ls []) := by
    intro n
    induction n with
    | zero =>
      intro L3_4 L1_4 hi0_4 hm
      exact absurd hm (by omega)
    | succ n ih4 =>
      intro L3_4 L1_4 hi0_4 hm4 H locs ls hP hD hS hl
      refine lv_iload_n hx hb dX3_faultOf_4 rfl (lv_at hl 0 rfl) ?_
      refine lv_aload_n hx hb dX3_faultOf_5 rfl (lv_at hl 2 rfl) ?_
      refine calI (rest := [.int L3_4]) (wr := []) hG (c_X4_size l dC dI cI cJ base bB bO r rt rsz rf ) ml_X3_11 im_X4_size se_X4_size ini_X4 cd_X4_size hd_X4_size ⟨(Nat.le_of_ble_eq_true rfl), (Nat.le_of_ble_eq_true rfl)⟩ (Nat.le_of_ble_eq_true rfl) (Nat.le_of_ble_eq_true rfl) hP hD hS [0, 1] [] rfl rfl rfl rfl (by decide) 3 0 rfl rfl hl.1 rfl (Nat.le_of_ble_eq_true rfl) dX3_faultOf_6 (fun r1 u H locs hw2 hP hD hS => ?_)
      have hw2 : (r1 = rsz) ∧ True := hw2
      obtain ⟨hp3, -⟩ := hw2
      have hp3t := I_eq hp3
      have hP : va_P (dC, dI) vwCl [(r, .inr (3, [.ref rt, .int rsz])), (rt, .inl (cI, 12, .inl rf))] H := hP
      have hD : va_D A [(r, .inr (3, [.ref rt, .int rsz])), (rt, .inl (cI, 12, .inl rf))] := hD
      refine lv_icmp_ge (tgt := 38) hx hb dX3_faultOf_9 (by decide) (fun c4 => ?_) (fun c4 => ?_)
      · have c4' := I_le c4
        refine lv_lload_n hx hb dX3_faultOf_38 rfl (lv_at hl 1 rfl) ?_
        refine calOI (rest := []) (wr := [(r, .inr (3, [.ref rt, .int rsz])), (rt, .inl (cI, 12, .inl rf))]) hG (c_X3_isWhole l dC dI cI cJ base bB bO L1_4 ) ml_X3_27 st_X3_isWhole ini_X3 cd_X3_isWhole hd_X3_isWhole.2 ⟨(Nat.le_of_ble_eq_true rfl), (Nat.le_of_ble_eq_true rfl)⟩ (Nat.le_of_ble_eq_true rfl) (Nat.le_of_ble_eq_true rfl) hP hD hS [] [0, 1] rfl rfl rfl rfl (by decide) hl.1 rfl (Nat.le_of_ble_eq_true rfl) dX3_faultOf_39 (fun r5 u H locs hw6 hP hD hS => ?_)
        have hw6 : (r5.toInt = 0 ∨ r5.toInt = 1) ∧ True := hw6
        obtain ⟨hp7, -⟩ := hw6
        have hP : va_P (dC, dI) vwCl [(r, .inr (3, [.ref rt, .int rsz])), (rt, .inl (cI, 12, .inl rf))] H := hP
        have hD : va_D A [(r, .inr (3, [.ref rt, .int rsz])), (rt, .inl (cI, 12, .inl rf))] := hD
        refine lv_if_eq (tgt := 49) hx hb dX3_faultOf_42 (by decide) (fun c8 => ?_) (fun c8 => ?_)
        · have c8' := I_eq c8
          refine lv_aload_n hx hb dX3_faultOf_49 rfl (lv_at hl 2 rfl) ?_
          refine calI (rest := []) (wr := []) hG (c_X4_size l dC dI cI cJ base bB bO r rt rsz rf ) ml_X3_11 im_X4_size se_X4_size ini_X4 cd_X4_size hd_X4_size ⟨(Nat.le_of_ble_eq_true rfl), (Nat.le_of_ble_eq_true rfl)⟩ (Nat.le_of_ble_eq_true rfl) (Nat.le_of_ble_eq_true rfl) hP hD hS [0, 1] [] rfl rfl rfl rfl (by decide) 3 0 rfl rfl hl.1 rfl (Nat.le_of_ble_eq_true rfl) dX3_faultOf_50 (fun r9 u H locs hw10 hP hD hS => ?_)
          have hw10 : (r9 = rsz) ∧ True := hw10
          obtain ⟨hp11, -⟩ := hw10
          have hp11t := I_eq hp11
          have hP : va_P (dC, dI) vwCl [(r, .inr (3, [.ref rt, .int rsz])), (rt, .inl (cI, 12, .inl rf))] H := hP
          have hD : va_D A [(r, .inr (3, [.ref rt, .int rsz])), (rt, .inl (cI, 12, .inl rf))] := hD
          exact hret r9 () H locs 53 ls rfl trivial hP hD hS dX3_faultOf_53
        · have c8' := I_ne c8
          refine lv_iconst (v := (-1)) hx hb dX3_faultOf_45 (by decide) ?_
          refine lv_goto (tgt := 53) hx hb dX3_faultOf_46 (by decide) ?_
          exact hret (-1) () H locs 53 ls rfl trivial hP hD hS dX3_faultOf_53
      · have c4' := I_nle c4
        refine lv_lload_n hx hb dX3_faultOf_12 rfl (lv_at hl 1 rfl) ?_
        refine lv_aload_n hx hb dX3_faultOf_13 rfl (lv_at hl 2 rfl) ?_
        refine lv_iload_n hx hb dX3_faultOf_14 rfl (lv_at hl 0 rfl) ?_
        refine calI (rest := [.long L1_4]) (wr := []) hG (c_X4_at l dC dI cI cJ base bB bO r rt rsz rf L3_4 (by first | assumption | omega) (by first | assumption | omega)) ml_X3_17 im_X4_at se_X4_at ini_X4 cd_X4_at hd_X4_at ⟨(Nat.le_of_ble_eq_true rfl), (Nat.le_of_ble_eq_true rfl)⟩ (Nat.le_of_ble_eq_true rfl) (Nat.le_of_ble_eq_true rfl) hP hD hS [0, 1] [] rfl rfl rfl rfl (by decide) 3 0 rfl rfl hl.1 rfl (Nat.le_of_ble_eq_true rfl) dX3_faultOf_15 (fun r12 u H locs hw13 hP hD hS => ?_)
        have hw13 : (r12 = atf rf rsz L3_4) ∧ (-1 ≤ r12.toInt ∧ r12.toInt ≤ 31) ∧ True := hw13
        obtain ⟨hp14, hp15, -⟩ := hw13
        have hp14t := I_eq hp14
        have hP : va_P (dC, dI) vwCl [(r, .inr (3, [.ref rt, .int rsz])), (rt, .inl (cI, 12, .inl rf))] H := hP
        have hD : va_D A [(r, .inr (3, [.ref rt, .int rsz])), (rt, .inl (cI, 12, .inl rf))] := hD
        refine calOL (rest := []) (wr := [(r, .inr (3, [.ref rt, .int rsz])), (rt, .inl (cI, 12, .inl rf))]) hG (c_X3_after l dC dI cI cJ base bB bO L1_4 r12 ) ml_X3_21 st_X3_after ini_X3 cd_X3_after hd_X3_after.2 ⟨(Nat.le_of_ble_eq_true rfl), (Nat.le_of_ble_eq_true rfl)⟩ (Nat.le_of_ble_eq_true rfl) (Nat.le_of_ble_eq_true rfl) hP hD hS [] [0, 1] rfl rfl rfl rfl (by decide) hl.1 rfl (Nat.le_of_ble_eq_true rfl) dX3_faultOf_18 (fun rl16 u H locs hw17 hP hD hS => ?_)
        have hP : va_P (dC, dI) vwCl [(r, .inr (3, [.ref rt, .int rsz])), (rt, .inl (cI, 12, .inl rf))] H := hP
        have hD : va_D A [(r, .inr (3, [.ref rt, .int rsz])), (rt, .inl (cI, 12, .inl rf))] := hD
        refine lv_lstore_n (lv' := [(1, .long rl16), (3, .int L3_4), (0, .ref r)]) hx hb dX3_faultOf_21 rfl hl (by decide) rfl (fun ls hl => ?_)
        refine lv_lload_n hx hb dX3_faultOf_22 rfl (lv_at hl 0 rfl) ?_
        refine lv_ldc2 (v := (-1)) hx hb hown (hts _ k_X3_25) dX3_faultOf_23 ?_
        refine W.lcmp hx hb dX3_faultOf_26 ?_
        refine lv_topi (fun v18 ev18 => ?_)
        have hv18 := J_cmp rl16 (-1 : Int64)
        rw [← ev18] at hv18
        refine lv_if_ne (tgt := 32) hx hb dX3_faultOf_27 (by decide) (fun c19 => ?_) (fun c19 => ?_)
        · have c19' := I_ne c19
          obtain ⟨v20, ev20⟩ : ∃ y : Int32, y = L3_4 + 1 := ⟨_, rfl⟩
          try have hv20 : v20.toInt = L3_4.toInt + (1 : Int32).toInt := I_addx ev20 (by omega)
          refine lv_iinc (v := v20) (lv' := [(3, .int v20), (1, .long rl16), (0, .ref r)]) hx hb dX3_faultOf_32 hl (k := 1) rfl (by rw [ev20]; rfl) (by decide) rfl (fun ls hl => ?_)
          refine lv_goto (tgt := 4) hx hb dX3_faultOf_35 (by decide) ?_
          exact ih4 v20 rl16 (by first | assumption | omega) (by omega) H locs ls hP hD hS hl
        · have c19' := I_eq c19
          refine lv_iload_n hx hb dX3_faultOf_30 rfl (lv_at hl 1 rfl) ?_
          exact hret L3_4 () H locs 31 ls rfl trivial hP hD hS dX3_faultOf_31
  exact J4 ((12 - (0 : Int32).toInt).toNat + 1) 0 0 (by first | assumption | omega) (by omega) H locs ls hP hD hS hl
