def kindOk (x y : Int32) : Prop := 0 ≤ x.toInt ∧ x.toInt ≤ 3 ∧ 0 ≤ y.toInt ∧ y.toInt ≤ 1
noncomputable def kindRes (f : Nat → Int32) (x y : Int32) : Int32 := if 0 ≤ x.toInt ∧ x.toInt ≤ 3 ∧ 0 ≤ y.toInt ∧ y.toInt ≤ 1 then f x.toNatClampNeg else -1
noncomputable def kindNew (f : Nat → Int32) (x y : Int32) : Nat → Int32 := if 0 ≤ x.toInt ∧ x.toInt ≤ 3 ∧ 0 ≤ y.toInt ∧ y.toInt ≤ 1 then upd f x.toNatClampNeg y else f
theorem kindRes_no {f : Nat → Int32} {x y r : Int32} (h : ¬ (0 ≤ x.toInt ∧ x.toInt ≤ 3 ∧ 0 ≤ y.toInt ∧ y.toInt ≤ 1)) (e : r = -1) : r = kindRes f x y := by rw [kindRes, if_neg h]; exact e
theorem kindRes_yes {f : Nat → Int32} {x y r v : Int32} (h : 0 ≤ x.toInt ∧ x.toInt ≤ 3 ∧ 0 ≤ y.toInt ∧ y.toInt ≤ 1) (e : r = v) (ev : v = f x.toNatClampNeg) : r = kindRes f x y := by rw [kindRes, if_pos h, e, ev]
theorem kindNew_no {f : Nat → Int32} {x y : Int32} (h : ¬ (0 ≤ x.toInt ∧ x.toInt ≤ 3 ∧ 0 ≤ y.toInt ∧ y.toInt ≤ 1)) : f = kindNew f x y := by rw [kindNew, if_neg h]
theorem kindNew_yes {f g : Nat → Int32} {x y : Int32} (h : 0 ≤ x.toInt ∧ x.toInt ≤ 3 ∧ 0 ≤ y.toInt ∧ y.toInt ≤ 1) (e : upd f x.toNatClampNeg y = g) : g = kindNew f x y := by rw [kindNew, if_pos h, e]
def atf (f : Nat → Int32) (sz i : Int32) : Int32 := if 0 ≤ i.toInt ∧ i.toInt < sz.toInt then f i.toNatClampNeg else -1
theorem atf_in {f : Nat → Int32} {sz i r : Int32} (h0 : 0 ≤ i.toInt) (h1 : i.toInt < sz.toInt) (h : r = f i.toNatClampNeg) : r = atf f sz i := by rw [atf, if_pos ⟨h0, h1⟩]; exact h
theorem atf_out {f : Nat → Int32} {sz i : Int32} (h : i.toInt < 0 ∨ sz.toInt ≤ i.toInt) : (-1) = atf f sz i := by rw [atf, if_neg (by omega)]
def sOK (x : Int32) : Prop := (2 ≤ x.toInt ∧ x.toInt ≤ 8) ∨ x.toInt = 11 ∨ (12 ≤ x.toInt ∧ x.toInt ≤ 31)
def stOK (f : Nat → Int32) (n : Int32) : Prop := ∀ j : Nat, (j : Int) < n.toInt → sOK (f j)
theorem stOK_push {f g : Nat → Int32} {n m x : Int32} (hg : upd f n.toNatClampNeg x = g) (h : stOK f n) (hx : sOK x) (hn : 0 ≤ n.toInt) (hm : m.toInt = n.toInt + 1) : stOK g m := by
  intro j hj
  rw [← hg, upd_at]
  split
  · exact hx
  · rename_i hne
    rw [I_nat] at hne
    exact h j (by omega)
theorem stOK_0 {f : Nat → Int32} {n : Int32} (h : n.toInt = 0) : stOK f n := fun j hj => absurd hj (by omega)
theorem stOK_get {f : Nat → Int32} {n i v : Int32} (h : stOK f n) (e : v = f i.toNatClampNeg) (h0 : 0 ≤ i.toInt) (h1 : i.toInt < n.toInt) : sOK v := by rw [e]; exact h _ (by rw [I_nat]; omega)
set_option maxHeartbeats 4000000 in
set_option maxRecDepth 100000 in
theorem c_X4_size (l : Launch) (dC : Nat → ClassId) (dI : Nat → Nat → Nat) (cI cJ : ClassId) (base bB bO : Nat) (r : Nat) (rt : Nat) (rsz : Int32) (rf : Nat → Int32)  : CtI l dC dI cI cJ base bB bO yX4_size cX4_size 1 .int 0 0 [.ref r] [(r, .inr (3, [.ref rt, .int rsz])), (rt, .inl (cI, 12, .inl rf))] (Unit) (fun (res : Int32) (u : Unit) => (res = rsz) ∧ True) (fun (u : Unit) => [(r, .inr (3, [.ref rt, .int rsz])), (rt, .inl (cI, 12, .inl rf))]) := by
  refine entI (by decide) (Nat.le_of_ble_eq_true rfl) ?_
  intro p e s m below meth c A Q ls hAt hret hP hD hS hl
  obtain ⟨hx, hb, hml, hown, hts, hA, hAb, hK, hE, hlocks, hin⟩ := hAt
  have hG : CG dC dI cI cJ base bB bO cX4_size 1 RX4 p s m (List.toArray [.ref r]) c A := ⟨hx, hb, hml, hown, hts, hA, hAb, hK, hE⟩
  have hl : lv_has ls 1 [(0, .ref r)] := hl
  have c_0 : (0 : Int32).toInt = 0 := by decide
  have c_1 : (1 : Int32).toInt = 1 := by decide
  obtain ⟨H, hHe⟩ : ∃ H : Heap, H = s.heap := ⟨_, rfl⟩
  obtain ⟨locs, hle⟩ : ∃ z : List Loc, z = [] := ⟨_, rfl⟩
  rw [← hHe] at hP
  have hS : va_S A s.heap H locs := by rw [hHe, hle]; exact hS
  suffices hgo : W p l e { frames := 0, cells := 0, slots := 0, locals := 0 } s m (List.toArray [.ref r]) below meth c H locs 0 0 Q (F0 m 0 ls []) by rw [hHe, hle] at hgo; exact hgo
  refine lv_aload_n hx hb dX4_size_0 rfl (lv_at hl 0 rfl) ?_
  refine va_get (D := (dC, dI)) (ci := 3) (v := .int rsz) (C := RX4) (T := TX4) (N := 2) hx hb hts inG_X4 hown hK hP 0 rfl rfl 1 (by decide) (hts _ fl_X4_15) (fun _ h9 => h9) rfl dX4_size_1 ?_
  exact hret rsz () H locs 4 ls rfl ⟨(show rsz = rsz from by first | rfl | assumption | omega), trivial⟩ hP hD hS dX4_size_4
set_option maxHeartbeats 4000000 in
set_option maxRecDepth 100000 in
theorem c_X4_at (l : Launch) (dC : Nat → ClassId) (dI : Nat → Nat → Nat) (cI cJ : ClassId) (base bB bO : Nat) (r : Nat) (rt : Nat) (rsz : Int32) (rf : Nat → Int32) (i : Int32) (hq0 : 0 ≤ rsz.toInt ∧ rsz.toInt ≤ 12) (hq1 : ∀ j : Nat, -1 ≤ (rf j).toInt ∧ (rf j).toInt ≤ 31) : CtI l dC dI cI cJ base bB bO yX4_at cX4_at 2 .int 0 0 [.ref r, .int i] [(r, .inr (3, [.ref rt, .int rsz])), (rt, .inl (cI, 12, .inl rf))] (Unit) (fun (res : Int32) (u : Unit) => (res = atf rf rsz i) ∧ (-1 ≤ res.toInt ∧ res.toInt ≤ 31) ∧ True) (fun (u : Unit) => [(r, .inr (3, [.ref rt, .int rsz])), (rt, .inl (cI, 12, .inl rf))]) := by
  refine entI (by decide) (Nat.le_of_ble_eq_true rfl) ?_
  intro p e s m below meth c A Q ls hAt hret hP hD hS hl
  obtain ⟨hx, hb, hml, hown, hts, hA, hAb, hK, hE, hlocks, hin⟩ := hAt
  have hG : CG dC dI cI cJ base bB bO cX4_at 2 RX4 p s m (List.toArray [.ref r, .int i]) c A := ⟨hx, hb, hml, hown, hts, hA, hAb, hK, hE⟩
  have hl : lv_has ls 2 [(0, .ref r), (1, .int i)] := hl
  have c_m1 : (-1 : Int32).toInt = -1 := by decide
  have c_0 : (0 : Int32).toInt = 0 := by decide
  have c_1 : (1 : Int32).toInt = 1 := by decide
  obtain ⟨H, hHe⟩ : ∃ H : Heap, H = s.heap := ⟨_, rfl⟩
  obtain ⟨locs, hle⟩ : ∃ z : List Loc, z = [] := ⟨_, rfl⟩
  rw [← hHe] at hP
  have hS : va_S A s.heap H locs := by rw [hHe, hle]; exact hS
  suffices hgo : W p l e { frames := 0, cells := 0, slots := 0, locals := 0 } s m (List.toArray [.ref r, .int i]) below meth c H locs 0 0 Q (F0 m 0 ls []) by rw [hHe, hle] at hgo; exact hgo
  refine lv_iload_n hx hb dX4_at_0 rfl (lv_at hl 1 rfl) ?_
  refine lv_if_lt (tgt := 21) hx hb dX4_at_1 (by decide) (fun c1 => ?_) (fun c1 => ?_)
  · have c1' := I_lt c1
    refine lv_iconst (v := (-1)) hx hb dX4_at_21 (by decide) ?_
    exact hret (-1) () H locs 22 ls rfl ⟨(show (-1 : Int32) = atf rf rsz i from by first | exact atf_in (by omega) (by omega) (by assumption) | exact atf_out (by omega)), (show -1 ≤ (-1 : Int32).toInt ∧ (-1 : Int32).toInt ≤ 31 from by first | rfl | assumption | omega), trivial⟩ hP hD hS dX4_at_22
  · have c1' := I_nlt c1
    refine lv_iload_n hx hb dX4_at_4 rfl (lv_at hl 1 rfl) ?_
    refine lv_aload_n hx hb dX4_at_5 rfl (lv_at hl 0 rfl) ?_
    refine va_get (D := (dC, dI)) (ci := 3) (v := .int rsz) (C := RX4) (T := TX4) (N := 2) hx hb hts inG_X4 hown hK hP 0 rfl rfl 1 (by decide) (hts _ fl_X4_15) (fun _ h9 => h9) rfl dX4_at_6 ?_
    refine lv_icmp_ge (tgt := 21) hx hb dX4_at_9 (by decide) (fun c2 => ?_) (fun c2 => ?_)
    · have c2' := I_le c2
      refine lv_iconst (v := (-1)) hx hb dX4_at_21 (by decide) ?_
      exact hret (-1) () H locs 22 ls rfl ⟨(show (-1 : Int32) = atf rf rsz i from by first | exact atf_in (by omega) (by omega) (by assumption) | exact atf_out (by omega)), (show -1 ≤ (-1 : Int32).toInt ∧ (-1 : Int32).toInt ≤ 31 from by first | rfl | assumption | omega), trivial⟩ hP hD hS dX4_at_22
    · have c2' := I_nle c2
      refine lv_aload_n hx hb dX4_at_12 rfl (lv_at hl 0 rfl) ?_
      refine va_get (D := (dC, dI)) (ci := 3) (v := .ref rt) (C := RX4) (T := TX4) (N := 2) hx hb hts inG_X4 hown hK hP 0 rfl rfl 0 (by decide) (hts _ fl_X4_9) (fun _ h9 => h9) rfl dX4_at_13 ?_
      refine lv_iload_n hx hb dX4_at_16 rfl (lv_at hl 1 rfl) ?_
      refine va_iald (t0 := 0) hx hb hK hP 1 (ha := rfl) (ht := rfl) (I_in (by omega) (by omega)) dX4_at_17 ?_
      refine lv_topi (fun v3 ev3 => ?_)
      have fv3 := hq1 i.toNatClampNeg
      rw [← ev3] at fv3
      refine lv_goto (tgt := 22) hx hb dX4_at_18 (by decide) ?_
      exact hret v3 () H locs 22 ls rfl ⟨(show v3 = atf rf rsz i from by first | exact atf_in (by omega) (by omega) (by assumption) | exact atf_out (by omega)), (show -1 ≤ v3.toInt ∧ v3.toInt ≤ 31 from by first | rfl | assumption | omega), trivial⟩ hP hD hS dX4_at_22
set_option maxHeartbeats 4000000 in
set_option maxRecDepth 100000 in
theorem c_X4_add (l : Launch) (dC : Nat → ClassId) (dI : Nat → Nat → Nat) (cI cJ : ClassId) (base bB bO : Nat) (r : Nat) (rt : Nat) (rsz : Int32) (rf : Nat → Int32) (x : Int32) (hq0 : 0 ≤ rsz.toInt ∧ rsz.toInt ≤ 12) (hq1 : ∀ j : Nat, -1 ≤ (rf j).toInt ∧ (rf j).toInt ≤ 31) (hx0 : -1 ≤ x.toInt ∧ x.toInt ≤ 31) : CtV l dC dI cI cJ base bB bO yX4_add cX4_add 2 0 0 0 0 [.ref r, .int x] [(r, .inr (3, [.ref rt, .int rsz])), (rt, .inl (cI, 12, .inl rf))] ((Int32) × (Nat → Int32)) (fun (u : (Int32) × (Nat → Int32)) => (0 ≤ u.1.toInt ∧ u.1.toInt ≤ 12) ∧ (∀ j : Nat, -1 ≤ (u.2 j).toInt ∧ (u.2 j).toInt ≤ 31) ∧ ((rsz.toInt < 12 ∧ u.1.toInt = rsz.toInt + 1) ∨ (12 ≤ rsz.toInt ∧ u.1.toInt = rsz.toInt)) ∧ True) (fun (u : (Int32) × (Nat → Int32)) => [(r, .inr (3, [.ref rt, .int u.1])), (rt, .inl (cI, 12, .inl u.2))]) := by
  refine entV (by decide) (Nat.le_of_ble_eq_true rfl) ?_
  intro p e s m below meth c A Q ls hAt hret hP hD hS hl
  obtain ⟨hx, hb, hml, hown, hts, hA, hAb, hK, hE, hlocks, hin⟩ := hAt
  have hG : CG dC dI cI cJ base bB bO cX4_add 2 RX4 p s m (List.toArray [.ref r, .int x]) c A := ⟨hx, hb, hml, hown, hts, hA, hAb, hK, hE⟩
  have hl : lv_has ls 2 [(0, .ref r), (1, .int x)] := hl
  have c_0 : (0 : Int32).toInt = 0 := by decide
  have c_1 : (1 : Int32).toInt = 1 := by decide
  have c_12 : (12 : Int32).toInt = 12 := by decide
  obtain ⟨H, hHe⟩ : ∃ H : Heap, H = s.heap := ⟨_, rfl⟩
  obtain ⟨locs, hle⟩ : ∃ z : List Loc, z = [] := ⟨_, rfl⟩
  rw [← hHe] at hP
  have hS : va_S A s.heap H locs := by rw [hHe, hle]; exact hS
  suffices hgo : W p l e { frames := 0, cells := 0, slots := 0, locals := 0 } s m (List.toArray [.ref r, .int x]) below meth c H locs 0 0 Q (F0 m 0 ls []) by rw [hHe, hle] at hgo; exact hgo
  refine lv_aload_n hx hb dX4_add_0 rfl (lv_at hl 0 rfl) ?_
  refine va_get (D := (dC, dI)) (ci := 3) (v := .int rsz) (C := RX4) (T := TX4) (N := 2) hx hb hts inG_X4 hown hK hP 0 rfl rfl 1 (by decide) (hts _ fl_X4_15) (fun _ h9 => h9) rfl dX4_add_1 ?_
  refine lv_bipush (v := 12) hx hb dX4_add_4 (by decide) ?_
  refine lv_icmp_ge (tgt := 29) hx hb dX4_add_6 (by decide) (fun c1 => ?_) (fun c1 => ?_)
  · have c1' := I_le c1
    exact hret (rsz, rf) H locs 29 ls ⟨(show 0 ≤ rsz.toInt ∧ rsz.toInt ≤ 12 from by first | rfl | assumption | omega), (show ∀ j : Nat, -1 ≤ (rf j).toInt ∧ (rf j).toInt ≤ 31 from by first | rfl | assumption | omega), (show (rsz.toInt < 12 ∧ rsz.toInt = rsz.toInt + 1) ∨ (12 ≤ rsz.toInt ∧ rsz.toInt = rsz.toInt) from by first | rfl | assumption | omega), trivial⟩ hP hD hS dX4_add_29
  · have c1' := I_nle c1
    refine lv_aload_n hx hb dX4_add_9 rfl (lv_at hl 0 rfl) ?_
    refine va_get (D := (dC, dI)) (ci := 3) (v := .ref rt) (C := RX4) (T := TX4) (N := 2) hx hb hts inG_X4 hown hK hP 0 rfl rfl 0 (by decide) (hts _ fl_X4_9) (fun _ h9 => h9) rfl dX4_add_10 ?_
    refine lv_aload_n hx hb dX4_add_13 rfl (lv_at hl 0 rfl) ?_
    refine va_get (D := (dC, dI)) (ci := 3) (v := .int rsz) (C := RX4) (T := TX4) (N := 2) hx hb hts inG_X4 hown hK hP 0 rfl rfl 1 (by decide) (hts _ fl_X4_15) (fun _ h9 => h9) rfl dX4_add_14 ?_
    refine lv_iload_n hx hb dX4_add_17 rfl (lv_at hl 1 rfl) ?_
    refine va_iast (t0 := 0) hx hb hK hP hD hS 1 (ha := rfl) (ht := rfl) (I_in (by omega) (by omega)) dX4_add_18 (fun H locs hP hD hS => ?_)
    have hP : va_P (dC, dI) vwCl [(r, .inr (3, [.ref rt, .int rsz])), (rt, .inl (cI, 12, .inl (upd rf rsz.toNatClampNeg x)))] H := hP
    have hD : va_D A [(r, .inr (3, [.ref rt, .int rsz])), (rt, .inl (cI, 12, .inl (upd rf rsz.toNatClampNeg x)))] := hD
    generalize ef2 : upd rf rsz.toNatClampNeg x = f2 at hP hD
    have ha3 : ∀ j : Nat, -1 ≤ (f2 j).toInt ∧ (f2 j).toInt ≤ 31 := by rw [← ef2]; exact upd_all (P := fun z => -1 ≤ z.toInt ∧ z.toInt ≤ 31) hq1 (by first | assumption | omega | (refine ⟨?_, ?_⟩ <;> omega)) _
    refine lv_aload_n hx hb dX4_add_19 rfl (lv_at hl 0 rfl) ?_
    refine lv_dup hx hb dX4_add_20 rfl ?_
    refine va_get (D := (dC, dI)) (ci := 3) (v := .int rsz) (C := RX4) (T := TX4) (N := 2) hx hb hts inG_X4 hown hK hP 0 rfl rfl 1 (by decide) (hts _ fl_X4_15) (fun _ h9 => h9) rfl dX4_add_21 ?_
    refine lv_iconst (v := 1) hx hb dX4_add_24 (by decide) ?_
    refine lv_iadd hx hb dX4_add_25 ?_
    refine lv_topi (fun v4 ev4 => ?_)
    try have hv4 : v4.toInt = rsz.toInt + (1 : Int32).toInt := I_addx ev4 (by omega)
    refine va_put (D := (dC, dI)) (ci := 3) (v := .int v4) (ty := .int) (C := RX4) (T := TX4) (N := 2) hx hb hts inG_X4 tyX4 tyX4_ok nmX4 hown hK hP hD hS 0 rfl rfl 1 (by decide) (hts _ fl_X4_15) (fun _ h9 => h9) rfl (by decide +kernel) rfl rfl (Nat.le_of_ble_eq_true rfl) dX4_add_26 (fun H locs hP hD hS => ?_)
    have hP : va_P (dC, dI) vwCl [(r, .inr (3, [.ref rt, .int v4])), (rt, .inl (cI, 12, .inl f2))] H := hP
    have hD : va_D A [(r, .inr (3, [.ref rt, .int v4])), (rt, .inl (cI, 12, .inl f2))] := hD
    exact hret (v4, f2) H locs 29 ls ⟨(show 0 ≤ v4.toInt ∧ v4.toInt ≤ 12 from by first | rfl | assumption | omega), (show ∀ j : Nat, -1 ≤ (f2 j).toInt ∧ (f2 j).toInt ≤ 31 from by first | rfl | assumption | omega), (show (rsz.toInt < 12 ∧ v4.toInt = rsz.toInt + 1) ∨ (12 ≤ rsz.toInt ∧ v4.toInt = rsz.toInt) from by first | rfl | assumption | omega), trivial⟩ hP hD hS dX4_add_29
set_option maxHeartbeats 4000000 in
set_option maxRecDepth 100000 in
theorem c_X4_replace (l : Launch) (dC : Nat → ClassId) (dI : Nat → Nat → Nat) (cI cJ : ClassId) (base bB bO : Nat) (r : Nat) (rt : Nat) (rsz : Int32) (rf : Nat → Int32) (i : Int32) (x : Int32) (hq0 : 0 ≤ rsz.toInt ∧ rsz.toInt ≤ 12) (hq1 : ∀ j : Nat, -1 ≤ (rf j).toInt ∧ (rf j).toInt ≤ 31) (hx0 : -1 ≤ x.toInt ∧ x.toInt ≤ 31) : CtV l dC dI cI cJ base bB bO yX4_replace cX4_replace 3 0 0 0 0 [.ref r, .int i, .int x] [(r, .inr (3, [.ref rt, .int rsz])), (rt, .inl (cI, 12, .inl rf))] ((Nat → Int32)) (fun (u : (Nat → Int32)) => (∀ j : Nat, -1 ≤ (u j).toInt ∧ (u j).toInt ≤ 31) ∧ True) (fun (u : (Nat → Int32)) => [(r, .inr (3, [.ref rt, .int rsz])), (rt, .inl (cI, 12, .inl u))]) := by
  refine entV (by decide) (Nat.le_of_ble_eq_true rfl) ?_
  intro p e s m below meth c A Q ls hAt hret hP hD hS hl
  obtain ⟨hx, hb, hml, hown, hts, hA, hAb, hK, hE, hlocks, hin⟩ := hAt
  have hG : CG dC dI cI cJ base bB bO cX4_replace 3 RX4 p s m (List.toArray [.ref r, .int i, .int x]) c A := ⟨hx, hb, hml, hown, hts, hA, hAb, hK, hE⟩
  have hl : lv_has ls 3 [(0, .ref r), (1, .int i), (2, .int x)] := hl
  have c_0 : (0 : Int32).toInt = 0 := by decide
  have c_1 : (1 : Int32).toInt = 1 := by decide
  obtain ⟨H, hHe⟩ : ∃ H : Heap, H = s.heap := ⟨_, rfl⟩
  obtain ⟨locs, hle⟩ : ∃ z : List Loc, z = [] := ⟨_, rfl⟩
  rw [← hHe] at hP
  have hS : va_S A s.heap H locs := by rw [hHe, hle]; exact hS
  suffices hgo : W p l e { frames := 0, cells := 0, slots := 0, locals := 0 } s m (List.toArray [.ref r, .int i, .int x]) below meth c H locs 0 0 Q (F0 m 0 ls []) by rw [hHe, hle] at hgo; exact hgo
  refine lv_iload_n hx hb dX4_replace_0 rfl (lv_at hl 1 rfl) ?_
  refine lv_if_lt (tgt := 19) hx hb dX4_replace_1 (by decide) (fun c1 => ?_) (fun c1 => ?_)
  · have c1' := I_lt c1
    exact hret rf H locs 19 ls ⟨(show ∀ j : Nat, -1 ≤ (rf j).toInt ∧ (rf j).toInt ≤ 31 from by first | rfl | assumption | omega), trivial⟩ hP hD hS dX4_replace_19
  · have c1' := I_nlt c1
    refine lv_iload_n hx hb dX4_replace_4 rfl (lv_at hl 1 rfl) ?_
    refine lv_aload_n hx hb dX4_replace_5 rfl (lv_at hl 0 rfl) ?_
    refine va_get (D := (dC, dI)) (ci := 3) (v := .int rsz) (C := RX4) (T := TX4) (N := 2) hx hb hts inG_X4 hown hK hP 0 rfl rfl 1 (by decide) (hts _ fl_X4_15) (fun _ h9 => h9) rfl dX4_replace_6 ?_
    refine lv_icmp_ge (tgt := 19) hx hb dX4_replace_9 (by decide) (fun c2 => ?_) (fun c2 => ?_)
    · have c2' := I_le c2
      exact hret rf H locs 19 ls ⟨(show ∀ j : Nat, -1 ≤ (rf j).toInt ∧ (rf j).toInt ≤ 31 from by first | rfl | assumption | omega), trivial⟩ hP hD hS dX4_replace_19
    · have c2' := I_nle c2
      refine lv_aload_n hx hb dX4_replace_12 rfl (lv_at hl 0 rfl) ?_
      refine va_get (D := (dC, dI)) (ci := 3) (v := .ref rt) (C := RX4) (T := TX4) (N := 2) hx hb hts inG_X4 hown hK hP 0 rfl rfl 0 (by decide) (hts _ fl_X4_9) (fun _ h9 => h9) rfl dX4_replace_13 ?_
      refine lv_iload_n hx hb dX4_replace_16 rfl (lv_at hl 1 rfl) ?_
      refine lv_iload_n hx hb dX4_replace_17 rfl (lv_at hl 2 rfl) ?_
      refine va_iast (t0 := 0) hx hb hK hP hD hS 1 (ha := rfl) (ht := rfl) (I_in (by omega) (by omega)) dX4_replace_18 (fun H locs hP hD hS => ?_)
      have hP : va_P (dC, dI) vwCl [(r, .inr (3, [.ref rt, .int rsz])), (rt, .inl (cI, 12, .inl (upd rf i.toNatClampNeg x)))] H := hP
      have hD : va_D A [(r, .inr (3, [.ref rt, .int rsz])), (rt, .inl (cI, 12, .inl (upd rf i.toNatClampNeg x)))] := hD
      generalize ef3 : upd rf i.toNatClampNeg x = f3 at hP hD
      have ha4 : ∀ j : Nat, -1 ≤ (f3 j).toInt ∧ (f3 j).toInt ≤ 31 := by rw [← ef3]; exact upd_all (P := fun z => -1 ≤ z.toInt ∧ z.toInt ≤ 31) hq1 (by first | assumption | omega | (refine ⟨?_, ?_⟩ <;> omega)) _
      exact hret f3 H locs 19 ls ⟨(show ∀ j : Nat, -1 ≤ (f3 j).toInt ∧ (f3 j).toInt ≤ 31 from by first | rfl | assumption | omega), trivial⟩ hP hD hS dX4_replace_19
set_option maxHeartbeats 4000000 in
set_option maxRecDepth 100000 in
theorem c_X4_shorten (l : Launch) (dC : Nat → ClassId) (dI : Nat → Nat → Nat) (cI cJ : ClassId) (base bB bO : Nat) (r : Nat) (rt : Nat) (rsz : Int32) (rf : Nat → Int32) (n : Int32) (hq0 : 0 ≤ rsz.toInt ∧ rsz.toInt ≤ 12) : CtV l dC dI cI cJ base bB bO yX4_shorten cX4_shorten 2 0 0 0 0 [.ref r, .int n] [(r, .inr (3, [.ref rt, .int rsz])), (rt, .inl (cI, 12, .inl rf))] ((Int32)) (fun (u : (Int32)) => (0 ≤ u.toInt ∧ u.toInt ≤ 12) ∧ ((u.toInt = n.toInt ∧ 0 ≤ n.toInt ∧ n.toInt < rsz.toInt) ∨ (u.toInt = rsz.toInt ∧ (n.toInt < 0 ∨ rsz.toInt ≤ n.toInt))) ∧ True) (fun (u : (Int32)) => [(r, .inr (3, [.ref rt, .int u])), (rt, .inl (cI, 12, .inl rf))]) := by
  refine entV (by decide) (Nat.le_of_ble_eq_true rfl) ?_
  intro p e s m below meth c A Q ls hAt hret hP hD hS hl
  obtain ⟨hx, hb, hml, hown, hts, hA, hAb, hK, hE, hlocks, hin⟩ := hAt
  have hG : CG dC dI cI cJ base bB bO cX4_shorten 2 RX4 p s m (List.toArray [.ref r, .int n]) c A := ⟨hx, hb, hml, hown, hts, hA, hAb, hK, hE⟩
  have hl : lv_has ls 2 [(0, .ref r), (1, .int n)] := hl
  have c_0 : (0 : Int32).toInt = 0 := by decide
  have c_1 : (1 : Int32).toInt = 1 := by decide
  obtain ⟨H, hHe⟩ : ∃ H : Heap, H = s.heap := ⟨_, rfl⟩
  obtain ⟨locs, hle⟩ : ∃ z : List Loc, z = [] := ⟨_, rfl⟩
  rw [← hHe] at hP
  have hS : va_S A s.heap H locs := by rw [hHe, hle]; exact hS
  suffices hgo : W p l e { frames := 0, cells := 0, slots := 0, locals := 0 } s m (List.toArray [.ref r, .int n]) below meth c H locs 0 0 Q (F0 m 0 ls []) by rw [hHe, hle] at hgo; exact hgo
  refine lv_iload_n hx hb dX4_shorten_0 rfl (lv_at hl 1 rfl) ?_
  refine lv_if_lt (tgt := 17) hx hb dX4_shorten_1 (by decide) (fun c1 => ?_) (fun c1 => ?_)
  · have c1' := I_lt c1
    exact hret rsz H locs 17 ls ⟨(show 0 ≤ rsz.toInt ∧ rsz.toInt ≤ 12 from by first | rfl | assumption | omega), (show (rsz.toInt = n.toInt ∧ 0 ≤ n.toInt ∧ n.toInt < rsz.toInt) ∨ (rsz.toInt = rsz.toInt ∧ (n.toInt < 0 ∨ rsz.toInt ≤ n.toInt)) from by first | rfl | assumption | omega), trivial⟩ hP hD hS dX4_shorten_17
  · have c1' := I_nlt c1
    refine lv_iload_n hx hb dX4_shorten_4 rfl (lv_at hl 1 rfl) ?_
    refine lv_aload_n hx hb dX4_shorten_5 rfl (lv_at hl 0 rfl) ?_
    refine va_get (D := (dC, dI)) (ci := 3) (v := .int rsz) (C := RX4) (T := TX4) (N := 2) hx hb hts inG_X4 hown hK hP 0 rfl rfl 1 (by decide) (hts _ fl_X4_15) (fun _ h9 => h9) rfl dX4_shorten_6 ?_
    refine lv_icmp_ge (tgt := 17) hx hb dX4_shorten_9 (by decide) (fun c2 => ?_) (fun c2 => ?_)
    · have c2' := I_le c2
      exact hret rsz H locs 17 ls ⟨(show 0 ≤ rsz.toInt ∧ rsz.toInt ≤ 12 from by first | rfl | assumption | omega), (show (rsz.toInt = n.toInt ∧ 0 ≤ n.toInt ∧ n.toInt < rsz.toInt) ∨ (rsz.toInt = rsz.toInt ∧ (n.toInt < 0 ∨ rsz.toInt ≤ n.toInt)) from by first | rfl | assumption | omega), trivial⟩ hP hD hS dX4_shorten_17
    · have c2' := I_nle c2
      refine lv_aload_n hx hb dX4_shorten_12 rfl (lv_at hl 0 rfl) ?_
      refine lv_iload_n hx hb dX4_shorten_13 rfl (lv_at hl 1 rfl) ?_
      refine va_put (D := (dC, dI)) (ci := 3) (v := .int n) (ty := .int) (C := RX4) (T := TX4) (N := 2) hx hb hts inG_X4 tyX4 tyX4_ok nmX4 hown hK hP hD hS 0 rfl rfl 1 (by decide) (hts _ fl_X4_15) (fun _ h9 => h9) rfl (by decide +kernel) rfl rfl (Nat.le_of_ble_eq_true rfl) dX4_shorten_14 (fun H locs hP hD hS => ?_)
      have hP : va_P (dC, dI) vwCl [(r, .inr (3, [.ref rt, .int n])), (rt, .inl (cI, 12, .inl rf))] H := hP
      have hD : va_D A [(r, .inr (3, [.ref rt, .int n])), (rt, .inl (cI, 12, .inl rf))] := hD
      exact hret n H locs 17 ls ⟨(show 0 ≤ n.toInt ∧ n.toInt ≤ 12 from by first | rfl | assumption | omega), (show (n.toInt = n.toInt ∧ 0 ≤ n.toInt ∧ n.toInt < rsz.toInt) ∨ (n.toInt = rsz.toInt ∧ (n.toInt < 0 ∨ rsz.toInt ≤ n.toInt)) from by first | rfl | assumption | omega), trivial⟩ hP hD hS dX4_shorten_17
set_option maxHeartbeats 4000000 in
set_option maxRecDepth 100000 in
theorem c_X4_removeAt (l : Launch) (dC : Nat → ClassId) (dI : Nat → Nat → Nat) (cI cJ : ClassId) (base bB bO : Nat) (r : Nat) (rt : Nat) (rsz : Int32) (rf : Nat → Int32) (i : Int32) (hq0 : 0 ≤ rsz.toInt ∧ rsz.toInt ≤ 12) (hq1 : ∀ j : Nat, -1 ≤ (rf j).toInt ∧ (rf j).toInt ≤ 31) : CtV l dC dI cI cJ base bB bO yX4_removeAt cX4_removeAt 3 0 0 0 0 [.ref r, .int i] [(r, .inr (3, [.ref rt, .int rsz])), (rt, .inl (cI, 12, .inl rf))] ((Int32) × (Nat → Int32)) (fun (u : (Int32) × (Nat → Int32)) => (0 ≤ u.1.toInt ∧ u.1.toInt ≤ 12) ∧ (∀ j : Nat, -1 ≤ (u.2 j).toInt ∧ (u.2 j).toInt ≤ 31) ∧ True) (fun (u : (Int32) × (Nat → Int32)) => [(r, .inr (3, [.ref rt, .int u.1])), (rt, .inl (cI, 12, .inl u.2))]) := by
  refine entV (by decide) (Nat.le_of_ble_eq_true rfl) ?_
  intro p e s m below meth c A Q ls hAt hret hP hD hS hl
  obtain ⟨hx, hb, hml, hown, hts, hA, hAb, hK, hE, hlocks, hin⟩ := hAt
  have hG : CG dC dI cI cJ base bB bO cX4_removeAt 3 RX4 p s m (List.toArray [.ref r, .int i]) c A := ⟨hx, hb, hml, hown, hts, hA, hAb, hK, hE⟩
  have hl : lv_has ls 3 [(0, .ref r), (1, .int i)] := hl
  have c_0 : (0 : Int32).toInt = 0 := by decide
  have c_1 : (1 : Int32).toInt = 1 := by decide
  obtain ⟨H, hHe⟩ : ∃ H : Heap, H = s.heap := ⟨_, rfl⟩
  obtain ⟨locs, hle⟩ : ∃ z : List Loc, z = [] := ⟨_, rfl⟩
  rw [← hHe] at hP
  have hS : va_S A s.heap H locs := by rw [hHe, hle]; exact hS
  suffices hgo : W p l e { frames := 0, cells := 0, slots := 0, locals := 0 } s m (List.toArray [.ref r, .int i]) below meth c H locs 0 0 Q (F0 m 0 ls []) by rw [hHe, hle] at hgo; exact hgo
  refine lv_iload_n hx hb dX4_removeAt_0 rfl (lv_at hl 1 rfl) ?_
  refine lv_if_lt (tgt := 54) hx hb dX4_removeAt_1 (by decide) (fun c1 => ?_) (fun c1 => ?_)
  · have c1' := I_lt c1
    exact hret (rsz, rf) H locs 54 ls ⟨(show 0 ≤ rsz.toInt ∧ rsz.toInt ≤ 12 from by first | rfl | assumption | omega), (show ∀ j : Nat, -1 ≤ (rf j).toInt ∧ (rf j).toInt ≤ 31 from by first | rfl | assumption | omega), trivial⟩ hP hD hS dX4_removeAt_54
  · have c1' := I_nlt c1
    refine lv_iload_n hx hb dX4_removeAt_4 rfl (lv_at hl 1 rfl) ?_
    refine lv_aload_n hx hb dX4_removeAt_5 rfl (lv_at hl 0 rfl) ?_
    refine va_get (D := (dC, dI)) (ci := 3) (v := .int rsz) (C := RX4) (T := TX4) (N := 2) hx hb hts inG_X4 hown hK hP 0 rfl rfl 1 (by decide) (hts _ fl_X4_15) (fun _ h9 => h9) rfl dX4_removeAt_6 ?_
    refine lv_icmp_ge (tgt := 54) hx hb dX4_removeAt_9 (by decide) (fun c2 => ?_) (fun c2 => ?_)
    · have c2' := I_le c2
      exact hret (rsz, rf) H locs 54 ls ⟨(show 0 ≤ rsz.toInt ∧ rsz.toInt ≤ 12 from by first | rfl | assumption | omega), (show ∀ j : Nat, -1 ≤ (rf j).toInt ∧ (rf j).toInt ≤ 31 from by first | rfl | assumption | omega), trivial⟩ hP hD hS dX4_removeAt_54
    · have c2' := I_nle c2
      refine lv_iload_n hx hb dX4_removeAt_12 rfl (lv_at hl 1 rfl) ?_
      refine lv_istore_n (lv' := [(2, .int i), (0, .ref r), (1, .int i)]) hx hb dX4_removeAt_13 rfl hl (by decide) rfl (fun ls hl => ?_)
      have J14 : ∀ (n : Nat) (L2_14 : Int32) (rf_14 : Nat → Int32), (0 ≤ L2_14.toInt ∧ L2_14.toInt ≤ 12) → (∀ j : Nat, -1 ≤ (rf_14 j).toInt ∧ (rf_14 j).toInt ≤ 31) → (12 - L2_14.toInt) < (n : Int) → ∀ (H : Heap) (locs : List Loc) (ls : Array Slot), va_P (dC, dI) vwCl [(r, .inr (3, [.ref rt, .int rsz])), (rt, .inl (cI, 12, .inl rf_14))] H → va_D A [(r, .inr (3, [.ref rt, .int rsz])), (rt, .inl (cI, 12, .inl rf_14))] → va_S A s.heap H locs → lv_has ls 3 [(2, .int L2_14), (0, .ref r), (1, .int i)] → W p l e { frames := 0, cells := 0, slots := 0, locals := 0 } s m (List.toArray [.ref r, .int i]) below meth c H locs 0 0 Q (F0 m 14 ls []) := by
        intro n
        induction n with
        | zero =>
          intro L2_14 rf_14 hi0_14 hi1_14 hm
          exact absurd hm (by omega)
        | succ n ih14 =>
          intro L2_14 rf_14 hi0_14 hi1_14 hm14 H locs ls hP hD hS hl
          refine lv_iload_n hx hb dX4_removeAt_14 rfl (lv_at hl 0 rfl) ?_
          refine lv_iconst (v := 1) hx hb dX4_removeAt_15 (by decide) ?_
          refine lv_iadd hx hb dX4_removeAt_16 ?_
          refine lv_topi (fun v3 ev3 => ?_)
          try have hv3 : v3.toInt = L2_14.toInt + (1 : Int32).toInt := I_addx ev3 (by omega)
          refine lv_aload_n hx hb dX4_removeAt_17 rfl (lv_at hl 1 rfl) ?_
          refine va_get (D := (dC, dI)) (ci := 3) (v := .int rsz) (C := RX4) (T := TX4) (N := 2) hx hb hts inG_X4 hown hK hP 0 rfl rfl 1 (by decide) (hts _ fl_X4_15) (fun _ h9 => h9) rfl dX4_removeAt_18 ?_
          refine lv_icmp_ge (tgt := 44) hx hb dX4_removeAt_21 (by decide) (fun c4 => ?_) (fun c4 => ?_)
          · have c4' := I_le c4
            refine lv_aload_n hx hb dX4_removeAt_44 rfl (lv_at hl 1 rfl) ?_
            refine lv_dup hx hb dX4_removeAt_45 rfl ?_
            refine va_get (D := (dC, dI)) (ci := 3) (v := .int rsz) (C := RX4) (T := TX4) (N := 2) hx hb hts inG_X4 hown hK hP 0 rfl rfl 1 (by decide) (hts _ fl_X4_15) (fun _ h9 => h9) rfl dX4_removeAt_46 ?_
            refine lv_iconst (v := 1) hx hb dX4_removeAt_49 (by decide) ?_
            refine lv_isub hx hb dX4_removeAt_50 ?_
            refine lv_topi (fun v5 ev5 => ?_)
            try have hv5 : v5.toInt = rsz.toInt - (1 : Int32).toInt := I_subx ev5 (by omega)
            refine va_put (D := (dC, dI)) (ci := 3) (v := .int v5) (ty := .int) (C := RX4) (T := TX4) (N := 2) hx hb hts inG_X4 tyX4 tyX4_ok nmX4 hown hK hP hD hS 0 rfl rfl 1 (by decide) (hts _ fl_X4_15) (fun _ h9 => h9) rfl (by decide +kernel) rfl rfl (Nat.le_of_ble_eq_true rfl) dX4_removeAt_51 (fun H locs hP hD hS => ?_)
            have hP : va_P (dC, dI) vwCl [(r, .inr (3, [.ref rt, .int v5])), (rt, .inl (cI, 12, .inl rf_14))] H := hP
            have hD : va_D A [(r, .inr (3, [.ref rt, .int v5])), (rt, .inl (cI, 12, .inl rf_14))] := hD
            exact hret (v5, rf_14) H locs 54 ls ⟨(show 0 ≤ v5.toInt ∧ v5.toInt ≤ 12 from by first | rfl | assumption | omega), (show ∀ j : Nat, -1 ≤ (rf_14 j).toInt ∧ (rf_14 j).toInt ≤ 31 from by first | rfl | assumption | omega), trivial⟩ hP hD hS dX4_removeAt_54
          · have c4' := I_nle c4
            refine lv_aload_n hx hb dX4_removeAt_24 rfl (lv_at hl 1 rfl) ?_
            refine va_get (D := (dC, dI)) (ci := 3) (v := .ref rt) (C := RX4) (T := TX4) (N := 2) hx hb hts inG_X4 hown hK hP 0 rfl rfl 0 (by decide) (hts _ fl_X4_9) (fun _ h9 => h9) rfl dX4_removeAt_25 ?_
            refine lv_iload_n hx hb dX4_removeAt_28 rfl (lv_at hl 0 rfl) ?_
            refine lv_aload_n hx hb dX4_removeAt_29 rfl (lv_at hl 1 rfl) ?_
            refine va_get (D := (dC, dI)) (ci := 3) (v := .ref rt) (C := RX4) (T := TX4) (N := 2) hx hb hts inG_X4 hown hK hP 0 rfl rfl 0 (by decide) (hts _ fl_X4_9) (fun _ h9 => h9) rfl dX4_removeAt_30 ?_
            refine lv_iload_n hx hb dX4_removeAt_33 rfl (lv_at hl 0 rfl) ?_
            refine lv_iconst (v := 1) hx hb dX4_removeAt_34 (by decide) ?_
            refine lv_iadd hx hb dX4_removeAt_35 ?_
            refine lv_topi (fun v6 ev6 => ?_)
            try have hv6 : v6.toInt = L2_14.toInt + (1 : Int32).toInt := I_addx ev6 (by omega)
            refine va_iald (t0 := 0) hx hb hK hP 1 (ha := rfl) (ht := rfl) (I_in (by omega) (by omega)) dX4_removeAt_36 ?_
            refine lv_topi (fun v7 ev7 => ?_)
            have fv7 := hi1_14 v6.toNatClampNeg
            rw [← ev7] at fv7
            refine va_iast (t0 := 0) hx hb hK hP hD hS 1 (ha := rfl) (ht := rfl) (I_in (by omega) (by omega)) dX4_removeAt_37 (fun H locs hP hD hS => ?_)
            have hP : va_P (dC, dI) vwCl [(r, .inr (3, [.ref rt, .int rsz])), (rt, .inl (cI, 12, .inl (upd rf_14 L2_14.toNatClampNeg v7)))] H := hP
            have hD : va_D A [(r, .inr (3, [.ref rt, .int rsz])), (rt, .inl (cI, 12, .inl (upd rf_14 L2_14.toNatClampNeg v7)))] := hD
            generalize ef8 : upd rf_14 L2_14.toNatClampNeg v7 = f8 at hP hD
            have ha9 : ∀ j : Nat, -1 ≤ (f8 j).toInt ∧ (f8 j).toInt ≤ 31 := by rw [← ef8]; exact upd_all (P := fun z => -1 ≤ z.toInt ∧ z.toInt ≤ 31) hi1_14 (by first | assumption | omega | (refine ⟨?_, ?_⟩ <;> omega)) _
            obtain ⟨v10, ev10⟩ : ∃ y : Int32, y = L2_14 + 1 := ⟨_, rfl⟩
            try have hv10 : v10.toInt = L2_14.toInt + (1 : Int32).toInt := I_addx ev10 (by omega)
            refine lv_iinc (v := v10) (lv' := [(2, .int v10), (0, .ref r), (1, .int i)]) hx hb dX4_removeAt_38 hl (k := 0) rfl (by rw [ev10]; rfl) (by decide) rfl (fun ls hl => ?_)
            refine lv_goto (tgt := 14) hx hb dX4_removeAt_41 (by decide) ?_
            exact ih14 v10 f8 (by first | assumption | omega) (by first | assumption | omega) (by omega) H locs ls hP hD hS hl
      exact J14 ((12 - i.toInt).toNat + 1) i rf (by first | assumption | omega) (by first | assumption | omega) (by omega) H locs ls hP hD hS hl
set_option maxHeartbeats 4000000 in
set_option maxRecDepth 100000 in
theorem c_X8_isToken (l : Launch) (dC : Nat → ClassId) (dI : Nat → Nat → Nat) (cI cJ : ClassId) (base bB bO : Nat) (x : Int32)  : CtI l dC dI cI cJ base bB bO yX8_isToken cX8_isToken 1 .boolean 0 0 [.int x] [] (Unit) (fun (res : Int32) (u : Unit) => ((res.toInt = 1 ∧ 0 ≤ x.toInt ∧ x.toInt ≤ 27) ∨ (res.toInt = 0 ∧ (x.toInt < 0 ∨ 27 < x.toInt))) ∧ True) (fun (u : Unit) => []) := by
  refine entI (by decide) (Nat.le_of_ble_eq_true rfl) ?_
  intro p e s m below meth c A Q ls hAt hret hP hD hS hl
  obtain ⟨hx, hb, hml, hown, hts, hA, hAb, hK, hE, hlocks, hin⟩ := hAt
  have hG : CG dC dI cI cJ base bB bO cX8_isToken 1 RX8 p s m (List.toArray [.int x]) c A := ⟨hx, hb, hml, hown, hts, hA, hAb, hK, hE⟩
  have hl : lv_has ls 1 [(0, .int x)] := hl
  have c_0 : (0 : Int32).toInt = 0 := by decide
  have c_1 : (1 : Int32).toInt = 1 := by decide
  have c_28 : (28 : Int32).toInt = 28 := by decide
  obtain ⟨H, hHe⟩ : ∃ H : Heap, H = s.heap := ⟨_, rfl⟩
  obtain ⟨locs, hle⟩ : ∃ z : List Loc, z = [] := ⟨_, rfl⟩
  rw [← hHe] at hP
  have hS : va_S A s.heap H locs := by rw [hHe, hle]; exact hS
  suffices hgo : W p l e { frames := 0, cells := 0, slots := 0, locals := 0 } s m (List.toArray [.int x]) below meth c H locs 0 0 Q (F0 m 0 ls []) by rw [hHe, hle] at hgo; exact hgo
  refine lv_iload_n hx hb dX8_isToken_0 rfl (lv_at hl 0 rfl) ?_
  refine lv_if_lt (tgt := 14) hx hb dX8_isToken_1 (by decide) (fun c1 => ?_) (fun c1 => ?_)
  · have c1' := I_lt c1
    refine lv_iconst (v := 0) hx hb dX8_isToken_14 (by decide) ?_
    exact hret 0 () H locs 15 ls (by first | rfl | exact I_narz (by omega)) ⟨(show ((0 : Int32).toInt = 1 ∧ 0 ≤ x.toInt ∧ x.toInt ≤ 27) ∨ ((0 : Int32).toInt = 0 ∧ (x.toInt < 0 ∨ 27 < x.toInt)) from by first | rfl | assumption | omega), trivial⟩ hP hD hS dX8_isToken_15
  · have c1' := I_nlt c1
    refine lv_iload_n hx hb dX8_isToken_4 rfl (lv_at hl 0 rfl) ?_
    refine lv_bipush (v := 28) hx hb dX8_isToken_5 (by decide) ?_
    refine lv_icmp_ge (tgt := 14) hx hb dX8_isToken_7 (by decide) (fun c2 => ?_) (fun c2 => ?_)
    · have c2' := I_le c2
      refine lv_iconst (v := 0) hx hb dX8_isToken_14 (by decide) ?_
      exact hret 0 () H locs 15 ls (by first | rfl | exact I_narz (by omega)) ⟨(show ((0 : Int32).toInt = 1 ∧ 0 ≤ x.toInt ∧ x.toInt ≤ 27) ∨ ((0 : Int32).toInt = 0 ∧ (x.toInt < 0 ∨ 27 < x.toInt)) from by first | rfl | assumption | omega), trivial⟩ hP hD hS dX8_isToken_15
    · have c2' := I_nle c2
      refine lv_iconst (v := 1) hx hb dX8_isToken_10 (by decide) ?_
      refine lv_goto (tgt := 15) hx hb dX8_isToken_11 (by decide) ?_
      exact hret 1 () H locs 15 ls (by first | rfl | exact I_narz (by omega)) ⟨(show ((1 : Int32).toInt = 1 ∧ 0 ≤ x.toInt ∧ x.toInt ≤ 27) ∨ ((1 : Int32).toInt = 0 ∧ (x.toInt < 0 ∨ 27 < x.toInt)) from by first | rfl | assumption | omega), trivial⟩ hP hD hS dX8_isToken_15
set_option maxHeartbeats 4000000 in
set_option maxRecDepth 100000 in
theorem c_X8_isTooFar (l : Launch) (dC : Nat → ClassId) (dI : Nat → Nat → Nat) (cI cJ : ClassId) (base bB bO : Nat) (x : Int64)  : CtI l dC dI cI cJ base bB bO yX8_isTooFar cX8_isTooFar 2 .boolean 0 0 [.long x] [] (Unit) (fun (res : Int32) (u : Unit) => ((res.toInt = 1 ∧ (1000000 < x.toInt ∨ x.toInt < -1000000)) ∨ (res.toInt = 0 ∧ -1000000 ≤ x.toInt ∧ x.toInt ≤ 1000000)) ∧ True) (fun (u : Unit) => []) := by
  refine entI (by decide) (Nat.le_of_ble_eq_true rfl) ?_
  intro p e s m below meth c A Q ls hAt hret hP hD hS hl
  obtain ⟨hx, hb, hml, hown, hts, hA, hAb, hK, hE, hlocks, hin⟩ := hAt
  have hG : CG dC dI cI cJ base bB bO cX8_isTooFar 2 RX8 p s m (List.toArray [.long x]) c A := ⟨hx, hb, hml, hown, hts, hA, hAb, hK, hE⟩
  have hl : lv_has ls 2 [(0, .long x)] := hl
  have c_0 : (0 : Int32).toInt = 0 := by decide
  have c_1 : (1 : Int32).toInt = 1 := by decide
  have cl_m1000000 : (-1000000 : Int64).toInt = -1000000 := by decide
  have cl_1000000 : (1000000 : Int64).toInt = 1000000 := by decide
  obtain ⟨H, hHe⟩ : ∃ H : Heap, H = s.heap := ⟨_, rfl⟩
  obtain ⟨locs, hle⟩ : ∃ z : List Loc, z = [] := ⟨_, rfl⟩
  rw [← hHe] at hP
  have hS : va_S A s.heap H locs := by rw [hHe, hle]; exact hS
  suffices hgo : W p l e { frames := 0, cells := 0, slots := 0, locals := 0 } s m (List.toArray [.long x]) below meth c H locs 0 0 Q (F0 m 0 ls []) by rw [hHe, hle] at hgo; exact hgo
  refine lv_lload_n hx hb dX8_isTooFar_0 rfl (lv_at hl 0 rfl) ?_
  refine lv_ldc2 (v := 1000000) hx hb hown (hts _ k_X8_205) dX8_isTooFar_1 ?_
  refine W.lcmp hx hb dX8_isTooFar_4 ?_
  refine lv_topi (fun v1 ev1 => ?_)
  have hv1 := J_cmp x (1000000 : Int64)
  rw [← ev1] at hv1
  refine lv_if_gt (tgt := 16) hx hb dX8_isTooFar_5 (by decide) (fun c2 => ?_) (fun c2 => ?_)
  · have c2' := I_lt c2
    refine lv_iconst (v := 1) hx hb dX8_isTooFar_16 (by decide) ?_
    refine lv_goto (tgt := 21) hx hb dX8_isTooFar_17 (by decide) ?_
    exact hret 1 () H locs 21 ls (by first | rfl | exact I_narz (by omega)) ⟨(show ((1 : Int32).toInt = 1 ∧ (1000000 < x.toInt ∨ x.toInt < -1000000)) ∨ ((1 : Int32).toInt = 0 ∧ -1000000 ≤ x.toInt ∧ x.toInt ≤ 1000000) from by first | rfl | assumption | omega), trivial⟩ hP hD hS dX8_isTooFar_21
  · have c2' := I_nlt c2
    refine lv_lload_n hx hb dX8_isTooFar_8 rfl (lv_at hl 0 rfl) ?_
    refine lv_ldc2 (v := (-1000000)) hx hb hown (hts _ k_X8_207) dX8_isTooFar_9 ?_
    refine W.lcmp hx hb dX8_isTooFar_12 ?_
    refine lv_topi (fun v3 ev3 => ?_)
    have hv3 := J_cmp x (-1000000 : Int64)
    rw [← ev3] at hv3
    refine lv_if_ge (tgt := 20) hx hb dX8_isTooFar_13 (by decide) (fun c4 => ?_) (fun c4 => ?_)
    · have c4' := I_le c4
      refine lv_iconst (v := 0) hx hb dX8_isTooFar_20 (by decide) ?_
      exact hret 0 () H locs 21 ls (by first | rfl | exact I_narz (by omega)) ⟨(show ((0 : Int32).toInt = 1 ∧ (1000000 < x.toInt ∨ x.toInt < -1000000)) ∨ ((0 : Int32).toInt = 0 ∧ -1000000 ≤ x.toInt ∧ x.toInt ≤ 1000000) from by first | rfl | assumption | omega), trivial⟩ hP hD hS dX8_isTooFar_21
    · have c4' := I_nle c4
      refine lv_iconst (v := 1) hx hb dX8_isTooFar_16 (by decide) ?_
      refine lv_goto (tgt := 21) hx hb dX8_isTooFar_17 (by decide) ?_
      exact hret 1 () H locs 21 ls (by first | rfl | exact I_narz (by omega)) ⟨(show ((1 : Int32).toInt = 1 ∧ (1000000 < x.toInt ∨ x.toInt < -1000000)) ∨ ((1 : Int32).toInt = 0 ∧ -1000000 ≤ x.toInt ∧ x.toInt ≤ 1000000) from by first | rfl | assumption | omega), trivial⟩ hP hD hS dX8_isTooFar_21
