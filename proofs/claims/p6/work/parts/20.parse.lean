/-! the reference's reader: what its two rows hold -/
def isOp (t : Int) : Prop := 2 ≤ t ∧ t ≤ 8
def isFr (t : Int) : Prop := t = 0 ∨ t = 9 ∨ t = 10 ∨ t = 11
def PL (f : Nat → Int32) : List (Bool × Int) → Int → Prop
  | [], n => n = 0
  | (false, t) :: r, n => 1 ≤ n ∧ (f (n - 1).toNat).toInt = t ∧ isOp t ∧ PL f r (n - 1)
  | (true, t) :: r, n => 2 ≤ n ∧ (f (n - 1).toNat).toInt = t ∧ isFr t ∧ PL f r (n - 2)
def pend1 (q : Bool × Int) : Int := if q.1 then (if q.2 = 11 then 2 else if q.2 = 10 then 1 else 0) else (if q.2 = 8 then 0 else 1)
def pend : List (Bool × Int) → Int
  | [] => 0
  | q :: r => pend1 q + pend r
def ffr : List (Bool × Int) → Option Int
  | [] => none
  | (false, _) :: r => ffr r
  | (true, t) :: r => if t = 11 then ffr r else some t
def dl (t : Int) : Int := if 12 ≤ t then 1 else if t = 8 then 0 else if t = 9 then -2 else -1
def nd (t : Int) : Int := if 12 ≤ t then 0 else if t = 8 then 1 else if t = 9 then 3 else 2
def hg (f : Nat → Int32) : Nat → Int
  | 0 => 0
  | k + 1 => hg f k + dl (f k).toInt
def WFn (f : Nat → Int32) (P : Nat) : Prop := ∀ k, k < P → nd (f k).toInt ≤ hg f k
theorem nd_12 {t : Int} (h : 12 ≤ t) : nd t = 0 ∧ dl t = 1 := ⟨by unfold nd; rw [if_pos h], by unfold dl; rw [if_pos h]⟩
theorem nd_8 {t : Int} (h : t = 8) : nd t = 1 ∧ dl t = 0 := by subst h; exact ⟨rfl, rfl⟩
theorem nd_9 {t : Int} (h : t = 9) : nd t = 3 ∧ dl t = -2 := by subst h; exact ⟨rfl, rfl⟩
theorem nd_o {t : Int} (h : t < 12) (h8 : ¬ t = 8) (h9 : ¬ t = 9) : nd t = 2 ∧ dl t = -1 := ⟨by unfold nd; rw [if_neg (by omega), if_neg h8, if_neg h9], by unfold dl; rw [if_neg (by omega), if_neg h8, if_neg h9]⟩
theorem op_nums {t : Int} (h : isOp t) : pend1 (false, t) + dl t = 0 ∧ nd t ≤ pend1 (false, t) + 1 := by
  unfold isOp at h
  by_cases e8 : t = 8
  · have z := nd_8 e8
    have hp1 : pend1 (false, t) = 0 := by rw [e8]; rfl
    omega
  · have z := nd_o (t := t) (by omega) e8 (by omega)
    have hp1 : pend1 (false, t) = 1 := by show (if t = 8 then (0 : Int) else 1) = 1; rw [if_neg e8]
    omega
theorem pend1_nn (q : Bool × Int) : 0 ≤ pend1 q ∧ pend1 q ≤ 2 := by
  unfold pend1; split <;> (split <;> try split) <;> omega
theorem pend_nn : ∀ es, 0 ≤ pend es
  | [] => by simp [pend]
  | q :: r => by have := pend_nn r; have := pend1_nn q; simp only [pend]; omega
theorem PL_n : ∀ {f : Nat → Int32} {es : List (Bool × Int)} {n : Int}, PL f es n → (es.length : Int) ≤ n ∧ n ≤ 2 * (es.length : Int)
  | _, [], n, h => by simp only [PL] at h; simp; omega
  | _, (false, t) :: r, n, h => by obtain ⟨h1, -, -, h4⟩ := h; have := PL_n h4; simp only [List.length_cons]; omega
  | _, (true, t) :: r, n, h => by obtain ⟨h1, -, -, h4⟩ := h; have := PL_n h4; simp only [List.length_cons]; omega
theorem PL_congr : ∀ {f g : Nat → Int32} {es : List (Bool × Int)} {n : Int}, PL f es n → (∀ j : Nat, (j : Int) < n → g j = f j) → PL g es n
  | _, _, [], n, h, _ => h
  | f, g, (false, t) :: r, n, h, hc => by
    obtain ⟨h1, h2, h3, h4⟩ := h
    exact ⟨h1, by rw [hc _ (by omega)]; exact h2, h3, PL_congr h4 (fun j hj => hc j (by omega))⟩
  | f, g, (true, t) :: r, n, h, hc => by
    obtain ⟨h1, h2, h3, h4⟩ := h
    exact ⟨h1, by rw [hc _ (by omega)]; exact h2, h3, PL_congr h4 (fun j hj => hc j (by omega))⟩
theorem hg_congr {f g : Nat → Int32} : ∀ {k : Nat}, (∀ j, j < k → g j = f j) → hg g k = hg f k
  | 0, _ => rfl
  | k + 1, h => by simp only [hg]; rw [hg_congr (fun j hj => h j (by omega)), h k (by omega)]
theorem dl_le (t : Int) : dl t ≤ 1 := by unfold dl; split <;> (try split) <;> (try split) <;> omega
theorem hg_le (f : Nat → Int32) : ∀ k : Nat, hg f k ≤ (k : Int)
  | 0 => by simp [hg]
  | k + 1 => by have := hg_le f k; have := dl_le (f k).toInt; simp only [hg]; omega
theorem WFn_push {f : Nat → Int32} {P : Nat} {x : Int32} (h : WFn f P) (hx : nd x.toInt ≤ hg f P) : WFn (upd f P x) (P + 1) ∧ hg (upd f P x) (P + 1) = hg f P + dl x.toInt := by
  have hc : ∀ k, k ≤ P → hg (upd f P x) k = hg f k := fun k hk => hg_congr (fun j hj => by rw [upd_at, if_neg (by omega)])
  constructor
  · intro k hk
    rw [hc k (by omega), upd_at]
    by_cases e : k = P
    · rw [if_pos e, e]; exact hx
    · rw [if_neg e]; exact h k (by omega)
  · show hg (upd f P x) P + dl (upd f P x P).toInt = _
    rw [hc P (Nat.le_refl P), upd_at, if_pos rfl]
/-- the reader's state: K tokens read; has: an operand has just been read -/
def RD (po pi : Nat → Int32) (pd pl : Int32) (has K : Int) : Prop := 0 ≤ pd.toInt ∧ ∃ es : List (Bool × Int), PL pi es pl.toInt ∧ WFn po pd.toInt.toNat ∧ hg po pd.toInt.toNat = pend es + has ∧ pd.toInt + (es.length : Int) ≤ K
def FF (pi : Nat → Int32) (n w : Int) : Prop := ∃ es, PL pi es n ∧ ffr es = some w
def PLx (pi : Nat → Int32) (n : Int) : Prop := ∃ es, PL pi es n
theorem RD_b {po pi : Nat → Int32} {pd pl : Int32} {has K : Int} (h : RD po pi pd pl has K) : 0 ≤ pd.toInt ∧ pd.toInt ≤ K ∧ 0 ≤ pl.toInt ∧ pl.toInt ≤ 2 * (K - pd.toInt) := by
  obtain ⟨h0, es, h1, -, -, h4⟩ := h
  have := PL_n h1
  omega
theorem RD_x {po pi : Nat → Int32} {pd pl : Int32} {has K : Int} (h : RD po pi pd pl has K) : PLx pi pl.toInt := by
  obtain ⟨h0, es, h1, -⟩ := h; exact ⟨es, h1⟩
theorem RD_w {po pi : Nat → Int32} {pd pl : Int32} {has K : Int} (h : RD po pi pd pl has K) : WFn po pd.toInt.toNat := h.2.choose_spec.2.1
theorem RD_0 {po pi : Nat → Int32} {pd pl : Int32} (h1 : pd.toInt = 0) (h2 : pl.toInt = 0) : RD po pi pd pl 0 0 := by
  refine ⟨by omega, [], h2, ?_, ?_, ?_⟩
  · rw [h1]; exact fun k hk => absurd hk (by simp)
  · rw [h1]; rfl
  · rw [h1]; decide
theorem RD_up {po pi : Nat → Int32} {pd pl : Int32} {has K K2 : Int} (h : RD po pi pd pl has K) (hk : K ≤ K2) : RD po pi pd pl has K2 := by
  obtain ⟨h0, es, h1, h2, h3, h4⟩ := h; exact ⟨h0, es, h1, h2, h3, by omega⟩
/-- an operator goes from the one row to the other -/
theorem RD_pop {po pi : Nat → Int32} {pd pl pd2 pl2 i x y : Int32} {K : Int} (h : RD po pi pd pl 1 K) (hp : 0 < pl.toInt) (hi : i.toInt = pl.toInt - 1) (hx : x = pi i.toNatClampNeg) (hnf : ¬ isFr x.toInt) (h2 : pl2.toInt = pl.toInt - 1) (hd2 : pd2.toInt = pd.toInt + 1) {po2 : Nat → Int32} (e : upd po pd.toNatClampNeg y = po2) (hy : y.toInt = x.toInt) : RD po2 pi pd2 pl2 1 K := by
  obtain ⟨h0, es, h1, hw, hh, hk⟩ := h
  have hix : i.toNatClampNeg = (pl.toInt - 1).toNat := by rw [I_nat, hi]
  have hdx : pd2.toInt.toNat = pd.toInt.toNat + 1 := by omega
  match es, h1 with
  | [], h1 => exact absurd (show _ = (0 : Int) from h1) (by omega)
  | (true, t) :: r, h1 => exact absurd h1.2.2.1 (by rw [← h1.2.1, ← hix, ← hx]; exact hnf)
  | (false, t) :: r, h1 =>
    obtain ⟨q1, q2, q3, q4⟩ := h1
    have ht : y.toInt = t := by rw [hy, hx, hix]; exact q2
    have hpn := pend_nn r
    have hpq : pend ((false, t) :: r) = pend1 (false, t) + pend r := rfl
    have hz := op_nums q3
    rw [hpq] at hh
    obtain ⟨w1, w2⟩ := WFn_push (x := y) hw (by rw [ht, hh]; omega)
    rw [← I_nat, e] at w1 w2
    rw [I_nat] at w1 w2
    refine ⟨by omega, r, by rw [h2]; exact q4, by rw [hdx]; exact w1, ?_, by simp only [List.length_cons] at hk; omega⟩
    rw [hdx, w2, hh, ht]; omega
/-- the else that closes a choice goes over as 9 -/
theorem RD_popE {po pi : Nat → Int32} {pd pl pd2 pl2 i x y : Int32} {K : Int} (h : RD po pi pd pl 1 K) (hp : 0 < pl.toInt) (hi : i.toInt = pl.toInt - 1) (hx : x = pi i.toNatClampNeg) (h11 : x.toInt = 11) (h2 : pl2.toInt = pl.toInt - 2) (hd2 : pd2.toInt = pd.toInt + 1) {po2 : Nat → Int32} (e : upd po pd.toNatClampNeg y = po2) (hy : y.toInt = 9) : RD po2 pi pd2 pl2 1 K := by
  obtain ⟨h0, es, h1, hw, hh, hk⟩ := h
  have hix : i.toNatClampNeg = (pl.toInt - 1).toNat := by rw [I_nat, hi]
  have hdx : pd2.toInt.toNat = pd.toInt.toNat + 1 := by omega
  match es, h1 with
  | [], h1 => exact absurd (show _ = (0 : Int) from h1) (by omega)
  | (false, t) :: r, h1 =>
    have q := h1.2.2.1
    have : t = 11 := by rw [← h1.2.1, ← hix, ← hx]; exact h11
    unfold isOp at q; omega
  | (true, t) :: r, h1 =>
    obtain ⟨q1, q2, q3, q4⟩ := h1
    have ht : t = 11 := by rw [← q2, ← hix, ← hx]; exact h11
    have hpn := pend_nn r
    have hpq : pend ((true, t) :: r) = pend1 (true, t) + pend r := rfl
    have hp1 : pend1 (true, t) = 2 := by rw [ht]; rfl
    rw [hpq, hp1] at hh
    obtain ⟨w1, w2⟩ := WFn_push (x := y) hw (by rw [hy, hh]; show (3 : Int) ≤ _; omega)
    rw [← I_nat, e] at w1 w2
    rw [I_nat] at w1 w2
    refine ⟨by omega, r, by rw [h2]; exact q4, by rw [hdx]; exact w1, ?_, by simp only [List.length_cons] at hk; omega⟩
    rw [hdx, w2, hh, hy]; show _ + (-2 : Int) = _; omega
theorem RD_opnd {po pi : Nat → Int32} {pd pl pd2 x : Int32} {K : Int} (h : RD po pi pd pl 0 K) (hx : 12 ≤ x.toInt) (hd2 : pd2.toInt = pd.toInt + 1) {po2 : Nat → Int32} (e : upd po pd.toNatClampNeg x = po2) : RD po2 pi pd2 pl 1 (K + 1) := by
  obtain ⟨h0, es, h1, hw, hh, hk⟩ := h
  have hdx : pd2.toInt.toNat = pd.toInt.toNat + 1 := by omega
  have hpn := pend_nn es
  obtain ⟨w1, w2⟩ := WFn_push (x := x) hw (by unfold nd; rw [if_pos hx]; omega)
  rw [← I_nat, e] at w1 w2
  rw [I_nat] at w1 w2
  refine ⟨by omega, es, h1, by rw [hdx]; exact w1, ?_, by omega⟩
  rw [hdx, w2, hh]; unfold dl; rw [if_pos hx]; omega
/-- an operator is laid on the pile: not, before its operand; a binary one behind its first -/
theorem RD_op {po pi : Nat → Int32} {pd pl pl2 x : Int32} {has K : Int} (h : RD po pi pd pl has K) (hx : isOp x.toInt) (hh : has = if x.toInt = 8 then 0 else 1) (h2 : pl2.toInt = pl.toInt + 1) {pi2 : Nat → Int32} (e : upd pi pl.toNatClampNeg x = pi2) : RD po pi2 pd pl2 0 (K + 1) := by
  obtain ⟨h0, es, h1, hw, hq, hk⟩ := h
  have hn := PL_n h1
  have z : pl2.toInt - 1 = pl.toInt := by omega
  have hz := op_nums hx
  refine ⟨h0, (false, x.toInt) :: es, ⟨by omega, ?_, hx, PL_congr (by rw [z]; exact h1) (fun j hj => by rw [← e, upd_at, if_neg (by rw [I_nat]; omega)])⟩, hw, ?_, by simp only [List.length_cons]; omega⟩
  · rw [← e, upd_at, if_pos (by rw [I_nat]; omega)]
  · rw [hq, hh]; show _ = (if x.toInt = 8 then 0 else 1) + pend es + 0
    split <;> omega
theorem RD_frame {po pi : Nat → Int32} {pd pl pl1 pl2 a x : Int32} {K : Int} (h : RD po pi pd pl 0 K) (hx : x.toInt = 0 ∨ x.toInt = 9) (h1' : pl1.toInt = pl.toInt + 1) (h2 : pl2.toInt = pl.toInt + 2) {pi1 pi2 : Nat → Int32} (e : upd pi pl.toNatClampNeg a = pi1) (e2 : upd pi1 pl1.toNatClampNeg x = pi2) : RD po pi2 pd pl2 0 (K + 1) := by
  obtain ⟨h0, es, h1, hw, hq, hk⟩ := h
  have hn := PL_n h1
  have z : pl2.toInt - 2 = pl.toInt := by omega
  refine ⟨h0, (true, x.toInt) :: es, ⟨by omega, ?_, by unfold isFr; omega, PL_congr (by rw [z]; exact h1) (fun j hj => by rw [← e2, upd_at, if_neg (by rw [I_nat]; omega), ← e, upd_at, if_neg (by rw [I_nat]; omega)])⟩, hw, ?_, by simp only [List.length_cons]; omega⟩
  · rw [← e2, upd_at, if_pos (by rw [I_nat]; omega)]
  · rw [hq]
    have hp1 : pend1 (true, x.toInt) = 0 := by
      rcases hx with hx | hx <;> rw [hx] <;> rfl
    show _ = pend1 (true, x.toInt) + pend es + 0
    rw [hp1]; omega
/-- the top of the pile, a frame that isn't an else -/
theorem RD_top {po pi : Nat → Int32} {pd pl x : Int32} {K : Int} (h : RD po pi pd pl 1 K) (hp : 0 < pl.toInt) (hx : x = pi (pl.toInt - 1).toNat) (hf : isFr x.toInt) : 2 ≤ pl.toInt := by
  obtain ⟨h0, es, h1, -⟩ := h
  match es, h1 with
  | [], h1 => exact absurd (show _ = (0 : Int) from h1) (by omega)
  | (false, t) :: r, h1 =>
    have q := h1.2.2.1; rw [← h1.2.1, ← hx] at q
    unfold isOp at q; unfold isFr at hf; omega
  | (true, t) :: r, h1 => exact h1.1
theorem RD_close {po pi : Nat → Int32} {pd pl pl2 x : Int32} {K : Int} (h : RD po pi pd pl 1 K) (hp : 0 < pl.toInt) (hx : x = pi (pl.toInt - 1).toNat) (h00 : x.toInt = 0) (h2 : pl2.toInt = pl.toInt - 2) : RD po pi pd pl2 1 K := by
  obtain ⟨h0, es, h1, hw, hh, hk⟩ := h
  match es, h1 with
  | [], h1 => exact absurd (show _ = (0 : Int) from h1) (by omega)
  | (false, t) :: r, h1 =>
    have q := h1.2.2.1; rw [← h1.2.1, ← hx] at q
    unfold isOp at q; omega
  | (true, t) :: r, h1 =>
    obtain ⟨q1, q2, q3, q4⟩ := h1
    have ht : t = 0 := by rw [← q2, ← hx]; exact h00
    have hp1 : pend ((true, t) :: r) = 0 + pend r := by rw [ht]; rfl
    exact ⟨h0, r, by rw [h2]; exact q4, hw, by rw [hh, hp1]; omega, by simp only [List.length_cons] at hk; omega⟩
/-- then in if's place, else in then's -/
theorem RD_turn {po pi : Nat → Int32} {pd pl x y : Int32} {K : Int} (h : RD po pi pd pl 1 K) (hp : 0 < pl.toInt) (hx : x = pi (pl.toInt - 1).toNat) (hxy : (x.toInt = 9 ∧ y.toInt = 10) ∨ (x.toInt = 10 ∧ y.toInt = 11)) {i2 : Int32} (hi2 : i2.toInt = pl.toInt - 1) {pi2 : Nat → Int32} (e : upd pi i2.toNatClampNeg y = pi2) : RD po pi2 pd pl 0 K := by
  obtain ⟨h0, es, h1, hw, hh, hk⟩ := h
  match es, h1 with
  | [], h1 => exact absurd (show _ = (0 : Int) from h1) (by omega)
  | (false, t) :: r, h1 =>
    have q := h1.2.2.1; rw [← h1.2.1, ← hx] at q
    unfold isOp at q; omega
  | (true, t) :: r, h1 =>
    obtain ⟨q1, q2, q3, q4⟩ := h1
    have ht : x.toInt = t := by rw [hx]; exact q2
    refine ⟨h0, (true, y.toInt) :: r, ⟨q1, ?_, by unfold isFr; omega, PL_congr q4 (fun j hj => by rw [← e, upd_at, if_neg (by rw [I_nat]; omega)])⟩, hw, ?_, by simp only [List.length_cons] at hk ⊢; omega⟩
    · rw [← e, upd_at, if_pos (by rw [I_nat]; omega)]
    · rw [hh]
      rcases hxy with ⟨a, b⟩ | ⟨a, b⟩
      · have z1 : pend ((true, t) :: r) = 0 + pend r := by rw [← ht, a]; rfl
        have z2 : pend ((true, y.toInt) :: r) = 1 + pend r := by rw [b]; rfl
        omega
      · have z1 : pend ((true, t) :: r) = 1 + pend r := by rw [← ht, a]; rfl
        have z2 : pend ((true, y.toInt) :: r) = 2 + pend r := by rw [b]; rfl
        omega
theorem FF_op {pi : Nat → Int32} {n m w : Int} {x : Int32} (h : FF pi n w) (hx : x = pi (n - 1).toNat) (hnf : ¬ isFr x.toInt) (hm : m = n - 1) : FF pi m w := by
  obtain ⟨es, h1, h2⟩ := h
  match es, h1, h2 with
  | [], h1, h2 => cases h2
  | (false, t) :: r, h1, h2 => exact ⟨r, by rw [hm]; exact h1.2.2.2, h2⟩
  | (true, t) :: r, h1, h2 => exact absurd h1.2.2.1 (by rw [← h1.2.1, ← hx]; exact hnf)
theorem FF_else {pi : Nat → Int32} {n m w : Int} {x : Int32} (h : FF pi n w) (hx : x = pi (n - 1).toNat) (h11 : x.toInt = 11) (hm : m = n - 2) : FF pi m w := by
  obtain ⟨es, h1, h2⟩ := h
  match es, h1, h2 with
  | [], h1, h2 => cases h2
  | (false, t) :: r, h1, h2 =>
    have q := h1.2.2.1; rw [← h1.2.1, ← hx] at q; unfold isOp at q; omega
  | (true, t) :: r, h1, h2 =>
    have ht : t = 11 := by rw [← h1.2.1, ← hx]; exact h11
    exact ⟨r, by rw [hm]; exact h1.2.2.2, by rw [ht] at h2; exact h2⟩
theorem FF_pos {pi : Nat → Int32} {n w : Int} (h : FF pi n w) : 0 < n := by
  obtain ⟨es, h1, h2⟩ := h
  match es, h1, h2 with
  | [], h1, h2 => cases h2
  | (false, t) :: r, h1, h2 => have := h1.1; omega
  | (true, t) :: r, h1, h2 => have := h1.1; omega
theorem FF_top {pi : Nat → Int32} {n w : Int} {x : Int32} (h : FF pi n w) (hx : x = pi (n - 1).toNat) (hf : isFr x.toInt) (h11 : ¬ x.toInt = 11) : x.toInt = w := by
  obtain ⟨es, h1, h2⟩ := h
  match es, h1, h2 with
  | [], h1, h2 => cases h2
  | (false, t) :: r, h1, h2 =>
    have q := h1.2.2.1; rw [← h1.2.1, ← hx] at q; unfold isOp at q; unfold isFr at hf; omega
  | (true, t) :: r, h1, h2 =>
    have ht : x.toInt = t := by rw [hx]; exact h1.2.1
    have h3 : (if t = 11 then ffr r else some t) = some w := h2
    rw [if_neg (by omega)] at h3
    rw [ht]; exact Option.some.inj h3
theorem PLx_op {pi : Nat → Int32} {n m : Int} {x : Int32} (h : PLx pi n) (hp : 0 < n) (hx : x = pi (n - 1).toNat) (hnf : ¬ isFr x.toInt) (hm : m = n - 1) : PLx pi m ∧ ∀ w, FF pi m w → FF pi n w := by
  obtain ⟨es, h1⟩ := h
  match es, h1 with
  | [], h1 => exact absurd (show _ = (0 : Int) from h1) (by omega)
  | (true, t) :: r, h1 => exact absurd h1.2.2.1 (by rw [← h1.2.1, ← hx]; exact hnf)
  | (false, t) :: r, h1 =>
    refine ⟨⟨r, by rw [hm]; exact h1.2.2.2⟩, fun w hw => ?_⟩
    obtain ⟨e2, k1, k2⟩ := hw
    exact ⟨(false, t) :: e2, ⟨h1.1, h1.2.1, h1.2.2.1, by rw [← hm]; exact k1⟩, k2⟩
theorem PLx_else {pi : Nat → Int32} {n m : Int} {x : Int32} (h : PLx pi n) (hp : 0 < n) (hx : x = pi (n - 1).toNat) (h11 : x.toInt = 11) (hm : m = n - 2) : PLx pi m ∧ ∀ w, FF pi m w → FF pi n w := by
  obtain ⟨es, h1⟩ := h
  match es, h1 with
  | [], h1 => exact absurd (show _ = (0 : Int) from h1) (by omega)
  | (false, t) :: r, h1 =>
    have q := h1.2.2.1; rw [← h1.2.1, ← hx] at q; unfold isOp at q; omega
  | (true, t) :: r, h1 =>
    have ht : t = 11 := by rw [← h1.2.1, ← hx]; exact h11
    refine ⟨⟨r, by rw [hm]; exact h1.2.2.2⟩, fun w hw => ?_⟩
    obtain ⟨e2, k1, k2⟩ := hw
    exact ⟨(true, t) :: e2, ⟨h1.1, h1.2.1, h1.2.2.1, by rw [← hm]; exact k1⟩, by rw [ht]; exact k2⟩
theorem PLx_fr {pi : Nat → Int32} {n : Int} {x : Int32} (h : PLx pi n) (hp : 0 < n) (hx : x = pi (n - 1).toNat) (hf : isFr x.toInt) (h11 : ¬ x.toInt = 11) : FF pi n x.toInt := by
  obtain ⟨es, h1⟩ := h
  match es, h1 with
  | [], h1 => exact absurd (show _ = (0 : Int) from h1) (by omega)
  | (false, t) :: r, h1 =>
    have q := h1.2.2.1; rw [← h1.2.1, ← hx] at q; unfold isOp at q; unfold isFr at hf; omega
  | (true, t) :: r, h1 =>
    have ht : x.toInt = t := by rw [hx]; exact h1.2.1
    refine ⟨(true, t) :: r, h1, ?_⟩
    show (if t = 11 then ffr r else some t) = _
    rw [if_neg (by omega), ht]
theorem WFn_get {f : Nat → Int32} {P : Nat} {i v : Int32} (h : WFn f P) (h0 : 0 ≤ i.toInt) (h1 : i.toInt < (P : Int)) (hv : v = f i.toNatClampNeg) : nd v.toInt ≤ hg f i.toNatClampNeg ∧ ∀ j : Int32, j.toInt = i.toInt + 1 → hg f j.toNatClampNeg = hg f i.toNatClampNeg + dl v.toInt := by
  refine ⟨by rw [hv]; exact h _ (by rw [I_nat]; omega), fun j hj => ?_⟩
  have : j.toNatClampNeg = i.toNatClampNeg + 1 := by rw [I_nat, I_nat]; omega
  rw [this, hv]; rfl
theorem hg_0 (f : Nat → Int32) {i : Int32} (h : i.toInt = 0) : hg f i.toNatClampNeg = 0 := by rw [I_nat, h]; rfl
theorem top_at {pi : Nat → Int32} {i v : Int32} {n : Int} (e : v = pi i.toNatClampNeg) (h : i.toInt = n - 1) : v = pi (n - 1).toNat := by rw [e, I_nat, h]
theorem nd_all (t : Int) : (12 ≤ t ∧ nd t = 0 ∧ dl t = 1) ∨ (t = 8 ∧ nd t = 1 ∧ dl t = 0) ∨ (t = 9 ∧ nd t = 3 ∧ dl t = -2) ∨ (t < 12 ∧ ¬ t = 8 ∧ ¬ t = 9 ∧ nd t = 2 ∧ dl t = -1) := by
  by_cases h : 12 ≤ t
  · exact Or.inl ⟨h, nd_12 h⟩
  · by_cases h8 : t = 8
    · exact Or.inr (Or.inl ⟨h8, nd_8 h8⟩)
    · by_cases h9 : t = 9
      · exact Or.inr (Or.inr (Or.inl ⟨h9, nd_9 h9⟩))
      · exact Or.inr (Or.inr (Or.inr ⟨by omega, h8, h9, nd_o (by omega) h8 h9⟩))
theorem PLx_2 {pi : Nat → Int32} {n : Int} {x : Int32} (h : PLx pi n) (hp : 0 < n) (hx : x = pi (n - 1).toNat) (h11 : x.toInt = 11) : 2 ≤ n := by
  obtain ⟨es, h1⟩ := h
  match es, h1 with
  | [], h1 => exact absurd (show _ = (0 : Int) from h1) (by omega)
  | (false, t) :: r, h1 =>
    have q := h1.2.2.1; rw [← h1.2.1, ← hx] at q; unfold isOp at q; omega
  | (true, t) :: r, h1 => exact h1.1
