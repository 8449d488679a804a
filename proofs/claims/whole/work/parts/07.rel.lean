/-! the pieces of the relation: each side against the same pure picture -/
def wr_b (b : Bool) : Int32 := if b = true then 1 else 0
theorem wr_b_n (b : Bool) : narrow .boolean (.int (wr_b b)) = .int (wr_b b) := by cases b <;> rfl
theorem wr_b_v (b : Bool) : vp_nar .boolean (wr_b b) = wr_b b := by cases b <;> rfl
theorem wr_b_0 (b : Bool) : wr_b b = 0 ↔ b = false := by cases b <;> decide
theorem wr_b_1 (b : Bool) : wr_b b = 1 ↔ b = true := by cases b <;> decide
theorem wr_b_e (a b : Bool) : wr_b a = wr_b b ↔ a = b := by cases a <;> cases b <;> decide
/-- a stack slot of the component -/
def wr_XL (p : ws_Pat) (s : Nat) (sz we fi la zr on fo : Nat → Int32) : Prop :=
  wt_ok p ∧ sz s = nI (wt_m p) ∧ we s = wr_b (wt_e p) ∧ fi s = nI (wt_F p) ∧ la s = nI (wt_L p) ∧ zr s = nI (wt_Z p) ∧ on s = nI (wt_O p) ∧ ∀ i, i < 6 → fo (s * 6 + i) = nI (wt_f p i)
def wr_XS (dp : Nat) (P : Nat → ws_Pat) (sz we fi la zr on fo : Nat → Int32) : Prop := ∀ s, s < dp → wr_XL (P s) s sz we fi la zr on fo
/-- the places of the component -/
def wr_XP (Q : Nat → ws_Pat) (ps st en : Nat → Int32) : Prop :=
  wt_ok3 Q ∧ (∀ k, k < 3 → ps k = nI (wt_m (Q k))) ∧ ∀ s, s < 195 → st (s * 2) = nI (wt_xd Q s false) ∧ st (s * 2 + 1) = nI (wt_xd Q s true) ∧ en s = wr_b (wt_xa Q s)
/-- a slot of the reference -/
def wr_YL (p : ws_Pat) (s : Nat) (sz em fi la le be : Nat → Int32) : Prop :=
  sz s = nI (wt_m p) ∧ em s = wr_b (wt_e p) ∧ fi s = nI (wt_F p) ∧ la s = nI (wt_L p) ∧ ∀ i, i < wt_m p → le (6 * s + i) = nI (wt_c p i) ∧ be (6 * s + i) = nI (wt_f p i)
def wr_YS (dp : Nat) (P : Nat → ws_Pat) (sz em fi la le be : Nat → Int32) : Prop := ∀ s, s < dp → wr_YL (P s) s sz em fi la le be
def wr_YT (Q : Nat → ws_Pat) (st : Nat → Int32) : Prop := ∀ k, k < 3 → ∀ n, n < 256 → st (256 * k + n) = nI (wt_d (Q k) (n / 2) (decide (n % 2 = 1)))
def wr_YP (Q : Nat → ws_Pat) (sz em fi la le be : Nat → Int32) : Prop := ∀ k, k < 3 → wr_YL (Q k) (5 + k) sz em fi la le be
/-- demands: pattern, kept, how many signs, the signs -/
abbrev wr_Dem : Type := Nat × Bool × Nat × (Nat → Nat)
def wr_XD (dc : Nat) (D : Nat → wr_Dem) (sg sc pt kp : Nat → Int32) : Prop := ∀ d, d < dc → ((D d).1 < 3 ∧ (D d).2.2.1 ≤ 4 ∧ (∀ i, i < (D d).2.2.1 → (D d).2.2.2 i < 5)) ∧ sc d = nI (D d).2.2.1 ∧ pt d = nI (D d).1 ∧ kp d = wr_b (D d).2.1 ∧ ∀ i, i < (D d).2.2.1 → sg (d * 4 + i) = nI ((D d).2.2.2 i)
def wr_YD (dc : Nat) (D : Nat → wr_Dem) (sg sc pt kp : Nat → Int32) : Prop := ∀ d, d < dc → sc d = nI (D d).2.2.1 ∧ pt d = nI (D d).1 ∧ kp d = wr_b (D d).2.1 ∧ ∀ i, i < (D d).2.2.1 → sg (4 * d + i) = nI ((D d).2.2.2 i)
def wr_T (tc : Nat) (g : Nat → Nat) (a : Nat → Int32) : Prop := ∀ i, i < tc → a i = nI (g i)
def wr_XB (bc : Nat) (B : Nat → Int32) (a b c d : Nat → Int32) : Prop := ∀ i, i < bc → a i = B (4 * i) ∧ b i = B (4 * i + 1) ∧ c i = B (4 * i + 2) ∧ d i = B (4 * i + 3)
def wr_YB (bc : Nat) (B : Nat → Int32) (bs : Nat → Int32) : Prop := ∀ j, j < 4 * bc → bs j = B j
def wr_bok (B : Nat → Int32) (n b : Nat) : Bool := wl_bnd (B (4 * b)) (B (4 * b + 1)) (B (4 * b + 2)) (B (4 * b + 3)) n
def wr_dok (Q : Nat → ws_Pat) (D : Nat → wr_Dem) (n d : Nat) : Bool := wl_dem (Q (D d).1) (D d).2.2.2 (D d).2.2.1 (D d).2.1 n
def wr_sol (Q : Nat → ws_Pat) (dc : Nat) (D : Nat → wr_Dem) (bc : Nat) (B : Nat → Int32) (n : Nat) : Bool := wl_all (wr_bok B n) bc && wl_all (wr_dok Q D n) dc
/-- what the reference has gathered -/
def wr_C (sol : Nat → Bool) (n : Nat) (fd ls : Int32) (fw sm mt : Nat → Int32) : Prop :=
  fd = nI (ws_cnt sol n) ∧ ls = nI (wl_lo 100 (wl_fs sol n)) ∧ (∀ j, wl_fs sol n = some j → ∀ i, i < 3 → fw i = nI (wl_tr j i)) ∧ (∀ t, t < 10 → sm t = nI (ws_cnt (fun j => sol j && decide (wl_sm j = t)) n)) ∧ ∀ i, i < 3 → mt i = nI (wl_M sol i n)
def wr_P (f : Nat → ws_Pat) (k : Nat) (p : ws_Pat) : Nat → ws_Pat := fun j => if j = k then p else f j
def wr_D (f : Nat → wr_Dem) (k : Nat) (p : wr_Dem) : Nat → wr_Dem := fun j => if j = k then p else f j
theorem wr_Ps (f : Nat → ws_Pat) (k : Nat) (p : ws_Pat) : wr_P f k p k = p := if_pos rfl
theorem wr_Pn (f : Nat → ws_Pat) (p : ws_Pat) {k j : Nat} (h : j ≠ k) : wr_P f k p j = f j := if_neg h
theorem wr_Ds (f : Nat → wr_Dem) (k : Nat) (p : wr_Dem) : wr_D f k p k = p := if_pos rfl
theorem wr_Dn (f : Nat → wr_Dem) (p : wr_Dem) {k j : Nat} (h : j ≠ k) : wr_D f k p j = f j := if_neg h
theorem wr_XL_c {p : ws_Pat} {s : Nat} {sz we fi la zr on fo sz' we' fi' la' zr' on' fo' : Nat → Int32} (h : wr_XL p s sz we fi la zr on fo) (h1 : sz' s = sz s) (h2 : we' s = we s) (h3 : fi' s = fi s) (h4 : la' s = la s) (h5 : zr' s = zr s) (h6 : on' s = on s) (h7 : ∀ i, i < 6 → fo' (s * 6 + i) = fo (s * 6 + i)) : wr_XL p s sz' we' fi' la' zr' on' fo' :=
  ⟨h.1, h1.trans h.2.1, h2.trans h.2.2.1, h3.trans h.2.2.2.1, h4.trans h.2.2.2.2.1, h5.trans h.2.2.2.2.2.1, h6.trans h.2.2.2.2.2.2.1, fun i hi => (h7 i hi).trans (h.2.2.2.2.2.2.2 i hi)⟩
theorem wr_YL_c {p : ws_Pat} {s : Nat} {sz em fi la le be sz' em' fi' la' le' be' : Nat → Int32} (h : wr_YL p s sz em fi la le be) (hm : wt_m p ≤ 6) (h1 : sz' s = sz s) (h2 : em' s = em s) (h3 : fi' s = fi s) (h4 : la' s = la s) (h5 : ∀ i, i < 6 → le' (6 * s + i) = le (6 * s + i)) (h6 : ∀ i, i < 6 → be' (6 * s + i) = be (6 * s + i)) : wr_YL p s sz' em' fi' la' le' be' :=
  ⟨h1.trans h.1, h2.trans h.2.1, h3.trans h.2.2.1, h4.trans h.2.2.2.1, fun i hi => ⟨(h5 i (by omega)).trans (h.2.2.2.2 i hi).1, (h6 i (by omega)).trans (h.2.2.2.2 i hi).2⟩⟩
/-! bits of numbers as the code asks for them -/
theorem wr_or (a b : Nat) : nI a ||| nI b = nI (a ||| b) := by
  apply Int32.toBitVec_inj.1
  show BitVec.ofNat 32 a ||| BitVec.ofNat 32 b = BitVec.ofNat 32 (a ||| b)
  apply BitVec.eq_of_getLsbD_eq
  intro i hi
  simp [hi]
theorem wr_shl {a k : Nat} (hk : k < 32) (h : a * 2 ^ k < 2 ^ 32) : nI a <<< (nI k &&& 31) = nI (a * 2 ^ k) := pk_shlN _ k (s_l k hk) h
theorem wr_shr {a k : Nat} (hk : k < 32) (h : a < 2 ^ 31) : nI a >>> (nI k &&& 31) = nI (a / 2 ^ k) := pk_shrN h _ k (s_l k hk)
theorem wr_a1 (a : Nat) : nI a &&& 1 = nI (a % 2) := by
  show nI a &&& nI 1 = _
  rw [nx_and, Nat.and_one_is_mod]
theorem wr_bit {a k : Nat} (hk : k < 32) (h : a < 2 ^ 31) : nI a >>> (nI k &&& 31) &&& 1 = nI (a / 2 ^ k % 2) := by
  rw [wr_shr hk h, wr_a1]
theorem wr_bit1 {a k : Nat} (hk : k < 32) (h : a < 2 ^ 31) : nI a >>> (nI k &&& 31) &&& 1 = 1 ↔ a.testBit k = true := by
  rw [wr_bit hk h, show (1 : Int32) = nI 1 from rfl, nI_eq (by omega) (by omega), Nat.testBit_eq_decide_div_mod_eq, decide_eq_true_eq]
theorem wr_one {k : Nat} (hk : k < 31) : (1 : Int32) <<< (nI k &&& 31) = nI (2 ^ k) := by
  have h2 : 2 ^ k < 2 ^ 32 := Nat.pow_lt_pow_right (by decide) (by omega)
  have := wr_shl (a := 1) (k := k) (by omega) (by rw [Nat.one_mul]; exact h2)
  rw [Nat.one_mul] at this
  exact this
theorem wr_clr : ∀ t, t < 64 → ∀ i, i < 6 → nI t &&& ((1 : Int32) <<< (nI i &&& 31) ^^^ (-1)) = nI (t &&& (63 - 2 ^ i)) := by decide +kernel
/-! the reference takes the positions out that don't read the letter, one by one -/
def wy_fit (X R : Nat) : Nat → Nat
  | 0 => X
  | i + 1 => if R.testBit i = true then wy_fit X R i else wy_fit X R i &&& (63 - 2 ^ i)
theorem wy_fit_s (X R i : Nat) : wy_fit X R (i + 1) = if R.testBit i = true then wy_fit X R i else wy_fit X R i &&& (63 - 2 ^ i) := rfl
theorem wy_63 : ∀ i, i < 6 → ∀ q, q < 6 → (63 - 2 ^ i).testBit q = decide (q ≠ i) := by decide +kernel
theorem wy_fit_lt {X : Nat} (R : Nat) (hX : X < 64) : ∀ i, wy_fit X R i < 64 := by
  intro i
  induction i with
  | zero => exact hX
  | succ i ih =>
    rw [wy_fit_s]
    split
    · exact ih
    · exact Nat.lt_of_le_of_lt Nat.and_le_left ih
theorem wy_fit_bit {X : Nat} (R : Nat) (hX : X < 64) : ∀ i, i ≤ 6 → ∀ q, q < 6 → (wy_fit X R i).testBit q = (X.testBit q && (decide (i ≤ q) || R.testBit q)) := by
  intro i
  induction i with
  | zero => intro _ q _; show X.testBit q = _; rw [decide_eq_true (Nat.zero_le q), Bool.true_or, Bool.and_true]
  | succ i ih =>
    intro hi q hq
    have h1 := ih (by omega) q hq
    rw [wy_fit_s]
    by_cases e : R.testBit i = true
    · rw [if_pos e, h1]
      by_cases z : q = i
      · subst z; rw [e, Bool.or_true, Bool.or_true]
      · have : decide (i ≤ q) = decide (i + 1 ≤ q) := by rw [decide_eq_decide]; omega
        rw [this]
    · rw [if_neg e, Nat.testBit_and, h1, wy_63 i (by omega) q hq]
      by_cases z : q = i
      · subst z
        rw [decide_eq_false (by omega : ¬ q ≠ q), Bool.and_false, decide_eq_false (by omega : ¬ q + 1 ≤ q), Bool.false_or, Bool.eq_false_iff.mpr e, Bool.and_false]
      · have : decide (i ≤ q) = decide (i + 1 ≤ q) := by rw [decide_eq_decide]; omega
        rw [decide_eq_true z, Bool.and_true, this]
theorem wy_fit_eq {X R m : Nat} (hm : m ≤ 6) (hX : X < 2 ^ m) : wy_fit X R m = X &&& R := by
  have h64 : X < 64 := Nat.lt_of_lt_of_le hX (Nat.pow_le_pow_right (n := 2) (by decide) hm)
  apply Nat.eq_of_testBit_eq
  intro q
  rw [Nat.testBit_and]
  by_cases hq : q < 6
  · rw [wy_fit_bit R h64 m hm q hq]
    by_cases z : m ≤ q
    · rw [Nat.testBit_lt_two_pow (Nat.lt_of_lt_of_le hX (Nat.pow_le_pow_right (by decide) z)), Bool.false_and, Bool.false_and]
    · rw [decide_eq_false z, Bool.false_or]
  · have e : 64 ≤ 2 ^ q := Nat.pow_le_pow_right (n := 2) (i := 6) (j := q) (by decide) (show 6 ≤ q by omega)
    rw [Nat.testBit_lt_two_pow (Nat.lt_of_lt_of_le (wy_fit_lt R h64 m) e), Nat.testBit_lt_two_pow (Nat.lt_of_lt_of_le h64 e), Bool.false_and]
