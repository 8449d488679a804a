/-! pure: the patterns that the calls make -/
def wt_sim (w : Nat) : ws_Pat := if w < 3 then (1, false, 1, 1, if w = 1 then 0 else 1, if w = 0 then 0 else 1, fun _ => 0) else (0, true, 0, 0, 0, 0, fun _ => 0)
def wt_join (th : Bool) (p q : ws_Pat) : ws_Pat :=
  (wt_m p + wt_m q, (if th = true then wt_e p && wt_e q else wt_e p || wt_e q),
   wt_F p ||| (if th = false ∨ wt_e p = true then wt_F q * 2 ^ wt_m p else 0),
   wt_L q * 2 ^ wt_m p ||| (if th = false ∨ wt_e q = true then wt_L p else 0),
   wt_Z p ||| wt_Z q * 2 ^ wt_m p, wt_O p ||| wt_O q * 2 ^ wt_m p,
   fun i => if i < wt_m p then (if th = true ∧ (wt_L p).testBit i = true then wt_f p i ||| wt_F q * 2 ^ wt_m p else wt_f p i) else wt_f q (i - wt_m p) * 2 ^ wt_m p)
def wt_many (p : ws_Pat) : ws_Pat :=
  (wt_m p, true, wt_F p, wt_L p, wt_Z p, wt_O p, fun i => if (wt_L p).testBit i = true then wt_f p i ||| wt_F p else wt_f p i)
def wt_c (p : ws_Pat) (i : Nat) : Nat := if (wt_Z p).testBit i = true then (if (wt_O p).testBit i = true then 2 else 0) else 1
theorem wt_sim_ok {w : Nat} (h : w ≤ 3) : wt_ok (wt_sim w) := by
  have e : w = 0 ∨ w = 1 ∨ w = 2 ∨ w = 3 := by omega
  rcases e with rfl | rfl | rfl | rfl
  · refine ⟨by decide, by decide, by decide, by decide, by decide, ?_, fun _ => Nat.two_pow_pos _, fun _ _ => rfl⟩
    intro i hi
    have e : i = 0 := by change i < 1 at hi; omega
    subst e; decide
  · refine ⟨by decide, by decide, by decide, by decide, by decide, ?_, fun _ => Nat.two_pow_pos _, fun _ _ => rfl⟩
    intro i hi
    have e : i = 0 := by change i < 1 at hi; omega
    subst e; decide
  · refine ⟨by decide, by decide, by decide, by decide, by decide, ?_, fun _ => Nat.two_pow_pos _, fun _ _ => rfl⟩
    intro i hi
    have e : i = 0 := by change i < 1 at hi; omega
    subst e; decide
  · refine ⟨by decide, by decide, by decide, by decide, by decide, ?_, fun _ => Nat.two_pow_pos _, fun _ _ => rfl⟩
    intro i hi
    change i < 0 at hi; omega
theorem wt_sh {x a b : Nat} (h : x < 2 ^ b) : x * 2 ^ a < 2 ^ (a + b) := by
  rw [Nat.pow_add, Nat.mul_comm (2 ^ a)]
  exact Nat.mul_lt_mul_of_pos_right h (Nat.two_pow_pos a)
theorem wt_wid {x a b : Nat} (h : x < 2 ^ a) : x < 2 ^ (a + b) := Nat.lt_of_lt_of_le h (Nat.pow_le_pow_right (by decide) (by omega))
theorem wt_join_bit (x y a i : Nat) (hx : x < 2 ^ a) : (x ||| y * 2 ^ a).testBit i = if i < a then x.testBit i else y.testBit (i - a) := by
  rw [Nat.testBit_or, Nat.testBit_mul_two_pow]
  by_cases z : i < a
  · rw [if_pos z, decide_eq_false (by omega), Bool.false_and, Bool.or_false]
  · rw [if_neg z, decide_eq_true (by omega), Bool.true_and, Nat.testBit_lt_two_pow (Nat.lt_of_lt_of_le hx (Nat.pow_le_pow_right (by decide) (by omega))), Bool.false_or]
theorem wt_join_ok (th : Bool) {p q : ws_Pat} (hp : wt_ok p) (hq : wt_ok q) (h : wt_m p + wt_m q ≤ 6) : wt_ok (wt_join th p q) := by
  obtain ⟨p1, p2, p3, p4, p5, p6, p7, p8⟩ := hp
  obtain ⟨q1, q2, q3, q4, q5, q6, q7, q8⟩ := hq
  refine ⟨h, ?_, ?_, ?_, ?_, ?_, ?_, ?_⟩
  · show _ ||| _ < 2 ^ (wt_m p + wt_m q)
    apply Nat.or_lt_two_pow (wt_wid p2)
    split
    · exact wt_sh q2
    · exact Nat.two_pow_pos _
  · show _ ||| _ < 2 ^ (wt_m p + wt_m q)
    apply Nat.or_lt_two_pow (wt_sh q3)
    split
    · exact wt_wid p3
    · exact Nat.two_pow_pos _
  · exact Nat.or_lt_two_pow (wt_wid p4) (wt_sh q4)
  · exact Nat.or_lt_two_pow (wt_wid p5) (wt_sh q5)
  · intro i hi
    change i < wt_m p + wt_m q at hi
    show (wt_Z p ||| wt_Z q * 2 ^ wt_m p).testBit i = true ∨ (wt_O p ||| wt_O q * 2 ^ wt_m p).testBit i = true
    rw [wt_join_bit _ _ _ _ p4, wt_join_bit _ _ _ _ p5]
    by_cases z : i < wt_m p
    · rw [if_pos z, if_pos z]; exact p6 i z
    · rw [if_neg z, if_neg z]; exact q6 _ (by omega)
  · intro i
    show (if i < wt_m p then _ else _) < 2 ^ (wt_m p + wt_m q)
    split
    · split
      · exact Nat.or_lt_two_pow (wt_wid (p7 i)) (wt_sh q2)
      · exact wt_wid (p7 i)
    · exact wt_sh (q7 _)
  · intro i hi
    change wt_m p + wt_m q ≤ i at hi
    show (if i < wt_m p then _ else _) = 0
    rw [if_neg (by omega), q8 _ (by omega), Nat.zero_mul]
theorem wt_join_c (th : Bool) {p : ws_Pat} (q : ws_Pat) (hp : wt_ok p) (i : Nat) : wt_c (wt_join th p q) i = if i < wt_m p then wt_c p i else wt_c q (i - wt_m p) := by
  show (if (wt_Z p ||| wt_Z q * 2 ^ wt_m p).testBit i = true then (if (wt_O p ||| wt_O q * 2 ^ wt_m p).testBit i = true then 2 else 0) else 1) = _
  rw [wt_join_bit _ _ _ _ hp.2.2.2.1, wt_join_bit _ _ _ _ hp.2.2.2.2.1]
  unfold wt_c
  by_cases z : i < wt_m p
  · rw [if_pos z, if_pos z, if_pos z]
  · rw [if_neg z, if_neg z, if_neg z]
theorem wt_many_ok {p : ws_Pat} (hp : wt_ok p) : wt_ok (wt_many p) := by
  obtain ⟨p1, p2, p3, p4, p5, p6, p7, p8⟩ := hp
  refine ⟨p1, p2, p3, p4, p5, p6, ?_, ?_⟩
  · intro i
    show (if (wt_L p).testBit i = true then _ else _) < 2 ^ wt_m p
    split
    · exact Nat.or_lt_two_pow (p7 i) p2
    · exact p7 i
  · intro i hi
    change wt_m p ≤ i at hi
    show (if (wt_L p).testBit i = true then _ else _) = 0
    rw [Nat.testBit_lt_two_pow (Nat.lt_of_lt_of_le p3 (Nat.pow_le_pow_right (by decide) hi)), if_neg Bool.false_ne_true]
    exact p8 i hi
/-! the row of states of the component: 65 a place -/
def wt_xd (Q : Nat → ws_Pat) (s : Nat) (b : Bool) : Nat := 65 * (s / 65) + wt_d (Q (s / 65)) (s % 65) b
def wt_xa (Q : Nat → ws_Pat) (s : Nat) : Bool := wt_a (Q (s / 65)) (s % 65)
def wt_ok3 (Q : Nat → ws_Pat) : Prop := ∀ k, k < 3 → wt_ok (Q k)
theorem wt_xd_lt {Q : Nat → ws_Pat} (h : wt_ok3 Q) (s : Nat) (b : Bool) (hs : s < 195) : wt_xd Q s b < 195 := by
  have := wt_d_lt (h (s / 65) (by omega)) (s % 65) b
  unfold wt_xd
  omega
theorem wt_xd_k (Q : Nat → ws_Pat) {k t : Nat} (ht : t < 65) (b : Bool) : wt_xd Q (65 * k + t) b = 65 * k + wt_d (Q k) t b := by
  unfold wt_xd
  rw [show (65 * k + t) / 65 = k from by omega, show (65 * k + t) % 65 = t from by omega]
theorem wt_xa_k (Q : Nat → ws_Pat) {k t : Nat} (ht : t < 65) : wt_xa Q (65 * k + t) = wt_a (Q k) t := by
  unfold wt_xa
  rw [show (65 * k + t) / 65 = k from by omega, show (65 * k + t) % 65 = t from by omega]
theorem wt_xrun {Q : Nat → ws_Pat} (h : wt_ok3 Q) {k : Nat} (hk : k < 3) : ∀ (w : List Bool) (t : Nat), t < 65 → ws_run (wt_xd Q) w (65 * k + t) = 65 * k + ws_run (wt_d (Q k)) w t := by
  intro w
  induction w with
  | nil => exact fun _ _ => rfl
  | cons b w ih =>
    intro t ht
    show ws_run (wt_xd Q) w (wt_xd Q (65 * k + t) b) = _
    rw [wt_xd_k Q ht, ih _ (by have := wt_d_lt (h k hk) t b; omega)]
    rfl
theorem wt_xA {Q : Nat → ws_Pat} (h : wt_ok3 Q) {k : Nat} (hk : k < 3) : ∀ (n t : Nat), t < 65 → ws_A (wt_xd Q) (wt_xa Q) n (65 * k + t) = ws_A (wt_d (Q k)) (wt_a (Q k)) n t := by
  intro n
  induction n with
  | zero => intro t ht; show (if wt_xa Q (65 * k + t) = true then 1 else 0) = _; rw [wt_xa_k Q ht]; rfl
  | succ n ih =>
    intro t ht
    have h1 := wt_d_lt (h k hk) t
    show ws_A (wt_xd Q) (wt_xa Q) n (wt_xd Q (65 * k + t) false) + ws_A (wt_xd Q) (wt_xa Q) n (wt_xd Q (65 * k + t) true) = _
    rw [wt_xd_k Q ht, wt_xd_k Q ht, ih _ (by have := h1 false; omega), ih _ (by have := h1 true; omega)]
    rfl
theorem wt_run_lt {p : ws_Pat} (h : wt_ok p) : ∀ (w : List Bool) (t : Nat), t < 65 → ws_run (wt_d p) w t < 65 := ws_run_lt (fun s b _ => by have := wt_d_lt h s b; omega)
theorem wt_xeqv {Q : Nat → ws_Pat} (h : wt_ok3 Q) {k j : Nat} (hk : k < 3) (hj : j < 3) {s t : Nat} (hs : s < 65) (ht : t < 65) : ws_eqv (wt_xd Q) (wt_xa Q) (65 * k + s) (65 * j + t) ↔ ∀ w, wt_a (Q k) (ws_run (wt_d (Q k)) w s) = wt_a (Q j) (ws_run (wt_d (Q j)) w t) := by
  constructor
  · intro e w
    have := e w
    rw [wt_xrun h hk w s hs, wt_xrun h hj w t ht, wt_xa_k Q (wt_run_lt (h k hk) w s hs), wt_xa_k Q (wt_run_lt (h j hj) w t ht)] at this
    exact this
  · intro e w
    rw [wt_xrun h hk w s hs, wt_xrun h hj w t ht, wt_xa_k Q (wt_run_lt (h k hk) w s hs), wt_xa_k Q (wt_run_lt (h j hj) w t ht)]
    exact e w
theorem wt_xrch {Q : Nat → ws_Pat} (h : wt_ok3 Q) {k : Nat} (hk : k < 3) {t : Nat} : ws_rch (wt_xd Q) (65 * k + 64) (65 * k + t) ↔ ws_rch (wt_d (Q k)) 64 t := by
  constructor
  · rintro ⟨w, e⟩
    rw [wt_xrun h hk w 64 (by omega)] at e
    exact ⟨w, by omega⟩
  · rintro ⟨w, e⟩
    exact ⟨w, by rw [wt_xrun h hk w 64 (by omega), e]⟩
