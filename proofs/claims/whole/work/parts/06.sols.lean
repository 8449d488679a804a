/-! pure: words as numbers, terms, solutions -/
def wl_ln (W : Nat) : Nat := if W < 2 then 0 else if W < 4 then 1 else if W < 8 then 2 else 3
def wl_tr (n i : Nat) : Nat := if i = 0 then n / 225 else if i = 1 then n / 15 % 15 else n % 15
theorem wl_tr_lt {n : Nat} (h : n < 3375) (i : Nat) : wl_tr n i < 15 := by
  unfold wl_tr
  split
  · omega
  · split <;> omega
theorem wl_ln_in : ∀ W, W < 16 → 0 < W → 2 ^ wl_ln W ≤ W ∧ W < 2 ^ (wl_ln W + 1) ∧ wl_ln W ≤ 3 := by decide
theorem wl_ln_3 (W : Nat) : wl_ln W ≤ 3 := by
  unfold wl_ln
  split
  · omega
  · split
    · omega
    · split <;> omega
/-- the last n digits of x -/
def wl_l : Nat → Nat → List Bool
  | 0, _ => []
  | n + 1, x => wl_l n (x / 2) ++ [decide (x % 2 = 1)]
theorem wl_l_s (n x : Nat) : wl_l (n + 1) x = wl_l n (x / 2) ++ [decide (x % 2 = 1)] := rfl
theorem wl_l_app (n x : Nat) : ∀ l r, r < 2 ^ l → wl_l (n + l) (x * 2 ^ l + r) = wl_l n x ++ wl_l l r := by
  intro l
  induction l with
  | zero =>
    intro r hr
    have : r = 0 := by simp at hr; omega
    subst this
    show wl_l n (x * 2 ^ 0 + 0) = wl_l n x ++ []
    rw [Nat.pow_zero, Nat.mul_one, Nat.add_zero, List.append_nil]
  | succ l ih =>
    intro r hr
    rw [← Nat.add_assoc, wl_l_s, wl_l_s, ← List.append_assoc]
    rw [Nat.pow_succ] at hr ⊢
    have e : x * (2 ^ l * 2) = 2 * (x * 2 ^ l) := by rw [← Nat.mul_assoc, Nat.mul_comm]
    rw [e, show (2 * (x * 2 ^ l) + r) / 2 = x * 2 ^ l + r / 2 from by omega, show (2 * (x * 2 ^ l) + r) % 2 = r % 2 from by omega, ih (r / 2) (by omega)]
def wl_sw (n s : Nat) : Nat := if s < 3 then wl_tr n s + 1 else s - 1
theorem wl_sw_in {n s : Nat} (h : n < 3375) (hs : s < 5) : 0 < wl_sw n s ∧ wl_sw n s < 16 := by
  have := wl_tr_lt h s
  unfold wl_sw
  split <;> omega
def wl_sl (n s : Nat) : List Bool := wl_l (wl_ln (wl_sw n s)) (wl_sw n s)
def wl_tl (g : Nat → Nat) (n : Nat) : Nat → List Bool
  | 0 => []
  | i + 1 => wl_tl g n i ++ wl_sl n (g i)
theorem wl_tl_s (g : Nat → Nat) (n i : Nat) : wl_tl g n (i + 1) = wl_tl g n i ++ wl_sl n (g i) := rfl
/-- a term as a number t with len letters: what one sign more makes of it -/
theorem wl_grow {n s len t : Nat} (hn : n < 3375) (hs : s < 5) (h1 : 2 ^ len ≤ t) (h2 : t < 2 ^ (len + 1)) :
    2 ^ (len + wl_ln (wl_sw n s)) ≤ t * 2 ^ wl_ln (wl_sw n s) + wl_sw n s - 2 ^ wl_ln (wl_sw n s) ∧ t * 2 ^ wl_ln (wl_sw n s) + wl_sw n s - 2 ^ wl_ln (wl_sw n s) < 2 ^ (len + wl_ln (wl_sw n s) + 1) ∧
    wl_l (len + wl_ln (wl_sw n s)) (t * 2 ^ wl_ln (wl_sw n s) + wl_sw n s - 2 ^ wl_ln (wl_sw n s)) = wl_l len t ++ wl_sl n s := by
  have hw := wl_sw_in hn hs
  obtain ⟨a, b, c⟩ := wl_ln_in _ hw.2 hw.1
  unfold wl_sl
  generalize wl_sw n s = W at *
  generalize wl_ln W = l at *
  obtain ⟨r, rfl⟩ : ∃ r, W = 1 * 2 ^ l + r := ⟨W - 2 ^ l, by omega⟩
  have hr : r < 2 ^ l := by rw [Nat.pow_succ] at b; omega
  have e : t * 2 ^ l + (1 * 2 ^ l + r) - 2 ^ l = t * 2 ^ l + r := by omega
  have e2 : wl_l l (1 * 2 ^ l + r) = wl_l l r := by
    have := wl_l_app 0 1 l r hr
    rw [Nat.zero_add] at this
    exact this
  rw [e, e2]
  refine ⟨?_, ?_, wl_l_app len t l r hr⟩
  · rw [Nat.pow_add]
    exact Nat.le_trans (Nat.mul_le_mul_right _ h1) (Nat.le_add_right _ _)
  · rw [show len + l + 1 = len + 1 + l from by omega, Nat.pow_add]
    have h3 : (t + 1) * 2 ^ l ≤ 2 ^ (len + 1) * 2 ^ l := Nat.mul_le_mul_right _ h2
    rw [Nat.add_mul, Nat.one_mul] at h3
    omega
/-! all of the first n -/
def wl_all (p : Nat → Bool) : Nat → Bool
  | 0 => true
  | n + 1 => wl_all p n && p n
theorem wl_all_s (p : Nat → Bool) (n : Nat) : wl_all p (n + 1) = (wl_all p n && p n) := rfl
theorem wl_all_f {p : Nat → Bool} {i : Nat} (h : p i = false) : ∀ n, i < n → wl_all p n = false := by
  intro n
  induction n with
  | zero => intro z; omega
  | succ n ih =>
    intro z
    rw [wl_all_s]
    by_cases e : i = n
    · subst e; rw [h, Bool.and_false]
    · rw [ih (by omega), Bool.false_and]
theorem wl_all_congr {p q : Nat → Bool} : ∀ n, (∀ i, i < n → p i = q i) → wl_all p n = wl_all q n := by
  intro n
  induction n with
  | zero => exact fun _ => rfl
  | succ n ih => intro h; rw [wl_all_s, wl_all_s, ih (fun i hi => h i (by omega)), h n (by omega)]
/-! what is counted over the trials -/
def wl_sm (n : Nat) : Nat := wl_ln (wl_tr n 0 + 1) + wl_ln (wl_tr n 1 + 1) + wl_ln (wl_tr n 2 + 1)
theorem wl_sm_9 (n : Nat) : wl_sm n ≤ 9 := by
  have h0 := wl_ln_3 (wl_tr n 0 + 1)
  have h1 := wl_ln_3 (wl_tr n 1 + 1)
  have h2 := wl_ln_3 (wl_tr n 2 + 1)
  unfold wl_sm
  omega
def wl_M (sol : Nat → Bool) (i : Nat) : Nat → Nat
  | 0 => 0
  | n + 1 => if sol n = true then wl_M sol i n ||| 2 ^ wl_tr n i else wl_M sol i n
theorem wl_M_s (sol : Nat → Bool) (i n : Nat) : wl_M sol i (n + 1) = if sol n = true then wl_M sol i n ||| 2 ^ wl_tr n i else wl_M sol i n := rfl
theorem wl_M_lt (sol : Nat → Bool) (i : Nat) : ∀ n, n ≤ 3375 → wl_M sol i n < 2 ^ 15 := by
  intro n
  induction n with
  | zero => intro _; exact Nat.two_pow_pos 15
  | succ n ih =>
    intro h
    rw [wl_M_s]
    split
    · exact Nat.or_lt_two_pow (ih (by omega)) (Nat.pow_lt_pow_right (by decide) (wl_tr_lt (by omega) i))
    · exact ih (by omega)
def wl_S (sol : Nat → Bool) (i : Nat) : Nat → Nat
  | 0 => 0
  | n + 1 => if sol n = true then wl_S sol i n ||| 2 ^ wl_ln (wl_tr n i + 1) else wl_S sol i n
theorem wl_S_s (sol : Nat → Bool) (i n : Nat) : wl_S sol i (n + 1) = if sol n = true then wl_S sol i n ||| 2 ^ wl_ln (wl_tr n i + 1) else wl_S sol i n := rfl
theorem wl_S_lt (sol : Nat → Bool) (i : Nat) : ∀ n, wl_S sol i n < 2 ^ 4 := by
  intro n
  induction n with
  | zero => exact Nat.two_pow_pos 4
  | succ n ih =>
    rw [wl_S_s]
    split
    · exact Nat.or_lt_two_pow ih (Nat.pow_lt_pow_right (by decide) (by have := wl_ln_3 (wl_tr n i + 1); omega))
    · exact ih
theorem wl_S_M (sol : Nat → Bool) (i : Nat) : ∀ n, n ≤ 3375 → wl_S sol i n = ws_or 0 (fun w => 2 ^ wl_ln (w + 1)) (wl_M sol i n) 15 := by
  intro n
  induction n with
  | zero =>
    intro _
    exact (ws_or_no 0 _ 0 15 (fun i _ => Nat.zero_testBit i)).symm
  | succ n ih =>
    intro h
    rw [wl_S_s, wl_M_s]
    by_cases e : sol n = true
    · rw [if_pos e, if_pos e, ih (by omega)]
      apply Nat.eq_of_testBit_eq
      intro q
      have hl := wl_tr_lt (n := n) (by omega) i
      rw [Bool.eq_iff_iff, Nat.testBit_or, Bool.or_eq_true, ws_or_bit, ws_or_bit]
      constructor
      · rintro ((z | ⟨w, h1, h2, h3⟩) | z)
        · exact Or.inl z
        · exact Or.inr ⟨w, h1, by rw [Nat.testBit_or, h2, Bool.true_or], h3⟩
        · exact Or.inr ⟨wl_tr n i, hl, by rw [Nat.testBit_or, Nat.testBit_two_pow_self, Bool.or_true], z⟩
      · rintro (z | ⟨w, h1, h2, h3⟩)
        · exact Or.inl (Or.inl z)
        · rw [Nat.testBit_or, Bool.or_eq_true] at h2
          rcases h2 with h2 | h2
          · exact Or.inl (Or.inr ⟨w, h1, h2, h3⟩)
          · rw [Nat.testBit_two_pow, decide_eq_true_eq] at h2
            subst h2
            exact Or.inr h3
    · rw [if_neg e, if_neg e, ih (by omega)]
def wl_lo (z : Nat) (o : Option Nat) : Nat := match o with
  | none => z
  | some j => wl_sm j
theorem wl_lo_lt (n : Nat) (o : Option Nat) : wl_sm n < wl_lo 10 o ↔ wl_sm n < wl_lo 100 o := by
  have := wl_sm_9 n
  cases o with
  | none => show wl_sm n < 10 ↔ wl_sm n < 100; omega
  | some j => exact Iff.rfl
def wl_fs (sol : Nat → Bool) : Nat → Option Nat
  | 0 => none
  | n + 1 => if sol n = true ∧ wl_sm n < wl_lo 100 (wl_fs sol n) then some n else wl_fs sol n
theorem wl_fs_s (sol : Nat → Bool) (n : Nat) : wl_fs sol (n + 1) = if sol n = true ∧ wl_sm n < wl_lo 100 (wl_fs sol n) then some n else wl_fs sol n := rfl
theorem wl_fs_lt (sol : Nat → Bool) : ∀ n j, wl_fs sol n = some j → j < n := by
  intro n
  induction n with
  | zero => intro j h; exact absurd h (by intro z; cases z)
  | succ n ih =>
    intro j h
    rw [wl_fs_s] at h
    split at h
    · cases h; omega
    · have := ih j h; omega
theorem wl_fs_none (sol : Nat → Bool) : ∀ n, wl_fs sol n = none ↔ ws_cnt sol n = 0 := by
  intro n
  induction n with
  | zero => exact ⟨fun _ => rfl, fun _ => rfl⟩
  | succ n ih =>
    have h9 := wl_sm_9 n
    rw [wl_fs_s, ws_cnt_s]
    by_cases e : sol n = true
    · rw [if_pos e]
      constructor
      · intro h
        exfalso
        split at h
        · cases h
        · rename_i z
          apply z
          refine ⟨e, ?_⟩
          rw [h]
          show wl_sm n < 100
          omega
      · intro h; omega
    · rw [if_neg e, if_neg (fun z => e z.1)]
      exact ih
/-! one bound, one demand, a solution -/
def wl_bnd (a b c d : Int32) (n : Nat) : Bool := decide (a * nI (wl_ln (wl_tr n 0 + 1)) + b * nI (wl_ln (wl_tr n 1 + 1)) + c * nI (wl_ln (wl_tr n 2 + 1)) ≤ d)
def wl_dem (p : ws_Pat) (g : Nat → Nat) (c : Nat) (kept : Bool) (n : Nat) : Bool := wt_a p (ws_run (wt_d p) (wl_tl g n c) 64) == kept
/-! digits of a term from above, letters of a word from the first -/
theorem wl_dig {len t D : Nat} (h1 : 2 ^ len ≤ t) (h2 : t < 2 ^ (len + 1)) : t / 2 ^ (D + 1) = 0 ↔ len ≤ D := by
  rw [Nat.div_eq_zero_iff_lt (Nat.two_pow_pos _)]
  constructor
  · intro h
    rcases Nat.lt_or_ge D len with z | z
    · have : 2 ^ (D + 1) ≤ 2 ^ len := Nat.pow_le_pow_right (by decide) z
      omega
    · exact z
  · intro h
    have : 2 ^ (len + 1) ≤ 2 ^ (D + 1) := Nat.pow_le_pow_right (by decide) (by omega)
    omega
theorem wl_half (t D : Nat) : t / 2 ^ D / 2 = t / 2 ^ (D + 1) := by
  rw [Nat.div_div_eq_div_mul, Nat.pow_succ]
theorem wl_dig_s {len D : Nat} (t : Nat) (h : D < len) : wl_l (len - D) (t / 2 ^ D) = wl_l (len - (D + 1)) (t / 2 ^ (D + 1)) ++ [decide (t / 2 ^ D % 2 = 1)] := by
  rw [show len - D = (len - (D + 1)) + 1 from by omega, wl_l_s, wl_half]
theorem wl_dig_n {len D : Nat} (x y : Nat) (h : len ≤ D) : wl_l (len - D) x = wl_l (len - (D + 1)) y := by
  rw [show len - D = 0 from by omega, show len - (D + 1) = 0 from by omega]
  rfl
theorem wl_let {l n : Nat} (W : Nat) (h : n < l) : wl_l (n + 1) (W / 2 ^ (l - (n + 1))) = wl_l n (W / 2 ^ (l - n)) ++ [decide (W / 2 ^ (l - 1 - n) % 2 = 1)] := by
  rw [wl_l_s, wl_half, show l - (n + 1) + 1 = l - n from by omega, show l - (n + 1) = l - 1 - n from by omega]
