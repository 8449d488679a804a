/-! pure: a pattern by its positions: size, empty, first, last, readers of 0, readers of 1, followers -/
abbrev ws_Pat : Type := Nat × Bool × Nat × Nat × Nat × Nat × (Nat → Nat)
def wt_m (p : ws_Pat) : Nat := p.1
def wt_e (p : ws_Pat) : Bool := p.2.1
def wt_F (p : ws_Pat) : Nat := p.2.2.1
def wt_L (p : ws_Pat) : Nat := p.2.2.2.1
def wt_Z (p : ws_Pat) : Nat := p.2.2.2.2.1
def wt_O (p : ws_Pat) : Nat := p.2.2.2.2.2.1
def wt_f (p : ws_Pat) : Nat → Nat := p.2.2.2.2.2.2
def wt_ok (p : ws_Pat) : Prop := wt_m p ≤ 6 ∧ wt_F p < 2 ^ wt_m p ∧ wt_L p < 2 ^ wt_m p ∧ wt_Z p < 2 ^ wt_m p ∧ wt_O p < 2 ^ wt_m p ∧ (∀ i, i < wt_m p → (wt_Z p).testBit i = true ∨ (wt_O p).testBit i = true) ∧ (∀ i, wt_f p i < 2 ^ wt_m p) ∧ (∀ i, wt_m p ≤ i → wt_f p i = 0)
def ws_or (a : Nat) (f : Nat → Nat) (s : Nat) : Nat → Nat
  | 0 => a
  | n + 1 => if s.testBit n = true then ws_or a f s n ||| f n else ws_or a f s n
theorem ws_or_s (a : Nat) (f : Nat → Nat) (s n : Nat) : ws_or a f s (n + 1) = if s.testBit n = true then ws_or a f s n ||| f n else ws_or a f s n := rfl
theorem ws_or_bit (a : Nat) (f : Nat → Nat) (s q : Nat) : ∀ n, (ws_or a f s n).testBit q = true ↔ (a.testBit q = true ∨ ∃ i, i < n ∧ s.testBit i = true ∧ (f i).testBit q = true) := by
  intro n
  induction n with
  | zero =>
    constructor
    · exact fun h => Or.inl h
    · rintro (h | ⟨i, hi, _⟩)
      · exact h
      · omega
  | succ n ih =>
    rw [ws_or_s]
    by_cases e : s.testBit n = true
    · rw [if_pos e, Nat.testBit_or, Bool.or_eq_true, ih]
      constructor
      · rintro ((h | ⟨i, hi, h⟩) | h)
        · exact Or.inl h
        · exact Or.inr ⟨i, by omega, h⟩
        · exact Or.inr ⟨n, by omega, e, h⟩
      · rintro (h | ⟨i, hi, h1, h2⟩)
        · exact Or.inl (Or.inl h)
        · by_cases z : i = n
          · subst z; exact Or.inr h2
          · exact Or.inl (Or.inr ⟨i, by omega, h1, h2⟩)
    · rw [if_neg e, ih]
      constructor
      · rintro (h | ⟨i, hi, h⟩)
        · exact Or.inl h
        · exact Or.inr ⟨i, by omega, h⟩
      · rintro (h | ⟨i, hi, h1, h2⟩)
        · exact Or.inl h
        · by_cases z : i = n
          · subst z; exact absurd h1 e
          · exact Or.inr ⟨i, by omega, h1, h2⟩
theorem ws_or_more (a : Nat) (f : Nat → Nat) (s m : Nat) (h : ∀ i, m ≤ i → f i = 0) : ∀ n, ws_or a f s (m + n) = ws_or a f s m := by
  intro n
  induction n with
  | zero => rfl
  | succ n ih =>
    rw [← Nat.add_assoc, ws_or_s, ih, h _ (by omega), Nat.or_zero]
    split <;> rfl
theorem ws_or_lt (a : Nat) (f : Nat → Nat) (s m : Nat) (ha : a < 2 ^ m) (h : ∀ i, f i < 2 ^ m) : ∀ n, ws_or a f s n < 2 ^ m := by
  intro n
  induction n with
  | zero => exact ha
  | succ n ih =>
    rw [ws_or_s]
    split
    · exact Nat.or_lt_two_pow ih (h n)
    · exact ih
theorem ws_or_no (a : Nat) (f : Nat → Nat) (s : Nat) : ∀ n, (∀ i, i < n → s.testBit i = false) → ws_or a f s n = a := by
  intro n
  induction n with
  | zero => exact fun _ => rfl
  | succ n ih =>
    intro h
    rw [ws_or_s, if_neg (by rw [h n (by omega)]; exact Bool.false_ne_true)]
    exact ih (fun i hi => h i (by omega))
def wt_r (p : ws_Pat) (b : Bool) : Nat := if b = true then wt_O p else wt_Z p
def wt_i (p : ws_Pat) (s : Nat) : Nat := if s.testBit 6 = true then wt_F p else 0
def wt_d (p : ws_Pat) (s : Nat) (b : Bool) : Nat := ws_or (wt_i p s) (wt_f p) s 6 &&& wt_r p b
def wt_a (p : ws_Pat) (s : Nat) : Bool := decide (s &&& wt_L p ≠ 0) || (s.testBit 6 && wt_e p)
theorem wt_p6 {p : ws_Pat} (h : wt_ok p) : 2 ^ wt_m p ≤ 64 := Nat.pow_le_pow_right (n := 2) (by decide) h.1
theorem wt_r_lt {p : ws_Pat} (h : wt_ok p) (b : Bool) : wt_r p b < 2 ^ wt_m p := by
  unfold wt_r
  split
  · exact h.2.2.2.2.1
  · exact h.2.2.2.1
theorem wt_d_lt {p : ws_Pat} (h : wt_ok p) (s : Nat) (b : Bool) : wt_d p s b < 64 := Nat.lt_of_lt_of_le (Nat.and_lt_two_pow _ (wt_r_lt h b)) (wt_p6 h)
theorem wt_64 : ∀ i, i < 6 → Nat.testBit 64 i = false := by decide
theorem wt_b6 {s : Nat} (h : s < 64) : s.testBit 6 = false := Nat.testBit_lt_two_pow h
theorem wt_d64 (p : ws_Pat) (b : Bool) : wt_d p 64 b = wt_F p &&& wt_r p b := by
  unfold wt_d
  rw [ws_or_no _ _ _ 6 wt_64]
  rfl
theorem wt_ds (p : ws_Pat) {s : Nat} (h : s < 64) (b : Bool) : wt_d p s b = ws_or 0 (wt_f p) s 6 &&& wt_r p b := by
  unfold wt_d wt_i
  rw [wt_b6 h]
  rfl
theorem wt_a64 {p : ws_Pat} (h : wt_ok p) : wt_a p 64 = wt_e p := by
  have h2 : 64 &&& wt_L p = 0 := by
    apply Nat.eq_of_testBit_eq
    intro i
    rw [Nat.testBit_and, Nat.zero_testBit]
    by_cases z : i < 6
    · rw [wt_64 i z, Bool.false_and]
    · have : (wt_L p).testBit i = false := Nat.testBit_lt_two_pow (Nat.lt_of_lt_of_le h.2.2.1 (Nat.pow_le_pow_right (by decide) (by have := h.1; omega)))
      rw [this, Bool.and_false]
  unfold wt_a
  rw [h2, show Nat.testBit 64 6 = true from by decide]
  simp
theorem wt_as (p : ws_Pat) {s : Nat} (h : s < 64) : wt_a p s = decide (s &&& wt_L p ≠ 0) := by
  unfold wt_a
  rw [wt_b6 h, Bool.false_and, Bool.or_false]
/-! n more positions behind r, and then the end -/
def wt_ac (p : ws_Pat) : Nat → Nat → Prop
  | 0, r => (wt_L p).testBit r = true
  | n + 1, r => ∃ q, (wt_f p r).testBit q = true ∧ wt_ac p n q
theorem wt_lt {x m q : Nat} (h : x < 2 ^ m) (hq : x.testBit q = true) : q < m := by
  rcases Nat.lt_or_ge q m with z | z
  · exact z
  · rw [Nat.testBit_lt_two_pow (Nat.lt_of_lt_of_le h (Nat.pow_le_pow_right (by decide) z))] at hq
    exact absurd hq Bool.false_ne_true
theorem wt_step {p : ws_Pat} (h : wt_ok p) {n X : Nat} (hX : X < 2 ^ wt_m p) (ih : ∀ s, s < 64 → (0 < ws_A (wt_d p) (wt_a p) n s ↔ ∃ r, s.testBit r = true ∧ wt_ac p n r)) : 0 < ws_A (wt_d p) (wt_a p) n (X &&& wt_r p false) + ws_A (wt_d p) (wt_a p) n (X &&& wt_r p true) ↔ ∃ q, X.testBit q = true ∧ wt_ac p n q := by
  have hl : ∀ b, X &&& wt_r p b < 64 := fun b => Nat.lt_of_lt_of_le (Nat.and_lt_two_pow _ (wt_r_lt h b)) (wt_p6 h)
  constructor
  · intro z
    have z2 : 0 < ws_A (wt_d p) (wt_a p) n (X &&& wt_r p false) ∨ 0 < ws_A (wt_d p) (wt_a p) n (X &&& wt_r p true) := by omega
    rcases z2 with z2 | z2
    · obtain ⟨r, h1, h2⟩ := (ih _ (hl _)).mp z2
      rw [Nat.testBit_and, Bool.and_eq_true] at h1
      exact ⟨r, h1.1, h2⟩
    · obtain ⟨r, h1, h2⟩ := (ih _ (hl _)).mp z2
      rw [Nat.testBit_and, Bool.and_eq_true] at h1
      exact ⟨r, h1.1, h2⟩
  · rintro ⟨q, h1, h2⟩
    rcases h.2.2.2.2.2.1 q (wt_lt hX h1) with z | z
    · have := (ih _ (hl false)).mpr ⟨q, by rw [Nat.testBit_and, h1]; exact z, h2⟩
      omega
    · have := (ih _ (hl true)).mpr ⟨q, by rw [Nat.testBit_and, h1]; exact z, h2⟩
      omega
theorem wt_A {p : ws_Pat} (h : wt_ok p) : ∀ n s, s < 64 → (0 < ws_A (wt_d p) (wt_a p) n s ↔ ∃ r, s.testBit r = true ∧ wt_ac p n r) := by
  intro n
  induction n with
  | zero =>
    intro s hs
    show 0 < (if wt_a p s = true then 1 else 0) ↔ _
    rw [wt_as p hs]
    constructor
    · intro z
      by_cases e : s &&& wt_L p = 0
      · rw [e] at z; simp at z
      · obtain ⟨r, hr⟩ := Nat.exists_testBit_of_ne_zero e
        rw [Nat.testBit_and, Bool.and_eq_true] at hr
        exact ⟨r, hr.1, hr.2⟩
    · rintro ⟨r, h1, h2⟩
      have e : s &&& wt_L p ≠ 0 := by
        intro e
        have e2 : (s &&& wt_L p).testBit r = true := by
          rw [Nat.testBit_and, h1]
          exact h2
        rw [e, Nat.zero_testBit] at e2
        exact absurd e2 Bool.false_ne_true
      rw [if_pos (decide_eq_true e)]
      exact Nat.one_pos
  | succ n ih =>
    intro s hs
    show 0 < ws_A (wt_d p) (wt_a p) n (wt_d p s false) + ws_A (wt_d p) (wt_a p) n (wt_d p s true) ↔ _
    rw [wt_ds p hs, wt_ds p hs, wt_step h (ws_or_lt 0 (wt_f p) s (wt_m p) (Nat.two_pow_pos _) h.2.2.2.2.2.2.1 6) ih]
    constructor
    · rintro ⟨q, h1, h2⟩
      rcases (ws_or_bit 0 (wt_f p) s q 6).mp h1 with z | ⟨i, _, z1, z2⟩
      · rw [Nat.zero_testBit] at z; exact absurd z Bool.false_ne_true
      · exact ⟨i, z1, q, z2, h2⟩
    · rintro ⟨r, h1, q, h2, h3⟩
      exact ⟨q, (ws_or_bit 0 (wt_f p) s q 6).mpr (Or.inr ⟨r, wt_lt (m := 6) hs h1, h1, h2⟩), h3⟩
/-! ways of positions -/
def wt_T (p : ws_Pat) (n : Nat) : Prop := ∃ w : Nat → Nat, (wt_F p).testBit (w 0) = true ∧ (∀ i, i < n → (wt_f p (w i)).testBit (w (i + 1)) = true) ∧ (wt_L p).testBit (w n) = true
theorem wt_ac_w (p : ws_Pat) : ∀ n r, wt_ac p n r ↔ ∃ w : Nat → Nat, w 0 = r ∧ (∀ i, i < n → (wt_f p (w i)).testBit (w (i + 1)) = true) ∧ (wt_L p).testBit (w n) = true := by
  intro n
  induction n with
  | zero =>
    intro r
    constructor
    · exact fun h => ⟨fun _ => r, rfl, fun i hi => absurd hi (by omega), h⟩
    · rintro ⟨w, rfl, _, h⟩
      exact h
  | succ n ih =>
    intro r
    constructor
    · rintro ⟨q, h1, h2⟩
      obtain ⟨w, e, h3, h4⟩ := (ih q).mp h2
      refine ⟨fun i => match i with | 0 => r | i + 1 => w i, rfl, ?_, h4⟩
      intro i hi
      cases i with
      | zero => show (wt_f p r).testBit (w 0) = true; rw [e]; exact h1
      | succ i => exact h3 i (by omega)
    · rintro ⟨w, e, h3, h4⟩
      subst e
      exact ⟨w 1, h3 0 (by omega), (ih _).mpr ⟨fun i => w (i + 1), rfl, fun i hi => h3 (i + 1) (by omega), h4⟩⟩
theorem wt_AT {p : ws_Pat} (h : wt_ok p) (n : Nat) : 0 < ws_A (wt_d p) (wt_a p) (n + 1) 64 ↔ wt_T p n := by
  show 0 < ws_A (wt_d p) (wt_a p) n (wt_d p 64 false) + ws_A (wt_d p) (wt_a p) n (wt_d p 64 true) ↔ _
  rw [wt_d64, wt_d64, wt_step h h.2.1 (wt_A h n)]
  constructor
  · rintro ⟨q, h1, h2⟩
    obtain ⟨w, e, h3⟩ := (wt_ac_w p n q).mp h2
    exact ⟨w, by rw [e]; exact h1, h3⟩
  · rintro ⟨w, h1, h2⟩
    exact ⟨w 0, h1, (wt_ac_w p n _).mpr ⟨w, rfl, h2⟩⟩
theorem ws_pig : ∀ (m : Nat) (p : Nat → Nat), (∀ i, i ≤ m → p i < m) → ∃ i j, i < j ∧ j ≤ m ∧ p i = p j := by
  intro m
  induction m with
  | zero => intro p h; exact absurd (h 0 (Nat.le_refl 0)) (by omega)
  | succ m ih =>
    intro p h
    by_cases e : ∃ i, i ≤ m ∧ p i = p (m + 1)
    · obtain ⟨i, hi, e⟩ := e
      exact ⟨i, m + 1, by omega, by omega, e⟩
    · have e' : ∀ i, i ≤ m → p i ≠ p (m + 1) := fun i hi z => e ⟨i, hi, z⟩
      have hv := h (m + 1) (by omega)
      obtain ⟨i, j, hij, hj, hp⟩ := ih (fun i => if p i = m then p (m + 1) else p i) (by
        intro i hi
        have h1 := h i (by omega)
        have h2 := e' i hi
        split <;> omega)
      refine ⟨i, j, hij, by omega, ?_⟩
      have h1 := e' i (by omega)
      have h2 := e' j (by omega)
      split at hp <;> split at hp <;> omega
theorem wt_pump {p : ws_Pat} (h : wt_ok p) {n : Nat} (hT : wt_T p n) (hn : wt_m p ≤ n) : ∃ c, 1 ≤ c ∧ c ≤ wt_m p ∧ wt_T p (n - c) ∧ wt_T p (n + c) := by
  obtain ⟨w, h0, hs, hl⟩ := hT
  have hw : ∀ i, i ≤ n → w i < wt_m p := by
    intro i hi
    cases i with
    | zero => exact wt_lt h.2.1 h0
    | succ i => exact wt_lt (h.2.2.2.2.2.2.1 (w i)) (hs i (by omega))
  obtain ⟨i, j, hij, hj, he⟩ := ws_pig (wt_m p) w (fun i hi => hw i (by omega))
  refine ⟨j - i, by omega, by omega, ?_, ?_⟩
  · refine ⟨fun k => if k ≤ i then w k else w (k + (j - i)), ?_, ?_, ?_⟩
    · dsimp only; rw [if_pos (by omega)]; exact h0
    · intro k hk
      dsimp only
      by_cases z : k + 1 ≤ i
      · rw [if_pos z, if_pos (by omega)]; exact hs k (by omega)
      · rw [if_neg z]
        by_cases z2 : k ≤ i
        · have : k = i := by omega
          subst this
          rw [if_pos z2, he, show k + 1 + (j - k) = j + 1 from by omega]
          exact hs j (by omega)
        · rw [if_neg z2, show k + 1 + (j - i) = k + (j - i) + 1 from by omega]
          exact hs _ (by omega)
    · dsimp only
      by_cases z : n - (j - i) ≤ i
      · rw [if_pos z, show n - (j - i) = i from by omega, he, show j = n from by omega]; exact hl
      · rw [if_neg z, show n - (j - i) + (j - i) = n from by omega]; exact hl
  · refine ⟨fun k => if k ≤ j then w k else w (k - (j - i)), ?_, ?_, ?_⟩
    · dsimp only; rw [if_pos (by omega)]; exact h0
    · intro k hk
      dsimp only
      by_cases z : k + 1 ≤ j
      · rw [if_pos z, if_pos (by omega)]; exact hs k (by omega)
      · rw [if_neg z]
        by_cases z2 : k ≤ j
        · have : k = j := by omega
          subst this
          rw [if_pos z2, ← he, show k + 1 - (k - i) = i + 1 from by omega]
          exact hs i (by omega)
        · rw [if_neg z2, show k + 1 - (j - i) = k - (j - i) + 1 from by omega]
          exact hs _ (by omega)
    · dsimp only
      rw [if_neg (by omega), show n + (j - i) - (j - i) = n from by omega]; exact hl
theorem wt_down {p : ws_Pat} (h : wt_ok p) {B : Nat} (hB : wt_m p ≤ B) : ∀ n, B ≤ n → wt_T p n → ∃ n', B ≤ n' ∧ n' < B + wt_m p ∧ wt_T p n' := by
  intro n
  induction n using Nat.strongRecOn with
  | ind n ih =>
    intro hn hT
    by_cases z : n < B + wt_m p
    · exact ⟨n, hn, z, hT⟩
    · obtain ⟨c, h1, h2, h3, _⟩ := wt_pump h hT (by omega)
      exact ih (n - c) (by omega) (by omega) h3
theorem wt_up {p : ws_Pat} (h : wt_ok p) : ∀ d n, 6 - n ≤ d → wt_m p ≤ n → wt_T p n → ∃ n', 6 ≤ n' ∧ wt_T p n' := by
  intro d
  induction d with
  | zero => intro n hd _ hT; exact ⟨n, by omega, hT⟩
  | succ d ih =>
    intro n hd hn hT
    by_cases z : 6 ≤ n
    · exact ⟨n, z, hT⟩
    · obtain ⟨c, h1, h2, _, h4⟩ := wt_pump h hT hn
      exact ih (n + c) (by omega) (by omega) h4
/-- the lengths that the component looks at, and those that the reference looks at -/
theorem wt_end {p : ws_Pat} (h : wt_ok p) : (∃ n, 7 ≤ n ∧ n < 13 ∧ 0 < ws_A (wt_d p) (wt_a p) n 64) ↔ (∃ n, wt_m p + 1 ≤ n ∧ n < 2 * wt_m p + 3 ∧ 0 < ws_A (wt_d p) (wt_a p) n 64) := by
  have hm := h.1
  constructor
  · rintro ⟨n, h1, h2, h3⟩
    obtain ⟨k, rfl⟩ : ∃ k, n = k + 1 := ⟨n - 1, by omega⟩
    obtain ⟨n', a1, a2, a3⟩ := wt_down h (Nat.le_refl _) k (by omega) ((wt_AT h k).mp h3)
    exact ⟨n' + 1, by omega, by omega, (wt_AT h n').mpr a3⟩
  · rintro ⟨n, h1, h2, h3⟩
    obtain ⟨k, rfl⟩ : ∃ k, n = k + 1 := ⟨n - 1, by omega⟩
    obtain ⟨n1, b1, b2⟩ := wt_up h 6 k (by omega) (by omega) ((wt_AT h k).mp h3)
    obtain ⟨n', a1, a2, a3⟩ := wt_down h hm n1 b1 b2
    exact ⟨n' + 1, by omega, by omega, (wt_AT h n').mpr a3⟩
