/-! pure: counts, runs of an automaton, the number of words, sums with weights -/
def ws_cnt (p : Nat → Bool) : Nat → Nat
  | 0 => 0
  | n + 1 => if p n = true then ws_cnt p n + 1 else ws_cnt p n
theorem ws_cnt_s (p : Nat → Bool) (n : Nat) : ws_cnt p (n + 1) = if p n = true then ws_cnt p n + 1 else ws_cnt p n := rfl
theorem ws_cnt_le (p : Nat → Bool) : ∀ n, ws_cnt p n ≤ n := by
  intro n
  induction n with
  | zero => exact Nat.le_refl 0
  | succ n ih => rw [ws_cnt_s]; split <;> omega
theorem ws_cnt_mono (p q : Nat → Bool) : ∀ n, (∀ j, j < n → p j = true → q j = true) → ws_cnt p n ≤ ws_cnt q n := by
  intro n
  induction n with
  | zero => exact fun _ => Nat.le_refl 0
  | succ n ih =>
    intro h
    have h1 := ih (fun j hj => h j (by omega))
    have h2 := h n (by omega)
    simp only [ws_cnt_s]
    by_cases e : p n = true
    · rw [if_pos e, if_pos (h2 e)]; omega
    · rw [if_neg e]; split <;> omega
theorem ws_cnt_lt (p q : Nat → Bool) : ∀ n, (∀ j, j < n → p j = true → q j = true) → (∃ j, j < n ∧ q j = true ∧ p j = false) → ws_cnt p n < ws_cnt q n := by
  intro n
  induction n with
  | zero => intro _ ⟨j, hj, _⟩; omega
  | succ n ih =>
    intro h ⟨j, hj, hq, hp⟩
    have hm := ws_cnt_mono p q n (fun j hj => h j (by omega))
    simp only [ws_cnt_s]
    by_cases e : j = n
    · subst e
      rw [if_pos hq, if_neg (by rw [hp]; exact Bool.false_ne_true)]; omega
    · have h1 := ih (fun j hj => h j (by omega)) ⟨j, by omega, hq, hp⟩
      have h2 := h n (by omega)
      by_cases e2 : p n = true
      · rw [if_pos e2, if_pos (h2 e2)]; omega
      · rw [if_neg e2]; split <;> omega
theorem ws_cnt_congr (p q : Nat → Bool) : ∀ n, (∀ j, j < n → p j = q j) → ws_cnt p n = ws_cnt q n := by
  intro n
  induction n with
  | zero => exact fun _ => rfl
  | succ n ih =>
    intro h
    simp only [ws_cnt_s]
    rw [ih (fun j hj => h j (by omega)), h n (by omega)]
theorem ws_cnt_0 (p : Nat → Bool) : ∀ n, (∀ j, j < n → p j = false) → ws_cnt p n = 0 := by
  intro n
  induction n with
  | zero => exact fun _ => rfl
  | succ n ih =>
    intro h
    rw [ws_cnt_s, ih (fun j hj => h j (by omega)), h n (by omega)]
    rfl
theorem ws_cnt_add (p : Nat → Bool) (a : Nat) : ∀ n, ws_cnt p (a + n) = ws_cnt p a + ws_cnt (fun j => p (a + j)) n := by
  intro n
  induction n with
  | zero => rfl
  | succ n ih =>
    rw [← Nat.add_assoc, ws_cnt_s, ws_cnt_s, ih]
    split <;> omega
theorem ws_cnt_pos (p : Nat → Bool) (n j : Nat) (hj : j < n) (h : p j = true) : 0 < ws_cnt p n := by
  have h1 := ws_cnt_lt (fun _ => false) p n (fun _ _ z => absurd z Bool.false_ne_true) ⟨j, hj, h, rfl⟩
  omega
/-! runs -/
def ws_run (d : Nat → Bool → Nat) : List Bool → Nat → Nat
  | [], s => s
  | b :: w, s => ws_run d w (d s b)
theorem ws_run_app (d : Nat → Bool → Nat) (w : List Bool) : ∀ (u : List Bool) (s : Nat), ws_run d (u ++ w) s = ws_run d w (ws_run d u s) := by
  intro u
  induction u with
  | nil => exact fun _ => rfl
  | cons b u ih => exact fun s => ih (d s b)
def ws_eqv (d : Nat → Bool → Nat) (a : Nat → Bool) (s t : Nat) : Prop := ∀ w, a (ws_run d w s) = a (ws_run d w t)
theorem ws_eqv_step {d : Nat → Bool → Nat} {a : Nat → Bool} {s t : Nat} (h : ws_eqv d a s t) (b : Bool) : ws_eqv d a (d s b) (d t b) := fun w => h (b :: w)
theorem ws_run_lt {d : Nat → Bool → Nat} {N : Nat} (hd : ∀ s b, s < N → d s b < N) : ∀ (w : List Bool) (s : Nat), s < N → ws_run d w s < N := by
  intro w
  induction w with
  | nil => exact fun _ h => h
  | cons b w ih => exact fun s h => ih _ (hd s b h)
def ws_rch (d : Nat → Bool → Nat) (s0 s : Nat) : Prop := ∃ w, ws_run d w s0 = s
theorem ws_rch_0 (d : Nat → Bool → Nat) (s0 : Nat) : ws_rch d s0 s0 := ⟨[], rfl⟩
theorem ws_rch_s {d : Nat → Bool → Nat} {s0 s : Nat} (h : ws_rch d s0 s) (b : Bool) : ws_rch d s0 (d s b) := by
  obtain ⟨w, rfl⟩ := h
  exact ⟨w ++ [b], ws_run_app d [b] w s0⟩
theorem ws_clo {d : Nat → Bool → Nat} {N : Nat} {R : Nat → Bool} (hd : ∀ s b, s < N → d s b < N) (hR : ∀ s b, s < N → R s = true → R (d s b) = true) : ∀ (w : List Bool) (s : Nat), s < N → R s = true → R (ws_run d w s) = true := by
  intro w
  induction w with
  | nil => exact fun _ _ h => h
  | cons b w ih => exact fun s hs h => ih _ (hd s b hs) (hR s b hs h)
/-! the number of words of length n that lead from s to an end -/
def ws_A (d : Nat → Bool → Nat) (a : Nat → Bool) : Nat → Nat → Nat
  | 0, s => if a s = true then 1 else 0
  | n + 1, s => ws_A d a n (d s false) + ws_A d a n (d s true)
theorem ws_A_le (d : Nat → Bool → Nat) (a : Nat → Bool) : ∀ n s, ws_A d a n s ≤ 2 ^ n := by
  intro n
  induction n with
  | zero => intro s; show (if a s = true then 1 else 0) ≤ 1; split <;> omega
  | succ n ih =>
    intro s
    have h1 := ih (d s false)
    have h2 := ih (d s true)
    show ws_A d a n (d s false) + ws_A d a n (d s true) ≤ _
    rw [Nat.pow_succ]
    omega
/-! sums with weights -/
def ws_sum (f : Nat → Int32) (g : Nat → Nat) : Nat → Int32
  | 0 => 0
  | n + 1 => ws_sum f g n + f n * nI (g n)
theorem ws_sum_s (f : Nat → Int32) (g : Nat → Nat) (n : Nat) : ws_sum f g (n + 1) = ws_sum f g n + f n * nI (g n) := rfl
theorem ws_sum_congr {f f' : Nat → Int32} (g : Nat → Nat) : ∀ n, (∀ j, j < n → f j = f' j) → ws_sum f g n = ws_sum f' g n := by
  intro n
  induction n with
  | zero => exact fun _ => rfl
  | succ n ih =>
    intro h
    rw [ws_sum_s, ws_sum_s, ih (fun j hj => h j (by omega)), h n (by omega)]
theorem ws_sum_gc {g g' : Nat → Nat} (f : Nat → Int32) : ∀ n, (∀ j, j < n → g j = g' j) → ws_sum f g n = ws_sum f g' n := by
  intro n
  induction n with
  | zero => exact fun _ => rfl
  | succ n ih =>
    intro h
    rw [ws_sum_s, ws_sum_s, ih (fun j hj => h j (by omega)), h n (by omega)]
theorem ws_sum_0 {f : Nat → Int32} (g : Nat → Nat) : ∀ n, (∀ j, j < n → f j = 0) → ws_sum f g n = 0 := by
  intro n
  induction n with
  | zero => exact fun _ => rfl
  | succ n ih =>
    intro h
    rw [ws_sum_s, ih (fun j hj => h j (by omega)), h n (by omega), Int32.zero_mul, Int32.add_zero]
theorem ws_ring1 (a b c x : Int32) : a + (b + x) * c = a + b * c + x * c := by grind
theorem ws_ring2 (a b c d : Int32) : a + b + c * d = a + c * d + b := by grind
theorem ws_sum_upd (f : Nat → Int32) (g : Nat → Nat) (t : Nat) (x : Int32) : ∀ n, t < n → ws_sum (upd f t (f t + x)) g n = ws_sum f g n + x * nI (g t) := by
  intro n
  induction n with
  | zero => intro h; omega
  | succ n ih =>
    intro h
    rw [ws_sum_s, ws_sum_s]
    by_cases e : t = n
    · subst e
      rw [pk_us, ws_sum_congr (f' := f) g t (fun j hj => pk_un (by omega)), ws_ring1]
    · rw [ih (by omega), pk_un (by omega), ws_ring2]
theorem ws_sum_half (f : Nat → Int32) (h : Nat → Nat → Nat) : ∀ n, ws_sum (fun m => f (m / 2)) (fun m => h (m / 2) (m % 2)) (2 * n) = ws_sum f (fun s => h s 0 + h s 1) n := by
  intro n
  induction n with
  | zero => rfl
  | succ n ih =>
    rw [show 2 * (n + 1) = 2 * n + 1 + 1 from by omega, ws_sum_s, ws_sum_s, ih, ws_sum_s]
    rw [show 2 * n / 2 = n from by omega, show 2 * n % 2 = 0 from by omega, show (2 * n + 1) / 2 = n from by omega, show (2 * n + 1) % 2 = 1 from by omega, ← nI_add]
    grind
