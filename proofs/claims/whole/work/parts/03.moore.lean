/-! pure: groups that are split until nothing changes -/
def ws_alk (d : Nat → Bool → Nat) (g : Nat → Nat) (s t : Nat) : Prop := g s = g t ∧ g (d s false) = g (d t false) ∧ g (d s true) = g (d t true)
theorem ws_alk_tr {d : Nat → Bool → Nat} {g : Nat → Nat} {s t r : Nat} (h : ws_alk d g s t) (h' : ws_alk d g t r) : ws_alk d g s r := ⟨h.1.trans h'.1, h.2.1.trans h'.2.1, h.2.2.trans h'.2.2⟩
theorem ws_alk_sy {d : Nat → Bool → Nat} {g : Nat → Nat} {s t : Nat} (h : ws_alk d g s t) : ws_alk d g t s := ⟨h.1.symm, h.2.1.symm, h.2.2.symm⟩
theorem ws_alk_b {d : Nat → Bool → Nat} {g : Nat → Nat} {s t : Nat} (h : ws_alk d g s t) (b : Bool) : g (d s b) = g (d t b) := by
  cases b
  · exact h.2.1
  · exact h.2.2
def ws_spl (d : Nat → Bool → Nat) (N : Nat) (g g' : Nat → Nat) : Prop := ∀ s, s < N → g' s ≤ s ∧ ws_alk d g (g' s) s ∧ ∀ t, t < g' s → ¬ ws_alk d g t s
theorem ws_spl_iff {d : Nat → Bool → Nat} {N : Nat} {g g' : Nat → Nat} (h : ws_spl d N g g') {s t : Nat} (hs : s < N) (ht : t < N) : g' s = g' t ↔ ws_alk d g s t := by
  constructor
  · intro e
    have a := (h s hs).2.1
    rw [e] at a
    exact ws_alk_tr (ws_alk_sy a) (h t ht).2.1
  · intro e
    rcases Nat.lt_trichotomy (g' s) (g' t) with l | l | l
    · exact absurd (ws_alk_tr (h s hs).2.1 e) ((h t ht).2.2 _ l)
    · exact l
    · exact absurd (ws_alk_tr (h t ht).2.1 (ws_alk_sy e)) ((h s hs).2.2 _ l)
def ws_J (d : Nat → Bool → Nat) (a : Nat → Bool) (N : Nat) (g : Nat → Nat) : Prop := (∀ s t, s < N → t < N → ws_eqv d a s t → g s = g t) ∧ (∀ s t, s < N → t < N → g s = g t → a s = a t)
theorem ws_J0 {d : Nat → Bool → Nat} {a : Nat → Bool} {N : Nat} {g : Nat → Nat} (h : ∀ s, s < N → g s = if a s = true then 1 else 0) : ws_J d a N g := by
  constructor
  · intro s t hs ht e
    have e0 : a s = a t := e []
    rw [h s hs, h t ht, e0]
  · intro s t hs ht e
    rw [h s hs, h t ht] at e
    cases h1 : a s <;> cases h2 : a t <;> simp [h1, h2] at e ⊢
theorem ws_J_spl {d : Nat → Bool → Nat} {a : Nat → Bool} {N : Nat} {g g' : Nat → Nat} (hd : ∀ s b, s < N → d s b < N) (J : ws_J d a N g) (h : ws_spl d N g g') : ws_J d a N g' := by
  constructor
  · intro s t hs ht e
    exact (ws_spl_iff h hs ht).mpr ⟨J.1 s t hs ht e, J.1 _ _ (hd s _ hs) (hd t _ ht) (ws_eqv_step e false), J.1 _ _ (hd s _ hs) (hd t _ ht) (ws_eqv_step e true)⟩
  · intro s t hs ht e
    exact J.2 s t hs ht ((ws_spl_iff h hs ht).mp e).1
def ws_can (N : Nat) (g : Nat → Nat) : Prop := ∀ s, s < N → g s ≤ s ∧ g (g s) = g s
theorem ws_can_spl {d : Nat → Bool → Nat} {N : Nat} {g g' : Nat → Nat} (h : ws_spl d N g g') : ws_can N g' := by
  intro s hs
  have h1 := h s hs
  exact ⟨h1.1, (ws_spl_iff h (by omega) hs).mpr h1.2.1⟩
def ws_fp (g : Nat → Nat) : Nat → Bool := fun s => decide (g s = s)
theorem ws_fp_grow {d : Nat → Bool → Nat} {N : Nat} {g g' : Nat → Nat} (c : ws_can N g) (h : ws_spl d N g g') (hn : ∃ s, s < N ∧ g s ≠ g' s) : ws_cnt (ws_fp g) N < ws_cnt (ws_fp g') N := by
  apply ws_cnt_lt
  · intro s hs e
    have e1 : g s = s := of_decide_eq_true e
    have h1 := h s hs
    have h2 := c (g' s) (by omega)
    have h3 := h1.2.1.1
    exact decide_eq_true (by omega)
  · obtain ⟨s, hs, hne⟩ := hn
    have h1 := h s hs
    have h2 := ws_can_spl h s hs
    refine ⟨g' s, by omega, decide_eq_true h2.2, decide_eq_false ?_⟩
    intro e
    exact hne (h1.2.1.1.symm.trans e)
theorem ws_stable {d : Nat → Bool → Nat} {a : Nat → Bool} {N : Nat} {g g' : Nat → Nat} (hd : ∀ s b, s < N → d s b < N) (J : ws_J d a N g) (h : ws_spl d N g g') (he : ∀ s, s < N → g s = g' s) {s t : Nat} (hs : s < N) (ht : t < N) : g s = g t ↔ ws_eqv d a s t := by
  constructor
  · intro e w
    induction w generalizing s t with
    | nil => exact J.2 s t hs ht e
    | cons b w ih =>
      rw [he s hs, he t ht] at e
      exact ih (hd s b hs) (hd t b ht) (ws_alk_b ((ws_spl_iff h hs ht).mp e) b)
  · exact J.1 s t hs ht
/-- what the rounds keep: r rounds are through, changed is ch -/
def ws_G (d : Nat → Bool → Nat) (a : Nat → Bool) (N : Nat) (r : Nat) (ch : Bool) (g : Nat → Nat) : Prop :=
  ws_J d a N g ∧ (ch = true → r = 0 ∨ (ws_can N g ∧ r ≤ ws_cnt (ws_fp g) N)) ∧ (ch = false → ∀ s t, s < N → t < N → (g s = g t ↔ ws_eqv d a s t))
theorem ws_G_s {d : Nat → Bool → Nat} {a : Nat → Bool} {N : Nat} {r : Nat} {g g' : Nat → Nat} {ch' : Bool} (hN : 0 < N) (hd : ∀ s b, s < N → d s b < N) (G : ws_G d a N r true g) (h : ws_spl d N g g') (h1 : ch' = true → ∃ s, s < N ∧ g s ≠ g' s) (h0 : ch' = false → ∀ s, s < N → g s = g' s) : ws_G d a N (r + 1) ch' g' := by
  refine ⟨ws_J_spl hd G.1 h, fun z => Or.inr ⟨ws_can_spl h, ?_⟩, fun z => ?_⟩
  · rcases G.2.1 rfl with e | ⟨c, e⟩
    · subst e
      have c' := ws_can_spl h 0 hN
      exact ws_cnt_pos _ N 0 hN (decide_eq_true (by omega))
    · have := ws_fp_grow c h (h1 z)
      omega
  · intro s t hs ht
    have e := h0 z
    rw [← e s hs, ← e t ht]
    exact ws_stable hd G.1 h e hs ht
theorem ws_G_e {d : Nat → Bool → Nat} {a : Nat → Bool} {N : Nat} {r : Nat} {ch : Bool} {g : Nat → Nat} (hr : N < r) (G : ws_G d a N r ch g) : ∀ s t, s < N → t < N → (g s = g t ↔ ws_eqv d a s t) := by
  cases ch with
  | false => exact G.2.2 rfl
  | true =>
    rcases G.2.1 rfl with e | ⟨_, e⟩
    · omega
    · have := ws_cnt_le (ws_fp g) N
      omega
/-! pairs of states -/
def ws_pr (d e : Nat → Bool → Nat) : Nat → Bool → Nat := fun p b => 128 * d (p / 128) b + e (p % 128) b
theorem ws_pr_run (d e : Nat → Bool → Nat) (he : ∀ s b, s < 128 → e s b < 128) : ∀ (w : List Bool) (s t : Nat), t < 128 → ws_run (ws_pr d e) w (128 * s + t) = 128 * ws_run d w s + ws_run e w t := by
  intro w
  induction w with
  | nil => exact fun _ _ _ => rfl
  | cons b w ih =>
    intro s t ht
    show ws_run (ws_pr d e) w (ws_pr d e (128 * s + t) b) = _
    have h : ws_pr d e (128 * s + t) b = 128 * d s b + e t b := by
      unfold ws_pr
      rw [show (128 * s + t) / 128 = s from by omega, show (128 * s + t) % 128 = t from by omega]
    rw [h, ih _ _ (he t b ht)]
    rfl
/-- a mark at n: the two of the pair n can be told apart -/
def ws_ap (d e : Nat → Bool → Nat) (a c : Nat → Bool) (n : Nat) : Prop := ∃ w, a (ws_run d w (n / 128)) ≠ c (ws_run e w (n % 128))
theorem ws_ap_0 {d e : Nat → Bool → Nat} {a c : Nat → Bool} {n : Nat} (h : a (n / 128) ≠ c (n % 128)) : ws_ap d e a c n := ⟨[], h⟩
theorem ws_ap_s {d e : Nat → Bool → Nat} {a c : Nat → Bool} (he : ∀ s b, s < 128 → e s b < 128) {n : Nat} (b : Bool) (h : ws_ap d e a c (ws_pr d e n b)) : ws_ap d e a c n := by
  obtain ⟨w, hw⟩ := h
  have h2 := he (n % 128) b (Nat.mod_lt _ (by omega))
  refine ⟨b :: w, ?_⟩
  have e1 : ws_pr d e n b / 128 = d (n / 128) b := by unfold ws_pr; omega
  have e2 : ws_pr d e n b % 128 = e (n % 128) b := by unfold ws_pr; omega
  rw [e1, e2] at hw
  exact hw
theorem ws_ap_no {d e : Nat → Bool → Nat} {a c : Nat → Bool} {R : Nat → Bool} (hd : ∀ s b, s < 128 → d s b < 128) (he : ∀ s b, s < 128 → e s b < 128) (h0 : ∀ n, n < 16384 → R n = false → a (n / 128) = c (n % 128)) (hc : ∀ n b, n < 16384 → R n = false → R (ws_pr d e n b) = false) : ∀ (w : List Bool) (n : Nat), n < 16384 → R n = false → a (ws_run d w (n / 128)) = c (ws_run e w (n % 128)) := by
  intro w
  induction w with
  | nil => exact h0
  | cons b w ih =>
    intro n hn hR
    have h1 := hd (n / 128) b (by omega)
    have h2 := he (n % 128) b (Nat.mod_lt _ (by omega))
    have e1 : ws_pr d e n b / 128 = d (n / 128) b := by unfold ws_pr; omega
    have e2 : ws_pr d e n b % 128 = e (n % 128) b := by unfold ws_pr; omega
    have h3 : ws_pr d e n b < 16384 := by unfold ws_pr; omega
    have h4 := ih _ h3 (hc n b hn hR)
    rw [e1, e2] at h4
    exact h4
theorem ws_ap_iff {d e : Nat → Bool → Nat} {a c : Nat → Bool} {R : Nat → Bool} (hd : ∀ s b, s < 128 → d s b < 128) (he : ∀ s b, s < 128 → e s b < 128) (h0 : ∀ n, n < 16384 → R n = false → a (n / 128) = c (n % 128)) (hc : ∀ n b, n < 16384 → R n = false → R (ws_pr d e n b) = false) (hs : ∀ n, n < 16384 → R n = true → ws_ap d e a c n) {s t : Nat} (hs' : s < 128) (ht : t < 128) : R (128 * s + t) = false ↔ ∀ w, a (ws_run d w s) = c (ws_run e w t) := by
  have e1 : (128 * s + t) / 128 = s := by omega
  have e2 : (128 * s + t) % 128 = t := by omega
  have hl : 128 * s + t < 16384 := by omega
  constructor
  · intro h w
    have := ws_ap_no hd he h0 hc w _ hl h
    rw [e1, e2] at this
    exact this
  · intro h
    cases hR : R (128 * s + t) with
    | false => rfl
    | true =>
      obtain ⟨w, hw⟩ := hs _ hl hR
      rw [e1, e2] at hw
      exact absurd (h w) hw
