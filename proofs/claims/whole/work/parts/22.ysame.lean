/-! the reference: are two patterns the same -/
def ye_r (N : Nat) (ra : Nat → Int32) (R : Nat → Bool) : Prop := ∀ s, s < N → ra s = wr_b (R s)
def ye_set (R : Nat → Bool) (t : Nat) (b : Bool) : Nat → Bool := fun s => if s = t then b else R s
theorem ye_set_s (R : Nat → Bool) (t : Nat) (b : Bool) : ye_set R t b t = b := if_pos rfl
theorem ye_set_n (R : Nat → Bool) {t s : Nat} (b : Bool) (h : s ≠ t) : ye_set R t b s = R s := if_neg h
theorem ye_r_set {N : Nat} {ra : Nat → Int32} {R : Nat → Bool} (h : ye_r N ra R) (t : Nat) (b : Bool) : ye_r N (upd ra t (wr_b b)) (ye_set R t b) := by
  intro s hs
  by_cases z : s = t
  · subst z; rw [pk_us, ye_set_s]
  · rw [pk_un z, ye_set_n R b z]; exact h s hs
theorem ye_set_same {R : Nat → Bool} {t : Nat} {b : Bool} (h : R t = b) (s : Nat) : ye_set R t b s = R s := by
  by_cases z : s = t
  · subst z; rw [ye_set_s, h]
  · exact ye_set_n R b z
theorem ye_set_m {R : Nat → Bool} {t : Nat} {b : Bool} (hb : R t = true → b = true) {s : Nat} (h : R s = true) : ye_set R t b s = true := by
  by_cases z : s = t
  · subst z; rw [ye_set_s]; exact hb h
  · rw [ye_set_n R b z]; exact h
section
variable {f_depth f_termLength f_demands f_boundCount f_known f_found f_least : Int32} {a_sizes a_empties a_firsts a_lasts a_letters a_behinds a_steps a_term a_patterns a_kepts a_signs a_signCounts a_bounds a_firstWords a_sums a_met a_tried a_seen a_apart a_counts a_next : Nat → Int32}
theorem ye_139 {post : Int32 → SY → Prop} {J : _} {J' : Int32 → Int32 → (Nat → Int32) → (Nat → Int32) → (Nat → Int32) → (Nat → Int32) → (Nat → Int32) → (Nat → Int32) → (Nat → Int32) → (Nat → Int32) → (Nat → Int32) → (Nat → Int32) → (Nat → Int32) → (Nat → Int32) → (Nat → Int32) → (Nat → Int32) → (Nat → Int32) → (Nat → Int32) → (Nat → Int32) → (Nat → Int32) → (Nat → Int32) → (Nat → Int32) → (Nat → Int32) → Prop} {x1 x2 : Int32} {b fr : Bool} {i q one two : Nat} {R : Nat → Bool} (hR : ye_r 16384 a_apart R) (h1 : one < 128) (h2 : two < 128) (hq : q = 128 * one + two) (K : J' (wr_b (b || fr)) (nI (i + 1)) a_sizes a_empties a_firsts a_lasts a_letters a_behinds a_steps a_term a_patterns a_kepts a_signs a_signCounts a_bounds a_firstWords a_sums a_met a_tried a_seen (upd a_apart q (wr_b (R q || fr))) a_counts a_next) : wY_isSame_139 post J J' x1 x2 (wr_b b) (nI i) (nI one) (nI two) (wr_b fr) f_depth f_termLength f_demands f_boundCount f_known f_found f_least a_sizes a_empties a_firsts a_lasts a_letters a_behinds a_steps a_term a_patterns a_kepts a_signs a_signCounts a_bounds a_firstWords a_sums a_met a_tried a_seen a_apart a_counts a_next := by
  have hq2 : q < 16384 := by omega
  have e1 : (128 : Int32) * nI one + nI two = nI q := by rw [hq]; exact wz_128 one two
  have fin : ∀ v : Bool, v = (R q || fr) → wY_isSame_181 post J J' x1 x2 (wr_b b) (nI i) (wr_b fr) (wr_b v) (128 * nI one + nI two) f_depth f_termLength f_demands f_boundCount f_known f_found f_least a_sizes a_empties a_firsts a_lasts a_letters a_behinds a_steps a_term a_patterns a_kepts a_signs a_signCounts a_bounds a_firstWords a_sums a_met a_tried a_seen a_apart a_counts a_next := by
    intro v hv
    refine wz_st q (wr_b (R q || fr)) (wz_if b (fun z => wz_if fr (fun w => nm_r (nI_1 i) ?_) (fun w => nm_r (nI_1 i) ?_)) (fun z => nm_r (nI_1 i) ?_)) hq2 e1 (by rw [wr_b_v, hv])
    · rw [z, w] at K; rw [w]; exact K
    · rw [z, w] at K; rw [w]; exact K
    · rw [z] at K; exact K
  refine wz_in q (wz_if (R q) (fun z => wz_if fr (fun w => fin false ?_) (fun w => fin true ?_)) (fun z => fin true ?_) (wz_at q (hR q hq2) e1)) hq2 e1
  · rw [z, w]; rfl
  · rw [z, w]; rfl
  · rw [z]; rfl
variable {Q : Nat → ws_Pat} {k j : Nat}
theorem ye_pr_lt (hk : wt_ok (Q k)) (hj : wt_ok (Q j)) (n : Nat) (b : Bool) : ws_pr (wt_d (Q k)) (wt_d (Q j)) n b < 16384 := by
  have h1 := wt_d_lt hk (n / 128) b
  have h2 := wt_d_lt hj (n % 128) b
  unfold ws_pr
  omega
/-- what one sweep over the pairs does -/
theorem ye_sw {post : Int32 → SY → Prop} {J : Int32 → (Nat → Int32) → (Nat → Int32) → (Nat → Int32) → (Nat → Int32) → (Nat → Int32) → (Nat → Int32) → (Nat → Int32) → (Nat → Int32) → (Nat → Int32) → (Nat → Int32) → (Nat → Int32) → (Nat → Int32) → (Nat → Int32) → (Nat → Int32) → (Nat → Int32) → (Nat → Int32) → (Nat → Int32) → (Nat → Int32) → (Nat → Int32) → (Nat → Int32) → (Nat → Int32) → Prop} (hk : k < 3) (hj : j < 3) (ok : wt_ok (Q k)) (oj : wt_ok (Q j)) (T : wr_YT Q a_steps) {R0 : Nat → Bool} (h0 : ye_r 16384 a_apart R0) (hr : ∀ s, s < 16384 → R0 s = true → ws_rch (ws_pr (wt_d (Q k)) (wt_d (Q j))) 8256 s)
    (K : ∀ (b : Bool) (ap : Nat → Int32) (R : Nat → Bool), ye_r 16384 ap R → (∀ s, s < 16384 → R0 s = true → R s = true) → (∀ s, s < 16384 → R s = true → ws_rch (ws_pr (wt_d (Q k)) (wt_d (Q j))) 8256 s) → (b = false → ∀ s c, s < 16384 → R s = true → R (ws_pr (wt_d (Q k)) (wt_d (Q j)) s c) = true) → (b = true → ws_cnt R0 16384 < ws_cnt R 16384) → J (wr_b b) a_sizes a_empties a_firsts a_lasts a_letters a_behinds a_steps a_term a_patterns a_kepts a_signs a_signCounts a_bounds a_firstWords a_sums a_met a_tried a_seen ap a_counts a_next) : ∃ n, wY_isSame_44 post J (nI k) (nI j) f_depth f_termLength f_demands f_boundCount f_known f_found f_least n 0 0 a_sizes a_empties a_firsts a_lasts a_letters a_behinds a_steps a_term a_patterns a_kepts a_signs a_signCounts a_bounds a_firstWords a_sums a_met a_tried a_seen a_apart a_counts a_next := by
  refine pk_loop (fun n i (s : Int32 × (Nat → Int32)) => wY_isSame_44 post J (nI k) (nI j) f_depth f_termLength f_demands f_boundCount f_known f_found f_least n s.1 (nI i) a_sizes a_empties a_firsts a_lasts a_letters a_behinds a_steps a_term a_patterns a_kepts a_signs a_signCounts a_bounds a_firstWords a_sums a_met a_tried a_seen s.2 a_counts a_next) (fun i s => ∃ (b : Bool) (R : Nat → Bool), s.1 = wr_b b ∧ ye_r 16384 s.2 R ∧ (∀ s, s < 16384 → R0 s = true → R s = true) ∧ (∀ s, s < 16384 → R s = true → ws_rch (ws_pr (wt_d (Q k)) (wt_d (Q j))) 8256 s) ∧ (b = false → (∀ t, t < 16384 → R t = R0 t) ∧ ∀ n, n < i → R (n / 2) = true → R (ws_pr (wt_d (Q k)) (wt_d (Q j)) (n / 2) (decide (n % 2 = 1))) = true) ∧ (b = true → ∃ t, t < 16384 ∧ R t = true ∧ R0 t = false)) 32768 0 (0, a_apart) (by omega) ⟨false, R0, rfl, h0, fun _ _ h => h, hr, fun _ => ⟨fun _ _ => rfl, fun n hn => absurd hn (by omega)⟩, fun z => absurd z Bool.false_ne_true⟩ ?_ ?_
  · intro n s I
    obtain ⟨b, R, h1, h2, h3, h4, h5, h6⟩ := I
    refine br_t (nI_le (a := 32768) (b := 32768) (by omega) (by omega)) ?_
    rw [h1]
    refine K b s.2 R h2 h3 h4 (fun z t c ht hR => ?_) (fun z => ws_cnt_lt R0 R 16384 h3 (h6 z))
    have h7 := (h5 z).2 (2 * t + c.toNat) (by cases c <;> simp <;> omega)
    have e1 : (2 * t + c.toNat) / 2 = t := by cases c <;> simp <;> omega
    have e2 : decide ((2 * t + c.toNat) % 2 = 1) = c := by cases c <;> simp <;> omega
    rw [e1, e2] at h7
    exact h7 hR
  · intro n i s hi I ih
    obtain ⟨b, R, h1, h2, h3, h4, h5, h6⟩ := I
    have t1 := T k hk (i / 256 * 2 + i % 2) (by omega)
    have t2 := T j hj (i / 2 % 128 * 2 + i % 2) (by omega)
    rw [show (i / 256 * 2 + i % 2) / 2 = i / 2 / 128 from by omega, show (i / 256 * 2 + i % 2) % 2 = i % 2 from by omega] at t1
    rw [show (i / 2 % 128 * 2 + i % 2) / 2 = i / 2 % 128 from by omega, show (i / 2 % 128 * 2 + i % 2) % 2 = i % 2 from by omega] at t2
    have b1 := wt_d_lt ok (i / 2 / 128) (decide (i % 2 = 1))
    have b2 := wt_d_lt oj (i / 2 % 128) (decide (i % 2 = 1))
    have hq : ws_pr (wt_d (Q k)) (wt_d (Q j)) (i / 2) (decide (i % 2 = 1)) = 128 * wt_d (Q k) (i / 2 / 128) (decide (i % 2 = 1)) + wt_d (Q j) (i / 2 % 128) (decide (i % 2 = 1)) := rfl
    have hql := ye_pr_lt (Q := Q) ok oj (i / 2) (decide (i % 2 = 1))
    have x1 : (256 : Int32) * nI k + nI i / 256 * 2 + (nI i - nI i / 2 * 2) = nI (256 * k + (i / 256 * 2 + i % 2)) := by
      rw [wz_r2 (by omega), wz_d256 (by omega), wz_m2, wz_256, nI_add, Nat.add_assoc]
    have x2 : (256 : Int32) * nI j + (nI i / 2 - nI i / 2 / 128 * 128) * 2 + (nI i - nI i / 2 * 2) = nI (256 * j + (i / 2 % 128 * 2 + i % 2)) := by
      rw [wz_r2 (by omega), wz_d2 (by omega), wz_r128 (by omega), wz_m2, wz_256, nI_add, Nat.add_assoc]
    have x3 : (128 : Int32) * nI (wt_d (Q k) (i / 2 / 128) (decide (i % 2 = 1))) + nI (wt_d (Q j) (i / 2 % 128) (decide (i % 2 = 1))) = nI (ws_pr (wt_d (Q k)) (wt_d (Q j)) (i / 2) (decide (i % 2 = 1))) := by rw [hq]; exact wz_128 _ _
    have nxt : ∀ fr : Bool, fr = (R (i / 2) && !(R (ws_pr (wt_d (Q k)) (wt_d (Q j)) (i / 2) (decide (i % 2 = 1))))) → wY_isSame_139 post J (wY_isSame_44 post J (nI k) (nI j) f_depth f_termLength f_demands f_boundCount f_known f_found f_least n) (nI k) (nI j) (wr_b b) (nI i) (nI (wt_d (Q k) (i / 2 / 128) (decide (i % 2 = 1)))) (nI (wt_d (Q j) (i / 2 % 128) (decide (i % 2 = 1)))) (wr_b fr) f_depth f_termLength f_demands f_boundCount f_known f_found f_least a_sizes a_empties a_firsts a_lasts a_letters a_behinds a_steps a_term a_patterns a_kepts a_signs a_signCounts a_bounds a_firstWords a_sums a_met a_tried a_seen s.2 a_counts a_next := by
      intro fr hfr
      refine ye_139 h2 (by omega) (by omega) hq (ih (wr_b (b || fr), upd s.2 (ws_pr (wt_d (Q k)) (wt_d (Q j)) (i / 2) (decide (i % 2 = 1))) (wr_b (R (ws_pr (wt_d (Q k)) (wt_d (Q j)) (i / 2) (decide (i % 2 = 1))) || fr))) ⟨b || fr, _, rfl, ye_r_set h2 _ _, ?_, ?_, ?_, ?_⟩)
      · intro t ht h
        exact ye_set_m (fun y => by rw [y, Bool.true_or]) (h3 t ht h)
      · intro t ht h
        by_cases e : t = ws_pr (wt_d (Q k)) (wt_d (Q j)) (i / 2) (decide (i % 2 = 1))
        · subst e
          rw [ye_set_s, Bool.or_eq_true] at h
          rcases h with h | h
          · exact h4 _ ht h
          · rw [h] at hfr
            have hp : R (i / 2) = true := by
              cases hh : R (i / 2) with
              | true => rfl
              | false => rw [hh, Bool.false_and] at hfr; exact absurd hfr.symm Bool.false_ne_true
            exact ws_rch_s (h4 _ (by omega) hp) _
        · rw [ye_set_n _ _ e] at h; exact h4 t ht h
      · intro y
        rw [Bool.or_eq_false_iff] at y
        obtain ⟨y1, y2⟩ := y
        have same := ye_set_same (R := R) (t := ws_pr (wt_d (Q k)) (wt_d (Q j)) (i / 2) (decide (i % 2 = 1))) (b := (R (ws_pr (wt_d (Q k)) (wt_d (Q j)) (i / 2) (decide (i % 2 = 1))) || fr)) (by rw [y2, Bool.or_false])
        refine ⟨fun t ht => (same t).trans ((h5 y1).1 t ht), fun m hm hR => ?_⟩
        rw [same] at hR ⊢
        by_cases e : m = i
        · subst e
          rw [y2, hR, Bool.true_and] at hfr
          cases hh : R (ws_pr (wt_d (Q k)) (wt_d (Q j)) (m / 2) (decide (m % 2 = 1))) with
          | true => rfl
          | false => rw [hh] at hfr; exact absurd hfr Bool.false_ne_true
        · exact (h5 y1).2 m (by omega) hR
      · intro y
        cases hb : b with
        | true =>
          obtain ⟨t, u1, u2, u3⟩ := h6 hb
          exact ⟨t, u1, ye_set_m (fun y => by rw [y, Bool.true_or]) u2, u3⟩
        | false =>
          rw [hb, Bool.false_or] at y
          refine ⟨_, hql, ?_, ?_⟩
          · rw [ye_set_s, y, Bool.or_true]
          · rw [← (h5 hb).1 _ hql]
            rw [y] at hfr
            cases hh : R (ws_pr (wt_d (Q k)) (wt_d (Q j)) (i / 2) (decide (i % 2 = 1))) with
            | false => rfl
            | true => rw [hh, Bool.not_true, Bool.and_false] at hfr; exact absurd hfr.symm Bool.false_ne_true
    refine br_f (nI_ge (b := 32768) hi (by omega)) ⟨by decide, by decide, wz_ld (256 * k + (i / 256 * 2 + i % 2)) _ ⟨by decide, by decide, by decide, wz_ld (256 * j + (i / 2 % 128 * 2 + i % 2)) _ ⟨by decide, wz_in (i / 2) ?_ (by omega) (wz_d2 (by omega))⟩ (by omega) x2 t2⟩ (by omega) x1 t1⟩
    rw [h1]
    refine wz_if (R (i / 2)) (fun z => nxt false (by rw [z]; rfl)) (fun z => wz_in _ (wz_if (R (ws_pr (wt_d (Q k)) (wt_d (Q j)) (i / 2) (decide (i % 2 = 1)))) (fun w => nxt true (by rw [z, w]; rfl)) (fun w => nxt false (by rw [z, w]; rfl)) (wz_at _ (h2 _ hql) x3)) hql x3) (wz_at _ (h2 _ (by omega)) (wz_d2 (by omega)))
theorem ye_same {post : Int32 → SY → Prop} (hk : k < 3) (hj : j < 3) (ok : wt_ok (Q k)) (oj : wt_ok (Q j)) (L : wr_YL (Q k) (5 + k) a_sizes a_empties a_firsts a_lasts a_letters a_behinds) (L' : wr_YL (Q j) (5 + j) a_sizes a_empties a_firsts a_lasts a_letters a_behinds) (T : wr_YT Q a_steps) (K : ∀ (b : Bool) (ap : Nat → Int32), (b = true ↔ ∀ w, wt_a (Q k) (ws_run (wt_d (Q k)) w 64) = wt_a (Q j) (ws_run (wt_d (Q j)) w 64)) → post (wr_b b) (f_depth, f_termLength, f_demands, f_boundCount, f_known, f_found, f_least, a_sizes, a_empties, a_firsts, a_lasts, a_letters, a_behinds, a_steps, a_term, a_patterns, a_kepts, a_signs, a_signCounts, a_bounds, a_firstWords, a_sums, a_met, a_tried, a_seen, ap, a_counts, a_next)) : wpY_isSame post (f_depth, f_termLength, f_demands, f_boundCount, f_known, f_found, f_least, a_sizes, a_empties, a_firsts, a_lasts, a_letters, a_behinds, a_steps, a_term, a_patterns, a_kepts, a_signs, a_signCounts, a_bounds, a_firstWords, a_sums, a_met, a_tried, a_seen, a_apart, a_counts, a_next) (nI k) (nI j) := by
  have hd : ∀ s b, s < 16384 → ws_pr (wt_d (Q k)) (wt_d (Q j)) s b < 16384 := fun s b _ => ye_pr_lt (Q := Q) ok oj s b
  have hjl : ∀ s b, s < 128 → wt_d (Q j) s b < 128 := fun s b _ => by have := wt_d_lt oj s b; omega
  have fin : ∀ (ap : Nat → Int32) (R : Nat → Bool), ye_r 16384 ap R → R 8256 = true → (∀ s, s < 16384 → R s = true → ws_rch (ws_pr (wt_d (Q k)) (wt_d (Q j))) 8256 s) → (∀ s c, s < 16384 → R s = true → R (ws_pr (wt_d (Q k)) (wt_d (Q j)) s c) = true) → ∃ n, wY_isSame_209 post (nI k) (nI j) f_depth f_termLength f_demands f_boundCount f_known f_found f_least a_sizes a_empties a_firsts a_lasts a_letters a_behinds a_steps a_term a_patterns a_kepts a_signs a_signCounts a_bounds a_firstWords a_sums a_met a_tried a_seen ap a_counts a_next n 0 := by
    intro ap R h1 h2 h3 h4
    refine pk_loop (fun n i (_ : Unit) => wY_isSame_209 post (nI k) (nI j) f_depth f_termLength f_demands f_boundCount f_known f_found f_least a_sizes a_empties a_firsts a_lasts a_letters a_behinds a_steps a_term a_patterns a_kepts a_signs a_signCounts a_bounds a_firstWords a_sums a_met a_tried a_seen ap a_counts a_next n (nI i)) (fun i _ => ∀ s, s < i → R s = true → wt_a (Q k) (s / 128) = wt_a (Q j) (s % 128)) 16384 0 () (by omega) (fun s hs => absurd hs (by omega)) ?_ ?_
    · intro n _ I
      refine br_t (nI_le (a := 16384) (b := 16384) (by omega) (by omega)) (K true ap ⟨fun _ w => ?_, fun _ => rfl⟩)
      have q1 := ws_clo hd h4 w 8256 (by omega) h2
      have q2 := ws_pr_run (wt_d (Q k)) (wt_d (Q j)) hjl w 64 64 (by omega)
      have q3 := ws_run_lt hjl w 64 (by omega)
      have q4 := wt_run_lt ok w 64 (by omega)
      rw [show 128 * 64 + 64 = 8256 from rfl] at q2
      rw [q2] at q1
      have q5 := I _ (by omega) q1
      rw [show (128 * ws_run (wt_d (Q k)) w 64 + ws_run (wt_d (Q j)) w 64) / 128 = ws_run (wt_d (Q k)) w 64 from by omega, show (128 * ws_run (wt_d (Q k)) w 64 + ws_run (wt_d (Q j)) w 64) % 128 = ws_run (wt_d (Q j)) w 64 from by omega] at q5
      exact q5
    · intro n i _ hi I ih
      refine br_f (nI_ge (b := 16384) hi (by omega)) (wz_in i (wz_if (R i) (fun z => nm_r (nI_1 i) (ih () ?_)) (fun z => ⟨by decide, ?_⟩) (wz_at i (h1 i hi))))
      · intro s hs hR
        by_cases e : s = i
        · subst e; rw [z] at hR; exact absurd hR Bool.false_ne_true
        · exact I s (by omega) hR
      · refine yd_acc (wz_d128 (by omega)) hk (by omega) L ⟨by decide, yd_acc (wz_r128 (by omega)) hj (by omega) L' (wz_c (wr_b_e _ _) (fun w => nm_r (nI_1 i) (ih () ?_)) (fun w => K false ap ⟨fun y => absurd y Bool.false_ne_true, fun y => ?_⟩))⟩
        · intro s hs hR
          by_cases e : s = i
          · subst e; exact w
          · exact I s (by omega) hR
        · exfalso
          obtain ⟨v, hv⟩ := h3 i hi z
          have q2 := ws_pr_run (wt_d (Q k)) (wt_d (Q j)) hjl v 64 64 (by omega)
          have q3 := ws_run_lt hjl v 64 (by omega)
          rw [show 128 * 64 + 64 = 8256 from rfl, hv] at q2
          apply w
          rw [show i / 128 = ws_run (wt_d (Q k)) v 64 from by omega, show i % 128 = ws_run (wt_d (Q j)) v 64 from by omega]
          exact y v
  refine pk_loop (fun n i ap => wY_isSame_2 post (nI k) (nI j) f_depth f_termLength f_demands f_boundCount f_known f_found f_least n (nI i) a_sizes a_empties a_firsts a_lasts a_letters a_behinds a_steps a_term a_patterns a_kepts a_signs a_signCounts a_bounds a_firstWords a_sums a_met a_tried a_seen ap a_counts a_next) (fun i ap => ∀ s, s < i → ap s = wr_b (decide (s = 8256))) 16384 0 a_apart (by omega) (fun s hs => absurd hs (by omega)) ?_ ?_
  · intro n ap I
    refine br_t (nI_le (a := 16384) (b := 16384) (by omega) (by omega)) ?_
    refine loop_m (σ := Bool × (Nat → Bool) × (Nat → Int32)) (fun n s => wY_isSame_35 post (nI k) (nI j) f_depth f_termLength f_demands f_boundCount f_known f_found f_least n (wr_b s.1) a_sizes a_empties a_firsts a_lasts a_letters a_behinds a_steps a_term a_patterns a_kepts a_signs a_signCounts a_bounds a_firstWords a_sums a_met a_tried a_seen s.2.2 a_counts a_next) (fun s => ye_r 16384 s.2.2 s.2.1 ∧ s.2.1 8256 = true ∧ (∀ t, t < 16384 → s.2.1 t = true → ws_rch (ws_pr (wt_d (Q k)) (wt_d (Q j))) 8256 t) ∧ (s.1 = false → ∀ t c, t < 16384 → s.2.1 t = true → s.2.1 (ws_pr (wt_d (Q k)) (wt_d (Q j)) t c) = true)) (fun s => 2 * (16384 - ws_cnt s.2.1 16384) + (if s.1 = true then 1 else 0)) ?_ (true, (fun s => decide (s = 8256)), ap) ⟨I, rfl, ?_, fun z => absurd z.symm Bool.false_ne_true⟩
    · rintro n ⟨b, R, ap⟩ ⟨h1, h2, h3, h4⟩ ih
      dsimp only at h1 h2 h3 h4 ih ⊢
      refine wz_if b (fun z => fin ap R h1 h2 h3 (h4 z)) (fun z => ye_sw hk hj ok oj T h1 h3 (fun b' ap' R' k1 k2 k3 k4 k5 => ih (b', R', ap') ⟨k1, k2 _ (by omega) h2, k3, k4⟩ ?_))
      dsimp only
      have m1 := ws_cnt_mono R R' 16384 k2
      have m2 := ws_cnt_le R' 16384
      rw [z, if_pos rfl]
      cases hb : b' with
      | true => have := k5 hb; rw [if_pos rfl]; omega
      | false => rw [if_neg Bool.false_ne_true]; omega
    · intro t ht h
      rw [show t = 8256 from of_decide_eq_true h]
      exact ws_rch_0 _ _
  · intro n i ap hi I ih
    have nx : ∀ v, v = wr_b (decide (i = 8256)) → ∀ s, s < i + 1 → upd ap i v s = wr_b (decide (s = 8256)) := by
      intro v hv s hs
      by_cases e : s = i
      · subst e; rw [pk_us, hv]
      · rw [pk_un e]; exact I s (by omega)
    refine br_f (nI_ge (b := 16384) hi (by omega)) (pk_eq i 8256 (fun z => wz_st i 1 (nm_r (nI_1 i) (ih _ (nx 1 ?_)))) (fun z => wz_st i 0 (nm_r (nI_1 i) (ih _ (nx 0 ?_)))))
    · rw [decide_eq_true z]; rfl
    · rw [decide_eq_false z]; rfl
end
