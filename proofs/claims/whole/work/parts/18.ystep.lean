/-! the reference: one step, the table of steps, the start -/
theorem ya_64 : ∀ t, t < 128 → (t &&& 64 = 0 ↔ t.testBit 6 = false) := by decide +kernel
theorem ya_fit {p : ws_Pat} (hp : wt_ok p) {i c : Nat} (hi : i < wt_m p) (hc : c < 2) : (wt_c p i = 2 ∨ wt_c p i = c) ↔ (wt_r p (decide (c = 1))).testBit i = true := by
  have h := hp.2.2.2.2.2.1 i hi
  unfold wt_c wt_r
  have e : c = 0 ∨ c = 1 := by omega
  rcases e with rfl | rfl
  · cases hz : (wt_Z p).testBit i <;> cases ho : (wt_O p).testBit i <;> simp [hz, ho] at h ⊢
  · cases hz : (wt_Z p).testBit i <;> cases ho : (wt_O p).testBit i <;> simp [hz, ho] at h ⊢
section
variable {f_depth f_termLength f_demands f_boundCount f_known f_found f_least : Int32} {a_sizes a_empties a_firsts a_lasts a_letters a_behinds a_steps a_term a_patterns a_kepts a_signs a_signCounts a_bounds a_firstWords a_sums a_met a_tried a_seen a_apart a_counts a_next : Nat → Int32}
theorem ya_step {post : Int32 → Prop} {p : ws_Pat} {s t c : Nat} {x y z : Int32} (hx : x = nI s) (hy : y = nI t) (hz : z = nI c) (hs : s < 8) (ht : t < 128) (hc : c < 2) (hp : wt_ok p) (L : wr_YL p s a_sizes a_empties a_firsts a_lasts a_letters a_behinds) (K : post (nI (wt_d p t (decide (c = 1))))) : wpY_step post (f_depth, f_termLength, f_demands, f_boundCount, f_known, f_found, f_least, a_sizes, a_empties, a_firsts, a_lasts, a_letters, a_behinds, a_steps, a_term, a_patterns, a_kepts, a_signs, a_signCounts, a_bounds, a_firstWords, a_sums, a_met, a_tried, a_seen, a_apart, a_counts, a_next) x y z := by
  subst hx hy hz
  obtain ⟨c1, c2, c3, c4, c5⟩ := L
  have hm := hp.1
  have h64 : (64 : Int32) = nI 64 := rfl
  have hlt : t &&& 64 ≤ t := Nat.and_le_left
  have loop : ∀ x, x = nI (wt_i p t) → ∃ n, wY_step_22 post (nI s) (nI t) (nI c) f_depth f_termLength f_demands f_boundCount f_known f_found f_least a_sizes a_empties a_firsts a_lasts a_letters a_behinds a_steps a_term a_patterns a_kepts a_signs a_signCounts a_bounds a_firstWords a_sums a_met a_tried a_seen a_apart a_counts a_next n x 0 := by
    intro x hx
    refine pk_loop (fun n i x => wY_step_22 post (nI s) (nI t) (nI c) f_depth f_termLength f_demands f_boundCount f_known f_found f_least a_sizes a_empties a_firsts a_lasts a_letters a_behinds a_steps a_term a_patterns a_kepts a_signs a_signCounts a_bounds a_firstWords a_sums a_met a_tried a_seen a_apart a_counts a_next n x (nI i)) (fun i x => x = nI (ws_or (wt_i p t) (wt_f p) t i)) (wt_m p) 0 x (by omega) hx ?_ ?_
    · intro n x I
      subst I
      have hX : ws_or (wt_i p t) (wt_f p) t (wt_m p) < 2 ^ wt_m p := by
        refine ws_or_lt _ _ _ _ ?_ hp.2.2.2.2.2.2.1 _
        unfold wt_i
        split
        · exact hp.2.1
        · exact Nat.two_pow_pos _
      have hX6 : ws_or (wt_i p t) (wt_f p) t 6 = ws_or (wt_i p t) (wt_f p) t (wt_m p) := by
        have := ws_or_more (wt_i p t) (wt_f p) t (wt_m p) hp.2.2.2.2.2.2.2 (6 - wt_m p)
        rw [show wt_m p + (6 - wt_m p) = 6 from by omega] at this
        exact this
      have h6 := wt_p6 hp
      refine wz_in s (br_t (by rw [wz_at s c1]; exact nI_le (Nat.le_refl _) (by omega)) ?_)
      refine pk_loop (fun n i x => wY_step_74 post (nI s) (nI c) f_depth f_termLength f_demands f_boundCount f_known f_found f_least a_sizes a_empties a_firsts a_lasts a_letters a_behinds a_steps a_term a_patterns a_kepts a_signs a_signCounts a_bounds a_firstWords a_sums a_met a_tried a_seen a_apart a_counts a_next n x (nI i)) (fun i x => x = nI (wy_fit (ws_or (wt_i p t) (wt_f p) t (wt_m p)) (wt_r p (decide (c = 1))) i)) (wt_m p) 0 _ (by omega) rfl ?_ ?_
      · intro n x I
        subst I
        refine wz_in s (br_t (by rw [wz_at s c1]; exact nI_le (Nat.le_refl _) (by omega)) ?_)
        rw [wy_fit_eq hm hX, ← hX6]
        exact K
      · intro n i x hi I ih
        subst I
        have hl := wz_at (6 * s + i) (c5 i hi).1 (wz_6m s i)
        have hf := ya_fit hp hi hc
        have hc2 : wt_c p i ≤ 2 := by
          unfold wt_c
          split
          · split <;> omega
          · omega
        have yes : (wt_r p (decide (c = 1))).testBit i = true → wY_step_122 post (wY_step_74 post (nI s) (nI c) f_depth f_termLength f_demands f_boundCount f_known f_found f_least a_sizes a_empties a_firsts a_lasts a_letters a_behinds a_steps a_term a_patterns a_kepts a_signs a_signCounts a_bounds a_firstWords a_sums a_met a_tried a_seen a_apart a_counts a_next n) (nI s) (nI c) (nI (wy_fit (ws_or (wt_i p t) (wt_f p) t (wt_m p)) (wt_r p (decide (c = 1))) i)) (nI i) 1 f_depth f_termLength f_demands f_boundCount f_known f_found f_least a_sizes a_empties a_firsts a_lasts a_letters a_behinds a_steps a_term a_patterns a_kepts a_signs a_signCounts a_bounds a_firstWords a_sums a_met a_tried a_seen a_apart a_counts a_next := by
          intro w
          refine br_f (by decide) (nm_r (nI_1 i) (ih _ ?_))
          rw [wy_fit_s, if_pos w]
        refine wz_in s (br_f (by rw [wz_at s c1]; exact nI_ge hi (by omega)) (wz_in (6 * s + i) (pk_eq (wt_c p i) 2 (fun w => yes (hf.mp (Or.inl w))) (fun w => wz_in (6 * s + i) (pk_eq (wt_c p i) c (fun w2 => yes (hf.mp (Or.inr w2))) (fun w2 => br_t rfl (nm_r (wr_clr _ (wy_fit_lt _ (by omega) i) i (by omega)) (nm_r (nI_1 i) (ih _ ?_)))) hl) (by omega) (wz_6m s i)) hl) (by omega) (wz_6m s i)))
        rw [wy_fit_s, if_neg (fun w3 => (hf.mpr w3).elim w w2)]
    · intro n i x hi I ih
      subst I
      refine wz_in s (br_f (by rw [wz_at s c1]; exact nI_ge hi (by omega)) (wz_tb (t.testBit i) (fun w => ?_) (fun w => ?_) (wr_bit1 (by omega) (by omega))))
      · refine wz_in (6 * s + i) (nm_r (e' := nI (ws_or (wt_i p t) (wt_f p) t (i + 1))) ?_ (nm_r (nI_1 i) (ih _ rfl))) (by omega) (wz_6m s i)
        rw [wz_at (6 * s + i) (c5 i hi).2 (wz_6m s i), wr_or, ws_or_s, if_pos w]
      · refine nm_r (nI_1 i) (ih _ ?_)
        rw [ws_or_s, if_neg (by rw [w]; exact Bool.false_ne_true)]
  refine pk_eq (t &&& 64) 0 (fun w => loop 0 ?_) (fun w => wz_ld s (nI (wt_F p)) (loop _ ?_) (by omega) rfl c3) (by rw [h64, nx_and])
  · unfold wt_i
    rw [(ya_64 t ht).mp w, if_neg Bool.false_ne_true]; rfl
  · unfold wt_i
    have : t.testBit 6 = true := by
      cases h : t.testBit 6 with
      | true => rfl
      | false => exact absurd ((ya_64 t ht).mpr h) w
    rw [this, if_pos rfl]
theorem ya_ms {post : SY → Prop} {p : ws_Pat} {k : Nat} (hk : k < 3) (hp : wt_ok p) (L : wr_YL p (5 + k) a_sizes a_empties a_firsts a_lasts a_letters a_behinds) (K : ∀ st : Nat → Int32, (∀ n, n < 256 → st (256 * k + n) = nI (wt_d p (n / 2) (decide (n % 2 = 1)))) → (∀ j, (∀ n, n < 256 → j ≠ 256 * k + n) → st j = a_steps j) → post (f_depth, f_termLength, f_demands, f_boundCount, 0, f_found, f_least, a_sizes, a_empties, a_firsts, a_lasts, a_letters, a_behinds, st, a_term, a_patterns, a_kepts, a_signs, a_signCounts, a_bounds, a_firstWords, a_sums, a_met, a_tried, a_seen, a_apart, a_counts, a_next)) : wpY_makeSteps post (f_depth, f_termLength, f_demands, f_boundCount, f_known, f_found, f_least, a_sizes, a_empties, a_firsts, a_lasts, a_letters, a_behinds, a_steps, a_term, a_patterns, a_kepts, a_signs, a_signCounts, a_bounds, a_firstWords, a_sums, a_met, a_tried, a_seen, a_apart, a_counts, a_next) (nI k) := by
  refine pk_loop (fun n i st => wY_makeSteps_2 post (nI k) f_depth f_termLength f_demands f_boundCount f_known f_found f_least n (nI i) a_sizes a_empties a_firsts a_lasts a_letters a_behinds st a_term a_patterns a_kepts a_signs a_signCounts a_bounds a_firstWords a_sums a_met a_tried a_seen a_apart a_counts a_next) (fun i st => (∀ n, n < i → st (256 * k + n) = nI (wt_d p (n / 2) (decide (n % 2 = 1)))) ∧ (∀ j, (∀ n, n < 256 → j ≠ 256 * k + n) → st j = a_steps j)) 256 0 a_steps (by omega) ⟨fun n hn => absurd hn (by omega), fun _ _ => rfl⟩ ?_ ?_
  · intro n st I
    exact br_t (nI_le (a := 256) (b := 256) (by omega) (by omega)) (K st I.1 I.2)
  · intro n i st hi I ih
    refine br_f (nI_ge (b := 256) hi (by omega)) ⟨by decide, by decide, ?_⟩
    refine ya_step (wz_5 k) (wz_d2 (by omega)) (wz_r2 (by omega)) (by omega) (by omega) (Nat.mod_lt _ (by omega)) hp L (wz_st (256 * k + i) _ (nm_r (nI_1 i) (ih _ ⟨?_, ?_⟩)) (by omega) (wz_256 k i) rfl)
    · intro j hj
      by_cases e : j = i
      · subst e; exact pk_us
      · rw [pk_un (by omega)]; exact I.1 j (by omega)
    · intro j hj
      rw [pk_un (hj i hi)]; exact I.2 j hj
end
theorem ya_init {post : SY → Prop} (K : ∀ em st : Nat → Int32, wr_YP (fun _ => wt_sim 3) (fun _ => 0) em (fun _ => 0) (fun _ => 0) (fun _ => 0) (fun _ => 0) → wr_YT (fun _ => wt_sim 3) st → post (0, 0, 0, 0, 0, 0, 0, (fun _ => 0), em, (fun _ => 0), (fun _ => 0), (fun _ => 0), (fun _ => 0), st, (fun _ => 0), (fun _ => 0), (fun _ => 0), (fun _ => 0), (fun _ => 0), (fun _ => 0), (fun _ => 0), (fun _ => 0), (fun _ => 0), (fun _ => 0), (fun _ => 0), (fun _ => 0), (fun _ => 0), (fun _ => 0))) : wpY_init post := by
  refine pk_loop (fun n k (s : (Nat → Int32) × (Nat → Int32)) => wY_init_175 post n (nI k) 0 0 0 0 0 0 0 (fun _ => 0) s.1 (fun _ => 0) (fun _ => 0) (fun _ => 0) (fun _ => 0) s.2 (fun _ => 0) (fun _ => 0) (fun _ => 0) (fun _ => 0) (fun _ => 0) (fun _ => 0) (fun _ => 0) (fun _ => 0) (fun _ => 0) (fun _ => 0) (fun _ => 0) (fun _ => 0) (fun _ => 0) (fun _ => 0)) (fun k s => (∀ j, j < k → s.1 (5 + j) = 1) ∧ ∀ j, j < k → ∀ n, n < 256 → s.2 (256 * j + n) = nI (wt_d (wt_sim 3) (n / 2) (decide (n % 2 = 1)))) 3 0 ((fun _ => 0), (fun _ => 0)) (by omega) ⟨fun j hj => absurd hj (by omega), fun j hj => absurd hj (by omega)⟩ ?_ ?_
  · intro n s I
    exact br_t (nI_le (a := 3) (b := 3) (by omega) (by omega)) (K s.1 s.2 (fun k hk => ⟨rfl, I.1 k hk, rfl, rfl, fun i hi => absurd hi (Nat.not_lt_zero i)⟩) I.2)
  · intro n k s hk I ih
    refine br_f (nI_ge (b := 3) hk (by omega)) (wz_st (5 + k) 1 ?_ (by omega) (wz_5 k) rfl)
    refine ya_ms hk (wt_sim_ok (w := 3) (by decide)) ⟨rfl, pk_us, rfl, rfl, fun i hi => absurd hi (Nat.not_lt_zero i)⟩ (fun st h1 h2 => nm_r (nI_1 k) (ih (upd s.1 (5 + k) 1, st) ⟨?_, ?_⟩))
    · intro j hj
      dsimp only
      by_cases e : j = k
      · subst e; exact pk_us
      · rw [pk_un (by omega)]; exact I.1 j (by omega)
    · intro j hj m hm
      dsimp only
      by_cases e : j = k
      · subst e; exact h1 m hm
      · rw [h2 _ (fun q hq => by omega)]; exact I.2 j (by omega) m hm
