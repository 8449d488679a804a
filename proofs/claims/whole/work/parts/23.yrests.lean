/-! the reference: how many rests -/
section
variable {f_depth f_termLength f_demands f_boundCount f_known f_found f_least : Int32} {a_sizes a_empties a_firsts a_lasts a_letters a_behinds a_steps a_term a_patterns a_kepts a_signs a_signCounts a_bounds a_firstWords a_sums a_met a_tried a_seen a_apart a_counts a_next : Nat → Int32}
variable {Q : Nat → ws_Pat} {k : Nat}
/-- one pair, both letters -/
theorem yf_la {post : Int32 → SY → Prop} {i : Nat} (hk : k < 3) (ok : wt_ok (Q k)) (T : wr_YT Q a_steps) (hi : i < 16384) {R : Nat → Bool} (hR : ye_r 16384 a_apart R) (K : ∀ (r : Bool) (ap : Nat → Int32), ye_r 16384 ap (ye_set R i r) → (r = true → R i = true ∨ ∃ c, R (ws_pr (wt_d (Q k)) (wt_d (Q k)) i c) = true) → (r = false → R i = false ∧ ∀ c, R (ws_pr (wt_d (Q k)) (wt_d (Q k)) i c) = false) → post (wr_b r) (f_depth, f_termLength, f_demands, f_boundCount, f_known, f_found, f_least, a_sizes, a_empties, a_firsts, a_lasts, a_letters, a_behinds, a_steps, a_term, a_patterns, a_kepts, a_signs, a_signCounts, a_bounds, a_firstWords, a_sums, a_met, a_tried, a_seen, ap, a_counts, a_next)) : wpY_leadApart post (f_depth, f_termLength, f_demands, f_boundCount, f_known, f_found, f_least, a_sizes, a_empties, a_firsts, a_lasts, a_letters, a_behinds, a_steps, a_term, a_patterns, a_kepts, a_signs, a_signCounts, a_bounds, a_firstWords, a_sums, a_met, a_tried, a_seen, a_apart, a_counts, a_next) (nI k) (nI k) (nI i) := by
  refine pk_loop (fun n c ap => wY_leadApart_3 post (nI k) (nI k) (nI i) f_depth f_termLength f_demands f_boundCount f_known f_found f_least n (nI c) a_sizes a_empties a_firsts a_lasts a_letters a_behinds a_steps a_term a_patterns a_kepts a_signs a_signCounts a_bounds a_firstWords a_sums a_met a_tried a_seen ap a_counts a_next) (fun c ap => ∃ r : Bool, ye_r 16384 ap (ye_set R i r) ∧ (r = true → R i = true ∨ ∃ c, R (ws_pr (wt_d (Q k)) (wt_d (Q k)) i c) = true) ∧ (r = false → R i = false ∧ ∀ b : Bool, b.toNat < c → R (ws_pr (wt_d (Q k)) (wt_d (Q k)) i b) = false)) 2 0 a_apart (by omega) ⟨R i, ?_, fun z => Or.inl z, fun z => ⟨z, fun b hb => absurd hb (by omega)⟩⟩ ?_ ?_
  · intro s hs
    rw [ye_set_same rfl]
    exact hR s hs
  · intro n ap I
    obtain ⟨r, h1, h2, h3⟩ := I
    have e := h1 i hi
    rw [ye_set_s] at e
    have e2 := wz_at i e
    refine br_t (nI_le (a := 2) (b := 2) (by omega) (by omega)) (wz_in i ?_)
    rw [e2]
    exact ⟨wr_b_n r, K r ap h1 h2 (fun z => ⟨(h3 z).1, fun c => (h3 z).2 c (by cases c <;> decide)⟩)⟩
  · intro n c ap hc I ih
    obtain ⟨r, h1, h2, h3⟩ := I
    have t1 := T k hk (i / 128 * 2 + c) (by omega)
    have t2 := T k hk (i % 128 * 2 + c) (by omega)
    rw [show (i / 128 * 2 + c) / 2 = i / 128 from by omega, show (i / 128 * 2 + c) % 2 = c from by omega] at t1
    rw [show (i % 128 * 2 + c) / 2 = i % 128 from by omega, show (i % 128 * 2 + c) % 2 = c from by omega] at t2
    have b1 := wt_d_lt ok (i / 128) (decide (c = 1))
    have b2 := wt_d_lt ok (i % 128) (decide (c = 1))
    have hq : ws_pr (wt_d (Q k)) (wt_d (Q k)) i (decide (c = 1)) = 128 * wt_d (Q k) (i / 128) (decide (c = 1)) + wt_d (Q k) (i % 128) (decide (c = 1)) := rfl
    have hql := ye_pr_lt (Q := Q) ok ok i (decide (c = 1))
    have x1 : (256 : Int32) * nI k + nI i / 128 * 2 + nI c = nI (256 * k + (i / 128 * 2 + c)) := by
      rw [wz_d128 (by omega), wz_m2, wz_256, nI_add, Nat.add_assoc]
    have x2 : (256 : Int32) * nI k + (nI i - nI i / 128 * 128) * 2 + nI c = nI (256 * k + (i % 128 * 2 + c)) := by
      rw [wz_r128 (by omega), wz_m2, wz_256, nI_add, Nat.add_assoc]
    have x3 : (128 : Int32) * nI (wt_d (Q k) (i / 128) (decide (c = 1))) + nI (wt_d (Q k) (i % 128) (decide (c = 1))) = nI (ws_pr (wt_d (Q k)) (wt_d (Q k)) i (decide (c = 1))) := by rw [hq]; exact wz_128 _ _
    have e := h1 i hi
    rw [ye_set_s] at e
    have eq := h1 _ hql
    have bt : ∀ b : Bool, b.toNat < c + 1 → b.toNat < c ∨ b = decide (c = 1) := by
      intro b hb
      cases b
      · by_cases z : c = 0
        · subst z; exact Or.inr rfl
        · exact Or.inl (by show 0 < c; omega)
      · change 1 < c + 1 at hb
        exact Or.inr (by rw [decide_eq_true (by omega)])
    have nxt : ∀ r' : Bool, (r' = true → R i = true ∨ ∃ c, R (ws_pr (wt_d (Q k)) (wt_d (Q k)) i c) = true) → (r' = false → R i = false ∧ ∀ b : Bool, b.toNat < c + 1 → R (ws_pr (wt_d (Q k)) (wt_d (Q k)) i b) = false) → wY_leadApart_3 post (nI k) (nI k) (nI i) f_depth f_termLength f_demands f_boundCount f_known f_found f_least n (nI (c + 1)) a_sizes a_empties a_firsts a_lasts a_letters a_behinds a_steps a_term a_patterns a_kepts a_signs a_signCounts a_bounds a_firstWords a_sums a_met a_tried a_seen (upd ap i (wr_b r')) a_counts a_next := by
      intro r' k1 k2
      refine ih _ ⟨r', ?_, k1, k2⟩
      intro s hs
      by_cases z : s = i
      · subst z; rw [pk_us, ye_set_s]
      · rw [pk_un z, ye_set_n R r' z]
        have := h1 s hs
        rw [ye_set_n R r z] at this
        exact this
    refine br_f (nI_ge (b := 2) hc (by omega)) ⟨by decide, wz_ld (256 * k + (i / 128 * 2 + c)) _ ⟨by decide, wz_ld (256 * k + (i % 128 * 2 + c)) _ (wz_in i (wz_if r (fun z => wz_in (ws_pr (wt_d (Q k)) (wt_d (Q k)) i (decide (c = 1))) (wz_if (ye_set R i r (ws_pr (wt_d (Q k)) (wt_d (Q k)) i (decide (c = 1)))) (fun w => wz_in i (nm_r (e' := upd ap i (wr_b false)) (by rw [nI_clamp (by omega)]; rfl) (nm_r (nI_1 c) (nxt false (fun y => absurd y Bool.false_ne_true) (fun _ => ⟨(h3 z).1, fun b hb => ?_⟩))))) (fun w => wz_in i (nm_r (e' := upd ap i (wr_b true)) (by rw [nI_clamp (by omega)]; rfl) (nm_r (nI_1 c) (nxt true (fun _ => ?_) (fun y => absurd y.symm Bool.false_ne_true))))) (wz_at _ eq x3)) hql x3) (fun z => wz_in i (nm_r (e' := upd ap i (wr_b true)) (by rw [nI_clamp (by omega)]; rfl) (nm_r (nI_1 c) (nxt true (fun _ => h2 z) (fun y => absurd y.symm Bool.false_ne_true))))) (wz_at i e))) (by omega) x2 t2⟩ (by omega) x1 t1⟩
    · rcases bt b hb with y | y
      · exact (h3 z).2 b y
      · subst y
        by_cases q : ws_pr (wt_d (Q k)) (wt_d (Q k)) i (decide (c = 1)) = i
        · rw [q]; exact (h3 z).1
        · rw [ye_set_n R r q] at w; exact w
    · by_cases q : ws_pr (wt_d (Q k)) (wt_d (Q k)) i (decide (c = 1)) = i
      · rw [q, ye_set_s, z] at w; exact absurd w Bool.false_ne_true
      · rw [ye_set_n R r q] at w; exact Or.inr ⟨_, w⟩
theorem yf_ta {post : SY → Prop} (hk : k < 3) (ok : wt_ok (Q k)) (L : wr_YL (Q k) (5 + k) a_sizes a_empties a_firsts a_lasts a_letters a_behinds) (T : wr_YT Q a_steps) (K : ∀ (ap : Nat → Int32) (R : Nat → Bool), ye_r 16384 ap R → (∀ s t, s < 128 → t < 128 → (R (128 * s + t) = false ↔ ws_eqv (wt_d (Q k)) (wt_a (Q k)) s t)) → post (f_depth, f_termLength, f_demands, f_boundCount, f_known, f_found, f_least, a_sizes, a_empties, a_firsts, a_lasts, a_letters, a_behinds, a_steps, a_term, a_patterns, a_kepts, a_signs, a_signCounts, a_bounds, a_firstWords, a_sums, a_met, a_tried, a_seen, ap, a_counts, a_next)) : wpY_tellApart post (f_depth, f_termLength, f_demands, f_boundCount, f_known, f_found, f_least, a_sizes, a_empties, a_firsts, a_lasts, a_letters, a_behinds, a_steps, a_term, a_patterns, a_kepts, a_signs, a_signCounts, a_bounds, a_firstWords, a_sums, a_met, a_tried, a_seen, a_apart, a_counts, a_next) (nI k) (nI k) := by
  have hd : ∀ s b, s < 128 → wt_d (Q k) s b < 128 := fun s b _ => by have := wt_d_lt ok s b; omega
  have fin : ∀ (ap : Nat → Int32) (R : Nat → Bool), ye_r 16384 ap R → (∀ n, n < 16384 → R n = true → ws_ap (wt_d (Q k)) (wt_d (Q k)) (wt_a (Q k)) (wt_a (Q k)) n) → (∀ n, n < 16384 → R n = false → wt_a (Q k) (n / 128) = wt_a (Q k) (n % 128)) → (∀ n c, n < 16384 → R n = false → R (ws_pr (wt_d (Q k)) (wt_d (Q k)) n c) = false) → post (f_depth, f_termLength, f_demands, f_boundCount, f_known, f_found, f_least, a_sizes, a_empties, a_firsts, a_lasts, a_letters, a_behinds, a_steps, a_term, a_patterns, a_kepts, a_signs, a_signCounts, a_bounds, a_firstWords, a_sums, a_met, a_tried, a_seen, ap, a_counts, a_next) := by
    intro ap R h1 h2 h3 h4
    exact K ap R h1 (fun s t hs ht => ws_ap_iff hd hd h3 h4 h2 hs ht)
  refine pk_loop (fun n i ap => wY_tellApart_2 post (nI k) (nI k) f_depth f_termLength f_demands f_boundCount f_known f_found f_least n (nI i) a_sizes a_empties a_firsts a_lasts a_letters a_behinds a_steps a_term a_patterns a_kepts a_signs a_signCounts a_bounds a_firstWords a_sums a_met a_tried a_seen ap a_counts a_next) (fun i ap => ∀ s, s < i → ap s = wr_b (decide (wt_a (Q k) (s / 128) ≠ wt_a (Q k) (s % 128)))) 16384 0 a_apart (by omega) (fun s hs => absurd hs (by omega)) ?_ ?_
  · intro n ap I
    refine br_t (nI_le (a := 16384) (b := 16384) (by omega) (by omega)) ?_
    refine loop_m (σ := Bool × (Nat → Bool) × (Nat → Int32)) (fun n s => wY_tellApart_51 post (nI k) (nI k) n (wr_b s.1) f_depth f_termLength f_demands f_boundCount f_known f_found f_least a_sizes a_empties a_firsts a_lasts a_letters a_behinds a_steps a_term a_patterns a_kepts a_signs a_signCounts a_bounds a_firstWords a_sums a_met a_tried a_seen s.2.2 a_counts a_next) (fun s => ye_r 16384 s.2.2 s.2.1 ∧ (∀ n, n < 16384 → s.2.1 n = true → ws_ap (wt_d (Q k)) (wt_d (Q k)) (wt_a (Q k)) (wt_a (Q k)) n) ∧ (∀ n, n < 16384 → s.2.1 n = false → wt_a (Q k) (n / 128) = wt_a (Q k) (n % 128)) ∧ (s.1 = false → ∀ n c, n < 16384 → s.2.1 n = false → s.2.1 (ws_pr (wt_d (Q k)) (wt_d (Q k)) n c) = false)) (fun s => 2 * (16384 - ws_cnt s.2.1 16384) + (if s.1 = true then 1 else 0)) ?_ (true, (fun s => decide (wt_a (Q k) (s / 128) ≠ wt_a (Q k) (s % 128))), ap) ⟨I, fun n hn h => ws_ap_0 (of_decide_eq_true h), fun n hn h => Decidable.not_not.mp (of_decide_eq_false h), fun z => absurd z.symm Bool.false_ne_true⟩
    rintro n ⟨b, R0, ap⟩ ⟨h1, h2, h3, h4⟩ ih
    dsimp only at h1 h2 h3 h4 ih ⊢
    refine wz_if b (fun z => fin ap R0 h1 h2 h3 (h4 z)) (fun z => ?_)
    refine pk_loop (fun n' i (s : Int32 × (Nat → Int32)) => wY_tellApart_60 post (wY_tellApart_51 post (nI k) (nI k) n) (nI k) (nI k) n' s.1 (nI i) f_depth f_termLength f_demands f_boundCount f_known f_found f_least a_sizes a_empties a_firsts a_lasts a_letters a_behinds a_steps a_term a_patterns a_kepts a_signs a_signCounts a_bounds a_firstWords a_sums a_met a_tried a_seen s.2 a_counts a_next) (fun i s => ∃ (b : Bool) (R : Nat → Bool), s.1 = wr_b b ∧ ye_r 16384 s.2 R ∧ (∀ t, t < 16384 → R0 t = true → R t = true) ∧ (∀ t, t < 16384 → R t = true → ws_ap (wt_d (Q k)) (wt_d (Q k)) (wt_a (Q k)) (wt_a (Q k)) t) ∧ (b = false → ∀ t c, t < i → R t = false → R (ws_pr (wt_d (Q k)) (wt_d (Q k)) t c) = false) ∧ (b = true → ∃ t, t < 16384 ∧ R t = true ∧ R0 t = false)) 16384 0 (0, ap) (by omega) ⟨false, R0, rfl, h1, fun _ _ h => h, h2, fun _ t c ht => absurd ht (by omega), fun y => absurd y Bool.false_ne_true⟩ ?_ ?_
    · intro n' s I2
      obtain ⟨b', R, g1, g2, g3, g4, g5, g6⟩ := I2
      refine br_t (nI_le (a := 16384) (b := 16384) (by omega) (by omega)) ?_
      rw [g1]
      refine ih (b', R, s.2) ⟨g2, g4, ?_, fun y t c ht => g5 y t c ht⟩ ?_
      · intro t ht hR
        apply h3 t ht
        cases hh : R0 t with
        | false => rfl
        | true => dsimp only at hR; rw [g3 t ht hh] at hR; exact absurd hR.symm Bool.false_ne_true
      · dsimp only
        have m1 := ws_cnt_mono R0 R 16384 g3
        have m2 := ws_cnt_le R 16384
        rw [z, if_pos rfl]
        cases hb : b' with
        | true => have := ws_cnt_lt R0 R 16384 g3 (g6 hb); rw [if_pos rfl]; omega
        | false => rw [if_neg Bool.false_ne_true]; omega
    · intro n' i s hi I2 ih2
      obtain ⟨b', R, g1, g2, g3, g4, g5, g6⟩ := I2
      refine br_f (nI_ge (b := 16384) hi (by omega)) ?_
      rw [g1]
      refine wz_in i (wz_if (R i) (fun y => ?_) (fun y => ?_) (wz_at i (g2 i hi)))
      · refine yf_la hk ok T hi g2 (fun r ap' q1 q2 q3 => wz_if r (fun w => ?_) (fun w => ?_))
        · subst w
          have same := ye_set_same (R := R) (t := i) (b := false) y
          have cl : b' = false → ∀ t c, t < i + 1 → R t = false → R (ws_pr (wt_d (Q k)) (wt_d (Q k)) t c) = false := by
            intro u t c ht hR
            by_cases e : t = i
            · subst e; exact (q3 rfl).2 c
            · exact g5 u t c (by omega) hR
          have q4 : ye_r 16384 ap' R := fun s hs => by rw [q1 s hs, same]
          refine wz_if b' (fun u => nm_r (nI_1 i) (ih2 (0, ap') ⟨false, R, rfl, q4, g3, g4, fun _ => cl u, fun v => absurd v Bool.false_ne_true⟩)) (fun u => nm_r (nI_1 i) (ih2 (1, ap') ⟨true, R, rfl, q4, g3, g4, fun v => absurd v.symm Bool.false_ne_true, fun _ => g6 u⟩))
        · subst w
          refine nm_r (nI_1 i) (ih2 (1, ap') ⟨true, ye_set R i true, rfl, q1, fun t ht h => ye_set_m (fun _ => rfl) (g3 t ht h), ?_, fun v => absurd v.symm Bool.false_ne_true, fun _ => ⟨i, hi, ye_set_s _ _ _, ?_⟩⟩)
          · intro t ht h
            by_cases e : t = i
            · subst e
              rcases q2 rfl with h5 | ⟨c, h5⟩
              · exact g4 t ht h5
              · exact ws_ap_s hd c (g4 _ (ye_pr_lt (Q := Q) ok ok t c) h5)
            · rw [ye_set_n R true e] at h; exact g4 t ht h
          · cases hh : R0 i with
            | false => rfl
            | true => rw [g3 i hi hh] at y; exact absurd y.symm Bool.false_ne_true
      · have cl : b' = false → ∀ t c, t < i + 1 → R t = false → R (ws_pr (wt_d (Q k)) (wt_d (Q k)) t c) = false := by
          intro u t c ht hR
          by_cases e : t = i
          · subst e; rw [y] at hR; exact absurd hR.symm Bool.false_ne_true
          · exact g5 u t c (by omega) hR
        exact wz_if b' (fun u => nm_r (nI_1 i) (ih2 (0, s.2) ⟨false, R, rfl, g2, g3, g4, fun _ => cl u, fun v => absurd v Bool.false_ne_true⟩)) (fun u => nm_r (nI_1 i) (ih2 (1, s.2) ⟨true, R, rfl, g2, g3, g4, fun v => absurd v.symm Bool.false_ne_true, fun _ => g6 u⟩))
  · intro n i ap hi I ih
    have nx : ∀ v, v = wr_b (decide (wt_a (Q k) (i / 128) ≠ wt_a (Q k) (i % 128))) → ∀ s, s < i + 1 → upd ap i v s = wr_b (decide (wt_a (Q k) (s / 128) ≠ wt_a (Q k) (s % 128))) := by
      intro v hv s hs
      by_cases e : s = i
      · subst e; rw [pk_us, hv]
      · rw [pk_un e]; exact I s (by omega)
    refine br_f (nI_ge (b := 16384) hi (by omega)) ⟨by decide, yd_acc (wz_d128 (by omega)) hk (by omega) L ⟨by decide, yd_acc (wz_r128 (by omega)) hk (by omega) L (wz_c (wr_b_e _ _) (fun w => wz_st i 0 (nm_r (nI_1 i) (ih _ (nx 0 ?_)))) (fun w => wz_st i 1 (nm_r (nI_1 i) (ih _ (nx 1 ?_)))))⟩⟩
    · rw [decide_eq_false (fun y => y w)]; rfl
    · rw [decide_eq_true w]; rfl
theorem yf_meet {post : SY → Prop} (hk : k < 3) (ok : wt_ok (Q k)) (T : wr_YT Q a_steps) (K : ∀ (se : Nat → Int32) (R : Nat → Bool), ye_r 128 se R → (∀ s, s < 128 → (R s = true ↔ ws_rch (wt_d (Q k)) 64 s)) → post (f_depth, f_termLength, f_demands, f_boundCount, f_known, f_found, f_least, a_sizes, a_empties, a_firsts, a_lasts, a_letters, a_behinds, a_steps, a_term, a_patterns, a_kepts, a_signs, a_signCounts, a_bounds, a_firstWords, a_sums, a_met, a_tried, se, a_apart, a_counts, a_next)) : wpY_meet post (f_depth, f_termLength, f_demands, f_boundCount, f_known, f_found, f_least, a_sizes, a_empties, a_firsts, a_lasts, a_letters, a_behinds, a_steps, a_term, a_patterns, a_kepts, a_signs, a_signCounts, a_bounds, a_firstWords, a_sums, a_met, a_tried, a_seen, a_apart, a_counts, a_next) (nI k) := by
  have hd : ∀ s b, s < 128 → wt_d (Q k) s b < 128 := fun s b _ => by have := wt_d_lt ok s b; omega
  have fin : ∀ (se : Nat → Int32) (R : Nat → Bool), ye_r 128 se R → R 64 = true → (∀ s, s < 128 → R s = true → ws_rch (wt_d (Q k)) 64 s) → (∀ s c, s < 128 → R s = true → R (wt_d (Q k) s c) = true) → post (f_depth, f_termLength, f_demands, f_boundCount, f_known, f_found, f_least, a_sizes, a_empties, a_firsts, a_lasts, a_letters, a_behinds, a_steps, a_term, a_patterns, a_kepts, a_signs, a_signCounts, a_bounds, a_firstWords, a_sums, a_met, a_tried, se, a_apart, a_counts, a_next) := by
    intro se R h1 h2 h3 h4
    refine K se R h1 (fun s hs => ⟨h3 s hs, ?_⟩)
    rintro ⟨w, rfl⟩
    exact ws_clo hd h4 w 64 (by omega) h2
  refine pk_loop (fun n i se => wY_meet_2 post (nI k) f_depth f_termLength f_demands f_boundCount f_known f_found f_least n (nI i) a_sizes a_empties a_firsts a_lasts a_letters a_behinds a_steps a_term a_patterns a_kepts a_signs a_signCounts a_bounds a_firstWords a_sums a_met a_tried se a_apart a_counts a_next) (fun i se => ∀ s, s < i → se s = wr_b (decide (s = 64))) 128 0 a_seen (by omega) (fun s hs => absurd hs (by omega)) ?_ ?_
  · intro n se I
    refine br_t (nI_le (a := 128) (b := 128) (by omega) (by omega)) ?_
    refine loop_m (σ := Bool × (Nat → Bool) × (Nat → Int32)) (fun n s => wY_meet_34 post (nI k) f_depth f_termLength f_demands f_boundCount f_known f_found f_least n (wr_b s.1) a_sizes a_empties a_firsts a_lasts a_letters a_behinds a_steps a_term a_patterns a_kepts a_signs a_signCounts a_bounds a_firstWords a_sums a_met a_tried s.2.2 a_apart a_counts a_next) (fun s => ye_r 128 s.2.2 s.2.1 ∧ s.2.1 64 = true ∧ (∀ t, t < 128 → s.2.1 t = true → ws_rch (wt_d (Q k)) 64 t) ∧ (s.1 = false → ∀ t c, t < 128 → s.2.1 t = true → s.2.1 (wt_d (Q k) t c) = true)) (fun s => 2 * (128 - ws_cnt s.2.1 128) + (if s.1 = true then 1 else 0)) ?_ (true, (fun s => decide (s = 64)), se) ⟨I, rfl, ?_, fun z => absurd z.symm Bool.false_ne_true⟩
    · rintro n ⟨b, R0, se⟩ ⟨h1, h2, h3, h4⟩ ih
      dsimp only at h1 h2 h3 h4 ih ⊢
      refine wz_if b (fun z => fin se R0 h1 h2 h3 (h4 z)) (fun z => ?_)
      refine pk_loop (fun n' i (s : Int32 × (Nat → Int32)) => wY_meet_42 post (wY_meet_34 post (nI k) f_depth f_termLength f_demands f_boundCount f_known f_found f_least n) (nI k) f_depth f_termLength f_demands f_boundCount f_known f_found f_least n' s.1 (nI i) a_sizes a_empties a_firsts a_lasts a_letters a_behinds a_steps a_term a_patterns a_kepts a_signs a_signCounts a_bounds a_firstWords a_sums a_met a_tried s.2 a_apart a_counts a_next) (fun i s => ∃ (b : Bool) (R : Nat → Bool), s.1 = wr_b b ∧ ye_r 128 s.2 R ∧ (∀ t, t < 128 → R0 t = true → R t = true) ∧ (∀ t, t < 128 → R t = true → ws_rch (wt_d (Q k)) 64 t) ∧ (b = false → (∀ t, t < 128 → R t = R0 t) ∧ ∀ m, m < i → R (m / 2) = true → R (wt_d (Q k) (m / 2) (decide (m % 2 = 1))) = true) ∧ (b = true → ∃ t, t < 128 ∧ R t = true ∧ R0 t = false)) 256 0 (0, se) (by omega) ⟨false, R0, rfl, h1, fun _ _ h => h, h3, fun _ => ⟨fun _ _ => rfl, fun m hm => absurd hm (by omega)⟩, fun y => absurd y Bool.false_ne_true⟩ ?_ ?_
      · intro n' s I2
        obtain ⟨b', R, g1, g2, g3, g4, g5, g6⟩ := I2
        refine br_t (nI_le (a := 256) (b := 256) (by omega) (by omega)) ?_
        rw [g1]
        refine ih (b', R, s.2) ⟨g2, g3 _ (by omega) h2, g4, fun y t c ht hR => ?_⟩ ?_
        · have h7 := (g5 y).2 (2 * t + c.toNat) (by cases c <;> simp <;> omega)
          have e1 : (2 * t + c.toNat) / 2 = t := by cases c <;> simp <;> omega
          have e2 : decide ((2 * t + c.toNat) % 2 = 1) = c := by cases c <;> simp <;> omega
          rw [e1, e2] at h7
          exact h7 hR
        · dsimp only
          have m1 := ws_cnt_mono R0 R 128 g3
          have m2 := ws_cnt_le R 128
          rw [z, if_pos rfl]
          cases hb : b' with
          | true => have := ws_cnt_lt R0 R 128 g3 (g6 hb); rw [if_pos rfl]; omega
          | false => rw [if_neg Bool.false_ne_true]; omega
      · intro n' i s hi I2 ih2
        obtain ⟨b', R, g1, g2, g3, g4, g5, g6⟩ := I2
        have hq := wt_d_lt ok (i / 2) (decide (i % 2 = 1))
        have nxt : ∀ m' : Bool, m' = (b' || (R (i / 2) && !(R (wt_d (Q k) (i / 2) (decide (i % 2 = 1)))))) → wY_meet_93 post (wY_meet_34 post (nI k) f_depth f_termLength f_demands f_boundCount f_known f_found f_least n) (wY_meet_42 post (wY_meet_34 post (nI k) f_depth f_termLength f_demands f_boundCount f_known f_found f_least n) (nI k) f_depth f_termLength f_demands f_boundCount f_known f_found f_least n') (nI k) (nI i) (nI (wt_d (Q k) (i / 2) (decide (i % 2 = 1)))) (wr_b m') f_depth f_termLength f_demands f_boundCount f_known f_found f_least a_sizes a_empties a_firsts a_lasts a_letters a_behinds a_steps a_term a_patterns a_kepts a_signs a_signCounts a_bounds a_firstWords a_sums a_met a_tried s.2 a_apart a_counts a_next := by
          intro m' hm'
          have go : ∀ v : Bool, v = (R (wt_d (Q k) (i / 2) (decide (i % 2 = 1))) || R (i / 2)) → wY_meet_42 post (wY_meet_34 post (nI k) f_depth f_termLength f_demands f_boundCount f_known f_found f_least n) (nI k) f_depth f_termLength f_demands f_boundCount f_known f_found f_least n' (wr_b m') (nI (i + 1)) a_sizes a_empties a_firsts a_lasts a_letters a_behinds a_steps a_term a_patterns a_kepts a_signs a_signCounts a_bounds a_firstWords a_sums a_met a_tried (upd s.2 (wt_d (Q k) (i / 2) (decide (i % 2 = 1))) (wr_b v)) a_apart a_counts a_next := by
            intro v hv
            refine ih2 (wr_b m', upd s.2 (wt_d (Q k) (i / 2) (decide (i % 2 = 1))) (wr_b v)) ⟨m', _, rfl, ye_r_set g2 _ _, ?_, ?_, ?_, ?_⟩
            · intro t ht h
              exact ye_set_m (fun y => by rw [hv, y, Bool.true_or]) (g3 t ht h)
            · intro t ht h
              by_cases e : t = wt_d (Q k) (i / 2) (decide (i % 2 = 1))
              · subst e
                rw [ye_set_s, hv, Bool.or_eq_true] at h
                rcases h with h | h
                · exact g4 _ ht h
                · exact ws_rch_s (g4 _ (by omega) h) _
              · rw [ye_set_n _ _ e] at h; exact g4 t ht h
            · intro y
              rw [y, eq_comm, Bool.or_eq_false_iff] at hm'
              obtain ⟨y1, y2⟩ := hm'
              have hv2 : R (wt_d (Q k) (i / 2) (decide (i % 2 = 1))) = v := by
                cases p1 : R (i / 2) <;> cases p2 : R (wt_d (Q k) (i / 2) (decide (i % 2 = 1))) <;> rw [p1, p2] at y2 hv <;> simp at y2 hv ⊢ <;> exact hv
              have same := ye_set_same hv2
              refine ⟨fun t ht => (same t).trans ((g5 y1).1 t ht), fun m hm hR => ?_⟩
              rw [same] at hR ⊢
              by_cases e : m = i
              · subst e
                rw [hR, Bool.true_and] at y2
                cases hh : R (wt_d (Q k) (m / 2) (decide (m % 2 = 1))) with
                | true => rfl
                | false => rw [hh] at y2; exact absurd y2.symm Bool.false_ne_true
              · exact (g5 y1).2 m (by omega) hR
            · intro y
              cases hb : b' with
              | true =>
                obtain ⟨t, u1, u2, u3⟩ := g6 hb
                exact ⟨t, u1, ye_set_m (fun y => by rw [hv, y, Bool.true_or]) u2, u3⟩
              | false =>
                rw [hb, Bool.false_or, y, eq_comm, Bool.and_eq_true] at hm'
                refine ⟨wt_d (Q k) (i / 2) (decide (i % 2 = 1)), by omega, ?_, ?_⟩
                · rw [ye_set_s, hv, hm'.1, Bool.or_true]
                · rw [← (g5 hb).1 _ (by omega)]
                  have := hm'.2
                  cases hh : R (wt_d (Q k) (i / 2) (decide (i % 2 = 1))) with
                  | false => rfl
                  | true => rw [hh] at this; exact absurd this Bool.false_ne_true
          refine wz_in _ (wz_if (R (wt_d (Q k) (i / 2) (decide (i % 2 = 1)))) (fun y => ⟨by decide, wz_in (i / 2) (wz_if (R (i / 2)) (fun w => wz_st (wt_d (Q k) (i / 2) (decide (i % 2 = 1))) (wr_b false) (nm_r (nI_1 i) (go false (by rw [y, w]; rfl)))) (fun w => wz_st (wt_d (Q k) (i / 2) (decide (i % 2 = 1))) (wr_b true) (nm_r (nI_1 i) (go true (by rw [y, w]; rfl)))) (wz_at _ (g2 _ (by omega)) (wz_d2 (by omega)))) (by omega) (wz_d2 (by omega))⟩) (fun y => wz_st (wt_d (Q k) (i / 2) (decide (i % 2 = 1))) (wr_b true) (nm_r (nI_1 i) (go true (by rw [y]; rfl)))) (wz_at _ (g2 _ (by omega)))) (by omega) rfl
        refine br_f (nI_ge (b := 256) hi (by omega)) (wz_ld (256 * k + i) (nI (wt_d (Q k) (i / 2) (decide (i % 2 = 1)))) ?_ (by omega) (wz_256 k i) (T k hk i hi))
        rw [g1]
        refine wz_if b' (fun y => ⟨by decide, wz_in (i / 2) (wz_if (R (i / 2)) (fun w => nxt false (by rw [y, w]; rfl)) (fun w => wz_in (wt_d (Q k) (i / 2) (decide (i % 2 = 1))) (wz_if (R (wt_d (Q k) (i / 2) (decide (i % 2 = 1)))) (fun v => nxt true (by rw [y, w, v]; rfl)) (fun v => nxt false (by rw [y, w, v]; rfl)) (wz_at _ (g2 _ (by omega))))) (wz_at _ (g2 _ (by omega)) (wz_d2 (by omega)))) (by omega) (wz_d2 (by omega))⟩) (fun y => nxt true (by rw [y, Bool.true_or]))
    · intro t ht h
      rw [show t = 64 from of_decide_eq_true h]
      exact ws_rch_0 _ _
  · intro n i se hi I ih
    have nx : ∀ v, v = wr_b (decide (i = 64)) → ∀ s, s < i + 1 → upd se i v s = wr_b (decide (s = 64)) := by
      intro v hv s hs
      by_cases e : s = i
      · subst e; rw [pk_us, hv]
      · rw [pk_un e]; exact I s (by omega)
    refine br_f (nI_ge (b := 128) hi (by omega)) (pk_eq i 64 (fun z => wz_st i 1 (nm_r (nI_1 i) (ih _ (nx 1 ?_)))) (fun z => wz_st i 0 (nm_r (nI_1 i) (ih _ (nx 0 ?_)))))
    · rw [decide_eq_true z]; rfl
    · rw [decide_eq_false z]; rfl
theorem yf_all_f {p : Nat → Bool} {i : Nat} (h : wl_all p i = false) : ∀ n, wl_all p (i + n) = false := by
  intro n
  induction n with
  | zero => exact h
  | succ n ih => rw [← Nat.add_assoc, wl_all_s, ih, Bool.false_and]
theorem yf_rests {post : Int32 → SY → Prop} (hk : k < 3) (ok : wt_ok (Q k)) (L : wr_YL (Q k) (5 + k) a_sizes a_empties a_firsts a_lasts a_letters a_behinds) (T : wr_YT Q a_steps) (K : ∀ (R : Nat → Bool) (E : Nat → Nat → Bool) (ap se : Nat → Int32), (∀ t, t < 128 → (R t = true ↔ ws_rch (wt_d (Q k)) 64 t)) → (∀ s t, s < 128 → t < 128 → (E s t = true ↔ ws_eqv (wt_d (Q k)) (wt_a (Q k)) s t)) → post (nI (ws_cnt (wf_fr R E) 128)) (f_depth, f_termLength, f_demands, f_boundCount, f_known, f_found, f_least, a_sizes, a_empties, a_firsts, a_lasts, a_letters, a_behinds, a_steps, a_term, a_patterns, a_kepts, a_signs, a_signCounts, a_bounds, a_firstWords, a_sums, a_met, a_tried, se, ap, a_counts, a_next)) : wpY_rests post (f_depth, f_termLength, f_demands, f_boundCount, f_known, f_found, f_least, a_sizes, a_empties, a_firsts, a_lasts, a_letters, a_behinds, a_steps, a_term, a_patterns, a_kepts, a_signs, a_signCounts, a_bounds, a_firstWords, a_sums, a_met, a_tried, a_seen, a_apart, a_counts, a_next) (nI k) := by
  unfold wpY_rests
  refine br_f (nI_pos (by omega)) (br_f (nI_nlt (a := 2) (b := k) (by omega) (by omega)) (br_f (by decide) ?_))
  refine yf_ta hk ok L T (fun ap A ha hA => ?_)
  refine yf_meet hk ok T (fun se S hs hS => ?_)
  have K' := K S (fun o t => !(A (128 * t + o))) ap se hS (by
    intro s t h1 h2
    rw [Bool.not_eq_true', hA t s h2 h1]
    exact ⟨fun h w => (h w).symm, fun h w => (h w).symm⟩)
  refine pk_loop (fun n t x => wY_rests_25 post f_depth f_termLength f_demands f_boundCount f_known f_found f_least a_sizes a_empties a_firsts a_lasts a_letters a_behinds a_steps a_term a_patterns a_kepts a_signs a_signCounts a_bounds a_firstWords a_sums a_met a_tried se ap a_counts a_next n x (nI t)) (fun t x => x = nI (ws_cnt (wf_fr S (fun o t => !(A (128 * t + o)))) t)) 128 0 0 (by omega) rfl ?_ ?_
  · intro n x I
    subst I
    exact br_t (nI_le (a := 128) (b := 128) (by omega) (by omega)) K'
  · intro n t x ht I ih
    subst I
    have fin : ∀ v : Bool, v = wf_fr S (fun o t => !(A (128 * t + o))) t → wY_rests_93 post (wY_rests_25 post f_depth f_termLength f_demands f_boundCount f_known f_found f_least a_sizes a_empties a_firsts a_lasts a_letters a_behinds a_steps a_term a_patterns a_kepts a_signs a_signCounts a_bounds a_firstWords a_sums a_met a_tried se ap a_counts a_next n) (nI (ws_cnt (wf_fr S (fun o t => !(A (128 * t + o)))) t)) (nI t) (wr_b v) f_depth f_termLength f_demands f_boundCount f_known f_found f_least a_sizes a_empties a_firsts a_lasts a_letters a_behinds a_steps a_term a_patterns a_kepts a_signs a_signCounts a_bounds a_firstWords a_sums a_met a_tried se ap a_counts a_next := by
      intro v hv
      refine wz_if v (fun z => nm_r (nI_1 t) (ih _ ?_)) (fun z => nm_r (nI_1 _) (nm_r (nI_1 t) (ih _ ?_)))
      · rw [ws_cnt_s, ← hv, z, if_neg Bool.false_ne_true]
      · rw [ws_cnt_s, ← hv, z, if_pos rfl]
    refine br_f (nI_ge (b := 128) ht (by omega)) (wz_ld t (wr_b (S t)) ?_ (by omega) rfl (hs t ht))
    refine pk_loop (fun n' o x => wY_rests_43 post (wY_rests_25 post f_depth f_termLength f_demands f_boundCount f_known f_found f_least a_sizes a_empties a_firsts a_lasts a_letters a_behinds a_steps a_term a_patterns a_kepts a_signs a_signCounts a_bounds a_firstWords a_sums a_met a_tried se ap a_counts a_next n) (nI (ws_cnt (wf_fr S (fun o t => !(A (128 * t + o)))) t)) (nI t) f_depth f_termLength f_demands f_boundCount f_known f_found f_least a_sizes a_empties a_firsts a_lasts a_letters a_behinds a_steps a_term a_patterns a_kepts a_signs a_signCounts a_bounds a_firstWords a_sums a_met a_tried se ap a_counts a_next n' x (nI o)) (fun o x => x = wr_b (S t && wl_all (fun o => !(S o && !(A (128 * t + o)))) o)) t 0 (wr_b (S t)) (by omega) (by show _ = wr_b (S t && true); rw [Bool.and_true]) ?_ ?_
    · intro n' x I
      subst I
      exact br_t (nI_le (Nat.le_refl _) (by omega)) (fin _ rfl)
    · intro n' o x ho I ih2
      subst I
      refine br_f (nI_ge ho (by omega)) (wz_if _ (fun z => fin _ ?_) (fun z => ?_))
      · rw [z]
        symm
        rw [Bool.and_eq_false_iff] at z
        rcases z with z | z
        · exact wf_fr_0 _ _ z
        · unfold wf_fr
          have := yf_all_f z (t - o)
          rw [show o + (t - o) = t from by omega] at this
          rw [this, Bool.and_false]
      · rw [Bool.and_eq_true] at z
        have hA2 := ha (128 * t + o) (by omega)
        refine wz_in o (wz_if (S o) (fun w => nm_r (nI_1 o) (ih2 _ ?_)) (fun w => wz_in (128 * t + o) (wz_if (A (128 * t + o)) (fun y => nm_r (nI_1 o) (ih2 _ ?_)) (fun y => nm_r (nI_1 o) (ih2 _ ?_)) (wz_at _ hA2 (wz_128 t o))) (by omega) (wz_128 t o)) (wz_at o (hs o (by omega))))
        · rw [wl_all_s, z.1, z.2, w]; rfl
        · rw [wl_all_s, z.1, z.2, w, y]; rfl
        · rw [wl_all_s, z.1, z.2, w, y]; rfl
end
