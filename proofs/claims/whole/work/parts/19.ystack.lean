/-! the reference: simple, then, or, many, place -/
section
variable {f_depth f_termLength f_demands f_boundCount f_known f_found f_least : Int32} {a_sizes a_empties a_firsts a_lasts a_letters a_behinds a_steps a_term a_patterns a_kepts a_signs a_signCounts a_bounds a_firstWords a_sums a_met a_tried a_seen a_apart a_counts a_next : Nat → Int32}
/-- the other slots are as they were -/
def yb_F (d : Nat) (sz em fi la le be sz' em' fi' la' le' be' : Nat → Int32) : Prop := ∀ (s : Nat) (p : ws_Pat), s ≠ d → wt_m p ≤ 6 → wr_YL p s sz em fi la le be → wr_YL p s sz' em' fi' la' le' be'
theorem yb_F_of {d : Nat} {sz em fi la le be sz' em' fi' la' le' be' : Nat → Int32} (h1 : ∀ s, s ≠ d → sz' s = sz s) (h2 : ∀ s, s ≠ d → em' s = em s) (h3 : ∀ s, s ≠ d → fi' s = fi s) (h4 : ∀ s, s ≠ d → la' s = la s) (h5 : ∀ j, (∀ i, i < 6 → j ≠ 6 * d + i) → le' j = le j) (h6 : ∀ j, (∀ i, i < 6 → j ≠ 6 * d + i) → be' j = be j) : yb_F d sz em fi la le be sz' em' fi' la' le' be' :=
  fun s _ hs hm h => wr_YL_c h hm (h1 s hs) (h2 s hs) (h3 s hs) (h4 s hs) (fun i hi => h5 _ (fun q hq => by omega)) (fun i hi => h6 _ (fun q hq => by omega))
theorem yb_set {post : SY → Prop} {d : Nat} {x a b c e : Int32} (hd : d < 8) (hx : x = nI d) (b' : Int32) (hb : vp_nar .boolean b = b') (K : post (f_depth, f_termLength, f_demands, f_boundCount, f_known, f_found, f_least, (upd a_sizes d a), (upd a_empties d b'), (upd a_firsts d c), (upd a_lasts d e), a_letters, a_behinds, a_steps, a_term, a_patterns, a_kepts, a_signs, a_signCounts, a_bounds, a_firstWords, a_sums, a_met, a_tried, a_seen, a_apart, a_counts, a_next)) : wpY_set post (f_depth, f_termLength, f_demands, f_boundCount, f_known, f_found, f_least, a_sizes, a_empties, a_firsts, a_lasts, a_letters, a_behinds, a_steps, a_term, a_patterns, a_kepts, a_signs, a_signCounts, a_bounds, a_firstWords, a_sums, a_met, a_tried, a_seen, a_apart, a_counts, a_next) x a b c e := by
  subst hx
  exact wz_st d a (wz_st d b' (wz_st d c (wz_st d e K)) (by omega) rfl hb)
theorem yb_sim0 {post : Int32 → SY → Prop} {dp : Nat} (hd : dp < 5) (K : ∀ sz em fi la le be : Nat → Int32, wr_YL (wt_sim 0) dp sz em fi la le be → yb_F dp a_sizes a_empties a_firsts a_lasts a_letters a_behinds sz em fi la le be → post (nI (dp + 1)) ((nI (dp + 1)), f_termLength, f_demands, f_boundCount, f_known, f_found, f_least, sz, em, fi, la, le, be, a_steps, a_term, a_patterns, a_kepts, a_signs, a_signCounts, a_bounds, a_firstWords, a_sums, a_met, a_tried, a_seen, a_apart, a_counts, a_next)) : wpY_simple post ((nI dp), f_termLength, f_demands, f_boundCount, f_known, f_found, f_least, a_sizes, a_empties, a_firsts, a_lasts, a_letters, a_behinds, a_steps, a_term, a_patterns, a_kepts, a_signs, a_signCounts, a_bounds, a_firstWords, a_sums, a_met, a_tried, a_seen, a_apart, a_counts, a_next) (nI 0) := by
  refine br_f (by decide) (br_t (by decide) (pk_eq dp 5 (fun z => absurd z (by omega)) (fun _ => br_f (by decide) ?_)))
  refine br_f (by decide) (br_f (by decide) (br_f (by decide) (br_f (by decide) ?_)))
  refine yb_set (d := dp) (by omega) rfl 0 rfl (wz_st (6 * dp) (nI 0) (wz_st (6 * dp) 0 (nm_r (nI_1 dp) (K _ _ _ _ _ _ ⟨pk_us, pk_us, pk_us, pk_us, ?_⟩ ?_)) (by omega) (wz_6 dp) rfl) (by omega) (wz_6 dp) rfl)
  · intro i hi
    change i < 1 at hi
    obtain rfl : i = 0 := by omega
    exact ⟨pk_us, pk_us⟩
  · exact yb_F_of (fun s hs => pk_un hs) (fun s hs => pk_un hs) (fun s hs => pk_un hs) (fun s hs => pk_un hs) (fun j hj => pk_un (hj 0 (by omega))) (fun j hj => pk_un (hj 0 (by omega)))
theorem yb_sim1 {post : Int32 → SY → Prop} {dp : Nat} (hd : dp < 5) (K : ∀ sz em fi la le be : Nat → Int32, wr_YL (wt_sim 1) dp sz em fi la le be → yb_F dp a_sizes a_empties a_firsts a_lasts a_letters a_behinds sz em fi la le be → post (nI (dp + 1)) ((nI (dp + 1)), f_termLength, f_demands, f_boundCount, f_known, f_found, f_least, sz, em, fi, la, le, be, a_steps, a_term, a_patterns, a_kepts, a_signs, a_signCounts, a_bounds, a_firstWords, a_sums, a_met, a_tried, a_seen, a_apart, a_counts, a_next)) : wpY_simple post ((nI dp), f_termLength, f_demands, f_boundCount, f_known, f_found, f_least, a_sizes, a_empties, a_firsts, a_lasts, a_letters, a_behinds, a_steps, a_term, a_patterns, a_kepts, a_signs, a_signCounts, a_bounds, a_firstWords, a_sums, a_met, a_tried, a_seen, a_apart, a_counts, a_next) (nI 1) := by
  refine br_f (by decide) (br_t (by decide) (pk_eq dp 5 (fun z => absurd z (by omega)) (fun _ => br_f (by decide) ?_)))
  refine br_f (by decide) (br_f (by decide) (br_f (by decide) (br_f (by decide) ?_)))
  refine yb_set (d := dp) (by omega) rfl 0 rfl (wz_st (6 * dp) (nI 1) (wz_st (6 * dp) 0 (nm_r (nI_1 dp) (K _ _ _ _ _ _ ⟨pk_us, pk_us, pk_us, pk_us, ?_⟩ ?_)) (by omega) (wz_6 dp) rfl) (by omega) (wz_6 dp) rfl)
  · intro i hi
    change i < 1 at hi
    obtain rfl : i = 0 := by omega
    exact ⟨pk_us, pk_us⟩
  · exact yb_F_of (fun s hs => pk_un hs) (fun s hs => pk_un hs) (fun s hs => pk_un hs) (fun s hs => pk_un hs) (fun j hj => pk_un (hj 0 (by omega))) (fun j hj => pk_un (hj 0 (by omega)))
theorem yb_sim2 {post : Int32 → SY → Prop} {dp : Nat} (hd : dp < 5) (K : ∀ sz em fi la le be : Nat → Int32, wr_YL (wt_sim 2) dp sz em fi la le be → yb_F dp a_sizes a_empties a_firsts a_lasts a_letters a_behinds sz em fi la le be → post (nI (dp + 1)) ((nI (dp + 1)), f_termLength, f_demands, f_boundCount, f_known, f_found, f_least, sz, em, fi, la, le, be, a_steps, a_term, a_patterns, a_kepts, a_signs, a_signCounts, a_bounds, a_firstWords, a_sums, a_met, a_tried, a_seen, a_apart, a_counts, a_next)) : wpY_simple post ((nI dp), f_termLength, f_demands, f_boundCount, f_known, f_found, f_least, a_sizes, a_empties, a_firsts, a_lasts, a_letters, a_behinds, a_steps, a_term, a_patterns, a_kepts, a_signs, a_signCounts, a_bounds, a_firstWords, a_sums, a_met, a_tried, a_seen, a_apart, a_counts, a_next) (nI 2) := by
  refine br_f (by decide) (br_t (by decide) (pk_eq dp 5 (fun z => absurd z (by omega)) (fun _ => br_f (by decide) ?_)))
  refine br_f (by decide) (br_f (by decide) (br_f (by decide) (br_f (by decide) ?_)))
  refine yb_set (d := dp) (by omega) rfl 0 rfl (wz_st (6 * dp) (nI 2) (wz_st (6 * dp) 0 (nm_r (nI_1 dp) (K _ _ _ _ _ _ ⟨pk_us, pk_us, pk_us, pk_us, ?_⟩ ?_)) (by omega) (wz_6 dp) rfl) (by omega) (wz_6 dp) rfl)
  · intro i hi
    change i < 1 at hi
    obtain rfl : i = 0 := by omega
    exact ⟨pk_us, pk_us⟩
  · exact yb_F_of (fun s hs => pk_un hs) (fun s hs => pk_un hs) (fun s hs => pk_un hs) (fun s hs => pk_un hs) (fun j hj => pk_un (hj 0 (by omega))) (fun j hj => pk_un (hj 0 (by omega)))
theorem yb_sim3 {post : Int32 → SY → Prop} {dp : Nat} (hd : dp < 5) (K : ∀ sz em fi la le be : Nat → Int32, wr_YL (wt_sim 3) dp sz em fi la le be → yb_F dp a_sizes a_empties a_firsts a_lasts a_letters a_behinds sz em fi la le be → post (nI (dp + 1)) ((nI (dp + 1)), f_termLength, f_demands, f_boundCount, f_known, f_found, f_least, sz, em, fi, la, le, be, a_steps, a_term, a_patterns, a_kepts, a_signs, a_signCounts, a_bounds, a_firstWords, a_sums, a_met, a_tried, a_seen, a_apart, a_counts, a_next)) : wpY_simple post ((nI dp), f_termLength, f_demands, f_boundCount, f_known, f_found, f_least, a_sizes, a_empties, a_firsts, a_lasts, a_letters, a_behinds, a_steps, a_term, a_patterns, a_kepts, a_signs, a_signCounts, a_bounds, a_firstWords, a_sums, a_met, a_tried, a_seen, a_apart, a_counts, a_next) (nI 3) := by
  refine br_f (by decide) (br_t (by decide) (pk_eq dp 5 (fun z => absurd z (by omega)) (fun _ => br_t (by decide) ?_)))
  refine br_t (by decide) (br_t (by decide) (br_t (by decide) (br_t (by decide) ?_)))
  refine yb_set (d := dp) (by omega) rfl 1 rfl (wz_st (6 * dp) (nI 3) (wz_st (6 * dp) 0 (nm_r (nI_1 dp) (K _ _ _ _ _ _ ⟨pk_us, pk_us, pk_us, pk_us, ?_⟩ ?_)) (by omega) (wz_6 dp) rfl) (by omega) (wz_6 dp) rfl)
  · intro i hi
    change i < 0 at hi
    omega
    
  · exact yb_F_of (fun s hs => pk_un hs) (fun s hs => pk_un hs) (fun s hs => pk_un hs) (fun s hs => pk_un hs) (fun j hj => pk_un (hj 0 (by omega))) (fun j hj => pk_un (hj 0 (by omega)))
theorem yb_many {post : Int32 → SY → Prop} {d : Nat} {p : ws_Pat} (hd : d < 5) (hp : wt_ok p) (L : wr_YL p d a_sizes a_empties a_firsts a_lasts a_letters a_behinds) (K : ∀ em be : Nat → Int32, wr_YL (wt_many p) d a_sizes em a_firsts a_lasts a_letters be → yb_F d a_sizes a_empties a_firsts a_lasts a_letters a_behinds a_sizes em a_firsts a_lasts a_letters be → post (nI (d + 1)) ((nI (d + 1)), f_termLength, f_demands, f_boundCount, f_known, f_found, f_least, a_sizes, em, a_firsts, a_lasts, a_letters, be, a_steps, a_term, a_patterns, a_kepts, a_signs, a_signCounts, a_bounds, a_firstWords, a_sums, a_met, a_tried, a_seen, a_apart, a_counts, a_next)) : wpY_many post ((nI (d + 1)), f_termLength, f_demands, f_boundCount, f_known, f_found, f_least, a_sizes, a_empties, a_firsts, a_lasts, a_letters, a_behinds, a_steps, a_term, a_patterns, a_kepts, a_signs, a_signCounts, a_bounds, a_firstWords, a_sums, a_met, a_tried, a_seen, a_apart, a_counts, a_next) := by
  obtain ⟨c1, c2, c3, c4, c5⟩ := L
  have hm := hp.1
  have h6 := wt_p6 hp
  have hL := hp.2.2.1
  refine br_f (nI_ne0 (by omega) (by omega)) (nm_r (nI_pred d) ?_)
  refine pk_loop (fun n i be => wY_many_19 post (nI d) (nI (d + 1)) f_termLength f_demands f_boundCount f_known f_found f_least n (nI i) a_sizes a_empties a_firsts a_lasts a_letters be a_steps a_term a_patterns a_kepts a_signs a_signCounts a_bounds a_firstWords a_sums a_met a_tried a_seen a_apart a_counts a_next) (fun i be => (∀ j, j < i → be (6 * d + j) = nI (wt_f (wt_many p) j)) ∧ (∀ j, (∀ q, q < i → j ≠ 6 * d + q) → be j = a_behinds j)) (wt_m p) 0 a_behinds (by omega) ⟨fun j hj => absurd hj (by omega), fun _ _ => rfl⟩ ?_ ?_
  · intro n be I
    refine wz_in d (br_t (by rw [wz_at d c1]; exact nI_le (Nat.le_refl _) (by omega)) (wz_st d 1 (K _ _ ⟨c1, pk_us, c3, c4, fun i hi => ⟨(c5 i hi).1, I.1 i hi⟩⟩ ?_)))
    exact yb_F_of (fun _ _ => rfl) (fun s hs => pk_un hs) (fun _ _ => rfl) (fun _ _ => rfl) (fun _ _ => rfl) (fun j hj => I.2 j (fun q hq => hj q (by omega)))
  · intro n i be hi I ih
    have e0 : be (6 * d + i) = nI (wt_f p i) := (I.2 _ (fun q hq => by omega)).trans (c5 i hi).2
    have e1 := wz_at (6 * d + i) e0 (wz_6m d i)
    have nxt : ∀ v, v = nI (wt_f (wt_many p) i) → wY_many_19 post (nI d) (nI (d + 1)) f_termLength f_demands f_boundCount f_known f_found f_least n (nI (i + 1)) a_sizes a_empties a_firsts a_lasts a_letters (upd be (6 * d + i) v) a_steps a_term a_patterns a_kepts a_signs a_signCounts a_bounds a_firstWords a_sums a_met a_tried a_seen a_apart a_counts a_next := by
      intro v hv
      refine ih _ ⟨?_, ?_⟩
      · intro j hj
        by_cases e : j = i
        · subst e; rw [pk_us, hv]
        · rw [pk_un (by omega)]; exact I.1 j (by omega)
      · intro j hj
        rw [pk_un (hj i (by omega))]; exact I.2 j (fun q hq => hj q (by omega))
    refine wz_in d (br_f (by rw [wz_at d c1]; exact nI_ge hi (by omega)) (wz_in d (wz_tb ((wt_L p).testBit i) (fun w => ?_) (fun w => ?_) ?_)))
    · refine br_f (by decide) (wz_in (6 * d + i) (wz_in d (wz_st (6 * d + i) (nI (wt_f p i ||| wt_F p)) (nm_r (nI_1 i) (nxt _ ?_)) (by omega) (wz_6m d i) ?_)) (by omega) (wz_6m d i))
      · show _ = nI (if (wt_L p).testBit i = true then _ else _)
        rw [if_pos w]
      · rw [e1, wz_at d c3, wr_or]
    · refine br_t rfl (wz_in (6 * d + i) (wz_st (6 * d + i) (nI (wt_f p i)) (nm_r (nI_1 i) (nxt _ ?_)) (by omega) (wz_6m d i) e1) (by omega) (wz_6m d i))
      show _ = nI (if (wt_L p).testBit i = true then _ else _)
      rw [if_neg (by rw [w]; exact Bool.false_ne_true)]
    · rw [wz_at d c4]
      exact wr_bit1 (by omega) (by omega)
theorem yb_place {post : Int32 → SY → Prop} {k d : Nat} {p : ws_Pat} (hk : k < 3) (hd : d < 5) (hp : wt_ok p) (L : wr_YL p d a_sizes a_empties a_firsts a_lasts a_letters a_behinds) (K : ∀ sz em fi la le be st : Nat → Int32, wr_YL p (5 + k) sz em fi la le be → yb_F (5 + k) a_sizes a_empties a_firsts a_lasts a_letters a_behinds sz em fi la le be → (∀ n, n < 256 → st (256 * k + n) = nI (wt_d p (n / 2) (decide (n % 2 = 1)))) → (∀ j, (∀ n, n < 256 → j ≠ 256 * k + n) → st j = a_steps j) → post (nI d) ((nI d), f_termLength, f_demands, f_boundCount, 0, f_found, f_least, sz, em, fi, la, le, be, st, a_term, a_patterns, a_kepts, a_signs, a_signCounts, a_bounds, a_firstWords, a_sums, a_met, a_tried, a_seen, a_apart, a_counts, a_next)) : wpY_place post ((nI (d + 1)), f_termLength, f_demands, f_boundCount, f_known, f_found, f_least, a_sizes, a_empties, a_firsts, a_lasts, a_letters, a_behinds, a_steps, a_term, a_patterns, a_kepts, a_signs, a_signCounts, a_bounds, a_firstWords, a_sums, a_met, a_tried, a_seen, a_apart, a_counts, a_next) (nI k) := by
  obtain ⟨c1, c2, c3, c4, c5⟩ := L
  have hm := hp.1
  unfold wpY_place
  refine br_f (nI_pos (by omega)) (br_f (nI_nlt (a := 2) (b := k) (by omega) (by omega)) (br_f (by decide) (br_f (nI_ne0 (by omega) (by omega)) (nm_r (nI_pred d) (wz_in d (wz_in d (wz_in d (wz_in d ?_))))))))
  refine yb_set (d := 5 + k) (by omega) (wz_5 k) (wr_b (wt_e p)) (by rw [wz_at d c2, wr_b_v]) ?_
  rw [wz_at d c1, wz_at d c3, wz_at d c4]
  refine pk_loop (fun n i (s : (Nat → Int32) × (Nat → Int32)) => wY_place_75 post (nI k) (nI d) f_termLength f_demands f_boundCount f_known f_found f_least n (nI i) (upd a_sizes (5 + k) (nI (wt_m p))) (upd a_empties (5 + k) (wr_b (wt_e p))) (upd a_firsts (5 + k) (nI (wt_F p))) (upd a_lasts (5 + k) (nI (wt_L p))) s.1 s.2 a_steps a_term a_patterns a_kepts a_signs a_signCounts a_bounds a_firstWords a_sums a_met a_tried a_seen a_apart a_counts a_next) (fun i s => (∀ j, j < i → s.1 (6 * (5 + k) + j) = a_letters (6 * d + j) ∧ s.2 (6 * (5 + k) + j) = a_behinds (6 * d + j)) ∧ ∀ j, (∀ q, q < 6 → j ≠ 6 * (5 + k) + q) → s.1 j = a_letters j ∧ s.2 j = a_behinds j) 6 0 (a_letters, a_behinds) (by omega) ⟨fun j hj => absurd hj (by omega), fun _ _ => ⟨rfl, rfl⟩⟩ ?_ ?_
  · intro n s I
    have L' : wr_YL p (5 + k) (upd a_sizes (5 + k) (nI (wt_m p))) (upd a_empties (5 + k) (wr_b (wt_e p))) (upd a_firsts (5 + k) (nI (wt_F p))) (upd a_lasts (5 + k) (nI (wt_L p))) s.1 s.2 := ⟨pk_us, pk_us, pk_us, pk_us, fun i hi => ⟨((I.1 i (by omega)).1).trans (c5 i hi).1, ((I.1 i (by omega)).2).trans (c5 i hi).2⟩⟩
    exact br_t (nI_le (a := 6) (b := 6) (by omega) (by omega)) (ya_ms hk hp L' (fun st h1 h2 => K _ _ _ _ _ _ st L' (yb_F_of (fun s hs => pk_un hs) (fun s hs => pk_un hs) (fun s hs => pk_un hs) (fun s hs => pk_un hs) (fun j hj => (I.2 j hj).1) (fun j hj => (I.2 j hj).2)) h1 h2))
  · intro n i s hi I ih
    have e1 : (6 : Int32) * (5 + nI k) + nI i = nI (6 * (5 + k) + i) := by rw [wz_5, wz_6m]
    have o := I.2 (6 * d + i) (fun q hq => by omega)
    refine br_f (nI_ge (b := 6) hi (by omega)) (wz_in (6 * d + i) (wz_st (6 * (5 + k) + i) (a_letters (6 * d + i)) (wz_in (6 * d + i) (wz_st (6 * (5 + k) + i) (a_behinds (6 * d + i)) (nm_r (nI_1 i) (ih (upd s.1 (6 * (5 + k) + i) (a_letters (6 * d + i)), upd s.2 (6 * (5 + k) + i) (a_behinds (6 * d + i))) ⟨?_, ?_⟩)) (by omega) e1 (wz_at _ o.2 (wz_6m d i))) (by omega) (wz_6m d i)) (by omega) e1 (wz_at _ o.1 (wz_6m d i))) (by omega) (wz_6m d i))
    · intro j hj
      dsimp only
      by_cases e : j = i
      · subst e; exact ⟨pk_us, pk_us⟩
      · rw [pk_un (by omega), pk_un (by omega)]; exact I.1 j (by omega)
    · intro j hj
      dsimp only
      rw [pk_un (hj i hi), pk_un (hj i hi)]; exact I.2 j hj
end
