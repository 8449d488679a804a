/-! the reference: all trials -/
def yh_ps (n : Nat) : Nat → Nat
  | 0 => 0
  | i + 1 => yh_ps n i + wl_ln (wl_tr n i + 1)
theorem yh_ps3 (n : Nat) : yh_ps n 3 = wl_sm n := by
  show 0 + _ + _ + _ = _
  rw [Nat.zero_add]
  rfl
theorem yh_ps_le (n : Nat) : ∀ i, yh_ps n i ≤ 3 * i := by
  intro i
  induction i with
  | zero => exact Nat.le_refl 0
  | succ i ih =>
    have := wl_ln_3 (wl_tr n i + 1)
    show yh_ps n i + wl_ln (wl_tr n i + 1) ≤ _
    omega
section
variable {f_depth f_termLength f_demands f_boundCount f_known f_found f_least : Int32} {a_sizes a_empties a_firsts a_lasts a_letters a_behinds a_steps a_term a_patterns a_kepts a_signs a_signCounts a_bounds a_firstWords a_sums a_met a_tried a_seen a_apart a_counts a_next : Nat → Int32}
variable {sol : Nat → Bool} {n : Nat}
theorem yh_note {post : SY → Prop} (hn : n < 3375) (hs : sol n = true) (hT : ∀ i, i < 3 → a_tried i = nI (wl_tr n i)) (C : wr_C sol n f_found f_least a_firstWords a_sums a_met) (K : ∀ (fd ls : Int32) (fw sm mt : Nat → Int32), wr_C sol (n + 1) fd ls fw sm mt → post (f_depth, f_termLength, f_demands, f_boundCount, f_known, fd, ls, a_sizes, a_empties, a_firsts, a_lasts, a_letters, a_behinds, a_steps, a_term, a_patterns, a_kepts, a_signs, a_signCounts, a_bounds, fw, sm, mt, a_tried, a_seen, a_apart, a_counts, a_next)) : wpY_note post (f_depth, f_termLength, f_demands, f_boundCount, f_known, f_found, f_least, a_sizes, a_empties, a_firsts, a_lasts, a_letters, a_behinds, a_steps, a_term, a_patterns, a_kepts, a_signs, a_signCounts, a_bounds, a_firstWords, a_sums, a_met, a_tried, a_seen, a_apart, a_counts, a_next) := by
  obtain ⟨C1, C2, C3, C4, C5⟩ := C
  subst C1 C2
  have h9 := wl_sm_9 n
  refine pk_loop (fun m i (s : Int32 × (Nat → Int32)) => wY_note_4 post f_depth f_termLength f_demands f_boundCount f_known (nI (ws_cnt sol n)) (nI (wl_lo 100 (wl_fs sol n))) m s.1 (nI i) a_sizes a_empties a_firsts a_lasts a_letters a_behinds a_steps a_term a_patterns a_kepts a_signs a_signCounts a_bounds a_firstWords a_sums s.2 a_tried a_seen a_apart a_counts a_next) (fun i s => s.1 = nI (yh_ps n i) ∧ (∀ j, j < i → s.2 j = nI (wl_M sol j (n + 1))) ∧ ∀ j, i ≤ j → s.2 j = a_met j) 3 0 (0, a_met) (by omega) ⟨rfl, fun j hj => absurd hj (by omega), fun _ _ => rfl⟩ ?_ ?_
  · intro m s I
    obtain ⟨I1, I2, I3⟩ := I
    rw [yh_ps3] at I1
    have hlo : wl_lo 100 (wl_fs sol n) ≤ 100 := by
      cases h : wl_fs sol n with
      | none => exact Nat.le_refl 100
      | some j => exact Nat.le_trans (wl_sm_9 j) (by decide)
    have hsum : ∀ t, t < 10 → upd a_sums (wl_sm n) (a_sums (wl_sm n) + 1) t = nI (ws_cnt (fun j => sol j && decide (wl_sm j = t)) (n + 1)) := by
      intro t ht
      rw [ws_cnt_s, hs, Bool.true_and]
      by_cases z : t = wl_sm n
      · subst z
        rw [pk_us, C4 _ ht, decide_eq_true rfl, if_pos rfl, nI_1]
      · rw [pk_un z, C4 _ ht, decide_eq_false (fun y => z y.symm), if_neg Bool.false_ne_true]
    have hfd : nI (ws_cnt sol n) + 1 = nI (ws_cnt sol (n + 1)) := by rw [nI_1, ws_cnt_s, hs, if_pos rfl]
    refine br_t (nI_le (a := 3) (b := 3) (by omega) (by omega)) (nm_r hfd ?_)
    rw [I1]
    refine wz_in (wl_sm n) (wz_st (wl_sm n) (a_sums (wl_sm n) + 1) ?_ (by omega) rfl (by rw [nI_clamp (by omega)]))
    by_cases hlt : wl_sm n < wl_lo 100 (wl_fs sol n)
    · have hfs : wl_fs sol (n + 1) = some n := by rw [wl_fs_s, if_pos ⟨hs, hlt⟩]
      refine pk_loop (fun m i fw => wY_note_71 post (nI (wl_sm n)) f_depth f_termLength f_demands f_boundCount f_known (nI (ws_cnt sol (n + 1))) (nI (wl_lo 100 (wl_fs sol n))) m (nI i) a_sizes a_empties a_firsts a_lasts a_letters a_behinds a_steps a_term a_patterns a_kepts a_signs a_signCounts a_bounds fw (upd a_sums (wl_sm n) (a_sums (wl_sm n) + 1)) s.2 a_tried a_seen a_apart a_counts a_next) (fun i fw => ∀ j, j < i → fw j = nI (wl_tr n j)) 3 0 a_firstWords (by omega) (fun j hj => absurd hj (by omega)) ?_ ?_
      · intro m fw I
        refine br_t (nI_le (a := 3) (b := 3) (by omega) (by omega)) (br_f (nI_ge hlt (by omega)) (K _ _ fw _ s.2 ⟨rfl, ?_, ?_, hsum, I2⟩))
        · rw [hfs]; rfl
        · intro j hj
          rw [hfs] at hj
          cases hj
          exact I
      · intro m i fw hi I ih
        refine br_f (nI_ge (b := 3) hi (by omega)) (br_f (nI_ge hlt (by omega)) (wz_in i (wz_st i (nI (wl_tr n i)) (nm_r (nI_1 i) (ih _ ?_)) (by omega) rfl (wz_at i (hT i hi)))))
        intro j hj
        by_cases z : j = i
        · subst z; exact pk_us
        · rw [pk_un z]; exact I j (by omega)
    · have hfs : wl_fs sol (n + 1) = wl_fs sol n := by rw [wl_fs_s, if_neg (fun y => hlt y.2)]
      refine ⟨1, br_f (nI_ge (a := 0) (b := 3) (by omega) (by omega)) (br_t (nI_le (by omega) (by omega)) (br_t (nI_le (by omega) (by omega)) (K _ _ a_firstWords _ s.2 ⟨rfl, ?_, ?_, hsum, I2⟩)))⟩
      · rw [hfs]
      · rw [hfs]; exact C3
  · intro m i s hi I ih
    obtain ⟨I1, I2, I3⟩ := I
    have ht := wl_tr_lt hn i
    have eT := wz_at i (hT i hi)
    refine br_f (nI_ge (b := 3) hi (by omega)) (wz_in i (yg_lo eT ht ?_))
    refine nm_r (e' := nI (yh_ps n (i + 1))) (by rw [I1, nI_add]; rfl) (wz_in i (wz_in i (wz_st i (nI (wl_M sol i (n + 1))) (nm_r (nI_1 i) (ih (nI (yh_ps n (i + 1)), upd s.2 i (nI (wl_M sol i (n + 1)))) ⟨rfl, ?_, ?_⟩)) (by omega) rfl ?_)))
    · intro j hj
      dsimp only
      by_cases z : j = i
      · subst z; exact pk_us
      · rw [pk_un z]; exact I2 j (by omega)
    · intro j hj
      dsimp only
      rw [pk_un (by omega)]; exact I3 j (by omega)
    · rw [eT, wz_at i ((I3 i (Nat.le_refl i)).trans (C5 i hi)), wr_one (by omega), wr_or, wl_M_s, hs, if_pos rfl]
theorem yh_skip {fd ls : Int32} {fw sm mt : Nat → Int32} (hs : sol n = false) (C : wr_C sol n fd ls fw sm mt) : wr_C sol (n + 1) fd ls fw sm mt := by
  obtain ⟨C1, C2, C3, C4, C5⟩ := C
  have hfs : wl_fs sol (n + 1) = wl_fs sol n := by rw [wl_fs_s, if_neg (fun y => by rw [hs] at y; exact absurd y.1 Bool.false_ne_true)]
  refine ⟨?_, ?_, ?_, ?_, ?_⟩
  · rw [ws_cnt_s, hs, if_neg Bool.false_ne_true]; exact C1
  · rw [hfs]; exact C2
  · rw [hfs]; exact C3
  · intro t ht
    rw [ws_cnt_s, hs, Bool.false_and, if_neg Bool.false_ne_true]; exact C4 t ht
  · intro i hi
    rw [wl_M_s, hs, if_neg Bool.false_ne_true]; exact C5 i hi
variable {Q : Nat → ws_Pat} {dc bc : Nat} {D : Nat → wr_Dem} {B : Nat → Int32}
theorem yh_try {post : SY → Prop} (o3 : wt_ok3 Q) (P : wr_YP Q a_sizes a_empties a_firsts a_lasts a_letters a_behinds) (T : wr_YT Q a_steps) (hdc : dc ≤ 6) (hbc : bc ≤ 3) (ho : ∀ d, d < dc → (D d).1 < 3 ∧ (D d).2.2.1 ≤ 4 ∧ ∀ i, i < (D d).2.2.1 → (D d).2.2.2 i < 5) (hD : wr_YD dc D a_signs a_signCounts a_patterns a_kepts) (hB : wr_YB bc B a_bounds) (hc : f_known = 0 ∨ (f_known = 1 ∧ wr_C (wr_sol Q dc D bc B) 3375 f_found f_least a_firstWords a_sums a_met)) (K : ∀ (fd ls : Int32) (fw sm mt tr : Nat → Int32), wr_C (wr_sol Q dc D bc B) 3375 fd ls fw sm mt → post (f_depth, f_termLength, (nI dc), (nI bc), 1, fd, ls, a_sizes, a_empties, a_firsts, a_lasts, a_letters, a_behinds, a_steps, a_term, a_patterns, a_kepts, a_signs, a_signCounts, a_bounds, fw, sm, mt, tr, a_seen, a_apart, a_counts, a_next)) : wpY_tryAll post (f_depth, f_termLength, (nI dc), (nI bc), f_known, f_found, f_least, a_sizes, a_empties, a_firsts, a_lasts, a_letters, a_behinds, a_steps, a_term, a_patterns, a_kepts, a_signs, a_signCounts, a_bounds, a_firstWords, a_sums, a_met, a_tried, a_seen, a_apart, a_counts, a_next) := by
  rcases hc with hc | ⟨hc, C⟩
  · subst hc
    refine br_t rfl ?_
    refine pk_loop (fun m i sm => wY_tryAll_21 post f_depth f_termLength (nI dc) (nI bc) 0 0 100 m (nI i) a_sizes a_empties a_firsts a_lasts a_letters a_behinds a_steps a_term a_patterns a_kepts a_signs a_signCounts a_bounds a_firstWords sm a_met a_tried a_seen a_apart a_counts a_next) (fun i sm => ∀ t, t < i → sm t = 0) 10 0 a_sums (by omega) (fun t ht => absurd ht (by omega)) ?_ ?_
    · intro m sm I
      refine br_t (nI_le (a := 10) (b := 10) (by omega) (by omega)) ?_
      refine pk_loop (fun m i mt => wY_tryAll_42 post f_depth f_termLength (nI dc) (nI bc) 0 0 100 m (nI i) a_sizes a_empties a_firsts a_lasts a_letters a_behinds a_steps a_term a_patterns a_kepts a_signs a_signCounts a_bounds a_firstWords sm mt a_tried a_seen a_apart a_counts a_next) (fun i mt => ∀ t, t < i → mt t = 0) 3 0 a_met (by omega) (fun t ht => absurd ht (by omega)) ?_ ?_
      · intro m mt I2
        refine br_t (nI_le (a := 3) (b := 3) (by omega) (by omega)) ?_
        refine pk_loop (fun m n (s : Int32 × Int32 × (Nat → Int32) × (Nat → Int32) × (Nat → Int32) × (Nat → Int32)) => wY_tryAll_62 post m (nI n) f_depth f_termLength (nI dc) (nI bc) 0 s.1 s.2.1 a_sizes a_empties a_firsts a_lasts a_letters a_behinds a_steps a_term a_patterns a_kepts a_signs a_signCounts a_bounds s.2.2.1 s.2.2.2.1 s.2.2.2.2.1 s.2.2.2.2.2 a_seen a_apart a_counts a_next) (fun n s => wr_C (wr_sol Q dc D bc B) n s.1 s.2.1 s.2.2.1 s.2.2.2.1 s.2.2.2.2.1) 3375 0 (0, 100, a_firstWords, sm, mt, a_tried) (by omega) ⟨rfl, rfl, fun j hj => absurd hj (by intro z; cases z), I, I2⟩ ?_ ?_
        · intro m s C
          exact br_t (nI_le (a := 3375) (b := 3375) (by omega) (by omega)) (K _ _ _ _ _ _ C)
        · intro m n s hn C ih
          have hT : ∀ i, i < 3 → upd (upd (upd s.2.2.2.2.2 0 (nI n / 225)) 1 (nI n / 15 - nI n / 15 / 15 * 15)) 2 (nI n - nI n / 15 * 15) i = nI (wl_tr n i) := by
            intro i hi
            have e : i = 0 ∨ i = 1 ∨ i = 2 := by omega
            rcases e with rfl | rfl | rfl
            · rw [pk_un (by omega), pk_un (by omega), pk_us]
              exact pk_div (d := 225) (by omega) (by omega) (by omega)
            · rw [pk_un (by omega), pk_us, show nI n / 15 = nI (n / 15) from pk_div (d := 15) (by omega) (by omega) (by omega)]
              exact pk_rem (d := 15) (by omega) (by omega) (by omega)
            · rw [pk_us]
              exact pk_rem (d := 15) (by omega) (by omega) (by omega)
          refine br_f (nI_ge (b := 3375) hn (by omega)) ⟨by decide, nm_e ⟨by decide, by decide, nm_e ⟨by decide, nm_e ?_⟩⟩⟩
          refine yg_sol hn o3 P T hdc hbc ho hD hB hT (wz_if _ (fun z => nm_r (nI_1 n) (ih (s.1, s.2.1, s.2.2.1, s.2.2.2.1, s.2.2.2.2.1, upd (upd (upd s.2.2.2.2.2 0 (nI n / 225)) 1 (nI n / 15 - nI n / 15 / 15 * 15)) 2 (nI n - nI n / 15 * 15)) (yh_skip z C))) (fun z => ?_))
          exact yh_note hn z hT C (fun fd ls fw sm mt C' => nm_r (nI_1 n) (ih (fd, ls, fw, sm, mt, upd (upd (upd s.2.2.2.2.2 0 (nI n / 225)) 1 (nI n / 15 - nI n / 15 / 15 * 15)) 2 (nI n - nI n / 15 * 15)) C'))
      · intro m i mt hi I2 ih
        refine br_f (nI_ge (b := 3) hi (by omega)) (wz_st i 0 (nm_r (nI_1 i) (ih _ ?_)))
        intro j hj
        by_cases z : j = i
        · subst z; exact pk_us
        · rw [pk_un z]; exact I2 j (by omega)
    · intro m i sm hi I ih
      refine br_f (nI_ge (b := 10) hi (by omega)) (wz_st i 0 (nm_r (nI_1 i) (ih _ ?_)))
      intro j hj
      by_cases z : j = i
      · subst z; exact pk_us
      · rw [pk_un z]; exact I j (by omega)
  · subst hc
    exact br_f (by decide) (K _ _ _ _ _ _ C)
theorem yh_sols {post : Int32 → SY → Prop} (o3 : wt_ok3 Q) (P : wr_YP Q a_sizes a_empties a_firsts a_lasts a_letters a_behinds) (T : wr_YT Q a_steps) (hdc : dc ≤ 6) (hbc : bc ≤ 3) (ho : ∀ d, d < dc → (D d).1 < 3 ∧ (D d).2.2.1 ≤ 4 ∧ ∀ i, i < (D d).2.2.1 → (D d).2.2.2 i < 5) (hD : wr_YD dc D a_signs a_signCounts a_patterns a_kepts) (hB : wr_YB bc B a_bounds) (hc : f_known = 0 ∨ (f_known = 1 ∧ wr_C (wr_sol Q dc D bc B) 3375 f_found f_least a_firstWords a_sums a_met)) (K : ∀ (r : Int32) (fd ls : Int32) (fw sm mt tr : Nat → Int32), wr_C (wr_sol Q dc D bc B) 3375 fd ls fw sm mt → r = nI (ws_cnt (wr_sol Q dc D bc B) 3375) → post r (f_depth, f_termLength, (nI dc), (nI bc), 1, fd, ls, a_sizes, a_empties, a_firsts, a_lasts, a_letters, a_behinds, a_steps, a_term, a_patterns, a_kepts, a_signs, a_signCounts, a_bounds, fw, sm, mt, tr, a_seen, a_apart, a_counts, a_next)) : wpY_solutions post (f_depth, f_termLength, (nI dc), (nI bc), f_known, f_found, f_least, a_sizes, a_empties, a_firsts, a_lasts, a_letters, a_behinds, a_steps, a_term, a_patterns, a_kepts, a_signs, a_signCounts, a_bounds, a_firstWords, a_sums, a_met, a_tried, a_seen, a_apart, a_counts, a_next) := by
  unfold wpY_solutions
  refine yh_try o3 P T hdc hbc ho hD hB hc (fun fd ls fw sm mt tr C => ?_)
  exact K _ _ _ _ _ _ _ C C.1
theorem yh_len {post : Int32 → SY → Prop} {i : Nat} (hi : i < 3) (o3 : wt_ok3 Q) (P : wr_YP Q a_sizes a_empties a_firsts a_lasts a_letters a_behinds) (T : wr_YT Q a_steps) (hdc : dc ≤ 6) (hbc : bc ≤ 3) (ho : ∀ d, d < dc → (D d).1 < 3 ∧ (D d).2.2.1 ≤ 4 ∧ ∀ i, i < (D d).2.2.1 → (D d).2.2.2 i < 5) (hD : wr_YD dc D a_signs a_signCounts a_patterns a_kepts) (hB : wr_YB bc B a_bounds) (hc : f_known = 0 ∨ (f_known = 1 ∧ wr_C (wr_sol Q dc D bc B) 3375 f_found f_least a_firstWords a_sums a_met)) (K : ∀ (r : Int32) (fd ls : Int32) (fw sm mt tr : Nat → Int32), wr_C (wr_sol Q dc D bc B) 3375 fd ls fw sm mt → (wl_fs (wr_sol Q dc D bc B) 3375 = none → r = -4) → (∀ j, j < 3375 → wl_fs (wr_sol Q dc D bc B) 3375 = some j → r = nI (wl_ln (wl_tr j i + 1))) → post r (f_depth, f_termLength, (nI dc), (nI bc), 1, fd, ls, a_sizes, a_empties, a_firsts, a_lasts, a_letters, a_behinds, a_steps, a_term, a_patterns, a_kepts, a_signs, a_signCounts, a_bounds, fw, sm, mt, tr, a_seen, a_apart, a_counts, a_next)) : wpY_length post (f_depth, f_termLength, (nI dc), (nI bc), f_known, f_found, f_least, a_sizes, a_empties, a_firsts, a_lasts, a_letters, a_behinds, a_steps, a_term, a_patterns, a_kepts, a_signs, a_signCounts, a_bounds, a_firstWords, a_sums, a_met, a_tried, a_seen, a_apart, a_counts, a_next) (nI i) := by
  unfold wpY_length
  refine br_f (nI_pos (by omega)) (br_f (nI_nlt (a := 2) (b := i) (by omega) (by omega)) (br_f (by decide) ?_))
  refine yh_try o3 P T hdc hbc ho hD hB hc (fun fd ls fw sm mt tr C => ?_)
  have hcl := ws_cnt_le (wr_sol Q dc D bc B) 3375
  refine pk_eq (ws_cnt (wr_sol Q dc D bc B) 3375) 0 (fun z => ?_) (fun z => ?_) C.1
  · have e := (wl_fs_none (wr_sol Q dc D bc B) 3375).mpr z
    exact K _ _ _ _ _ _ _ C (fun _ => rfl) (fun j _ hj => by rw [e] at hj; cases hj)
  · cases e : wl_fs (wr_sol Q dc D bc B) 3375 with
    | none => exact absurd ((wl_fs_none _ _).mp e) z
    | some j =>
      have hj := wl_fs_lt _ _ _ e
      refine wz_in i (yg_lo (wz_at i (C.2.2.1 j e i hi)) (wl_tr_lt hj i) (K _ _ _ _ _ _ _ C (fun y => by rw [e] at y; cases y) (fun j' _ hj' => ?_)))
      rw [e] at hj'
      cases hj'
      rfl
theorem yh_let {post : Int32 → SY → Prop} {i : Nat} {v : Int32} (hi : i < 3) (o3 : wt_ok3 Q) (P : wr_YP Q a_sizes a_empties a_firsts a_lasts a_letters a_behinds) (T : wr_YT Q a_steps) (hdc : dc ≤ 6) (hbc : bc ≤ 3) (ho : ∀ d, d < dc → (D d).1 < 3 ∧ (D d).2.2.1 ≤ 4 ∧ ∀ i, i < (D d).2.2.1 → (D d).2.2.2 i < 5) (hD : wr_YD dc D a_signs a_signCounts a_patterns a_kepts) (hB : wr_YB bc B a_bounds) (hc : f_known = 0 ∨ (f_known = 1 ∧ wr_C (wr_sol Q dc D bc B) 3375 f_found f_least a_firstWords a_sums a_met)) (K : ∀ (r : Int32) (fd ls : Int32) (fw sm mt tr : Nat → Int32), wr_C (wr_sol Q dc D bc B) 3375 fd ls fw sm mt → (wl_fs (wr_sol Q dc D bc B) 3375 = none → r = -4) → (∀ j, j < 3375 → wl_fs (wr_sol Q dc D bc B) 3375 = some j → (v < 0 → r = -4) ∧ (∀ p, p < 2 ^ 31 → v = nI p → wl_ln (wl_tr j i + 1) ≤ p → r = -4) ∧ (∀ p, v = nI p → p < wl_ln (wl_tr j i + 1) → r = nI ((wl_tr j i + 1) / 2 ^ (wl_ln (wl_tr j i + 1) - 1 - p) % 2))) → post r (f_depth, f_termLength, (nI dc), (nI bc), 1, fd, ls, a_sizes, a_empties, a_firsts, a_lasts, a_letters, a_behinds, a_steps, a_term, a_patterns, a_kepts, a_signs, a_signCounts, a_bounds, fw, sm, mt, tr, a_seen, a_apart, a_counts, a_next)) : wpY_letter post (f_depth, f_termLength, (nI dc), (nI bc), f_known, f_found, f_least, a_sizes, a_empties, a_firsts, a_lasts, a_letters, a_behinds, a_steps, a_term, a_patterns, a_kepts, a_signs, a_signCounts, a_bounds, a_firstWords, a_sums, a_met, a_tried, a_seen, a_apart, a_counts, a_next) (nI i) v := by
  unfold wpY_letter
  refine br_f (nI_pos (by omega)) (br_f (nI_nlt (a := 2) (b := i) (by omega) (by omega)) (br_f (by decide) ?_))
  refine yh_try o3 P T hdc hbc ho hD hB hc (fun fd ls fw sm mt tr C => ?_)
  have hcl := ws_cnt_le (wr_sol Q dc D bc B) 3375
  refine pk_eq (ws_cnt (wr_sol Q dc D bc B) 3375) 0 (fun z => ?_) (fun z => ?_) C.1
  · have e := (wl_fs_none (wr_sol Q dc D bc B) 3375).mpr z
    exact K _ _ _ _ _ _ _ C (fun _ => rfl) (fun j _ hj => by rw [e] at hj; cases hj)
  · cases e : wl_fs (wr_sol Q dc D bc B) 3375 with
    | none => exact absurd ((wl_fs_none _ _).mp e) z
    | some j =>
      have hj := wl_fs_lt _ _ _ e
      have ht := wl_tr_lt hj i
      have h3 := wl_ln_3 (wl_tr j i + 1)
      have ew := wz_at i (C.2.2.1 j e i hi)
      by_cases hv : v < 0
      · refine br_t hv (K _ _ _ _ _ _ _ C (fun _ => rfl) (fun j' _ hj' => ⟨fun _ => rfl, fun _ _ _ _ => rfl, fun p hp hl => ?_⟩))
        exfalso
        have h3' := wl_ln_3 (wl_tr j' i + 1)
        subst hp
        exact nI_pos (by omega) hv
      · obtain ⟨p, hp, rfl⟩ := nI_of hv
        refine br_f hv (wz_in i (yg_lo ew ht (pk_lt p (wl_ln (wl_tr j i + 1)) (fun w => wz_in i (yg_let ew ht w (K _ _ _ _ _ _ _ C (fun y => by rw [e] at y; cases y) (fun j' _ hj' => ?_)))) (fun w => K _ _ _ _ _ _ _ C (fun _ => rfl) (fun j' _ hj' => ?_)))))
        · rw [e] at hj'
          cases hj'
          refine ⟨fun y => absurd y hv, fun q hq1 hq2 hq3 => ?_, fun q hq1 hq2 => ?_⟩
          · have := (nI_eq hp hq1).mp hq2
            omega
          · have := (nI_eq hp (by omega)).mp hq1
            subst this
            rfl
        · rw [e] at hj'
          cases hj'
          refine ⟨fun _ => rfl, fun _ _ _ _ => rfl, fun q hq1 hq2 => ?_⟩
          have := (nI_eq hp (by omega)).mp hq1
          omega
theorem yh_lens {post : Int32 → SY → Prop} {i : Nat} (hi : i < 3) (o3 : wt_ok3 Q) (P : wr_YP Q a_sizes a_empties a_firsts a_lasts a_letters a_behinds) (T : wr_YT Q a_steps) (hdc : dc ≤ 6) (hbc : bc ≤ 3) (ho : ∀ d, d < dc → (D d).1 < 3 ∧ (D d).2.2.1 ≤ 4 ∧ ∀ i, i < (D d).2.2.1 → (D d).2.2.2 i < 5) (hD : wr_YD dc D a_signs a_signCounts a_patterns a_kepts) (hB : wr_YB bc B a_bounds) (hc : f_known = 0 ∨ (f_known = 1 ∧ wr_C (wr_sol Q dc D bc B) 3375 f_found f_least a_firstWords a_sums a_met)) (K : ∀ (r : Int32) (fd ls : Int32) (fw sm mt tr : Nat → Int32), wr_C (wr_sol Q dc D bc B) 3375 fd ls fw sm mt → r = nI (wl_S (wr_sol Q dc D bc B) i 3375) → post r (f_depth, f_termLength, (nI dc), (nI bc), 1, fd, ls, a_sizes, a_empties, a_firsts, a_lasts, a_letters, a_behinds, a_steps, a_term, a_patterns, a_kepts, a_signs, a_signCounts, a_bounds, fw, sm, mt, tr, a_seen, a_apart, a_counts, a_next)) : wpY_lengths post (f_depth, f_termLength, (nI dc), (nI bc), f_known, f_found, f_least, a_sizes, a_empties, a_firsts, a_lasts, a_letters, a_behinds, a_steps, a_term, a_patterns, a_kepts, a_signs, a_signCounts, a_bounds, a_firstWords, a_sums, a_met, a_tried, a_seen, a_apart, a_counts, a_next) (nI i) := by
  unfold wpY_lengths
  refine br_f (nI_pos (by omega)) (br_f (nI_nlt (a := 2) (b := i) (by omega) (by omega)) (br_f (by decide) ?_))
  refine yh_try o3 P T hdc hbc ho hD hB hc (fun fd ls fw sm mt tr C => ?_)
  have hM := wl_M_lt (wr_sol Q dc D bc B) i 3375 (by omega)
  have eM := C.2.2.2.2 i hi
  refine pk_loop (fun m w x => wY_lengths_18 post (nI i) f_depth f_termLength (nI dc) (nI bc) 1 fd ls a_sizes a_empties a_firsts a_lasts a_letters a_behinds a_steps a_term a_patterns a_kepts a_signs a_signCounts a_bounds fw sm mt tr a_seen a_apart a_counts a_next m x (nI w)) (fun w x => x = nI (ws_or 0 (fun w => 2 ^ wl_ln (w + 1)) (wl_M (wr_sol Q dc D bc B) i 3375) w)) 15 0 0 (by omega) rfl ?_ ?_
  · intro m x I
    subst I
    refine br_t (nI_le (a := 15) (b := 15) (by omega) (by omega)) (K _ _ _ _ _ _ _ C ?_)
    rw [wl_S_M _ _ 3375 (by omega)]
  · intro m w x hw I ih
    subst I
    have h3 := wl_ln_3 (w + 1)
    refine br_f (nI_ge (b := 15) hw (by omega)) (wz_in i (wz_tb ((wl_M (wr_sol Q dc D bc B) i 3375).testBit w) (fun z => ?_) (fun z => ?_) ?_))
    · refine yg_lo rfl hw (nm_r (e' := nI (ws_or 0 (fun w => 2 ^ wl_ln (w + 1)) (wl_M (wr_sol Q dc D bc B) i 3375) (w + 1))) ?_ (nm_r (nI_1 w) (ih _ rfl)))
      rw [wr_one (by omega), wr_or, ws_or_s, if_pos z]
    · refine nm_r (nI_1 w) (ih _ ?_)
      rw [ws_or_s, if_neg (by rw [z]; exact Bool.false_ne_true)]
    · rw [wz_at i eM]
      exact wr_bit1 (by omega) (by omega)
theorem yh_dif {post : Int32 → SY → Prop} {i : Nat} (hi : i < 3) (o3 : wt_ok3 Q) (P : wr_YP Q a_sizes a_empties a_firsts a_lasts a_letters a_behinds) (T : wr_YT Q a_steps) (hdc : dc ≤ 6) (hbc : bc ≤ 3) (ho : ∀ d, d < dc → (D d).1 < 3 ∧ (D d).2.2.1 ≤ 4 ∧ ∀ i, i < (D d).2.2.1 → (D d).2.2.2 i < 5) (hD : wr_YD dc D a_signs a_signCounts a_patterns a_kepts) (hB : wr_YB bc B a_bounds) (hc : f_known = 0 ∨ (f_known = 1 ∧ wr_C (wr_sol Q dc D bc B) 3375 f_found f_least a_firstWords a_sums a_met)) (K : ∀ (r : Int32) (fd ls : Int32) (fw sm mt tr : Nat → Int32), wr_C (wr_sol Q dc D bc B) 3375 fd ls fw sm mt → r = nI (ws_cnt (fun w => (wl_M (wr_sol Q dc D bc B) i 3375).testBit w) 15) → post r (f_depth, f_termLength, (nI dc), (nI bc), 1, fd, ls, a_sizes, a_empties, a_firsts, a_lasts, a_letters, a_behinds, a_steps, a_term, a_patterns, a_kepts, a_signs, a_signCounts, a_bounds, fw, sm, mt, tr, a_seen, a_apart, a_counts, a_next)) : wpY_different post (f_depth, f_termLength, (nI dc), (nI bc), f_known, f_found, f_least, a_sizes, a_empties, a_firsts, a_lasts, a_letters, a_behinds, a_steps, a_term, a_patterns, a_kepts, a_signs, a_signCounts, a_bounds, a_firstWords, a_sums, a_met, a_tried, a_seen, a_apart, a_counts, a_next) (nI i) := by
  unfold wpY_different
  refine br_f (nI_pos (by omega)) (br_f (nI_nlt (a := 2) (b := i) (by omega) (by omega)) (br_f (by decide) ?_))
  refine yh_try o3 P T hdc hbc ho hD hB hc (fun fd ls fw sm mt tr C => ?_)
  have hM := wl_M_lt (wr_sol Q dc D bc B) i 3375 (by omega)
  have eM := C.2.2.2.2 i hi
  refine pk_loop (fun m w x => wY_different_18 post (nI i) f_depth f_termLength (nI dc) (nI bc) 1 fd ls a_sizes a_empties a_firsts a_lasts a_letters a_behinds a_steps a_term a_patterns a_kepts a_signs a_signCounts a_bounds fw sm mt tr a_seen a_apart a_counts a_next m x (nI w)) (fun w x => x = nI (ws_cnt (fun w => (wl_M (wr_sol Q dc D bc B) i 3375).testBit w) w)) 15 0 0 (by omega) rfl ?_ ?_
  · intro m x I
    subst I
    exact br_t (nI_le (a := 15) (b := 15) (by omega) (by omega)) (K _ _ _ _ _ _ _ C rfl)
  · intro m w x hw I ih
    subst I
    refine br_f (nI_ge (b := 15) hw (by omega)) (wz_in i (nm_r (e' := nI (ws_cnt (fun w => (wl_M (wr_sol Q dc D bc B) i 3375).testBit w) (w + 1))) ?_ (nm_r (nI_1 w) (ih _ rfl))))
    rw [wz_at i eM, wr_bit (by omega) (by omega), nI_add, ws_cnt_s, Nat.testBit_eq_decide_div_mod_eq]
    have hc2 : wl_M (wr_sol Q dc D bc B) i 3375 / 2 ^ w % 2 = 0 ∨ wl_M (wr_sol Q dc D bc B) i 3375 / 2 ^ w % 2 = 1 := by omega
    rcases hc2 with hc2 | hc2
    · rw [hc2]; rfl
    · rw [hc2]; rfl
theorem yh_ofl {post : Int32 → SY → Prop} {v : Int32} (o3 : wt_ok3 Q) (P : wr_YP Q a_sizes a_empties a_firsts a_lasts a_letters a_behinds) (T : wr_YT Q a_steps) (hdc : dc ≤ 6) (hbc : bc ≤ 3) (ho : ∀ d, d < dc → (D d).1 < 3 ∧ (D d).2.2.1 ≤ 4 ∧ ∀ i, i < (D d).2.2.1 → (D d).2.2.2 i < 5) (hD : wr_YD dc D a_signs a_signCounts a_patterns a_kepts) (hB : wr_YB bc B a_bounds) (hc : f_known = 0 ∨ (f_known = 1 ∧ wr_C (wr_sol Q dc D bc B) 3375 f_found f_least a_firstWords a_sums a_met)) (K : ∀ (r : Int32) (fd ls : Int32) (fw sm mt tr : Nat → Int32), wr_C (wr_sol Q dc D bc B) 3375 fd ls fw sm mt → r = nI (ws_cnt (fun j => wr_sol Q dc D bc B j && decide (nI (wl_sm j) = v)) 3375) → post r (f_depth, f_termLength, (nI dc), (nI bc), 1, fd, ls, a_sizes, a_empties, a_firsts, a_lasts, a_letters, a_behinds, a_steps, a_term, a_patterns, a_kepts, a_signs, a_signCounts, a_bounds, fw, sm, mt, tr, a_seen, a_apart, a_counts, a_next)) : wpY_ofLength post (f_depth, f_termLength, (nI dc), (nI bc), f_known, f_found, f_least, a_sizes, a_empties, a_firsts, a_lasts, a_letters, a_behinds, a_steps, a_term, a_patterns, a_kepts, a_signs, a_signCounts, a_bounds, a_firstWords, a_sums, a_met, a_tried, a_seen, a_apart, a_counts, a_next) v := by
  unfold wpY_ofLength
  refine yh_try o3 P T hdc hbc ho hD hB hc (fun fd ls fw sm mt tr C => ?_)
  have h9 := wl_sm_9
  by_cases hv : v < 0
  · refine br_t hv (K _ _ _ _ _ _ _ C ?_)
    rw [ws_cnt_0 _ 3375 (fun j _ => ?_)]
    · rfl
    · rw [decide_eq_false, Bool.and_false]
      intro y
      subst y
      exact nI_pos (by have := h9 j; omega) hv
  · obtain ⟨p, hp, rfl⟩ := nI_of hv
    have e : (fun j => wr_sol Q dc D bc B j && decide (nI (wl_sm j) = nI p)) = (fun j => wr_sol Q dc D bc B j && decide (wl_sm j = p)) := by
      funext j
      congr 1
      rw [decide_eq_decide]
      exact nI_eq (by have := h9 j; omega) hp
    rw [e] at K
    refine br_f hv (pk_le p 9 (fun z => wz_in p (K _ _ _ _ _ _ _ C ?_)) (fun z => K _ _ _ _ _ _ _ C ?_))
    · rw [nI_clamp hp]
      exact C.2.2.2.1 p (by omega)
    · rw [ws_cnt_0 _ 3375 (fun j _ => ?_)]
      · rfl
      · rw [decide_eq_false, Bool.and_false]
        have := h9 j
        omega
end
