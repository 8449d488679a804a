/-! the reference: how many words, endless -/
section
variable {f_depth f_termLength f_demands f_boundCount f_known f_found f_least : Int32} {a_sizes a_empties a_firsts a_lasts a_letters a_behinds a_steps a_term a_patterns a_kepts a_signs a_signCounts a_bounds a_firstWords a_sums a_met a_tried a_seen a_apart a_counts a_next : Nat → Int32}
theorem yd_acc {post : Int32 → Prop} {p : ws_Pat} {k t : Nat} {x : Int32} (hx : x = nI t) (hk : k < 3) (ht : t < 128) (L : wr_YL p (5 + k) a_sizes a_empties a_firsts a_lasts a_letters a_behinds) (K : post (wr_b (wt_a p t))) : wpY_accepts post (f_depth, f_termLength, f_demands, f_boundCount, f_known, f_found, f_least, a_sizes, a_empties, a_firsts, a_lasts, a_letters, a_behinds, a_steps, a_term, a_patterns, a_kepts, a_signs, a_signCounts, a_bounds, a_firstWords, a_sums, a_met, a_tried, a_seen, a_apart, a_counts, a_next) (nI k) x := by
  subst hx
  obtain ⟨c1, c2, c3, c4, c5⟩ := L
  have h1 : t &&& wt_L p ≤ t := Nat.and_le_left
  have h2 : t &&& 64 ≤ t := Nat.and_le_left
  unfold wt_a at K
  refine wz_in (5 + k) (pk_eq (t &&& wt_L p) 0 (fun z => pk_eq (t &&& 64) 0 (fun w => ?_) (fun w => wz_in (5 + k) (wz_if (wt_e p) (fun y => ?_) (fun y => ?_) (wz_at (5 + k) c2 (wz_5 k))) (by omega) (wz_5 k)) (nx_and t 64)) (fun z => ?_) (by rw [wz_at (5 + k) c4 (wz_5 k), nx_and])) (by omega) (wz_5 k)
  · rw [decide_eq_false (fun y => y z), (ya_64 t ht).mp w, Bool.false_and, Bool.or_false] at K
    exact K
  · rw [decide_eq_false (fun y => y z), y, Bool.and_false, Bool.or_false] at K
    exact K
  · have : t.testBit 6 = true := by
      cases h : t.testBit 6 with
      | true => rfl
      | false => exact absurd ((ya_64 t ht).mpr h) w
    rw [decide_eq_false (fun y => y z), y, this] at K
    exact K
  · rw [decide_eq_true z, Bool.true_or] at K
    exact K
theorem yd_cw {post : Int32 → SY → Prop} {Q : Nat → ws_Pat} {k m : Nat} (hk : k < 3) (hm : m < 2 ^ 31) (hp : wt_ok (Q k)) (L : wr_YL (Q k) (5 + k) a_sizes a_empties a_firsts a_lasts a_letters a_behinds) (T : wr_YT Q a_steps) (K : ∀ ca nx : Nat → Int32, post (nI (ws_A (wt_d (Q k)) (wt_a (Q k)) m 64)) (f_depth, f_termLength, f_demands, f_boundCount, f_known, f_found, f_least, a_sizes, a_empties, a_firsts, a_lasts, a_letters, a_behinds, a_steps, a_term, a_patterns, a_kepts, a_signs, a_signCounts, a_bounds, a_firstWords, a_sums, a_met, a_tried, a_seen, a_apart, ca, nx)) : wpY_countWords post (f_depth, f_termLength, f_demands, f_boundCount, f_known, f_found, f_least, a_sizes, a_empties, a_firsts, a_lasts, a_letters, a_behinds, a_steps, a_term, a_patterns, a_kepts, a_signs, a_signCounts, a_bounds, a_firstWords, a_sums, a_met, a_tried, a_seen, a_apart, a_counts, a_next) (nI k) (nI m) := by
  refine pk_loop (fun n i ca => wY_countWords_2 post (nI k) (nI m) f_depth f_termLength f_demands f_boundCount f_known f_found f_least n (nI i) a_sizes a_empties a_firsts a_lasts a_letters a_behinds a_steps a_term a_patterns a_kepts a_signs a_signCounts a_bounds a_firstWords a_sums a_met a_tried a_seen a_apart ca a_next) (fun i ca => ∀ s, s < i → ca s = if s = 64 then 1 else 0) 128 0 a_counts (by omega) (fun s hs => absurd hs (by omega)) ?_ ?_
  · intro n ca I
    refine br_t (nI_le (a := 128) (b := 128) (by omega) (by omega)) ?_
    refine pk_loop (fun n r (s : (Nat → Int32) × (Nat → Int32)) => wY_countWords_34 post (nI k) (nI m) n (nI r) f_depth f_termLength f_demands f_boundCount f_known f_found f_least a_sizes a_empties a_firsts a_lasts a_letters a_behinds a_steps a_term a_patterns a_kepts a_signs a_signCounts a_bounds a_firstWords a_sums a_met a_tried a_seen a_apart s.1 s.2) (fun r s => ws_sum s.1 (ws_A (wt_d (Q k)) (wt_a (Q k)) (m - r)) 128 = nI (ws_A (wt_d (Q k)) (wt_a (Q k)) m 64)) m 0 (ca, a_next) (by omega) ?_ ?_ ?_
    · dsimp only
      have e : ∀ s, s < 128 → ca s = upd (fun _ => 0) 64 ((fun _ => (0 : Int32)) 64 + 1) s := by
        intro s hs
        rw [I s hs]
        by_cases z : s = 64
        · subst z; rw [if_pos rfl, pk_us]; rfl
        · rw [if_neg z, pk_un z]
      rw [ws_sum_congr _ 128 e, ws_sum_upd _ _ _ _ 128 (by omega), ws_sum_0 _ 128 (fun _ _ => rfl), Int32.zero_add, Int32.one_mul, Nat.sub_zero]
    · intro n s I2
      refine br_t (nI_le (Nat.le_refl _) hm) ?_
      rw [Nat.sub_self] at I2
      refine pk_loop (fun n i x => wY_countWords_135 post (nI k) f_depth f_termLength f_demands f_boundCount f_known f_found f_least a_sizes a_empties a_firsts a_lasts a_letters a_behinds a_steps a_term a_patterns a_kepts a_signs a_signCounts a_bounds a_firstWords a_sums a_met a_tried a_seen a_apart s.1 s.2 n x (nI i)) (fun i x => x = ws_sum s.1 (ws_A (wt_d (Q k)) (wt_a (Q k)) 0) i) 128 0 0 (by omega) rfl ?_ ?_
      · intro n x I3
        rw [I2] at I3
        subst I3
        exact br_t (nI_le (a := 128) (b := 128) (by omega) (by omega)) (K s.1 s.2)
      · intro n i x hi I3 ih
        have hA : ws_A (wt_d (Q k)) (wt_a (Q k)) 0 i = if wt_a (Q k) i = true then 1 else 0 := rfl
        refine br_f (nI_ge (b := 128) hi (by omega)) (yd_acc rfl hk hi L (wz_if _ (fun z => nm_r (nI_1 i) (ih _ ?_)) (fun z => wz_in i (nm_e (nm_r (nI_1 i) (ih _ ?_))))))
        · rw [ws_sum_s, hA, z, I3, if_neg Bool.false_ne_true, show nI 0 = 0 from rfl, Int32.mul_zero, Int32.add_zero]
        · rw [ws_sum_s, hA, z, I3, if_pos rfl, show nI 1 = 1 from rfl, Int32.mul_one, wz_at (a := s.1) i rfl]
    · intro n r s hr I2 ih
      refine br_f (nI_ge hr hm) ?_
      refine pk_loop (fun n' i nx => wY_countWords_42 post (wY_countWords_34 post (nI k) (nI m) n) (nI k) (nI m) (nI r) f_depth f_termLength f_demands f_boundCount f_known f_found f_least n' (nI i) a_sizes a_empties a_firsts a_lasts a_letters a_behinds a_steps a_term a_patterns a_kepts a_signs a_signCounts a_bounds a_firstWords a_sums a_met a_tried a_seen a_apart s.1 nx) (fun i nx => ∀ s, s < i → nx s = 0) 128 0 s.2 (by omega) (fun s hs => absurd hs (by omega)) ?_ ?_
      · intro n' nx I3
        refine br_t (nI_le (a := 128) (b := 128) (by omega) (by omega)) ?_
        refine pk_loop (fun n' i nx => wY_countWords_67 post (wY_countWords_34 post (nI k) (nI m) n) (nI k) (nI m) (nI r) f_depth f_termLength f_demands f_boundCount f_known f_found f_least n' (nI i) a_sizes a_empties a_firsts a_lasts a_letters a_behinds a_steps a_term a_patterns a_kepts a_signs a_signCounts a_bounds a_firstWords a_sums a_met a_tried a_seen a_apart s.1 nx) (fun i nx => ws_sum nx (ws_A (wt_d (Q k)) (wt_a (Q k)) (m - (r + 1))) 128 = ws_sum (fun j => s.1 (j / 2)) (fun j => ws_A (wt_d (Q k)) (wt_a (Q k)) (m - (r + 1)) (wt_d (Q k) (j / 2) (decide (j % 2 = 1)))) i) 256 0 nx (by omega) (ws_sum_0 _ 128 I3) ?_ ?_
        · intro n' nx I4
          refine br_t (nI_le (a := 256) (b := 256) (by omega) (by omega)) ?_
          refine pk_loop (fun n' i ca => wY_copyNext_2 _ f_depth f_termLength f_demands f_boundCount f_known f_found f_least n' (nI i) a_sizes a_empties a_firsts a_lasts a_letters a_behinds a_steps a_term a_patterns a_kepts a_signs a_signCounts a_bounds a_firstWords a_sums a_met a_tried a_seen a_apart ca nx) (fun i ca => ∀ s, s < i → ca s = nx s) 128 0 s.1 (by omega) (fun s hs => absurd hs (by omega)) ?_ ?_
          · intro n' ca I5
            refine br_t (nI_le (a := 128) (b := 128) (by omega) (by omega)) (nm_r (nI_1 r) (ih (ca, nx) ?_))
            dsimp only
            have e := ws_sum_half s.1 (fun a c => ws_A (wt_d (Q k)) (wt_a (Q k)) (m - (r + 1)) (wt_d (Q k) a (decide (c = 1)))) 128
            rw [ws_sum_congr _ 128 I5, I4]
            refine Eq.trans e ?_
            rw [← I2, show m - r = m - (r + 1) + 1 from by omega]
            rfl
          · intro n' i ca hi I5 ih5
            refine br_f (nI_ge (b := 128) hi (by omega)) (wz_in i (wz_st i (nx i) (nm_r (nI_1 i) (ih5 _ ?_)) (by omega) rfl (wz_at i rfl)))
            intro s hs
            by_cases z : s = i
            · subst z; exact pk_us
            · rw [pk_un z]; exact I5 s (by omega)
        · intro n' i nx hi I4 ih4
          have b0 := wt_d_lt hp (i / 2) (decide (i % 2 = 1))
          refine br_f (nI_ge (b := 256) hi (by omega)) (wz_ld (256 * k + i) (nI (wt_d (Q k) (i / 2) (decide (i % 2 = 1)))) (wz_in (wt_d (Q k) (i / 2) (decide (i % 2 = 1))) ⟨by decide, wz_in (i / 2) (wz_st (wt_d (Q k) (i / 2) (decide (i % 2 = 1))) (nx (wt_d (Q k) (i / 2) (decide (i % 2 = 1))) + s.1 (i / 2)) (nm_r (nI_1 i) (ih4 _ ?_)) (by omega) rfl ?_) (by omega) (wz_d2 (by omega))⟩ (by omega)) (by omega) (wz_256 k i) (T k hk i hi))
          · rw [ws_sum_upd _ _ _ _ 128 (by omega), I4, ws_sum_s]
          · rw [nI_clamp (by omega), wz_d2 (by omega), nI_clamp (by omega)]
      · intro n' i nx hi I3 ih3
        refine br_f (nI_ge (b := 128) hi (by omega)) (wz_st i 0 (nm_r (nI_1 i) (ih3 _ ?_)))
        intro s hs
        by_cases z : s = i
        · subst z; exact pk_us
        · rw [pk_un z]; exact I3 s (by omega)
  · intro n i ca hi I ih
    have nx : ∀ v, v = (if i = 64 then (1 : Int32) else 0) → ∀ s, s < i + 1 → upd ca i v s = if s = 64 then 1 else 0 := by
      intro v hv s hs
      by_cases e : s = i
      · subst e; rw [pk_us, hv]
      · rw [pk_un e]; exact I s (by omega)
    refine br_f (nI_ge (b := 128) hi (by omega)) (pk_eq i 64 (fun z => wz_st i 1 (nm_r (nI_1 i) (ih _ (nx 1 ?_)))) (fun z => wz_st i 0 (nm_r (nI_1 i) (ih _ (nx 0 ?_)))))
    · rw [if_pos z]
    · rw [if_neg z]
theorem yd_end {post : Int32 → SY → Prop} {Q : Nat → ws_Pat} {k : Nat} (hk : k < 3) (hp : wt_ok (Q k)) (L : wr_YL (Q k) (5 + k) a_sizes a_empties a_firsts a_lasts a_letters a_behinds) (T : wr_YT Q a_steps) (K : ∀ (b : Bool) (ca nx : Nat → Int32), (b = true ↔ ∃ n, wt_m (Q k) + 1 ≤ n ∧ n < 2 * wt_m (Q k) + 3 ∧ 0 < ws_A (wt_d (Q k)) (wt_a (Q k)) n 64) → post (wr_b b) (f_depth, f_termLength, f_demands, f_boundCount, f_known, f_found, f_least, a_sizes, a_empties, a_firsts, a_lasts, a_letters, a_behinds, a_steps, a_term, a_patterns, a_kepts, a_signs, a_signCounts, a_bounds, a_firstWords, a_sums, a_met, a_tried, a_seen, a_apart, ca, nx)) : wpY_endless post (f_depth, f_termLength, f_demands, f_boundCount, f_known, f_found, f_least, a_sizes, a_empties, a_firsts, a_lasts, a_letters, a_behinds, a_steps, a_term, a_patterns, a_kepts, a_signs, a_signCounts, a_bounds, a_firstWords, a_sums, a_met, a_tried, a_seen, a_apart, a_counts, a_next) (nI k) := by
  have hm := hp.1
  have e3 : (2 : Int32) * nI (wt_m (Q k)) + 3 = nI (2 * wt_m (Q k) + 3) := wz_am 2 (wt_m (Q k)) 3
  unfold wpY_endless
  refine br_f (nI_pos (by omega)) (br_f (nI_nlt (a := 2) (b := k) (by omega) (by omega)) (br_f (by decide) (wz_ld (5 + k) (nI (wt_m (Q k))) (nm_r (nI_1 _) ?_) (by omega) (wz_5 k) L.1)))
  refine pk_loop (fun n i (s : (Nat → Int32) × (Nat → Int32)) => wY_endless_23 post (nI k) (nI (wt_m (Q k))) n (nI i) f_depth f_termLength f_demands f_boundCount f_known f_found f_least a_sizes a_empties a_firsts a_lasts a_letters a_behinds a_steps a_term a_patterns a_kepts a_signs a_signCounts a_bounds a_firstWords a_sums a_met a_tried a_seen a_apart s.1 s.2) (fun i _ => wt_m (Q k) + 1 ≤ i ∧ ∀ n, wt_m (Q k) + 1 ≤ n → n < i → ws_A (wt_d (Q k)) (wt_a (Q k)) n 64 = 0) (2 * wt_m (Q k) + 3) (wt_m (Q k) + 1) (a_counts, a_next) (by omega) ⟨by omega, fun n h1 h2 => absurd h1 (by omega)⟩ ?_ ?_
  · intro n s I
    refine br_t (by rw [e3]; exact nI_le (Nat.le_refl _) (by omega)) (K false s.1 s.2 ⟨fun z => absurd z Bool.false_ne_true, ?_⟩)
    rintro ⟨n, h1, h2, h3⟩
    have := I.2 n h1 h2
    omega
  · intro n i s hi I ih
    have hA := ws_A_le (wt_d (Q k)) (wt_a (Q k)) i 64
    have hA2 : 2 ^ i ≤ 2 ^ 15 := Nat.pow_le_pow_right (by decide) (by omega)
    refine br_f (by rw [e3]; exact nI_ge hi (by omega)) (yd_cw hk (by omega) hp L T (fun ca nx => pk_le (ws_A (wt_d (Q k)) (wt_a (Q k)) i 64) 0 (fun z => nm_r (nI_1 i) (ih (ca, nx) ⟨by omega, ?_⟩)) (fun z => K true ca nx ⟨fun _ => ⟨i, I.1, hi, z⟩, fun _ => rfl⟩)))
    intro n h1 h2
    by_cases e : n = i
    · subst e; omega
    · exact I.2 n h1 (by omega)
end
