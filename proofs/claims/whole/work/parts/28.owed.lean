/-! what is owed -/
theorem i_vc0 : wpX_init (fun u => wpY_init (fun v => i_Rel 0 u v)) := by
  refine xd_init (fun st en Pl => ya_init (fun em st' YP YT => ?_))
  refine zr_mk (dp := 0) (tc := 0) (dc := 0) (bc := 0) (P := fun _ => wt_sim 3) (Q := fun _ => wt_sim 3) (g := fun _ => 0) (D := fun _ => (0, false, 0, fun _ => 0)) (B := fun _ => 0) ⟨by omega, by omega, by omega, by omega, fun i hi => absurd hi (by omega)⟩ (zr_X (fun s hs => absurd hs (by omega)) Pl (fun s hs => absurd hs (by omega)) (fun s hs => absurd hs (by omega)) (fun s hs => absurd hs (by omega))) (zr_Y (fun s hs => absurd hs (by omega)) YP YT (fun s hs => absurd hs (by omega)) (fun s hs => absurd hs (by omega)) (fun s hs => absurd hs (by omega)) (Or.inl rfl))
theorem i_vc_simple {k : Nat} {u : SX} {v : SY} (I : i_Rel k u v) (hk : k + 5 ≤ 2560) (v1 : Int32) : wpX_simple (fun r u' => wpY_simple (fun r' v' => r' = r ∧ i_Rel (k + 5) u' v') v v1) u v1 := by
  obtain ⟨f_stacked, f_signCount, f_demandCount, f_boundCount, a_sizes, a_withEmpty, a_firsts, a_lasts, a_zeroReaders, a_oneReaders, a_followers, a_placedSizes, a_steps, a_ends, a_ways, a_nextWays, a_groups, a_finerGroups, a_reached, a_signs, a_demandSigns, a_demandSignCounts, a_demandPatterns, a_demandKept, a_boundA, a_boundB, a_boundC, a_boundD⟩ := u
  obtain ⟨f_depth', f_termLength', f_demands', f_boundCount', f_known', f_found', f_least', a_sizes', a_empties', a_firsts', a_lasts', a_letters', a_behinds', a_steps', a_term', a_patterns', a_kepts', a_signs', a_signCounts', a_bounds', a_firstWords', a_sums', a_met', a_tried', a_seen', a_apart', a_counts', a_next'⟩ := v
  have I' := i_up I
  obtain ⟨dp, tc, dc, bc, P, Q, g, D, B, ⟨g1, g2, g3, g4, g5⟩, ⟨rfl, rfl, rfl, rfl, S, Pl, Tm, hD, hB⟩, ⟨rfl, rfl, rfl, rfl, YS, YP, YT, YTm, YD, YB, hc⟩⟩ := I
  by_cases h0 : v1 < 0
  · exact br_t h0 (br_t h0 ⟨rfl, I'⟩)
  by_cases h3 : v1 ≤ 3
  · by_cases hd : dp < 5
    · obtain ⟨w, hw, rfl⟩ : ∃ w, w ≤ 3 ∧ v1 = nI w := by
        obtain ⟨w, hw, rfl⟩ := nI_of h0
        exact ⟨w, (nI_leI (b := 3) hw (by decide)).mp h3, rfl⟩
      have fin : ∀ (p : ws_Pat) (sz we fi la zr on fo : Nat → Int32) (sz' em' fi' la' le' be' : Nat → Int32), wr_XS (dp + 1) (wr_P P dp p) sz we fi la zr on fo → wr_YL p dp sz' em' fi' la' le' be' → yb_F dp a_sizes' a_empties' a_firsts' a_lasts' a_letters' a_behinds' sz' em' fi' la' le' be' → i_Rel (k + 5) ((nI (dp + 1)), (nI tc), (nI dc), (nI bc), sz, we, fi, la, zr, on, fo, a_placedSizes, a_steps, a_ends, a_ways, a_nextWays, a_groups, a_finerGroups, a_reached, a_signs, a_demandSigns, a_demandSignCounts, a_demandPatterns, a_demandKept, a_boundA, a_boundB, a_boundC, a_boundD) ((nI (dp + 1)), (nI tc), (nI dc), (nI bc), f_known', f_found', f_least', sz', em', fi', la', le', be', a_steps', a_term', a_patterns', a_kepts', a_signs', a_signCounts', a_bounds', a_firstWords', a_sums', a_met', a_tried', a_seen', a_apart', a_counts', a_next') := by
        intro p sz we fi la zr on fo sz' em' fi' la' le' be' S' L F
        exact zr_mk ⟨by omega, g2, g3, g4, g5⟩ (zr_X S' Pl Tm hD hB) (zr_Y (zr_YS (fun s hs z => ⟨(S s (by omega)).1, YS s (by omega)⟩) L F) (zr_YP Pl.1 hd YP F) YT YTm YD YB hc)
      have e : w = 0 ∨ w = 1 ∨ w = 2 ∨ w = 3 := by omega
      rcases e with rfl | rfl | rfl | rfl
      · exact xa_sim0 hd S (fun _ _ _ _ _ _ _ S' => yb_sim0 hd (fun _ _ _ _ _ _ L F => ⟨rfl, fin _ _ _ _ _ _ _ _ _ _ _ _ _ _ S' L F⟩))
      · exact xa_sim1 hd S (fun _ _ _ _ _ _ _ S' => yb_sim1 hd (fun _ _ _ _ _ _ L F => ⟨rfl, fin _ _ _ _ _ _ _ _ _ _ _ _ _ _ S' L F⟩))
      · exact xa_sim2 hd S (fun _ _ _ _ _ _ _ S' => yb_sim2 hd (fun _ _ _ _ _ _ L F => ⟨rfl, fin _ _ _ _ _ _ _ _ _ _ _ _ _ _ S' L F⟩))
      · exact xa_sim3 hd S (fun _ _ _ _ _ _ _ S' => yb_sim3 hd (fun _ _ _ _ _ _ L F => ⟨rfl, fin _ _ _ _ _ _ _ _ _ _ _ _ _ _ S' L F⟩))
    · have e : dp = 5 := by omega
      subst e
      exact br_f h0 (br_t h3 (br_f (by decide) (br_f h0 (br_t h3 (br_t rfl ⟨rfl, I'⟩)))))
  · exact br_f h0 (br_f h3 (br_f h0 (br_f h3 ⟨rfl, I'⟩)))
theorem i_vc_then {k : Nat} {u : SX} {v : SY} (I : i_Rel k u v) (hk : k + 5 ≤ 2560) : wpX_then (fun r u' => wpY_then (fun r' v' => r' = r ∧ i_Rel (k + 5) u' v') v) u := by
  obtain ⟨f_stacked, f_signCount, f_demandCount, f_boundCount, a_sizes, a_withEmpty, a_firsts, a_lasts, a_zeroReaders, a_oneReaders, a_followers, a_placedSizes, a_steps, a_ends, a_ways, a_nextWays, a_groups, a_finerGroups, a_reached, a_signs, a_demandSigns, a_demandSignCounts, a_demandPatterns, a_demandKept, a_boundA, a_boundB, a_boundC, a_boundD⟩ := u
  obtain ⟨f_depth', f_termLength', f_demands', f_boundCount', f_known', f_found', f_least', a_sizes', a_empties', a_firsts', a_lasts', a_letters', a_behinds', a_steps', a_term', a_patterns', a_kepts', a_signs', a_signCounts', a_bounds', a_firstWords', a_sums', a_met', a_tried', a_seen', a_apart', a_counts', a_next'⟩ := v
  have I' := i_up I
  obtain ⟨dp, tc, dc, bc, P, Q, g, D, B, ⟨g1, g2, g3, g4, g5⟩, ⟨rfl, rfl, rfl, rfl, S, Pl, Tm, hD, hB⟩, ⟨rfl, rfl, rfl, rfl, YS, YP, YT, YTm, YD, YB, hc⟩⟩ := I
  by_cases h2 : 2 ≤ dp
  · obtain ⟨d, rfl⟩ : ∃ d, dp = d + 2 := ⟨dp - 2, by omega⟩
    have op := (S d (by omega)).1
    have oq := (S (d + 1) (by omega)).1
    by_cases hm : wt_m (P d) + wt_m (P (d + 1)) ≤ 6
    · refine xc_then g1 S hm (fun sz we fi la zr on fo S' => ?_)
      unfold wpY_then
      refine yc_join (th := true) g1 op oq hm (YS d (by omega)) (YS (d + 1) (by omega)) (fun sz' em' fi' la' le' be' L F => ⟨rfl, ?_⟩)
      exact zr_mk ⟨by omega, g2, g3, g4, g5⟩ (zr_X S' Pl Tm hD hB) (zr_Y (zr_YS (fun s hs z => ⟨(S s (by omega)).1, YS s (by omega)⟩) L F) (zr_YP Pl.1 (by omega) YP F) YT YTm YD YB hc)
    · have e1 : nI (d + 2) - 2 = nI d := pk_sub (a := d + 2) (b := 2) (by omega)
      have e2 : nI (d + 2) - 1 = nI (d + 1) := nI_pred (d + 1)
      have hp6 := op.1
      have hq6 := oq.1
      unfold wpX_then
      refine xb_ref g1 (S d (by omega)).2.1 (S (d + 1) (by omega)).2.1 op.1 oq.1 (fun z => absurd z hm) (fun _ => br_f (by decide) ?_)
      unfold wpY_then
      refine br_t (nI_le (a := 2) (b := d + 2) (by omega) (by omega)) (nm_r e1 (nm_r e2 (wz_ld d (nI (wt_m (P d))) (wz_in (d + 1) (br_f ?_ ⟨rfl, I'⟩)) (by omega) rfl (YS d (by omega)).1)))
      rw [wz_at (d + 1) (YS (d + 1) (by omega)).1, nI_add]
      exact nI_ge (b := wt_m (P d) + wt_m (P (d + 1))) (a := 6) (by omega) (by omega)
  · unfold wpX_then
    refine br_f (nI_ge (b := 2) (by omega) (by decide)) (br_f (by decide) ?_)
    unfold wpY_then
    exact br_f (nI_ge (b := 2) (by omega) (by decide)) ⟨rfl, I'⟩
theorem i_vc_or {k : Nat} {u : SX} {v : SY} (I : i_Rel k u v) (hk : k + 5 ≤ 2560) : wpX_or (fun r u' => wpY_or (fun r' v' => r' = r ∧ i_Rel (k + 5) u' v') v) u := by
  obtain ⟨f_stacked, f_signCount, f_demandCount, f_boundCount, a_sizes, a_withEmpty, a_firsts, a_lasts, a_zeroReaders, a_oneReaders, a_followers, a_placedSizes, a_steps, a_ends, a_ways, a_nextWays, a_groups, a_finerGroups, a_reached, a_signs, a_demandSigns, a_demandSignCounts, a_demandPatterns, a_demandKept, a_boundA, a_boundB, a_boundC, a_boundD⟩ := u
  obtain ⟨f_depth', f_termLength', f_demands', f_boundCount', f_known', f_found', f_least', a_sizes', a_empties', a_firsts', a_lasts', a_letters', a_behinds', a_steps', a_term', a_patterns', a_kepts', a_signs', a_signCounts', a_bounds', a_firstWords', a_sums', a_met', a_tried', a_seen', a_apart', a_counts', a_next'⟩ := v
  have I' := i_up I
  obtain ⟨dp, tc, dc, bc, P, Q, g, D, B, ⟨g1, g2, g3, g4, g5⟩, ⟨rfl, rfl, rfl, rfl, S, Pl, Tm, hD, hB⟩, ⟨rfl, rfl, rfl, rfl, YS, YP, YT, YTm, YD, YB, hc⟩⟩ := I
  by_cases h2 : 2 ≤ dp
  · obtain ⟨d, rfl⟩ : ∃ d, dp = d + 2 := ⟨dp - 2, by omega⟩
    have op := (S d (by omega)).1
    have oq := (S (d + 1) (by omega)).1
    by_cases hm : wt_m (P d) + wt_m (P (d + 1)) ≤ 6
    · refine xb_or g1 S hm (fun sz we fi la zr on fo S' => ?_)
      unfold wpY_or
      refine yc_join (th := false) g1 op oq hm (YS d (by omega)) (YS (d + 1) (by omega)) (fun sz' em' fi' la' le' be' L F => ⟨rfl, ?_⟩)
      exact zr_mk ⟨by omega, g2, g3, g4, g5⟩ (zr_X S' Pl Tm hD hB) (zr_Y (zr_YS (fun s hs z => ⟨(S s (by omega)).1, YS s (by omega)⟩) L F) (zr_YP Pl.1 (by omega) YP F) YT YTm YD YB hc)
    · have e1 : nI (d + 2) - 2 = nI d := pk_sub (a := d + 2) (b := 2) (by omega)
      have e2 : nI (d + 2) - 1 = nI (d + 1) := nI_pred (d + 1)
      have hp6 := op.1
      have hq6 := oq.1
      unfold wpX_or
      refine xb_ref g1 (S d (by omega)).2.1 (S (d + 1) (by omega)).2.1 op.1 oq.1 (fun z => absurd z hm) (fun _ => br_f (by decide) ?_)
      unfold wpY_or
      refine br_t (nI_le (a := 2) (b := d + 2) (by omega) (by omega)) (nm_r e1 (nm_r e2 (wz_ld d (nI (wt_m (P d))) (wz_in (d + 1) (br_f ?_ ⟨rfl, I'⟩)) (by omega) rfl (YS d (by omega)).1)))
      rw [wz_at (d + 1) (YS (d + 1) (by omega)).1, nI_add]
      exact nI_ge (b := wt_m (P d) + wt_m (P (d + 1))) (a := 6) (by omega) (by omega)
  · unfold wpX_or
    refine br_f (nI_ge (b := 2) (by omega) (by decide)) (br_f (by decide) ?_)
    unfold wpY_or
    exact br_f (nI_ge (b := 2) (by omega) (by decide)) ⟨rfl, I'⟩
theorem i_vc_many {k : Nat} {u : SX} {v : SY} (I : i_Rel k u v) (hk : k + 5 ≤ 2560) : wpX_many (fun r u' => wpY_many (fun r' v' => r' = r ∧ i_Rel (k + 5) u' v') v) u := by
  obtain ⟨f_stacked, f_signCount, f_demandCount, f_boundCount, a_sizes, a_withEmpty, a_firsts, a_lasts, a_zeroReaders, a_oneReaders, a_followers, a_placedSizes, a_steps, a_ends, a_ways, a_nextWays, a_groups, a_finerGroups, a_reached, a_signs, a_demandSigns, a_demandSignCounts, a_demandPatterns, a_demandKept, a_boundA, a_boundB, a_boundC, a_boundD⟩ := u
  obtain ⟨f_depth', f_termLength', f_demands', f_boundCount', f_known', f_found', f_least', a_sizes', a_empties', a_firsts', a_lasts', a_letters', a_behinds', a_steps', a_term', a_patterns', a_kepts', a_signs', a_signCounts', a_bounds', a_firstWords', a_sums', a_met', a_tried', a_seen', a_apart', a_counts', a_next'⟩ := v
  have I' := i_up I
  obtain ⟨dp, tc, dc, bc, P, Q, g, D, B, ⟨g1, g2, g3, g4, g5⟩, ⟨rfl, rfl, rfl, rfl, S, Pl, Tm, hD, hB⟩, ⟨rfl, rfl, rfl, rfl, YS, YP, YT, YTm, YD, YB, hc⟩⟩ := I
  by_cases h1 : 1 ≤ dp
  · obtain ⟨d, rfl⟩ : ∃ d, dp = d + 1 := ⟨dp - 1, by omega⟩
    refine xb_many (by omega) S (fun we fo S' => yb_many (by omega) (S d (by omega)).1 (YS d (by omega)) (fun em' be' L F => ⟨rfl, ?_⟩))
    exact zr_mk ⟨g1, g2, g3, g4, g5⟩ (zr_X S' Pl Tm hD hB) (zr_Y (zr_YS (fun s hs z => ⟨(S s hs).1, YS s hs⟩) L F) (zr_YP Pl.1 (by omega) YP F) YT YTm YD YB hc)
  · have e : dp = 0 := by omega
    subst e
    exact br_f (by decide) (br_t rfl ⟨rfl, I'⟩)
theorem i_vc_place {k : Nat} {u : SX} {v : SY} (I : i_Rel k u v) (hk : k + 5 ≤ 2560) (v1 : Int32) : wpX_place (fun r u' => wpY_place (fun r' v' => r' = r ∧ i_Rel (k + 5) u' v') v v1) u v1 := by
  obtain ⟨f_stacked, f_signCount, f_demandCount, f_boundCount, a_sizes, a_withEmpty, a_firsts, a_lasts, a_zeroReaders, a_oneReaders, a_followers, a_placedSizes, a_steps, a_ends, a_ways, a_nextWays, a_groups, a_finerGroups, a_reached, a_signs, a_demandSigns, a_demandSignCounts, a_demandPatterns, a_demandKept, a_boundA, a_boundB, a_boundC, a_boundD⟩ := u
  obtain ⟨f_depth', f_termLength', f_demands', f_boundCount', f_known', f_found', f_least', a_sizes', a_empties', a_firsts', a_lasts', a_letters', a_behinds', a_steps', a_term', a_patterns', a_kepts', a_signs', a_signCounts', a_bounds', a_firstWords', a_sums', a_met', a_tried', a_seen', a_apart', a_counts', a_next'⟩ := v
  have I' := i_up I
  obtain ⟨dp, tc, dc, bc, P, Q, g, D, B, ⟨g1, g2, g3, g4, g5⟩, ⟨rfl, rfl, rfl, rfl, S, Pl, Tm, hD, hB⟩, ⟨rfl, rfl, rfl, rfl, YS, YP, YT, YTm, YD, YB, hc⟩⟩ := I
  rcases zz_3 v1 with h | ⟨h0, h3, h4, h5⟩ | ⟨j, hj, rfl⟩
  · refine br_t h ?_
    unfold wpY_place
    exact br_t h (br_t rfl ⟨rfl, I'⟩)
  · refine br_f h0 (br_f h3 ?_)
    unfold wpY_place
    exact br_f h0 (br_t h5 (br_t rfl ⟨rfl, I'⟩))
  · by_cases h1 : 1 ≤ dp
    · obtain ⟨d, rfl⟩ : ∃ d, dp = d + 1 := ⟨dp - 1, by omega⟩
      have ok := (S d (by omega)).1
      refine xd_place hj (by omega) S Pl (fun st en Pl' => yb_place hj (by omega) ok (YS d (by omega)) (fun sz' em' fi' la' le' be' st' L F t1 t2 => ⟨rfl, ?_⟩))
      refine zr_mk ⟨by omega, g2, g3, g4, g5⟩ (zr_X (fun s hs => S s (by omega)) Pl' Tm hD hB) (zr_Y (fun s hs => F s (P s) (by omega) (S s (by omega)).1.1 (YS s (by omega))) ?_ ?_ YTm YD YB (Or.inl rfl))
      · intro i hi
        by_cases z : i = j
        · subst z; rw [wr_Ps]; exact L
        · rw [wr_Pn _ _ z]; exact F (5 + i) (Q i) (by omega) (Pl.1 i hi).1 (YP i hi)
      · intro i hi n hn
        by_cases z : i = j
        · subst z; rw [wr_Ps]; exact t1 n hn
        · rw [wr_Pn _ _ z, t2 _ (fun m hm => by omega)]; exact YT i hi n hn
    · have e : dp = 0 := by omega
      subst e
      refine br_f (nI_pos (by omega)) (br_t (nI_lt (b := 3) hj (by decide)) (br_f (by decide) ?_))
      unfold wpY_place
      exact br_f (nI_pos (by omega)) (br_f (nI_nlt (a := 2) (b := j) (by omega) (by omega)) (br_f (by decide) (br_t rfl ⟨rfl, I'⟩)))
theorem i_vc_size {k : Nat} {u : SX} {v : SY} (I : i_Rel k u v) (hk : k + 5 ≤ 2560) (v1 : Int32) : wpX_size (fun r => wpY_size (fun r' => r' = r ∧ i_Rel (k + 5) u v) v v1) u v1 := by
  obtain ⟨f_stacked, f_signCount, f_demandCount, f_boundCount, a_sizes, a_withEmpty, a_firsts, a_lasts, a_zeroReaders, a_oneReaders, a_followers, a_placedSizes, a_steps, a_ends, a_ways, a_nextWays, a_groups, a_finerGroups, a_reached, a_signs, a_demandSigns, a_demandSignCounts, a_demandPatterns, a_demandKept, a_boundA, a_boundB, a_boundC, a_boundD⟩ := u
  obtain ⟨f_depth', f_termLength', f_demands', f_boundCount', f_known', f_found', f_least', a_sizes', a_empties', a_firsts', a_lasts', a_letters', a_behinds', a_steps', a_term', a_patterns', a_kepts', a_signs', a_signCounts', a_bounds', a_firstWords', a_sums', a_met', a_tried', a_seen', a_apart', a_counts', a_next'⟩ := v
  have I' := i_up I
  obtain ⟨dp, tc, dc, bc, P, Q, g, D, B, ⟨g1, g2, g3, g4, g5⟩, ⟨rfl, rfl, rfl, rfl, S, Pl, Tm, hD, hB⟩, ⟨rfl, rfl, rfl, rfl, YS, YP, YT, YTm, YD, YB, hc⟩⟩ := I
  rcases zz_3 v1 with h | ⟨h0, h3, h4, h5⟩ | ⟨j, hj, rfl⟩
  · refine br_t h ?_
    unfold wpY_size
    exact br_t h (br_t rfl ⟨rfl, I'⟩)
  · refine br_f h0 (br_f h3 ?_)
    unfold wpY_size
    exact br_f h0 (br_t h5 (br_t rfl ⟨rfl, I'⟩))
  · refine br_f (nI_pos (by omega)) (br_t (nI_lt (b := 3) hj (by decide)) (wz_in j ?_))
    unfold wpY_size
    refine br_f (nI_pos (by omega)) (br_f (nI_nlt (a := 2) (b := j) (by omega) (by omega)) (br_f (by decide) (wz_in (5 + j) ⟨?_, I'⟩ (by omega) (wz_5 j))))
    rw [wz_at (5 + j) (YP j hj).1 (wz_5 j), wz_at j (Pl.2.1 j hj)]
theorem i_vc_words {k : Nat} {u : SX} {v : SY} (I : i_Rel k u v) (hk : k + 5 ≤ 2560) (v1 : Int32) (v2 : Int32) : wpX_words (fun r u' => wpY_words (fun r' v' => r' = r ∧ i_Rel (k + 5) u' v') v v1 v2) u v1 v2 := by
  obtain ⟨f_stacked, f_signCount, f_demandCount, f_boundCount, a_sizes, a_withEmpty, a_firsts, a_lasts, a_zeroReaders, a_oneReaders, a_followers, a_placedSizes, a_steps, a_ends, a_ways, a_nextWays, a_groups, a_finerGroups, a_reached, a_signs, a_demandSigns, a_demandSignCounts, a_demandPatterns, a_demandKept, a_boundA, a_boundB, a_boundC, a_boundD⟩ := u
  obtain ⟨f_depth', f_termLength', f_demands', f_boundCount', f_known', f_found', f_least', a_sizes', a_empties', a_firsts', a_lasts', a_letters', a_behinds', a_steps', a_term', a_patterns', a_kepts', a_signs', a_signCounts', a_bounds', a_firstWords', a_sums', a_met', a_tried', a_seen', a_apart', a_counts', a_next'⟩ := v
  have I' := i_up I
  obtain ⟨dp, tc, dc, bc, P, Q, g, D, B, ⟨g1, g2, g3, g4, g5⟩, ⟨rfl, rfl, rfl, rfl, S, Pl, Tm, hD, hB⟩, ⟨rfl, rfl, rfl, rfl, YS, YP, YT, YTm, YD, YB, hc⟩⟩ := I
  rcases zz_3 v1 with h | ⟨h0, h3, h4, h5⟩ | ⟨j, hj, rfl⟩
  · refine br_t h ?_
    unfold wpY_words
    exact br_t h (br_t rfl ⟨rfl, I'⟩)
  · refine br_f h0 (br_t h4 ?_)
    unfold wpY_words
    exact br_f h0 (br_t h5 (br_t rfl ⟨rfl, I'⟩))
  · by_cases n0 : v2 < 0
    · refine br_f (nI_pos (by omega)) (br_f (nI_ge (b := 3) hj (by decide)) (br_t n0 ?_))
      unfold wpY_words
      exact br_f (nI_pos (by omega)) (br_f (nI_nlt (a := 2) (b := j) (by omega) (by omega)) (br_f (by decide) (br_t n0 ⟨rfl, I'⟩)))
    by_cases n20 : v2 ≤ 20
    · obtain ⟨m, hm, rfl⟩ := nI_of n0
      refine br_f (nI_pos (by omega)) (br_f (nI_ge (b := 3) hj (by decide)) (br_f n0 (br_t n20 (xw_cw Pl hj hm (fun wa nw => ?_)))))
      unfold wpY_words
      refine br_f (nI_pos (by omega)) (br_f (nI_nlt (a := 2) (b := j) (by omega) (by omega)) (br_f (by decide) (br_f n0 (br_t n20 (yd_cw hj hm (Pl.1 j hj) (YP j hj) YT (fun ca nx => ⟨rfl, ?_⟩))))))
      exact zr_mk ⟨g1, g2, g3, g4, g5⟩ (zr_X S Pl Tm hD hB) (zr_Y YS YP YT YTm YD YB hc)
    · refine br_f (nI_pos (by omega)) (br_f (nI_ge (b := 3) hj (by decide)) (br_f n0 (br_f n20 ?_)))
      unfold wpY_words
      exact br_f (nI_pos (by omega)) (br_f (nI_nlt (a := 2) (b := j) (by omega) (by omega)) (br_f (by decide) (br_f n0 (br_f n20 ⟨rfl, I'⟩))))
theorem i_vc_same {k : Nat} {u : SX} {v : SY} (I : i_Rel k u v) (hk : k + 5 ≤ 2560) (v1 : Int32) (v2 : Int32) : wpX_same (fun r u' => wpY_same (fun r' v' => r' = r ∧ i_Rel (k + 5) u' v') v v1 v2) u v1 v2 := by
  obtain ⟨f_stacked, f_signCount, f_demandCount, f_boundCount, a_sizes, a_withEmpty, a_firsts, a_lasts, a_zeroReaders, a_oneReaders, a_followers, a_placedSizes, a_steps, a_ends, a_ways, a_nextWays, a_groups, a_finerGroups, a_reached, a_signs, a_demandSigns, a_demandSignCounts, a_demandPatterns, a_demandKept, a_boundA, a_boundB, a_boundC, a_boundD⟩ := u
  obtain ⟨f_depth', f_termLength', f_demands', f_boundCount', f_known', f_found', f_least', a_sizes', a_empties', a_firsts', a_lasts', a_letters', a_behinds', a_steps', a_term', a_patterns', a_kepts', a_signs', a_signCounts', a_bounds', a_firstWords', a_sums', a_met', a_tried', a_seen', a_apart', a_counts', a_next'⟩ := v
  have I' := i_up I
  obtain ⟨dp, tc, dc, bc, P, Q, g, D, B, ⟨g1, g2, g3, g4, g5⟩, ⟨rfl, rfl, rfl, rfl, S, Pl, Tm, hD, hB⟩, ⟨rfl, rfl, rfl, rfl, YS, YP, YT, YTm, YD, YB, hc⟩⟩ := I
  rcases zz_3 v1 with h | ⟨h0, h3, h4, h5⟩ | ⟨j, hj, rfl⟩
  · refine br_t h ?_
    unfold wpY_same
    exact br_t h (br_t rfl ⟨rfl, I'⟩)
  · refine br_f h0 (br_t h4 ?_)
    unfold wpY_same
    exact br_f h0 (br_t h5 (br_t rfl ⟨rfl, I'⟩))
  · rcases zz_3 v2 with h | ⟨h0, h3, h4, h5⟩ | ⟨i, hi, rfl⟩
    · refine br_f (nI_pos (by omega)) (br_f (nI_ge (b := 3) hj (by decide)) (br_t h ?_))
      unfold wpY_same
      exact br_f (nI_pos (by omega)) (br_f (nI_nlt (a := 2) (b := j) (by omega) (by omega)) (br_f (by decide) (br_t h (br_t rfl ⟨rfl, I'⟩))))
    · refine br_f (nI_pos (by omega)) (br_f (nI_ge (b := 3) hj (by decide)) (br_f h0 (br_f h3 ?_)))
      unfold wpY_same
      exact br_f (nI_pos (by omega)) (br_f (nI_nlt (a := 2) (b := j) (by omega) (by omega)) (br_f (by decide) (br_f h0 (br_t h5 (br_t rfl ⟨rfl, I'⟩)))))
    · refine xr_same Pl hj hi (fun b gr fg hb => ?_)
      unfold wpY_same
      refine br_f (nI_pos (by omega)) (br_f (nI_nlt (a := 2) (b := j) (by omega) (by omega)) (br_f (by decide) (br_f (nI_pos (by omega)) (br_f (nI_nlt (a := 2) (b := i) (by omega) (by omega)) (br_f (by decide) (ye_same hj hi (Pl.1 j hj) (Pl.1 i hi) (YP j hj) (YP i hi) YT (fun b' ap hb' => ?_)))))))
      have e : b' = b := by rw [Bool.eq_iff_iff, hb', hb]
      subst e
      refine wz_if b' (fun z => ⟨?_, ?_⟩) (fun z => ⟨?_, ?_⟩)
      · rw [z]; rfl
      · exact zr_mk ⟨g1, g2, g3, g4, g5⟩ (zr_X S Pl Tm hD hB) (zr_Y YS YP YT YTm YD YB hc)
      · rw [z]; rfl
      · exact zr_mk ⟨g1, g2, g3, g4, g5⟩ (zr_X S Pl Tm hD hB) (zr_Y YS YP YT YTm YD YB hc)
theorem i_vc_endless {k : Nat} {u : SX} {v : SY} (I : i_Rel k u v) (hk : k + 5 ≤ 2560) (v1 : Int32) : wpX_endless (fun r u' => wpY_endless (fun r' v' => r' = r ∧ i_Rel (k + 5) u' v') v v1) u v1 := by
  obtain ⟨f_stacked, f_signCount, f_demandCount, f_boundCount, a_sizes, a_withEmpty, a_firsts, a_lasts, a_zeroReaders, a_oneReaders, a_followers, a_placedSizes, a_steps, a_ends, a_ways, a_nextWays, a_groups, a_finerGroups, a_reached, a_signs, a_demandSigns, a_demandSignCounts, a_demandPatterns, a_demandKept, a_boundA, a_boundB, a_boundC, a_boundD⟩ := u
  obtain ⟨f_depth', f_termLength', f_demands', f_boundCount', f_known', f_found', f_least', a_sizes', a_empties', a_firsts', a_lasts', a_letters', a_behinds', a_steps', a_term', a_patterns', a_kepts', a_signs', a_signCounts', a_bounds', a_firstWords', a_sums', a_met', a_tried', a_seen', a_apart', a_counts', a_next'⟩ := v
  have I' := i_up I
  obtain ⟨dp, tc, dc, bc, P, Q, g, D, B, ⟨g1, g2, g3, g4, g5⟩, ⟨rfl, rfl, rfl, rfl, S, Pl, Tm, hD, hB⟩, ⟨rfl, rfl, rfl, rfl, YS, YP, YT, YTm, YD, YB, hc⟩⟩ := I
  rcases zz_3 v1 with h | ⟨h0, h3, h4, h5⟩ | ⟨j, hj, rfl⟩
  · refine br_t h ?_
    unfold wpY_endless
    exact br_t h (br_t rfl ⟨rfl, I'⟩)
  · refine br_f h0 (br_f h3 ?_)
    unfold wpY_endless
    exact br_f h0 (br_t h5 (br_t rfl ⟨rfl, I'⟩))
  · refine br_f (nI_pos (by omega)) (br_t (nI_lt (b := 3) hj (by decide)) (xw_end Pl hj (fun b wa nw hb => yd_end hj (Pl.1 j hj) (YP j hj) YT (fun b' ca nx hb' => ⟨?_, ?_⟩))))
    · have e : b' = b := by rw [Bool.eq_iff_iff, hb', hb, wt_end (Pl.1 j hj)]
      rw [e]
    · exact zr_mk ⟨g1, g2, g3, g4, g5⟩ (zr_X S Pl Tm hD hB) (zr_Y YS YP YT YTm YD YB hc)
theorem i_vc_rests {k : Nat} {u : SX} {v : SY} (I : i_Rel k u v) (hk : k + 5 ≤ 2560) (v1 : Int32) : wpX_rests (fun r u' => wpY_rests (fun r' v' => r' = r ∧ i_Rel (k + 5) u' v') v v1) u v1 := by
  obtain ⟨f_stacked, f_signCount, f_demandCount, f_boundCount, a_sizes, a_withEmpty, a_firsts, a_lasts, a_zeroReaders, a_oneReaders, a_followers, a_placedSizes, a_steps, a_ends, a_ways, a_nextWays, a_groups, a_finerGroups, a_reached, a_signs, a_demandSigns, a_demandSignCounts, a_demandPatterns, a_demandKept, a_boundA, a_boundB, a_boundC, a_boundD⟩ := u
  obtain ⟨f_depth', f_termLength', f_demands', f_boundCount', f_known', f_found', f_least', a_sizes', a_empties', a_firsts', a_lasts', a_letters', a_behinds', a_steps', a_term', a_patterns', a_kepts', a_signs', a_signCounts', a_bounds', a_firstWords', a_sums', a_met', a_tried', a_seen', a_apart', a_counts', a_next'⟩ := v
  have I' := i_up I
  obtain ⟨dp, tc, dc, bc, P, Q, g, D, B, ⟨g1, g2, g3, g4, g5⟩, ⟨rfl, rfl, rfl, rfl, S, Pl, Tm, hD, hB⟩, ⟨rfl, rfl, rfl, rfl, YS, YP, YT, YTm, YD, YB, hc⟩⟩ := I
  rcases zz_3 v1 with h | ⟨h0, h3, h4, h5⟩ | ⟨j, hj, rfl⟩
  · refine br_t h ?_
    unfold wpY_rests
    exact br_t h (br_t rfl ⟨rfl, I'⟩)
  · refine br_f h0 (br_f h3 ?_)
    unfold wpY_rests
    exact br_f h0 (br_t h5 (br_t rfl ⟨rfl, I'⟩))
  · refine xr_rests Pl hj (fun R E gr fg ra hR hE => yf_rests hj (Pl.1 j hj) (YP j hj) YT (fun R' E' ap se hR' hE' => ⟨?_, ?_⟩))
    · congr 1
      rw [show 128 = 65 + 63 from rfl, ws_cnt_add, ws_cnt_0 (fun t => wf_fr R' E' (65 + t)) 63 (fun t ht => ?_), Nat.add_zero]
      · refine ws_cnt_congr _ _ 65 (fun t ht => wf_fr_congr (fun o ho => ?_) (fun o ho => ?_))
        · rw [Bool.eq_iff_iff, hR' o (by omega), hR o (by omega)]
        · rw [Bool.eq_iff_iff, hE' o t (by omega) (by omega), hE o t (by omega) (by omega)]
      · apply wf_fr_0
        cases hh : R' (65 + t) with
        | false => rfl
        | true =>
          obtain ⟨w, hw⟩ := (hR' _ (by omega)).mp hh
          have := wt_run_lt (Pl.1 j hj) w 64 (by omega)
          omega
    · exact zr_mk ⟨g1, g2, g3, g4, g5⟩ (zr_X S Pl Tm hD hB) (zr_Y YS YP YT YTm YD YB hc)
theorem i_vc_sign {k : Nat} {u : SX} {v : SY} (I : i_Rel k u v) (hk : k + 5 ≤ 2560) (v1 : Int32) : wpX_sign (fun r u' => wpY_sign (fun r' v' => r' = r ∧ i_Rel (k + 5) u' v') v v1) u v1 := by
  obtain ⟨f_stacked, f_signCount, f_demandCount, f_boundCount, a_sizes, a_withEmpty, a_firsts, a_lasts, a_zeroReaders, a_oneReaders, a_followers, a_placedSizes, a_steps, a_ends, a_ways, a_nextWays, a_groups, a_finerGroups, a_reached, a_signs, a_demandSigns, a_demandSignCounts, a_demandPatterns, a_demandKept, a_boundA, a_boundB, a_boundC, a_boundD⟩ := u
  obtain ⟨f_depth', f_termLength', f_demands', f_boundCount', f_known', f_found', f_least', a_sizes', a_empties', a_firsts', a_lasts', a_letters', a_behinds', a_steps', a_term', a_patterns', a_kepts', a_signs', a_signCounts', a_bounds', a_firstWords', a_sums', a_met', a_tried', a_seen', a_apart', a_counts', a_next'⟩ := v
  have I' := i_up I
  obtain ⟨dp, tc, dc, bc, P, Q, g, D, B, ⟨g1, g2, g3, g4, g5⟩, ⟨rfl, rfl, rfl, rfl, S, Pl, Tm, hD, hB⟩, ⟨rfl, rfl, rfl, rfl, YS, YP, YT, YTm, YD, YB, hc⟩⟩ := I
  by_cases h0 : v1 < 0
  · exact br_t h0 (br_t h0 ⟨rfl, I'⟩)
  by_cases h4 : v1 ≤ 4
  · by_cases ht : tc < 4
    · obtain ⟨w, hw, rfl⟩ : ∃ w, w < 5 ∧ v1 = nI w := by
        obtain ⟨w, hw, rfl⟩ := nI_of h0
        exact ⟨w, by have := (nI_leI (b := 4) hw (by decide)).mp h4; omega, rfl⟩
      have st : ∀ a : Nat → Int32, wr_T tc g a → wr_T (tc + 1) (fun i => if i = tc then w else g i) (upd a tc (nI w)) := by
        intro a h i hi
        dsimp only
        by_cases z : i = tc
        · subst z; rw [pk_us, if_pos rfl]
        · rw [pk_un z, if_neg z]; exact h i (by omega)
      refine zx_sign hw ht (zy_sign hw ht ⟨rfl, zr_mk (g := fun i => if i = tc then w else g i) ⟨g1, by omega, g3, g4, ?_⟩ (zr_X S Pl (st _ Tm) hD hB) (zr_Y YS YP YT (st _ YTm) YD YB hc)⟩)
      intro i hi
      dsimp only
      by_cases z : i = tc
      · rw [if_pos z]; exact hw
      · rw [if_neg z]; exact g5 i (by omega)
    · have e : tc = 4 := by omega
      subst e
      exact br_f h0 (br_t h4 (br_f (by decide) (br_f h0 (br_t h4 (br_t rfl ⟨rfl, I'⟩)))))
  · exact br_f h0 (br_f h4 (br_f h0 (br_f h4 ⟨rfl, I'⟩)))
theorem i_vc_demand {k : Nat} {u : SX} {v : SY} (I : i_Rel k u v) (hk : k + 5 ≤ 2560) (v1 : Int32) (v2 : Int32) : wpX_demand (fun r u' => wpY_demand (fun r' v' => r' = r ∧ i_Rel (k + 5) u' v') v v1 v2) u v1 v2 := by
  obtain ⟨f_stacked, f_signCount, f_demandCount, f_boundCount, a_sizes, a_withEmpty, a_firsts, a_lasts, a_zeroReaders, a_oneReaders, a_followers, a_placedSizes, a_steps, a_ends, a_ways, a_nextWays, a_groups, a_finerGroups, a_reached, a_signs, a_demandSigns, a_demandSignCounts, a_demandPatterns, a_demandKept, a_boundA, a_boundB, a_boundC, a_boundD⟩ := u
  obtain ⟨f_depth', f_termLength', f_demands', f_boundCount', f_known', f_found', f_least', a_sizes', a_empties', a_firsts', a_lasts', a_letters', a_behinds', a_steps', a_term', a_patterns', a_kepts', a_signs', a_signCounts', a_bounds', a_firstWords', a_sums', a_met', a_tried', a_seen', a_apart', a_counts', a_next'⟩ := v
  have I' := i_up I
  obtain ⟨dp, tc, dc, bc, P, Q, g, D, B, ⟨g1, g2, g3, g4, g5⟩, ⟨rfl, rfl, rfl, rfl, S, Pl, Tm, hD, hB⟩, ⟨rfl, rfl, rfl, rfl, YS, YP, YT, YTm, YD, YB, hc⟩⟩ := I
  rcases zz_3 v1 with h | ⟨h0, h3, h4, h5⟩ | ⟨j, hj, rfl⟩
  · refine br_t h ?_
    unfold wpY_demand
    exact br_t h (br_t rfl ⟨rfl, I'⟩)
  · refine br_f h0 (br_t h4 ?_)
    unfold wpY_demand
    exact br_f h0 (br_t h5 (br_t rfl ⟨rfl, I'⟩))
  · by_cases n0 : v2 < 0
    · have z0 : ¬ v2 = 0 := by intro e; rw [e] at n0; exact absurd n0 (by decide)
      have z1 : ¬ v2 = 1 := by intro e; rw [e] at n0; exact absurd n0 (by decide)
      refine br_f (nI_pos (by omega)) (br_f (nI_ge (b := 3) hj (by decide)) (br_t n0 ?_))
      unfold wpY_demand
      exact br_f (nI_pos (by omega)) (br_f (nI_nlt (a := 2) (b := j) (by omega) (by omega)) (br_f (by decide) (br_f z0 (br_f z1 ⟨rfl, I'⟩))))
    by_cases n1 : v2 ≤ 1
    · obtain ⟨b, rfl⟩ : ∃ b, v2 = wr_b b := by
        obtain ⟨w, hw, rfl⟩ := nI_of n0
        have := (nI_leI (b := 1) hw (by decide)).mp n1
        have e : w = 0 ∨ w = 1 := by omega
        rcases e with rfl | rfl
        · exact ⟨false, rfl⟩
        · exact ⟨true, rfl⟩
      by_cases hd : dc < 6
      · refine zx_dem hj hd g2 Tm g5 hD (fun sg sc pt kp hD' => zy_dem hj hd g2 YTm (fun d hd => (hD d hd).1.2.1) YD (fun sg' sc' pt' kp' YD' => ⟨rfl, ?_⟩))
        exact zr_mk (tc := 0) (g := g) ⟨g1, by omega, by omega, g4, fun i hi => absurd hi (by omega)⟩ (zr_X S Pl (fun i hi => absurd hi (by omega)) hD' hB) (zr_Y YS YP YT (fun i hi => absurd hi (by omega)) YD' YB (Or.inl rfl))
      · have e : dc = 6 := by omega
        subst e
        refine br_f (nI_pos (by omega)) (br_f (nI_ge (b := 3) hj (by decide)) (br_f n0 (br_t n1 (br_f (by decide) ?_))))
        unfold wpY_demand
        cases b
        · exact br_f (nI_pos (by omega)) (br_f (nI_nlt (a := 2) (b := j) (by omega) (by omega)) (br_f (by decide) (br_t rfl (br_t rfl ⟨rfl, I'⟩))))
        · exact br_f (nI_pos (by omega)) (br_f (nI_nlt (a := 2) (b := j) (by omega) (by omega)) (br_f (by decide) (br_f (by decide) (br_t rfl (br_t rfl ⟨rfl, I'⟩)))))
    · have z0 : ¬ v2 = 0 := by intro e; rw [e] at n1; exact absurd (by decide) n1
      have z1 : ¬ v2 = 1 := by intro e; rw [e] at n1; exact absurd (by decide) n1
      refine br_f (nI_pos (by omega)) (br_f (nI_ge (b := 3) hj (by decide)) (br_f n0 (br_f n1 ?_)))
      unfold wpY_demand
      exact br_f (nI_pos (by omega)) (br_f (nI_nlt (a := 2) (b := j) (by omega) (by omega)) (br_f (by decide) (br_f z0 (br_f z1 ⟨rfl, I'⟩))))
theorem i_vc_bound {k : Nat} {u : SX} {v : SY} (I : i_Rel k u v) (hk : k + 5 ≤ 2560) (v1 : Int32) (v2 : Int32) (v3 : Int32) (v4 : Int32) : wpX_bound (fun r u' => wpY_bound (fun r' v' => r' = r ∧ i_Rel (k + 5) u' v') v v1 v2 v3 v4) u v1 v2 v3 v4 := by
  obtain ⟨f_stacked, f_signCount, f_demandCount, f_boundCount, a_sizes, a_withEmpty, a_firsts, a_lasts, a_zeroReaders, a_oneReaders, a_followers, a_placedSizes, a_steps, a_ends, a_ways, a_nextWays, a_groups, a_finerGroups, a_reached, a_signs, a_demandSigns, a_demandSignCounts, a_demandPatterns, a_demandKept, a_boundA, a_boundB, a_boundC, a_boundD⟩ := u
  obtain ⟨f_depth', f_termLength', f_demands', f_boundCount', f_known', f_found', f_least', a_sizes', a_empties', a_firsts', a_lasts', a_letters', a_behinds', a_steps', a_term', a_patterns', a_kepts', a_signs', a_signCounts', a_bounds', a_firstWords', a_sums', a_met', a_tried', a_seen', a_apart', a_counts', a_next'⟩ := v
  have I' := i_up I
  obtain ⟨dp, tc, dc, bc, P, Q, g, D, B, ⟨g1, g2, g3, g4, g5⟩, ⟨rfl, rfl, rfl, rfl, S, Pl, Tm, hD, hB⟩, ⟨rfl, rfl, rfl, rfl, YS, YP, YT, YTm, YD, YB, hc⟩⟩ := I
  refine zx_bnd (fun hR => pk_lt bc 3 (fun hb => ?_) (fun hb => ?_)) (fun hR => ?_)
  · refine wz_st bc v1 (wz_st bc v2 (wz_st bc v3 (wz_st bc v4 (nm_r (nI_1 bc) ?_))))
    refine zy_bnd g4 (fun _ _ => ⟨rfl, ?_⟩) (fun _ z => absurd z (by omega)) (fun z => absurd hR z)
    exact zr_mk (B := zz_B B bc v1 v2 v3 v4) ⟨g1, g2, g3, by omega, g5⟩ (zr_X S Pl Tm hD (zz_BX v1 v2 v3 v4 hB)) (zr_Y YS YP YT YTm YD (zz_BY v1 v2 v3 v4 YB) (Or.inl rfl))
  · exact zy_bnd g4 (fun _ z => absurd z (by omega)) (fun _ _ => ⟨rfl, I'⟩) (fun z => absurd hR z)
  · exact zy_bnd g4 (fun z => absurd z hR) (fun z => absurd z hR) (fun _ => ⟨rfl, I'⟩)
theorem i_vc_drop {k : Nat} {u : SX} {v : SY} (I : i_Rel k u v) (hk : k + 5 ≤ 2560) (v1 : Int32) : wpX_drop (fun r u' => wpY_drop (fun r' v' => r' = r ∧ i_Rel (k + 5) u' v') v v1) u v1 := by
  obtain ⟨f_stacked, f_signCount, f_demandCount, f_boundCount, a_sizes, a_withEmpty, a_firsts, a_lasts, a_zeroReaders, a_oneReaders, a_followers, a_placedSizes, a_steps, a_ends, a_ways, a_nextWays, a_groups, a_finerGroups, a_reached, a_signs, a_demandSigns, a_demandSignCounts, a_demandPatterns, a_demandKept, a_boundA, a_boundB, a_boundC, a_boundD⟩ := u
  obtain ⟨f_depth', f_termLength', f_demands', f_boundCount', f_known', f_found', f_least', a_sizes', a_empties', a_firsts', a_lasts', a_letters', a_behinds', a_steps', a_term', a_patterns', a_kepts', a_signs', a_signCounts', a_bounds', a_firstWords', a_sums', a_met', a_tried', a_seen', a_apart', a_counts', a_next'⟩ := v
  have I' := i_up I
  obtain ⟨dp, tc, dc, bc, P, Q, g, D, B, ⟨g1, g2, g3, g4, g5⟩, ⟨rfl, rfl, rfl, rfl, S, Pl, Tm, hD, hB⟩, ⟨rfl, rfl, rfl, rfl, YS, YP, YT, YTm, YD, YB, hc⟩⟩ := I
  by_cases h0 : v1 = 0
  · subst h0
    by_cases hd : dc = 0
    · subst hd
      exact br_f (by decide) (br_t (by decide) (br_t rfl (br_f (by decide) (br_t rfl (br_t rfl (br_t rfl ⟨rfl, I'⟩))))))
    · obtain ⟨d, rfl⟩ : ∃ d, dc = d + 1 := ⟨dc - 1, by omega⟩
      refine br_f (by decide) (br_t (by decide) (br_t rfl (br_t (nI_le (a := 1) (b := d + 1) (by omega) (by omega)) (br_t rfl (nm_r (nI_pred d) (br_t rfl (br_t rfl (br_f (nI_ne0 (by omega) (by omega)) (br_t rfl (nm_r (nI_pred d) ⟨(nI_pred d).symm, ?_⟩))))))))))
      exact zr_mk ⟨g1, g2, by omega, g4, g5⟩ (zr_X S Pl Tm (fun i hi => hD i (by omega)) hB) (zr_Y YS YP YT YTm (fun i hi => YD i (by omega)) YB (Or.inl rfl))
  by_cases h1 : v1 = 1
  · subst h1
    by_cases hd : bc = 0
    · subst hd
      exact br_f (by decide) (br_t (by decide) (br_f (by decide) (br_f (by decide) (br_f (by decide) (br_t rfl (br_f (by decide) (br_t rfl ⟨rfl, I'⟩)))))))
    · obtain ⟨d, rfl⟩ : ∃ d, bc = d + 1 := ⟨bc - 1, by omega⟩
      refine br_f (by decide) (br_t (by decide) (br_f (by decide) (br_t (nI_le (a := 1) (b := d + 1) (by omega) (by omega)) (br_f (by decide) (nm_r (nI_pred d) (br_f (by decide) (br_t rfl (br_f (by decide) (br_f (nI_ne0 (by omega) (by omega)) (br_f (by decide) (nm_r (nI_pred d) ⟨(nI_pred d).symm, ?_⟩)))))))))))
      exact zr_mk ⟨g1, g2, g3, by omega, g5⟩ (zr_X S Pl Tm hD (fun i hi => hB i (by omega))) (zr_Y YS YP YT YTm YD (fun i hi => YB i (by omega)) (Or.inl rfl))
  · by_cases n0 : v1 < 0
    · exact br_t n0 (br_f h0 (br_f h1 ⟨rfl, I'⟩))
    · by_cases n1 : v1 ≤ 1
      · exfalso
        obtain ⟨w, hw, rfl⟩ := nI_of n0
        have := (nI_leI (b := 1) hw (by decide)).mp n1
        have e : w = 0 ∨ w = 1 := by omega
        rcases e with rfl | rfl
        · exact h0 rfl
        · exact h1 rfl
      · exact br_f n0 (br_f n1 (br_f h0 (br_f h1 ⟨rfl, I'⟩)))
theorem i_vc_solutions {k : Nat} {u : SX} {v : SY} (I : i_Rel k u v) (hk : k + 5 ≤ 2560) : wpX_solutions (fun r => wpY_solutions (fun r' v' => r' = r ∧ i_Rel (k + 5) u v') v) u := by
  obtain ⟨f_stacked, f_signCount, f_demandCount, f_boundCount, a_sizes, a_withEmpty, a_firsts, a_lasts, a_zeroReaders, a_oneReaders, a_followers, a_placedSizes, a_steps, a_ends, a_ways, a_nextWays, a_groups, a_finerGroups, a_reached, a_signs, a_demandSigns, a_demandSignCounts, a_demandPatterns, a_demandKept, a_boundA, a_boundB, a_boundC, a_boundD⟩ := u
  obtain ⟨f_depth', f_termLength', f_demands', f_boundCount', f_known', f_found', f_least', a_sizes', a_empties', a_firsts', a_lasts', a_letters', a_behinds', a_steps', a_term', a_patterns', a_kepts', a_signs', a_signCounts', a_bounds', a_firstWords', a_sums', a_met', a_tried', a_seen', a_apart', a_counts', a_next'⟩ := v
  have I' := i_up I
  obtain ⟨dp, tc, dc, bc, P, Q, g, D, B, ⟨g1, g2, g3, g4, g5⟩, ⟨rfl, rfl, rfl, rfl, S, Pl, Tm, hD, hB⟩, ⟨rfl, rfl, rfl, rfl, YS, YP, YT, YTm, YD, YB, hc⟩⟩ := I
  exact xt_sols Pl g3 g4 hD hB (yh_sols Pl.1 YP YT g3 g4 (fun d hd => (hD d hd).1) YD YB hc (fun r fd ls fw sm mt tr C e => ⟨e, zr_mk ⟨g1, g2, g3, g4, g5⟩ (zr_X S Pl Tm hD hB) (zr_Y YS YP YT YTm YD YB (Or.inr ⟨rfl, C⟩))⟩))
theorem i_vc_length {k : Nat} {u : SX} {v : SY} (I : i_Rel k u v) (hk : k + 5 ≤ 2560) (v1 : Int32) : wpX_length (fun r => wpY_length (fun r' v' => r' = r ∧ i_Rel (k + 5) u v') v v1) u v1 := by
  obtain ⟨f_stacked, f_signCount, f_demandCount, f_boundCount, a_sizes, a_withEmpty, a_firsts, a_lasts, a_zeroReaders, a_oneReaders, a_followers, a_placedSizes, a_steps, a_ends, a_ways, a_nextWays, a_groups, a_finerGroups, a_reached, a_signs, a_demandSigns, a_demandSignCounts, a_demandPatterns, a_demandKept, a_boundA, a_boundB, a_boundC, a_boundD⟩ := u
  obtain ⟨f_depth', f_termLength', f_demands', f_boundCount', f_known', f_found', f_least', a_sizes', a_empties', a_firsts', a_lasts', a_letters', a_behinds', a_steps', a_term', a_patterns', a_kepts', a_signs', a_signCounts', a_bounds', a_firstWords', a_sums', a_met', a_tried', a_seen', a_apart', a_counts', a_next'⟩ := v
  have I' := i_up I
  obtain ⟨dp, tc, dc, bc, P, Q, g, D, B, ⟨g1, g2, g3, g4, g5⟩, ⟨rfl, rfl, rfl, rfl, S, Pl, Tm, hD, hB⟩, ⟨rfl, rfl, rfl, rfl, YS, YP, YT, YTm, YD, YB, hc⟩⟩ := I
  rcases zz_3 v1 with h | ⟨h0, h3, h4, h5⟩ | ⟨j, hj, rfl⟩
  · refine br_t h ?_
    unfold wpY_length
    exact br_t h (br_t rfl ⟨rfl, I'⟩)
  · refine br_f h0 (br_f h3 ?_)
    unfold wpY_length
    exact br_f h0 (br_t h5 (br_t rfl ⟨rfl, I'⟩))
  · exact xt_len Pl g3 g4 hD hB hj (fun e => yh_len hj Pl.1 YP YT g3 g4 (fun d hd => (hD d hd).1) YD YB hc (fun r fd ls fw sm mt tr C e0 _ => ⟨e0 e, zr_mk ⟨g1, g2, g3, g4, g5⟩ (zr_X S Pl Tm hD hB) (zr_Y YS YP YT YTm YD YB (Or.inr ⟨rfl, C⟩))⟩)) (fun q hq e => yh_len hj Pl.1 YP YT g3 g4 (fun d hd => (hD d hd).1) YD YB hc (fun r fd ls fw sm mt tr C _ e1 => ⟨e1 q hq e, zr_mk ⟨g1, g2, g3, g4, g5⟩ (zr_X S Pl Tm hD hB) (zr_Y YS YP YT YTm YD YB (Or.inr ⟨rfl, C⟩))⟩))
theorem i_vc_letter {k : Nat} {u : SX} {v : SY} (I : i_Rel k u v) (hk : k + 5 ≤ 2560) (v1 : Int32) (v2 : Int32) : wpX_letter (fun r => wpY_letter (fun r' v' => r' = r ∧ i_Rel (k + 5) u v') v v1 v2) u v1 v2 := by
  obtain ⟨f_stacked, f_signCount, f_demandCount, f_boundCount, a_sizes, a_withEmpty, a_firsts, a_lasts, a_zeroReaders, a_oneReaders, a_followers, a_placedSizes, a_steps, a_ends, a_ways, a_nextWays, a_groups, a_finerGroups, a_reached, a_signs, a_demandSigns, a_demandSignCounts, a_demandPatterns, a_demandKept, a_boundA, a_boundB, a_boundC, a_boundD⟩ := u
  obtain ⟨f_depth', f_termLength', f_demands', f_boundCount', f_known', f_found', f_least', a_sizes', a_empties', a_firsts', a_lasts', a_letters', a_behinds', a_steps', a_term', a_patterns', a_kepts', a_signs', a_signCounts', a_bounds', a_firstWords', a_sums', a_met', a_tried', a_seen', a_apart', a_counts', a_next'⟩ := v
  have I' := i_up I
  obtain ⟨dp, tc, dc, bc, P, Q, g, D, B, ⟨g1, g2, g3, g4, g5⟩, ⟨rfl, rfl, rfl, rfl, S, Pl, Tm, hD, hB⟩, ⟨rfl, rfl, rfl, rfl, YS, YP, YT, YTm, YD, YB, hc⟩⟩ := I
  rcases zz_3 v1 with h | ⟨h0, h3, h4, h5⟩ | ⟨j, hj, rfl⟩
  · refine br_t h ?_
    unfold wpY_letter
    exact br_t h (br_t rfl ⟨rfl, I'⟩)
  · refine br_f h0 (br_f h3 ?_)
    unfold wpY_letter
    exact br_f h0 (br_t h5 (br_t rfl ⟨rfl, I'⟩))
  · refine xt_let Pl g3 g4 hD hB hj (fun e => yh_let hj Pl.1 YP YT g3 g4 (fun d hd => (hD d hd).1) YD YB hc (fun r fd ls fw sm mt tr C e0 _ => ⟨e0 e, zr_mk ⟨g1, g2, g3, g4, g5⟩ (zr_X S Pl Tm hD hB) (zr_Y YS YP YT YTm YD YB (Or.inr ⟨rfl, C⟩))⟩)) (fun q hq e => ⟨fun hv => ?_, fun p hp hv hl => ?_, fun p hv hl => ?_⟩)
    · exact yh_let hj Pl.1 YP YT g3 g4 (fun d hd => (hD d hd).1) YD YB hc (fun r fd ls fw sm mt tr C _ e1 => ⟨(e1 q hq e).1 hv, zr_mk ⟨g1, g2, g3, g4, g5⟩ (zr_X S Pl Tm hD hB) (zr_Y YS YP YT YTm YD YB (Or.inr ⟨rfl, C⟩))⟩)
    · exact yh_let hj Pl.1 YP YT g3 g4 (fun d hd => (hD d hd).1) YD YB hc (fun r fd ls fw sm mt tr C _ e1 => ⟨(e1 q hq e).2.1 p hp hv hl, zr_mk ⟨g1, g2, g3, g4, g5⟩ (zr_X S Pl Tm hD hB) (zr_Y YS YP YT YTm YD YB (Or.inr ⟨rfl, C⟩))⟩)
    · exact yh_let hj Pl.1 YP YT g3 g4 (fun d hd => (hD d hd).1) YD YB hc (fun r fd ls fw sm mt tr C _ e1 => ⟨(e1 q hq e).2.2 p hv hl, zr_mk ⟨g1, g2, g3, g4, g5⟩ (zr_X S Pl Tm hD hB) (zr_Y YS YP YT YTm YD YB (Or.inr ⟨rfl, C⟩))⟩)
theorem i_vc_lengths {k : Nat} {u : SX} {v : SY} (I : i_Rel k u v) (hk : k + 5 ≤ 2560) (v1 : Int32) : wpX_lengths (fun r => wpY_lengths (fun r' v' => r' = r ∧ i_Rel (k + 5) u v') v v1) u v1 := by
  obtain ⟨f_stacked, f_signCount, f_demandCount, f_boundCount, a_sizes, a_withEmpty, a_firsts, a_lasts, a_zeroReaders, a_oneReaders, a_followers, a_placedSizes, a_steps, a_ends, a_ways, a_nextWays, a_groups, a_finerGroups, a_reached, a_signs, a_demandSigns, a_demandSignCounts, a_demandPatterns, a_demandKept, a_boundA, a_boundB, a_boundC, a_boundD⟩ := u
  obtain ⟨f_depth', f_termLength', f_demands', f_boundCount', f_known', f_found', f_least', a_sizes', a_empties', a_firsts', a_lasts', a_letters', a_behinds', a_steps', a_term', a_patterns', a_kepts', a_signs', a_signCounts', a_bounds', a_firstWords', a_sums', a_met', a_tried', a_seen', a_apart', a_counts', a_next'⟩ := v
  have I' := i_up I
  obtain ⟨dp, tc, dc, bc, P, Q, g, D, B, ⟨g1, g2, g3, g4, g5⟩, ⟨rfl, rfl, rfl, rfl, S, Pl, Tm, hD, hB⟩, ⟨rfl, rfl, rfl, rfl, YS, YP, YT, YTm, YD, YB, hc⟩⟩ := I
  rcases zz_3 v1 with h | ⟨h0, h3, h4, h5⟩ | ⟨j, hj, rfl⟩
  · refine br_t h ?_
    unfold wpY_lengths
    exact br_t h (br_t rfl ⟨rfl, I'⟩)
  · refine br_f h0 (br_f h3 ?_)
    unfold wpY_lengths
    exact br_f h0 (br_t h5 (br_t rfl ⟨rfl, I'⟩))
  · exact xt_lens Pl g3 g4 hD hB hj (yh_lens hj Pl.1 YP YT g3 g4 (fun d hd => (hD d hd).1) YD YB hc (fun r fd ls fw sm mt tr C e => ⟨e, zr_mk ⟨g1, g2, g3, g4, g5⟩ (zr_X S Pl Tm hD hB) (zr_Y YS YP YT YTm YD YB (Or.inr ⟨rfl, C⟩))⟩))
theorem i_vc_different {k : Nat} {u : SX} {v : SY} (I : i_Rel k u v) (hk : k + 5 ≤ 2560) (v1 : Int32) : wpX_different (fun r => wpY_different (fun r' v' => r' = r ∧ i_Rel (k + 5) u v') v v1) u v1 := by
  obtain ⟨f_stacked, f_signCount, f_demandCount, f_boundCount, a_sizes, a_withEmpty, a_firsts, a_lasts, a_zeroReaders, a_oneReaders, a_followers, a_placedSizes, a_steps, a_ends, a_ways, a_nextWays, a_groups, a_finerGroups, a_reached, a_signs, a_demandSigns, a_demandSignCounts, a_demandPatterns, a_demandKept, a_boundA, a_boundB, a_boundC, a_boundD⟩ := u
  obtain ⟨f_depth', f_termLength', f_demands', f_boundCount', f_known', f_found', f_least', a_sizes', a_empties', a_firsts', a_lasts', a_letters', a_behinds', a_steps', a_term', a_patterns', a_kepts', a_signs', a_signCounts', a_bounds', a_firstWords', a_sums', a_met', a_tried', a_seen', a_apart', a_counts', a_next'⟩ := v
  have I' := i_up I
  obtain ⟨dp, tc, dc, bc, P, Q, g, D, B, ⟨g1, g2, g3, g4, g5⟩, ⟨rfl, rfl, rfl, rfl, S, Pl, Tm, hD, hB⟩, ⟨rfl, rfl, rfl, rfl, YS, YP, YT, YTm, YD, YB, hc⟩⟩ := I
  rcases zz_3 v1 with h | ⟨h0, h3, h4, h5⟩ | ⟨j, hj, rfl⟩
  · refine br_t h ?_
    unfold wpY_different
    exact br_t h (br_t rfl ⟨rfl, I'⟩)
  · refine br_f h0 (br_f h3 ?_)
    unfold wpY_different
    exact br_f h0 (br_t h5 (br_t rfl ⟨rfl, I'⟩))
  · exact xt_dif Pl g3 g4 hD hB hj (yh_dif hj Pl.1 YP YT g3 g4 (fun d hd => (hD d hd).1) YD YB hc (fun r fd ls fw sm mt tr C e => ⟨e, zr_mk ⟨g1, g2, g3, g4, g5⟩ (zr_X S Pl Tm hD hB) (zr_Y YS YP YT YTm YD YB (Or.inr ⟨rfl, C⟩))⟩))
theorem i_vc_ofLength {k : Nat} {u : SX} {v : SY} (I : i_Rel k u v) (hk : k + 5 ≤ 2560) (v1 : Int32) : wpX_ofLength (fun r => wpY_ofLength (fun r' v' => r' = r ∧ i_Rel (k + 5) u v') v v1) u v1 := by
  obtain ⟨f_stacked, f_signCount, f_demandCount, f_boundCount, a_sizes, a_withEmpty, a_firsts, a_lasts, a_zeroReaders, a_oneReaders, a_followers, a_placedSizes, a_steps, a_ends, a_ways, a_nextWays, a_groups, a_finerGroups, a_reached, a_signs, a_demandSigns, a_demandSignCounts, a_demandPatterns, a_demandKept, a_boundA, a_boundB, a_boundC, a_boundD⟩ := u
  obtain ⟨f_depth', f_termLength', f_demands', f_boundCount', f_known', f_found', f_least', a_sizes', a_empties', a_firsts', a_lasts', a_letters', a_behinds', a_steps', a_term', a_patterns', a_kepts', a_signs', a_signCounts', a_bounds', a_firstWords', a_sums', a_met', a_tried', a_seen', a_apart', a_counts', a_next'⟩ := v
  have I' := i_up I
  obtain ⟨dp, tc, dc, bc, P, Q, g, D, B, ⟨g1, g2, g3, g4, g5⟩, ⟨rfl, rfl, rfl, rfl, S, Pl, Tm, hD, hB⟩, ⟨rfl, rfl, rfl, rfl, YS, YP, YT, YTm, YD, YB, hc⟩⟩ := I
  exact xt_ofl Pl g3 g4 hD hB (yh_ofl Pl.1 YP YT g3 g4 (fun d hd => (hD d hd).1) YD YB hc (fun r fd ls fw sm mt tr C e => ⟨e, zr_mk ⟨g1, g2, g3, g4, g5⟩ (zr_X S Pl Tm hD hB) (zr_Y YS YP YT YTm YD YB (Or.inr ⟨rfl, C⟩))⟩))
