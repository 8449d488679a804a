/-! sign, demand, bound on both sides -/
theorem zz_3 (x : Int32) : x < 0 ∨ (¬ x < 0 ∧ ¬ x < 3 ∧ 3 ≤ x ∧ 2 < x) ∨ ∃ k, k < 3 ∧ x = nI k := by
  by_cases h : x < 0
  · exact Or.inl h
  · obtain ⟨j, hj, rfl⟩ := nI_of h
    by_cases h3 : j < 3
    · exact Or.inr (Or.inr ⟨j, h3, rfl⟩)
    · exact Or.inr (Or.inl ⟨h, nI_nlt (b := 3) (by omega) hj, nI_le (a := 3) (by omega) hj, nI_lt (a := 2) (by omega) hj⟩)
section
variable {f_stacked f_signCount f_demandCount f_boundCount : Int32} {a_sizes a_withEmpty a_firsts a_lasts a_zeroReaders a_oneReaders a_followers a_placedSizes a_steps a_ends a_ways a_nextWays a_groups a_finerGroups a_reached a_signs a_demandSigns a_demandSignCounts a_demandPatterns a_demandKept a_boundA a_boundB a_boundC a_boundD : Nat → Int32}
variable {dc tc bc : Nat} {D : Nat → wr_Dem} {g : Nat → Nat} {B : Nat → Int32}
theorem zx_dem {post : Int32 → SX → Prop} {b : Bool} {k : Nat} (hk : k < 3) (hdc : dc < 6) (htc : tc ≤ 4) (hT : wr_T tc g a_signs) (hg : ∀ i, i < tc → g i < 5) (hD : wr_XD dc D a_demandSigns a_demandSignCounts a_demandPatterns a_demandKept) (K : ∀ sg sc pt kp : Nat → Int32, wr_XD (dc + 1) (wr_D D dc (k, b, tc, g)) sg sc pt kp → post (nI (dc + 1)) (f_stacked, 0, (nI (dc + 1)), f_boundCount, a_sizes, a_withEmpty, a_firsts, a_lasts, a_zeroReaders, a_oneReaders, a_followers, a_placedSizes, a_steps, a_ends, a_ways, a_nextWays, a_groups, a_finerGroups, a_reached, a_signs, sg, sc, pt, kp, a_boundA, a_boundB, a_boundC, a_boundD)) : wpX_demand post (f_stacked, (nI tc), (nI dc), f_boundCount, a_sizes, a_withEmpty, a_firsts, a_lasts, a_zeroReaders, a_oneReaders, a_followers, a_placedSizes, a_steps, a_ends, a_ways, a_nextWays, a_groups, a_finerGroups, a_reached, a_signs, a_demandSigns, a_demandSignCounts, a_demandPatterns, a_demandKept, a_boundA, a_boundB, a_boundC, a_boundD) (nI k) (wr_b b) := by
  refine br_f (nI_pos (by omega)) (br_f (nI_ge (b := 3) hk (by decide)) (br_f (by cases b <;> decide) (br_t (by cases b <;> decide) (br_t (nI_lt (b := 6) hdc (by decide)) ?_))))
  refine pk_loop (fun n i sg => wX_demand_34 post (nI k) (wr_b b) f_stacked (nI tc) (nI dc) f_boundCount n (nI i) a_sizes a_withEmpty a_firsts a_lasts a_zeroReaders a_oneReaders a_followers a_placedSizes a_steps a_ends a_ways a_nextWays a_groups a_finerGroups a_reached a_signs sg a_demandSignCounts a_demandPatterns a_demandKept a_boundA a_boundB a_boundC a_boundD) (fun i sg => (∀ j, j < i → sg (dc * 4 + j) = nI (g j)) ∧ ∀ j, j < dc * 4 → sg j = a_demandSigns j) tc 0 a_demandSigns (by omega) ⟨fun j hj => absurd hj (by omega), fun _ _ => rfl⟩ ?_ ?_
  · intro n sg I
    have fin : ∀ b' : Bool, b' = b → wX_demand_108 post (wr_b b') (nI dc) f_stacked (nI tc) (nI dc) f_boundCount a_sizes a_withEmpty a_firsts a_lasts a_zeroReaders a_oneReaders a_followers a_placedSizes a_steps a_ends a_ways a_nextWays a_groups a_finerGroups a_reached a_signs sg (upd a_demandSignCounts dc (nI tc)) (upd a_demandPatterns dc (nI k)) a_demandKept a_boundA a_boundB a_boundC a_boundD := by
      intro b' hb
      subst hb
      refine wz_st dc (wr_b b') (nm_r (nI_1 dc) (K _ _ _ _ ?_)) (by omega) rfl (wr_b_v b')
      intro d hd
      by_cases z : d = dc
      · subst z
        rw [wr_Ds]
        exact ⟨⟨hk, htc, hg⟩, pk_us, pk_us, pk_us, fun i hi => I.1 i hi⟩
      · rw [wr_Dn _ _ z]
        obtain ⟨q1, q2, q3, q4, q5⟩ := hD d (by omega)
        exact ⟨q1, (pk_un z).trans q2, (pk_un z).trans q3, (pk_un z).trans q4, fun i hi => (I.2 _ (by have := q1.2.1; omega)).trans (q5 i hi)⟩
    exact br_t (nI_le (Nat.le_refl _) (by omega)) (wz_st dc (nI tc) (wz_st dc (nI k) (wz_if1 b (fun z => fin true z.symm) (fun z => fin false z.symm))))
  · intro n i sg hi I ih
    refine br_f (nI_ge hi (by omega)) (wz_in i (wz_st (dc * 4 + i) (nI (g i)) (nm_r (nI_1 i) (ih _ ⟨?_, ?_⟩)) (by omega) (wz_m4 dc i) (wz_at i (hT i hi))))
    · intro j hj
      by_cases z : j = i
      · subst z; exact pk_us
      · rw [pk_un (by omega)]; exact I.1 j (by omega)
    · intro j hj
      rw [pk_un (by omega)]; exact I.2 j hj
theorem zx_sign {post : Int32 → SX → Prop} {w : Nat} (hw : w < 5) (htc : tc < 4) (K : post (nI (tc + 1)) (f_stacked, (nI (tc + 1)), f_demandCount, f_boundCount, a_sizes, a_withEmpty, a_firsts, a_lasts, a_zeroReaders, a_oneReaders, a_followers, a_placedSizes, a_steps, a_ends, a_ways, a_nextWays, a_groups, a_finerGroups, a_reached, (upd a_signs tc (nI w)), a_demandSigns, a_demandSignCounts, a_demandPatterns, a_demandKept, a_boundA, a_boundB, a_boundC, a_boundD)) : wpX_sign post (f_stacked, (nI tc), f_demandCount, f_boundCount, a_sizes, a_withEmpty, a_firsts, a_lasts, a_zeroReaders, a_oneReaders, a_followers, a_placedSizes, a_steps, a_ends, a_ways, a_nextWays, a_groups, a_finerGroups, a_reached, a_signs, a_demandSigns, a_demandSignCounts, a_demandPatterns, a_demandKept, a_boundA, a_boundB, a_boundC, a_boundD) (nI w) :=
  br_f (nI_pos (by omega)) (br_t (nI_le (b := 4) (by omega) (by decide)) (br_t (nI_lt (b := 4) htc (by decide)) (wz_st tc (nI w) (nm_r (nI_1 tc) K))))
end
section
variable {f_depth f_termLength f_demands f_boundCount f_known f_found f_least : Int32} {a_sizes a_empties a_firsts a_lasts a_letters a_behinds a_steps a_term a_patterns a_kepts a_signs a_signCounts a_bounds a_firstWords a_sums a_met a_tried a_seen a_apart a_counts a_next : Nat → Int32}
variable {dc tc bc : Nat} {D : Nat → wr_Dem} {g : Nat → Nat} {B : Nat → Int32}
theorem zy_dem {post : Int32 → SY → Prop} {b : Bool} {k : Nat} (hk : k < 3) (hdc : dc < 6) (htc : tc ≤ 4) (hT : wr_T tc g a_term) (hc : ∀ d, d < dc → (D d).2.2.1 ≤ 4) (hD : wr_YD dc D a_signs a_signCounts a_patterns a_kepts) (K : ∀ sg sc pt kp : Nat → Int32, wr_YD (dc + 1) (wr_D D dc (k, b, tc, g)) sg sc pt kp → post (nI (dc + 1)) (f_depth, 0, (nI (dc + 1)), f_boundCount, 0, f_found, f_least, a_sizes, a_empties, a_firsts, a_lasts, a_letters, a_behinds, a_steps, a_term, pt, kp, sg, sc, a_bounds, a_firstWords, a_sums, a_met, a_tried, a_seen, a_apart, a_counts, a_next)) : wpY_demand post (f_depth, (nI tc), (nI dc), f_boundCount, f_known, f_found, f_least, a_sizes, a_empties, a_firsts, a_lasts, a_letters, a_behinds, a_steps, a_term, a_patterns, a_kepts, a_signs, a_signCounts, a_bounds, a_firstWords, a_sums, a_met, a_tried, a_seen, a_apart, a_counts, a_next) (nI k) (wr_b b) := by
  have main : wY_demand_19 post (nI k) (wr_b b) f_depth (nI tc) (nI dc) f_boundCount f_known f_found f_least a_sizes a_empties a_firsts a_lasts a_letters a_behinds a_steps a_term a_patterns a_kepts a_signs a_signCounts a_bounds a_firstWords a_sums a_met a_tried a_seen a_apart a_counts a_next := by
    refine pk_eq dc 6 (fun z => absurd z (by omega)) (fun _ => wz_st dc (nI k) (wz_st dc (wr_b b) (wz_st dc (nI tc) ?_)))
    refine pk_loop (fun n i sg => wY_demand_66 post f_depth (nI tc) (nI dc) f_boundCount f_known f_found f_least n (nI i) a_sizes a_empties a_firsts a_lasts a_letters a_behinds a_steps a_term (upd a_patterns dc (nI k)) (upd a_kepts dc (wr_b b)) sg (upd a_signCounts dc (nI tc)) a_bounds a_firstWords a_sums a_met a_tried a_seen a_apart a_counts a_next) (fun i sg => (∀ j, j < i → sg (4 * dc + j) = nI (g j)) ∧ ∀ j, j < 4 * dc → sg j = a_signs j) tc 0 a_signs (by omega) ⟨fun j hj => absurd hj (by omega), fun _ _ => rfl⟩ ?_ ?_
    · intro n sg I
      refine br_t (nI_le (Nat.le_refl _) (by omega)) (nm_r (nI_1 dc) (K _ _ _ _ ?_))
      intro d hd
      by_cases z : d = dc
      · subst z
        rw [wr_Ds]
        exact ⟨pk_us, pk_us, pk_us, fun i hi => I.1 i hi⟩
      · rw [wr_Dn _ _ z]
        obtain ⟨q2, q3, q4, q5⟩ := hD d (by omega)
        exact ⟨(pk_un z).trans q2, (pk_un z).trans q3, (pk_un z).trans q4, fun i hi => (I.2 _ (by have := hc d (by omega); omega)).trans (q5 i hi)⟩
    · intro n i sg hi I ih
      refine br_f (nI_ge hi (by omega)) (wz_in i (wz_st (4 * dc + i) (nI (g i)) (nm_r (nI_1 i) (ih _ ⟨?_, ?_⟩)) (by omega) (wz_4m dc i) (wz_at i (hT i hi))))
      · intro j hj
        by_cases z : j = i
        · subst z; exact pk_us
        · rw [pk_un (by omega)]; exact I.1 j (by omega)
      · intro j hj
        rw [pk_un (by omega)]; exact I.2 j hj
  unfold wpY_demand
  refine br_f (nI_pos (by omega)) (br_f (nI_nlt (a := 2) (b := k) (by omega) (by omega)) (br_f (by decide) (wz_if b (fun _ => main) (fun z => br_t ?_ main))))
  rw [z]; rfl
theorem zy_sign {post : Int32 → SY → Prop} {w : Nat} (hw : w < 5) (htc : tc < 4) (K : post (nI (tc + 1)) (f_depth, (nI (tc + 1)), f_demands, f_boundCount, f_known, f_found, f_least, a_sizes, a_empties, a_firsts, a_lasts, a_letters, a_behinds, a_steps, (upd a_term tc (nI w)), a_patterns, a_kepts, a_signs, a_signCounts, a_bounds, a_firstWords, a_sums, a_met, a_tried, a_seen, a_apart, a_counts, a_next)) : wpY_sign post (f_depth, (nI tc), f_demands, f_boundCount, f_known, f_found, f_least, a_sizes, a_empties, a_firsts, a_lasts, a_letters, a_behinds, a_steps, a_term, a_patterns, a_kepts, a_signs, a_signCounts, a_bounds, a_firstWords, a_sums, a_met, a_tried, a_seen, a_apart, a_counts, a_next) (nI w) :=
  br_f (nI_pos (by omega)) (br_t (nI_le (b := 4) (by omega) (by decide)) (pk_eq tc 4 (fun z => absurd z (by omega)) (fun _ => wz_st tc (nI w) (nm_r (nI_1 tc) K))))
end
def zz_B (B : Nat → Int32) (bc : Nat) (a b c d : Int32) : Nat → Int32 := upd (upd (upd (upd B (4 * bc) a) (4 * bc + 1) b) (4 * bc + 2) c) (4 * bc + 3) d
theorem zz_BX {bc : Nat} {B : Nat → Int32} {x1 x2 x3 x4 : Nat → Int32} (a b c d : Int32) (h : wr_XB bc B x1 x2 x3 x4) : wr_XB (bc + 1) (zz_B B bc a b c d) (upd x1 bc a) (upd x2 bc b) (upd x3 bc c) (upd x4 bc d) := by
  intro i hi
  unfold zz_B
  by_cases z : i = bc
  · subst z
    refine ⟨?_, ?_, ?_, ?_⟩
    · rw [pk_us, pk_un (by omega), pk_un (by omega), pk_un (by omega), pk_us]
    · rw [pk_us, pk_un (by omega), pk_un (by omega), pk_us]
    · rw [pk_us, pk_un (by omega), pk_us]
    · rw [pk_us, pk_us]
  · obtain ⟨q1, q2, q3, q4⟩ := h i (by omega)
    refine ⟨?_, ?_, ?_, ?_⟩
    · rw [pk_un z, pk_un (by omega), pk_un (by omega), pk_un (by omega), pk_un (by omega)]; exact q1
    · rw [pk_un z, pk_un (by omega), pk_un (by omega), pk_un (by omega), pk_un (by omega)]; exact q2
    · rw [pk_un z, pk_un (by omega), pk_un (by omega), pk_un (by omega), pk_un (by omega)]; exact q3
    · rw [pk_un z, pk_un (by omega), pk_un (by omega), pk_un (by omega), pk_un (by omega)]; exact q4
theorem zz_BY {bc : Nat} {B bs : Nat → Int32} (a b c d : Int32) (h : wr_YB bc B bs) : wr_YB (bc + 1) (zz_B B bc a b c d) (upd (upd (upd (upd bs (4 * bc) a) (4 * bc + 1) b) (4 * bc + 2) c) (4 * bc + 3) d) := by
  intro j hj
  unfold zz_B
  by_cases z3 : j = 4 * bc + 3
  · subst z3; rw [pk_us, pk_us]
  · rw [pk_un z3, pk_un z3]
    by_cases z2 : j = 4 * bc + 2
    · subst z2; rw [pk_us, pk_us]
    · rw [pk_un z2, pk_un z2]
      by_cases z1 : j = 4 * bc + 1
      · subst z1; rw [pk_us, pk_us]
      · rw [pk_un z1, pk_un z1]
        by_cases z0 : j = 4 * bc
        · subst z0; rw [pk_us, pk_us]
        · rw [pk_un z0, pk_un z0]; exact h j (by omega)
/-! the ranges of a bound -/
def zz_R (a b c d : Int32) : Prop := (¬ a < (-3) ∧ ¬ 3 < a) ∧ (¬ b < (-3) ∧ ¬ 3 < b) ∧ (¬ c < (-3) ∧ ¬ 3 < c) ∧ ¬ d < (-20) ∧ ¬ 20 < d
theorem zx_isf {post : Int32 → Prop} (x : Int32) (K1 : (¬ x < (-3) ∧ ¬ 3 < x) → post 1) (K0 : ¬ (¬ x < (-3) ∧ ¬ 3 < x) → post 0) : wpX_isFactor post x :=
  br_c (fun a => K0 (fun z => z.1 a)) (fun a => br_c (fun b => K0 (fun z => z.2 b)) (fun b => K1 ⟨a, b⟩))
section
variable {f_stacked f_signCount f_demandCount f_boundCount : Int32} {a_sizes a_withEmpty a_firsts a_lasts a_zeroReaders a_oneReaders a_followers a_placedSizes a_steps a_ends a_ways a_nextWays a_groups a_finerGroups a_reached a_signs a_demandSigns a_demandSignCounts a_demandPatterns a_demandKept a_boundA a_boundB a_boundC a_boundD : Nat → Int32}
theorem zx_bnd {post : Int32 → SX → Prop} {a b c d : Int32} (K1 : zz_R a b c d → ((f_boundCount < 3 → (vp_in f_boundCount 3 ∧ ∀ x1 : Nat → Int32, x1 = upd a_boundA f_boundCount.toNatClampNeg a → (vp_in f_boundCount 3 ∧ ∀ x2 : Nat → Int32, x2 = upd a_boundB f_boundCount.toNatClampNeg b → (vp_in f_boundCount 3 ∧ ∀ x3 : Nat → Int32, x3 = upd a_boundC f_boundCount.toNatClampNeg c → (vp_in f_boundCount 3 ∧ ∀ x4 : Nat → Int32, x4 = upd a_boundD f_boundCount.toNatClampNeg d → ∀ n : Int32, n = f_boundCount + 1 → post n (f_stacked, f_signCount, f_demandCount, n, a_sizes, a_withEmpty, a_firsts, a_lasts, a_zeroReaders, a_oneReaders, a_followers, a_placedSizes, a_steps, a_ends, a_ways, a_nextWays, a_groups, a_finerGroups, a_reached, a_signs, a_demandSigns, a_demandSignCounts, a_demandPatterns, a_demandKept, x1, x2, x3, x4)))))) ∧ (¬ f_boundCount < 3 → post (-2) (f_stacked, f_signCount, f_demandCount, f_boundCount, a_sizes, a_withEmpty, a_firsts, a_lasts, a_zeroReaders, a_oneReaders, a_followers, a_placedSizes, a_steps, a_ends, a_ways, a_nextWays, a_groups, a_finerGroups, a_reached, a_signs, a_demandSigns, a_demandSignCounts, a_demandPatterns, a_demandKept, a_boundA, a_boundB, a_boundC, a_boundD)))) (K0 : ¬ zz_R a b c d → post (-1) (f_stacked, f_signCount, f_demandCount, f_boundCount, a_sizes, a_withEmpty, a_firsts, a_lasts, a_zeroReaders, a_oneReaders, a_followers, a_placedSizes, a_steps, a_ends, a_ways, a_nextWays, a_groups, a_finerGroups, a_reached, a_signs, a_demandSigns, a_demandSignCounts, a_demandPatterns, a_demandKept, a_boundA, a_boundB, a_boundC, a_boundD)) : wpX_bound post (f_stacked, f_signCount, f_demandCount, f_boundCount, a_sizes, a_withEmpty, a_firsts, a_lasts, a_zeroReaders, a_oneReaders, a_followers, a_placedSizes, a_steps, a_ends, a_ways, a_nextWays, a_groups, a_finerGroups, a_reached, a_signs, a_demandSigns, a_demandSignCounts, a_demandPatterns, a_demandKept, a_boundA, a_boundB, a_boundC, a_boundD) a b c d := by
  unfold wpX_bound
  refine zx_isf a (fun ha => br_f (by decide) (zx_isf b (fun hb => br_f (by decide) (zx_isf c (fun hc => br_f (by decide) (br_c (fun h => K0 (fun z => z.2.2.2.1 h)) (fun h => br_c (fun h2 => K1 ⟨ha, hb, hc, h, Int32.not_lt.mpr h2⟩) (fun h2 => K0 (fun z => h2 (Int32.not_lt.mp z.2.2.2.2)))))) (fun hc => br_t rfl (K0 (fun z => hc z.2.2.1))))) (fun hb => br_t rfl (K0 (fun z => hb z.2.1))))) (fun ha => br_t rfl (K0 (fun z => ha z.1)))
end
section
variable {f_depth f_termLength f_demands f_boundCount f_known f_found f_least : Int32} {a_sizes a_empties a_firsts a_lasts a_letters a_behinds a_steps a_term a_patterns a_kepts a_signs a_signCounts a_bounds a_firstWords a_sums a_met a_tried a_seen a_apart a_counts a_next : Nat → Int32}
theorem zy_isin {post : Int32 → Prop} (x l : Int32) (K1 : (¬ x < (-l) ∧ ¬ l < x) → post 1) (K0 : ¬ (¬ x < (-l) ∧ ¬ l < x) → post 0) : wpY_isIn post (f_depth, f_termLength, f_demands, f_boundCount, f_known, f_found, f_least, a_sizes, a_empties, a_firsts, a_lasts, a_letters, a_behinds, a_steps, a_term, a_patterns, a_kepts, a_signs, a_signCounts, a_bounds, a_firstWords, a_sums, a_met, a_tried, a_seen, a_apart, a_counts, a_next) x l :=
  br_c (fun a => K0 (fun z => z.1 a)) (fun a => br_c (fun b => K0 (fun z => z.2 b)) (fun b => K1 ⟨a, b⟩))
theorem zy_bnd {post : Int32 → SY → Prop} {a b c d : Int32} {bc : Nat} (hb : bc ≤ 3) (K1 : zz_R a b c d → bc < 3 → post (nI (bc + 1)) (f_depth, f_termLength, f_demands, (nI (bc + 1)), 0, f_found, f_least, a_sizes, a_empties, a_firsts, a_lasts, a_letters, a_behinds, a_steps, a_term, a_patterns, a_kepts, a_signs, a_signCounts, (upd (upd (upd (upd a_bounds (4 * bc) a) (4 * bc + 1) b) (4 * bc + 2) c) (4 * bc + 3) d), a_firstWords, a_sums, a_met, a_tried, a_seen, a_apart, a_counts, a_next)) (K2 : zz_R a b c d → bc = 3 → post (-2) (f_depth, f_termLength, f_demands, (nI bc), f_known, f_found, f_least, a_sizes, a_empties, a_firsts, a_lasts, a_letters, a_behinds, a_steps, a_term, a_patterns, a_kepts, a_signs, a_signCounts, a_bounds, a_firstWords, a_sums, a_met, a_tried, a_seen, a_apart, a_counts, a_next)) (K0 : ¬ zz_R a b c d → post (-1) (f_depth, f_termLength, f_demands, (nI bc), f_known, f_found, f_least, a_sizes, a_empties, a_firsts, a_lasts, a_letters, a_behinds, a_steps, a_term, a_patterns, a_kepts, a_signs, a_signCounts, a_bounds, a_firstWords, a_sums, a_met, a_tried, a_seen, a_apart, a_counts, a_next)) : wpY_bound post (f_depth, f_termLength, f_demands, (nI bc), f_known, f_found, f_least, a_sizes, a_empties, a_firsts, a_lasts, a_letters, a_behinds, a_steps, a_term, a_patterns, a_kepts, a_signs, a_signCounts, a_bounds, a_firstWords, a_sums, a_met, a_tried, a_seen, a_apart, a_counts, a_next) a b c d := by
  have e0 : (4 : Int32) * nI bc = nI (4 * bc) := pk_mul 4 bc
  have e1 : (4 : Int32) * nI bc + 1 = nI (4 * bc + 1) := wz_4m bc 1
  have e2 : (4 : Int32) * nI bc + 2 = nI (4 * bc + 2) := wz_4m bc 2
  have e3 : (4 : Int32) * nI bc + 3 = nI (4 * bc + 3) := wz_4m bc 3
  unfold wpY_bound
  refine zy_isin a 3 (fun ha => br_f (by decide) (zy_isin b 3 (fun hb' => br_f (by decide) (zy_isin c 3 (fun hc => br_f (by decide) (zy_isin d 20 (fun hd => br_f (by decide) ?_) (fun hd => br_t rfl (K0 (fun z => hd z.2.2.2))))) (fun hc => br_t rfl (K0 (fun z => hc z.2.2.1))))) (fun hb' => br_t rfl (K0 (fun z => hb' z.2.1))))) (fun ha => br_t rfl (K0 (fun z => ha z.1)))
  have hR : zz_R a b c d := ⟨ha, hb', hc, hd⟩
  exact pk_eq bc 3 (fun z => K2 hR z) (fun z => wz_st (4 * bc) a (wz_st (4 * bc + 1) b (wz_st (4 * bc + 2) c (wz_st (4 * bc + 3) d (nm_r (nI_1 bc) (K1 hR (by omega))) (by omega) e3 rfl) (by omega) e2 rfl) (by omega) e1 rfl) (by omega) e0 rfl)
end
