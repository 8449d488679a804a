/-! the relation -/
def wr_RX (dp tc dc bc : Nat) (P Q : Nat → ws_Pat) (g : Nat → Nat) (D : Nat → wr_Dem) (B : Nat → Int32) (u : SX) : Prop := match u with
  | (f_stacked, f_signCount, f_demandCount, f_boundCount, a_sizes, a_withEmpty, a_firsts, a_lasts, a_zeroReaders, a_oneReaders, a_followers, a_placedSizes, a_steps, a_ends, a_ways, a_nextWays, a_groups, a_finerGroups, a_reached, a_signs, a_demandSigns, a_demandSignCounts, a_demandPatterns, a_demandKept, a_boundA, a_boundB, a_boundC, a_boundD) => f_stacked = nI dp ∧ f_signCount = nI tc ∧ f_demandCount = nI dc ∧ f_boundCount = nI bc ∧ wr_XS dp P a_sizes a_withEmpty a_firsts a_lasts a_zeroReaders a_oneReaders a_followers ∧ wr_XP Q a_placedSizes a_steps a_ends ∧ wr_T tc g a_signs ∧ wr_XD dc D a_demandSigns a_demandSignCounts a_demandPatterns a_demandKept ∧ wr_XB bc B a_boundA a_boundB a_boundC a_boundD
def wr_RY (dp tc dc bc : Nat) (P Q : Nat → ws_Pat) (g : Nat → Nat) (D : Nat → wr_Dem) (B : Nat → Int32) (v : SY) : Prop := match v with
  | (f_depth, f_termLength, f_demands, f_boundCount, f_known, f_found, f_least, a_sizes, a_empties, a_firsts, a_lasts, a_letters, a_behinds, a_steps, a_term, a_patterns, a_kepts, a_signs, a_signCounts, a_bounds, a_firstWords, a_sums, a_met, a_tried, a_seen, a_apart, a_counts, a_next) => f_depth = nI dp ∧ f_termLength = nI tc ∧ f_demands = nI dc ∧ f_boundCount = nI bc ∧ wr_YS dp P a_sizes a_empties a_firsts a_lasts a_letters a_behinds ∧ wr_YP Q a_sizes a_empties a_firsts a_lasts a_letters a_behinds ∧ wr_YT Q a_steps ∧ wr_T tc g a_term ∧ wr_YD dc D a_signs a_signCounts a_patterns a_kepts ∧ wr_YB bc B a_bounds ∧ (f_known = 0 ∨ (f_known = 1 ∧ wr_C (wr_sol Q dc D bc B) 3375 f_found f_least a_firstWords a_sums a_met))
def wr_RG (dp tc dc bc : Nat) (g : Nat → Nat) : Prop := dp ≤ 5 ∧ tc ≤ 4 ∧ dc ≤ 6 ∧ bc ≤ 3 ∧ ∀ i, i < tc → g i < 5
def i_Rel (k : Nat) (u : SX) (v : SY) : Prop := ∃ (dp tc dc bc : Nat) (P Q : Nat → ws_Pat) (g : Nat → Nat) (D : Nat → wr_Dem) (B : Nat → Int32), wr_RG dp tc dc bc g ∧ wr_RX dp tc dc bc P Q g D B u ∧ wr_RY dp tc dc bc P Q g D B v
theorem i_up {k : Nat} {u : SX} {v : SY} (h : i_Rel k u v) : i_Rel (k + 5) u v := h
section
variable {dp tc dc bc : Nat} {P Q : Nat → ws_Pat} {g : Nat → Nat} {D : Nat → wr_Dem} {B : Nat → Int32}
theorem zr_mk {k : Nat} {u : SX} {v : SY} (h1 : wr_RG dp tc dc bc g) (h2 : wr_RX dp tc dc bc P Q g D B u) (h3 : wr_RY dp tc dc bc P Q g D B v) : i_Rel k u v := ⟨dp, tc, dc, bc, P, Q, g, D, B, h1, h2, h3⟩
section
variable {f_stacked f_signCount f_demandCount f_boundCount : Int32} {a_sizes a_withEmpty a_firsts a_lasts a_zeroReaders a_oneReaders a_followers a_placedSizes a_steps a_ends a_ways a_nextWays a_groups a_finerGroups a_reached a_signs a_demandSigns a_demandSignCounts a_demandPatterns a_demandKept a_boundA a_boundB a_boundC a_boundD : Nat → Int32}
theorem zr_X (S : wr_XS dp P a_sizes a_withEmpty a_firsts a_lasts a_zeroReaders a_oneReaders a_followers) (Pl : wr_XP Q a_placedSizes a_steps a_ends) (T : wr_T tc g a_signs) (hD : wr_XD dc D a_demandSigns a_demandSignCounts a_demandPatterns a_demandKept) (hB : wr_XB bc B a_boundA a_boundB a_boundC a_boundD) : wr_RX dp tc dc bc P Q g D B ((nI dp), (nI tc), (nI dc), (nI bc), a_sizes, a_withEmpty, a_firsts, a_lasts, a_zeroReaders, a_oneReaders, a_followers, a_placedSizes, a_steps, a_ends, a_ways, a_nextWays, a_groups, a_finerGroups, a_reached, a_signs, a_demandSigns, a_demandSignCounts, a_demandPatterns, a_demandKept, a_boundA, a_boundB, a_boundC, a_boundD) := ⟨rfl, rfl, rfl, rfl, S, Pl, T, hD, hB⟩
end
section
variable {f_depth f_termLength f_demands f_boundCount f_known f_found f_least : Int32} {a_sizes a_empties a_firsts a_lasts a_letters a_behinds a_steps a_term a_patterns a_kepts a_signs a_signCounts a_bounds a_firstWords a_sums a_met a_tried a_seen a_apart a_counts a_next : Nat → Int32}
theorem zr_Y (S : wr_YS dp P a_sizes a_empties a_firsts a_lasts a_letters a_behinds) (YP : wr_YP Q a_sizes a_empties a_firsts a_lasts a_letters a_behinds) (YT : wr_YT Q a_steps) (T : wr_T tc g a_term) (hD : wr_YD dc D a_signs a_signCounts a_patterns a_kepts) (hB : wr_YB bc B a_bounds) (hc : f_known = 0 ∨ (f_known = 1 ∧ wr_C (wr_sol Q dc D bc B) 3375 f_found f_least a_firstWords a_sums a_met)) : wr_RY dp tc dc bc P Q g D B ((nI dp), (nI tc), (nI dc), (nI bc), f_known, f_found, f_least, a_sizes, a_empties, a_firsts, a_lasts, a_letters, a_behinds, a_steps, a_term, a_patterns, a_kepts, a_signs, a_signCounts, a_bounds, a_firstWords, a_sums, a_met, a_tried, a_seen, a_apart, a_counts, a_next) := ⟨rfl, rfl, rfl, rfl, S, YP, YT, T, hD, hB, hc⟩
end
theorem zr_YS {n d : Nat} {p : ws_Pat} {sz em fi la le be sz' em' fi' la' le' be' : Nat → Int32} (h : ∀ s, s < n → s ≠ d → wt_ok (P s) ∧ wr_YL (P s) s sz em fi la le be) (L : wr_YL p d sz' em' fi' la' le' be') (F : yb_F d sz em fi la le be sz' em' fi' la' le' be') : wr_YS n (wr_P P d p) sz' em' fi' la' le' be' := by
  intro s hs
  by_cases z : s = d
  · subst z; rw [wr_Ps]; exact L
  · rw [wr_Pn _ _ z]
    obtain ⟨q1, q2⟩ := h s hs z
    exact F s (P s) z q1.1 q2
theorem zr_YP {d : Nat} {sz em fi la le be sz' em' fi' la' le' be' : Nat → Int32} (o3 : wt_ok3 Q) (hd : d < 5) (h : wr_YP Q sz em fi la le be) (F : yb_F d sz em fi la le be sz' em' fi' la' le' be') : wr_YP Q sz' em' fi' la' le' be' :=
  fun k hk => F (5 + k) (Q k) (by omega) (o3 k hk).1 (h k hk)
end
