/-! the component: demands, solutions and what is told of them -/
theorem xt_shl {t l W : Nat} (hl : l ≤ 3) (hW1 : 2 ^ l ≤ W) (hW : W < 16) (ht : t < 2 ^ 13) : (nI t <<< (nI l &&& 31) + nI W) - (1 : Int32) <<< (nI l &&& 31) = nI (t * 2 ^ l + W - 2 ^ l) := by
  have hp : 2 ^ l ≤ 8 := Nat.pow_le_pow_right (n := 2) (i := l) (j := 3) (by decide) hl
  have hb : t * 2 ^ l ≤ 2 ^ 13 * 8 := Nat.mul_le_mul (Nat.le_of_lt ht) hp
  rw [wr_shl (by omega) (by omega), wr_one (by omega), nI_add, pk_sub (by omega)]
section
variable {f_stacked f_signCount f_demandCount f_boundCount : Int32} {a_sizes a_withEmpty a_firsts a_lasts a_zeroReaders a_oneReaders a_followers a_placedSizes a_steps a_ends a_ways a_nextWays a_groups a_finerGroups a_reached a_signs a_demandSigns a_demandSignCounts a_demandPatterns a_demandKept a_boundA a_boundB a_boundC a_boundD : Nat → Int32}
theorem xt_kd {post : Int32 → Prop} {Q : Nat → ws_Pat} (Pl : wr_XP Q a_placedSizes a_steps a_ends) {n d dc : Nat} {D : Nat → wr_Dem} (hn : n < 3375) (hd : d < dc) (hc : dc ≤ 6) (hD : wr_XD dc D a_demandSigns a_demandSignCounts a_demandPatterns a_demandKept) (K : post (wr_b (wr_dok Q D n d))) : wpX_keepsDemand post (f_stacked, f_signCount, f_demandCount, f_boundCount, a_sizes, a_withEmpty, a_firsts, a_lasts, a_zeroReaders, a_oneReaders, a_followers, a_placedSizes, a_steps, a_ends, a_ways, a_nextWays, a_groups, a_finerGroups, a_reached, a_signs, a_demandSigns, a_demandSignCounts, a_demandPatterns, a_demandKept, a_boundA, a_boundB, a_boundC, a_boundD) (nI n) (nI d) := by
  obtain ⟨⟨b1, b2, b3⟩, c1, c2, c3, c4⟩ := hD d hd
  refine pk_loop (fun m i x => wX_keepsDemand_5 post (nI n) (nI d) f_stacked f_signCount f_demandCount f_boundCount a_sizes a_withEmpty a_firsts a_lasts a_zeroReaders a_oneReaders a_followers a_placedSizes a_steps a_ends a_ways a_nextWays a_groups a_finerGroups a_reached a_signs a_demandSigns a_demandSignCounts a_demandPatterns a_demandKept a_boundA a_boundB a_boundC a_boundD m x (nI i)) (fun i x => ∃ len t, x = nI t ∧ 2 ^ len ≤ t ∧ t < 2 ^ (len + 1) ∧ len ≤ 3 * i ∧ wl_l len t = wl_tl (D d).2.2.2 n i) (D d).2.2.1 0 1 (by omega) ⟨0, 1, rfl, by decide, by decide, by omega, rfl⟩ ?_ ?_
  · intro m x I
    obtain ⟨len, t, rfl, h1, h2, h3, h4⟩ := I
    refine wz_in d (br_t (by rw [wz_at d c1]; exact nI_le (Nat.le_refl _) (by omega)) (wz_in d ?_))
    rw [wz_at d c2]
    refine xs_iw Pl b1 h1 h2 (by omega) (wz_in d ?_)
    rw [wz_at d c3, h4]
    refine wz_c (wr_b_e _ _) (fun z => ?_) (fun z => ?_)
    · have : wr_dok Q D n d = true := by
        unfold wr_dok wl_dem
        rw [z, beq_self_eq_true]
      rw [this] at K; exact K
    · have : wr_dok Q D n d = false := by
        unfold wr_dok wl_dem
        exact beq_false_of_ne z
      rw [this] at K; exact K
  · intro m i x hi I ih
    obtain ⟨len, t, rfl, h1, h2, h3, h4⟩ := I
    have hs := b3 i hi
    have hw := wl_sw_in hn hs
    have hl := wl_ln_in _ hw.2 hw.1
    have hg := wl_grow hn hs h1 h2
    have hp : 2 ^ (len + 1) ≤ 2 ^ 13 := Nat.pow_le_pow_right (by decide) (by omega)
    refine wz_in d (br_f (by rw [wz_at d c1]; exact nI_ge hi (by omega)) (wz_in (d * 4 + i) ?_ (by omega) (wz_m4 d i)))
    rw [wz_at (d * 4 + i) (c4 i hi) (wz_m4 d i)]
    refine xs_wi hn hs (xs_lo hw.2 (nm_r (xt_shl hl.2.2 hl.1 hw.2 (by omega)) (nm_r (nI_1 i) (ih _ ⟨_, _, rfl, hg.1, hg.2.1, by omega, ?_⟩))))
    rw [hg.2.2, h4, wl_tl_s]
theorem xt_is {post : Int32 → Prop} {Q : Nat → ws_Pat} (Pl : wr_XP Q a_placedSizes a_steps a_ends) {n dc bc : Nat} {D : Nat → wr_Dem} {B : Nat → Int32} (hn : n < 3375) (hdc : dc ≤ 6) (hbc : bc ≤ 3) (hD : wr_XD dc D a_demandSigns a_demandSignCounts a_demandPatterns a_demandKept) (hB : wr_XB bc B a_boundA a_boundB a_boundC a_boundD) (K : post (wr_b (wr_sol Q dc D bc B n))) : wpX_isSolution post (f_stacked, f_signCount, (nI dc), (nI bc), a_sizes, a_withEmpty, a_firsts, a_lasts, a_zeroReaders, a_oneReaders, a_followers, a_placedSizes, a_steps, a_ends, a_ways, a_nextWays, a_groups, a_finerGroups, a_reached, a_signs, a_demandSigns, a_demandSignCounts, a_demandPatterns, a_demandKept, a_boundA, a_boundB, a_boundC, a_boundD) (nI n) := by
  unfold wr_sol at K
  refine pk_loop (fun m b (_ : Unit) => wX_isSolution_2 post (nI n) f_stacked f_signCount (nI dc) (nI bc) a_sizes a_withEmpty a_firsts a_lasts a_zeroReaders a_oneReaders a_followers a_placedSizes a_steps a_ends a_ways a_nextWays a_groups a_finerGroups a_reached a_signs a_demandSigns a_demandSignCounts a_demandPatterns a_demandKept a_boundA a_boundB a_boundC a_boundD m (nI b)) (fun b _ => wl_all (wr_bok B n) b = true) bc 0 () (by omega) rfl ?_ ?_
  · intro m _ I
    rw [I, Bool.true_and] at K
    refine br_t (nI_le (Nat.le_refl _) (by omega)) ?_
    refine pk_loop (fun m d (_ : Unit) => wX_isSolution_29 post (nI n) f_stacked f_signCount (nI dc) (nI bc) a_sizes a_withEmpty a_firsts a_lasts a_zeroReaders a_oneReaders a_followers a_placedSizes a_steps a_ends a_ways a_nextWays a_groups a_finerGroups a_reached a_signs a_demandSigns a_demandSignCounts a_demandPatterns a_demandKept a_boundA a_boundB a_boundC a_boundD m (nI d)) (fun d _ => wl_all (wr_dok Q D n) d = true) dc 0 () (by omega) rfl ?_ ?_
    · intro m _ I2
      rw [I2] at K
      exact br_t (nI_le (Nat.le_refl _) (by omega)) K
    · intro m d _ hd I2 ih
      refine br_f (nI_ge hd (by omega)) (xt_kd Pl hn hd hdc hD (wz_if _ (fun z => ?_) (fun z => nm_r (nI_1 d) (ih () ?_))))
      · rw [wl_all_f z dc hd] at K; exact K
      · rw [wl_all_s, I2, z]; rfl
  · intro m b _ hb I ih
    refine br_f (nI_ge hb (by omega)) (xs_kb hn hb hbc hB (wz_if _ (fun z => ?_) (fun z => nm_r (nI_1 b) (ih () ?_))))
    · rw [wl_all_f z bc hb, Bool.false_and] at K; exact K
    · rw [wl_all_s, I, z]; rfl
variable {Q : Nat → ws_Pat} {dc bc : Nat} {D : Nat → wr_Dem} {B : Nat → Int32}
theorem xt_sols {post : Int32 → Prop} (Pl : wr_XP Q a_placedSizes a_steps a_ends) (hdc : dc ≤ 6) (hbc : bc ≤ 3) (hD : wr_XD dc D a_demandSigns a_demandSignCounts a_demandPatterns a_demandKept) (hB : wr_XB bc B a_boundA a_boundB a_boundC a_boundD) (K : post (nI (ws_cnt (wr_sol Q dc D bc B) 3375))) : wpX_solutions post (f_stacked, f_signCount, (nI dc), (nI bc), a_sizes, a_withEmpty, a_firsts, a_lasts, a_zeroReaders, a_oneReaders, a_followers, a_placedSizes, a_steps, a_ends, a_ways, a_nextWays, a_groups, a_finerGroups, a_reached, a_signs, a_demandSigns, a_demandSignCounts, a_demandPatterns, a_demandKept, a_boundA, a_boundB, a_boundC, a_boundD) := by
  refine pk_loop (fun m n x => wX_solutions_4 post f_stacked f_signCount (nI dc) (nI bc) a_sizes a_withEmpty a_firsts a_lasts a_zeroReaders a_oneReaders a_followers a_placedSizes a_steps a_ends a_ways a_nextWays a_groups a_finerGroups a_reached a_signs a_demandSigns a_demandSignCounts a_demandPatterns a_demandKept a_boundA a_boundB a_boundC a_boundD m x (nI n)) (fun n x => x = nI (ws_cnt (wr_sol Q dc D bc B) n)) 3375 0 0 (by omega) rfl ?_ ?_
  · intro m x I
    subst I
    exact br_t (nI_le (a := 3375) (b := 3375) (by omega) (by omega)) K
  · intro m n x hn I ih
    subst I
    refine br_f (nI_ge (b := 3375) hn (by omega)) (xt_is Pl hn hdc hbc hD hB (wz_if _ (fun z => nm_r (nI_1 n) (ih _ ?_)) (fun z => nm_r (nI_1 _) (nm_r (nI_1 n) (ih _ ?_)))))
    · rw [ws_cnt_s, z, if_neg Bool.false_ne_true]
    · rw [ws_cnt_s, z, if_pos rfl]
def xt_o (o : Option Nat) : Int32 := match o with
  | none => -1
  | some j => nI j
theorem xt_fs {post : Int32 → Prop} (Pl : wr_XP Q a_placedSizes a_steps a_ends) (hdc : dc ≤ 6) (hbc : bc ≤ 3) (hD : wr_XD dc D a_demandSigns a_demandSignCounts a_demandPatterns a_demandKept) (hB : wr_XB bc B a_boundA a_boundB a_boundC a_boundD) (K : post (xt_o (wl_fs (wr_sol Q dc D bc B) 3375))) : wpX_firstSolution post (f_stacked, f_signCount, (nI dc), (nI bc), a_sizes, a_withEmpty, a_firsts, a_lasts, a_zeroReaders, a_oneReaders, a_followers, a_placedSizes, a_steps, a_ends, a_ways, a_nextWays, a_groups, a_finerGroups, a_reached, a_signs, a_demandSigns, a_demandSignCounts, a_demandPatterns, a_demandKept, a_boundA, a_boundB, a_boundC, a_boundD) := by
  have h10 : ∀ o, wl_lo 10 o ≤ 10 := by
    intro o
    cases o with
    | none => exact Nat.le_refl 10
    | some j => exact Nat.le_trans (wl_sm_9 j) (by decide)
  refine pk_loop (fun m n (s : Int32 × Int32) => wX_firstSolution_7 post f_stacked f_signCount (nI dc) (nI bc) a_sizes a_withEmpty a_firsts a_lasts a_zeroReaders a_oneReaders a_followers a_placedSizes a_steps a_ends a_ways a_nextWays a_groups a_finerGroups a_reached a_signs a_demandSigns a_demandSignCounts a_demandPatterns a_demandKept a_boundA a_boundB a_boundC a_boundD m s.1 s.2 (nI n)) (fun n s => s.1 = xt_o (wl_fs (wr_sol Q dc D bc B) n) ∧ s.2 = nI (wl_lo 10 (wl_fs (wr_sol Q dc D bc B) n))) 3375 0 (-1, 10) (by omega) ⟨rfl, rfl⟩ ?_ ?_
  · intro m s I
    refine br_t (nI_le (a := 3375) (b := 3375) (by omega) (by omega)) ?_
    rw [I.1]
    exact K
  · intro m n s hn I ih
    have h9 := wl_sm_9 n
    refine br_f (nI_ge (b := 3375) hn (by omega)) (xs_sm hn ?_)
    refine pk_le (wl_lo 10 (wl_fs (wr_sol Q dc D bc B) n)) (wl_sm n) (fun z => nm_r (nI_1 n) (ih s ?_)) (fun z => ?_) I.2 rfl (by have := h10 (wl_fs (wr_sol Q dc D bc B) n); omega) (by omega)
    · rw [wl_fs_s, if_neg (fun w => by have := (wl_lo_lt n _).mpr w.2; omega)]
      exact I
    · refine xt_is Pl hn hdc hbc hD hB (wz_if _ (fun y => nm_r (nI_1 n) (ih s ?_)) (fun y => nm_r (nI_1 n) (ih (nI n, nI (wl_sm n)) ?_)))
      · rw [wl_fs_s, if_neg (fun w => by rw [y] at w; exact absurd w.1 Bool.false_ne_true)]
        exact I
      · rw [wl_fs_s, if_pos ⟨y, (wl_lo_lt n _).mp z⟩]
        exact ⟨rfl, rfl⟩
theorem xt_ne {j : Nat} (h : j < 3375) : ¬ nI j = -1 := by
  intro z
  have := congrArg Int32.toInt z
  rw [nI_toInt (by omega), show (-1 : Int32).toInt = -1 from by decide] at this
  omega
theorem xt_len {post : Int32 → Prop} {i : Nat} (Pl : wr_XP Q a_placedSizes a_steps a_ends) (hdc : dc ≤ 6) (hbc : bc ≤ 3) (hD : wr_XD dc D a_demandSigns a_demandSignCounts a_demandPatterns a_demandKept) (hB : wr_XB bc B a_boundA a_boundB a_boundC a_boundD) (hi : i < 3) (K0 : wl_fs (wr_sol Q dc D bc B) 3375 = none → post (-4)) (K1 : ∀ j, j < 3375 → wl_fs (wr_sol Q dc D bc B) 3375 = some j → post (nI (wl_ln (wl_tr j i + 1)))) : wpX_length post (f_stacked, f_signCount, (nI dc), (nI bc), a_sizes, a_withEmpty, a_firsts, a_lasts, a_zeroReaders, a_oneReaders, a_followers, a_placedSizes, a_steps, a_ends, a_ways, a_nextWays, a_groups, a_finerGroups, a_reached, a_signs, a_demandSigns, a_demandSignCounts, a_demandPatterns, a_demandKept, a_boundA, a_boundB, a_boundC, a_boundD) (nI i) := by
  refine br_f (nI_pos (by omega)) (br_t (nI_lt (b := 3) hi (by decide)) (xt_fs Pl hdc hbc hD hB ?_))
  cases e : wl_fs (wr_sol Q dc D bc B) 3375 with
  | none => exact br_t rfl (K0 e)
  | some j =>
    have hj := wl_fs_lt _ _ _ e
    have e2 : wl_sw j i = wl_tr j i + 1 := if_pos hi
    refine br_f (xt_ne hj) (xs_li hj (by omega) ?_)
    rw [e2]
    exact K1 j hj e
theorem xt_let {post : Int32 → Prop} {i : Nat} {v : Int32} (Pl : wr_XP Q a_placedSizes a_steps a_ends) (hdc : dc ≤ 6) (hbc : bc ≤ 3) (hD : wr_XD dc D a_demandSigns a_demandSignCounts a_demandPatterns a_demandKept) (hB : wr_XB bc B a_boundA a_boundB a_boundC a_boundD) (hi : i < 3) (K0 : wl_fs (wr_sol Q dc D bc B) 3375 = none → post (-4)) (K1 : ∀ j, j < 3375 → wl_fs (wr_sol Q dc D bc B) 3375 = some j → (v < 0 → post (-4)) ∧ (∀ p, p < 2 ^ 31 → v = nI p → wl_ln (wl_tr j i + 1) ≤ p → post (-4)) ∧ (∀ p, v = nI p → p < wl_ln (wl_tr j i + 1) → post (nI ((wl_tr j i + 1) / 2 ^ (wl_ln (wl_tr j i + 1) - 1 - p) % 2)))) : wpX_letter post (f_stacked, f_signCount, (nI dc), (nI bc), a_sizes, a_withEmpty, a_firsts, a_lasts, a_zeroReaders, a_oneReaders, a_followers, a_placedSizes, a_steps, a_ends, a_ways, a_nextWays, a_groups, a_finerGroups, a_reached, a_signs, a_demandSigns, a_demandSignCounts, a_demandPatterns, a_demandKept, a_boundA, a_boundB, a_boundC, a_boundD) (nI i) v := by
  refine br_f (nI_pos (by omega)) (br_t (nI_lt (b := 3) hi (by decide)) (xt_fs Pl hdc hbc hD hB ?_))
  cases e : wl_fs (wr_sol Q dc D bc B) 3375 with
  | none => exact br_t rfl (K0 e)
  | some j =>
    have hj := wl_fs_lt _ _ _ e
    have e2 : wl_sw j i = wl_tr j i + 1 := if_pos hi
    have ht := wl_tr_lt hj i
    have h3 := wl_ln_3 (wl_tr j i + 1)
    obtain ⟨k1, k2, k3⟩ := K1 j hj e
    refine br_f (xt_ne hj) (xs_li hj (by omega) ?_)
    rw [e2]
    by_cases hv : v < 0
    · exact nm_e (br_t hv (k1 hv))
    · obtain ⟨p, hp, rfl⟩ := nI_of hv
      generalize hL : wl_ln (wl_tr j i + 1) = L at *
      cases L with
      | zero =>
        refine nm_e (br_f hv (br_f ?_ (k2 p hp rfl (by omega))))
        intro z
        have := Int32.le_iff_toInt_le.mp z
        rw [nI_toInt hp, show (nI 0 - 1 : Int32).toInt = -1 from by decide] at this
        omega
      | succ L =>
        refine nm_r (nI_pred L) (br_f hv (pk_le p L (fun z => xs_wi hj (by omega) ?_) (fun z => k2 p hp rfl (by omega))))
        rw [e2, pk_sub z, wr_bit (by omega) (by omega)]
        exact k3 p rfl (by omega)
theorem xt_lens {post : Int32 → Prop} {i : Nat} (Pl : wr_XP Q a_placedSizes a_steps a_ends) (hdc : dc ≤ 6) (hbc : bc ≤ 3) (hD : wr_XD dc D a_demandSigns a_demandSignCounts a_demandPatterns a_demandKept) (hB : wr_XB bc B a_boundA a_boundB a_boundC a_boundD) (hi : i < 3) (K : post (nI (wl_S (wr_sol Q dc D bc B) i 3375))) : wpX_lengths post (f_stacked, f_signCount, (nI dc), (nI bc), a_sizes, a_withEmpty, a_firsts, a_lasts, a_zeroReaders, a_oneReaders, a_followers, a_placedSizes, a_steps, a_ends, a_ways, a_nextWays, a_groups, a_finerGroups, a_reached, a_signs, a_demandSigns, a_demandSignCounts, a_demandPatterns, a_demandKept, a_boundA, a_boundB, a_boundC, a_boundD) (nI i) := by
  refine br_f (nI_pos (by omega)) (br_t (nI_lt (b := 3) hi (by decide)) ?_)
  refine pk_loop (fun m n x => wX_lengths_15 post (nI i) f_stacked f_signCount (nI dc) (nI bc) a_sizes a_withEmpty a_firsts a_lasts a_zeroReaders a_oneReaders a_followers a_placedSizes a_steps a_ends a_ways a_nextWays a_groups a_finerGroups a_reached a_signs a_demandSigns a_demandSignCounts a_demandPatterns a_demandKept a_boundA a_boundB a_boundC a_boundD m x (nI n)) (fun n x => x = nI (wl_S (wr_sol Q dc D bc B) i n)) 3375 0 0 (by omega) rfl ?_ ?_
  · intro m x I
    subst I
    exact br_t (nI_le (a := 3375) (b := 3375) (by omega) (by omega)) K
  · intro m n x hn I ih
    subst I
    have e2 : wl_sw n i = wl_tr n i + 1 := if_pos hi
    have h3 := wl_ln_3 (wl_tr n i + 1)
    refine br_f (nI_ge (b := 3375) hn (by omega)) (xt_is Pl hn hdc hbc hD hB (wz_if _ (fun z => nm_r (nI_1 n) (ih _ ?_)) (fun z => xs_li hn (by omega) (nm_r (e' := nI (wl_S (wr_sol Q dc D bc B) i (n + 1))) ?_ (nm_r (nI_1 n) (ih _ rfl))))))
    · rw [wl_S_s, z, if_neg Bool.false_ne_true]
    · rw [wl_S_s, z, if_pos rfl, e2, wr_one (by omega), wr_or]
theorem xt_dif {post : Int32 → Prop} {i : Nat} (Pl : wr_XP Q a_placedSizes a_steps a_ends) (hdc : dc ≤ 6) (hbc : bc ≤ 3) (hD : wr_XD dc D a_demandSigns a_demandSignCounts a_demandPatterns a_demandKept) (hB : wr_XB bc B a_boundA a_boundB a_boundC a_boundD) (hi : i < 3) (K : post (nI (ws_cnt (fun w => (wl_M (wr_sol Q dc D bc B) i 3375).testBit w) 15))) : wpX_different post (f_stacked, f_signCount, (nI dc), (nI bc), a_sizes, a_withEmpty, a_firsts, a_lasts, a_zeroReaders, a_oneReaders, a_followers, a_placedSizes, a_steps, a_ends, a_ways, a_nextWays, a_groups, a_finerGroups, a_reached, a_signs, a_demandSigns, a_demandSignCounts, a_demandPatterns, a_demandKept, a_boundA, a_boundB, a_boundC, a_boundD) (nI i) := by
  refine br_f (nI_pos (by omega)) (br_t (nI_lt (b := 3) hi (by decide)) ?_)
  refine pk_loop (fun m n x => wX_different_15 post (nI i) f_stacked f_signCount (nI dc) (nI bc) a_sizes a_withEmpty a_firsts a_lasts a_zeroReaders a_oneReaders a_followers a_placedSizes a_steps a_ends a_ways a_nextWays a_groups a_finerGroups a_reached a_signs a_demandSigns a_demandSignCounts a_demandPatterns a_demandKept a_boundA a_boundB a_boundC a_boundD m x (nI n)) (fun n x => x = nI (wl_M (wr_sol Q dc D bc B) i n * 2 ^ 1)) 3375 0 0 (by omega) rfl ?_ ?_
  · intro m x I
    subst I
    have hM := wl_M_lt (wr_sol Q dc D bc B) i 3375 (by omega)
    refine br_t (nI_le (a := 3375) (b := 3375) (by omega) (by omega)) ?_
    refine pk_loop (fun m n x => wX_different_51 post (nI (wl_M (wr_sol Q dc D bc B) i 3375 * 2 ^ 1)) f_stacked f_signCount (nI dc) (nI bc) a_sizes a_withEmpty a_firsts a_lasts a_zeroReaders a_oneReaders a_followers a_placedSizes a_steps a_ends a_ways a_nextWays a_groups a_finerGroups a_reached a_signs a_demandSigns a_demandSignCounts a_demandPatterns a_demandKept a_boundA a_boundB a_boundC a_boundD m x (nI n)) (fun n x => 1 ≤ n ∧ x = nI (ws_cnt (fun w => (wl_M (wr_sol Q dc D bc B) i 3375).testBit w) (n - 1))) 16 1 0 (by omega) ⟨by omega, rfl⟩ ?_ ?_
    · intro m x I
      obtain ⟨_, I⟩ := I
      subst I
      exact br_t (nI_lt (a := 15) (b := 16) (by omega) (by omega)) K
    · intro m n x hn I ih
      obtain ⟨h1, I⟩ := I
      subst I
      obtain ⟨n, rfl⟩ : ∃ q, n = q + 1 := ⟨n - 1, by omega⟩
      refine br_f (nI_nlt (b := n + 1) (a := 15) (by omega) (by omega)) (nm_r (e' := nI (ws_cnt (fun w => (wl_M (wr_sol Q dc D bc B) i 3375).testBit w) (n + 1))) ?_ (nm_r (nI_1 _) (ih _ ⟨by omega, rfl⟩)))
      have e : (wl_M (wr_sol Q dc D bc B) i 3375).testBit n = decide (wl_M (wr_sol Q dc D bc B) i 3375 * 2 ^ 1 / 2 ^ (n + 1) % 2 = 1) := by
        rw [Nat.testBit_eq_decide_div_mod_eq, Nat.pow_succ 2 n, Nat.pow_one, Nat.mul_div_mul_right _ _ (by omega : 0 < 2)]
      rw [wr_bit (by omega) (by omega), nI_add, ws_cnt_s, e]
      have hc : wl_M (wr_sol Q dc D bc B) i 3375 * 2 ^ 1 / 2 ^ (n + 1) % 2 = 0 ∨ wl_M (wr_sol Q dc D bc B) i 3375 * 2 ^ 1 / 2 ^ (n + 1) % 2 = 1 := by omega
      rcases hc with hc | hc
      · rw [hc]; rfl
      · rw [hc]; rfl
  · intro m n x hn I ih
    subst I
    have e2 : wl_sw n i = wl_tr n i + 1 := if_pos hi
    have ht := wl_tr_lt hn i
    refine br_f (nI_ge (b := 3375) hn (by omega)) (xt_is Pl hn hdc hbc hD hB (wz_if _ (fun z => nm_r (nI_1 n) (ih _ ?_)) (fun z => xs_wi hn (by omega) (nm_r (e' := nI (wl_M (wr_sol Q dc D bc B) i (n + 1) * 2 ^ 1)) ?_ (nm_r (nI_1 n) (ih _ rfl))))))
    · rw [wl_M_s, z, if_neg Bool.false_ne_true]
    · rw [wl_M_s, z, if_pos rfl, e2, wr_one (by omega), wr_or]
      congr 1
      apply Nat.eq_of_testBit_eq
      intro q
      rw [Nat.testBit_or, Nat.testBit_mul_two_pow, Nat.testBit_mul_two_pow, Nat.testBit_or, Nat.testBit_two_pow, Nat.testBit_two_pow]
      by_cases hq : 1 ≤ q
      · rw [decide_eq_true hq, Bool.true_and, Bool.true_and]
        congr 1
        rw [decide_eq_decide]
        omega
      · rw [decide_eq_false hq, Bool.false_and, Bool.false_and, Bool.false_or, decide_eq_false (by omega)]
theorem xt_ofl {post : Int32 → Prop} {v : Int32} (Pl : wr_XP Q a_placedSizes a_steps a_ends) (hdc : dc ≤ 6) (hbc : bc ≤ 3) (hD : wr_XD dc D a_demandSigns a_demandSignCounts a_demandPatterns a_demandKept) (hB : wr_XB bc B a_boundA a_boundB a_boundC a_boundD) (K : post (nI (ws_cnt (fun j => wr_sol Q dc D bc B j && decide (nI (wl_sm j) = v)) 3375))) : wpX_ofLength post (f_stacked, f_signCount, (nI dc), (nI bc), a_sizes, a_withEmpty, a_firsts, a_lasts, a_zeroReaders, a_oneReaders, a_followers, a_placedSizes, a_steps, a_ends, a_ways, a_nextWays, a_groups, a_finerGroups, a_reached, a_signs, a_demandSigns, a_demandSignCounts, a_demandPatterns, a_demandKept, a_boundA, a_boundB, a_boundC, a_boundD) v := by
  refine pk_loop (fun m n x => wX_ofLength_4 post v f_stacked f_signCount (nI dc) (nI bc) a_sizes a_withEmpty a_firsts a_lasts a_zeroReaders a_oneReaders a_followers a_placedSizes a_steps a_ends a_ways a_nextWays a_groups a_finerGroups a_reached a_signs a_demandSigns a_demandSignCounts a_demandPatterns a_demandKept a_boundA a_boundB a_boundC a_boundD m x (nI n)) (fun n x => x = nI (ws_cnt (fun j => wr_sol Q dc D bc B j && decide (nI (wl_sm j) = v)) n)) 3375 0 0 (by omega) rfl ?_ ?_
  · intro m x I
    subst I
    exact br_t (nI_le (a := 3375) (b := 3375) (by omega) (by omega)) K
  · intro m n x hn I ih
    subst I
    refine br_f (nI_ge (b := 3375) hn (by omega)) (xs_sm hn (br_c (fun z => xt_is Pl hn hdc hbc hD hB (wz_if _ (fun y => nm_r (nI_1 n) (ih _ ?_)) (fun y => nm_r (nI_1 _) (nm_r (nI_1 n) (ih _ ?_))))) (fun z => nm_r (nI_1 n) (ih _ ?_))))
    · rw [ws_cnt_s, y, Bool.false_and, if_neg Bool.false_ne_true]
    · rw [ws_cnt_s, y, decide_eq_true z, Bool.and_self, if_pos rfl]
    · rw [ws_cnt_s, decide_eq_false z, Bool.and_false, if_neg Bool.false_ne_true]
end
