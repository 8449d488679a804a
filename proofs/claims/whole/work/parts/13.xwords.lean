/-! the component: how many words -/
section
variable {f_stacked f_signCount f_demandCount f_boundCount : Int32} {a_sizes a_withEmpty a_firsts a_lasts a_zeroReaders a_oneReaders a_followers a_placedSizes a_steps a_ends a_ways a_nextWays a_groups a_finerGroups a_reached a_signs a_demandSigns a_demandSignCounts a_demandPatterns a_demandKept a_boundA a_boundB a_boundC a_boundD : Nat → Int32}
theorem xw_ring (a w c d : Int32) : a + w * c + w * d = a + w * (c + d) := by grind
theorem xw_rol {post : SX → Prop} {Q : Nat → ws_Pat} (Pl : wr_XP Q a_placedSizes a_steps a_ends) (j : Nat) (K : ∀ wa nw : Nat → Int32, ws_sum wa (ws_A (wt_xd Q) (wt_xa Q) j) 195 = ws_sum a_ways (ws_A (wt_xd Q) (wt_xa Q) (j + 1)) 195 → post (f_stacked, f_signCount, f_demandCount, f_boundCount, a_sizes, a_withEmpty, a_firsts, a_lasts, a_zeroReaders, a_oneReaders, a_followers, a_placedSizes, a_steps, a_ends, wa, nw, a_groups, a_finerGroups, a_reached, a_signs, a_demandSigns, a_demandSignCounts, a_demandPatterns, a_demandKept, a_boundA, a_boundB, a_boundC, a_boundD)) : wpX_readOneLetter post (f_stacked, f_signCount, f_demandCount, f_boundCount, a_sizes, a_withEmpty, a_firsts, a_lasts, a_zeroReaders, a_oneReaders, a_followers, a_placedSizes, a_steps, a_ends, a_ways, a_nextWays, a_groups, a_finerGroups, a_reached, a_signs, a_demandSigns, a_demandSignCounts, a_demandPatterns, a_demandKept, a_boundA, a_boundB, a_boundC, a_boundD) := by
  refine pk_loop (fun n i nw => wX_readOneLetter_2 post f_stacked f_signCount f_demandCount f_boundCount n (nI i) a_sizes a_withEmpty a_firsts a_lasts a_zeroReaders a_oneReaders a_followers a_placedSizes a_steps a_ends a_ways nw a_groups a_finerGroups a_reached a_signs a_demandSigns a_demandSignCounts a_demandPatterns a_demandKept a_boundA a_boundB a_boundC a_boundD) (fun i nw => ∀ s, s < i → nw s = 0) 195 0 a_nextWays (by omega) (fun s hs => absurd hs (by omega)) ?_ ?_
  · intro n nw I
    refine br_t (nI_le (a := 195) (b := 195) (by omega) (by omega)) ?_
    refine pk_loop (fun n i nw => wX_readOneLetter_24 post f_stacked f_signCount f_demandCount f_boundCount n (nI i) a_sizes a_withEmpty a_firsts a_lasts a_zeroReaders a_oneReaders a_followers a_placedSizes a_steps a_ends a_ways nw a_groups a_finerGroups a_reached a_signs a_demandSigns a_demandSignCounts a_demandPatterns a_demandKept a_boundA a_boundB a_boundC a_boundD) (fun i nw => ws_sum nw (ws_A (wt_xd Q) (wt_xa Q) j) 195 = ws_sum a_ways (ws_A (wt_xd Q) (wt_xa Q) (j + 1)) i) 195 0 nw (by omega) (ws_sum_0 _ 195 I) ?_ ?_
    · intro n nw I
      refine br_t (nI_le (a := 195) (b := 195) (by omega) (by omega)) ?_
      refine pk_loop (fun n i wa => wX_readOneLetter_85 post f_stacked f_signCount f_demandCount f_boundCount n (nI i) a_sizes a_withEmpty a_firsts a_lasts a_zeroReaders a_oneReaders a_followers a_placedSizes a_steps a_ends wa nw a_groups a_finerGroups a_reached a_signs a_demandSigns a_demandSignCounts a_demandPatterns a_demandKept a_boundA a_boundB a_boundC a_boundD) (fun i wa => ∀ s, s < i → wa s = nw s) 195 0 a_ways (by omega) (fun s hs => absurd hs (by omega)) ?_ ?_
      · intro n wa I2
        exact br_t (nI_le (a := 195) (b := 195) (by omega) (by omega)) (K wa nw ((ws_sum_congr _ 195 I2).trans I))
      · intro n i wa hi I2 ih
        refine br_f (nI_ge (b := 195) hi (by omega)) (wz_in i (wz_st i (nw i) (nm_r (nI_1 i) (ih _ ?_)) (by omega) rfl (wz_at i rfl)))
        intro s hs
        by_cases z : s = i
        · subst z; exact pk_us
        · rw [pk_un z]; exact I2 s (by omega)
    · intro n i nw hi I ih
      obtain ⟨s0, s1, -⟩ := Pl.2.2 i hi
      have b0 := wt_xd_lt Pl.1 i false hi
      have b1 := wt_xd_lt Pl.1 i true hi
      have e0 := wz_at (i * 2) s0 (wz_m2 i)
      have e1 := wz_at (i * 2 + 1) s1 (wz_m21 i)
      refine br_f (nI_ge (b := 195) hi (by omega)) (wz_in (i * 2) (wz_in (wt_xd Q i false) (wz_in i (wz_st (wt_xd Q i false) (nw (wt_xd Q i false) + a_ways i) (wz_in (i * 2 + 1) (wz_in (wt_xd Q i true) (wz_in i (wz_st (wt_xd Q i true) (upd nw (wt_xd Q i false) (nw (wt_xd Q i false) + a_ways i) (wt_xd Q i true) + a_ways i) (nm_r (nI_1 i) (ih _ ?_)) (by omega) e1 ?_)) (by omega) e1) (by omega) (wz_m21 i)) (by omega) e0 ?_)) (by omega) e0) (by omega) (wz_m2 i))
      · rw [ws_sum_upd _ _ _ _ 195 b1, ws_sum_upd _ _ _ _ 195 b0, I, ws_sum_s, xw_ring, nI_add]
        rfl
      · rw [e1, nI_clamp (by omega), nI_clamp (by omega)]
      · rw [e0, nI_clamp (by omega), nI_clamp (by omega)]
  · intro n i nw hi I ih
    refine br_f (nI_ge (b := 195) hi (by omega)) (wz_st i 0 (nm_r (nI_1 i) (ih _ ?_)))
    intro s hs
    by_cases z : s = i
    · subst z; exact pk_us
    · rw [pk_un z]; exact I s (by omega)
theorem xw_cw {post : Int32 → SX → Prop} {Q : Nat → ws_Pat} (Pl : wr_XP Q a_placedSizes a_steps a_ends) {k m : Nat} (hk : k < 3) (hm : m < 2 ^ 31) (K : ∀ wa nw : Nat → Int32, post (nI (ws_A (wt_d (Q k)) (wt_a (Q k)) m 64)) (f_stacked, f_signCount, f_demandCount, f_boundCount, a_sizes, a_withEmpty, a_firsts, a_lasts, a_zeroReaders, a_oneReaders, a_followers, a_placedSizes, a_steps, a_ends, wa, nw, a_groups, a_finerGroups, a_reached, a_signs, a_demandSigns, a_demandSignCounts, a_demandPatterns, a_demandKept, a_boundA, a_boundB, a_boundC, a_boundD)) : wpX_countWords post (f_stacked, f_signCount, f_demandCount, f_boundCount, a_sizes, a_withEmpty, a_firsts, a_lasts, a_zeroReaders, a_oneReaders, a_followers, a_placedSizes, a_steps, a_ends, a_ways, a_nextWays, a_groups, a_finerGroups, a_reached, a_signs, a_demandSigns, a_demandSignCounts, a_demandPatterns, a_demandKept, a_boundA, a_boundB, a_boundC, a_boundD) (nI k) (nI m) := by
  refine pk_loop (fun n i wa => wX_countWords_2 post (nI k) (nI m) f_stacked f_signCount f_demandCount f_boundCount n (nI i) a_sizes a_withEmpty a_firsts a_lasts a_zeroReaders a_oneReaders a_followers a_placedSizes a_steps a_ends wa a_nextWays a_groups a_finerGroups a_reached a_signs a_demandSigns a_demandSignCounts a_demandPatterns a_demandKept a_boundA a_boundB a_boundC a_boundD) (fun i wa => ∀ s, s < i → wa s = 0) 195 0 a_ways (by omega) (fun s hs => absurd hs (by omega)) ?_ ?_
  · intro n wa I
    refine br_t (nI_le (a := 195) (b := 195) (by omega) (by omega)) (wz_st (k * 65 + 64) 1 ?_ (by omega) (wz_m64 k) rfl)
    refine pk_loop (fun n r (s : (Nat → Int32) × (Nat → Int32)) => wX_countWords_37 post (nI m) n (nI r) f_stacked f_signCount f_demandCount f_boundCount a_sizes a_withEmpty a_firsts a_lasts a_zeroReaders a_oneReaders a_followers a_placedSizes a_steps a_ends s.1 s.2 a_groups a_finerGroups a_reached a_signs a_demandSigns a_demandSignCounts a_demandPatterns a_demandKept a_boundA a_boundB a_boundC a_boundD) (fun r s => ws_sum s.1 (ws_A (wt_xd Q) (wt_xa Q) (m - r)) 195 = nI (ws_A (wt_d (Q k)) (wt_a (Q k)) m 64)) m 0 (upd wa (k * 65 + 64) 1, a_nextWays) (by omega) ?_ ?_ ?_
    · dsimp only
      have e : upd wa (k * 65 + 64) 1 = upd wa (k * 65 + 64) (wa (k * 65 + 64) + 1) := by rw [I _ (by omega)]; rfl
      rw [e, ws_sum_upd _ _ _ _ 195 (by omega), ws_sum_0 _ 195 I, Int32.zero_add, Int32.one_mul, Nat.sub_zero, Nat.mul_comm k 65, wt_xA Pl.1 hk m 64 (by omega)]
    · intro n s I2
      refine br_t (nI_le (Nat.le_refl _) hm) ?_
      rw [Nat.sub_self] at I2
      refine pk_loop (fun n i x => wX_countWords_57 post f_stacked f_signCount f_demandCount f_boundCount a_sizes a_withEmpty a_firsts a_lasts a_zeroReaders a_oneReaders a_followers a_placedSizes a_steps a_ends s.1 s.2 a_groups a_finerGroups a_reached a_signs a_demandSigns a_demandSignCounts a_demandPatterns a_demandKept a_boundA a_boundB a_boundC a_boundD n x (nI i)) (fun i x => x = ws_sum s.1 (ws_A (wt_xd Q) (wt_xa Q) 0) i) 195 0 0 (by omega) rfl ?_ ?_
      · intro n x I3
        rw [I2] at I3
        subst I3
        exact br_t (nI_le (a := 195) (b := 195) (by omega) (by omega)) (K s.1 s.2)
      · intro n i x hi I3 ih
        have hA : ws_A (wt_xd Q) (wt_xa Q) 0 i = if wt_xa Q i = true then 1 else 0 := rfl
        refine br_f (nI_ge (b := 195) hi (by omega)) (wz_in i (wz_if (wt_xa Q i) (fun z => nm_e (nm_r (nI_1 i) (ih _ ?_))) (fun z => wz_in i (nm_e (nm_r (nI_1 i) (ih _ ?_)))) (wz_at i (Pl.2.2 i hi).2.2)))
        · rw [ws_sum_s, hA, z, I3, if_neg Bool.false_ne_true, show nI 0 = 0 from rfl, Int32.mul_zero]
        · rw [ws_sum_s, hA, z, I3, if_pos rfl, show nI 1 = 1 from rfl, Int32.mul_one, wz_at (a := s.1) i rfl]
    · intro n r s hr I2 ih
      refine br_f (nI_ge hr hm) (xw_rol Pl (m - (r + 1)) (fun wa nw h => nm_r (nI_1 r) (ih (wa, nw) ?_)))
      dsimp only
      rw [h, show m - (r + 1) + 1 = m - r from by omega]
      exact I2
  · intro n i wa hi I ih
    refine br_f (nI_ge (b := 195) hi (by omega)) (wz_st i 0 (nm_r (nI_1 i) (ih _ ?_)))
    intro s hs
    by_cases z : s = i
    · subst z; exact pk_us
    · rw [pk_un z]; exact I s (by omega)
/-- one of the numbers of words of length 7 to 12 is not 0 -/
theorem xw_end {post : Int32 → SX → Prop} {Q : Nat → ws_Pat} (Pl : wr_XP Q a_placedSizes a_steps a_ends) {k : Nat} (hk : k < 3) (K : ∀ (b : Bool) (wa nw : Nat → Int32), (b = true ↔ ∃ n, 7 ≤ n ∧ n < 13 ∧ 0 < ws_A (wt_d (Q k)) (wt_a (Q k)) n 64) → post (wr_b b) (f_stacked, f_signCount, f_demandCount, f_boundCount, a_sizes, a_withEmpty, a_firsts, a_lasts, a_zeroReaders, a_oneReaders, a_followers, a_placedSizes, a_steps, a_ends, wa, nw, a_groups, a_finerGroups, a_reached, a_signs, a_demandSigns, a_demandSignCounts, a_demandPatterns, a_demandKept, a_boundA, a_boundB, a_boundC, a_boundD)) : ∃ n, wX_endless_14 post (nI k) n 7 f_stacked f_signCount f_demandCount f_boundCount a_sizes a_withEmpty a_firsts a_lasts a_zeroReaders a_oneReaders a_followers a_placedSizes a_steps a_ends a_ways a_nextWays a_groups a_finerGroups a_reached a_signs a_demandSigns a_demandSignCounts a_demandPatterns a_demandKept a_boundA a_boundB a_boundC a_boundD := by
  refine pk_loop (fun n i (s : (Nat → Int32) × (Nat → Int32)) => wX_endless_14 post (nI k) n (nI i) f_stacked f_signCount f_demandCount f_boundCount a_sizes a_withEmpty a_firsts a_lasts a_zeroReaders a_oneReaders a_followers a_placedSizes a_steps a_ends s.1 s.2 a_groups a_finerGroups a_reached a_signs a_demandSigns a_demandSignCounts a_demandPatterns a_demandKept a_boundA a_boundB a_boundC a_boundD) (fun i _ => 7 ≤ i ∧ ∀ n, 7 ≤ n → n < i → ws_A (wt_d (Q k)) (wt_a (Q k)) n 64 = 0) 13 7 (a_ways, a_nextWays) (by omega) ⟨by omega, fun n h1 h2 => absurd h1 (by omega)⟩ ?_ ?_
  · intro n s I
    refine br_t (nI_lt (a := 12) (b := 13) (by omega) (by omega)) (K false s.1 s.2 ⟨fun z => absurd z Bool.false_ne_true, ?_⟩)
    rintro ⟨n, h1, h2, h3⟩
    have := I.2 n h1 h2
    omega
  · intro n i s hi I ih
    have hA := ws_A_le (wt_d (Q k)) (wt_a (Q k)) i 64
    have hA2 : 2 ^ i ≤ 2 ^ 12 := Nat.pow_le_pow_right (by decide) (by omega)
    refine br_f (nI_nlt (b := i) (a := 12) (by omega) (by omega)) (xw_cw Pl hk (by omega) (fun wa nw => pk_le (ws_A (wt_d (Q k)) (wt_a (Q k)) i 64) 0 (fun z => nm_r (nI_1 i) (ih (wa, nw) ⟨by omega, ?_⟩)) (fun z => K true wa nw ⟨fun _ => ⟨i, I.1, hi, z⟩, fun _ => rfl⟩)))
    intro n h1 h2
    by_cases e : n = i
    · subst e; omega
    · exact I.2 n h1 (by omega)
end
