/-! the component: words of a trial, bounds, demands -/
theorem xs_wi {post : Int32 → Prop} {n s : Nat} (hn : n < 3375) (hs : s < 5) (K : post (nI (wl_sw n s))) : wpX_wordIn post (nI n) (nI s) := by
  have e : s = 0 ∨ s = 1 ∨ s = 2 ∨ s = 3 ∨ s = 4 := by omega
  rcases e with rfl | rfl | rfl | rfl | rfl
  · refine br_f (by decide) (br_f (by decide) (br_t (by decide) ⟨by decide, ?_⟩))
    rw [show nI n / 225 = nI (n / 225) from pk_div (d := 225) (by omega) (by omega) (by omega), show (1 : Int32) + nI (n / 225) = nI (n / 225 + 1) from by rw [Int32.add_comm]; exact nI_1 _]
    exact K
  · refine br_f (by decide) (br_f (by decide) (br_f (by decide) (br_t (by decide) ⟨by decide, by decide, ?_⟩)))
    rw [show nI n / 15 = nI (n / 15) from pk_div (d := 15) (by omega) (by omega) (by omega), show nI (n / 15) - nI (n / 15) / 15 * 15 = nI (n / 15 % 15) from pk_rem (d := 15) (by omega) (by omega) (by omega), show (1 : Int32) + nI (n / 15 % 15) = nI (n / 15 % 15 + 1) from by rw [Int32.add_comm]; exact nI_1 _]
    exact K
  · refine br_f (by decide) (br_f (by decide) (br_f (by decide) (br_f (by decide) (br_t (by decide) ⟨by decide, ?_⟩))))
    rw [show nI n - nI n / 15 * 15 = nI (n % 15) from pk_rem (d := 15) (by omega) (by omega) (by omega), show (1 : Int32) + nI (n % 15) = nI (n % 15 + 1) from by rw [Int32.add_comm]; exact nI_1 _]
    exact K
  · exact br_f (by decide) (br_f (by decide) (br_f (by decide) (br_f (by decide) (br_f (by decide) (br_t (by decide) K)))))
  · exact br_f (by decide) (br_t (by decide) K)
theorem xs_lo {post : Int32 → Prop} {W : Nat} (hW : W < 16) (K : post (nI (wl_ln W))) : wpX_lengthOf post (nI W) := by
  unfold wl_ln at K
  refine pk_le 2 W (fun z => pk_le 4 W (fun z2 => pk_le 8 W (fun z3 => ?_) (fun z3 => ?_)) (fun z2 => ?_)) (fun z => ?_)
  · rw [if_neg (by omega), if_neg (by omega), if_neg (by omega)] at K; exact K
  · rw [if_neg (by omega), if_neg (by omega), if_pos (by omega)] at K; exact K
  · rw [if_neg (by omega), if_pos (by omega)] at K; exact K
  · rw [if_pos (by omega)] at K; exact K
theorem xs_li {post : Int32 → Prop} {n s : Nat} (hn : n < 3375) (hs : s < 5) (K : post (nI (wl_ln (wl_sw n s)))) : wpX_lengthIn post (nI n) (nI s) := by
  unfold wpX_lengthIn
  exact xs_wi hn hs (xs_lo (wl_sw_in hn hs).2 K)
theorem xs_sm {post : Int32 → Prop} {n : Nat} (hn : n < 3375) (K : post (nI (wl_sm n))) : wpX_sumOfLengths post (nI n) := by
  unfold wpX_sumOfLengths
  refine xs_li (s := 0) hn (by omega) (xs_li (s := 1) hn (by omega) (xs_li (s := 2) hn (by omega) ?_))
  rw [nI_add, nI_add]
  exact K
theorem xs_st {Q : Nat → ws_Pat} {ps st en : Nat → Int32} (Pl : wr_XP Q ps st en) {s c : Nat} (hs : s < 195) (hc : c < 2) : st (s * 2 + c) = nI (wt_xd Q s (decide (c = 1))) := by
  have e : c = 0 ∨ c = 1 := by omega
  rcases e with rfl | rfl
  · exact (Pl.2.2 s hs).1
  · exact (Pl.2.2 s hs).2.1
section
variable {f_stacked f_signCount f_demandCount f_boundCount : Int32} {a_sizes a_withEmpty a_firsts a_lasts a_zeroReaders a_oneReaders a_followers a_placedSizes a_steps a_ends a_ways a_nextWays a_groups a_finerGroups a_reached a_signs a_demandSigns a_demandSignCounts a_demandPatterns a_demandKept a_boundA a_boundB a_boundC a_boundD : Nat → Int32}
theorem xs_kb {post : Int32 → Prop} {n b bc : Nat} {B : Nat → Int32} (hn : n < 3375) (hb : b < bc) (hc : bc ≤ 3) (hB : wr_XB bc B a_boundA a_boundB a_boundC a_boundD) (K : post (wr_b (wr_bok B n b))) : wpX_keepsBound post (f_stacked, f_signCount, f_demandCount, f_boundCount, a_sizes, a_withEmpty, a_firsts, a_lasts, a_zeroReaders, a_oneReaders, a_followers, a_placedSizes, a_steps, a_ends, a_ways, a_nextWays, a_groups, a_finerGroups, a_reached, a_signs, a_demandSigns, a_demandSignCounts, a_demandPatterns, a_demandKept, a_boundA, a_boundB, a_boundC, a_boundD) (nI n) (nI b) := by
  obtain ⟨c1, c2, c3, c4⟩ := hB b hb
  unfold wpX_keepsBound
  refine xs_wi (s := 0) hn (by omega) (xs_wi (s := 1) hn (by omega) (xs_wi (s := 2) hn (by omega) (wz_in b (xs_lo (wl_sw_in hn (by omega)).2 (wz_in b (xs_lo (wl_sw_in hn (by omega)).2 (wz_in b (xs_lo (wl_sw_in hn (by omega)).2 ?_))))))))
  refine nm_r (e' := B (4 * b) * nI (wl_ln (wl_tr n 0 + 1)) + B (4 * b + 1) * nI (wl_ln (wl_tr n 1 + 1)) + B (4 * b + 2) * nI (wl_ln (wl_tr n 2 + 1))) ?_ (wz_in b ?_)
  · rw [wz_at b c1, wz_at b c2, wz_at b c3]; rfl
  · rw [wz_at b c4]
    refine br_c (fun z => ?_) (fun z => ?_)
    · have : wr_bok B n b = false := decide_eq_false (Int32.not_le.mpr z)
      rw [this] at K; exact K
    · have : wr_bok B n b = true := decide_eq_true (Int32.not_lt.mp z)
      rw [this] at K; exact K
theorem xs_iw {post : Int32 → Prop} {Q : Nat → ws_Pat} (Pl : wr_XP Q a_placedSizes a_steps a_ends) {k t len : Nat} (hk : k < 3) (h1 : 2 ^ len ≤ t) (h2 : t < 2 ^ (len + 1)) (hl : len ≤ 12) (K : post (wr_b (wt_a (Q k) (ws_run (wt_d (Q k)) (wl_l len t) 64)))) : wpX_isWordOf post (f_stacked, f_signCount, f_demandCount, f_boundCount, a_sizes, a_withEmpty, a_firsts, a_lasts, a_zeroReaders, a_oneReaders, a_followers, a_placedSizes, a_steps, a_ends, a_ways, a_nextWays, a_groups, a_finerGroups, a_reached, a_signs, a_demandSigns, a_demandSignCounts, a_demandPatterns, a_demandKept, a_boundA, a_boundB, a_boundC, a_boundD) (nI k) (nI t) := by
  have ht : t < 2 ^ 31 := Nat.lt_of_lt_of_le h2 (Nat.pow_le_pow_right (by decide) (by omega))
  have hrun : ∀ w, ws_run (wt_d (Q k)) w 64 < 65 := fun w => wt_run_lt (Pl.1 k hk) w 64 (by omega)
  refine nm_r (e' := nI (k * 65 + 64)) (wz_m64 k) ⟨13, ?_⟩
  refine pk_loopD (fun n e s => wX_isWordOf_12 post (nI t) f_stacked f_signCount f_demandCount f_boundCount a_sizes a_withEmpty a_firsts a_lasts a_zeroReaders a_oneReaders a_followers a_placedSizes a_steps a_ends a_ways a_nextWays a_groups a_finerGroups a_reached a_signs a_demandSigns a_demandSignCounts a_demandPatterns a_demandKept a_boundA a_boundB a_boundC a_boundD n s (nI e + (-1))) (fun e s => e ≤ 12 ∧ s = nI (65 * k + ws_run (wt_d (Q k)) (wl_l (len - e) (t / 2 ^ e)) 64)) ?_ ?_ 12 _ ⟨by omega, ?_⟩
  · intro n s I
    obtain ⟨_, I⟩ := I
    subst I
    have hr := hrun (wl_l (len - 0) (t / 2 ^ 0))
    rw [Nat.sub_zero, Nat.pow_zero, Nat.div_one] at hr ⊢
    have e := wz_at (a := a_ends) _ (Pl.2.2 (65 * k + ws_run (wt_d (Q k)) (wl_l len t) 64) (by omega)).2.2
    rw [wt_xa_k Q hr] at e
    refine br_t (by decide) (wz_in (65 * k + ws_run (wt_d (Q k)) (wl_l len t) 64) ?_ (by omega))
    rw [e]
    exact ⟨wr_b_n _, K⟩
  · intro n i s I ih
    obtain ⟨hi12, I⟩ := I
    subst I
    rw [pk_m1 i]
    have hr := hrun (wl_l (len - (i + 1)) (t / 2 ^ (i + 1)))
    by_cases hi : i < 31
    · refine br_f (nI_pos (by omega)) ?_
      have e1 : nI t >>> ((nI i + 1) &&& 31) = nI (t / 2 ^ (i + 1)) := by
        rw [nI_1]
        by_cases q : i + 1 < 32
        · exact wr_shr q ht
        · omega
      have hdiv : t / 2 ^ (i + 1) ≤ t := Nat.div_le_self _ _
      refine pk_eq (t / 2 ^ (i + 1)) 0 (fun z => nm_e (ih _ ⟨by omega, ?_⟩)) (fun z => ?_) e1
      · rw [wl_dig_n (t / 2 ^ i) (t / 2 ^ (i + 1)) ((wl_dig h1 h2).mp z)]
      · have hlt : i < len := by
          rcases Nat.lt_or_ge i len with q | q
          · exact q
          · exact absurd ((wl_dig h1 h2).mpr q) z
        have hc : t / 2 ^ i % 2 < 2 := Nat.mod_lt _ (by omega)
        have e2 : nI (65 * k + ws_run (wt_d (Q k)) (wl_l (len - (i + 1)) (t / 2 ^ (i + 1))) 64) * 2 + (nI t >>> (nI i &&& 31) &&& 1) = nI ((65 * k + ws_run (wt_d (Q k)) (wl_l (len - (i + 1)) (t / 2 ^ (i + 1))) 64) * 2 + t / 2 ^ i % 2) := by
          rw [wr_bit (by omega) ht, wz_m2, nI_add]
        refine wz_ld _ (nI (65 * k + ws_run (wt_d (Q k)) (wl_l (len - i) (t / 2 ^ i)) 64)) (nm_e (ih _ ⟨by omega, rfl⟩)) (by omega) e2 ?_
        rw [xs_st Pl (by omega) hc, wt_xd_k Q hr, wl_dig_s t hlt, ws_run_app]
        rfl
    · omega
  · rw [show len - 12 = 0 from by omega, Nat.mul_comm 65 k]
    rfl
end
