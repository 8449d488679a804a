/-! the reference: words, demands, bounds -/
theorem yg_sl3 (n : Nat) : wl_sl n 3 = [false] := by
  have e : wl_sw n 3 = 2 := if_neg (by decide)
  unfold wl_sl
  rw [e]
  decide
theorem yg_sl4 (n : Nat) : wl_sl n 4 = [true] := by
  have e : wl_sw n 4 = 3 := if_neg (by decide)
  unfold wl_sl
  rw [e]
  decide
section
variable {f_depth f_termLength f_demands f_boundCount f_known f_found f_least : Int32} {a_sizes a_empties a_firsts a_lasts a_letters a_behinds a_steps a_term a_patterns a_kepts a_signs a_signCounts a_bounds a_firstWords a_sums a_met a_tried a_seen a_apart a_counts a_next : Nat → Int32}
theorem yg_lo {post : Int32 → Prop} {w : Nat} {x : Int32} (hx : x = nI w) (hw : w < 15) (K : post (nI (wl_ln (w + 1)))) : wpY_lengthOf post (f_depth, f_termLength, f_demands, f_boundCount, f_known, f_found, f_least, a_sizes, a_empties, a_firsts, a_lasts, a_letters, a_behinds, a_steps, a_term, a_patterns, a_kepts, a_signs, a_signCounts, a_bounds, a_firstWords, a_sums, a_met, a_tried, a_seen, a_apart, a_counts, a_next) x := by
  subst hx
  unfold wl_ln at K
  refine pk_eq w 0 (fun z => ?_) (fun z => pk_le 3 w (fun z2 => pk_le 7 w (fun z3 => ?_) (fun z3 => ?_)) (fun z2 => ?_))
  · rw [if_pos (by omega)] at K; exact K
  · rw [if_neg (by omega), if_neg (by omega), if_neg (by omega)] at K; exact K
  · rw [if_neg (by omega), if_neg (by omega), if_pos (by omega)] at K; exact K
  · rw [if_neg (by omega), if_pos (by omega)] at K; exact K
theorem yg_let {post : Int32 → Prop} {w n : Nat} {x : Int32} (hx : x = nI w) (hw : w < 15) (hn : n < wl_ln (w + 1)) (K : post (nI ((w + 1) / 2 ^ (wl_ln (w + 1) - 1 - n) % 2))) : wpY_letterOf post (f_depth, f_termLength, f_demands, f_boundCount, f_known, f_found, f_least, a_sizes, a_empties, a_firsts, a_lasts, a_letters, a_behinds, a_steps, a_term, a_patterns, a_kepts, a_signs, a_signCounts, a_bounds, a_firstWords, a_sums, a_met, a_tried, a_seen, a_apart, a_counts, a_next) x (nI n) := by
  unfold wpY_letterOf
  refine yg_lo hx hw ?_
  subst hx
  have h3 := wl_ln_3 (w + 1)
  obtain ⟨l, hl⟩ : ∃ l, wl_ln (w + 1) = l + 1 := ⟨wl_ln (w + 1) - 1, by omega⟩
  rw [hl] at K hn h3 ⊢
  rw [nI_pred, pk_sub (by omega), nI_1, wr_bit (by omega) (by omega)]
  exact K
variable {Q : Nat → ws_Pat} {k : Nat}
theorem yg_read {post : Int32 → Prop} {w s : Nat} {x : Int32} (hx : x = nI w) (hk : k < 3) (ok : wt_ok (Q k)) (T : wr_YT Q a_steps) (hw : w < 15) (hs : s < 65) (K : post (nI (ws_run (wt_d (Q k)) (wl_l (wl_ln (w + 1)) (w + 1)) s))) : wpY_read post (f_depth, f_termLength, f_demands, f_boundCount, f_known, f_found, f_least, a_sizes, a_empties, a_firsts, a_lasts, a_letters, a_behinds, a_steps, a_term, a_patterns, a_kepts, a_signs, a_signCounts, a_bounds, a_firstWords, a_sums, a_met, a_tried, a_seen, a_apart, a_counts, a_next) (nI k) (nI s) x := by
  subst hx
  have h3 := wl_ln_3 (w + 1)
  refine pk_loop (fun n i x => wY_read_6 post (nI k) (nI w) f_depth f_termLength f_demands f_boundCount f_known f_found f_least a_sizes a_empties a_firsts a_lasts a_letters a_behinds a_steps a_term a_patterns a_kepts a_signs a_signCounts a_bounds a_firstWords a_sums a_met a_tried a_seen a_apart a_counts a_next n x (nI i)) (fun i x => x = nI (ws_run (wt_d (Q k)) (wl_l i ((w + 1) / 2 ^ (wl_ln (w + 1) - i))) s)) (wl_ln (w + 1)) 0 (nI s) (by omega) rfl ?_ ?_
  · intro n x I
    subst I
    rw [Nat.sub_self, Nat.pow_zero, Nat.div_one, wY_read_6]
    dsimp only
    exact yg_lo rfl hw (br_t (nI_le (Nat.le_refl _) (by omega)) K)
  · intro n i x hi I ih
    subst I
    have hr := wt_run_lt ok (wl_l i ((w + 1) / 2 ^ (wl_ln (w + 1) - i))) s hs
    have hc : (w + 1) / 2 ^ (wl_ln (w + 1) - 1 - i) % 2 < 2 := Nat.mod_lt _ (by omega)
    have t1 := T k hk (2 * ws_run (wt_d (Q k)) (wl_l i ((w + 1) / 2 ^ (wl_ln (w + 1) - i))) s + (w + 1) / 2 ^ (wl_ln (w + 1) - 1 - i) % 2) (by omega)
    rw [show (2 * ws_run (wt_d (Q k)) (wl_l i ((w + 1) / 2 ^ (wl_ln (w + 1) - i))) s + (w + 1) / 2 ^ (wl_ln (w + 1) - 1 - i) % 2) / 2 = ws_run (wt_d (Q k)) (wl_l i ((w + 1) / 2 ^ (wl_ln (w + 1) - i))) s from by omega, show (2 * ws_run (wt_d (Q k)) (wl_l i ((w + 1) / 2 ^ (wl_ln (w + 1) - i))) s + (w + 1) / 2 ^ (wl_ln (w + 1) - 1 - i) % 2) % 2 = (w + 1) / 2 ^ (wl_ln (w + 1) - 1 - i) % 2 from by omega] at t1
    rw [wY_read_6]
    dsimp only
    refine yg_lo rfl hw (br_f (nI_ge hi (by omega)) (yg_let rfl hw hi (wz_ld (256 * k + (2 * ws_run (wt_d (Q k)) (wl_l i ((w + 1) / 2 ^ (wl_ln (w + 1) - i))) s + (w + 1) / 2 ^ (wl_ln (w + 1) - 1 - i) % 2)) _ (nm_r (nI_1 i) (ih _ ?_)) (by omega) ?_ t1)))
    · rw [wl_let (w + 1) hi, ws_run_app]
      rfl
    · rw [show (2 : Int32) = nI 2 from rfl, pk_mul, wz_256, nI_add, Nat.add_assoc]
variable {n dc bc : Nat} {D : Nat → wr_Dem} {B : Nat → Int32}
theorem yg_kept {post : Int32 → Prop} {d : Nat} (hn : n < 3375) (o3 : wt_ok3 Q) (P : wr_YP Q a_sizes a_empties a_firsts a_lasts a_letters a_behinds) (T : wr_YT Q a_steps) (hdc : dc ≤ 6) (hd : d < dc) (ho : (D d).1 < 3 ∧ (D d).2.2.1 ≤ 4 ∧ ∀ i, i < (D d).2.2.1 → (D d).2.2.2 i < 5) (hD : wr_YD dc D a_signs a_signCounts a_patterns a_kepts) (hT : ∀ i, i < 3 → a_tried i = nI (wl_tr n i)) (K : post (wr_b (wr_dok Q D n d))) : wpY_isKept post (f_depth, f_termLength, f_demands, f_boundCount, f_known, f_found, f_least, a_sizes, a_empties, a_firsts, a_lasts, a_letters, a_behinds, a_steps, a_term, a_patterns, a_kepts, a_signs, a_signCounts, a_bounds, a_firstWords, a_sums, a_met, a_tried, a_seen, a_apart, a_counts, a_next) (nI d) := by
  obtain ⟨c1, c2, c3, c4⟩ := hD d hd
  obtain ⟨b1, b2, b3⟩ := ho
  have ok := o3 (D d).1 b1
  refine wz_ld d (nI (D d).1) ?_ (by omega) rfl c2
  refine pk_loop (fun m i x => wY_isKept_13 post (nI d) (nI (D d).1) f_depth f_termLength f_demands f_boundCount f_known f_found f_least a_sizes a_empties a_firsts a_lasts a_letters a_behinds a_steps a_term a_patterns a_kepts a_signs a_signCounts a_bounds a_firstWords a_sums a_met a_tried a_seen a_apart a_counts a_next m x (nI i)) (fun i x => x = nI (ws_run (wt_d (Q (D d).1)) (wl_tl (D d).2.2.2 n i) 64)) (D d).2.2.1 0 64 (by omega) rfl ?_ ?_
  · intro m x I
    subst I
    have hr := wt_run_lt ok (wl_tl (D d).2.2.2 n (D d).2.2.1) 64 (by omega)
    refine wz_in d (br_t (by rw [wz_at d c1]; exact nI_le (Nat.le_refl _) (by omega)) ?_)
    unfold wr_dok wl_dem at K
    refine yd_acc rfl b1 (by omega) (P _ b1) (wz_in d (wz_if1 (D d).2.1 (fun z => wz_if1 _ (fun w => ?_) (fun w => ?_)) (fun z => wz_if _ (fun w => ?_) (fun w => ?_)) (wz_at d c3)))
    · rw [w, z] at K; exact K
    · rw [w, z] at K; exact K
    · rw [w, z] at K; exact K
    · rw [w, z] at K; exact K
  · intro m i x hi I ih
    subst I
    have hr := wt_run_lt ok (wl_tl (D d).2.2.2 n i) 64 (by omega)
    have hs := b3 i hi
    refine wz_in d (br_f (by rw [wz_at d c1]; exact nI_ge hi (by omega)) (wz_ld (4 * d + i) (nI ((D d).2.2.2 i)) (pk_le 3 ((D d).2.2.2 i) (fun z => ?_) (fun z => ?_)) (by omega) (wz_4m d i) (c4 i hi)))
    · have t1 := T (D d).1 b1 (2 * ws_run (wt_d (Q (D d).1)) (wl_tl (D d).2.2.2 n i) 64 + ((D d).2.2.2 i - 3)) (by omega)
      rw [show (2 * ws_run (wt_d (Q (D d).1)) (wl_tl (D d).2.2.2 n i) 64 + ((D d).2.2.2 i - 3)) / 2 = ws_run (wt_d (Q (D d).1)) (wl_tl (D d).2.2.2 n i) 64 from by omega, show (2 * ws_run (wt_d (Q (D d).1)) (wl_tl (D d).2.2.2 n i) 64 + ((D d).2.2.2 i - 3)) % 2 = (D d).2.2.2 i - 3 from by omega] at t1
      refine wz_ld (256 * (D d).1 + (2 * ws_run (wt_d (Q (D d).1)) (wl_tl (D d).2.2.2 n i) 64 + ((D d).2.2.2 i - 3))) _ (nm_r (nI_1 i) (ih _ ?_)) (by omega) ?_ t1
      · rw [wl_tl_s, ws_run_app]
        have e : (D d).2.2.2 i = 3 ∨ (D d).2.2.2 i = 4 := by omega
        rcases e with e | e
        · rw [e, yg_sl3]; rfl
        · rw [e, yg_sl4]; rfl
      · rw [show (2 : Int32) = nI 2 from rfl, pk_mul, wz_256, nI_add, show (3 : Int32) = nI 3 from rfl, pk_sub (by omega)]
        congr 1
        omega
    · refine wz_in ((D d).2.2.2 i) ?_
      refine yg_read (wz_at _ (hT _ z)) b1 ok T (wl_tr_lt hn _) hr (nm_r (nI_1 i) (ih _ ?_))
      rw [wl_tl_s, ws_run_app]
      unfold wl_sl wl_sw
      rw [if_pos z]
def yg_bs (B : Nat → Int32) (n b : Nat) : Nat → Int32
  | 0 => 0
  | i + 1 => yg_bs B n b i + B (4 * b + i) * nI (wl_ln (wl_tr n i + 1))
theorem yg_bnd {post : Int32 → Prop} {b : Nat} (hn : n < 3375) (hbc : bc ≤ 3) (hb : b < bc) (hB : wr_YB bc B a_bounds) (hT : ∀ i, i < 3 → a_tried i = nI (wl_tr n i)) (K : post (wr_b (wr_bok B n b))) : wpY_isBound post (f_depth, f_termLength, f_demands, f_boundCount, f_known, f_found, f_least, a_sizes, a_empties, a_firsts, a_lasts, a_letters, a_behinds, a_steps, a_term, a_patterns, a_kepts, a_signs, a_signCounts, a_bounds, a_firstWords, a_sums, a_met, a_tried, a_seen, a_apart, a_counts, a_next) (nI b) := by
  refine pk_loop (fun m i x => wY_isBound_4 post (nI b) f_depth f_termLength f_demands f_boundCount f_known f_found f_least a_sizes a_empties a_firsts a_lasts a_letters a_behinds a_steps a_term a_patterns a_kepts a_signs a_signCounts a_bounds a_firstWords a_sums a_met a_tried a_seen a_apart a_counts a_next m x (nI i)) (fun i x => x = yg_bs B n b i) 3 0 0 (by omega) rfl ?_ ?_
  · intro m x I
    subst I
    have e3 : (4 : Int32) * nI b + 3 = nI (4 * b + 3) := wz_4m b 3
    have c := hB (4 * b + 3) (by omega)
    have e : yg_bs B n b 3 = B (4 * b) * nI (wl_ln (wl_tr n 0 + 1)) + B (4 * b + 1) * nI (wl_ln (wl_tr n 1 + 1)) + B (4 * b + 2) * nI (wl_ln (wl_tr n 2 + 1)) := by
      show 0 + B (4 * b) * _ + _ + _ = _
      rw [Int32.zero_add]
    refine br_t (nI_le (a := 3) (b := 3) (by omega) (by omega)) (wz_in (4 * b + 3) ?_ (by omega) e3)
    rw [wz_at (4 * b + 3) c e3, e]
    refine br_c (fun z => ?_) (fun z => ?_)
    · have : wr_bok B n b = false := decide_eq_false (Int32.not_le.mpr z)
      rw [this] at K; exact K
    · have : wr_bok B n b = true := decide_eq_true (Int32.not_lt.mp z)
      rw [this] at K; exact K
  · intro m i x hi I ih
    subst I
    refine br_f (nI_ge (b := 3) hi (by omega)) (wz_in (4 * b + i) (wz_in i (yg_lo (wz_at i (hT i hi)) (wl_tr_lt hn i) (nm_r (e' := yg_bs B n b (i + 1)) ?_ (nm_r (nI_1 i) (ih _ rfl))))) (by omega) (wz_4m b i))
    rw [wz_at (4 * b + i) (hB _ (by omega)) (wz_4m b i)]
    rfl
theorem yg_sol {post : Int32 → Prop} (hn : n < 3375) (o3 : wt_ok3 Q) (P : wr_YP Q a_sizes a_empties a_firsts a_lasts a_letters a_behinds) (T : wr_YT Q a_steps) (hdc : dc ≤ 6) (hbc : bc ≤ 3) (ho : ∀ d, d < dc → (D d).1 < 3 ∧ (D d).2.2.1 ≤ 4 ∧ ∀ i, i < (D d).2.2.1 → (D d).2.2.2 i < 5) (hD : wr_YD dc D a_signs a_signCounts a_patterns a_kepts) (hB : wr_YB bc B a_bounds) (hT : ∀ i, i < 3 → a_tried i = nI (wl_tr n i)) (K : post (wr_b (wr_sol Q dc D bc B n))) : wpY_solves post (f_depth, f_termLength, (nI dc), (nI bc), f_known, f_found, f_least, a_sizes, a_empties, a_firsts, a_lasts, a_letters, a_behinds, a_steps, a_term, a_patterns, a_kepts, a_signs, a_signCounts, a_bounds, a_firstWords, a_sums, a_met, a_tried, a_seen, a_apart, a_counts, a_next) := by
  unfold wr_sol at K
  refine pk_loop (fun m b (_ : Unit) => wY_solves_2 post f_depth f_termLength (nI dc) (nI bc) f_known f_found f_least a_sizes a_empties a_firsts a_lasts a_letters a_behinds a_steps a_term a_patterns a_kepts a_signs a_signCounts a_bounds a_firstWords a_sums a_met a_tried a_seen a_apart a_counts a_next m (nI b)) (fun b _ => wl_all (wr_bok B n) b = true) bc 0 () (by omega) rfl ?_ ?_
  · intro m _ I
    rw [I, Bool.true_and] at K
    refine br_t (nI_le (Nat.le_refl _) (by omega)) ?_
    refine pk_loop (fun m d (_ : Unit) => wY_solves_28 post f_depth f_termLength (nI dc) (nI bc) f_known f_found f_least a_sizes a_empties a_firsts a_lasts a_letters a_behinds a_steps a_term a_patterns a_kepts a_signs a_signCounts a_bounds a_firstWords a_sums a_met a_tried a_seen a_apart a_counts a_next m (nI d)) (fun d _ => wl_all (wr_dok Q D n) d = true) dc 0 () (by omega) rfl ?_ ?_
    · intro m _ I2
      rw [I2] at K
      exact br_t (nI_le (Nat.le_refl _) (by omega)) K
    · intro m d _ hd I2 ih
      refine br_f (nI_ge hd (by omega)) (yg_kept hn o3 P T hdc hd (ho d hd) hD hT (wz_if _ (fun z => ?_) (fun z => nm_r (nI_1 d) (ih () ?_))))
      · rw [wl_all_f z dc hd] at K; exact K
      · rw [wl_all_s, I2, z]; rfl
  · intro m b _ hb I ih
    refine br_f (nI_ge hb (by omega)) (yg_bnd hn hbc hb hB hT (wz_if _ (fun z => ?_) (fun z => nm_r (nI_1 b) (ih () ?_))))
    · rw [wl_all_f z bc hb, Bool.false_and] at K; exact K
    · rw [wl_all_s, I, z]; rfl
end
