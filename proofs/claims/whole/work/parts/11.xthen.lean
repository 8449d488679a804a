/-! the component: then, place -/
section
variable {f_stacked f_signCount f_demandCount f_boundCount : Int32} {a_sizes a_withEmpty a_firsts a_lasts a_zeroReaders a_oneReaders a_followers a_placedSizes a_steps a_ends a_ways a_nextWays a_groups a_finerGroups a_reached a_signs a_demandSigns a_demandSignCounts a_demandPatterns a_demandKept a_boundA a_boundB a_boundC a_boundD : Nat → Int32}
theorem xc_then {post : Int32 → SX → Prop} {d : Nat} {P : Nat → ws_Pat} (hd : d + 2 ≤ 5) (S : wr_XS (d + 2) P a_sizes a_withEmpty a_firsts a_lasts a_zeroReaders a_oneReaders a_followers) (hm : wt_m (P d) + wt_m (P (d + 1)) ≤ 6) (K : ∀ sz we fi la zr on fo : Nat → Int32, wr_XS (d + 1) (wr_P P d (wt_join true (P d) (P (d + 1)))) sz we fi la zr on fo → post (nI (d + 1)) ((nI (d + 1)), f_signCount, f_demandCount, f_boundCount, sz, we, fi, la, zr, on, fo, a_placedSizes, a_steps, a_ends, a_ways, a_nextWays, a_groups, a_finerGroups, a_reached, a_signs, a_demandSigns, a_demandSignCounts, a_demandPatterns, a_demandKept, a_boundA, a_boundB, a_boundC, a_boundD)) : wpX_then post ((nI (d + 2)), f_signCount, f_demandCount, f_boundCount, a_sizes, a_withEmpty, a_firsts, a_lasts, a_zeroReaders, a_oneReaders, a_followers, a_placedSizes, a_steps, a_ends, a_ways, a_nextWays, a_groups, a_finerGroups, a_reached, a_signs, a_demandSigns, a_demandSignCounts, a_demandPatterns, a_demandKept, a_boundA, a_boundB, a_boundC, a_boundD) := by
  obtain ⟨hp, c1, c2, c3, c4, c5, c6, c7⟩ := S d (by omega)
  obtain ⟨hq, d1, d2, d3, d4, d5, d6, d7⟩ := S (d + 1) (by omega)
  have e1 : nI (d + 2) - 2 = nI d := pk_sub (a := d + 2) (b := 2) (by omega)
  have e2 : nI (d + 2) - 1 = nI (d + 1) := nI_pred (d + 1)
  have h6 := wt_p6 hp
  have h6' := wt_p6 hq
  have hsh : ∀ x, x < 64 → x * 2 ^ wt_m (P d) < 2 ^ 32 := fun x hx => Nat.lt_of_le_of_lt (Nat.mul_le_mul (Nat.le_of_lt hx) h6) (by decide)
  unfold wpX_then
  refine xb_ref hd c1 d1 hp.1 hq.1 (fun _ => ?_) (fun z => absurd z (by omega))
  refine br_t rfl (nm_r e1 (nm_r e2 (wz_ld d (nI (wt_m (P d))) (wz_in (d + 1) (nm_r (e' := nI (wt_F (P (d + 1)) * 2 ^ wt_m (P d))) (by rw [wz_at (d + 1) d3, wr_shl (by have := hp.1; omega) (hsh _ (Nat.lt_of_lt_of_le hq.2.1 h6'))]) (wz_in (d + 1) (nm_r (e' := nI (wt_L (P (d + 1)) * 2 ^ wt_m (P d))) (by rw [wz_at (d + 1) d4, wr_shl (by have := hp.1; omega) (hsh _ (Nat.lt_of_lt_of_le hq.2.2.1 h6'))]) ?_)))) (by omega) rfl c1)))
  refine xb_tp (p := d) (q := d + 1) (by omega) (by omega) c1 d1 hm (wt_f (P (d + 1))) d7 (fun i => Nat.lt_of_lt_of_le (hq.2.2.2.2.2.2.1 i) h6') c5 d5 c6 d6 (Nat.lt_of_lt_of_le hq.2.2.2.1 h6') (Nat.lt_of_lt_of_le hq.2.2.2.2.1 h6') (fun fo h1 h2 => ?_)
  refine wz_in d ?_
  refine xb_af (wt_L (P d)) (wt_F (P (d + 1)) * 2 ^ wt_m (P d)) (wz_at d c4) rfl (by omega) (by have := hp.2.2.1; omega) _ (xb_fo hp hq c7 h1 h2) (fun fo' h3 h4 => ?_)
  have hfo : ∀ i, i < 6 → fo' (d * 6 + i) = nI (wt_f (wt_join true (P d) (P (d + 1))) i) := by
    intro i hi
    rw [h3 i hi]
    show _ = nI (if i < wt_m (P d) then (if _ ∧ _ then _ else _) else _)
    by_cases z : i < wt_m (P d)
    · rw [if_pos z, if_pos z]
      by_cases z2 : (wt_L (P d)).testBit i = true
      · rw [if_pos z2, if_pos ⟨rfl, z2⟩]
      · rw [if_neg z2, if_neg (fun w => z2 w.2)]
    · rw [if_neg z, if_neg z, Nat.testBit_lt_two_pow (Nat.lt_of_lt_of_le hp.2.2.1 (Nat.pow_le_pow_right (by decide) (by omega))), if_neg Bool.false_ne_true]
  have h5 : ∀ j, j < d * 6 → fo' j = a_followers j := fun j hj => (h4 j (fun k hk => by omega)).trans (h2 j (fun k hk => by omega))
  have fin : ∀ w a b, w = wr_b (wt_e (wt_join true (P d) (P (d + 1)))) → a = nI (wt_F (wt_join true (P d) (P (d + 1)))) → b = nI (wt_L (wt_join true (P d) (P (d + 1)))) → wX_then_164 post w (nI d) (nI (d + 2)) f_signCount f_demandCount f_boundCount (upd a_sizes d (nI (wt_m (P d) + wt_m (P (d + 1))))) a_withEmpty (upd a_firsts d a) (upd a_lasts d b) (upd a_zeroReaders d (nI (wt_Z (P d) ||| wt_Z (P (d + 1)) * 2 ^ wt_m (P d)))) (upd a_oneReaders d (nI (wt_O (P d) ||| wt_O (P (d + 1)) * 2 ^ wt_m (P d)))) fo' a_placedSizes a_steps a_ends a_ways a_nextWays a_groups a_finerGroups a_reached a_signs a_demandSigns a_demandSignCounts a_demandPatterns a_demandKept a_boundA a_boundB a_boundC a_boundD := by
    intro w a b hw ha hb
    exact wz_st d w (nm_r e2 (K _ _ _ _ _ _ _ (xb_fin (th := true) S hm hw ha hb hfo h5))) (by omega) rfl (by rw [hw, wr_b_v])
  have fin2 : ∀ a b, a = nI (wt_F (wt_join true (P d) (P (d + 1)))) → b = nI (wt_L (wt_join true (P d) (P (d + 1)))) → wX_then_135 post (nI d) (nI (d + 1)) b (nI d) (nI (d + 2)) f_signCount f_demandCount f_boundCount (upd a_sizes d (nI (wt_m (P d) + wt_m (P (d + 1))))) a_withEmpty (upd a_firsts d a) a_lasts (upd a_zeroReaders d (nI (wt_Z (P d) ||| wt_Z (P (d + 1)) * 2 ^ wt_m (P d)))) (upd a_oneReaders d (nI (wt_O (P d) ||| wt_O (P (d + 1)) * 2 ^ wt_m (P d)))) fo' a_placedSizes a_steps a_ends a_ways a_nextWays a_groups a_finerGroups a_reached a_signs a_demandSigns a_demandSignCounts a_demandPatterns a_demandKept a_boundA a_boundB a_boundC a_boundD := by
    intro a b ha hb
    refine wz_st d b (wz_in d (wz_if (wt_e (P d)) (fun z => fin 0 a b ?_ ha hb) (fun z => wz_in (d + 1) (wz_if (wt_e (P (d + 1))) (fun z2 => fin 0 a b ?_ ha hb) (fun z2 => fin 1 a b ?_ ha hb) (wz_at (d + 1) d2))) (wz_at d c2)))
    · show _ = wr_b (wt_e (P d) && wt_e (P (d + 1))); rw [z]; rfl
    · show _ = wr_b (wt_e (P d) && wt_e (P (d + 1))); rw [z, z2]; rfl
    · show _ = wr_b (wt_e (P d) && wt_e (P (d + 1))); rw [z, z2]; rfl
  have fin3 : ∀ a, a = nI (wt_F (wt_join true (P d) (P (d + 1)))) → wX_then_106 post (nI d) (nI (d + 1)) (nI (wt_L (P (d + 1)) * 2 ^ wt_m (P d))) a (nI d) (nI (d + 2)) f_signCount f_demandCount f_boundCount (upd a_sizes d (nI (wt_m (P d) + wt_m (P (d + 1))))) a_withEmpty a_firsts a_lasts (upd a_zeroReaders d (nI (wt_Z (P d) ||| wt_Z (P (d + 1)) * 2 ^ wt_m (P d)))) (upd a_oneReaders d (nI (wt_O (P d) ||| wt_O (P (d + 1)) * 2 ^ wt_m (P d)))) fo' a_placedSizes a_steps a_ends a_ways a_nextWays a_groups a_finerGroups a_reached a_signs a_demandSigns a_demandSignCounts a_demandPatterns a_demandKept a_boundA a_boundB a_boundC a_boundD := by
    intro a ha
    refine wz_st d a (wz_in (d + 1) (wz_if (wt_e (P (d + 1))) (fun z => fin2 a _ ha ?_) (fun z => wz_in d (fin2 a _ ha ?_)) (wz_at (d + 1) d2)))
    · show _ = nI (_ ||| (if _ then _ else _))
      rw [if_neg (fun w => by rcases w with w | w <;> simp [z] at w), Nat.or_zero]
    · show _ = nI (_ ||| (if _ then _ else _))
      rw [if_pos (Or.inr z), wz_at d c4, wr_or, Nat.or_comm]
  refine wz_in d (wz_if (wt_e (P d)) (fun z => wz_in d (fin3 _ ?_)) (fun z => wz_in d (fin3 _ ?_)) (wz_at d c2))
  · show _ = nI (_ ||| (if _ then _ else _))
    rw [if_neg (fun w => by rcases w with w | w <;> simp [z] at w), Nat.or_zero, wz_at d c3]
  · show _ = nI (_ ||| (if _ then _ else _))
    rw [if_pos (Or.inr z), wz_at d c3, wr_or]
theorem xc_fo {post : Int32 → Prop} {s t : Nat} (hs : s < 5) (ht : t < 64) (f : Nat → Nat) (hf : ∀ i, i < 6 → a_followers (s * 6 + i) = nI (f i)) (K : post (nI (ws_or 0 f t 6))) : wpX_followersOf post (f_stacked, f_signCount, f_demandCount, f_boundCount, a_sizes, a_withEmpty, a_firsts, a_lasts, a_zeroReaders, a_oneReaders, a_followers, a_placedSizes, a_steps, a_ends, a_ways, a_nextWays, a_groups, a_finerGroups, a_reached, a_signs, a_demandSigns, a_demandSignCounts, a_demandPatterns, a_demandKept, a_boundA, a_boundB, a_boundC, a_boundD) (nI s) (nI t) := by
  refine pk_loop (fun n i x => wX_followersOf_5 post (nI s) (nI t) f_stacked f_signCount f_demandCount f_boundCount a_sizes a_withEmpty a_firsts a_lasts a_zeroReaders a_oneReaders a_followers a_placedSizes a_steps a_ends a_ways a_nextWays a_groups a_finerGroups a_reached a_signs a_demandSigns a_demandSignCounts a_demandPatterns a_demandKept a_boundA a_boundB a_boundC a_boundD n x (nI i)) (fun i x => x = nI (ws_or 0 f t i)) 6 0 0 (by omega) rfl ?_ ?_
  · intro n x I
    subst I
    exact br_t (nI_le (a := 6) (b := 6) (by omega) (by omega)) K
  · intro n i x hi I ih
    subst I
    refine br_f (nI_ge (b := 6) hi (by omega)) (wz_tb (t.testBit i) (fun z => ?_) (fun z => ?_) (wr_bit1 (by omega) (by omega)))
    · refine wz_in (s * 6 + i) (nm_r (e' := nI (ws_or 0 f t (i + 1))) ?_ (nm_r (nI_1 i) (ih _ rfl))) (by omega) (wz_m6 s i)
      rw [wz_at (s * 6 + i) (hf i hi) (wz_m6 s i), wr_or, ws_or_s, if_pos z]
    · refine nm_r (nI_1 i) (ih _ ?_)
      rw [ws_or_s, if_neg (by rw [z]; exact Bool.false_ne_true)]
theorem xc_ps {post : SX → Prop} {k t s : Nat} {p : ws_Pat} (hk : k < 3) (ht : t < 65) (hs : s < 5) (L : wr_XL p s a_sizes a_withEmpty a_firsts a_lasts a_zeroReaders a_oneReaders a_followers) (K : post (f_stacked, f_signCount, f_demandCount, f_boundCount, a_sizes, a_withEmpty, a_firsts, a_lasts, a_zeroReaders, a_oneReaders, a_followers, a_placedSizes, (upd (upd a_steps ((k * 65 + t) * 2) (nI (k * 65 + wt_d p t false))) ((k * 65 + t) * 2 + 1) (nI (k * 65 + wt_d p t true))), (upd a_ends (k * 65 + t) (wr_b (wt_a p t))), a_ways, a_nextWays, a_groups, a_finerGroups, a_reached, a_signs, a_demandSigns, a_demandSignCounts, a_demandPatterns, a_demandKept, a_boundA, a_boundB, a_boundC, a_boundD)) : wpX_placeState post (f_stacked, f_signCount, f_demandCount, f_boundCount, a_sizes, a_withEmpty, a_firsts, a_lasts, a_zeroReaders, a_oneReaders, a_followers, a_placedSizes, a_steps, a_ends, a_ways, a_nextWays, a_groups, a_finerGroups, a_reached, a_signs, a_demandSigns, a_demandSignCounts, a_demandPatterns, a_demandKept, a_boundA, a_boundB, a_boundC, a_boundD) (nI k) (nI t) (nI s) := by
  obtain ⟨hp, c1, c2, c3, c4, c5, c6, c7⟩ := L
  have h6 := wt_p6 hp
  have e1 : nI (k * 65) + nI t = nI (k * 65 + t) := nI_add _ _
  have e2 : (nI (k * 65) + nI t) * 2 = nI ((k * 65 + t) * 2) := by rw [e1]; exact pk_mul _ 2
  have e3 : (nI (k * 65) + nI t) * 2 + 1 = nI ((k * 65 + t) * 2 + 1) := by rw [e2, nI_1]
  have main : ∀ X, X &&& wt_r p false = wt_d p t false → X &&& wt_r p true = wt_d p t true → wX_placeState_27 post (nI t) (nI s) (nI (k * 65)) (nI X) f_stacked f_signCount f_demandCount f_boundCount a_sizes a_withEmpty a_firsts a_lasts a_zeroReaders a_oneReaders a_followers a_placedSizes a_steps a_ends a_ways a_nextWays a_groups a_finerGroups a_reached a_signs a_demandSigns a_demandSignCounts a_demandPatterns a_demandKept a_boundA a_boundB a_boundC a_boundD := by
    intro X hX0 hX1
    refine wz_in s (wz_st ((k * 65 + t) * 2) (nI (k * 65 + wt_d p t false)) (wz_in s (wz_st ((k * 65 + t) * 2 + 1) (nI (k * 65 + wt_d p t true)) (pk_eq t 64 (fun z => ?_) (fun z => ?_)) (by omega) e3 ?_)) (by omega) e2 ?_)
    · refine wz_in s (wz_st (k * 65 + t) (wr_b (wt_a p t)) K (by omega) e1 ?_)
      rw [wz_at s c2, z, wt_a64 hp, wr_b_v]
    · have hb : wt_a p t = decide (t &&& wt_L p ≠ 0) := wt_as p (by omega)
      have hle : t &&& wt_L p ≤ t := Nat.and_le_left
      have hand : nI t &&& a_lasts (nI s).toNatClampNeg = nI (t &&& wt_L p) := by rw [wz_at s c4, nx_and]
      refine wz_in s (pk_eq (t &&& wt_L p) 0 (fun w => ?_) (fun w => ?_) hand)
      · refine wz_st (k * 65 + t) (wr_b (wt_a p t)) K (by omega) e1 ?_
        rw [hb, decide_eq_false (fun y => y w)]; rfl
      · refine wz_st (k * 65 + t) (wr_b (wt_a p t)) K (by omega) e1 ?_
        rw [hb, decide_eq_true w]; rfl
    · rw [wz_at s c6, nx_and, nI_add]; exact congrArg nI (congrArg (k * 65 + ·) hX1)
    · rw [wz_at s c5, nx_and, nI_add]; exact congrArg nI (congrArg (k * 65 + ·) hX0)
  refine nm_r (e' := nI (k * 65)) (wz_m65 k) (pk_eq t 64 (fun z => ?_) (fun z => ?_))
  · refine wz_in s ?_
    rw [wz_at s c3]
    subst z
    exact main (wt_F p) (wt_d64 p false).symm (wt_d64 p true).symm
  · exact xc_fo hs (by omega) (wt_f p) c7 (main _ (wt_ds p (by omega) false).symm (wt_ds p (by omega) true).symm)
end
