/-! the component: many, then, or -/
section
variable {f_stacked f_signCount f_demandCount f_boundCount : Int32} {a_sizes a_withEmpty a_firsts a_lasts a_zeroReaders a_oneReaders a_followers a_placedSizes a_steps a_ends a_ways a_nextWays a_groups a_finerGroups a_reached a_signs a_demandSigns a_demandSignCounts a_demandPatterns a_demandKept a_boundA a_boundB a_boundC a_boundD : Nat → Int32}
theorem xb_af {post : SX → Prop} {s : Nat} (L F : Nat) {x y : Int32} (hx : x = nI L) (hy : y = nI F) (hs : s < 5) (hL : L < 2 ^ 31) (f : Nat → Nat) (hf : ∀ i, i < 6 → a_followers (s * 6 + i) = nI (f i)) (K : ∀ fo : Nat → Int32, (∀ i, i < 6 → fo (s * 6 + i) = nI (if L.testBit i = true then f i ||| F else f i)) → (∀ j, (∀ i, i < 6 → j ≠ s * 6 + i) → fo j = a_followers j) → post (f_stacked, f_signCount, f_demandCount, f_boundCount, a_sizes, a_withEmpty, a_firsts, a_lasts, a_zeroReaders, a_oneReaders, fo, a_placedSizes, a_steps, a_ends, a_ways, a_nextWays, a_groups, a_finerGroups, a_reached, a_signs, a_demandSigns, a_demandSignCounts, a_demandPatterns, a_demandKept, a_boundA, a_boundB, a_boundC, a_boundD)) : wpX_addFollowers post (f_stacked, f_signCount, f_demandCount, f_boundCount, a_sizes, a_withEmpty, a_firsts, a_lasts, a_zeroReaders, a_oneReaders, a_followers, a_placedSizes, a_steps, a_ends, a_ways, a_nextWays, a_groups, a_finerGroups, a_reached, a_signs, a_demandSigns, a_demandSignCounts, a_demandPatterns, a_demandKept, a_boundA, a_boundB, a_boundC, a_boundD) (nI s) x y := by
  subst hx hy
  refine pk_loop (fun n i fo => wX_addFollowers_3 post (nI s) (nI L) (nI F) f_stacked f_signCount f_demandCount f_boundCount n (nI i) a_sizes a_withEmpty a_firsts a_lasts a_zeroReaders a_oneReaders fo a_placedSizes a_steps a_ends a_ways a_nextWays a_groups a_finerGroups a_reached a_signs a_demandSigns a_demandSignCounts a_demandPatterns a_demandKept a_boundA a_boundB a_boundC a_boundD) (fun i fo => (∀ j, j < i → fo (s * 6 + j) = nI (if L.testBit j = true then f j ||| F else f j)) ∧ (∀ j, i ≤ j → j < 6 → fo (s * 6 + j) = nI (f j)) ∧ ∀ j, (∀ i, i < 6 → j ≠ s * 6 + i) → fo j = a_followers j) 6 0 a_followers (by omega) ⟨fun j hj => absurd hj (by omega), fun j _ hj => hf j hj, fun _ _ => rfl⟩ ?_ ?_
  · intro n fo I
    exact br_t (nI_le (a := 6) (b := 6) (by omega) (by omega)) (K fo I.1 I.2.2)
  · intro n i fo hi I ih
    refine br_f (nI_ge (b := 6) hi (by omega)) (wz_tb (L.testBit i) (fun z => ?_) (fun z => ?_) (wr_bit1 (by omega) hL))
    · refine wz_in (s * 6 + i) (wz_st (s * 6 + i) (nI (f i ||| F)) (nm_r (nI_1 i) (ih _ ⟨?_, ?_, ?_⟩)) (by omega) (wz_m6 s i) ?_) (by omega) (wz_m6 s i)
      · intro j hj
        by_cases e : j = i
        · subst e; rw [pk_us, if_pos z]
        · rw [pk_un (by omega)]; exact I.1 j (by omega)
      · intro j h1 h2
        rw [pk_un (by omega)]; exact I.2.1 j (by omega) h2
      · intro j hj
        rw [pk_un (hj i hi)]; exact I.2.2 j hj
      · rw [wz_at (s * 6 + i) (I.2.1 i (Nat.le_refl i) hi) (wz_m6 s i), wr_or]
    · refine nm_r (nI_1 i) (ih _ ⟨?_, ?_, I.2.2⟩)
      · intro j hj
        by_cases e : j = i
        · subst e; rw [if_neg (by rw [z]; exact Bool.false_ne_true)]; exact I.2.1 j (Nat.le_refl j) hi
        · exact I.1 j (by omega)
      · intro j h1 h2
        exact I.2.1 j (by omega) h2
theorem xb_tp {post : SX → Prop} {p q mp mq Z1 Z2 O1 O2 : Nat} (hpq : p < q) (hq : q < 5) (m1 : a_sizes p = nI mp) (m2 : a_sizes q = nI mq) (hm : mp + mq ≤ 6) (f : Nat → Nat) (hf : ∀ i, i < 6 → a_followers (q * 6 + i) = nI (f i)) (hfl : ∀ i, f i < 64) (z1 : a_zeroReaders p = nI Z1) (z2 : a_zeroReaders q = nI Z2) (o1 : a_oneReaders p = nI O1) (o2 : a_oneReaders q = nI O2) (hZ : Z2 < 64) (hO : O2 < 64)
    (K : ∀ fo : Nat → Int32, (∀ i, i < mq → fo (p * 6 + mp + i) = nI (f i * 2 ^ mp)) → (∀ j, (∀ i, i < mq → j ≠ p * 6 + mp + i) → fo j = a_followers j) → post (f_stacked, f_signCount, f_demandCount, f_boundCount, (upd a_sizes p (nI (mp + mq))), a_withEmpty, a_firsts, a_lasts, (upd a_zeroReaders p (nI (Z1 ||| Z2 * 2 ^ mp))), (upd a_oneReaders p (nI (O1 ||| O2 * 2 ^ mp))), fo, a_placedSizes, a_steps, a_ends, a_ways, a_nextWays, a_groups, a_finerGroups, a_reached, a_signs, a_demandSigns, a_demandSignCounts, a_demandPatterns, a_demandKept, a_boundA, a_boundB, a_boundC, a_boundD)) : wpX_takePositions post (f_stacked, f_signCount, f_demandCount, f_boundCount, a_sizes, a_withEmpty, a_firsts, a_lasts, a_zeroReaders, a_oneReaders, a_followers, a_placedSizes, a_steps, a_ends, a_ways, a_nextWays, a_groups, a_finerGroups, a_reached, a_signs, a_demandSigns, a_demandSignCounts, a_demandPatterns, a_demandKept, a_boundA, a_boundB, a_boundC, a_boundD) (nI p) (nI q) := by
  have hpw : 2 ^ mp ≤ 64 := Nat.pow_le_pow_right (n := 2) (by decide) (show mp ≤ 6 by omega)
  have hsh : ∀ x, x < 64 → x * 2 ^ mp < 2 ^ 32 := fun x hx => Nat.lt_of_le_of_lt (Nat.mul_le_mul (Nat.le_of_lt hx) hpw) (by decide)
  refine wz_ld p (nI mp) ?_ (by omega) rfl m1
  refine pk_loop (fun n i fo => wX_takePositions_10 post (nI p) (nI q) (nI mp) f_stacked f_signCount f_demandCount f_boundCount n (nI i) a_sizes a_withEmpty a_firsts a_lasts a_zeroReaders a_oneReaders fo a_placedSizes a_steps a_ends a_ways a_nextWays a_groups a_finerGroups a_reached a_signs a_demandSigns a_demandSignCounts a_demandPatterns a_demandKept a_boundA a_boundB a_boundC a_boundD) (fun i fo => (∀ j, j < i → fo (p * 6 + mp + j) = nI (f j * 2 ^ mp)) ∧ ∀ j, (∀ i, i < mq → j ≠ p * 6 + mp + i) → fo j = a_followers j) mq 0 a_followers (by omega) ⟨fun j hj => absurd hj (by omega), fun _ _ => rfl⟩ ?_ ?_
  · intro n fo I
    refine wz_in q (br_t (by rw [wz_at q m2]; exact nI_le (Nat.le_refl _) (by omega)) ?_)
    refine wz_in p (wz_in q (wz_st p (nI (Z1 ||| Z2 * 2 ^ mp)) (wz_in p (wz_in q (wz_st p (nI (O1 ||| O2 * 2 ^ mp)) (wz_in p (wz_in q (wz_st p (nI (mp + mq)) (K fo I.1 I.2) (by omega) rfl ?_))) (by omega) rfl ?_))) (by omega) rfl ?_))
    · rw [wz_at p m1, wz_at q m2, nI_add]
    · rw [wz_at p o1, wz_at q o2, wr_shl (by omega) (hsh _ hO), wr_or]
    · rw [wz_at p z1, wz_at q z2, wr_shl (by omega) (hsh _ hZ), wr_or]
  · intro n i fo hi I ih
    refine wz_in q (br_f (by rw [wz_at q m2]; exact nI_ge hi (by omega)) ?_)
    have e2 : fo (q * 6 + i) = nI (f i) := (I.2 _ (fun k hk => by omega)).trans (hf i (by omega))
    refine wz_in (q * 6 + i) (nm_r (e' := nI (f i * 2 ^ mp)) (by rw [wz_at (q * 6 + i) e2 (wz_m6 q i), wr_shl (by omega) (hsh _ (hfl i))]) (wz_st (p * 6 + mp + i) (nI (f i * 2 ^ mp)) (nm_r (nI_1 i) (ih _ ⟨?_, ?_⟩)) (by omega) (by rw [show nI p * 6 + nI mp = nI (p * 6 + mp) from wz_m6 p mp, nI_add]) rfl)) (by omega) (wz_m6 q i)
    · intro j hj
      by_cases e : j = i
      · subst e; exact pk_us
      · rw [pk_un (by omega)]; exact I.1 j (by omega)
    · intro j hj
      rw [pk_un (hj i hi)]; exact I.2 j hj
theorem xb_many {post : Int32 → SX → Prop} {d : Nat} {P : Nat → ws_Pat} (hd : d < 5) (S : wr_XS (d + 1) P a_sizes a_withEmpty a_firsts a_lasts a_zeroReaders a_oneReaders a_followers) (K : ∀ we fo : Nat → Int32, wr_XS (d + 1) (wr_P P d (wt_many (P d))) a_sizes we a_firsts a_lasts a_zeroReaders a_oneReaders fo → post (nI (d + 1)) ((nI (d + 1)), f_signCount, f_demandCount, f_boundCount, a_sizes, we, a_firsts, a_lasts, a_zeroReaders, a_oneReaders, fo, a_placedSizes, a_steps, a_ends, a_ways, a_nextWays, a_groups, a_finerGroups, a_reached, a_signs, a_demandSigns, a_demandSignCounts, a_demandPatterns, a_demandKept, a_boundA, a_boundB, a_boundC, a_boundD)) : wpX_many post ((nI (d + 1)), f_signCount, f_demandCount, f_boundCount, a_sizes, a_withEmpty, a_firsts, a_lasts, a_zeroReaders, a_oneReaders, a_followers, a_placedSizes, a_steps, a_ends, a_ways, a_nextWays, a_groups, a_finerGroups, a_reached, a_signs, a_demandSigns, a_demandSignCounts, a_demandPatterns, a_demandKept, a_boundA, a_boundB, a_boundC, a_boundD) := by
  obtain ⟨hok, c1, c2, c3, c4, c5, c6, c7⟩ := S d (by omega)
  have h6 := wt_p6 hok
  refine br_t (nI_le (a := 1) (b := d + 1) (by omega) (by omega)) (nm_r (nI_pred d) (wz_in d (wz_in d ?_)))
  refine xb_af (wt_L (P d)) (wt_F (P d)) (wz_at d c4) (wz_at d c3) hd (by have := hok.2.2.1; omega) (wt_f (P d)) c7 (fun fo h1 h2 => wz_st d 1 (K _ _ ?_))
  intro s hs
  by_cases z : s = d
  · subst z
    rw [wr_Ps]
    exact ⟨wt_many_ok hok, c1, pk_us, c3, c4, c5, c6, h1⟩
  · rw [wr_Pn _ _ z]
    exact wr_XL_c (S s hs) rfl (pk_un z) rfl rfl rfl rfl (fun i hi => h2 _ (fun k hk => by omega))
theorem xb_ref {post : Int32 → Prop} {d m1 m2 : Nat} (hd : d + 2 ≤ 5) (h1 : a_sizes d = nI m1) (h2 : a_sizes (d + 1) = nI m2) (l1 : m1 ≤ 6) (l2 : m2 ≤ 6) (K0 : m1 + m2 ≤ 6 → post 0) (K1 : 6 < m1 + m2 → post (-2)) : wpX_refusalOfPair post ((nI (d + 2)), f_signCount, f_demandCount, f_boundCount, a_sizes, a_withEmpty, a_firsts, a_lasts, a_zeroReaders, a_oneReaders, a_followers, a_placedSizes, a_steps, a_ends, a_ways, a_nextWays, a_groups, a_finerGroups, a_reached, a_signs, a_demandSigns, a_demandSignCounts, a_demandPatterns, a_demandKept, a_boundA, a_boundB, a_boundC, a_boundD) := by
  have e1 : nI (d + 2) - 2 = nI d := pk_sub (a := d + 2) (b := 2) (by omega)
  have e2 : nI (d + 2) - 1 = nI (d + 1) := nI_pred (d + 1)
  refine br_t (nI_le (a := 2) (b := d + 2) (by omega) (by omega)) (wz_in d (wz_in (d + 1) (pk_le (m1 + m2) 6 K0 K1 ?_)  (by omega) e2) (by omega) e1)
  rw [wz_at d h1 e1, wz_at (d + 1) h2 e2, nI_add]
/-- the slot that a pair leaves, and those below -/
theorem xb_fin {th : Bool} {d : Nat} {P : Nat → ws_Pat} {sz we fi la zr on fo fo' : Nat → Int32} {w a b : Int32} (S : wr_XS (d + 2) P sz we fi la zr on fo) (hm : wt_m (P d) + wt_m (P (d + 1)) ≤ 6)
    (hw : w = wr_b (wt_e (wt_join th (P d) (P (d + 1))))) (ha : a = nI (wt_F (wt_join th (P d) (P (d + 1))))) (hb : b = nI (wt_L (wt_join th (P d) (P (d + 1)))))
    (h1 : ∀ i, i < 6 → fo' (d * 6 + i) = nI (wt_f (wt_join th (P d) (P (d + 1))) i)) (h2 : ∀ j, j < d * 6 → fo' j = fo j) :
    wr_XS (d + 1) (wr_P P d (wt_join th (P d) (P (d + 1)))) (upd sz d (nI (wt_m (P d) + wt_m (P (d + 1))))) (upd we d w) (upd fi d a) (upd la d b) (upd zr d (nI (wt_Z (P d) ||| wt_Z (P (d + 1)) * 2 ^ wt_m (P d)))) (upd on d (nI (wt_O (P d) ||| wt_O (P (d + 1)) * 2 ^ wt_m (P d)))) fo' := by
  subst hw ha hb
  intro s hs
  by_cases z : s = d
  · subst z
    rw [wr_Ps]
    exact ⟨wt_join_ok th (S s (by omega)).1 (S (s + 1) (by omega)).1 hm, pk_us, pk_us, pk_us, pk_us, pk_us, pk_us, h1⟩
  · rw [wr_Pn _ _ z]
    exact wr_XL_c (S s (by omega)) (pk_un z) (pk_un z) (pk_un z) (pk_un z) (pk_un z) (pk_un z) (fun i hi => h2 _ (by omega))
theorem xb_fo {d : Nat} {p q : ws_Pat} {fo fo' : Nat → Int32} (hp : wt_ok p) (hq : wt_ok q) (c : ∀ i, i < 6 → fo (d * 6 + i) = nI (wt_f p i)) (h1 : ∀ i, i < wt_m q → fo' (d * 6 + wt_m p + i) = nI (wt_f q i * 2 ^ wt_m p)) (h2 : ∀ j, (∀ i, i < wt_m q → j ≠ d * 6 + wt_m p + i) → fo' j = fo j) : ∀ i, i < 6 → fo' (d * 6 + i) = nI (if i < wt_m p then wt_f p i else wt_f q (i - wt_m p) * 2 ^ wt_m p) := by
  intro i hi
  by_cases z : i < wt_m p
  · rw [if_pos z, h2 _ (fun k hk => by omega)]
    exact c i hi
  · rw [if_neg z]
    by_cases z2 : i < wt_m p + wt_m q
    · have := h1 (i - wt_m p) (by omega)
      rw [show d * 6 + wt_m p + (i - wt_m p) = d * 6 + i from by omega] at this
      exact this
    · rw [h2 _ (fun k hk => by omega), c i hi, hp.2.2.2.2.2.2.2 i (by omega), hq.2.2.2.2.2.2.2 _ (by omega), Nat.zero_mul]
theorem xb_or {post : Int32 → SX → Prop} {d : Nat} {P : Nat → ws_Pat} (hd : d + 2 ≤ 5) (S : wr_XS (d + 2) P a_sizes a_withEmpty a_firsts a_lasts a_zeroReaders a_oneReaders a_followers) (hm : wt_m (P d) + wt_m (P (d + 1)) ≤ 6) (K : ∀ sz we fi la zr on fo : Nat → Int32, wr_XS (d + 1) (wr_P P d (wt_join false (P d) (P (d + 1)))) sz we fi la zr on fo → post (nI (d + 1)) ((nI (d + 1)), f_signCount, f_demandCount, f_boundCount, sz, we, fi, la, zr, on, fo, a_placedSizes, a_steps, a_ends, a_ways, a_nextWays, a_groups, a_finerGroups, a_reached, a_signs, a_demandSigns, a_demandSignCounts, a_demandPatterns, a_demandKept, a_boundA, a_boundB, a_boundC, a_boundD)) : wpX_or post ((nI (d + 2)), f_signCount, f_demandCount, f_boundCount, a_sizes, a_withEmpty, a_firsts, a_lasts, a_zeroReaders, a_oneReaders, a_followers, a_placedSizes, a_steps, a_ends, a_ways, a_nextWays, a_groups, a_finerGroups, a_reached, a_signs, a_demandSigns, a_demandSignCounts, a_demandPatterns, a_demandKept, a_boundA, a_boundB, a_boundC, a_boundD) := by
  obtain ⟨hp, c1, c2, c3, c4, c5, c6, c7⟩ := S d (by omega)
  obtain ⟨hq, d1, d2, d3, d4, d5, d6, d7⟩ := S (d + 1) (by omega)
  have e1 : nI (d + 2) - 2 = nI d := pk_sub (a := d + 2) (b := 2) (by omega)
  have e2 : nI (d + 2) - 1 = nI (d + 1) := nI_pred (d + 1)
  have h6 := wt_p6 hp
  have h6' := wt_p6 hq
  have hsh : ∀ x, x < 64 → x * 2 ^ wt_m (P d) < 2 ^ 32 := fun x hx => Nat.lt_of_le_of_lt (Nat.mul_le_mul (Nat.le_of_lt hx) h6) (by decide)
  unfold wpX_or
  refine xb_ref hd c1 d1 hp.1 hq.1 (fun _ => ?_) (fun z => absurd z (by omega))
  refine br_t rfl (nm_r e1 (nm_r e2 (wz_ld d (nI (wt_m (P d))) ?_ (by omega) rfl c1)))
  refine xb_tp (p := d) (q := d + 1) (by omega) (by omega) c1 d1 hm (wt_f (P (d + 1))) d7 (fun i => Nat.lt_of_lt_of_le (hq.2.2.2.2.2.2.1 i) h6') c5 d5 c6 d6 (Nat.lt_of_lt_of_le hq.2.2.2.1 h6') (Nat.lt_of_lt_of_le hq.2.2.2.2.1 h6') (fun fo h1 h2 => ?_)
  have hF : wt_F (wt_join false (P d) (P (d + 1))) = wt_F (P d) ||| wt_F (P (d + 1)) * 2 ^ wt_m (P d) := by
    show wt_F (P d) ||| (if _ then _ else _) = _
    rw [if_pos (Or.inl rfl)]
  have hL : wt_L (wt_join false (P d) (P (d + 1))) = wt_L (P d) ||| wt_L (P (d + 1)) * 2 ^ wt_m (P d) := by
    show _ ||| (if _ then _ else _) = _
    rw [if_pos (Or.inl rfl), Nat.or_comm]
  have hfo : ∀ i, i < 6 → fo (d * 6 + i) = nI (wt_f (wt_join false (P d) (P (d + 1))) i) := by
    intro i hi
    rw [xb_fo hp hq c7 h1 h2 i hi]
    show _ = nI (if i < wt_m (P d) then (if _ then _ else _) else _)
    by_cases z : i < wt_m (P d)
    · rw [if_pos z, if_pos z, if_neg (fun w => absurd w.1 Bool.false_ne_true)]
    · rw [if_neg z, if_neg z]
  have fin : ∀ w, w = wr_b (wt_e (wt_join false (P d) (P (d + 1)))) → wX_or_103 post w (nI d) (nI (d + 2)) f_signCount f_demandCount f_boundCount (upd a_sizes d (nI (wt_m (P d) + wt_m (P (d + 1))))) a_withEmpty (upd a_firsts d (nI (wt_F (P d) ||| wt_F (P (d + 1)) * 2 ^ wt_m (P d)))) (upd a_lasts d (nI (wt_L (P d) ||| wt_L (P (d + 1)) * 2 ^ wt_m (P d)))) (upd a_zeroReaders d (nI (wt_Z (P d) ||| wt_Z (P (d + 1)) * 2 ^ wt_m (P d)))) (upd a_oneReaders d (nI (wt_O (P d) ||| wt_O (P (d + 1)) * 2 ^ wt_m (P d)))) fo a_placedSizes a_steps a_ends a_ways a_nextWays a_groups a_finerGroups a_reached a_signs a_demandSigns a_demandSignCounts a_demandPatterns a_demandKept a_boundA a_boundB a_boundC a_boundD := by
    intro w hw
    refine wz_st d w (nm_r e2 (K _ _ _ _ _ _ _ (xb_fin (th := false) S hm hw (by rw [hF]) (by rw [hL]) hfo (fun j hj => h2 j (fun k hk => by omega))))) (by omega) rfl (by rw [hw, wr_b_v])
  refine wz_in d (wz_in (d + 1) (wz_st d (nI (wt_F (P d) ||| wt_F (P (d + 1)) * 2 ^ wt_m (P d))) (wz_in d (wz_in (d + 1) (wz_st d (nI (wt_L (P d) ||| wt_L (P (d + 1)) * 2 ^ wt_m (P d))) (wz_in d (wz_if (wt_e (P d)) (fun z => wz_in (d + 1) (wz_if (wt_e (P (d + 1))) (fun z2 => fin 0 ?_) (fun z2 => fin 1 ?_) (wz_at (d + 1) d2))) (fun z => fin 1 ?_) (wz_at d c2))) (by omega) rfl ?_))) (by omega) rfl ?_))
  · show _ = wr_b (wt_e (P d) || wt_e (P (d + 1))); rw [z, z2]; rfl
  · show _ = wr_b (wt_e (P d) || wt_e (P (d + 1))); rw [z, z2]; rfl
  · show _ = wr_b (wt_e (P d) || wt_e (P (d + 1))); rw [z]; rfl
  · rw [wz_at d c4, wz_at (d + 1) d4, wr_shl (by have := hp.1; omega) (hsh _ (Nat.lt_of_lt_of_le hq.2.2.1 h6')), wr_or]
  · rw [wz_at d c3, wz_at (d + 1) d3, wr_shl (by have := hp.1; omega) (hsh _ (Nat.lt_of_lt_of_le hq.2.1 h6')), wr_or]
end
