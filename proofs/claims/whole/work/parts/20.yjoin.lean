/-! the reference: then, or -/
section
variable {f_depth f_termLength f_demands f_boundCount f_known f_found f_least : Int32} {a_sizes a_empties a_firsts a_lasts a_letters a_behinds a_steps a_term a_patterns a_kepts a_signs a_signCounts a_bounds a_firstWords a_sums a_met a_tried a_seen a_apart a_counts a_next : Nat → Int32}
theorem yc_347 {post : Int32 → SY → Prop} {th : Bool} {d : Nat} {p q : ws_Pat} {w a b : Int32} (hd : d + 2 ≤ 5) (hm : wt_m p + wt_m q ≤ 6) (c1 : a_sizes (d + 1) = nI (wt_m q)) (hw : w = wr_b (wt_e (wt_join th p q))) (ha : a = nI (wt_F (wt_join th p q))) (hb : b = nI (wt_L (wt_join th p q))) (h5 : ∀ i, i < wt_m p + wt_m q → a_letters (6 * d + i) = nI (wt_c (wt_join th p q) i) ∧ a_behinds (6 * d + i) = nI (wt_f (wt_join th p q) i)) (K : ∀ sz em fi la : Nat → Int32, wr_YL (wt_join th p q) d sz em fi la a_letters a_behinds → (∀ s, s ≠ d → sz s = a_sizes s ∧ em s = a_empties s ∧ fi s = a_firsts s ∧ la s = a_lasts s) → post (nI (d + 1)) ((nI (d + 1)), f_termLength, f_demands, f_boundCount, f_known, f_found, f_least, sz, em, fi, la, a_letters, a_behinds, a_steps, a_term, a_patterns, a_kepts, a_signs, a_signCounts, a_bounds, a_firstWords, a_sums, a_met, a_tried, a_seen, a_apart, a_counts, a_next)) : wY_join_347 post (nI d) (nI (d + 1)) (nI (wt_m p)) a b w (nI (d + 2)) f_termLength f_demands f_boundCount f_known f_found f_least a_sizes a_empties a_firsts a_lasts a_letters a_behinds a_steps a_term a_patterns a_kepts a_signs a_signCounts a_bounds a_firstWords a_sums a_met a_tried a_seen a_apart a_counts a_next := by
  refine wz_in (d + 1) (yb_set (d := d) (by omega) rfl w (by rw [hw, wr_b_v]) (nm_r (nI_pred (d + 1)) (K _ _ _ _ ⟨?_, ?_, ?_, ?_, h5⟩ (fun s hs => ⟨pk_un hs, pk_un hs, pk_un hs, pk_un hs⟩))))
  · rw [pk_us, wz_at (d + 1) c1, nI_add]; rfl
  · rw [pk_us, hw]
  · rw [pk_us, ha]
  · rw [pk_us, hb]
theorem yc_291 {post : Int32 → SY → Prop} {th : Bool} {d : Nat} {p q : ws_Pat} {a b c : Int32} (hd : d + 2 ≤ 5) (hm : wt_m p + wt_m q ≤ 6) (c1 : a_sizes (d + 1) = nI (wt_m q)) (c2 : a_empties d = wr_b (wt_e p)) (c3 : a_empties (d + 1) = wr_b (wt_e q)) (ha : a = nI (wt_F (wt_join th p q))) (hb : c ||| b = nI (wt_L (wt_join th p q))) (h5 : ∀ i, i < wt_m p + wt_m q → a_letters (6 * d + i) = nI (wt_c (wt_join th p q) i) ∧ a_behinds (6 * d + i) = nI (wt_f (wt_join th p q) i)) (K : ∀ sz em fi la : Nat → Int32, wr_YL (wt_join th p q) d sz em fi la a_letters a_behinds → (∀ s, s ≠ d → sz s = a_sizes s ∧ em s = a_empties s ∧ fi s = a_firsts s ∧ la s = a_lasts s) → post (nI (d + 1)) ((nI (d + 1)), f_termLength, f_demands, f_boundCount, f_known, f_found, f_least, sz, em, fi, la, a_letters, a_behinds, a_steps, a_term, a_patterns, a_kepts, a_signs, a_signCounts, a_bounds, a_firstWords, a_sums, a_met, a_tried, a_seen, a_apart, a_counts, a_next)) : wY_join_291 post (wr_b th) (nI d) (nI (d + 1)) (nI (wt_m p)) a b c (nI (d + 2)) f_termLength f_demands f_boundCount f_known f_found f_least a_sizes a_empties a_firsts a_lasts a_letters a_behinds a_steps a_term a_patterns a_kepts a_signs a_signCounts a_bounds a_firstWords a_sums a_met a_tried a_seen a_apart a_counts a_next := by
  refine nm_r hb (wz_if th (fun z => ?_) (fun z => ?_))
  · subst z
    refine wz_in d (wz_if (wt_e p) (fun w => wz_in (d + 1) (wz_if (wt_e q) (fun w2 => yc_347 hd hm c1 ?_ ha rfl h5 K) (fun w2 => yc_347 hd hm c1 ?_ ha rfl h5 K) (wz_at (d + 1) c3))) (fun w => yc_347 hd hm c1 ?_ ha rfl h5 K) (wz_at d c2))
    · show _ = wr_b (wt_e p || wt_e q); rw [w, w2]; rfl
    · show _ = wr_b (wt_e p || wt_e q); rw [w, w2]; rfl
    · show _ = wr_b (wt_e p || wt_e q); rw [w]; rfl
  · subst z
    refine wz_in d (wz_if (wt_e p) (fun w => yc_347 hd hm c1 ?_ ha rfl h5 K) (fun w => wz_in (d + 1) (wz_if (wt_e q) (fun w2 => yc_347 hd hm c1 ?_ ha rfl h5 K) (fun w2 => yc_347 hd hm c1 ?_ ha rfl h5 K) (wz_at (d + 1) c3))) (wz_at d c2))
    · show _ = wr_b (wt_e p && wt_e q); rw [w]; rfl
    · show _ = wr_b (wt_e p && wt_e q); rw [w, w2]; rfl
    · show _ = wr_b (wt_e p && wt_e q); rw [w, w2]; rfl
theorem yc_263 {post : Int32 → SY → Prop} {th : Bool} {d : Nat} {p q : ws_Pat} {a b : Int32} (hd : d + 2 ≤ 5) (hm : wt_m p + wt_m q ≤ 6) (c1 : a_sizes (d + 1) = nI (wt_m q)) (c2 : a_empties d = wr_b (wt_e p)) (c3 : a_empties (d + 1) = wr_b (wt_e q)) (c4 : a_lasts d = nI (wt_L p)) (ha : b ||| a = nI (wt_F (wt_join th p q))) (h5 : ∀ i, i < wt_m p + wt_m q → a_letters (6 * d + i) = nI (wt_c (wt_join th p q) i) ∧ a_behinds (6 * d + i) = nI (wt_f (wt_join th p q) i)) (K : ∀ sz em fi la : Nat → Int32, wr_YL (wt_join th p q) d sz em fi la a_letters a_behinds → (∀ s, s ≠ d → sz s = a_sizes s ∧ em s = a_empties s ∧ fi s = a_firsts s ∧ la s = a_lasts s) → post (nI (d + 1)) ((nI (d + 1)), f_termLength, f_demands, f_boundCount, f_known, f_found, f_least, sz, em, fi, la, a_letters, a_behinds, a_steps, a_term, a_patterns, a_kepts, a_signs, a_signCounts, a_bounds, a_firstWords, a_sums, a_met, a_tried, a_seen, a_apart, a_counts, a_next)) : wY_join_263 post (wr_b th) (nI d) (nI (d + 1)) (nI (wt_m p)) (nI (wt_L q * 2 ^ wt_m p)) a b (nI (d + 2)) f_termLength f_demands f_boundCount f_known f_found f_least a_sizes a_empties a_firsts a_lasts a_letters a_behinds a_steps a_term a_patterns a_kepts a_signs a_signCounts a_bounds a_firstWords a_sums a_met a_tried a_seen a_apart a_counts a_next := by
  have long : (th = false ∨ wt_e q = true) → wY_join_281 post (wr_b th) (nI d) (nI (d + 1)) (nI (wt_m p)) (nI (wt_F (wt_join th p q))) (nI (wt_L q * 2 ^ wt_m p)) (nI (d + 2)) f_termLength f_demands f_boundCount f_known f_found f_least a_sizes a_empties a_firsts a_lasts a_letters a_behinds a_steps a_term a_patterns a_kepts a_signs a_signCounts a_bounds a_firstWords a_sums a_met a_tried a_seen a_apart a_counts a_next := by
    intro z
    refine wz_in d (yc_291 hd hm c1 c2 c3 rfl ?_ h5 K)
    rw [wz_at d c4, wr_or]
    show _ = nI (_ ||| (if _ then _ else _))
    rw [if_pos z]
  refine nm_r ha (wz_if th (fun z => long (Or.inl z)) (fun z => wz_in (d + 1) (wz_if (wt_e q) (fun w => yc_291 hd hm c1 c2 c3 rfl ?_ h5 K) (fun w => long (Or.inr w)) (wz_at (d + 1) c3))))
  rw [show (0 : Int32) = nI 0 from rfl, wr_or]
  show _ = nI (_ ||| (if _ then _ else _))
  rw [if_neg (fun y => by rcases y with y | y <;> simp [z, w] at y)]
theorem yc_join {post : Int32 → SY → Prop} {th : Bool} {d : Nat} {p q : ws_Pat} (hd : d + 2 ≤ 5) (hp : wt_ok p) (hq : wt_ok q) (hm : wt_m p + wt_m q ≤ 6) (L : wr_YL p d a_sizes a_empties a_firsts a_lasts a_letters a_behinds) (L' : wr_YL q (d + 1) a_sizes a_empties a_firsts a_lasts a_letters a_behinds) (K : ∀ sz em fi la le be : Nat → Int32, wr_YL (wt_join th p q) d sz em fi la le be → yb_F d a_sizes a_empties a_firsts a_lasts a_letters a_behinds sz em fi la le be → post (nI (d + 1)) ((nI (d + 1)), f_termLength, f_demands, f_boundCount, f_known, f_found, f_least, sz, em, fi, la, le, be, a_steps, a_term, a_patterns, a_kepts, a_signs, a_signCounts, a_bounds, a_firstWords, a_sums, a_met, a_tried, a_seen, a_apart, a_counts, a_next)) : wpY_join post ((nI (d + 2)), f_termLength, f_demands, f_boundCount, f_known, f_found, f_least, a_sizes, a_empties, a_firsts, a_lasts, a_letters, a_behinds, a_steps, a_term, a_patterns, a_kepts, a_signs, a_signCounts, a_bounds, a_firstWords, a_sums, a_met, a_tried, a_seen, a_apart, a_counts, a_next) (wr_b th) := by
  obtain ⟨c1, c2, c3, c4, c5⟩ := L
  obtain ⟨d1, d2, d3, d4, d5⟩ := L'
  have e1 : nI (d + 2) - 2 = nI d := pk_sub (a := d + 2) (b := 2) (by omega)
  have e2 : nI (d + 2) - 1 = nI (d + 1) := nI_pred (d + 1)
  have h6 := wt_p6 hp
  have h6' := wt_p6 hq
  have hsh : ∀ x, x < 64 → x * 2 ^ wt_m p < 2 ^ 32 := fun x hx => Nat.lt_of_le_of_lt (Nat.mul_le_mul (Nat.le_of_lt hx) h6) (by decide)
  have hF := hq.2.1
  have hL := hq.2.2.1
  have hLp := hp.2.2.1
  refine br_t (nI_le (a := 2) (b := d + 2) (by omega) (by omega)) (nm_r e1 (nm_r e2 (wz_ld d (nI (wt_m p)) (wz_in (d + 1) (br_t ?_ (wz_in (d + 1) (nm_r (e' := nI (wt_F q * 2 ^ wt_m p)) (by rw [wz_at (d + 1) d3, wr_shl (by omega) (hsh _ (by omega))]) (wz_in (d + 1) (nm_r (e' := nI (wt_L q * 2 ^ wt_m p)) (by rw [wz_at (d + 1) d4, wr_shl (by omega) (hsh _ (by omega))]) ?_)))))) (by omega) rfl c1)))
  · rw [wz_at (d + 1) d1, nI_add]
    exact nI_le (b := 6) hm (by decide)
  refine pk_loop (fun n i be => wY_join_75 post (wr_b th) (nI d) (nI (d + 1)) (nI (wt_m p)) (nI (wt_F q * 2 ^ wt_m p)) (nI (wt_L q * 2 ^ wt_m p)) (nI (d + 2)) f_termLength f_demands f_boundCount f_known f_found f_least n (nI i) a_sizes a_empties a_firsts a_lasts a_letters be a_steps a_term a_patterns a_kepts a_signs a_signCounts a_bounds a_firstWords a_sums a_met a_tried a_seen a_apart a_counts a_next) (fun i be => (∀ j, j < i → be (6 * d + j) = nI (wt_f (wt_join th p q) j)) ∧ (∀ j, (∀ r, r < i → j ≠ 6 * d + r) → be j = a_behinds j)) (wt_m p) 0 a_behinds (by omega) ⟨fun j hj => absurd hj (by omega), fun _ _ => rfl⟩ ?_ ?_
  · intro n be I
    refine br_t (nI_le (Nat.le_refl _) (by omega)) ?_
    refine pk_loop (fun n i (s : (Nat → Int32) × (Nat → Int32)) => wY_join_164 post (wr_b th) (nI d) (nI (d + 1)) (nI (wt_m p)) (nI (wt_F q * 2 ^ wt_m p)) (nI (wt_L q * 2 ^ wt_m p)) (nI (d + 2)) f_termLength f_demands f_boundCount f_known f_found f_least n (nI i) a_sizes a_empties a_firsts a_lasts s.1 s.2 a_steps a_term a_patterns a_kepts a_signs a_signCounts a_bounds a_firstWords a_sums a_met a_tried a_seen a_apart a_counts a_next) (fun i s => (∀ j, j < i → s.1 (6 * d + wt_m p + j) = nI (wt_c q j) ∧ s.2 (6 * d + wt_m p + j) = nI (wt_f q j * 2 ^ wt_m p)) ∧ ∀ j, (∀ r, r < i → j ≠ 6 * d + wt_m p + r) → s.1 j = a_letters j ∧ s.2 j = be j) (wt_m q) 0 (a_letters, be) (by omega) ⟨fun j hj => absurd hj (by omega), fun _ _ => ⟨rfl, rfl⟩⟩ ?_ ?_
    · intro n s I2
      have h5 : ∀ i, i < wt_m p + wt_m q → s.1 (6 * d + i) = nI (wt_c (wt_join th p q) i) ∧ s.2 (6 * d + i) = nI (wt_f (wt_join th p q) i) := by
        intro i hi
        by_cases z : i < wt_m p
        · obtain ⟨o1, o2⟩ := I2.2 (6 * d + i) (fun r hr => by omega)
          rw [o1, o2, I.1 i z, wt_join_c th q hp, if_pos z]
          exact ⟨(c5 i z).1, rfl⟩
        · obtain ⟨o1, o2⟩ := I2.1 (i - wt_m p) (by omega)
          rw [show 6 * d + wt_m p + (i - wt_m p) = 6 * d + i from by omega] at o1 o2
          rw [o1, o2, wt_join_c th q hp, if_neg z]
          refine ⟨rfl, ?_⟩
          show _ = nI (if i < wt_m p then _ else _)
          rw [if_neg z]
      have K' : ∀ sz em fi la : Nat → Int32, wr_YL (wt_join th p q) d sz em fi la s.1 s.2 → (∀ s, s ≠ d → sz s = a_sizes s ∧ em s = a_empties s ∧ fi s = a_firsts s ∧ la s = a_lasts s) → post (nI (d + 1)) ((nI (d + 1)), f_termLength, f_demands, f_boundCount, f_known, f_found, f_least, sz, em, fi, la, s.1, s.2, a_steps, a_term, a_patterns, a_kepts, a_signs, a_signCounts, a_bounds, a_firstWords, a_sums, a_met, a_tried, a_seen, a_apart, a_counts, a_next) := by
        intro sz em fi la k1 k2
        refine K sz em fi la s.1 s.2 k1 (yb_F_of (fun s hs => (k2 s hs).1) (fun s hs => (k2 s hs).2.1) (fun s hs => (k2 s hs).2.2.1) (fun s hs => (k2 s hs).2.2.2) (fun j hj => (I2.2 j (fun r hr => ?_)).1) (fun j hj => (I2.2 j (fun r hr => ?_)).2.trans (I.2 j (fun r hr => hj r (by omega)))))
        · have := hj (wt_m p + r) (by omega); omega
        · have := hj (wt_m p + r) (by omega); omega
      refine wz_in (d + 1) (br_t (by rw [wz_at (d + 1) d1]; exact nI_le (Nat.le_refl _) (by omega)) (wz_in d ?_))
      have long : (th = false ∨ wt_e p = true) → wY_join_257 post (wr_b th) (nI d) (nI (d + 1)) (nI (wt_m p)) (nI (wt_F q * 2 ^ wt_m p)) (nI (wt_L q * 2 ^ wt_m p)) (a_firsts (nI d).toNatClampNeg) (nI (d + 2)) f_termLength f_demands f_boundCount f_known f_found f_least a_sizes a_empties a_firsts a_lasts s.1 s.2 a_steps a_term a_patterns a_kepts a_signs a_signCounts a_bounds a_firstWords a_sums a_met a_tried a_seen a_apart a_counts a_next := by
        intro z
        refine yc_263 hd hm d1 c2 d2 c4 ?_ h5 K'
        rw [wz_at d c3, wr_or]
        show _ = nI (_ ||| (if _ then _ else _))
        rw [if_pos z]
      refine wz_if th (fun z => long (Or.inl z)) (fun z => wz_in d (wz_if (wt_e p) (fun w => yc_263 hd hm d1 c2 d2 c4 ?_ h5 K') (fun w => long (Or.inr w)) (wz_at d c2)))
      rw [wz_at d c3, show (0 : Int32) = nI 0 from rfl, wr_or]
      show _ = nI (_ ||| (if _ then _ else _))
      rw [if_neg (fun y => by rcases y with y | y <;> simp [z, w] at y)]
    · intro n i s hi I2 ih
      have e5 : (6 : Int32) * nI d + nI (wt_m p) + nI i = nI (6 * d + wt_m p + i) := by rw [wz_6m, nI_add]
      have o := I2.2 (6 * (d + 1) + i) (fun r hr => by omega)
      have o1 : s.1 (6 * (d + 1) + i) = nI (wt_c q i) := o.1.trans (d5 i hi).1
      have o2 : s.2 (6 * (d + 1) + i) = nI (wt_f q i) := o.2.trans ((I.2 _ (fun r hr => by omega)).trans (d5 i hi).2)
      have hfq := hq.2.2.2.2.2.2.1 i
      refine wz_in (d + 1) (br_f (by rw [wz_at (d + 1) d1]; exact nI_ge hi (by omega)) (wz_in (6 * (d + 1) + i) (wz_st (6 * d + wt_m p + i) (nI (wt_c q i)) (wz_in (6 * (d + 1) + i) (wz_st (6 * d + wt_m p + i) (nI (wt_f q i * 2 ^ wt_m p)) (nm_r (nI_1 i) (ih (upd s.1 (6 * d + wt_m p + i) (nI (wt_c q i)), upd s.2 (6 * d + wt_m p + i) (nI (wt_f q i * 2 ^ wt_m p))) ⟨?_, ?_⟩)) (by omega) e5 ?_) (by omega) (wz_6m (d + 1) i)) (by omega) e5 (wz_at _ o1 (wz_6m (d + 1) i))) (by omega) (wz_6m (d + 1) i)))
      · intro j hj
        dsimp only
        by_cases e : j = i
        · subst e; exact ⟨pk_us, pk_us⟩
        · rw [pk_un (by omega), pk_un (by omega)]; exact I2.1 j (by omega)
      · intro j hj
        dsimp only
        rw [pk_un (hj i (by omega)), pk_un (hj i (by omega))]; exact I2.2 j (fun r hr => hj r (by omega))
      · rw [wz_at _ o2 (wz_6m (d + 1) i), wr_shl (by omega) (hsh _ (by omega))]
  · intro n i be hi I ih
    have e0 : be (6 * d + i) = nI (wt_f p i) := (I.2 _ (fun r hr => by omega)).trans (c5 i hi).2
    have e3 := wz_at (6 * d + i) e0 (wz_6m d i)
    have hj : wt_f (wt_join th p q) i = if th = true ∧ (wt_L p).testBit i = true then wt_f p i ||| wt_F q * 2 ^ wt_m p else wt_f p i := if_pos hi
    have nxt : ∀ v, v = nI (wt_f (wt_join th p q) i) → wY_join_75 post (wr_b th) (nI d) (nI (d + 1)) (nI (wt_m p)) (nI (wt_F q * 2 ^ wt_m p)) (nI (wt_L q * 2 ^ wt_m p)) (nI (d + 2)) f_termLength f_demands f_boundCount f_known f_found f_least n (nI (i + 1)) a_sizes a_empties a_firsts a_lasts a_letters (upd be (6 * d + i) v) a_steps a_term a_patterns a_kepts a_signs a_signCounts a_bounds a_firstWords a_sums a_met a_tried a_seen a_apart a_counts a_next := by
      intro v hv
      refine ih _ ⟨?_, ?_⟩
      · intro j hj
        by_cases e : j = i
        · subst e; rw [pk_us, hv]
        · rw [pk_un (by omega)]; exact I.1 j (by omega)
      · intro j hj
        rw [pk_un (hj i (by omega))]; exact I.2 j (fun q hq => hj q (by omega))
    have no : ¬ (th = true ∧ (wt_L p).testBit i = true) → wY_join_105 post (wY_join_75 post (wr_b th) (nI d) (nI (d + 1)) (nI (wt_m p)) (nI (wt_F q * 2 ^ wt_m p)) (nI (wt_L q * 2 ^ wt_m p)) (nI (d + 2)) f_termLength f_demands f_boundCount f_known f_found f_least n) (wr_b th) (nI d) (nI (d + 1)) (nI (wt_m p)) (nI (wt_F q * 2 ^ wt_m p)) (nI (wt_L q * 2 ^ wt_m p)) (nI i) (nI (d + 2)) f_termLength f_demands f_boundCount f_known f_found f_least a_sizes a_empties a_firsts a_lasts a_letters be a_steps a_term a_patterns a_kepts a_signs a_signCounts a_bounds a_firstWords a_sums a_met a_tried a_seen a_apart a_counts a_next := by
      intro z
      refine br_t rfl (wz_in (6 * d + i) (wz_st (6 * d + i) (nI (wt_f p i)) (nm_r (nI_1 i) (nxt _ ?_)) (by omega) (wz_6m d i) e3) (by omega) (wz_6m d i))
      rw [hj, if_neg z]
    refine br_f (nI_ge hi (by omega)) (wz_if th (fun z => no (fun y => by rw [z] at y; exact absurd y.1 Bool.false_ne_true)) (fun z => wz_in d (wz_tb ((wt_L p).testBit i) (fun w => ?_) (fun w => no (fun y => by rw [w] at y; exact absurd y.2 Bool.false_ne_true)) ?_)))
    · refine br_f (by decide) (wz_in (6 * d + i) (wz_st (6 * d + i) (nI (wt_f p i ||| wt_F q * 2 ^ wt_m p)) (nm_r (nI_1 i) (nxt _ ?_)) (by omega) (wz_6m d i) ?_) (by omega) (wz_6m d i))
      · rw [hj, if_pos ⟨z, w⟩]
      · rw [e3, wr_or]
    · rw [wz_at d c4]
      exact wr_bit1 (by omega) (by omega)
end
