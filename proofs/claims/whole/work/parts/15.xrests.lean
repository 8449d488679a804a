/-! the component: which states are reached, how many rests -/
def xr_r (ra : Nat → Int32) (R : Nat → Bool) : Prop := ∀ s, s < 195 → ra s = wr_b (R s)
def xr_up (R : Nat → Bool) (t : Nat) : Nat → Bool := fun s => if s = t then true else R s
theorem xr_up_s (R : Nat → Bool) (t : Nat) : xr_up R t t = true := if_pos rfl
theorem xr_up_n (R : Nat → Bool) {t s : Nat} (h : s ≠ t) : xr_up R t s = R s := if_neg h
theorem xr_up_m (R : Nat → Bool) (t : Nat) {s : Nat} (h : R s = true) : xr_up R t s = true := by
  unfold xr_up
  split
  · rfl
  · exact h
theorem xr_up_c {R : Nat → Bool} {t s : Nat} (h : xr_up R t s = true) : s = t ∨ R s = true := by
  unfold xr_up at h
  split at h
  · exact Or.inl (by assumption)
  · exact Or.inr h
theorem xr_r_up {ra : Nat → Int32} {R : Nat → Bool} (h : xr_r ra R) (t : Nat) : xr_r (upd ra t 1) (xr_up R t) := by
  intro s hs
  by_cases z : s = t
  · subst z; rw [pk_us, xr_up_s]; rfl
  · rw [pk_un z, xr_up_n R z]; exact h s hs
section
variable {f_stacked f_signCount f_demandCount f_boundCount : Int32} {a_sizes a_withEmpty a_firsts a_lasts a_zeroReaders a_oneReaders a_followers a_placedSizes a_steps a_ends a_ways a_nextWays a_groups a_finerGroups a_reached a_signs a_demandSigns a_demandSignCounts a_demandPatterns a_demandKept a_boundA a_boundB a_boundC a_boundD : Nat → Int32}
theorem xr_rf {post : Int32 → SX → Prop} {Q : Nat → ws_Pat} (Pl : wr_XP Q a_placedSizes a_steps a_ends) {s0 : Nat} {R0 : Nat → Bool} (h0 : xr_r a_reached R0) (hr : ∀ s, s < 195 → R0 s = true → ws_rch (wt_xd Q) s0 s) (K : ∀ (b : Bool) (ra : Nat → Int32) (R : Nat → Bool), xr_r ra R → (∀ s, s < 195 → R0 s = true → R s = true) → (∀ s, s < 195 → R s = true → ws_rch (wt_xd Q) s0 s) → (b = false → ∀ s c, s < 195 → R s = true → R (wt_xd Q s c) = true) → (b = true → ws_cnt R0 195 < ws_cnt R 195) → post (wr_b b) (f_stacked, f_signCount, f_demandCount, f_boundCount, a_sizes, a_withEmpty, a_firsts, a_lasts, a_zeroReaders, a_oneReaders, a_followers, a_placedSizes, a_steps, a_ends, a_ways, a_nextWays, a_groups, a_finerGroups, ra, a_signs, a_demandSigns, a_demandSignCounts, a_demandPatterns, a_demandKept, a_boundA, a_boundB, a_boundC, a_boundD)) : wpX_reachFurther post (f_stacked, f_signCount, f_demandCount, f_boundCount, a_sizes, a_withEmpty, a_firsts, a_lasts, a_zeroReaders, a_oneReaders, a_followers, a_placedSizes, a_steps, a_ends, a_ways, a_nextWays, a_groups, a_finerGroups, a_reached, a_signs, a_demandSigns, a_demandSignCounts, a_demandPatterns, a_demandKept, a_boundA, a_boundB, a_boundC, a_boundD) := by
  refine pk_loop (fun n i (s : Int32 × (Nat → Int32)) => wX_reachFurther_4 post f_stacked f_signCount f_demandCount f_boundCount n s.1 (nI i) a_sizes a_withEmpty a_firsts a_lasts a_zeroReaders a_oneReaders a_followers a_placedSizes a_steps a_ends a_ways a_nextWays a_groups a_finerGroups s.2 a_signs a_demandSigns a_demandSignCounts a_demandPatterns a_demandKept a_boundA a_boundB a_boundC a_boundD) (fun i s => ∃ (b : Bool) (R : Nat → Bool), s.1 = wr_b b ∧ xr_r s.2 R ∧ (∀ t, t < 195 → R0 t = true → R t = true) ∧ (∀ t, t < 195 → R t = true → ws_rch (wt_xd Q) s0 t) ∧ (b = false → (∀ t, t < 195 → R t = R0 t) ∧ ∀ t c, t < i → R t = true → R (wt_xd Q t c) = true) ∧ (b = true → ∃ t, t < 195 ∧ R t = true ∧ R0 t = false)) 195 0 (0, a_reached) (by omega) ⟨false, R0, rfl, h0, fun _ _ h => h, hr, fun _ => ⟨fun _ _ => rfl, fun t c ht => absurd ht (by omega)⟩, fun z => absurd z Bool.false_ne_true⟩ ?_ ?_
  · intro n s I
    obtain ⟨b, R, h1, h2, h3, h4, h5, h6⟩ := I
    refine br_t (nI_le (a := 195) (b := 195) (by omega) (by omega)) ?_
    rw [h1]
    exact ⟨wr_b_n b, K b s.2 R h2 h3 h4 (fun z t c ht hR => (h5 z).2 t c ht hR) (fun z => ws_cnt_lt R0 R 195 h3 (h6 z))⟩
  · intro n i s hi I ih
    obtain ⟨b, R, h1, h2, h3, h4, h5, h6⟩ := I
    obtain ⟨p0, p1, -⟩ := Pl.2.2 i hi
    have b0 := wt_xd_lt Pl.1 i false hi
    have b1 := wt_xd_lt Pl.1 i true hi
    have e0 := wz_at (i * 2) p0 (wz_m2 i)
    have e1 := wz_at (i * 2 + 1) p1 (wz_m21 i)
    refine br_f (nI_ge (b := 195) hi (by omega)) (wz_in i (wz_if (R i) (fun z => nm_r (nI_1 i) (ih s ⟨b, R, h1, h2, h3, h4, fun y => ⟨(h5 y).1, fun t c ht hR => ?_⟩, h6⟩)) (fun z => ?_) (wz_at i (h2 i hi))))
    · by_cases e : t = i
      · subst e; rw [z] at hR; exact absurd hR Bool.false_ne_true
      · exact (h5 y).2 t c (by omega) hR
    · have step : ∀ b' : Bool, (b' = false → b = false ∧ R (wt_xd Q i false) = true ∧ R (wt_xd Q i true) = true) → (b' = true → b = true ∨ R (wt_xd Q i false) = false ∨ R (wt_xd Q i true) = false) → wX_reachFurther_63 post (wX_reachFurther_4 post f_stacked f_signCount f_demandCount f_boundCount n) (nI i) (wr_b b') f_stacked f_signCount f_demandCount f_boundCount a_sizes a_withEmpty a_firsts a_lasts a_zeroReaders a_oneReaders a_followers a_placedSizes a_steps a_ends a_ways a_nextWays a_groups a_finerGroups s.2 a_signs a_demandSigns a_demandSignCounts a_demandPatterns a_demandKept a_boundA a_boundB a_boundC a_boundD := by
        intro b' k0 k1
        have hu : ∀ t, R t = true → xr_up (xr_up R (wt_xd Q i false)) (wt_xd Q i true) t = true := fun t ht => xr_up_m _ _ (xr_up_m _ _ ht)
        have hd : ∀ c, xr_up (xr_up R (wt_xd Q i false)) (wt_xd Q i true) (wt_xd Q i c) = true := by
          intro c
          cases c
          · exact xr_up_m _ _ (xr_up_s _ _)
          · exact xr_up_s _ _
        refine wz_in (i * 2) (wz_st (wt_xd Q i false) 1 (wz_in (i * 2 + 1) (wz_st (wt_xd Q i true) 1 (nm_r (nI_1 i) (ih (wr_b b', upd (upd s.2 (wt_xd Q i false) 1) (wt_xd Q i true) 1) ⟨b', xr_up (xr_up R (wt_xd Q i false)) (wt_xd Q i true), rfl, xr_r_up (xr_r_up h2 _) _, fun t ht h => hu t (h3 t ht h), ?_, ?_, ?_⟩)) (by omega) e1 rfl) (by omega) (wz_m21 i)) (by omega) e0 rfl) (by omega) (wz_m2 i)
        · intro t ht h
          rcases xr_up_c h with h | h
          · rw [h]; exact ws_rch_s (h4 i hi z) true
          · rcases xr_up_c h with h | h
            · rw [h]; exact ws_rch_s (h4 i hi z) false
            · exact h4 t ht h
        · intro y
          obtain ⟨y0, y1, y2⟩ := k0 y
          have same : ∀ t, xr_up (xr_up R (wt_xd Q i false)) (wt_xd Q i true) t = R t := by
            intro t
            by_cases q1 : t = wt_xd Q i true
            · rw [q1, xr_up_s, y2]
            · rw [xr_up_n _ q1]
              by_cases q0 : t = wt_xd Q i false
              · rw [q0, xr_up_s, y1]
              · rw [xr_up_n _ q0]
          refine ⟨fun t ht => (same t).trans ((h5 y0).1 t ht), fun t c ht hR => ?_⟩
          by_cases e : t = i
          · subst e; exact hd c
          · rw [same] at hR ⊢; exact (h5 y0).2 t c (by omega) hR
        · intro y
          cases hb : b with
          | true =>
            obtain ⟨t, t1, t2, t3⟩ := h6 hb
            exact ⟨t, t1, hu t t2, t3⟩
          | false =>
            have hs := (h5 hb).1
            rcases k1 y with w | w | w
            · rw [hb] at w; exact absurd w Bool.false_ne_true
            · exact ⟨wt_xd Q i false, b0, hd false, (hs _ b0).symm.trans w⟩
            · exact ⟨wt_xd Q i true, b1, hd true, (hs _ b1).symm.trans w⟩
      rw [h1]
      refine wz_if b (fun y => wz_in (i * 2) (wz_in (wt_xd Q i false) (wz_if (R (wt_xd Q i false)) (fun w => step true (fun q => absurd q.symm Bool.false_ne_true) (fun _ => Or.inr (Or.inl w))) (fun w => wz_in (i * 2 + 1) (wz_in (wt_xd Q i true) (wz_if (R (wt_xd Q i true)) (fun w2 => step true (fun q => absurd q.symm Bool.false_ne_true) (fun _ => Or.inr (Or.inr w2))) (fun w2 => step false (fun _ => ⟨y, w, w2⟩) (fun q => absurd q Bool.false_ne_true)) (wz_at _ (h2 _ b1) e1)) (by omega) e1) (by omega) (wz_m21 i)) (wz_at _ (h2 _ b0) e0)) (by omega) e0) (by omega) (wz_m2 i)) (fun y => step true (fun q => absurd q.symm Bool.false_ne_true) (fun _ => Or.inl y))
theorem xr_65 : ∀ k, k < 3 → ws_cnt (fun s => decide (s / 65 = k)) 195 = 65 := by decide +kernel
theorem xr_mr {post : SX → Prop} {Q : Nat → ws_Pat} (Pl : wr_XP Q a_placedSizes a_steps a_ends) {k : Nat} (hk : k < 3) (K : ∀ (ra : Nat → Int32) (R : Nat → Bool), xr_r ra R → (∀ s, s < 195 → (R s = true ↔ ws_rch (wt_xd Q) (k * 65 + 64) s)) → post (f_stacked, f_signCount, f_demandCount, f_boundCount, a_sizes, a_withEmpty, a_firsts, a_lasts, a_zeroReaders, a_oneReaders, a_followers, a_placedSizes, a_steps, a_ends, a_ways, a_nextWays, a_groups, a_finerGroups, ra, a_signs, a_demandSigns, a_demandSignCounts, a_demandPatterns, a_demandKept, a_boundA, a_boundB, a_boundC, a_boundD)) : wpX_markReached post (f_stacked, f_signCount, f_demandCount, f_boundCount, a_sizes, a_withEmpty, a_firsts, a_lasts, a_zeroReaders, a_oneReaders, a_followers, a_placedSizes, a_steps, a_ends, a_ways, a_nextWays, a_groups, a_finerGroups, a_reached, a_signs, a_demandSigns, a_demandSignCounts, a_demandPatterns, a_demandKept, a_boundA, a_boundB, a_boundC, a_boundD) (nI k) := by
  have hd : ∀ s b, s < 195 → wt_xd Q s b < 195 := fun s b hs => wt_xd_lt Pl.1 s b hs
  have clo : ∀ (ra : Nat → Int32) (R : Nat → Bool), xr_r ra R → R (k * 65 + 64) = true → (∀ s, s < 195 → R s = true → ws_rch (wt_xd Q) (k * 65 + 64) s) → (∀ s c, s < 195 → R s = true → R (wt_xd Q s c) = true) → post (f_stacked, f_signCount, f_demandCount, f_boundCount, a_sizes, a_withEmpty, a_firsts, a_lasts, a_zeroReaders, a_oneReaders, a_followers, a_placedSizes, a_steps, a_ends, a_ways, a_nextWays, a_groups, a_finerGroups, ra, a_signs, a_demandSigns, a_demandSignCounts, a_demandPatterns, a_demandKept, a_boundA, a_boundB, a_boundC, a_boundD) := by
    intro ra R h1 h2 h3 h4
    refine K ra R h1 (fun s hs => ⟨h3 s hs, ?_⟩)
    rintro ⟨w, rfl⟩
    exact ws_clo hd h4 w _ (by omega) h2
  have blk : ∀ R : Nat → Bool, (∀ s, s < 195 → R s = true → ws_rch (wt_xd Q) (k * 65 + 64) s) → ws_cnt R 195 ≤ 65 := by
    intro R h
    have := ws_cnt_mono R (fun s => decide (s / 65 = k)) 195 (fun s hs hR => by
      obtain ⟨w, e⟩ := h s hs hR
      rw [Nat.mul_comm, wt_xrun Pl.1 hk w 64 (by omega)] at e
      have := wt_run_lt (Pl.1 k hk) w 64 (by omega)
      exact decide_eq_true (by omega))
    rw [xr_65 k hk] at this
    exact this
  refine pk_loop (fun n i ra => wX_markReached_2 post (nI k) f_stacked f_signCount f_demandCount f_boundCount n (nI i) a_sizes a_withEmpty a_firsts a_lasts a_zeroReaders a_oneReaders a_followers a_placedSizes a_steps a_ends a_ways a_nextWays a_groups a_finerGroups ra a_signs a_demandSigns a_demandSignCounts a_demandPatterns a_demandKept a_boundA a_boundB a_boundC a_boundD) (fun i ra => ∀ s, s < i → ra s = 0) 195 0 a_reached (by omega) (fun s hs => absurd hs (by omega)) ?_ ?_
  · intro n ra I
    refine br_t (nI_le (a := 195) (b := 195) (by omega) (by omega)) (wz_st (k * 65 + 64) 1 ?_ (by omega) (wz_m64 k) rfl)
    have st : xr_r (upd ra (k * 65 + 64) 1) (xr_up (fun _ => false) (k * 65 + 64)) := xr_r_up (fun s hs => I s hs) _
    refine pk_loop (fun n r (s : Int32 × (Nat → Int32)) => wX_markReached_39 post n s.1 (nI r) f_stacked f_signCount f_demandCount f_boundCount a_sizes a_withEmpty a_firsts a_lasts a_zeroReaders a_oneReaders a_followers a_placedSizes a_steps a_ends a_ways a_nextWays a_groups a_finerGroups s.2 a_signs a_demandSigns a_demandSignCounts a_demandPatterns a_demandKept a_boundA a_boundB a_boundC a_boundD) (fun r s => ∃ (b : Bool) (R : Nat → Bool), s.1 = wr_b b ∧ xr_r s.2 R ∧ R (k * 65 + 64) = true ∧ (∀ s, s < 195 → R s = true → ws_rch (wt_xd Q) (k * 65 + 64) s) ∧ (b = true → r + 1 ≤ ws_cnt R 195) ∧ (b = false → ∀ s c, s < 195 → R s = true → R (wt_xd Q s c) = true)) 65 0 (1, upd ra (k * 65 + 64) 1) (by omega) ⟨true, _, rfl, st, xr_up_s _ _, ?_, fun _ => ws_cnt_pos _ 195 (k * 65 + 64) (by omega) (xr_up_s _ _), fun z => absurd z.symm Bool.false_ne_true⟩ ?_ ?_
    · intro s hs h
      rcases xr_up_c h with h | h
      · rw [h]; exact ws_rch_0 _ _
      · exact absurd h Bool.false_ne_true
    · intro n s I2
      obtain ⟨b, R, h1, h2, h3, h4, h5, h6⟩ := I2
      refine br_t (nI_le (a := 65) (b := 65) (by omega) (by omega)) ?_
      cases hb : b with
      | false => exact clo s.2 R h2 h3 h4 (h6 hb)
      | true =>
        have q1 := h5 hb
        have q2 := blk R h4
        omega
    · intro n r s hr I2 ih
      obtain ⟨b, R, h1, h2, h3, h4, h5, h6⟩ := I2
      refine br_f (nI_ge (b := 65) hr (by omega)) ?_
      rw [h1]
      refine wz_if b (fun z => clo s.2 R h2 h3 h4 (h6 z)) (fun z => ?_)
      exact xr_rf Pl h2 h4 (fun b' ra' R' k1 k2 k3 k4 k5 => nm_r (nI_1 r) (ih (wr_b b', ra') ⟨b', R', rfl, k1, k2 _ (by omega) h3, k3, fun y => by have := h5 z; have := k5 y; omega, k4⟩))
  · intro n i ra hi I ih
    refine br_f (nI_ge (b := 195) hi (by omega)) (wz_st i 0 (nm_r (nI_1 i) (ih _ ?_)))
    intro s hs
    by_cases z : s = i
    · subst z; exact pk_us
    · rw [pk_un z]; exact I s (by omega)
end
/-- reached, and with no earlier one that is equal and reached -/
def wf_fr (R : Nat → Bool) (E : Nat → Nat → Bool) (t : Nat) : Bool := R t && wl_all (fun o => !(R o && E o t)) t
theorem wf_fr_0 (R : Nat → Bool) (E : Nat → Nat → Bool) {t : Nat} (h : R t = false) : wf_fr R E t = false := by
  unfold wf_fr
  rw [h, Bool.false_and]
theorem wf_fr_1 (R : Nat → Bool) (E : Nat → Nat → Bool) {t : Nat} {b : Bool} (h : R t = true) (w : wl_all (fun o => !(R o && E o t)) t = b) : wf_fr R E t = b := by
  unfold wf_fr
  rw [h, w, Bool.true_and]
theorem wf_fr_congr {R R' : Nat → Bool} {E E' : Nat → Nat → Bool} {t : Nat} (hR : ∀ o, o ≤ t → R o = R' o) (hE : ∀ o, o < t → E o t = E' o t) : wf_fr R E t = wf_fr R' E' t := by
  unfold wf_fr
  rw [hR t (Nat.le_refl t), wl_all_congr t (fun o ho => by rw [hR o (by omega), hE o ho])]
section
variable {f_stacked f_signCount f_demandCount f_boundCount : Int32} {a_sizes a_withEmpty a_firsts a_lasts a_zeroReaders a_oneReaders a_followers a_placedSizes a_steps a_ends a_ways a_nextWays a_groups a_finerGroups a_reached a_signs a_demandSigns a_demandSignCounts a_demandPatterns a_demandKept a_boundA a_boundB a_boundC a_boundD : Nat → Int32}
theorem xr_if {post : Int32 → Prop} {R : Nat → Bool} {g : Nat → Nat} (hr : xr_r a_reached R) (hg : xg_g a_groups g) {k t : Nat} (hk : k < 3) (ht : t < 65) (K : post (wr_b (wl_all (fun o => !(R (k * 65 + o) && decide (g (k * 65 + o) = g (k * 65 + t)))) t))) : wpX_isFirstReachedOfGroup post (f_stacked, f_signCount, f_demandCount, f_boundCount, a_sizes, a_withEmpty, a_firsts, a_lasts, a_zeroReaders, a_oneReaders, a_followers, a_placedSizes, a_steps, a_ends, a_ways, a_nextWays, a_groups, a_finerGroups, a_reached, a_signs, a_demandSigns, a_demandSignCounts, a_demandPatterns, a_demandKept, a_boundA, a_boundB, a_boundC, a_boundD) (nI k) (nI (k * 65 + t)) := by
  refine nm_r (e' := nI (k * 65 + 0)) (wz_m65 k) ?_
  refine pk_loop (fun n o (_ : Unit) => wX_isFirstReachedOfGroup_5 post (nI (k * 65 + t)) f_stacked f_signCount f_demandCount f_boundCount a_sizes a_withEmpty a_firsts a_lasts a_zeroReaders a_oneReaders a_followers a_placedSizes a_steps a_ends a_ways a_nextWays a_groups a_finerGroups a_reached a_signs a_demandSigns a_demandSignCounts a_demandPatterns a_demandKept a_boundA a_boundB a_boundC a_boundD n (nI (k * 65 + o))) (fun i _ => wl_all (fun o => !(R (k * 65 + o) && decide (g (k * 65 + o) = g (k * 65 + t)))) i = true) t 0 () (by omega) rfl ?_ ?_
  · intro n _ I
    rw [I] at K
    exact br_t (nI_le (Nat.le_refl _) (by omega)) K
  · intro n o _ ho I ih
    have e := hr (k * 65 + o) (by omega)
    have g1 := hg (k * 65 + o) (by omega)
    have g2 := hg (k * 65 + t) (by omega)
    refine br_f (nI_ge (by omega) (by omega)) (wz_in (k * 65 + o) (wz_if (R (k * 65 + o)) (fun z => nm_r (nI_1 _) (ih () ?_)) (fun z => wz_in (k * 65 + o) (wz_in (k * 65 + t) (pk_eq (g (k * 65 + o)) (g (k * 65 + t)) (fun w => ?_) (fun w => nm_r (nI_1 _) (ih () ?_)) (wz_at _ g1.1) (wz_at _ g2.1)))) (wz_at _ e)))
    · rw [wl_all_s, I, z]; rfl
    · rw [wl_all_f (i := o) (by rw [z, decide_eq_true w]; rfl) t ho] at K
      exact K
    · rw [wl_all_s, I, z, decide_eq_false w]; rfl
theorem xr_rests {post : Int32 → SX → Prop} {Q : Nat → ws_Pat} (Pl : wr_XP Q a_placedSizes a_steps a_ends) {k : Nat} (hk : k < 3) (K : ∀ (R : Nat → Bool) (E : Nat → Nat → Bool) (gr fg ra : Nat → Int32), (∀ t, t < 65 → (R t = true ↔ ws_rch (wt_d (Q k)) 64 t)) → (∀ s t, s < 65 → t < 65 → (E s t = true ↔ ws_eqv (wt_d (Q k)) (wt_a (Q k)) s t)) → post (nI (ws_cnt (wf_fr R E) 65)) (f_stacked, f_signCount, f_demandCount, f_boundCount, a_sizes, a_withEmpty, a_firsts, a_lasts, a_zeroReaders, a_oneReaders, a_followers, a_placedSizes, a_steps, a_ends, a_ways, a_nextWays, gr, fg, ra, a_signs, a_demandSigns, a_demandSignCounts, a_demandPatterns, a_demandKept, a_boundA, a_boundB, a_boundC, a_boundD)) : wpX_rests post (f_stacked, f_signCount, f_demandCount, f_boundCount, a_sizes, a_withEmpty, a_firsts, a_lasts, a_zeroReaders, a_oneReaders, a_followers, a_placedSizes, a_steps, a_ends, a_ways, a_nextWays, a_groups, a_finerGroups, a_reached, a_signs, a_demandSigns, a_demandSignCounts, a_demandPatterns, a_demandKept, a_boundA, a_boundB, a_boundC, a_boundD) (nI k) := by
  refine br_f (nI_pos (by omega)) (br_t (nI_lt (b := 3) hk (by decide)) ?_)
  refine xg_gs Pl (fun gr fg g hg he => ?_)
  refine xr_mr Pl hk (fun ra R hr hR => ?_)
  have K' := K (fun t => R (k * 65 + t)) (fun o t => decide (g (k * 65 + o) = g (k * 65 + t))) gr fg ra (by
    intro t ht
    rw [← wt_xrch Pl.1 hk, Nat.mul_comm 65 k]
    exact hR _ (by omega)) (by
    intro s t hs ht
    rw [decide_eq_true_eq, he _ _ (by omega) (by omega), Nat.mul_comm k 65, wt_xeqv Pl.1 hk hk hs ht]
    exact Iff.rfl)
  refine nm_r (e' := nI (k * 65 + 0)) (wz_m65 k) ?_
  have e1 : (nI k + 1) * 65 = nI ((k + 1) * 65) := by rw [nI_1]; exact wz_m65 (k + 1)
  refine pk_loop (fun n t x => wX_rests_27 post (nI k) f_stacked f_signCount f_demandCount f_boundCount a_sizes a_withEmpty a_firsts a_lasts a_zeroReaders a_oneReaders a_followers a_placedSizes a_steps a_ends a_ways a_nextWays gr fg ra a_signs a_demandSigns a_demandSignCounts a_demandPatterns a_demandKept a_boundA a_boundB a_boundC a_boundD n x (nI (k * 65 + t))) (fun t x => x = nI (ws_cnt (wf_fr (fun t => R (k * 65 + t)) (fun o t => decide (g (k * 65 + o) = g (k * 65 + t)))) t)) 65 0 0 (by omega) rfl ?_ ?_
  · intro n x I
    subst I
    exact br_t (by rw [e1]; exact nI_le (by omega) (by omega)) K'
  · intro n t x ht I ih
    subst I
    refine br_f (by rw [e1]; exact nI_ge (by omega) (by omega)) (wz_in (k * 65 + t) (wz_if (R (k * 65 + t)) (fun z => nm_r (nI_1 _) (ih _ ?_)) (fun z => ?_) (wz_at _ (hr _ (by omega)))))
    · rw [ws_cnt_s, wf_fr_0 (fun t => R (k * 65 + t)) (fun o t => decide (g (k * 65 + o) = g (k * 65 + t))) z, if_neg Bool.false_ne_true]
    · refine xr_if hr hg hk ht (wz_if _ (fun w => nm_r (nI_1 _) (ih _ ?_)) (fun w => nm_r (nI_1 _) (nm_r (nI_1 _) (ih _ ?_))))
      · rw [ws_cnt_s, wf_fr_1 (fun t => R (k * 65 + t)) (fun o t => decide (g (k * 65 + o) = g (k * 65 + t))) z w, if_neg Bool.false_ne_true]
      · rw [ws_cnt_s, wf_fr_1 (fun t => R (k * 65 + t)) (fun o t => decide (g (k * 65 + o) = g (k * 65 + t))) z w, if_pos rfl]
theorem xr_same {post : Int32 → SX → Prop} {Q : Nat → ws_Pat} (Pl : wr_XP Q a_placedSizes a_steps a_ends) {k j : Nat} (hk : k < 3) (hj : j < 3) (K : ∀ (b : Bool) (gr fg : Nat → Int32), (b = true ↔ ∀ w, wt_a (Q k) (ws_run (wt_d (Q k)) w 64) = wt_a (Q j) (ws_run (wt_d (Q j)) w 64)) → post (wr_b b) (f_stacked, f_signCount, f_demandCount, f_boundCount, a_sizes, a_withEmpty, a_firsts, a_lasts, a_zeroReaders, a_oneReaders, a_followers, a_placedSizes, a_steps, a_ends, a_ways, a_nextWays, gr, fg, a_reached, a_signs, a_demandSigns, a_demandSignCounts, a_demandPatterns, a_demandKept, a_boundA, a_boundB, a_boundC, a_boundD)) : wpX_same post (f_stacked, f_signCount, f_demandCount, f_boundCount, a_sizes, a_withEmpty, a_firsts, a_lasts, a_zeroReaders, a_oneReaders, a_followers, a_placedSizes, a_steps, a_ends, a_ways, a_nextWays, a_groups, a_finerGroups, a_reached, a_signs, a_demandSigns, a_demandSignCounts, a_demandPatterns, a_demandKept, a_boundA, a_boundB, a_boundC, a_boundD) (nI k) (nI j) := by
  refine br_f (nI_pos (by omega)) (br_f (nI_ge (b := 3) hk (by decide)) (br_f (nI_pos (by omega)) (br_t (nI_lt (b := 3) hj (by decide)) ?_)))
  refine xg_gs Pl (fun gr fg g hg he => ?_)
  have h1 := hg (k * 65 + 64) (by omega)
  have h2 := hg (j * 65 + 64) (by omega)
  have h3 := he (k * 65 + 64) (j * 65 + 64) (by omega) (by omega)
  rw [Nat.mul_comm k 65, Nat.mul_comm j 65, wt_xeqv Pl.1 hk hj (by omega) (by omega), Nat.mul_comm 65 k, Nat.mul_comm 65 j] at h3
  refine wz_in (k * 65 + 64) (wz_in (j * 65 + 64) (pk_eq (g (k * 65 + 64)) (g (j * 65 + 64)) (fun z => K true gr fg ⟨fun _ => h3.mp z, fun _ => rfl⟩) (fun z => K false gr fg ⟨fun y => absurd y Bool.false_ne_true, fun y => absurd (h3.mpr y) z⟩) (wz_at _ h1.1 (wz_m64 k)) (wz_at _ h2.1 (wz_m64 j))) (by omega) (wz_m64 j)) (by omega) (wz_m64 k)
end
