/-! the component: groups of states -/
section
variable {f_stacked f_signCount f_demandCount f_boundCount : Int32} {a_sizes a_withEmpty a_firsts a_lasts a_zeroReaders a_oneReaders a_followers a_placedSizes a_steps a_ends a_ways a_nextWays a_groups a_finerGroups a_reached a_signs a_demandSigns a_demandSignCounts a_demandPatterns a_demandKept a_boundA a_boundB a_boundC a_boundD : Nat → Int32}
def xg_g (ga : Nat → Int32) (g : Nat → Nat) : Prop := ∀ s, s < 195 → ga s = nI (g s) ∧ g s < 195
theorem xg_al {post : Int32 → Prop} {Q : Nat → ws_Pat} (Pl : wr_XP Q a_placedSizes a_steps a_ends) {g : Nat → Nat} (hg : xg_g a_groups g) {s t : Nat} (hs : s < 195) (ht : t < 195) (K1 : ws_alk (wt_xd Q) g s t → post 1) (K0 : ¬ ws_alk (wt_xd Q) g s t → post 0) : wpX_areAlike post (f_stacked, f_signCount, f_demandCount, f_boundCount, a_sizes, a_withEmpty, a_firsts, a_lasts, a_zeroReaders, a_oneReaders, a_followers, a_placedSizes, a_steps, a_ends, a_ways, a_nextWays, a_groups, a_finerGroups, a_reached, a_signs, a_demandSigns, a_demandSignCounts, a_demandPatterns, a_demandKept, a_boundA, a_boundB, a_boundC, a_boundD) (nI s) (nI t) := by
  obtain ⟨p0, p1, -⟩ := Pl.2.2 s hs
  obtain ⟨q0, q1, -⟩ := Pl.2.2 t ht
  have bp0 := wt_xd_lt Pl.1 s false hs
  have bp1 := wt_xd_lt Pl.1 s true hs
  have bq0 := wt_xd_lt Pl.1 t false ht
  have bq1 := wt_xd_lt Pl.1 t true ht
  have ep0 := wz_at (s * 2) p0 (wz_m2 s)
  have ep1 := wz_at (s * 2 + 1) p1 (wz_m21 s)
  have eq0 := wz_at (t * 2) q0 (wz_m2 t)
  have eq1 := wz_at (t * 2 + 1) q1 (wz_m21 t)
  have gs := hg s hs
  have gt := hg t ht
  have gp0 := hg _ bp0
  have gp1 := hg _ bp1
  have gq0 := hg _ bq0
  have gq1 := hg _ bq1
  refine wz_in s (wz_in t (pk_eq (g s) (g t) (fun z1 => ?_) (fun z1 => K0 (fun z => z1 z.1)) (wz_at s gs.1) (wz_at t gt.1)))
  refine wz_in (s * 2) (wz_in (wt_xd Q s false) (wz_in (t * 2) (wz_in (wt_xd Q t false) (pk_eq (g (wt_xd Q s false)) (g (wt_xd Q t false)) (fun z2 => ?_) (fun z2 => K0 (fun z => z2 z.2.1)) (wz_at _ gp0.1 ep0) (wz_at _ gq0.1 eq0)) (by omega) eq0) (by omega) (wz_m2 t)) (by omega) ep0) (by omega) (wz_m2 s)
  refine wz_in (s * 2 + 1) (wz_in (wt_xd Q s true) (wz_in (t * 2 + 1) (wz_in (wt_xd Q t true) (pk_eq (g (wt_xd Q s true)) (g (wt_xd Q t true)) (fun z3 => K1 ⟨z1, z2, z3⟩) (fun z3 => K0 (fun z => z3 z.2.2)) (wz_at _ gp1.1 ep1) (wz_at _ gq1.1 eq1)) (by omega) eq1) (by omega) (wz_m21 t)) (by omega) ep1) (by omega) (wz_m21 s)
theorem xg_11 {post : Int32 → SX → Prop} {J : Int32 → (Nat → Int32) → (Nat → Int32) → (Nat → Int32) → (Nat → Int32) → (Nat → Int32) → (Nat → Int32) → (Nat → Int32) → (Nat → Int32) → (Nat → Int32) → (Nat → Int32) → (Nat → Int32) → (Nat → Int32) → (Nat → Int32) → (Nat → Int32) → (Nat → Int32) → (Nat → Int32) → (Nat → Int32) → (Nat → Int32) → (Nat → Int32) → (Nat → Int32) → (Nat → Int32) → (Nat → Int32) → (Nat → Int32) → (Nat → Int32) → Prop} {Q : Nat → ws_Pat} (Pl : wr_XP Q a_placedSizes a_steps a_ends) {g : Nat → Nat} (hg : xg_g a_groups g) {s : Nat} (hs : s < 195) (K : ∀ l, l ≤ s → ws_alk (wt_xd Q) g l s → (∀ t, t < l → ¬ ws_alk (wt_xd Q) g t s) → J (nI (s + 1)) a_sizes a_withEmpty a_firsts a_lasts a_zeroReaders a_oneReaders a_followers a_placedSizes a_steps a_ends a_ways a_nextWays a_groups (upd a_finerGroups s (nI l)) a_reached a_signs a_demandSigns a_demandSignCounts a_demandPatterns a_demandKept a_boundA a_boundB a_boundC a_boundD) : ∃ n, wX_splitGroups_11 post J (nI s) f_stacked f_signCount f_demandCount f_boundCount a_sizes a_withEmpty a_firsts a_lasts a_zeroReaders a_oneReaders a_followers a_placedSizes a_steps a_ends a_ways a_nextWays a_groups a_finerGroups a_reached a_signs a_demandSigns a_demandSignCounts a_demandPatterns a_demandKept a_boundA a_boundB a_boundC a_boundD n 0 := by
  refine pk_loop (fun n l (_ : Unit) => wX_splitGroups_11 post J (nI s) f_stacked f_signCount f_demandCount f_boundCount a_sizes a_withEmpty a_firsts a_lasts a_zeroReaders a_oneReaders a_followers a_placedSizes a_steps a_ends a_ways a_nextWays a_groups a_finerGroups a_reached a_signs a_demandSigns a_demandSignCounts a_demandPatterns a_demandKept a_boundA a_boundB a_boundC a_boundD n (nI l)) (fun l _ => ∀ t, t < l → ¬ ws_alk (wt_xd Q) g t s) s 0 () (by omega) (fun t ht => absurd ht (by omega)) ?_ ?_
  · intro n _ I
    exact br_t (nI_le (Nat.le_refl _) (by omega)) (wz_st s (nI s) (nm_r (nI_1 s) (K s (Nat.le_refl s) ⟨rfl, rfl, rfl⟩ I)))
  · intro n l _ hl I ih
    refine br_f (nI_ge hl (by omega)) (xg_al Pl hg (by omega) hs (fun z => br_f (by decide) (wz_st s (nI l) (nm_r (nI_1 s) (K l (by omega) z I)))) (fun z => br_t rfl (nm_r (nI_1 l) (ih () ?_))))
    intro t ht
    by_cases e : t = l
    · subst e; exact z
    · exact I t (by omega)
theorem xg_sp {post : Int32 → SX → Prop} {Q : Nat → ws_Pat} (Pl : wr_XP Q a_placedSizes a_steps a_ends) {g : Nat → Nat} (hg : xg_g a_groups g) (K : ∀ (b : Bool) (gr fg : Nat → Int32) (g' : Nat → Nat), xg_g gr g' → ws_spl (wt_xd Q) 195 g g' → (b = true → ∃ s, s < 195 ∧ g s ≠ g' s) → (b = false → ∀ s, s < 195 → g s = g' s) → post (wr_b b) (f_stacked, f_signCount, f_demandCount, f_boundCount, a_sizes, a_withEmpty, a_firsts, a_lasts, a_zeroReaders, a_oneReaders, a_followers, a_placedSizes, a_steps, a_ends, a_ways, a_nextWays, gr, fg, a_reached, a_signs, a_demandSigns, a_demandSignCounts, a_demandPatterns, a_demandKept, a_boundA, a_boundB, a_boundC, a_boundD)) : wpX_splitGroups post (f_stacked, f_signCount, f_demandCount, f_boundCount, a_sizes, a_withEmpty, a_firsts, a_lasts, a_zeroReaders, a_oneReaders, a_followers, a_placedSizes, a_steps, a_ends, a_ways, a_nextWays, a_groups, a_finerGroups, a_reached, a_signs, a_demandSigns, a_demandSignCounts, a_demandPatterns, a_demandKept, a_boundA, a_boundB, a_boundC, a_boundD) := by
  refine pk_loop (fun n s fg => wX_splitGroups_2 post f_stacked f_signCount f_demandCount f_boundCount n (nI s) a_sizes a_withEmpty a_firsts a_lasts a_zeroReaders a_oneReaders a_followers a_placedSizes a_steps a_ends a_ways a_nextWays a_groups fg a_reached a_signs a_demandSigns a_demandSignCounts a_demandPatterns a_demandKept a_boundA a_boundB a_boundC a_boundD) (fun i fg => ∀ s, s < i → ∃ l, fg s = nI l ∧ l ≤ s ∧ ws_alk (wt_xd Q) g l s ∧ ∀ t, t < l → ¬ ws_alk (wt_xd Q) g t s) 195 0 a_finerGroups (by omega) (fun s hs => absurd hs (by omega)) ?_ ?_
  · intro n fg I
    have hf : ∀ s, s < 195 → fg s = nI (fg s).toNatClampNeg ∧ (fg s).toNatClampNeg ≤ s ∧ ws_alk (wt_xd Q) g (fg s).toNatClampNeg s ∧ ∀ t, t < (fg s).toNatClampNeg → ¬ ws_alk (wt_xd Q) g t s := by
      intro s hs
      obtain ⟨l, h1, h2⟩ := I s hs
      have e : (fg s).toNatClampNeg = l := by rw [h1]; exact nI_clamp (by omega)
      rw [e]
      exact ⟨h1, h2⟩
    generalize hg' : (fun s => (fg s).toNatClampNeg) = g' at *
    have hg2 : ∀ s, (fg s).toNatClampNeg = g' s := fun s => by rw [← hg']
    simp only [hg2] at hf
    refine br_t (nI_le (a := 195) (b := 195) (by omega) (by omega)) ?_
    refine pk_loop (fun n i (s : Int32 × (Nat → Int32)) => wX_splitGroups_48 post f_stacked f_signCount f_demandCount f_boundCount n s.1 (nI i) a_sizes a_withEmpty a_firsts a_lasts a_zeroReaders a_oneReaders a_followers a_placedSizes a_steps a_ends a_ways a_nextWays s.2 fg a_reached a_signs a_demandSigns a_demandSignCounts a_demandPatterns a_demandKept a_boundA a_boundB a_boundC a_boundD) (fun i s => ∃ b : Bool, s.1 = wr_b b ∧ (b = true → ∃ t, t < 195 ∧ g t ≠ g' t) ∧ (b = false → ∀ t, t < i → g t = g' t) ∧ (∀ t, t < i → s.2 t = fg t) ∧ ∀ t, i ≤ t → s.2 t = a_groups t) 195 0 (0, a_groups) (by omega) ⟨false, rfl, fun z => absurd z Bool.false_ne_true, fun _ t ht => absurd ht (by omega), fun t ht => absurd ht (by omega), fun _ _ => rfl⟩ ?_ ?_
    · intro n s I2
      obtain ⟨b, h1, h2, h3, h4, _⟩ := I2
      refine br_t (nI_le (a := 195) (b := 195) (by omega) (by omega)) ?_
      rw [h1]
      refine ⟨wr_b_n b, K b s.2 fg g' ?_ ?_ h2 h3⟩
      · intro t ht
        have := hf t ht
        exact ⟨(h4 t ht).trans this.1, by omega⟩
      · intro t ht
        exact (hf t ht).2
    · intro n i s hi I2 ih
      obtain ⟨b, h1, h2, h3, h4, h5⟩ := I2
      have hfi := hf i hi
      have step : ∀ b' : Bool, (b' = true → ∃ t, t < 195 ∧ g t ≠ g' t) → (b' = false → ∀ t, t < i + 1 → g t = g' t) → wX_splitGroups_79 post (wX_splitGroups_48 post f_stacked f_signCount f_demandCount f_boundCount n) (nI i) (wr_b b') f_stacked f_signCount f_demandCount f_boundCount a_sizes a_withEmpty a_firsts a_lasts a_zeroReaders a_oneReaders a_followers a_placedSizes a_steps a_ends a_ways a_nextWays s.2 fg a_reached a_signs a_demandSigns a_demandSignCounts a_demandPatterns a_demandKept a_boundA a_boundB a_boundC a_boundD := by
        intro b' k1 k2
        refine wz_in i (wz_st i (fg i) (nm_r (nI_1 i) (ih (wr_b b', upd s.2 i (fg i)) ⟨b', rfl, k1, k2, ?_, ?_⟩)) (by omega) rfl (wz_at i rfl))
        · intro t ht
          by_cases e : t = i
          · subst e; exact pk_us
          · dsimp only; rw [pk_un e]; exact h4 t (by omega)
        · intro t ht
          dsimp only; rw [pk_un (by omega)]; exact h5 t (by omega)
      refine br_f (nI_ge (b := 195) hi (by omega)) ?_
      rw [h1]
      refine wz_if b (fun z => wz_in i (wz_in i (pk_eq (g i) (g' i) (fun w => step false (fun y => absurd y Bool.false_ne_true) (fun _ t ht => ?_)) (fun w => step true (fun _ => ⟨i, hi, w⟩) (fun y => absurd y.symm Bool.false_ne_true)) (wz_at i ((h5 i (Nat.le_refl i)).trans (hg i hi).1)) (wz_at i hfi.1) (by have := (hg i hi).2; omega) (by omega)))) (fun z => step true (fun _ => h2 z) (fun y => absurd y.symm Bool.false_ne_true))
      by_cases e : t = i
      · subst e; exact w
      · exact h3 z t (by omega)
  · intro n i fg hi I ih
    refine br_f (nI_ge (b := 195) hi (by omega)) (xg_11 Pl hg hi (fun l h1 h2 h3 => ih _ ?_))
    intro s hs
    by_cases e : s = i
    · subst e; exact ⟨l, pk_us, h1, h2, h3⟩
    · rw [pk_un e]; exact I s (by omega)
theorem xg_gs {post : SX → Prop} {Q : Nat → ws_Pat} (Pl : wr_XP Q a_placedSizes a_steps a_ends) (K : ∀ (gr fg : Nat → Int32) (g : Nat → Nat), xg_g gr g → (∀ s t, s < 195 → t < 195 → (g s = g t ↔ ws_eqv (wt_xd Q) (wt_xa Q) s t)) → post (f_stacked, f_signCount, f_demandCount, f_boundCount, a_sizes, a_withEmpty, a_firsts, a_lasts, a_zeroReaders, a_oneReaders, a_followers, a_placedSizes, a_steps, a_ends, a_ways, a_nextWays, gr, fg, a_reached, a_signs, a_demandSigns, a_demandSignCounts, a_demandPatterns, a_demandKept, a_boundA, a_boundB, a_boundC, a_boundD)) : wpX_groupStates post (f_stacked, f_signCount, f_demandCount, f_boundCount, a_sizes, a_withEmpty, a_firsts, a_lasts, a_zeroReaders, a_oneReaders, a_followers, a_placedSizes, a_steps, a_ends, a_ways, a_nextWays, a_groups, a_finerGroups, a_reached, a_signs, a_demandSigns, a_demandSignCounts, a_demandPatterns, a_demandKept, a_boundA, a_boundB, a_boundC, a_boundD) := by
  refine pk_loop (fun n i gr => wX_groupStates_2 post f_stacked f_signCount f_demandCount f_boundCount n (nI i) a_sizes a_withEmpty a_firsts a_lasts a_zeroReaders a_oneReaders a_followers a_placedSizes a_steps a_ends a_ways a_nextWays gr a_finerGroups a_reached a_signs a_demandSigns a_demandSignCounts a_demandPatterns a_demandKept a_boundA a_boundB a_boundC a_boundD) (fun i gr => ∀ s, s < i → gr s = nI (if wt_xa Q s = true then 1 else 0)) 195 0 a_groups (by omega) (fun s hs => absurd hs (by omega)) ?_ ?_
  · intro n gr I
    refine br_t (nI_le (a := 195) (b := 195) (by omega) (by omega)) ?_
    refine pk_loop (fun n r (s : Int32 × (Nat → Int32) × (Nat → Int32)) => wX_groupStates_39 post n s.1 (nI r) f_stacked f_signCount f_demandCount f_boundCount a_sizes a_withEmpty a_firsts a_lasts a_zeroReaders a_oneReaders a_followers a_placedSizes a_steps a_ends a_ways a_nextWays s.2.1 s.2.2 a_reached a_signs a_demandSigns a_demandSignCounts a_demandPatterns a_demandKept a_boundA a_boundB a_boundC a_boundD) (fun r s => ∃ (b : Bool) (g : Nat → Nat), s.1 = wr_b b ∧ xg_g s.2.1 g ∧ ws_G (wt_xd Q) (wt_xa Q) 195 r b g) 196 0 (1, gr, a_finerGroups) (by omega) ?_ ?_ ?_
    · refine ⟨true, fun s => if wt_xa Q s = true then 1 else 0, rfl, fun s hs => ⟨I s hs, ?_⟩, ws_J0 (fun _ _ => rfl), fun _ => Or.inl rfl, fun z => absurd z.symm Bool.false_ne_true⟩
      dsimp only
      split <;> omega
    · intro n s I2
      obtain ⟨b, g, _, h2, h3⟩ := I2
      exact br_t (nI_lt (a := 195) (b := 196) (by omega) (by omega)) (K s.2.1 s.2.2 g h2 (ws_G_e (by omega) h3))
    · intro n r s hr I2 ih
      obtain ⟨b, g, h1, h2, h3⟩ := I2
      refine br_f (nI_nlt (b := r) (a := 195) (by omega) (by omega)) ?_
      rw [h1]
      refine wz_if b (fun z => K s.2.1 s.2.2 g h2 (h3.2.2 z)) (fun z => ?_)
      subst z
      exact xg_sp Pl h2 (fun b' gr' fg' g' k1 k2 k3 k4 => nm_r (nI_1 r) (ih (wr_b b', gr', fg') ⟨b', g', rfl, k1, ws_G_s (by omega) (fun s b hs => wt_xd_lt Pl.1 s b hs) h3 k2 k3 k4⟩))
  · intro n i gr hi I ih
    have hn : ∀ v, v = nI (if wt_xa Q i = true then 1 else 0) → ∀ s, s < i + 1 → upd gr i v s = nI (if wt_xa Q s = true then 1 else 0) := by
      intro v hv s hs
      by_cases e : s = i
      · subst e; rw [pk_us, hv]
      · rw [pk_un e]; exact I s (by omega)
    refine br_f (nI_ge (b := 195) hi (by omega)) (wz_in i (wz_if (wt_xa Q i) (fun z => wz_st i 0 (nm_r (nI_1 i) (ih _ (hn 0 ?_)))) (fun z => wz_st i 1 (nm_r (nI_1 i) (ih _ (hn 1 ?_)))) (wz_at i (Pl.2.2 i hi).2.2)))
    · rw [z]; rfl
    · rw [z]; rfl
end
