/-! the component: place; the start -/
section
variable {f_stacked f_signCount f_demandCount f_boundCount : Int32} {a_sizes a_withEmpty a_firsts a_lasts a_zeroReaders a_oneReaders a_followers a_placedSizes a_steps a_ends a_ways a_nextWays a_groups a_finerGroups a_reached a_signs a_demandSigns a_demandSignCounts a_demandPatterns a_demandKept a_boundA a_boundB a_boundC a_boundD : Nat → Int32}
def xd_I (Q : Nat → ws_Pat) (k t : Nat) (st en : Nat → Int32) : Prop := ∀ s, s < 195 → ¬ (s / 65 = k ∧ t ≤ s % 65) → st (s * 2) = nI (wt_xd Q s false) ∧ st (s * 2 + 1) = nI (wt_xd Q s true) ∧ en s = wr_b (wt_xa Q s)
theorem xd_place {post : Int32 → SX → Prop} {k d : Nat} {P Q : Nat → ws_Pat} (hk : k < 3) (hd : d < 5) (S : wr_XS (d + 1) P a_sizes a_withEmpty a_firsts a_lasts a_zeroReaders a_oneReaders a_followers) (Pl : wr_XP Q a_placedSizes a_steps a_ends) (K : ∀ st en : Nat → Int32, wr_XP (wr_P Q k (P d)) (upd a_placedSizes k (nI (wt_m (P d)))) st en → post (nI d) ((nI d), f_signCount, f_demandCount, f_boundCount, a_sizes, a_withEmpty, a_firsts, a_lasts, a_zeroReaders, a_oneReaders, a_followers, (upd a_placedSizes k (nI (wt_m (P d)))), st, en, a_ways, a_nextWays, a_groups, a_finerGroups, a_reached, a_signs, a_demandSigns, a_demandSignCounts, a_demandPatterns, a_demandKept, a_boundA, a_boundB, a_boundC, a_boundD)) : wpX_place post ((nI (d + 1)), f_signCount, f_demandCount, f_boundCount, a_sizes, a_withEmpty, a_firsts, a_lasts, a_zeroReaders, a_oneReaders, a_followers, a_placedSizes, a_steps, a_ends, a_ways, a_nextWays, a_groups, a_finerGroups, a_reached, a_signs, a_demandSigns, a_demandSignCounts, a_demandPatterns, a_demandKept, a_boundA, a_boundB, a_boundC, a_boundD) (nI k) := by
  have L := S d (by omega)
  refine br_f (nI_pos (by omega)) (br_t (nI_lt (b := 3) hk (by decide)) (br_t (nI_le (a := 1) (b := d + 1) (by omega) (by omega)) (nm_r (nI_pred d) (wz_in d (wz_st k (nI (wt_m (P d))) ?_ (by omega) rfl (wz_at d L.2.1))))))
  refine pk_loop (fun n t (s : (Nat → Int32) × (Nat → Int32)) => wX_place_49 post (nI k) n (nI t) (nI d) f_signCount f_demandCount f_boundCount a_sizes a_withEmpty a_firsts a_lasts a_zeroReaders a_oneReaders a_followers (upd a_placedSizes k (nI (wt_m (P d)))) s.1 s.2 a_ways a_nextWays a_groups a_finerGroups a_reached a_signs a_demandSigns a_demandSignCounts a_demandPatterns a_demandKept a_boundA a_boundB a_boundC a_boundD) (fun t s => xd_I (wr_P Q k (P d)) k t s.1 s.2) 65 0 (a_steps, a_ends) (by omega) ?_ ?_ ?_
  · intro s hs hn
    have e : wr_P Q k (P d) (s / 65) = Q (s / 65) := wr_Pn _ _ (fun z => hn ⟨z, Nat.zero_le _⟩)
    have h := Pl.2.2 s hs
    unfold wt_xd wt_xa at h ⊢
    rw [e]
    exact h
  · intro n s I
    refine br_t (nI_le (a := 65) (b := 65) (by omega) (by omega)) (K s.1 s.2 ⟨?_, ?_, fun t ht => I t ht (by omega)⟩)
    · intro j hj
      by_cases z : j = k
      · subst z; rw [wr_Ps]; exact L.1
      · rw [wr_Pn _ _ z]; exact Pl.1 j hj
    · intro j hj
      by_cases z : j = k
      · subst z; rw [wr_Ps, pk_us]
      · rw [wr_Pn _ _ z, pk_un z]; exact Pl.2.1 j hj
  · intro n t s ht I ih
    refine br_f (nI_ge (b := 65) ht (by omega)) (xc_ps hk ht hd L (nm_r (nI_1 t) (ih (upd (upd s.1 ((k * 65 + t) * 2) (nI (k * 65 + wt_d (P d) t false))) ((k * 65 + t) * 2 + 1) (nI (k * 65 + wt_d (P d) t true)), upd s.2 (k * 65 + t) (wr_b (wt_a (P d) t))) ?_)))
    intro r hr hn
    dsimp only
    by_cases z : r = k * 65 + t
    · subst z
      have e1 : (k * 65 + t) / 65 = k := by omega
      have e2 : (k * 65 + t) % 65 = t := by omega
      unfold wt_xd wt_xa
      rw [e1, e2, wr_Ps, pk_us, pk_us, pk_un (by omega), pk_us, Nat.mul_comm 65 k]
      exact ⟨rfl, rfl, rfl⟩
    · rw [pk_un (by omega), pk_un (by omega), pk_un (by omega), pk_un (by omega), pk_un z]
      exact I r hr (by omega)
theorem xd_e0 (t : Nat) (b : Bool) : wt_d (wt_sim 3) t b = 0 := by
  unfold wt_d
  cases b <;> exact Nat.and_zero _
theorem xd_e1 {t : Nat} (ht : t < 65) : wt_a (wt_sim 3) t = decide (t = 64) := by
  have h : ∀ t, t < 65 → wt_a (wt_sim 3) t = decide (t = 64) := by decide +kernel
  exact h t ht
theorem xd_init {post : SX → Prop} (K : ∀ st en : Nat → Int32, wr_XP (fun _ => wt_sim 3) (fun _ => 0) st en → post (0, 0, 0, 0, (fun _ => 0), (fun _ => 0), (fun _ => 0), (fun _ => 0), (fun _ => 0), (fun _ => 0), (fun _ => 0), (fun _ => 0), st, en, (fun _ => 0), (fun _ => 0), (fun _ => 0), (fun _ => 0), (fun _ => 0), (fun _ => 0), (fun _ => 0), (fun _ => 0), (fun _ => 0), (fun _ => 0), (fun _ => 0), (fun _ => 0), (fun _ => 0), (fun _ => 0))) : wpX_init post := by
  refine pk_loop (fun n k (s : (Nat → Int32) × (Nat → Int32)) => wX_init_213 post n (nI k) 0 0 0 0 (fun _ => 0) (fun _ => 0) (fun _ => 0) (fun _ => 0) (fun _ => 0) (fun _ => 0) (fun _ => 0) (fun _ => 0) s.1 s.2 (fun _ => 0) (fun _ => 0) (fun _ => 0) (fun _ => 0) (fun _ => 0) (fun _ => 0) (fun _ => 0) (fun _ => 0) (fun _ => 0) (fun _ => 0) (fun _ => 0) (fun _ => 0) (fun _ => 0) (fun _ => 0)) (fun k s => (∀ t, t < k * 65 → s.1 (t * 2) = nI (65 * (t / 65)) ∧ s.1 (t * 2 + 1) = nI (65 * (t / 65))) ∧ ∀ t, s.2 t = wr_b (decide (t < k * 65 ∧ t % 65 = 64))) 3 0 ((fun _ => 0), (fun _ => 0)) (by omega) ⟨fun t ht => absurd ht (by omega), fun t => by rw [decide_eq_false (by omega)]; rfl⟩ ?_ ?_
  · intro n s I
    refine br_t (nI_le (a := 3) (b := 3) (by omega) (by omega)) (K s.1 s.2 ⟨fun _ _ => wt_sim_ok (by omega), fun _ _ => rfl, ?_⟩)
    intro t ht
    have h := I.1 t (by omega)
    unfold wt_xd wt_xa
    rw [xd_e0, xd_e0, xd_e1 (by omega), I.2 t]
    refine ⟨h.1, h.2, ?_⟩
    congr 1
    rw [decide_eq_decide]
    omega
  · intro n k s hk I ih
    refine br_f (nI_ge (b := 3) hk (by omega)) (xa_pe hk (fun st h => nm_r (nI_1 k) (ih (st, upd s.2 (k * 65 + 64) 1) ⟨h, ?_⟩)) I.1)
    intro t
    dsimp only
    by_cases z : t = k * 65 + 64
    · subst z
      rw [pk_us, decide_eq_true (by omega)]; rfl
    · rw [pk_un z, I.2 t]
      congr 1
      rw [decide_eq_decide]
      omega
end
