section
theorem pk_us {f : Nat → Int32} {k : Nat} {x : Int32} : upd f k x k = x := if_pos rfl
theorem pk_un {f : Nat → Int32} {k j : Nat} {x : Int32} (h : j ≠ k) : upd f k x j = f j := if_neg h
theorem pk_sub {a b : Nat} (h : b ≤ a) : nI a - nI b = nI (a - b) := by
  obtain ⟨c, rfl⟩ : ∃ c, a = c + b := ⟨a - b, by omega⟩
  rw [← nI_add, Int32.add_sub_cancel, Nat.add_sub_cancel]
theorem pk_m1 (n : Nat) : nI (n + 1) + (-1) = nI n := by
  rw [← nI_1, Int32.add_assoc, show (1 : Int32) + (-1) = 0 from rfl, Int32.add_zero]
theorem pk_mul (a b : Nat) : nI a * nI b = nI (a * b) := (Int32.ofNat_mul a b).symm
theorem pk_div {a d : Nat} (ha : a < 2 ^ 31) (h0 : 0 < d) (hd : d < 2 ^ 31) : nI a / nI d = nI (a / d) := by
  apply Int32.toInt_inj.mp
  rw [lg_idiv_nonneg (by rw [nI_toInt ha]; omega) (by rw [nI_toInt hd]; omega), nI_toInt ha, nI_toInt hd, nI_toInt (Nat.lt_of_le_of_lt (Nat.div_le_self a d) ha)]
  first | rfl | exact (Int.natCast_ediv _ _).symm
theorem pk_rem {a d : Nat} (ha : a < 2 ^ 31) (h0 : 0 < d) (hd : d < 2 ^ 31) : nI a - nI a / nI d * nI d = nI (a % d) := by
  rw [pk_div ha h0 hd, pk_mul, pk_sub (Nat.div_mul_le_self a d)]
  exact congrArg nI (by have := Nat.div_add_mod' a d; omega)
theorem pk_ix (x : Int32) {n : Nat} (hn : n < 2 ^ 31) : x < 0 ∨ nI n ≤ x ∨ ∃ j : Nat, j < n ∧ x = nI j := by
  by_cases h : x < 0
  · exact Or.inl h
  · obtain ⟨j, hj, rfl⟩ := nI_of h
    by_cases h2 : j < n
    · exact Or.inr (Or.inr ⟨j, h2, rfl⟩)
    · exact Or.inr (Or.inl (nI_le (by omega) hj))
theorem pk_le {x y : Int32} {A B : Prop} (a b : Nat) (f : a ≤ b → A) (g : b < a → B) (hx : x = nI a := by rfl) (hy : y = nI b := by rfl) (ha : a < 2 ^ 31 := by omega) (hb : b < 2 ^ 31 := by omega) : (x ≤ y → A) ∧ (¬ x ≤ y → B) := by
  subst hx hy
  rw [nI_leI ha hb]
  exact ⟨f, fun z => g (by omega)⟩
theorem pk_lt {x y : Int32} {A B : Prop} (a b : Nat) (f : a < b → A) (g : b ≤ a → B) (hx : x = nI a := by rfl) (hy : y = nI b := by rfl) (ha : a < 2 ^ 31 := by omega) (hb : b < 2 ^ 31 := by omega) : (x < y → A) ∧ (¬ x < y → B) := by
  subst hx hy
  rw [nI_ltI ha hb]
  exact ⟨f, fun z => g (by omega)⟩
theorem pk_eq {x y : Int32} {A B : Prop} (a b : Nat) (f : a = b → A) (g : a ≠ b → B) (hx : x = nI a := by rfl) (hy : y = nI b := by rfl) (ha : a < 2 ^ 31 := by omega) (hb : b < 2 ^ 31 := by omega) : (x = y → A) ∧ (¬ x = y → B) := by
  subst hx hy
  rw [nI_eq ha hb]
  exact ⟨f, g⟩
theorem pk_in {x : Int32} (n N : Nat) (h : n < N) (hx : x = nI n := by rfl) (hN : N < 2 ^ 31 := by omega) : vp_in x N := by
  subst hx
  exact vp_in_nI h hN
theorem pk_cl {x : Int32} (n : Nat) (hx : x = nI n := by rfl) (h : n < 2 ^ 31 := by omega) : x.toNatClampNeg = n := by
  subst hx
  exact nI_clamp h
theorem pk_tn {n : Nat} (h : n < 2 ^ 32) : (nI n).toBitVec.toNat = n := Nat.mod_eq_of_lt h
theorem pk_and (x : Int32) {m : Int32} (k : Nat) (hm : m.toBitVec.toNat = 2 ^ k - 1) : x &&& m = nI (x.toBitVec.toNat % 2 ^ k) := by
  apply Int32.toBitVec_inj.mp
  apply BitVec.eq_of_toNat_eq
  rw [Int32.toBitVec_and, BitVec.toNat_and, hm, Nat.and_two_pow_sub_one_eq_mod]
  show _ = (BitVec.ofNat 32 _).toNat
  rw [BitVec.toNat_ofNat]
  exact (Nat.mod_eq_of_lt (Nat.lt_of_le_of_lt (Nat.mod_le _ _) x.toBitVec.isLt)).symm
theorem pk_andN {n : Nat} (h : n < 2 ^ 32) {m : Int32} (k : Nat) (hm : m.toBitVec.toNat = 2 ^ k - 1) : nI n &&& m = nI (n % 2 ^ k) := by
  rw [pk_and _ k hm, pk_tn h]
theorem pk_shl (a s : Int32) (k : Nat) (hs : (s.toBitVec.smod 32).toNat = k) : (a <<< s).toBitVec.toNat = a.toBitVec.toNat * 2 ^ k % 2 ^ 32 := by
  show (a.toBitVec <<< (s.toBitVec.smod 32).toNat).toNat = _
  rw [hs, BitVec.toNat_shiftLeft, Nat.shiftLeft_eq]
theorem pk_shlN {n : Nat} (s : Int32) (k : Nat) (hs : (s.toBitVec.smod 32).toNat = k) (h : n * 2 ^ k < 2 ^ 32) : nI n <<< s = nI (n * 2 ^ k) := by
  apply Int32.toBitVec_inj.mp
  apply BitVec.eq_of_toNat_eq
  have hn : n < 2 ^ 32 := Nat.lt_of_le_of_lt (Nat.le_mul_of_pos_right n (Nat.two_pow_pos k)) h
  rw [pk_shl _ _ k hs, pk_tn hn, pk_tn h, Nat.mod_eq_of_lt h]
theorem pk_shr (a s : Int32) (k : Nat) (hs : (s.toBitVec.smod 32).toNat = k) : (a >>> s).toInt = a.toInt >>> k := by
  show (a.toBitVec.sshiftRight (s.toBitVec.smod 32).toNat).toInt = _
  rw [hs, BitVec.toInt_sshiftRight]
  rfl
theorem pk_shrN {n : Nat} (h : n < 2 ^ 31) (s : Int32) (k : Nat) (hs : (s.toBitVec.smod 32).toNat = k) : nI n >>> s = nI (n / 2 ^ k) := by
  apply Int32.toInt_inj.mp
  have h2 : n / 2 ^ k ≤ n := Nat.div_le_self _ _
  rw [pk_shr _ _ k hs, nI_toInt h, nI_toInt (by omega), Int.shiftRight_eq_div_pow]
  rfl
theorem pk_loop {σ : Type} (W : Nat → Nat → σ → Prop) (I : Nat → σ → Prop) (e i0 : Nat) (s : σ) (hi : i0 ≤ e) (h0 : I i0 s) (hx : ∀ n s, I e s → W (n + 1) e s)
    (hs : ∀ n i s, i < e → I i s → (∀ s', I (i + 1) s' → W n (i + 1) s') → W (n + 1) i s) : ∃ n, W n i0 s :=
  ⟨e + 1, loop_i W I e hx hs (e + 1) i0 s hi (by omega) h0⟩
theorem pk_loopD {σ : Type} (W : Nat → Nat → σ → Prop) (I : Nat → σ → Prop) (hx : ∀ n s, I 0 s → W (n + 1) 0 s)
    (hs : ∀ n i s, I (i + 1) s → (∀ s', I i s' → W n i s') → W (n + 1) (i + 1) s) : ∀ (e : Nat) (s : σ), I e s → W (e + 1) e s := by
  intro e
  induction e with
  | zero => exact fun s h => hx 0 s h
  | succ e ih => exact fun s h => hs (e + 1) e s h (fun s' h' => ih s' h')
theorem lp1 {A1 : Type} (W : Nat → A1 → Prop) (I : A1 → Prop) (μ : A1 → Nat) (hs : ∀ (n : Nat) (a1 : A1), I a1 → (∀ (b1 : A1), I b1 → μ b1 < μ a1 → W n b1) → W (n + 1) a1) (a1 : A1) (h : I a1) : ∃ n, W n a1 :=
  loop_m (σ := A1) (fun n s => W n s) (fun s => I s) (fun s => μ s) (fun n s hI hk => hs n s hI (fun b1 h9 hm => hk b1 h9 hm)) a1 h
theorem lp2 {A1 A2 : Type} (W : Nat → A1 → A2 → Prop) (I : A1 → A2 → Prop) (μ : A1 → A2 → Nat) (hs : ∀ (n : Nat) (a1 : A1) (a2 : A2), I a1 a2 → (∀ (b1 : A1) (b2 : A2), I b1 b2 → μ b1 b2 < μ a1 a2 → W n b1 b2) → W (n + 1) a1 a2) (a1 : A1) (a2 : A2) (h : I a1 a2) : ∃ n, W n a1 a2 :=
  loop_m (σ := A1 × A2) (fun n s => W n s.1 s.2) (fun s => I s.1 s.2) (fun s => μ s.1 s.2) (fun n s hI hk => hs n s.1 s.2 hI (fun b1 b2 h9 hm => hk (b1, b2) h9 hm)) (a1, a2) h
theorem lp3 {A1 A2 A3 : Type} (W : Nat → A1 → A2 → A3 → Prop) (I : A1 → A2 → A3 → Prop) (μ : A1 → A2 → A3 → Nat) (hs : ∀ (n : Nat) (a1 : A1) (a2 : A2) (a3 : A3), I a1 a2 a3 → (∀ (b1 : A1) (b2 : A2) (b3 : A3), I b1 b2 b3 → μ b1 b2 b3 < μ a1 a2 a3 → W n b1 b2 b3) → W (n + 1) a1 a2 a3) (a1 : A1) (a2 : A2) (a3 : A3) (h : I a1 a2 a3) : ∃ n, W n a1 a2 a3 :=
  loop_m (σ := A1 × A2 × A3) (fun n s => W n s.1 s.2.1 s.2.2) (fun s => I s.1 s.2.1 s.2.2) (fun s => μ s.1 s.2.1 s.2.2) (fun n s hI hk => hs n s.1 s.2.1 s.2.2 hI (fun b1 b2 b3 h9 hm => hk (b1, b2, b3) h9 hm)) (a1, a2, a3) h
theorem lp4 {A1 A2 A3 A4 : Type} (W : Nat → A1 → A2 → A3 → A4 → Prop) (I : A1 → A2 → A3 → A4 → Prop) (μ : A1 → A2 → A3 → A4 → Nat) (hs : ∀ (n : Nat) (a1 : A1) (a2 : A2) (a3 : A3) (a4 : A4), I a1 a2 a3 a4 → (∀ (b1 : A1) (b2 : A2) (b3 : A3) (b4 : A4), I b1 b2 b3 b4 → μ b1 b2 b3 b4 < μ a1 a2 a3 a4 → W n b1 b2 b3 b4) → W (n + 1) a1 a2 a3 a4) (a1 : A1) (a2 : A2) (a3 : A3) (a4 : A4) (h : I a1 a2 a3 a4) : ∃ n, W n a1 a2 a3 a4 :=
  loop_m (σ := A1 × A2 × A3 × A4) (fun n s => W n s.1 s.2.1 s.2.2.1 s.2.2.2) (fun s => I s.1 s.2.1 s.2.2.1 s.2.2.2) (fun s => μ s.1 s.2.1 s.2.2.1 s.2.2.2) (fun n s hI hk => hs n s.1 s.2.1 s.2.2.1 s.2.2.2 hI (fun b1 b2 b3 b4 h9 hm => hk (b1, b2, b3, b4) h9 hm)) (a1, a2, a3, a4) h
theorem lp5 {A1 A2 A3 A4 A5 : Type} (W : Nat → A1 → A2 → A3 → A4 → A5 → Prop) (I : A1 → A2 → A3 → A4 → A5 → Prop) (μ : A1 → A2 → A3 → A4 → A5 → Nat) (hs : ∀ (n : Nat) (a1 : A1) (a2 : A2) (a3 : A3) (a4 : A4) (a5 : A5), I a1 a2 a3 a4 a5 → (∀ (b1 : A1) (b2 : A2) (b3 : A3) (b4 : A4) (b5 : A5), I b1 b2 b3 b4 b5 → μ b1 b2 b3 b4 b5 < μ a1 a2 a3 a4 a5 → W n b1 b2 b3 b4 b5) → W (n + 1) a1 a2 a3 a4 a5) (a1 : A1) (a2 : A2) (a3 : A3) (a4 : A4) (a5 : A5) (h : I a1 a2 a3 a4 a5) : ∃ n, W n a1 a2 a3 a4 a5 :=
  loop_m (σ := A1 × A2 × A3 × A4 × A5) (fun n s => W n s.1 s.2.1 s.2.2.1 s.2.2.2.1 s.2.2.2.2) (fun s => I s.1 s.2.1 s.2.2.1 s.2.2.2.1 s.2.2.2.2) (fun s => μ s.1 s.2.1 s.2.2.1 s.2.2.2.1 s.2.2.2.2) (fun n s hI hk => hs n s.1 s.2.1 s.2.2.1 s.2.2.2.1 s.2.2.2.2 hI (fun b1 b2 b3 b4 b5 h9 hm => hk (b1, b2, b3, b4, b5) h9 hm)) (a1, a2, a3, a4, a5) h
theorem lp6 {A1 A2 A3 A4 A5 A6 : Type} (W : Nat → A1 → A2 → A3 → A4 → A5 → A6 → Prop) (I : A1 → A2 → A3 → A4 → A5 → A6 → Prop) (μ : A1 → A2 → A3 → A4 → A5 → A6 → Nat) (hs : ∀ (n : Nat) (a1 : A1) (a2 : A2) (a3 : A3) (a4 : A4) (a5 : A5) (a6 : A6), I a1 a2 a3 a4 a5 a6 → (∀ (b1 : A1) (b2 : A2) (b3 : A3) (b4 : A4) (b5 : A5) (b6 : A6), I b1 b2 b3 b4 b5 b6 → μ b1 b2 b3 b4 b5 b6 < μ a1 a2 a3 a4 a5 a6 → W n b1 b2 b3 b4 b5 b6) → W (n + 1) a1 a2 a3 a4 a5 a6) (a1 : A1) (a2 : A2) (a3 : A3) (a4 : A4) (a5 : A5) (a6 : A6) (h : I a1 a2 a3 a4 a5 a6) : ∃ n, W n a1 a2 a3 a4 a5 a6 :=
  loop_m (σ := A1 × A2 × A3 × A4 × A5 × A6) (fun n s => W n s.1 s.2.1 s.2.2.1 s.2.2.2.1 s.2.2.2.2.1 s.2.2.2.2.2) (fun s => I s.1 s.2.1 s.2.2.1 s.2.2.2.1 s.2.2.2.2.1 s.2.2.2.2.2) (fun s => μ s.1 s.2.1 s.2.2.1 s.2.2.2.1 s.2.2.2.2.1 s.2.2.2.2.2) (fun n s hI hk => hs n s.1 s.2.1 s.2.2.1 s.2.2.2.1 s.2.2.2.2.1 s.2.2.2.2.2 hI (fun b1 b2 b3 b4 b5 b6 h9 hm => hk (b1, b2, b3, b4, b5, b6) h9 hm)) (a1, a2, a3, a4, a5, a6) h
theorem pk_least (P : Nat → Prop) (h : ∃ k, P k) : ∃ k, P k ∧ ∀ j, j < k → ¬ P j := by
  obtain ⟨k, hk⟩ := h
  induction k using Nat.strongRecOn with
  | ind k ih =>
    by_cases e : ∃ j, j < k ∧ P j
    · obtain ⟨j, hj, pj⟩ := e
      exact ih j hj pj
    · exact ⟨k, hk, fun j hj pj => e ⟨j, hj, pj⟩⟩
def bt (x : Int32) (i : Nat) : Bool := x.toBitVec.getLsbD i
theorem b_ext {x y : Int32} (h : ∀ i, i < 32 → bt x i = bt y i) : x = y := Int32.toBitVec_inj.mp (BitVec.eq_of_getLsbD_eq (fun i hi => h i hi))
theorem b_or (x y : Int32) (i : Nat) : bt (x ||| y) i = (bt x i || bt y i) := by unfold bt; rw [Int32.toBitVec_or, BitVec.getLsbD_or]
theorem b_and (x y : Int32) (i : Nat) : bt (x &&& y) i = (bt x i && bt y i) := by unfold bt; rw [Int32.toBitVec_and, BitVec.getLsbD_and]
theorem b_0 (i : Nat) : bt 0 i = false := BitVec.getLsbD_zero
theorem s_l : ∀ n, n < 32 → ((nI n &&& 31).toBitVec.smod 32).toNat = n := by decide +kernel
theorem nx_and (a b : Nat) : nI a &&& nI b = nI (a &&& b) := by
  apply Int32.toBitVec_inj.1
  show BitVec.ofNat 32 a &&& BitVec.ofNat 32 b = BitVec.ofNat 32 (a &&& b)
  apply BitVec.eq_of_getLsbD_eq
  intro i hi
  simp [hi]
theorem nx_xor (a b : Nat) : nI a ^^^ nI b = nI (a ^^^ b) := by
  apply Int32.toBitVec_inj.1
  show BitVec.ofNat 32 a ^^^ BitVec.ofNat 32 b = BitVec.ofNat 32 (a ^^^ b)
  apply BitVec.eq_of_getLsbD_eq
  intro i hi
  simp [hi]
theorem wb_of32 (x : Int32) : ∃ n, n < 2 ^ 32 ∧ x = nI n := ⟨x.toBitVec.toNat, x.toBitVec.isLt, Int32.toBitVec_inj.mp (by show _ = BitVec.ofNat 32 _; simp)⟩
end
section
/-! pure: counts, runs of an automaton, the number of words, sums with weights -/
def ws_cnt (p : Nat → Bool) : Nat → Nat
  | 0 => 0
  | n + 1 => if p n = true then ws_cnt p n + 1 else ws_cnt p n
theorem ws_cnt_s (p : Nat → Bool) (n : Nat) : ws_cnt p (n + 1) = if p n = true then ws_cnt p n + 1 else ws_cnt p n := rfl
theorem ws_cnt_le (p : Nat → Bool) : ∀ n, ws_cnt p n ≤ n := by
  intro n
  induction n with
  | zero => exact Nat.le_refl 0
  | succ n ih => rw [ws_cnt_s]; split <;> omega
theorem ws_cnt_mono (p q : Nat → Bool) : ∀ n, (∀ j, j < n → p j = true → q j = true) → ws_cnt p n ≤ ws_cnt q n := by
  intro n
  induction n with
  | zero => exact fun _ => Nat.le_refl 0
  | succ n ih =>
    intro h
    have h1 := ih (fun j hj => h j (by omega))
    have h2 := h n (by omega)
    simp only [ws_cnt_s]
    by_cases e : p n = true
    · rw [if_pos e, if_pos (h2 e)]; omega
    · rw [if_neg e]; split <;> omega
theorem ws_cnt_lt (p q : Nat → Bool) : ∀ n, (∀ j, j < n → p j = true → q j = true) → (∃ j, j < n ∧ q j = true ∧ p j = false) → ws_cnt p n < ws_cnt q n := by
  intro n
  induction n with
  | zero => intro _ ⟨j, hj, _⟩; omega
  | succ n ih =>
    intro h ⟨j, hj, hq, hp⟩
    have hm := ws_cnt_mono p q n (fun j hj => h j (by omega))
    simp only [ws_cnt_s]
    by_cases e : j = n
    · subst e
      rw [if_pos hq, if_neg (by rw [hp]; exact Bool.false_ne_true)]; omega
    · have h1 := ih (fun j hj => h j (by omega)) ⟨j, by omega, hq, hp⟩
      have h2 := h n (by omega)
      by_cases e2 : p n = true
      · rw [if_pos e2, if_pos (h2 e2)]; omega
      · rw [if_neg e2]; split <;> omega
theorem ws_cnt_congr (p q : Nat → Bool) : ∀ n, (∀ j, j < n → p j = q j) → ws_cnt p n = ws_cnt q n := by
  intro n
  induction n with
  | zero => exact fun _ => rfl
  | succ n ih =>
    intro h
    simp only [ws_cnt_s]
    rw [ih (fun j hj => h j (by omega)), h n (by omega)]
theorem ws_cnt_0 (p : Nat → Bool) : ∀ n, (∀ j, j < n → p j = false) → ws_cnt p n = 0 := by
  intro n
  induction n with
  | zero => exact fun _ => rfl
  | succ n ih =>
    intro h
    rw [ws_cnt_s, ih (fun j hj => h j (by omega)), h n (by omega)]
    rfl
theorem ws_cnt_add (p : Nat → Bool) (a : Nat) : ∀ n, ws_cnt p (a + n) = ws_cnt p a + ws_cnt (fun j => p (a + j)) n := by
  intro n
  induction n with
  | zero => rfl
  | succ n ih =>
    rw [← Nat.add_assoc, ws_cnt_s, ws_cnt_s, ih]
    split <;> omega
theorem ws_cnt_pos (p : Nat → Bool) (n j : Nat) (hj : j < n) (h : p j = true) : 0 < ws_cnt p n := by
  have h1 := ws_cnt_lt (fun _ => false) p n (fun _ _ z => absurd z Bool.false_ne_true) ⟨j, hj, h, rfl⟩
  omega
/-! runs -/
def ws_run (d : Nat → Bool → Nat) : List Bool → Nat → Nat
  | [], s => s
  | b :: w, s => ws_run d w (d s b)
theorem ws_run_app (d : Nat → Bool → Nat) (w : List Bool) : ∀ (u : List Bool) (s : Nat), ws_run d (u ++ w) s = ws_run d w (ws_run d u s) := by
  intro u
  induction u with
  | nil => exact fun _ => rfl
  | cons b u ih => exact fun s => ih (d s b)
def ws_eqv (d : Nat → Bool → Nat) (a : Nat → Bool) (s t : Nat) : Prop := ∀ w, a (ws_run d w s) = a (ws_run d w t)
theorem ws_eqv_step {d : Nat → Bool → Nat} {a : Nat → Bool} {s t : Nat} (h : ws_eqv d a s t) (b : Bool) : ws_eqv d a (d s b) (d t b) := fun w => h (b :: w)
theorem ws_run_lt {d : Nat → Bool → Nat} {N : Nat} (hd : ∀ s b, s < N → d s b < N) : ∀ (w : List Bool) (s : Nat), s < N → ws_run d w s < N := by
  intro w
  induction w with
  | nil => exact fun _ h => h
  | cons b w ih => exact fun s h => ih _ (hd s b h)
def ws_rch (d : Nat → Bool → Nat) (s0 s : Nat) : Prop := ∃ w, ws_run d w s0 = s
theorem ws_rch_0 (d : Nat → Bool → Nat) (s0 : Nat) : ws_rch d s0 s0 := ⟨[], rfl⟩
theorem ws_rch_s {d : Nat → Bool → Nat} {s0 s : Nat} (h : ws_rch d s0 s) (b : Bool) : ws_rch d s0 (d s b) := by
  obtain ⟨w, rfl⟩ := h
  exact ⟨w ++ [b], ws_run_app d [b] w s0⟩
theorem ws_clo {d : Nat → Bool → Nat} {N : Nat} {R : Nat → Bool} (hd : ∀ s b, s < N → d s b < N) (hR : ∀ s b, s < N → R s = true → R (d s b) = true) : ∀ (w : List Bool) (s : Nat), s < N → R s = true → R (ws_run d w s) = true := by
  intro w
  induction w with
  | nil => exact fun _ _ h => h
  | cons b w ih => exact fun s hs h => ih _ (hd s b hs) (hR s b hs h)
/-! the number of words of length n that lead from s to an end -/
def ws_A (d : Nat → Bool → Nat) (a : Nat → Bool) : Nat → Nat → Nat
  | 0, s => if a s = true then 1 else 0
  | n + 1, s => ws_A d a n (d s false) + ws_A d a n (d s true)
theorem ws_A_le (d : Nat → Bool → Nat) (a : Nat → Bool) : ∀ n s, ws_A d a n s ≤ 2 ^ n := by
  intro n
  induction n with
  | zero => intro s; show (if a s = true then 1 else 0) ≤ 1; split <;> omega
  | succ n ih =>
    intro s
    have h1 := ih (d s false)
    have h2 := ih (d s true)
    show ws_A d a n (d s false) + ws_A d a n (d s true) ≤ _
    rw [Nat.pow_succ]
    omega
/-! sums with weights -/
def ws_sum (f : Nat → Int32) (g : Nat → Nat) : Nat → Int32
  | 0 => 0
  | n + 1 => ws_sum f g n + f n * nI (g n)
theorem ws_sum_s (f : Nat → Int32) (g : Nat → Nat) (n : Nat) : ws_sum f g (n + 1) = ws_sum f g n + f n * nI (g n) := rfl
theorem ws_sum_congr {f f' : Nat → Int32} (g : Nat → Nat) : ∀ n, (∀ j, j < n → f j = f' j) → ws_sum f g n = ws_sum f' g n := by
  intro n
  induction n with
  | zero => exact fun _ => rfl
  | succ n ih =>
    intro h
    rw [ws_sum_s, ws_sum_s, ih (fun j hj => h j (by omega)), h n (by omega)]
theorem ws_sum_gc {g g' : Nat → Nat} (f : Nat → Int32) : ∀ n, (∀ j, j < n → g j = g' j) → ws_sum f g n = ws_sum f g' n := by
  intro n
  induction n with
  | zero => exact fun _ => rfl
  | succ n ih =>
    intro h
    rw [ws_sum_s, ws_sum_s, ih (fun j hj => h j (by omega)), h n (by omega)]
theorem ws_sum_0 {f : Nat → Int32} (g : Nat → Nat) : ∀ n, (∀ j, j < n → f j = 0) → ws_sum f g n = 0 := by
  intro n
  induction n with
  | zero => exact fun _ => rfl
  | succ n ih =>
    intro h
    rw [ws_sum_s, ih (fun j hj => h j (by omega)), h n (by omega), Int32.zero_mul, Int32.add_zero]
theorem ws_ring1 (a b c x : Int32) : a + (b + x) * c = a + b * c + x * c := by grind
theorem ws_ring2 (a b c d : Int32) : a + b + c * d = a + c * d + b := by grind
theorem ws_sum_upd (f : Nat → Int32) (g : Nat → Nat) (t : Nat) (x : Int32) : ∀ n, t < n → ws_sum (upd f t (f t + x)) g n = ws_sum f g n + x * nI (g t) := by
  intro n
  induction n with
  | zero => intro h; omega
  | succ n ih =>
    intro h
    rw [ws_sum_s, ws_sum_s]
    by_cases e : t = n
    · subst e
      rw [pk_us, ws_sum_congr (f' := f) g t (fun j hj => pk_un (by omega)), ws_ring1]
    · rw [ih (by omega), pk_un (by omega), ws_ring2]
theorem ws_sum_half (f : Nat → Int32) (h : Nat → Nat → Nat) : ∀ n, ws_sum (fun m => f (m / 2)) (fun m => h (m / 2) (m % 2)) (2 * n) = ws_sum f (fun s => h s 0 + h s 1) n := by
  intro n
  induction n with
  | zero => rfl
  | succ n ih =>
    rw [show 2 * (n + 1) = 2 * n + 1 + 1 from by omega, ws_sum_s, ws_sum_s, ih, ws_sum_s]
    rw [show 2 * n / 2 = n from by omega, show 2 * n % 2 = 0 from by omega, show (2 * n + 1) / 2 = n from by omega, show (2 * n + 1) % 2 = 1 from by omega, ← nI_add]
    grind
end
section
/-! pure: groups that are split until nothing changes -/
def ws_alk (d : Nat → Bool → Nat) (g : Nat → Nat) (s t : Nat) : Prop := g s = g t ∧ g (d s false) = g (d t false) ∧ g (d s true) = g (d t true)
theorem ws_alk_tr {d : Nat → Bool → Nat} {g : Nat → Nat} {s t r : Nat} (h : ws_alk d g s t) (h' : ws_alk d g t r) : ws_alk d g s r := ⟨h.1.trans h'.1, h.2.1.trans h'.2.1, h.2.2.trans h'.2.2⟩
theorem ws_alk_sy {d : Nat → Bool → Nat} {g : Nat → Nat} {s t : Nat} (h : ws_alk d g s t) : ws_alk d g t s := ⟨h.1.symm, h.2.1.symm, h.2.2.symm⟩
theorem ws_alk_b {d : Nat → Bool → Nat} {g : Nat → Nat} {s t : Nat} (h : ws_alk d g s t) (b : Bool) : g (d s b) = g (d t b) := by
  cases b
  · exact h.2.1
  · exact h.2.2
def ws_spl (d : Nat → Bool → Nat) (N : Nat) (g g' : Nat → Nat) : Prop := ∀ s, s < N → g' s ≤ s ∧ ws_alk d g (g' s) s ∧ ∀ t, t < g' s → ¬ ws_alk d g t s
theorem ws_spl_iff {d : Nat → Bool → Nat} {N : Nat} {g g' : Nat → Nat} (h : ws_spl d N g g') {s t : Nat} (hs : s < N) (ht : t < N) : g' s = g' t ↔ ws_alk d g s t := by
  constructor
  · intro e
    have a := (h s hs).2.1
    rw [e] at a
    exact ws_alk_tr (ws_alk_sy a) (h t ht).2.1
  · intro e
    rcases Nat.lt_trichotomy (g' s) (g' t) with l | l | l
    · exact absurd (ws_alk_tr (h s hs).2.1 e) ((h t ht).2.2 _ l)
    · exact l
    · exact absurd (ws_alk_tr (h t ht).2.1 (ws_alk_sy e)) ((h s hs).2.2 _ l)
def ws_J (d : Nat → Bool → Nat) (a : Nat → Bool) (N : Nat) (g : Nat → Nat) : Prop := (∀ s t, s < N → t < N → ws_eqv d a s t → g s = g t) ∧ (∀ s t, s < N → t < N → g s = g t → a s = a t)
theorem ws_J0 {d : Nat → Bool → Nat} {a : Nat → Bool} {N : Nat} {g : Nat → Nat} (h : ∀ s, s < N → g s = if a s = true then 1 else 0) : ws_J d a N g := by
  constructor
  · intro s t hs ht e
    have e0 : a s = a t := e []
    rw [h s hs, h t ht, e0]
  · intro s t hs ht e
    rw [h s hs, h t ht] at e
    cases h1 : a s <;> cases h2 : a t <;> simp [h1, h2] at e ⊢
theorem ws_J_spl {d : Nat → Bool → Nat} {a : Nat → Bool} {N : Nat} {g g' : Nat → Nat} (hd : ∀ s b, s < N → d s b < N) (J : ws_J d a N g) (h : ws_spl d N g g') : ws_J d a N g' := by
  constructor
  · intro s t hs ht e
    exact (ws_spl_iff h hs ht).mpr ⟨J.1 s t hs ht e, J.1 _ _ (hd s _ hs) (hd t _ ht) (ws_eqv_step e false), J.1 _ _ (hd s _ hs) (hd t _ ht) (ws_eqv_step e true)⟩
  · intro s t hs ht e
    exact J.2 s t hs ht ((ws_spl_iff h hs ht).mp e).1
def ws_can (N : Nat) (g : Nat → Nat) : Prop := ∀ s, s < N → g s ≤ s ∧ g (g s) = g s
theorem ws_can_spl {d : Nat → Bool → Nat} {N : Nat} {g g' : Nat → Nat} (h : ws_spl d N g g') : ws_can N g' := by
  intro s hs
  have h1 := h s hs
  exact ⟨h1.1, (ws_spl_iff h (by omega) hs).mpr h1.2.1⟩
def ws_fp (g : Nat → Nat) : Nat → Bool := fun s => decide (g s = s)
theorem ws_fp_grow {d : Nat → Bool → Nat} {N : Nat} {g g' : Nat → Nat} (c : ws_can N g) (h : ws_spl d N g g') (hn : ∃ s, s < N ∧ g s ≠ g' s) : ws_cnt (ws_fp g) N < ws_cnt (ws_fp g') N := by
  apply ws_cnt_lt
  · intro s hs e
    have e1 : g s = s := of_decide_eq_true e
    have h1 := h s hs
    have h2 := c (g' s) (by omega)
    have h3 := h1.2.1.1
    exact decide_eq_true (by omega)
  · obtain ⟨s, hs, hne⟩ := hn
    have h1 := h s hs
    have h2 := ws_can_spl h s hs
    refine ⟨g' s, by omega, decide_eq_true h2.2, decide_eq_false ?_⟩
    intro e
    exact hne (h1.2.1.1.symm.trans e)
theorem ws_stable {d : Nat → Bool → Nat} {a : Nat → Bool} {N : Nat} {g g' : Nat → Nat} (hd : ∀ s b, s < N → d s b < N) (J : ws_J d a N g) (h : ws_spl d N g g') (he : ∀ s, s < N → g s = g' s) {s t : Nat} (hs : s < N) (ht : t < N) : g s = g t ↔ ws_eqv d a s t := by
  constructor
  · intro e w
    induction w generalizing s t with
    | nil => exact J.2 s t hs ht e
    | cons b w ih =>
      rw [he s hs, he t ht] at e
      exact ih (hd s b hs) (hd t b ht) (ws_alk_b ((ws_spl_iff h hs ht).mp e) b)
  · exact J.1 s t hs ht
/-- what the rounds keep: r rounds are through, changed is ch -/
def ws_G (d : Nat → Bool → Nat) (a : Nat → Bool) (N : Nat) (r : Nat) (ch : Bool) (g : Nat → Nat) : Prop :=
  ws_J d a N g ∧ (ch = true → r = 0 ∨ (ws_can N g ∧ r ≤ ws_cnt (ws_fp g) N)) ∧ (ch = false → ∀ s t, s < N → t < N → (g s = g t ↔ ws_eqv d a s t))
theorem ws_G_s {d : Nat → Bool → Nat} {a : Nat → Bool} {N : Nat} {r : Nat} {g g' : Nat → Nat} {ch' : Bool} (hN : 0 < N) (hd : ∀ s b, s < N → d s b < N) (G : ws_G d a N r true g) (h : ws_spl d N g g') (h1 : ch' = true → ∃ s, s < N ∧ g s ≠ g' s) (h0 : ch' = false → ∀ s, s < N → g s = g' s) : ws_G d a N (r + 1) ch' g' := by
  refine ⟨ws_J_spl hd G.1 h, fun z => Or.inr ⟨ws_can_spl h, ?_⟩, fun z => ?_⟩
  · rcases G.2.1 rfl with e | ⟨c, e⟩
    · subst e
      have c' := ws_can_spl h 0 hN
      exact ws_cnt_pos _ N 0 hN (decide_eq_true (by omega))
    · have := ws_fp_grow c h (h1 z)
      omega
  · intro s t hs ht
    have e := h0 z
    rw [← e s hs, ← e t ht]
    exact ws_stable hd G.1 h e hs ht
theorem ws_G_e {d : Nat → Bool → Nat} {a : Nat → Bool} {N : Nat} {r : Nat} {ch : Bool} {g : Nat → Nat} (hr : N < r) (G : ws_G d a N r ch g) : ∀ s t, s < N → t < N → (g s = g t ↔ ws_eqv d a s t) := by
  cases ch with
  | false => exact G.2.2 rfl
  | true =>
    rcases G.2.1 rfl with e | ⟨_, e⟩
    · omega
    · have := ws_cnt_le (ws_fp g) N
      omega
/-! pairs of states -/
def ws_pr (d e : Nat → Bool → Nat) : Nat → Bool → Nat := fun p b => 128 * d (p / 128) b + e (p % 128) b
theorem ws_pr_run (d e : Nat → Bool → Nat) (he : ∀ s b, s < 128 → e s b < 128) : ∀ (w : List Bool) (s t : Nat), t < 128 → ws_run (ws_pr d e) w (128 * s + t) = 128 * ws_run d w s + ws_run e w t := by
  intro w
  induction w with
  | nil => exact fun _ _ _ => rfl
  | cons b w ih =>
    intro s t ht
    show ws_run (ws_pr d e) w (ws_pr d e (128 * s + t) b) = _
    have h : ws_pr d e (128 * s + t) b = 128 * d s b + e t b := by
      unfold ws_pr
      rw [show (128 * s + t) / 128 = s from by omega, show (128 * s + t) % 128 = t from by omega]
    rw [h, ih _ _ (he t b ht)]
    rfl
/-- a mark at n: the two of the pair n can be told apart -/
def ws_ap (d e : Nat → Bool → Nat) (a c : Nat → Bool) (n : Nat) : Prop := ∃ w, a (ws_run d w (n / 128)) ≠ c (ws_run e w (n % 128))
theorem ws_ap_0 {d e : Nat → Bool → Nat} {a c : Nat → Bool} {n : Nat} (h : a (n / 128) ≠ c (n % 128)) : ws_ap d e a c n := ⟨[], h⟩
theorem ws_ap_s {d e : Nat → Bool → Nat} {a c : Nat → Bool} (he : ∀ s b, s < 128 → e s b < 128) {n : Nat} (b : Bool) (h : ws_ap d e a c (ws_pr d e n b)) : ws_ap d e a c n := by
  obtain ⟨w, hw⟩ := h
  have h2 := he (n % 128) b (Nat.mod_lt _ (by omega))
  refine ⟨b :: w, ?_⟩
  have e1 : ws_pr d e n b / 128 = d (n / 128) b := by unfold ws_pr; omega
  have e2 : ws_pr d e n b % 128 = e (n % 128) b := by unfold ws_pr; omega
  rw [e1, e2] at hw
  exact hw
theorem ws_ap_no {d e : Nat → Bool → Nat} {a c : Nat → Bool} {R : Nat → Bool} (hd : ∀ s b, s < 128 → d s b < 128) (he : ∀ s b, s < 128 → e s b < 128) (h0 : ∀ n, n < 16384 → R n = false → a (n / 128) = c (n % 128)) (hc : ∀ n b, n < 16384 → R n = false → R (ws_pr d e n b) = false) : ∀ (w : List Bool) (n : Nat), n < 16384 → R n = false → a (ws_run d w (n / 128)) = c (ws_run e w (n % 128)) := by
  intro w
  induction w with
  | nil => exact h0
  | cons b w ih =>
    intro n hn hR
    have h1 := hd (n / 128) b (by omega)
    have h2 := he (n % 128) b (Nat.mod_lt _ (by omega))
    have e1 : ws_pr d e n b / 128 = d (n / 128) b := by unfold ws_pr; omega
    have e2 : ws_pr d e n b % 128 = e (n % 128) b := by unfold ws_pr; omega
    have h3 : ws_pr d e n b < 16384 := by unfold ws_pr; omega
    have h4 := ih _ h3 (hc n b hn hR)
    rw [e1, e2] at h4
    exact h4
theorem ws_ap_iff {d e : Nat → Bool → Nat} {a c : Nat → Bool} {R : Nat → Bool} (hd : ∀ s b, s < 128 → d s b < 128) (he : ∀ s b, s < 128 → e s b < 128) (h0 : ∀ n, n < 16384 → R n = false → a (n / 128) = c (n % 128)) (hc : ∀ n b, n < 16384 → R n = false → R (ws_pr d e n b) = false) (hs : ∀ n, n < 16384 → R n = true → ws_ap d e a c n) {s t : Nat} (hs' : s < 128) (ht : t < 128) : R (128 * s + t) = false ↔ ∀ w, a (ws_run d w s) = c (ws_run e w t) := by
  have e1 : (128 * s + t) / 128 = s := by omega
  have e2 : (128 * s + t) % 128 = t := by omega
  have hl : 128 * s + t < 16384 := by omega
  constructor
  · intro h w
    have := ws_ap_no hd he h0 hc w _ hl h
    rw [e1, e2] at this
    exact this
  · intro h
    cases hR : R (128 * s + t) with
    | false => rfl
    | true =>
      obtain ⟨w, hw⟩ := hs _ hl hR
      rw [e1, e2] at hw
      exact absurd (h w) hw
end
section
/-! pure: a pattern by its positions: size, empty, first, last, readers of 0, readers of 1, followers -/
abbrev ws_Pat : Type := Nat × Bool × Nat × Nat × Nat × Nat × (Nat → Nat)
def wt_m (p : ws_Pat) : Nat := p.1
def wt_e (p : ws_Pat) : Bool := p.2.1
def wt_F (p : ws_Pat) : Nat := p.2.2.1
def wt_L (p : ws_Pat) : Nat := p.2.2.2.1
def wt_Z (p : ws_Pat) : Nat := p.2.2.2.2.1
def wt_O (p : ws_Pat) : Nat := p.2.2.2.2.2.1
def wt_f (p : ws_Pat) : Nat → Nat := p.2.2.2.2.2.2
def wt_ok (p : ws_Pat) : Prop := wt_m p ≤ 6 ∧ wt_F p < 2 ^ wt_m p ∧ wt_L p < 2 ^ wt_m p ∧ wt_Z p < 2 ^ wt_m p ∧ wt_O p < 2 ^ wt_m p ∧ (∀ i, i < wt_m p → (wt_Z p).testBit i = true ∨ (wt_O p).testBit i = true) ∧ (∀ i, wt_f p i < 2 ^ wt_m p) ∧ (∀ i, wt_m p ≤ i → wt_f p i = 0)
def ws_or (a : Nat) (f : Nat → Nat) (s : Nat) : Nat → Nat
  | 0 => a
  | n + 1 => if s.testBit n = true then ws_or a f s n ||| f n else ws_or a f s n
theorem ws_or_s (a : Nat) (f : Nat → Nat) (s n : Nat) : ws_or a f s (n + 1) = if s.testBit n = true then ws_or a f s n ||| f n else ws_or a f s n := rfl
theorem ws_or_bit (a : Nat) (f : Nat → Nat) (s q : Nat) : ∀ n, (ws_or a f s n).testBit q = true ↔ (a.testBit q = true ∨ ∃ i, i < n ∧ s.testBit i = true ∧ (f i).testBit q = true) := by
  intro n
  induction n with
  | zero =>
    constructor
    · exact fun h => Or.inl h
    · rintro (h | ⟨i, hi, _⟩)
      · exact h
      · omega
  | succ n ih =>
    rw [ws_or_s]
    by_cases e : s.testBit n = true
    · rw [if_pos e, Nat.testBit_or, Bool.or_eq_true, ih]
      constructor
      · rintro ((h | ⟨i, hi, h⟩) | h)
        · exact Or.inl h
        · exact Or.inr ⟨i, by omega, h⟩
        · exact Or.inr ⟨n, by omega, e, h⟩
      · rintro (h | ⟨i, hi, h1, h2⟩)
        · exact Or.inl (Or.inl h)
        · by_cases z : i = n
          · subst z; exact Or.inr h2
          · exact Or.inl (Or.inr ⟨i, by omega, h1, h2⟩)
    · rw [if_neg e, ih]
      constructor
      · rintro (h | ⟨i, hi, h⟩)
        · exact Or.inl h
        · exact Or.inr ⟨i, by omega, h⟩
      · rintro (h | ⟨i, hi, h1, h2⟩)
        · exact Or.inl h
        · by_cases z : i = n
          · subst z; exact absurd h1 e
          · exact Or.inr ⟨i, by omega, h1, h2⟩
theorem ws_or_more (a : Nat) (f : Nat → Nat) (s m : Nat) (h : ∀ i, m ≤ i → f i = 0) : ∀ n, ws_or a f s (m + n) = ws_or a f s m := by
  intro n
  induction n with
  | zero => rfl
  | succ n ih =>
    rw [← Nat.add_assoc, ws_or_s, ih, h _ (by omega), Nat.or_zero]
    split <;> rfl
theorem ws_or_lt (a : Nat) (f : Nat → Nat) (s m : Nat) (ha : a < 2 ^ m) (h : ∀ i, f i < 2 ^ m) : ∀ n, ws_or a f s n < 2 ^ m := by
  intro n
  induction n with
  | zero => exact ha
  | succ n ih =>
    rw [ws_or_s]
    split
    · exact Nat.or_lt_two_pow ih (h n)
    · exact ih
theorem ws_or_no (a : Nat) (f : Nat → Nat) (s : Nat) : ∀ n, (∀ i, i < n → s.testBit i = false) → ws_or a f s n = a := by
  intro n
  induction n with
  | zero => exact fun _ => rfl
  | succ n ih =>
    intro h
    rw [ws_or_s, if_neg (by rw [h n (by omega)]; exact Bool.false_ne_true)]
    exact ih (fun i hi => h i (by omega))
def wt_r (p : ws_Pat) (b : Bool) : Nat := if b = true then wt_O p else wt_Z p
def wt_i (p : ws_Pat) (s : Nat) : Nat := if s.testBit 6 = true then wt_F p else 0
def wt_d (p : ws_Pat) (s : Nat) (b : Bool) : Nat := ws_or (wt_i p s) (wt_f p) s 6 &&& wt_r p b
def wt_a (p : ws_Pat) (s : Nat) : Bool := decide (s &&& wt_L p ≠ 0) || (s.testBit 6 && wt_e p)
theorem wt_p6 {p : ws_Pat} (h : wt_ok p) : 2 ^ wt_m p ≤ 64 := Nat.pow_le_pow_right (n := 2) (by decide) h.1
theorem wt_r_lt {p : ws_Pat} (h : wt_ok p) (b : Bool) : wt_r p b < 2 ^ wt_m p := by
  unfold wt_r
  split
  · exact h.2.2.2.2.1
  · exact h.2.2.2.1
theorem wt_d_lt {p : ws_Pat} (h : wt_ok p) (s : Nat) (b : Bool) : wt_d p s b < 64 := Nat.lt_of_lt_of_le (Nat.and_lt_two_pow _ (wt_r_lt h b)) (wt_p6 h)
theorem wt_64 : ∀ i, i < 6 → Nat.testBit 64 i = false := by decide
theorem wt_b6 {s : Nat} (h : s < 64) : s.testBit 6 = false := Nat.testBit_lt_two_pow h
theorem wt_d64 (p : ws_Pat) (b : Bool) : wt_d p 64 b = wt_F p &&& wt_r p b := by
  unfold wt_d
  rw [ws_or_no _ _ _ 6 wt_64]
  rfl
theorem wt_ds (p : ws_Pat) {s : Nat} (h : s < 64) (b : Bool) : wt_d p s b = ws_or 0 (wt_f p) s 6 &&& wt_r p b := by
  unfold wt_d wt_i
  rw [wt_b6 h]
  rfl
theorem wt_a64 {p : ws_Pat} (h : wt_ok p) : wt_a p 64 = wt_e p := by
  have h2 : 64 &&& wt_L p = 0 := by
    apply Nat.eq_of_testBit_eq
    intro i
    rw [Nat.testBit_and, Nat.zero_testBit]
    by_cases z : i < 6
    · rw [wt_64 i z, Bool.false_and]
    · have : (wt_L p).testBit i = false := Nat.testBit_lt_two_pow (Nat.lt_of_lt_of_le h.2.2.1 (Nat.pow_le_pow_right (by decide) (by have := h.1; omega)))
      rw [this, Bool.and_false]
  unfold wt_a
  rw [h2, show Nat.testBit 64 6 = true from by decide]
  simp
theorem wt_as (p : ws_Pat) {s : Nat} (h : s < 64) : wt_a p s = decide (s &&& wt_L p ≠ 0) := by
  unfold wt_a
  rw [wt_b6 h, Bool.false_and, Bool.or_false]
/-! n more positions behind r, and then the end -/
def wt_ac (p : ws_Pat) : Nat → Nat → Prop
  | 0, r => (wt_L p).testBit r = true
  | n + 1, r => ∃ q, (wt_f p r).testBit q = true ∧ wt_ac p n q
theorem wt_lt {x m q : Nat} (h : x < 2 ^ m) (hq : x.testBit q = true) : q < m := by
  rcases Nat.lt_or_ge q m with z | z
  · exact z
  · rw [Nat.testBit_lt_two_pow (Nat.lt_of_lt_of_le h (Nat.pow_le_pow_right (by decide) z))] at hq
    exact absurd hq Bool.false_ne_true
theorem wt_step {p : ws_Pat} (h : wt_ok p) {n X : Nat} (hX : X < 2 ^ wt_m p) (ih : ∀ s, s < 64 → (0 < ws_A (wt_d p) (wt_a p) n s ↔ ∃ r, s.testBit r = true ∧ wt_ac p n r)) : 0 < ws_A (wt_d p) (wt_a p) n (X &&& wt_r p false) + ws_A (wt_d p) (wt_a p) n (X &&& wt_r p true) ↔ ∃ q, X.testBit q = true ∧ wt_ac p n q := by
  have hl : ∀ b, X &&& wt_r p b < 64 := fun b => Nat.lt_of_lt_of_le (Nat.and_lt_two_pow _ (wt_r_lt h b)) (wt_p6 h)
  constructor
  · intro z
    have z2 : 0 < ws_A (wt_d p) (wt_a p) n (X &&& wt_r p false) ∨ 0 < ws_A (wt_d p) (wt_a p) n (X &&& wt_r p true) := by omega
    rcases z2 with z2 | z2
    · obtain ⟨r, h1, h2⟩ := (ih _ (hl _)).mp z2
      rw [Nat.testBit_and, Bool.and_eq_true] at h1
      exact ⟨r, h1.1, h2⟩
    · obtain ⟨r, h1, h2⟩ := (ih _ (hl _)).mp z2
      rw [Nat.testBit_and, Bool.and_eq_true] at h1
      exact ⟨r, h1.1, h2⟩
  · rintro ⟨q, h1, h2⟩
    rcases h.2.2.2.2.2.1 q (wt_lt hX h1) with z | z
    · have := (ih _ (hl false)).mpr ⟨q, by rw [Nat.testBit_and, h1]; exact z, h2⟩
      omega
    · have := (ih _ (hl true)).mpr ⟨q, by rw [Nat.testBit_and, h1]; exact z, h2⟩
      omega
theorem wt_A {p : ws_Pat} (h : wt_ok p) : ∀ n s, s < 64 → (0 < ws_A (wt_d p) (wt_a p) n s ↔ ∃ r, s.testBit r = true ∧ wt_ac p n r) := by
  intro n
  induction n with
  | zero =>
    intro s hs
    show 0 < (if wt_a p s = true then 1 else 0) ↔ _
    rw [wt_as p hs]
    constructor
    · intro z
      by_cases e : s &&& wt_L p = 0
      · rw [e] at z; simp at z
      · obtain ⟨r, hr⟩ := Nat.exists_testBit_of_ne_zero e
        rw [Nat.testBit_and, Bool.and_eq_true] at hr
        exact ⟨r, hr.1, hr.2⟩
    · rintro ⟨r, h1, h2⟩
      have e : s &&& wt_L p ≠ 0 := by
        intro e
        have e2 : (s &&& wt_L p).testBit r = true := by
          rw [Nat.testBit_and, h1]
          exact h2
        rw [e, Nat.zero_testBit] at e2
        exact absurd e2 Bool.false_ne_true
      rw [if_pos (decide_eq_true e)]
      exact Nat.one_pos
  | succ n ih =>
    intro s hs
    show 0 < ws_A (wt_d p) (wt_a p) n (wt_d p s false) + ws_A (wt_d p) (wt_a p) n (wt_d p s true) ↔ _
    rw [wt_ds p hs, wt_ds p hs, wt_step h (ws_or_lt 0 (wt_f p) s (wt_m p) (Nat.two_pow_pos _) h.2.2.2.2.2.2.1 6) ih]
    constructor
    · rintro ⟨q, h1, h2⟩
      rcases (ws_or_bit 0 (wt_f p) s q 6).mp h1 with z | ⟨i, _, z1, z2⟩
      · rw [Nat.zero_testBit] at z; exact absurd z Bool.false_ne_true
      · exact ⟨i, z1, q, z2, h2⟩
    · rintro ⟨r, h1, q, h2, h3⟩
      exact ⟨q, (ws_or_bit 0 (wt_f p) s q 6).mpr (Or.inr ⟨r, wt_lt (m := 6) hs h1, h1, h2⟩), h3⟩
/-! ways of positions -/
def wt_T (p : ws_Pat) (n : Nat) : Prop := ∃ w : Nat → Nat, (wt_F p).testBit (w 0) = true ∧ (∀ i, i < n → (wt_f p (w i)).testBit (w (i + 1)) = true) ∧ (wt_L p).testBit (w n) = true
theorem wt_ac_w (p : ws_Pat) : ∀ n r, wt_ac p n r ↔ ∃ w : Nat → Nat, w 0 = r ∧ (∀ i, i < n → (wt_f p (w i)).testBit (w (i + 1)) = true) ∧ (wt_L p).testBit (w n) = true := by
  intro n
  induction n with
  | zero =>
    intro r
    constructor
    · exact fun h => ⟨fun _ => r, rfl, fun i hi => absurd hi (by omega), h⟩
    · rintro ⟨w, rfl, _, h⟩
      exact h
  | succ n ih =>
    intro r
    constructor
    · rintro ⟨q, h1, h2⟩
      obtain ⟨w, e, h3, h4⟩ := (ih q).mp h2
      refine ⟨fun i => match i with | 0 => r | i + 1 => w i, rfl, ?_, h4⟩
      intro i hi
      cases i with
      | zero => show (wt_f p r).testBit (w 0) = true; rw [e]; exact h1
      | succ i => exact h3 i (by omega)
    · rintro ⟨w, e, h3, h4⟩
      subst e
      exact ⟨w 1, h3 0 (by omega), (ih _).mpr ⟨fun i => w (i + 1), rfl, fun i hi => h3 (i + 1) (by omega), h4⟩⟩
theorem wt_AT {p : ws_Pat} (h : wt_ok p) (n : Nat) : 0 < ws_A (wt_d p) (wt_a p) (n + 1) 64 ↔ wt_T p n := by
  show 0 < ws_A (wt_d p) (wt_a p) n (wt_d p 64 false) + ws_A (wt_d p) (wt_a p) n (wt_d p 64 true) ↔ _
  rw [wt_d64, wt_d64, wt_step h h.2.1 (wt_A h n)]
  constructor
  · rintro ⟨q, h1, h2⟩
    obtain ⟨w, e, h3⟩ := (wt_ac_w p n q).mp h2
    exact ⟨w, by rw [e]; exact h1, h3⟩
  · rintro ⟨w, h1, h2⟩
    exact ⟨w 0, h1, (wt_ac_w p n _).mpr ⟨w, rfl, h2⟩⟩
theorem ws_pig : ∀ (m : Nat) (p : Nat → Nat), (∀ i, i ≤ m → p i < m) → ∃ i j, i < j ∧ j ≤ m ∧ p i = p j := by
  intro m
  induction m with
  | zero => intro p h; exact absurd (h 0 (Nat.le_refl 0)) (by omega)
  | succ m ih =>
    intro p h
    by_cases e : ∃ i, i ≤ m ∧ p i = p (m + 1)
    · obtain ⟨i, hi, e⟩ := e
      exact ⟨i, m + 1, by omega, by omega, e⟩
    · have e' : ∀ i, i ≤ m → p i ≠ p (m + 1) := fun i hi z => e ⟨i, hi, z⟩
      have hv := h (m + 1) (by omega)
      obtain ⟨i, j, hij, hj, hp⟩ := ih (fun i => if p i = m then p (m + 1) else p i) (by
        intro i hi
        have h1 := h i (by omega)
        have h2 := e' i hi
        split <;> omega)
      refine ⟨i, j, hij, by omega, ?_⟩
      have h1 := e' i (by omega)
      have h2 := e' j (by omega)
      split at hp <;> split at hp <;> omega
theorem wt_pump {p : ws_Pat} (h : wt_ok p) {n : Nat} (hT : wt_T p n) (hn : wt_m p ≤ n) : ∃ c, 1 ≤ c ∧ c ≤ wt_m p ∧ wt_T p (n - c) ∧ wt_T p (n + c) := by
  obtain ⟨w, h0, hs, hl⟩ := hT
  have hw : ∀ i, i ≤ n → w i < wt_m p := by
    intro i hi
    cases i with
    | zero => exact wt_lt h.2.1 h0
    | succ i => exact wt_lt (h.2.2.2.2.2.2.1 (w i)) (hs i (by omega))
  obtain ⟨i, j, hij, hj, he⟩ := ws_pig (wt_m p) w (fun i hi => hw i (by omega))
  refine ⟨j - i, by omega, by omega, ?_, ?_⟩
  · refine ⟨fun k => if k ≤ i then w k else w (k + (j - i)), ?_, ?_, ?_⟩
    · dsimp only; rw [if_pos (by omega)]; exact h0
    · intro k hk
      dsimp only
      by_cases z : k + 1 ≤ i
      · rw [if_pos z, if_pos (by omega)]; exact hs k (by omega)
      · rw [if_neg z]
        by_cases z2 : k ≤ i
        · have : k = i := by omega
          subst this
          rw [if_pos z2, he, show k + 1 + (j - k) = j + 1 from by omega]
          exact hs j (by omega)
        · rw [if_neg z2, show k + 1 + (j - i) = k + (j - i) + 1 from by omega]
          exact hs _ (by omega)
    · dsimp only
      by_cases z : n - (j - i) ≤ i
      · rw [if_pos z, show n - (j - i) = i from by omega, he, show j = n from by omega]; exact hl
      · rw [if_neg z, show n - (j - i) + (j - i) = n from by omega]; exact hl
  · refine ⟨fun k => if k ≤ j then w k else w (k - (j - i)), ?_, ?_, ?_⟩
    · dsimp only; rw [if_pos (by omega)]; exact h0
    · intro k hk
      dsimp only
      by_cases z : k + 1 ≤ j
      · rw [if_pos z, if_pos (by omega)]; exact hs k (by omega)
      · rw [if_neg z]
        by_cases z2 : k ≤ j
        · have : k = j := by omega
          subst this
          rw [if_pos z2, ← he, show k + 1 - (k - i) = i + 1 from by omega]
          exact hs i (by omega)
        · rw [if_neg z2, show k + 1 - (j - i) = k - (j - i) + 1 from by omega]
          exact hs _ (by omega)
    · dsimp only
      rw [if_neg (by omega), show n + (j - i) - (j - i) = n from by omega]; exact hl
theorem wt_down {p : ws_Pat} (h : wt_ok p) {B : Nat} (hB : wt_m p ≤ B) : ∀ n, B ≤ n → wt_T p n → ∃ n', B ≤ n' ∧ n' < B + wt_m p ∧ wt_T p n' := by
  intro n
  induction n using Nat.strongRecOn with
  | ind n ih =>
    intro hn hT
    by_cases z : n < B + wt_m p
    · exact ⟨n, hn, z, hT⟩
    · obtain ⟨c, h1, h2, h3, _⟩ := wt_pump h hT (by omega)
      exact ih (n - c) (by omega) (by omega) h3
theorem wt_up {p : ws_Pat} (h : wt_ok p) : ∀ d n, 6 - n ≤ d → wt_m p ≤ n → wt_T p n → ∃ n', 6 ≤ n' ∧ wt_T p n' := by
  intro d
  induction d with
  | zero => intro n hd _ hT; exact ⟨n, by omega, hT⟩
  | succ d ih =>
    intro n hd hn hT
    by_cases z : 6 ≤ n
    · exact ⟨n, z, hT⟩
    · obtain ⟨c, h1, h2, _, h4⟩ := wt_pump h hT hn
      exact ih (n + c) (by omega) (by omega) h4
/-- the lengths that the component looks at, and those that the reference looks at -/
theorem wt_end {p : ws_Pat} (h : wt_ok p) : (∃ n, 7 ≤ n ∧ n < 13 ∧ 0 < ws_A (wt_d p) (wt_a p) n 64) ↔ (∃ n, wt_m p + 1 ≤ n ∧ n < 2 * wt_m p + 3 ∧ 0 < ws_A (wt_d p) (wt_a p) n 64) := by
  have hm := h.1
  constructor
  · rintro ⟨n, h1, h2, h3⟩
    obtain ⟨k, rfl⟩ : ∃ k, n = k + 1 := ⟨n - 1, by omega⟩
    obtain ⟨n', a1, a2, a3⟩ := wt_down h (Nat.le_refl _) k (by omega) ((wt_AT h k).mp h3)
    exact ⟨n' + 1, by omega, by omega, (wt_AT h n').mpr a3⟩
  · rintro ⟨n, h1, h2, h3⟩
    obtain ⟨k, rfl⟩ : ∃ k, n = k + 1 := ⟨n - 1, by omega⟩
    obtain ⟨n1, b1, b2⟩ := wt_up h 6 k (by omega) (by omega) ((wt_AT h k).mp h3)
    obtain ⟨n', a1, a2, a3⟩ := wt_down h hm n1 b1 b2
    exact ⟨n' + 1, by omega, by omega, (wt_AT h n').mpr a3⟩
end
section
/-! pure: the patterns that the calls make -/
def wt_sim (w : Nat) : ws_Pat := if w < 3 then (1, false, 1, 1, if w = 1 then 0 else 1, if w = 0 then 0 else 1, fun _ => 0) else (0, true, 0, 0, 0, 0, fun _ => 0)
def wt_join (th : Bool) (p q : ws_Pat) : ws_Pat :=
  (wt_m p + wt_m q, (if th = true then wt_e p && wt_e q else wt_e p || wt_e q),
   wt_F p ||| (if th = false ∨ wt_e p = true then wt_F q * 2 ^ wt_m p else 0),
   wt_L q * 2 ^ wt_m p ||| (if th = false ∨ wt_e q = true then wt_L p else 0),
   wt_Z p ||| wt_Z q * 2 ^ wt_m p, wt_O p ||| wt_O q * 2 ^ wt_m p,
   fun i => if i < wt_m p then (if th = true ∧ (wt_L p).testBit i = true then wt_f p i ||| wt_F q * 2 ^ wt_m p else wt_f p i) else wt_f q (i - wt_m p) * 2 ^ wt_m p)
def wt_many (p : ws_Pat) : ws_Pat :=
  (wt_m p, true, wt_F p, wt_L p, wt_Z p, wt_O p, fun i => if (wt_L p).testBit i = true then wt_f p i ||| wt_F p else wt_f p i)
def wt_c (p : ws_Pat) (i : Nat) : Nat := if (wt_Z p).testBit i = true then (if (wt_O p).testBit i = true then 2 else 0) else 1
theorem wt_sim_ok {w : Nat} (h : w ≤ 3) : wt_ok (wt_sim w) := by
  have e : w = 0 ∨ w = 1 ∨ w = 2 ∨ w = 3 := by omega
  rcases e with rfl | rfl | rfl | rfl
  · refine ⟨by decide, by decide, by decide, by decide, by decide, ?_, fun _ => Nat.two_pow_pos _, fun _ _ => rfl⟩
    intro i hi
    have e : i = 0 := by change i < 1 at hi; omega
    subst e; decide
  · refine ⟨by decide, by decide, by decide, by decide, by decide, ?_, fun _ => Nat.two_pow_pos _, fun _ _ => rfl⟩
    intro i hi
    have e : i = 0 := by change i < 1 at hi; omega
    subst e; decide
  · refine ⟨by decide, by decide, by decide, by decide, by decide, ?_, fun _ => Nat.two_pow_pos _, fun _ _ => rfl⟩
    intro i hi
    have e : i = 0 := by change i < 1 at hi; omega
    subst e; decide
  · refine ⟨by decide, by decide, by decide, by decide, by decide, ?_, fun _ => Nat.two_pow_pos _, fun _ _ => rfl⟩
    intro i hi
    change i < 0 at hi; omega
theorem wt_sh {x a b : Nat} (h : x < 2 ^ b) : x * 2 ^ a < 2 ^ (a + b) := by
  rw [Nat.pow_add, Nat.mul_comm (2 ^ a)]
  exact Nat.mul_lt_mul_of_pos_right h (Nat.two_pow_pos a)
theorem wt_wid {x a b : Nat} (h : x < 2 ^ a) : x < 2 ^ (a + b) := Nat.lt_of_lt_of_le h (Nat.pow_le_pow_right (by decide) (by omega))
theorem wt_join_bit (x y a i : Nat) (hx : x < 2 ^ a) : (x ||| y * 2 ^ a).testBit i = if i < a then x.testBit i else y.testBit (i - a) := by
  rw [Nat.testBit_or, Nat.testBit_mul_two_pow]
  by_cases z : i < a
  · rw [if_pos z, decide_eq_false (by omega), Bool.false_and, Bool.or_false]
  · rw [if_neg z, decide_eq_true (by omega), Bool.true_and, Nat.testBit_lt_two_pow (Nat.lt_of_lt_of_le hx (Nat.pow_le_pow_right (by decide) (by omega))), Bool.false_or]
theorem wt_join_ok (th : Bool) {p q : ws_Pat} (hp : wt_ok p) (hq : wt_ok q) (h : wt_m p + wt_m q ≤ 6) : wt_ok (wt_join th p q) := by
  obtain ⟨p1, p2, p3, p4, p5, p6, p7, p8⟩ := hp
  obtain ⟨q1, q2, q3, q4, q5, q6, q7, q8⟩ := hq
  refine ⟨h, ?_, ?_, ?_, ?_, ?_, ?_, ?_⟩
  · show _ ||| _ < 2 ^ (wt_m p + wt_m q)
    apply Nat.or_lt_two_pow (wt_wid p2)
    split
    · exact wt_sh q2
    · exact Nat.two_pow_pos _
  · show _ ||| _ < 2 ^ (wt_m p + wt_m q)
    apply Nat.or_lt_two_pow (wt_sh q3)
    split
    · exact wt_wid p3
    · exact Nat.two_pow_pos _
  · exact Nat.or_lt_two_pow (wt_wid p4) (wt_sh q4)
  · exact Nat.or_lt_two_pow (wt_wid p5) (wt_sh q5)
  · intro i hi
    change i < wt_m p + wt_m q at hi
    show (wt_Z p ||| wt_Z q * 2 ^ wt_m p).testBit i = true ∨ (wt_O p ||| wt_O q * 2 ^ wt_m p).testBit i = true
    rw [wt_join_bit _ _ _ _ p4, wt_join_bit _ _ _ _ p5]
    by_cases z : i < wt_m p
    · rw [if_pos z, if_pos z]; exact p6 i z
    · rw [if_neg z, if_neg z]; exact q6 _ (by omega)
  · intro i
    show (if i < wt_m p then _ else _) < 2 ^ (wt_m p + wt_m q)
    split
    · split
      · exact Nat.or_lt_two_pow (wt_wid (p7 i)) (wt_sh q2)
      · exact wt_wid (p7 i)
    · exact wt_sh (q7 _)
  · intro i hi
    change wt_m p + wt_m q ≤ i at hi
    show (if i < wt_m p then _ else _) = 0
    rw [if_neg (by omega), q8 _ (by omega), Nat.zero_mul]
theorem wt_join_c (th : Bool) {p : ws_Pat} (q : ws_Pat) (hp : wt_ok p) (i : Nat) : wt_c (wt_join th p q) i = if i < wt_m p then wt_c p i else wt_c q (i - wt_m p) := by
  show (if (wt_Z p ||| wt_Z q * 2 ^ wt_m p).testBit i = true then (if (wt_O p ||| wt_O q * 2 ^ wt_m p).testBit i = true then 2 else 0) else 1) = _
  rw [wt_join_bit _ _ _ _ hp.2.2.2.1, wt_join_bit _ _ _ _ hp.2.2.2.2.1]
  unfold wt_c
  by_cases z : i < wt_m p
  · rw [if_pos z, if_pos z, if_pos z]
  · rw [if_neg z, if_neg z, if_neg z]
theorem wt_many_ok {p : ws_Pat} (hp : wt_ok p) : wt_ok (wt_many p) := by
  obtain ⟨p1, p2, p3, p4, p5, p6, p7, p8⟩ := hp
  refine ⟨p1, p2, p3, p4, p5, p6, ?_, ?_⟩
  · intro i
    show (if (wt_L p).testBit i = true then _ else _) < 2 ^ wt_m p
    split
    · exact Nat.or_lt_two_pow (p7 i) p2
    · exact p7 i
  · intro i hi
    change wt_m p ≤ i at hi
    show (if (wt_L p).testBit i = true then _ else _) = 0
    rw [Nat.testBit_lt_two_pow (Nat.lt_of_lt_of_le p3 (Nat.pow_le_pow_right (by decide) hi)), if_neg Bool.false_ne_true]
    exact p8 i hi
/-! the row of states of the component: 65 a place -/
def wt_xd (Q : Nat → ws_Pat) (s : Nat) (b : Bool) : Nat := 65 * (s / 65) + wt_d (Q (s / 65)) (s % 65) b
def wt_xa (Q : Nat → ws_Pat) (s : Nat) : Bool := wt_a (Q (s / 65)) (s % 65)
def wt_ok3 (Q : Nat → ws_Pat) : Prop := ∀ k, k < 3 → wt_ok (Q k)
theorem wt_xd_lt {Q : Nat → ws_Pat} (h : wt_ok3 Q) (s : Nat) (b : Bool) (hs : s < 195) : wt_xd Q s b < 195 := by
  have := wt_d_lt (h (s / 65) (by omega)) (s % 65) b
  unfold wt_xd
  omega
theorem wt_xd_k (Q : Nat → ws_Pat) {k t : Nat} (ht : t < 65) (b : Bool) : wt_xd Q (65 * k + t) b = 65 * k + wt_d (Q k) t b := by
  unfold wt_xd
  rw [show (65 * k + t) / 65 = k from by omega, show (65 * k + t) % 65 = t from by omega]
theorem wt_xa_k (Q : Nat → ws_Pat) {k t : Nat} (ht : t < 65) : wt_xa Q (65 * k + t) = wt_a (Q k) t := by
  unfold wt_xa
  rw [show (65 * k + t) / 65 = k from by omega, show (65 * k + t) % 65 = t from by omega]
theorem wt_xrun {Q : Nat → ws_Pat} (h : wt_ok3 Q) {k : Nat} (hk : k < 3) : ∀ (w : List Bool) (t : Nat), t < 65 → ws_run (wt_xd Q) w (65 * k + t) = 65 * k + ws_run (wt_d (Q k)) w t := by
  intro w
  induction w with
  | nil => exact fun _ _ => rfl
  | cons b w ih =>
    intro t ht
    show ws_run (wt_xd Q) w (wt_xd Q (65 * k + t) b) = _
    rw [wt_xd_k Q ht, ih _ (by have := wt_d_lt (h k hk) t b; omega)]
    rfl
theorem wt_xA {Q : Nat → ws_Pat} (h : wt_ok3 Q) {k : Nat} (hk : k < 3) : ∀ (n t : Nat), t < 65 → ws_A (wt_xd Q) (wt_xa Q) n (65 * k + t) = ws_A (wt_d (Q k)) (wt_a (Q k)) n t := by
  intro n
  induction n with
  | zero => intro t ht; show (if wt_xa Q (65 * k + t) = true then 1 else 0) = _; rw [wt_xa_k Q ht]; rfl
  | succ n ih =>
    intro t ht
    have h1 := wt_d_lt (h k hk) t
    show ws_A (wt_xd Q) (wt_xa Q) n (wt_xd Q (65 * k + t) false) + ws_A (wt_xd Q) (wt_xa Q) n (wt_xd Q (65 * k + t) true) = _
    rw [wt_xd_k Q ht, wt_xd_k Q ht, ih _ (by have := h1 false; omega), ih _ (by have := h1 true; omega)]
    rfl
theorem wt_run_lt {p : ws_Pat} (h : wt_ok p) : ∀ (w : List Bool) (t : Nat), t < 65 → ws_run (wt_d p) w t < 65 := ws_run_lt (fun s b _ => by have := wt_d_lt h s b; omega)
theorem wt_xeqv {Q : Nat → ws_Pat} (h : wt_ok3 Q) {k j : Nat} (hk : k < 3) (hj : j < 3) {s t : Nat} (hs : s < 65) (ht : t < 65) : ws_eqv (wt_xd Q) (wt_xa Q) (65 * k + s) (65 * j + t) ↔ ∀ w, wt_a (Q k) (ws_run (wt_d (Q k)) w s) = wt_a (Q j) (ws_run (wt_d (Q j)) w t) := by
  constructor
  · intro e w
    have := e w
    rw [wt_xrun h hk w s hs, wt_xrun h hj w t ht, wt_xa_k Q (wt_run_lt (h k hk) w s hs), wt_xa_k Q (wt_run_lt (h j hj) w t ht)] at this
    exact this
  · intro e w
    rw [wt_xrun h hk w s hs, wt_xrun h hj w t ht, wt_xa_k Q (wt_run_lt (h k hk) w s hs), wt_xa_k Q (wt_run_lt (h j hj) w t ht)]
    exact e w
theorem wt_xrch {Q : Nat → ws_Pat} (h : wt_ok3 Q) {k : Nat} (hk : k < 3) {t : Nat} : ws_rch (wt_xd Q) (65 * k + 64) (65 * k + t) ↔ ws_rch (wt_d (Q k)) 64 t := by
  constructor
  · rintro ⟨w, e⟩
    rw [wt_xrun h hk w 64 (by omega)] at e
    exact ⟨w, by omega⟩
  · rintro ⟨w, e⟩
    exact ⟨w, by rw [wt_xrun h hk w 64 (by omega), e]⟩
end
section
/-! pure: words as numbers, terms, solutions -/
def wl_ln (W : Nat) : Nat := if W < 2 then 0 else if W < 4 then 1 else if W < 8 then 2 else 3
def wl_tr (n i : Nat) : Nat := if i = 0 then n / 225 else if i = 1 then n / 15 % 15 else n % 15
theorem wl_tr_lt {n : Nat} (h : n < 3375) (i : Nat) : wl_tr n i < 15 := by
  unfold wl_tr
  split
  · omega
  · split <;> omega
theorem wl_ln_in : ∀ W, W < 16 → 0 < W → 2 ^ wl_ln W ≤ W ∧ W < 2 ^ (wl_ln W + 1) ∧ wl_ln W ≤ 3 := by decide
theorem wl_ln_3 (W : Nat) : wl_ln W ≤ 3 := by
  unfold wl_ln
  split
  · omega
  · split
    · omega
    · split <;> omega
/-- the last n digits of x -/
def wl_l : Nat → Nat → List Bool
  | 0, _ => []
  | n + 1, x => wl_l n (x / 2) ++ [decide (x % 2 = 1)]
theorem wl_l_s (n x : Nat) : wl_l (n + 1) x = wl_l n (x / 2) ++ [decide (x % 2 = 1)] := rfl
theorem wl_l_app (n x : Nat) : ∀ l r, r < 2 ^ l → wl_l (n + l) (x * 2 ^ l + r) = wl_l n x ++ wl_l l r := by
  intro l
  induction l with
  | zero =>
    intro r hr
    have : r = 0 := by simp at hr; omega
    subst this
    show wl_l n (x * 2 ^ 0 + 0) = wl_l n x ++ []
    rw [Nat.pow_zero, Nat.mul_one, Nat.add_zero, List.append_nil]
  | succ l ih =>
    intro r hr
    rw [← Nat.add_assoc, wl_l_s, wl_l_s, ← List.append_assoc]
    rw [Nat.pow_succ] at hr ⊢
    have e : x * (2 ^ l * 2) = 2 * (x * 2 ^ l) := by rw [← Nat.mul_assoc, Nat.mul_comm]
    rw [e, show (2 * (x * 2 ^ l) + r) / 2 = x * 2 ^ l + r / 2 from by omega, show (2 * (x * 2 ^ l) + r) % 2 = r % 2 from by omega, ih (r / 2) (by omega)]
def wl_sw (n s : Nat) : Nat := if s < 3 then wl_tr n s + 1 else s - 1
theorem wl_sw_in {n s : Nat} (h : n < 3375) (hs : s < 5) : 0 < wl_sw n s ∧ wl_sw n s < 16 := by
  have := wl_tr_lt h s
  unfold wl_sw
  split <;> omega
def wl_sl (n s : Nat) : List Bool := wl_l (wl_ln (wl_sw n s)) (wl_sw n s)
def wl_tl (g : Nat → Nat) (n : Nat) : Nat → List Bool
  | 0 => []
  | i + 1 => wl_tl g n i ++ wl_sl n (g i)
theorem wl_tl_s (g : Nat → Nat) (n i : Nat) : wl_tl g n (i + 1) = wl_tl g n i ++ wl_sl n (g i) := rfl
/-- a term as a number t with len letters: what one sign more makes of it -/
theorem wl_grow {n s len t : Nat} (hn : n < 3375) (hs : s < 5) (h1 : 2 ^ len ≤ t) (h2 : t < 2 ^ (len + 1)) :
    2 ^ (len + wl_ln (wl_sw n s)) ≤ t * 2 ^ wl_ln (wl_sw n s) + wl_sw n s - 2 ^ wl_ln (wl_sw n s) ∧ t * 2 ^ wl_ln (wl_sw n s) + wl_sw n s - 2 ^ wl_ln (wl_sw n s) < 2 ^ (len + wl_ln (wl_sw n s) + 1) ∧
    wl_l (len + wl_ln (wl_sw n s)) (t * 2 ^ wl_ln (wl_sw n s) + wl_sw n s - 2 ^ wl_ln (wl_sw n s)) = wl_l len t ++ wl_sl n s := by
  have hw := wl_sw_in hn hs
  obtain ⟨a, b, c⟩ := wl_ln_in _ hw.2 hw.1
  unfold wl_sl
  generalize wl_sw n s = W at *
  generalize wl_ln W = l at *
  obtain ⟨r, rfl⟩ : ∃ r, W = 1 * 2 ^ l + r := ⟨W - 2 ^ l, by omega⟩
  have hr : r < 2 ^ l := by rw [Nat.pow_succ] at b; omega
  have e : t * 2 ^ l + (1 * 2 ^ l + r) - 2 ^ l = t * 2 ^ l + r := by omega
  have e2 : wl_l l (1 * 2 ^ l + r) = wl_l l r := by
    have := wl_l_app 0 1 l r hr
    rw [Nat.zero_add] at this
    exact this
  rw [e, e2]
  refine ⟨?_, ?_, wl_l_app len t l r hr⟩
  · rw [Nat.pow_add]
    exact Nat.le_trans (Nat.mul_le_mul_right _ h1) (Nat.le_add_right _ _)
  · rw [show len + l + 1 = len + 1 + l from by omega, Nat.pow_add]
    have h3 : (t + 1) * 2 ^ l ≤ 2 ^ (len + 1) * 2 ^ l := Nat.mul_le_mul_right _ h2
    rw [Nat.add_mul, Nat.one_mul] at h3
    omega
/-! all of the first n -/
def wl_all (p : Nat → Bool) : Nat → Bool
  | 0 => true
  | n + 1 => wl_all p n && p n
theorem wl_all_s (p : Nat → Bool) (n : Nat) : wl_all p (n + 1) = (wl_all p n && p n) := rfl
theorem wl_all_f {p : Nat → Bool} {i : Nat} (h : p i = false) : ∀ n, i < n → wl_all p n = false := by
  intro n
  induction n with
  | zero => intro z; omega
  | succ n ih =>
    intro z
    rw [wl_all_s]
    by_cases e : i = n
    · subst e; rw [h, Bool.and_false]
    · rw [ih (by omega), Bool.false_and]
theorem wl_all_congr {p q : Nat → Bool} : ∀ n, (∀ i, i < n → p i = q i) → wl_all p n = wl_all q n := by
  intro n
  induction n with
  | zero => exact fun _ => rfl
  | succ n ih => intro h; rw [wl_all_s, wl_all_s, ih (fun i hi => h i (by omega)), h n (by omega)]
/-! what is counted over the trials -/
def wl_sm (n : Nat) : Nat := wl_ln (wl_tr n 0 + 1) + wl_ln (wl_tr n 1 + 1) + wl_ln (wl_tr n 2 + 1)
theorem wl_sm_9 (n : Nat) : wl_sm n ≤ 9 := by
  have h0 := wl_ln_3 (wl_tr n 0 + 1)
  have h1 := wl_ln_3 (wl_tr n 1 + 1)
  have h2 := wl_ln_3 (wl_tr n 2 + 1)
  unfold wl_sm
  omega
def wl_M (sol : Nat → Bool) (i : Nat) : Nat → Nat
  | 0 => 0
  | n + 1 => if sol n = true then wl_M sol i n ||| 2 ^ wl_tr n i else wl_M sol i n
theorem wl_M_s (sol : Nat → Bool) (i n : Nat) : wl_M sol i (n + 1) = if sol n = true then wl_M sol i n ||| 2 ^ wl_tr n i else wl_M sol i n := rfl
theorem wl_M_lt (sol : Nat → Bool) (i : Nat) : ∀ n, n ≤ 3375 → wl_M sol i n < 2 ^ 15 := by
  intro n
  induction n with
  | zero => intro _; exact Nat.two_pow_pos 15
  | succ n ih =>
    intro h
    rw [wl_M_s]
    split
    · exact Nat.or_lt_two_pow (ih (by omega)) (Nat.pow_lt_pow_right (by decide) (wl_tr_lt (by omega) i))
    · exact ih (by omega)
def wl_S (sol : Nat → Bool) (i : Nat) : Nat → Nat
  | 0 => 0
  | n + 1 => if sol n = true then wl_S sol i n ||| 2 ^ wl_ln (wl_tr n i + 1) else wl_S sol i n
theorem wl_S_s (sol : Nat → Bool) (i n : Nat) : wl_S sol i (n + 1) = if sol n = true then wl_S sol i n ||| 2 ^ wl_ln (wl_tr n i + 1) else wl_S sol i n := rfl
theorem wl_S_lt (sol : Nat → Bool) (i : Nat) : ∀ n, wl_S sol i n < 2 ^ 4 := by
  intro n
  induction n with
  | zero => exact Nat.two_pow_pos 4
  | succ n ih =>
    rw [wl_S_s]
    split
    · exact Nat.or_lt_two_pow ih (Nat.pow_lt_pow_right (by decide) (by have := wl_ln_3 (wl_tr n i + 1); omega))
    · exact ih
theorem wl_S_M (sol : Nat → Bool) (i : Nat) : ∀ n, n ≤ 3375 → wl_S sol i n = ws_or 0 (fun w => 2 ^ wl_ln (w + 1)) (wl_M sol i n) 15 := by
  intro n
  induction n with
  | zero =>
    intro _
    exact (ws_or_no 0 _ 0 15 (fun i _ => Nat.zero_testBit i)).symm
  | succ n ih =>
    intro h
    rw [wl_S_s, wl_M_s]
    by_cases e : sol n = true
    · rw [if_pos e, if_pos e, ih (by omega)]
      apply Nat.eq_of_testBit_eq
      intro q
      have hl := wl_tr_lt (n := n) (by omega) i
      rw [Bool.eq_iff_iff, Nat.testBit_or, Bool.or_eq_true, ws_or_bit, ws_or_bit]
      constructor
      · rintro ((z | ⟨w, h1, h2, h3⟩) | z)
        · exact Or.inl z
        · exact Or.inr ⟨w, h1, by rw [Nat.testBit_or, h2, Bool.true_or], h3⟩
        · exact Or.inr ⟨wl_tr n i, hl, by rw [Nat.testBit_or, Nat.testBit_two_pow_self, Bool.or_true], z⟩
      · rintro (z | ⟨w, h1, h2, h3⟩)
        · exact Or.inl (Or.inl z)
        · rw [Nat.testBit_or, Bool.or_eq_true] at h2
          rcases h2 with h2 | h2
          · exact Or.inl (Or.inr ⟨w, h1, h2, h3⟩)
          · rw [Nat.testBit_two_pow, decide_eq_true_eq] at h2
            subst h2
            exact Or.inr h3
    · rw [if_neg e, if_neg e, ih (by omega)]
def wl_lo (z : Nat) (o : Option Nat) : Nat := match o with
  | none => z
  | some j => wl_sm j
theorem wl_lo_lt (n : Nat) (o : Option Nat) : wl_sm n < wl_lo 10 o ↔ wl_sm n < wl_lo 100 o := by
  have := wl_sm_9 n
  cases o with
  | none => show wl_sm n < 10 ↔ wl_sm n < 100; omega
  | some j => exact Iff.rfl
def wl_fs (sol : Nat → Bool) : Nat → Option Nat
  | 0 => none
  | n + 1 => if sol n = true ∧ wl_sm n < wl_lo 100 (wl_fs sol n) then some n else wl_fs sol n
theorem wl_fs_s (sol : Nat → Bool) (n : Nat) : wl_fs sol (n + 1) = if sol n = true ∧ wl_sm n < wl_lo 100 (wl_fs sol n) then some n else wl_fs sol n := rfl
theorem wl_fs_lt (sol : Nat → Bool) : ∀ n j, wl_fs sol n = some j → j < n := by
  intro n
  induction n with
  | zero => intro j h; exact absurd h (by intro z; cases z)
  | succ n ih =>
    intro j h
    rw [wl_fs_s] at h
    split at h
    · cases h; omega
    · have := ih j h; omega
theorem wl_fs_none (sol : Nat → Bool) : ∀ n, wl_fs sol n = none ↔ ws_cnt sol n = 0 := by
  intro n
  induction n with
  | zero => exact ⟨fun _ => rfl, fun _ => rfl⟩
  | succ n ih =>
    have h9 := wl_sm_9 n
    rw [wl_fs_s, ws_cnt_s]
    by_cases e : sol n = true
    · rw [if_pos e]
      constructor
      · intro h
        exfalso
        split at h
        · cases h
        · rename_i z
          apply z
          refine ⟨e, ?_⟩
          rw [h]
          show wl_sm n < 100
          omega
      · intro h; omega
    · rw [if_neg e, if_neg (fun z => e z.1)]
      exact ih
/-! one bound, one demand, a solution -/
def wl_bnd (a b c d : Int32) (n : Nat) : Bool := decide (a * nI (wl_ln (wl_tr n 0 + 1)) + b * nI (wl_ln (wl_tr n 1 + 1)) + c * nI (wl_ln (wl_tr n 2 + 1)) ≤ d)
def wl_dem (p : ws_Pat) (g : Nat → Nat) (c : Nat) (kept : Bool) (n : Nat) : Bool := wt_a p (ws_run (wt_d p) (wl_tl g n c) 64) == kept
/-! digits of a term from above, letters of a word from the first -/
theorem wl_dig {len t D : Nat} (h1 : 2 ^ len ≤ t) (h2 : t < 2 ^ (len + 1)) : t / 2 ^ (D + 1) = 0 ↔ len ≤ D := by
  rw [Nat.div_eq_zero_iff_lt (Nat.two_pow_pos _)]
  constructor
  · intro h
    rcases Nat.lt_or_ge D len with z | z
    · have : 2 ^ (D + 1) ≤ 2 ^ len := Nat.pow_le_pow_right (by decide) z
      omega
    · exact z
  · intro h
    have : 2 ^ (len + 1) ≤ 2 ^ (D + 1) := Nat.pow_le_pow_right (by decide) (by omega)
    omega
theorem wl_half (t D : Nat) : t / 2 ^ D / 2 = t / 2 ^ (D + 1) := by
  rw [Nat.div_div_eq_div_mul, Nat.pow_succ]
theorem wl_dig_s {len D : Nat} (t : Nat) (h : D < len) : wl_l (len - D) (t / 2 ^ D) = wl_l (len - (D + 1)) (t / 2 ^ (D + 1)) ++ [decide (t / 2 ^ D % 2 = 1)] := by
  rw [show len - D = (len - (D + 1)) + 1 from by omega, wl_l_s, wl_half]
theorem wl_dig_n {len D : Nat} (x y : Nat) (h : len ≤ D) : wl_l (len - D) x = wl_l (len - (D + 1)) y := by
  rw [show len - D = 0 from by omega, show len - (D + 1) = 0 from by omega]
  rfl
theorem wl_let {l n : Nat} (W : Nat) (h : n < l) : wl_l (n + 1) (W / 2 ^ (l - (n + 1))) = wl_l n (W / 2 ^ (l - n)) ++ [decide (W / 2 ^ (l - 1 - n) % 2 = 1)] := by
  rw [wl_l_s, wl_half, show l - (n + 1) + 1 = l - n from by omega, show l - (n + 1) = l - 1 - n from by omega]
end
section
/-! the pieces of the relation: each side against the same pure picture -/
def wr_b (b : Bool) : Int32 := if b = true then 1 else 0
theorem wr_b_n (b : Bool) : narrow .boolean (.int (wr_b b)) = .int (wr_b b) := by cases b <;> rfl
theorem wr_b_v (b : Bool) : vp_nar .boolean (wr_b b) = wr_b b := by cases b <;> rfl
theorem wr_b_0 (b : Bool) : wr_b b = 0 ↔ b = false := by cases b <;> decide
theorem wr_b_1 (b : Bool) : wr_b b = 1 ↔ b = true := by cases b <;> decide
theorem wr_b_e (a b : Bool) : wr_b a = wr_b b ↔ a = b := by cases a <;> cases b <;> decide
/-- a stack slot of the component -/
def wr_XL (p : ws_Pat) (s : Nat) (sz we fi la zr on fo : Nat → Int32) : Prop :=
  wt_ok p ∧ sz s = nI (wt_m p) ∧ we s = wr_b (wt_e p) ∧ fi s = nI (wt_F p) ∧ la s = nI (wt_L p) ∧ zr s = nI (wt_Z p) ∧ on s = nI (wt_O p) ∧ ∀ i, i < 6 → fo (s * 6 + i) = nI (wt_f p i)
def wr_XS (dp : Nat) (P : Nat → ws_Pat) (sz we fi la zr on fo : Nat → Int32) : Prop := ∀ s, s < dp → wr_XL (P s) s sz we fi la zr on fo
/-- the places of the component -/
def wr_XP (Q : Nat → ws_Pat) (ps st en : Nat → Int32) : Prop :=
  wt_ok3 Q ∧ (∀ k, k < 3 → ps k = nI (wt_m (Q k))) ∧ ∀ s, s < 195 → st (s * 2) = nI (wt_xd Q s false) ∧ st (s * 2 + 1) = nI (wt_xd Q s true) ∧ en s = wr_b (wt_xa Q s)
/-- a slot of the reference -/
def wr_YL (p : ws_Pat) (s : Nat) (sz em fi la le be : Nat → Int32) : Prop :=
  sz s = nI (wt_m p) ∧ em s = wr_b (wt_e p) ∧ fi s = nI (wt_F p) ∧ la s = nI (wt_L p) ∧ ∀ i, i < wt_m p → le (6 * s + i) = nI (wt_c p i) ∧ be (6 * s + i) = nI (wt_f p i)
def wr_YS (dp : Nat) (P : Nat → ws_Pat) (sz em fi la le be : Nat → Int32) : Prop := ∀ s, s < dp → wr_YL (P s) s sz em fi la le be
def wr_YT (Q : Nat → ws_Pat) (st : Nat → Int32) : Prop := ∀ k, k < 3 → ∀ n, n < 256 → st (256 * k + n) = nI (wt_d (Q k) (n / 2) (decide (n % 2 = 1)))
def wr_YP (Q : Nat → ws_Pat) (sz em fi la le be : Nat → Int32) : Prop := ∀ k, k < 3 → wr_YL (Q k) (5 + k) sz em fi la le be
/-- demands: pattern, kept, how many signs, the signs -/
abbrev wr_Dem : Type := Nat × Bool × Nat × (Nat → Nat)
def wr_XD (dc : Nat) (D : Nat → wr_Dem) (sg sc pt kp : Nat → Int32) : Prop := ∀ d, d < dc → ((D d).1 < 3 ∧ (D d).2.2.1 ≤ 4 ∧ (∀ i, i < (D d).2.2.1 → (D d).2.2.2 i < 5)) ∧ sc d = nI (D d).2.2.1 ∧ pt d = nI (D d).1 ∧ kp d = wr_b (D d).2.1 ∧ ∀ i, i < (D d).2.2.1 → sg (d * 4 + i) = nI ((D d).2.2.2 i)
def wr_YD (dc : Nat) (D : Nat → wr_Dem) (sg sc pt kp : Nat → Int32) : Prop := ∀ d, d < dc → sc d = nI (D d).2.2.1 ∧ pt d = nI (D d).1 ∧ kp d = wr_b (D d).2.1 ∧ ∀ i, i < (D d).2.2.1 → sg (4 * d + i) = nI ((D d).2.2.2 i)
def wr_T (tc : Nat) (g : Nat → Nat) (a : Nat → Int32) : Prop := ∀ i, i < tc → a i = nI (g i)
def wr_XB (bc : Nat) (B : Nat → Int32) (a b c d : Nat → Int32) : Prop := ∀ i, i < bc → a i = B (4 * i) ∧ b i = B (4 * i + 1) ∧ c i = B (4 * i + 2) ∧ d i = B (4 * i + 3)
def wr_YB (bc : Nat) (B : Nat → Int32) (bs : Nat → Int32) : Prop := ∀ j, j < 4 * bc → bs j = B j
def wr_bok (B : Nat → Int32) (n b : Nat) : Bool := wl_bnd (B (4 * b)) (B (4 * b + 1)) (B (4 * b + 2)) (B (4 * b + 3)) n
def wr_dok (Q : Nat → ws_Pat) (D : Nat → wr_Dem) (n d : Nat) : Bool := wl_dem (Q (D d).1) (D d).2.2.2 (D d).2.2.1 (D d).2.1 n
def wr_sol (Q : Nat → ws_Pat) (dc : Nat) (D : Nat → wr_Dem) (bc : Nat) (B : Nat → Int32) (n : Nat) : Bool := wl_all (wr_bok B n) bc && wl_all (wr_dok Q D n) dc
/-- what the reference has gathered -/
def wr_C (sol : Nat → Bool) (n : Nat) (fd ls : Int32) (fw sm mt : Nat → Int32) : Prop :=
  fd = nI (ws_cnt sol n) ∧ ls = nI (wl_lo 100 (wl_fs sol n)) ∧ (∀ j, wl_fs sol n = some j → ∀ i, i < 3 → fw i = nI (wl_tr j i)) ∧ (∀ t, t < 10 → sm t = nI (ws_cnt (fun j => sol j && decide (wl_sm j = t)) n)) ∧ ∀ i, i < 3 → mt i = nI (wl_M sol i n)
def wr_P (f : Nat → ws_Pat) (k : Nat) (p : ws_Pat) : Nat → ws_Pat := fun j => if j = k then p else f j
def wr_D (f : Nat → wr_Dem) (k : Nat) (p : wr_Dem) : Nat → wr_Dem := fun j => if j = k then p else f j
theorem wr_Ps (f : Nat → ws_Pat) (k : Nat) (p : ws_Pat) : wr_P f k p k = p := if_pos rfl
theorem wr_Pn (f : Nat → ws_Pat) (p : ws_Pat) {k j : Nat} (h : j ≠ k) : wr_P f k p j = f j := if_neg h
theorem wr_Ds (f : Nat → wr_Dem) (k : Nat) (p : wr_Dem) : wr_D f k p k = p := if_pos rfl
theorem wr_Dn (f : Nat → wr_Dem) (p : wr_Dem) {k j : Nat} (h : j ≠ k) : wr_D f k p j = f j := if_neg h
theorem wr_XL_c {p : ws_Pat} {s : Nat} {sz we fi la zr on fo sz' we' fi' la' zr' on' fo' : Nat → Int32} (h : wr_XL p s sz we fi la zr on fo) (h1 : sz' s = sz s) (h2 : we' s = we s) (h3 : fi' s = fi s) (h4 : la' s = la s) (h5 : zr' s = zr s) (h6 : on' s = on s) (h7 : ∀ i, i < 6 → fo' (s * 6 + i) = fo (s * 6 + i)) : wr_XL p s sz' we' fi' la' zr' on' fo' :=
  ⟨h.1, h1.trans h.2.1, h2.trans h.2.2.1, h3.trans h.2.2.2.1, h4.trans h.2.2.2.2.1, h5.trans h.2.2.2.2.2.1, h6.trans h.2.2.2.2.2.2.1, fun i hi => (h7 i hi).trans (h.2.2.2.2.2.2.2 i hi)⟩
theorem wr_YL_c {p : ws_Pat} {s : Nat} {sz em fi la le be sz' em' fi' la' le' be' : Nat → Int32} (h : wr_YL p s sz em fi la le be) (hm : wt_m p ≤ 6) (h1 : sz' s = sz s) (h2 : em' s = em s) (h3 : fi' s = fi s) (h4 : la' s = la s) (h5 : ∀ i, i < 6 → le' (6 * s + i) = le (6 * s + i)) (h6 : ∀ i, i < 6 → be' (6 * s + i) = be (6 * s + i)) : wr_YL p s sz' em' fi' la' le' be' :=
  ⟨h1.trans h.1, h2.trans h.2.1, h3.trans h.2.2.1, h4.trans h.2.2.2.1, fun i hi => ⟨(h5 i (by omega)).trans (h.2.2.2.2 i hi).1, (h6 i (by omega)).trans (h.2.2.2.2 i hi).2⟩⟩
/-! bits of numbers as the code asks for them -/
theorem wr_or (a b : Nat) : nI a ||| nI b = nI (a ||| b) := by
  apply Int32.toBitVec_inj.1
  show BitVec.ofNat 32 a ||| BitVec.ofNat 32 b = BitVec.ofNat 32 (a ||| b)
  apply BitVec.eq_of_getLsbD_eq
  intro i hi
  simp [hi]
theorem wr_shl {a k : Nat} (hk : k < 32) (h : a * 2 ^ k < 2 ^ 32) : nI a <<< (nI k &&& 31) = nI (a * 2 ^ k) := pk_shlN _ k (s_l k hk) h
theorem wr_shr {a k : Nat} (hk : k < 32) (h : a < 2 ^ 31) : nI a >>> (nI k &&& 31) = nI (a / 2 ^ k) := pk_shrN h _ k (s_l k hk)
theorem wr_a1 (a : Nat) : nI a &&& 1 = nI (a % 2) := by
  show nI a &&& nI 1 = _
  rw [nx_and, Nat.and_one_is_mod]
theorem wr_bit {a k : Nat} (hk : k < 32) (h : a < 2 ^ 31) : nI a >>> (nI k &&& 31) &&& 1 = nI (a / 2 ^ k % 2) := by
  rw [wr_shr hk h, wr_a1]
theorem wr_bit1 {a k : Nat} (hk : k < 32) (h : a < 2 ^ 31) : nI a >>> (nI k &&& 31) &&& 1 = 1 ↔ a.testBit k = true := by
  rw [wr_bit hk h, show (1 : Int32) = nI 1 from rfl, nI_eq (by omega) (by omega), Nat.testBit_eq_decide_div_mod_eq, decide_eq_true_eq]
theorem wr_one {k : Nat} (hk : k < 31) : (1 : Int32) <<< (nI k &&& 31) = nI (2 ^ k) := by
  have h2 : 2 ^ k < 2 ^ 32 := Nat.pow_lt_pow_right (by decide) (by omega)
  have := wr_shl (a := 1) (k := k) (by omega) (by rw [Nat.one_mul]; exact h2)
  rw [Nat.one_mul] at this
  exact this
theorem wr_clr : ∀ t, t < 64 → ∀ i, i < 6 → nI t &&& ((1 : Int32) <<< (nI i &&& 31) ^^^ (-1)) = nI (t &&& (63 - 2 ^ i)) := by decide +kernel
/-! the reference takes the positions out that don't read the letter, one by one -/
def wy_fit (X R : Nat) : Nat → Nat
  | 0 => X
  | i + 1 => if R.testBit i = true then wy_fit X R i else wy_fit X R i &&& (63 - 2 ^ i)
theorem wy_fit_s (X R i : Nat) : wy_fit X R (i + 1) = if R.testBit i = true then wy_fit X R i else wy_fit X R i &&& (63 - 2 ^ i) := rfl
theorem wy_63 : ∀ i, i < 6 → ∀ q, q < 6 → (63 - 2 ^ i).testBit q = decide (q ≠ i) := by decide +kernel
theorem wy_fit_lt {X : Nat} (R : Nat) (hX : X < 64) : ∀ i, wy_fit X R i < 64 := by
  intro i
  induction i with
  | zero => exact hX
  | succ i ih =>
    rw [wy_fit_s]
    split
    · exact ih
    · exact Nat.lt_of_le_of_lt Nat.and_le_left ih
theorem wy_fit_bit {X : Nat} (R : Nat) (hX : X < 64) : ∀ i, i ≤ 6 → ∀ q, q < 6 → (wy_fit X R i).testBit q = (X.testBit q && (decide (i ≤ q) || R.testBit q)) := by
  intro i
  induction i with
  | zero => intro _ q _; show X.testBit q = _; rw [decide_eq_true (Nat.zero_le q), Bool.true_or, Bool.and_true]
  | succ i ih =>
    intro hi q hq
    have h1 := ih (by omega) q hq
    rw [wy_fit_s]
    by_cases e : R.testBit i = true
    · rw [if_pos e, h1]
      by_cases z : q = i
      · subst z; rw [e, Bool.or_true, Bool.or_true]
      · have : decide (i ≤ q) = decide (i + 1 ≤ q) := by rw [decide_eq_decide]; omega
        rw [this]
    · rw [if_neg e, Nat.testBit_and, h1, wy_63 i (by omega) q hq]
      by_cases z : q = i
      · subst z
        rw [decide_eq_false (by omega : ¬ q ≠ q), Bool.and_false, decide_eq_false (by omega : ¬ q + 1 ≤ q), Bool.false_or, Bool.eq_false_iff.mpr e, Bool.and_false]
      · have : decide (i ≤ q) = decide (i + 1 ≤ q) := by rw [decide_eq_decide]; omega
        rw [decide_eq_true z, Bool.and_true, this]
theorem wy_fit_eq {X R m : Nat} (hm : m ≤ 6) (hX : X < 2 ^ m) : wy_fit X R m = X &&& R := by
  have h64 : X < 64 := Nat.lt_of_lt_of_le hX (Nat.pow_le_pow_right (n := 2) (by decide) hm)
  apply Nat.eq_of_testBit_eq
  intro q
  rw [Nat.testBit_and]
  by_cases hq : q < 6
  · rw [wy_fit_bit R h64 m hm q hq]
    by_cases z : m ≤ q
    · rw [Nat.testBit_lt_two_pow (Nat.lt_of_lt_of_le hX (Nat.pow_le_pow_right (by decide) z)), Bool.false_and, Bool.false_and]
    · rw [decide_eq_false z, Bool.false_or]
  · have e : 64 ≤ 2 ^ q := Nat.pow_le_pow_right (n := 2) (i := 6) (j := q) (by decide) (show 6 ≤ q by omega)
    rw [Nat.testBit_lt_two_pow (Nat.lt_of_lt_of_le (wy_fit_lt R h64 m) e), Nat.testBit_lt_two_pow (Nat.lt_of_lt_of_le h64 e), Bool.false_and]
end
section
/-! terms that meet the printed steps -/
theorem wz_st {a : Nat → Int32} {x v : Int32} {P : (Nat → Int32) → Prop} {N : Nat} (j : Nat) (v' : Int32) (h : P (upd a j v')) (hj : j < N := by omega) (hx : x = nI j := by rfl) (hv : v = v' := by rfl) (hN : N < 2 ^ 31 := by decide) : vp_in x N ∧ ∀ a', a' = upd a x.toNatClampNeg v → P a' := by
  subst hx hv
  rw [nI_clamp (by omega)]
  exact ⟨vp_in_nI hj hN, nm_e h⟩
theorem wz_ld {a : Nat → Int32} {x : Int32} {P : Int32 → Prop} {N : Nat} (j : Nat) (y : Int32) (h : P y) (hj : j < N := by omega) (hx : x = nI j := by rfl) (hy : a j = y := by rfl) (hN : N < 2 ^ 31 := by decide) : vp_in x N ∧ ∀ y', y' = a x.toNatClampNeg → P y' := by
  subst hx hy
  rw [nI_clamp (by omega)]
  exact ⟨vp_in_nI hj hN, nm_e h⟩
theorem wz_in {x : Int32} {A : Prop} {N : Nat} (j : Nat) (h : A) (hj : j < N := by omega) (hx : x = nI j := by rfl) (hN : N < 2 ^ 31 := by decide) : vp_in x N ∧ A := by
  subst hx
  exact ⟨vp_in_nI hj hN, h⟩
theorem wz_at {a : Nat → Int32} {x y : Int32} (j : Nat) (hy : a j = y) (hx : x = nI j := by rfl) (hj : j < 2 ^ 31 := by omega) : a x.toNatClampNeg = y := by
  subst hx
  rw [nI_clamp hj]
  exact hy
theorem wz_if {y : Int32} {A B : Prop} (b : Bool) (f : b = false → A) (g : b = true → B) (hy : y = wr_b b := by rfl) : (y = 0 → A) ∧ (¬ y = 0 → B) := by
  subst hy
  rw [wr_b_0]
  exact ⟨f, fun z => g (by cases b <;> simp at z ⊢)⟩
theorem wz_if1 {y : Int32} {A B : Prop} (b : Bool) (f : b = true → A) (g : b = false → B) (hy : y = wr_b b := by rfl) : (y = 1 → A) ∧ (¬ y = 1 → B) := by
  subst hy
  rw [wr_b_1]
  exact ⟨f, fun z => g (by cases b <;> simp at z ⊢)⟩
theorem wz_tb {y : Int32} {A B : Prop} (b : Bool) (f : b = true → A) (g : b = false → B) (hy : y = 1 ↔ b = true) : (y = 1 → A) ∧ (¬ y = 1 → B) := by
  rw [hy]
  exact ⟨f, fun z => g (by cases b <;> simp at z ⊢)⟩
theorem wz_c {c d A B : Prop} (hc : c ↔ d) (f : d → A) (g : ¬ d → B) : (c → A) ∧ (¬ c → B) := by
  rw [hc]
  exact ⟨f, g⟩
theorem wz_v {P : Int32 → Prop} {x y : Int32} (e : x = y) (h : P y) : P x := e ▸ h
theorem wz_lit (a n : Nat) : nI a * nI n + nI 0 = nI (a * n) := by rw [pk_mul, nI_add, Nat.add_zero]
theorem wz_ma (a m b : Nat) : nI a * nI m + nI b = nI (a * m + b) := by rw [pk_mul, nI_add]
theorem wz_am (m a b : Nat) : nI m * nI a + nI b = nI (m * a + b) := wz_ma m a b
theorem wz_m6 (a b : Nat) : nI a * 6 + nI b = nI (a * 6 + b) := wz_ma a 6 b
theorem wz_m4 (a b : Nat) : nI a * 4 + nI b = nI (a * 4 + b) := wz_ma a 4 b
theorem wz_m2 (a : Nat) : nI a * 2 = nI (a * 2) := pk_mul a 2
theorem wz_m21 (a : Nat) : nI a * 2 + 1 = nI (a * 2 + 1) := wz_ma a 2 1
theorem wz_m65 (a : Nat) : nI a * 65 = nI (a * 65) := pk_mul a 65
theorem wz_m64 (a : Nat) : nI a * 65 + 64 = nI (a * 65 + 64) := wz_ma a 65 64
theorem wz_6m (a b : Nat) : (6 : Int32) * nI a + nI b = nI (6 * a + b) := wz_am 6 a b
theorem wz_6 (a : Nat) : (6 : Int32) * nI a = nI (6 * a) := pk_mul 6 a
theorem wz_5 (a : Nat) : (5 : Int32) + nI a = nI (5 + a) := nI_add 5 a
theorem wz_256 (a b : Nat) : (256 : Int32) * nI a + nI b = nI (256 * a + b) := wz_am 256 a b
theorem wz_128 (a b : Nat) : (128 : Int32) * nI a + nI b = nI (128 * a + b) := wz_am 128 a b
theorem wz_4m (a b : Nat) : (4 : Int32) * nI a + nI b = nI (4 * a + b) := wz_am 4 a b
theorem wz_d2 {a : Nat} (h : a < 2 ^ 31) : nI a / 2 = nI (a / 2) := pk_div (d := 2) h (by decide) (by decide)
theorem wz_r2 {a : Nat} (h : a < 2 ^ 31) : nI a - nI a / 2 * 2 = nI (a % 2) := pk_rem (d := 2) h (by decide) (by decide)
theorem wz_d128 {a : Nat} (h : a < 2 ^ 31) : nI a / 128 = nI (a / 128) := pk_div (d := 128) h (by decide) (by decide)
theorem wz_r128 {a : Nat} (h : a < 2 ^ 31) : nI a - nI a / 128 * 128 = nI (a % 128) := pk_rem (d := 128) h (by decide) (by decide)
theorem wz_d256 {a : Nat} (h : a < 2 ^ 31) : nI a / 256 = nI (a / 256) := pk_div (d := 256) h (by decide) (by decide)
end
section
/-! the component: the start, simple -/
section
variable {f_stacked f_signCount f_demandCount f_boundCount : Int32} {a_sizes a_withEmpty a_firsts a_lasts a_zeroReaders a_oneReaders a_followers a_placedSizes a_steps a_ends a_ways a_nextWays a_groups a_finerGroups a_reached a_signs a_demandSigns a_demandSignCounts a_demandPatterns a_demandKept a_boundA a_boundB a_boundC a_boundD : Nat → Int32}
theorem xa_pe {post : SX → Prop} {k : Nat} (hk : k < 3) (K : ∀ st : Nat → Int32, (∀ s, s < (k + 1) * 65 → st (s * 2) = nI (65 * (s / 65)) ∧ st (s * 2 + 1) = nI (65 * (s / 65))) → post (f_stacked, f_signCount, f_demandCount, f_boundCount, a_sizes, a_withEmpty, a_firsts, a_lasts, a_zeroReaders, a_oneReaders, a_followers, a_placedSizes, st, (upd a_ends (k * 65 + 64) 1), a_ways, a_nextWays, a_groups, a_finerGroups, a_reached, a_signs, a_demandSigns, a_demandSignCounts, a_demandPatterns, a_demandKept, a_boundA, a_boundB, a_boundC, a_boundD)) (h : ∀ s, s < k * 65 → a_steps (s * 2) = nI (65 * (s / 65)) ∧ a_steps (s * 2 + 1) = nI (65 * (s / 65))) : wpX_placeEmpty post (f_stacked, f_signCount, f_demandCount, f_boundCount, a_sizes, a_withEmpty, a_firsts, a_lasts, a_zeroReaders, a_oneReaders, a_followers, a_placedSizes, a_steps, a_ends, a_ways, a_nextWays, a_groups, a_finerGroups, a_reached, a_signs, a_demandSigns, a_demandSignCounts, a_demandPatterns, a_demandKept, a_boundA, a_boundB, a_boundC, a_boundD) (nI k) := by
  refine nm_r (e' := nI (k * 65)) (wz_m65 k) ?_
  refine pk_loop (fun n i st => wX_placeEmpty_5 post (nI k) f_stacked f_signCount f_demandCount f_boundCount n (nI i) a_sizes a_withEmpty a_firsts a_lasts a_zeroReaders a_oneReaders a_followers a_placedSizes st a_ends a_ways a_nextWays a_groups a_finerGroups a_reached a_signs a_demandSigns a_demandSignCounts a_demandPatterns a_demandKept a_boundA a_boundB a_boundC a_boundD) (fun i st => k * 65 ≤ i ∧ ∀ s, s < i → st (s * 2) = nI (65 * (s / 65)) ∧ st (s * 2 + 1) = nI (65 * (s / 65))) ((k + 1) * 65) (k * 65) a_steps (by omega) ⟨Nat.le_refl _, h⟩ ?_ ?_
  · intro n st I
    have e1 : (nI k + 1) * 65 = nI ((k + 1) * 65) := by rw [nI_1]; exact pk_mul (k + 1) 65
    exact br_t (by rw [e1]; exact nI_le (Nat.le_refl _) (by omega)) (wz_st (k * 65 + 64) 1 (K st I.2) (by omega) (wz_m64 k) rfl)
  · intro n i st hi I ih
    have e1 : (nI k + 1) * 65 = nI ((k + 1) * 65) := by rw [nI_1]; exact pk_mul (k + 1) 65
    refine br_f (by rw [e1]; exact nI_ge hi (by omega)) (wz_st (i * 2) (nI (k * 65)) (wz_st (i * 2 + 1) (nI (k * 65)) (nm_r (nI_1 i) (ih _ ⟨by omega, ?_⟩)) (by omega) (wz_m21 i) (wz_m65 k)) (by omega) (wz_m2 i) (wz_m65 k))
    intro s hs
    by_cases z : s = i
    · subst z
      rw [pk_us, pk_un (by omega), pk_us, show 65 * (s / 65) = k * 65 from by omega]
      exact ⟨rfl, rfl⟩
    · rw [pk_un (by omega), pk_un (by omega), pk_un (by omega), pk_un (by omega)]
      exact I.2 s (by omega)
theorem xa_cf {post : SX → Prop} {s : Nat} (hs : s < 5) (K : ∀ fo : Nat → Int32, (∀ i, i < 6 → fo (s * 6 + i) = 0) → (∀ j, j < s * 6 → fo j = a_followers j) → post (f_stacked, f_signCount, f_demandCount, f_boundCount, a_sizes, a_withEmpty, a_firsts, a_lasts, a_zeroReaders, a_oneReaders, fo, a_placedSizes, a_steps, a_ends, a_ways, a_nextWays, a_groups, a_finerGroups, a_reached, a_signs, a_demandSigns, a_demandSignCounts, a_demandPatterns, a_demandKept, a_boundA, a_boundB, a_boundC, a_boundD)) : wpX_clearFollowers post (f_stacked, f_signCount, f_demandCount, f_boundCount, a_sizes, a_withEmpty, a_firsts, a_lasts, a_zeroReaders, a_oneReaders, a_followers, a_placedSizes, a_steps, a_ends, a_ways, a_nextWays, a_groups, a_finerGroups, a_reached, a_signs, a_demandSigns, a_demandSignCounts, a_demandPatterns, a_demandKept, a_boundA, a_boundB, a_boundC, a_boundD) (nI s) := by
  refine pk_loop (fun n i fo => wX_clearFollowers_2 post (nI s) f_stacked f_signCount f_demandCount f_boundCount n (nI i) a_sizes a_withEmpty a_firsts a_lasts a_zeroReaders a_oneReaders fo a_placedSizes a_steps a_ends a_ways a_nextWays a_groups a_finerGroups a_reached a_signs a_demandSigns a_demandSignCounts a_demandPatterns a_demandKept a_boundA a_boundB a_boundC a_boundD) (fun i fo => (∀ j, j < i → fo (s * 6 + j) = 0) ∧ ∀ j, j < s * 6 → fo j = a_followers j) 6 0 a_followers (by omega) ⟨fun j hj => absurd hj (by omega), fun _ _ => rfl⟩ ?_ ?_
  · intro n fo I
    exact br_t (nI_le (a := 6) (b := 6) (by omega) (by omega)) (K fo I.1 I.2)
  · intro n i fo hi I ih
    refine br_f (nI_ge (b := 6) hi (by omega)) (wz_st (s * 6 + i) 0 (nm_r (nI_1 i) (ih _ ⟨?_, ?_⟩)) (by omega) (wz_m6 s i) rfl)
    · intro j hj
      by_cases z : j = i
      · subst z; exact pk_us
      · rw [pk_un (by omega)]; exact I.1 j (by omega)
    · intro j hj
      rw [pk_un (by omega)]; exact I.2 j hj
theorem xa_push {dp : Nat} {P : Nat → ws_Pat} {p : ws_Pat} {sz we fi la zr on fo fo' : Nat → Int32} (S : wr_XS dp P sz we fi la zr on fo) (hp : wt_ok p) (hz : ∀ i, wt_f p i = 0) (h1 : ∀ i, i < 6 → fo' (dp * 6 + i) = 0) (h2 : ∀ j, j < dp * 6 → fo' j = fo j) : wr_XS (dp + 1) (wr_P P dp p) (upd sz dp (nI (wt_m p))) (upd we dp (wr_b (wt_e p))) (upd fi dp (nI (wt_F p))) (upd la dp (nI (wt_L p))) (upd zr dp (nI (wt_Z p))) (upd on dp (nI (wt_O p))) fo' := by
  intro s hs
  by_cases z : s = dp
  · subst z
    rw [wr_Ps]
    exact ⟨hp, pk_us, pk_us, pk_us, pk_us, pk_us, pk_us, fun i hi => by rw [h1 i hi, hz]; rfl⟩
  · rw [wr_Pn _ _ z]
    exact wr_XL_c (S s (by omega)) (pk_un z) (pk_un z) (pk_un z) (pk_un z) (pk_un z) (pk_un z) (fun i hi => h2 _ (by omega))
theorem xa_128 {post : Int32 → SX → Prop} {dp : Nat} (hd : dp < 5) (z : Int32) (K : ∀ fo : Nat → Int32, (∀ i, i < 6 → fo (dp * 6 + i) = 0) → (∀ j, j < dp * 6 → fo j = a_followers j) → post (nI (dp + 1)) ((nI (dp + 1)), f_signCount, f_demandCount, f_boundCount, a_sizes, a_withEmpty, a_firsts, a_lasts, a_zeroReaders, (upd a_oneReaders dp z), fo, a_placedSizes, a_steps, a_ends, a_ways, a_nextWays, a_groups, a_finerGroups, a_reached, a_signs, a_demandSigns, a_demandSignCounts, a_demandPatterns, a_demandKept, a_boundA, a_boundB, a_boundC, a_boundD)) : wX_simple_128 post z (nI dp) (nI dp) f_signCount f_demandCount f_boundCount a_sizes a_withEmpty a_firsts a_lasts a_zeroReaders a_oneReaders a_followers a_placedSizes a_steps a_ends a_ways a_nextWays a_groups a_finerGroups a_reached a_signs a_demandSigns a_demandSignCounts a_demandPatterns a_demandKept a_boundA a_boundB a_boundC a_boundD :=
  wz_st dp z (xa_cf hd (fun fo h1 h2 => nm_r (nI_1 dp) (K fo h1 h2)))
theorem xa_sim0 {post : Int32 → SX → Prop} {dp : Nat} {P : Nat → ws_Pat} (hd : dp < 5) (S : wr_XS dp P a_sizes a_withEmpty a_firsts a_lasts a_zeroReaders a_oneReaders a_followers) (K : ∀ sz we fi la zr on fo : Nat → Int32, wr_XS (dp + 1) (wr_P P dp (wt_sim 0)) sz we fi la zr on fo → post (nI (dp + 1)) ((nI (dp + 1)), f_signCount, f_demandCount, f_boundCount, sz, we, fi, la, zr, on, fo, a_placedSizes, a_steps, a_ends, a_ways, a_nextWays, a_groups, a_finerGroups, a_reached, a_signs, a_demandSigns, a_demandSignCounts, a_demandPatterns, a_demandKept, a_boundA, a_boundB, a_boundC, a_boundD)) : wpX_simple post ((nI dp), f_signCount, f_demandCount, f_boundCount, a_sizes, a_withEmpty, a_firsts, a_lasts, a_zeroReaders, a_oneReaders, a_followers, a_placedSizes, a_steps, a_ends, a_ways, a_nextWays, a_groups, a_finerGroups, a_reached, a_signs, a_demandSigns, a_demandSignCounts, a_demandPatterns, a_demandKept, a_boundA, a_boundB, a_boundC, a_boundD) (nI 0) :=
  br_f (by decide) (br_t (by decide) (br_t (nI_lt (b := 5) hd (by decide)) (br_f (by decide) (wz_st dp 1 (br_f (by decide) (wz_st dp 0 (wz_st dp 1 (wz_st dp 1 (br_t (by decide) (wz_st dp 1 (br_f (by decide) (br_f (by decide) (xa_128 hd 0 (fun fo h1 h2 => K _ _ _ _ _ _ _ (xa_push S (wt_sim_ok (w := 0) (by decide)) (fun _ => rfl) h1 h2)))))))))))))))
theorem xa_sim1 {post : Int32 → SX → Prop} {dp : Nat} {P : Nat → ws_Pat} (hd : dp < 5) (S : wr_XS dp P a_sizes a_withEmpty a_firsts a_lasts a_zeroReaders a_oneReaders a_followers) (K : ∀ sz we fi la zr on fo : Nat → Int32, wr_XS (dp + 1) (wr_P P dp (wt_sim 1)) sz we fi la zr on fo → post (nI (dp + 1)) ((nI (dp + 1)), f_signCount, f_demandCount, f_boundCount, sz, we, fi, la, zr, on, fo, a_placedSizes, a_steps, a_ends, a_ways, a_nextWays, a_groups, a_finerGroups, a_reached, a_signs, a_demandSigns, a_demandSignCounts, a_demandPatterns, a_demandKept, a_boundA, a_boundB, a_boundC, a_boundD)) : wpX_simple post ((nI dp), f_signCount, f_demandCount, f_boundCount, a_sizes, a_withEmpty, a_firsts, a_lasts, a_zeroReaders, a_oneReaders, a_followers, a_placedSizes, a_steps, a_ends, a_ways, a_nextWays, a_groups, a_finerGroups, a_reached, a_signs, a_demandSigns, a_demandSignCounts, a_demandPatterns, a_demandKept, a_boundA, a_boundB, a_boundC, a_boundD) (nI 1) :=
  br_f (by decide) (br_t (by decide) (br_t (nI_lt (b := 5) hd (by decide)) (br_f (by decide) (wz_st dp 1 (br_f (by decide) (wz_st dp 0 (wz_st dp 1 (wz_st dp 1 (br_f (by decide) (br_f (by decide) (wz_st dp 0 (br_t (by decide) (xa_128 hd 1 (fun fo h1 h2 => K _ _ _ _ _ _ _ (xa_push S (wt_sim_ok (w := 1) (by decide)) (fun _ => rfl) h1 h2)))))))))))))))
theorem xa_sim2 {post : Int32 → SX → Prop} {dp : Nat} {P : Nat → ws_Pat} (hd : dp < 5) (S : wr_XS dp P a_sizes a_withEmpty a_firsts a_lasts a_zeroReaders a_oneReaders a_followers) (K : ∀ sz we fi la zr on fo : Nat → Int32, wr_XS (dp + 1) (wr_P P dp (wt_sim 2)) sz we fi la zr on fo → post (nI (dp + 1)) ((nI (dp + 1)), f_signCount, f_demandCount, f_boundCount, sz, we, fi, la, zr, on, fo, a_placedSizes, a_steps, a_ends, a_ways, a_nextWays, a_groups, a_finerGroups, a_reached, a_signs, a_demandSigns, a_demandSignCounts, a_demandPatterns, a_demandKept, a_boundA, a_boundB, a_boundC, a_boundD)) : wpX_simple post ((nI dp), f_signCount, f_demandCount, f_boundCount, a_sizes, a_withEmpty, a_firsts, a_lasts, a_zeroReaders, a_oneReaders, a_followers, a_placedSizes, a_steps, a_ends, a_ways, a_nextWays, a_groups, a_finerGroups, a_reached, a_signs, a_demandSigns, a_demandSignCounts, a_demandPatterns, a_demandKept, a_boundA, a_boundB, a_boundC, a_boundD) (nI 2) :=
  br_f (by decide) (br_t (by decide) (br_t (nI_lt (b := 5) hd (by decide)) (br_f (by decide) (wz_st dp 1 (br_f (by decide) (wz_st dp 0 (wz_st dp 1 (wz_st dp 1 (br_f (by decide) (br_t (by decide) (wz_st dp 1 (br_f (by decide) (br_t (by decide) (xa_128 hd 1 (fun fo h1 h2 => K _ _ _ _ _ _ _ (xa_push S (wt_sim_ok (w := 2) (by decide)) (fun _ => rfl) h1 h2))))))))))))))))
theorem xa_sim3 {post : Int32 → SX → Prop} {dp : Nat} {P : Nat → ws_Pat} (hd : dp < 5) (S : wr_XS dp P a_sizes a_withEmpty a_firsts a_lasts a_zeroReaders a_oneReaders a_followers) (K : ∀ sz we fi la zr on fo : Nat → Int32, wr_XS (dp + 1) (wr_P P dp (wt_sim 3)) sz we fi la zr on fo → post (nI (dp + 1)) ((nI (dp + 1)), f_signCount, f_demandCount, f_boundCount, sz, we, fi, la, zr, on, fo, a_placedSizes, a_steps, a_ends, a_ways, a_nextWays, a_groups, a_finerGroups, a_reached, a_signs, a_demandSigns, a_demandSignCounts, a_demandPatterns, a_demandKept, a_boundA, a_boundB, a_boundC, a_boundD)) : wpX_simple post ((nI dp), f_signCount, f_demandCount, f_boundCount, a_sizes, a_withEmpty, a_firsts, a_lasts, a_zeroReaders, a_oneReaders, a_followers, a_placedSizes, a_steps, a_ends, a_ways, a_nextWays, a_groups, a_finerGroups, a_reached, a_signs, a_demandSigns, a_demandSignCounts, a_demandPatterns, a_demandKept, a_boundA, a_boundB, a_boundC, a_boundD) (nI 3) :=
  br_f (by decide) (br_t (by decide) (br_t (nI_lt (b := 5) hd (by decide)) (br_t (by decide) (wz_st dp 0 (br_t (by decide) (wz_st dp 1 (wz_st dp 0 (wz_st dp 0 (br_f (by decide) (br_f (by decide) (wz_st dp 0 (br_f (by decide) (br_f (by decide) (xa_128 hd 0 (fun fo h1 h2 => K _ _ _ _ _ _ _ (xa_push S (wt_sim_ok (w := 3) (by decide)) (fun _ => rfl) h1 h2))))))))))))))))
end
end
section
/-! the component: many, then, or -/
section
variable {f_stacked f_signCount f_demandCount f_boundCount : Int32} {a_sizes a_withEmpty a_firsts a_lasts a_zeroReaders a_oneReaders a_followers a_placedSizes a_steps a_ends a_ways a_nextWays a_groups a_finerGroups a_reached a_signs a_demandSigns a_demandSignCounts a_demandPatterns a_demandKept a_boundA a_boundB a_boundC a_boundD : Nat → Int32}
theorem xb_af {post : SX → Prop} {s : Nat} (L F : Nat) {x y : Int32} (hx : x = nI L) (hy : y = nI F) (hs : s < 5) (hL : L < 2 ^ 31) (f : Nat → Nat) (hf : ∀ i, i < 6 → a_followers (s * 6 + i) = nI (f i)) (K : ∀ fo : Nat → Int32, (∀ i, i < 6 → fo (s * 6 + i) = nI (if L.testBit i = true then f i ||| F else f i)) → (∀ j, (∀ i, i < 6 → j ≠ s * 6 + i) → fo j = a_followers j) → post (f_stacked, f_signCount, f_demandCount, f_boundCount, a_sizes, a_withEmpty, a_firsts, a_lasts, a_zeroReaders, a_oneReaders, fo, a_placedSizes, a_steps, a_ends, a_ways, a_nextWays, a_groups, a_finerGroups, a_reached, a_signs, a_demandSigns, a_demandSignCounts, a_demandPatterns, a_demandKept, a_boundA, a_boundB, a_boundC, a_boundD)) : wpX_addFollowers post (f_stacked, f_signCount, f_demandCount, f_boundCount, a_sizes, a_withEmpty, a_firsts, a_lasts, a_zeroReaders, a_oneReaders, a_followers, a_placedSizes, a_steps, a_ends, a_ways, a_nextWays, a_groups, a_finerGroups, a_reached, a_signs, a_demandSigns, a_demandSignCounts, a_demandPatterns, a_demandKept, a_boundA, a_boundB, a_boundC, a_boundD) (nI s) x y := by
  subst hx hy
  refine pk_loop (fun n i fo => wX_addFollowers_3 post (nI s) (nI L) (nI F) f_stacked f_signCount f_demandCount f_boundCount n (nI i) a_sizes a_withEmpty a_firsts a_lasts a_zeroReaders a_oneReaders fo a_placedSizes a_steps a_ends a_ways a_nextWays a_groups a_finerGroups a_reached a_signs a_demandSigns a_demandSignCounts a_demandPatterns a_demandKept a_boundA a_boundB a_boundC a_boundD) (fun i fo => (∀ j, j < i → fo (s * 6 + j) = nI (if L.testBit j = true then f j ||| F else f j)) ∧ (∀ j, i ≤ j → j < 6 → fo (s * 6 + j) = nI (f j)) ∧ ∀ j, (∀ i, i < 6 → j ≠ s * 6 + i) → fo j = a_followers j) 6 0 a_followers (by omega) ⟨fun j hj => absurd hj (by omega), fun j _ hj => hf j hj, fun _ _ => rfl⟩ ?_ ?_
  · intro n fo I
    exact br_t (nI_le (a := 6) (b := 6) (by omega) (by omega)) (K fo I.1 I.2.2)
  · intro n i fo hi I ih
    refine br_f (nI_ge (b := 6) hi (by omega)) (wz_tb (L.testBit i) (fun z => ?_) (fun z => ?_) (wr_bit1 (by omega) hL))
    · refine wz_in (s * 6 + i) (wz_st (s * 6 + i) (nI (f i ||| F)) (nm_r (nI_1 i) (ih _ ⟨?_, ?_, ?_⟩)) (by omega) (wz_m6 s i) ?_) (by omega) (wz_m6 s i)
      · intro j hj
        by_cases e : j = i
        · subst e; rw [pk_us, if_pos z]
        · rw [pk_un (by omega)]; exact I.1 j (by omega)
      · intro j h1 h2
        rw [pk_un (by omega)]; exact I.2.1 j (by omega) h2
      · intro j hj
        rw [pk_un (hj i hi)]; exact I.2.2 j hj
      · rw [wz_at (s * 6 + i) (I.2.1 i (Nat.le_refl i) hi) (wz_m6 s i), wr_or]
    · refine nm_r (nI_1 i) (ih _ ⟨?_, ?_, I.2.2⟩)
      · intro j hj
        by_cases e : j = i
        · subst e; rw [if_neg (by rw [z]; exact Bool.false_ne_true)]; exact I.2.1 j (Nat.le_refl j) hi
        · exact I.1 j (by omega)
      · intro j h1 h2
        exact I.2.1 j (by omega) h2
theorem xb_tp {post : SX → Prop} {p q mp mq Z1 Z2 O1 O2 : Nat} (hpq : p < q) (hq : q < 5) (m1 : a_sizes p = nI mp) (m2 : a_sizes q = nI mq) (hm : mp + mq ≤ 6) (f : Nat → Nat) (hf : ∀ i, i < 6 → a_followers (q * 6 + i) = nI (f i)) (hfl : ∀ i, f i < 64) (z1 : a_zeroReaders p = nI Z1) (z2 : a_zeroReaders q = nI Z2) (o1 : a_oneReaders p = nI O1) (o2 : a_oneReaders q = nI O2) (hZ : Z2 < 64) (hO : O2 < 64)
    (K : ∀ fo : Nat → Int32, (∀ i, i < mq → fo (p * 6 + mp + i) = nI (f i * 2 ^ mp)) → (∀ j, (∀ i, i < mq → j ≠ p * 6 + mp + i) → fo j = a_followers j) → post (f_stacked, f_signCount, f_demandCount, f_boundCount, (upd a_sizes p (nI (mp + mq))), a_withEmpty, a_firsts, a_lasts, (upd a_zeroReaders p (nI (Z1 ||| Z2 * 2 ^ mp))), (upd a_oneReaders p (nI (O1 ||| O2 * 2 ^ mp))), fo, a_placedSizes, a_steps, a_ends, a_ways, a_nextWays, a_groups, a_finerGroups, a_reached, a_signs, a_demandSigns, a_demandSignCounts, a_demandPatterns, a_demandKept, a_boundA, a_boundB, a_boundC, a_boundD)) : wpX_takePositions post (f_stacked, f_signCount, f_demandCount, f_boundCount, a_sizes, a_withEmpty, a_firsts, a_lasts, a_zeroReaders, a_oneReaders, a_followers, a_placedSizes, a_steps, a_ends, a_ways, a_nextWays, a_groups, a_finerGroups, a_reached, a_signs, a_demandSigns, a_demandSignCounts, a_demandPatterns, a_demandKept, a_boundA, a_boundB, a_boundC, a_boundD) (nI p) (nI q) := by
  have hpw : 2 ^ mp ≤ 64 := Nat.pow_le_pow_right (n := 2) (by decide) (show mp ≤ 6 by omega)
  have hsh : ∀ x, x < 64 → x * 2 ^ mp < 2 ^ 32 := fun x hx => Nat.lt_of_le_of_lt (Nat.mul_le_mul (Nat.le_of_lt hx) hpw) (by decide)
  refine wz_ld p (nI mp) ?_ (by omega) rfl m1
  refine pk_loop (fun n i fo => wX_takePositions_10 post (nI p) (nI q) (nI mp) f_stacked f_signCount f_demandCount f_boundCount n (nI i) a_sizes a_withEmpty a_firsts a_lasts a_zeroReaders a_oneReaders fo a_placedSizes a_steps a_ends a_ways a_nextWays a_groups a_finerGroups a_reached a_signs a_demandSigns a_demandSignCounts a_demandPatterns a_demandKept a_boundA a_boundB a_boundC a_boundD) (fun i fo => (∀ j, j < i → fo (p * 6 + mp + j) = nI (f j * 2 ^ mp)) ∧ ∀ j, (∀ i, i < mq → j ≠ p * 6 + mp + i) → fo j = a_followers j) mq 0 a_followers (by omega) ⟨fun j hj => absurd hj (by omega), fun _ _ => rfl⟩ ?_ ?_
  · intro n fo I
    refine wz_in q (br_t (by rw [wz_at q m2]; exact nI_le (Nat.le_refl _) (by omega)) ?_)
    refine wz_in p (wz_in q (wz_st p (nI (Z1 ||| Z2 * 2 ^ mp)) (wz_in p (wz_in q (wz_st p (nI (O1 ||| O2 * 2 ^ mp)) (wz_in p (wz_in q (wz_st p (nI (mp + mq)) (K fo I.1 I.2) (by omega) rfl ?_))) (by omega) rfl ?_))) (by omega) rfl ?_))
    · rw [wz_at p m1, wz_at q m2, nI_add]
    · rw [wz_at p o1, wz_at q o2, wr_shl (by omega) (hsh _ hO), wr_or]
    · rw [wz_at p z1, wz_at q z2, wr_shl (by omega) (hsh _ hZ), wr_or]
  · intro n i fo hi I ih
    refine wz_in q (br_f (by rw [wz_at q m2]; exact nI_ge hi (by omega)) ?_)
    have e2 : fo (q * 6 + i) = nI (f i) := (I.2 _ (fun k hk => by omega)).trans (hf i (by omega))
    refine wz_in (q * 6 + i) (nm_r (e' := nI (f i * 2 ^ mp)) (by rw [wz_at (q * 6 + i) e2 (wz_m6 q i), wr_shl (by omega) (hsh _ (hfl i))]) (wz_st (p * 6 + mp + i) (nI (f i * 2 ^ mp)) (nm_r (nI_1 i) (ih _ ⟨?_, ?_⟩)) (by omega) (by rw [show nI p * 6 + nI mp = nI (p * 6 + mp) from wz_m6 p mp, nI_add]) rfl)) (by omega) (wz_m6 q i)
    · intro j hj
      by_cases e : j = i
      · subst e; exact pk_us
      · rw [pk_un (by omega)]; exact I.1 j (by omega)
    · intro j hj
      rw [pk_un (hj i hi)]; exact I.2 j hj
theorem xb_many {post : Int32 → SX → Prop} {d : Nat} {P : Nat → ws_Pat} (hd : d < 5) (S : wr_XS (d + 1) P a_sizes a_withEmpty a_firsts a_lasts a_zeroReaders a_oneReaders a_followers) (K : ∀ we fo : Nat → Int32, wr_XS (d + 1) (wr_P P d (wt_many (P d))) a_sizes we a_firsts a_lasts a_zeroReaders a_oneReaders fo → post (nI (d + 1)) ((nI (d + 1)), f_signCount, f_demandCount, f_boundCount, a_sizes, we, a_firsts, a_lasts, a_zeroReaders, a_oneReaders, fo, a_placedSizes, a_steps, a_ends, a_ways, a_nextWays, a_groups, a_finerGroups, a_reached, a_signs, a_demandSigns, a_demandSignCounts, a_demandPatterns, a_demandKept, a_boundA, a_boundB, a_boundC, a_boundD)) : wpX_many post ((nI (d + 1)), f_signCount, f_demandCount, f_boundCount, a_sizes, a_withEmpty, a_firsts, a_lasts, a_zeroReaders, a_oneReaders, a_followers, a_placedSizes, a_steps, a_ends, a_ways, a_nextWays, a_groups, a_finerGroups, a_reached, a_signs, a_demandSigns, a_demandSignCounts, a_demandPatterns, a_demandKept, a_boundA, a_boundB, a_boundC, a_boundD) := by
  obtain ⟨hok, c1, c2, c3, c4, c5, c6, c7⟩ := S d (by omega)
  have h6 := wt_p6 hok
  refine br_t (nI_le (a := 1) (b := d + 1) (by omega) (by omega)) (nm_r (nI_pred d) (wz_in d (wz_in d ?_)))
  refine xb_af (wt_L (P d)) (wt_F (P d)) (wz_at d c4) (wz_at d c3) hd (by have := hok.2.2.1; omega) (wt_f (P d)) c7 (fun fo h1 h2 => wz_st d 1 (K _ _ ?_))
  intro s hs
  by_cases z : s = d
  · subst z
    rw [wr_Ps]
    exact ⟨wt_many_ok hok, c1, pk_us, c3, c4, c5, c6, h1⟩
  · rw [wr_Pn _ _ z]
    exact wr_XL_c (S s hs) rfl (pk_un z) rfl rfl rfl rfl (fun i hi => h2 _ (fun k hk => by omega))
theorem xb_ref {post : Int32 → Prop} {d m1 m2 : Nat} (hd : d + 2 ≤ 5) (h1 : a_sizes d = nI m1) (h2 : a_sizes (d + 1) = nI m2) (l1 : m1 ≤ 6) (l2 : m2 ≤ 6) (K0 : m1 + m2 ≤ 6 → post 0) (K1 : 6 < m1 + m2 → post (-2)) : wpX_refusalOfPair post ((nI (d + 2)), f_signCount, f_demandCount, f_boundCount, a_sizes, a_withEmpty, a_firsts, a_lasts, a_zeroReaders, a_oneReaders, a_followers, a_placedSizes, a_steps, a_ends, a_ways, a_nextWays, a_groups, a_finerGroups, a_reached, a_signs, a_demandSigns, a_demandSignCounts, a_demandPatterns, a_demandKept, a_boundA, a_boundB, a_boundC, a_boundD) := by
  have e1 : nI (d + 2) - 2 = nI d := pk_sub (a := d + 2) (b := 2) (by omega)
  have e2 : nI (d + 2) - 1 = nI (d + 1) := nI_pred (d + 1)
  refine br_t (nI_le (a := 2) (b := d + 2) (by omega) (by omega)) (wz_in d (wz_in (d + 1) (pk_le (m1 + m2) 6 K0 K1 ?_)  (by omega) e2) (by omega) e1)
  rw [wz_at d h1 e1, wz_at (d + 1) h2 e2, nI_add]
/-- the slot that a pair leaves, and those below -/
theorem xb_fin {th : Bool} {d : Nat} {P : Nat → ws_Pat} {sz we fi la zr on fo fo' : Nat → Int32} {w a b : Int32} (S : wr_XS (d + 2) P sz we fi la zr on fo) (hm : wt_m (P d) + wt_m (P (d + 1)) ≤ 6)
    (hw : w = wr_b (wt_e (wt_join th (P d) (P (d + 1))))) (ha : a = nI (wt_F (wt_join th (P d) (P (d + 1))))) (hb : b = nI (wt_L (wt_join th (P d) (P (d + 1)))))
    (h1 : ∀ i, i < 6 → fo' (d * 6 + i) = nI (wt_f (wt_join th (P d) (P (d + 1))) i)) (h2 : ∀ j, j < d * 6 → fo' j = fo j) :
    wr_XS (d + 1) (wr_P P d (wt_join th (P d) (P (d + 1)))) (upd sz d (nI (wt_m (P d) + wt_m (P (d + 1))))) (upd we d w) (upd fi d a) (upd la d b) (upd zr d (nI (wt_Z (P d) ||| wt_Z (P (d + 1)) * 2 ^ wt_m (P d)))) (upd on d (nI (wt_O (P d) ||| wt_O (P (d + 1)) * 2 ^ wt_m (P d)))) fo' := by
  subst hw ha hb
  intro s hs
  by_cases z : s = d
  · subst z
    rw [wr_Ps]
    exact ⟨wt_join_ok th (S s (by omega)).1 (S (s + 1) (by omega)).1 hm, pk_us, pk_us, pk_us, pk_us, pk_us, pk_us, h1⟩
  · rw [wr_Pn _ _ z]
    exact wr_XL_c (S s (by omega)) (pk_un z) (pk_un z) (pk_un z) (pk_un z) (pk_un z) (pk_un z) (fun i hi => h2 _ (by omega))
theorem xb_fo {d : Nat} {p q : ws_Pat} {fo fo' : Nat → Int32} (hp : wt_ok p) (hq : wt_ok q) (c : ∀ i, i < 6 → fo (d * 6 + i) = nI (wt_f p i)) (h1 : ∀ i, i < wt_m q → fo' (d * 6 + wt_m p + i) = nI (wt_f q i * 2 ^ wt_m p)) (h2 : ∀ j, (∀ i, i < wt_m q → j ≠ d * 6 + wt_m p + i) → fo' j = fo j) : ∀ i, i < 6 → fo' (d * 6 + i) = nI (if i < wt_m p then wt_f p i else wt_f q (i - wt_m p) * 2 ^ wt_m p) := by
  intro i hi
  by_cases z : i < wt_m p
  · rw [if_pos z, h2 _ (fun k hk => by omega)]
    exact c i hi
  · rw [if_neg z]
    by_cases z2 : i < wt_m p + wt_m q
    · have := h1 (i - wt_m p) (by omega)
      rw [show d * 6 + wt_m p + (i - wt_m p) = d * 6 + i from by omega] at this
      exact this
    · rw [h2 _ (fun k hk => by omega), c i hi, hp.2.2.2.2.2.2.2 i (by omega), hq.2.2.2.2.2.2.2 _ (by omega), Nat.zero_mul]
theorem xb_or {post : Int32 → SX → Prop} {d : Nat} {P : Nat → ws_Pat} (hd : d + 2 ≤ 5) (S : wr_XS (d + 2) P a_sizes a_withEmpty a_firsts a_lasts a_zeroReaders a_oneReaders a_followers) (hm : wt_m (P d) + wt_m (P (d + 1)) ≤ 6) (K : ∀ sz we fi la zr on fo : Nat → Int32, wr_XS (d + 1) (wr_P P d (wt_join false (P d) (P (d + 1)))) sz we fi la zr on fo → post (nI (d + 1)) ((nI (d + 1)), f_signCount, f_demandCount, f_boundCount, sz, we, fi, la, zr, on, fo, a_placedSizes, a_steps, a_ends, a_ways, a_nextWays, a_groups, a_finerGroups, a_reached, a_signs, a_demandSigns, a_demandSignCounts, a_demandPatterns, a_demandKept, a_boundA, a_boundB, a_boundC, a_boundD)) : wpX_or post ((nI (d + 2)), f_signCount, f_demandCount, f_boundCount, a_sizes, a_withEmpty, a_firsts, a_lasts, a_zeroReaders, a_oneReaders, a_followers, a_placedSizes, a_steps, a_ends, a_ways, a_nextWays, a_groups, a_finerGroups, a_reached, a_signs, a_demandSigns, a_demandSignCounts, a_demandPatterns, a_demandKept, a_boundA, a_boundB, a_boundC, a_boundD) := by
  obtain ⟨hp, c1, c2, c3, c4, c5, c6, c7⟩ := S d (by omega)
  obtain ⟨hq, d1, d2, d3, d4, d5, d6, d7⟩ := S (d + 1) (by omega)
  have e1 : nI (d + 2) - 2 = nI d := pk_sub (a := d + 2) (b := 2) (by omega)
  have e2 : nI (d + 2) - 1 = nI (d + 1) := nI_pred (d + 1)
  have h6 := wt_p6 hp
  have h6' := wt_p6 hq
  have hsh : ∀ x, x < 64 → x * 2 ^ wt_m (P d) < 2 ^ 32 := fun x hx => Nat.lt_of_le_of_lt (Nat.mul_le_mul (Nat.le_of_lt hx) h6) (by decide)
  unfold wpX_or
  refine xb_ref hd c1 d1 hp.1 hq.1 (fun _ => ?_) (fun z => absurd z (by omega))
  refine br_t rfl (nm_r e1 (nm_r e2 (wz_ld d (nI (wt_m (P d))) ?_ (by omega) rfl c1)))
  refine xb_tp (p := d) (q := d + 1) (by omega) (by omega) c1 d1 hm (wt_f (P (d + 1))) d7 (fun i => Nat.lt_of_lt_of_le (hq.2.2.2.2.2.2.1 i) h6') c5 d5 c6 d6 (Nat.lt_of_lt_of_le hq.2.2.2.1 h6') (Nat.lt_of_lt_of_le hq.2.2.2.2.1 h6') (fun fo h1 h2 => ?_)
  have hF : wt_F (wt_join false (P d) (P (d + 1))) = wt_F (P d) ||| wt_F (P (d + 1)) * 2 ^ wt_m (P d) := by
    show wt_F (P d) ||| (if _ then _ else _) = _
    rw [if_pos (Or.inl rfl)]
  have hL : wt_L (wt_join false (P d) (P (d + 1))) = wt_L (P d) ||| wt_L (P (d + 1)) * 2 ^ wt_m (P d) := by
    show _ ||| (if _ then _ else _) = _
    rw [if_pos (Or.inl rfl), Nat.or_comm]
  have hfo : ∀ i, i < 6 → fo (d * 6 + i) = nI (wt_f (wt_join false (P d) (P (d + 1))) i) := by
    intro i hi
    rw [xb_fo hp hq c7 h1 h2 i hi]
    show _ = nI (if i < wt_m (P d) then (if _ then _ else _) else _)
    by_cases z : i < wt_m (P d)
    · rw [if_pos z, if_pos z, if_neg (fun w => absurd w.1 Bool.false_ne_true)]
    · rw [if_neg z, if_neg z]
  have fin : ∀ w, w = wr_b (wt_e (wt_join false (P d) (P (d + 1)))) → wX_or_103 post w (nI d) (nI (d + 2)) f_signCount f_demandCount f_boundCount (upd a_sizes d (nI (wt_m (P d) + wt_m (P (d + 1))))) a_withEmpty (upd a_firsts d (nI (wt_F (P d) ||| wt_F (P (d + 1)) * 2 ^ wt_m (P d)))) (upd a_lasts d (nI (wt_L (P d) ||| wt_L (P (d + 1)) * 2 ^ wt_m (P d)))) (upd a_zeroReaders d (nI (wt_Z (P d) ||| wt_Z (P (d + 1)) * 2 ^ wt_m (P d)))) (upd a_oneReaders d (nI (wt_O (P d) ||| wt_O (P (d + 1)) * 2 ^ wt_m (P d)))) fo a_placedSizes a_steps a_ends a_ways a_nextWays a_groups a_finerGroups a_reached a_signs a_demandSigns a_demandSignCounts a_demandPatterns a_demandKept a_boundA a_boundB a_boundC a_boundD := by
    intro w hw
    refine wz_st d w (nm_r e2 (K _ _ _ _ _ _ _ (xb_fin (th := false) S hm hw (by rw [hF]) (by rw [hL]) hfo (fun j hj => h2 j (fun k hk => by omega))))) (by omega) rfl (by rw [hw, wr_b_v])
  refine wz_in d (wz_in (d + 1) (wz_st d (nI (wt_F (P d) ||| wt_F (P (d + 1)) * 2 ^ wt_m (P d))) (wz_in d (wz_in (d + 1) (wz_st d (nI (wt_L (P d) ||| wt_L (P (d + 1)) * 2 ^ wt_m (P d))) (wz_in d (wz_if (wt_e (P d)) (fun z => wz_in (d + 1) (wz_if (wt_e (P (d + 1))) (fun z2 => fin 0 ?_) (fun z2 => fin 1 ?_) (wz_at (d + 1) d2))) (fun z => fin 1 ?_) (wz_at d c2))) (by omega) rfl ?_))) (by omega) rfl ?_))
  · show _ = wr_b (wt_e (P d) || wt_e (P (d + 1))); rw [z, z2]; rfl
  · show _ = wr_b (wt_e (P d) || wt_e (P (d + 1))); rw [z, z2]; rfl
  · show _ = wr_b (wt_e (P d) || wt_e (P (d + 1))); rw [z]; rfl
  · rw [wz_at d c4, wz_at (d + 1) d4, wr_shl (by have := hp.1; omega) (hsh _ (Nat.lt_of_lt_of_le hq.2.2.1 h6')), wr_or]
  · rw [wz_at d c3, wz_at (d + 1) d3, wr_shl (by have := hp.1; omega) (hsh _ (Nat.lt_of_lt_of_le hq.2.1 h6')), wr_or]
end
end
section
/-! the component: then, place -/
section
variable {f_stacked f_signCount f_demandCount f_boundCount : Int32} {a_sizes a_withEmpty a_firsts a_lasts a_zeroReaders a_oneReaders a_followers a_placedSizes a_steps a_ends a_ways a_nextWays a_groups a_finerGroups a_reached a_signs a_demandSigns a_demandSignCounts a_demandPatterns a_demandKept a_boundA a_boundB a_boundC a_boundD : Nat → Int32}
theorem xc_then {post : Int32 → SX → Prop} {d : Nat} {P : Nat → ws_Pat} (hd : d + 2 ≤ 5) (S : wr_XS (d + 2) P a_sizes a_withEmpty a_firsts a_lasts a_zeroReaders a_oneReaders a_followers) (hm : wt_m (P d) + wt_m (P (d + 1)) ≤ 6) (K : ∀ sz we fi la zr on fo : Nat → Int32, wr_XS (d + 1) (wr_P P d (wt_join true (P d) (P (d + 1)))) sz we fi la zr on fo → post (nI (d + 1)) ((nI (d + 1)), f_signCount, f_demandCount, f_boundCount, sz, we, fi, la, zr, on, fo, a_placedSizes, a_steps, a_ends, a_ways, a_nextWays, a_groups, a_finerGroups, a_reached, a_signs, a_demandSigns, a_demandSignCounts, a_demandPatterns, a_demandKept, a_boundA, a_boundB, a_boundC, a_boundD)) : wpX_then post ((nI (d + 2)), f_signCount, f_demandCount, f_boundCount, a_sizes, a_withEmpty, a_firsts, a_lasts, a_zeroReaders, a_oneReaders, a_followers, a_placedSizes, a_steps, a_ends, a_ways, a_nextWays, a_groups, a_finerGroups, a_reached, a_signs, a_demandSigns, a_demandSignCounts, a_demandPatterns, a_demandKept, a_boundA, a_boundB, a_boundC, a_boundD) := by
  obtain ⟨hp, c1, c2, c3, c4, c5, c6, c7⟩ := S d (by omega)
  obtain ⟨hq, d1, d2, d3, d4, d5, d6, d7⟩ := S (d + 1) (by omega)
  have e1 : nI (d + 2) - 2 = nI d := pk_sub (a := d + 2) (b := 2) (by omega)
  have e2 : nI (d + 2) - 1 = nI (d + 1) := nI_pred (d + 1)
  have h6 := wt_p6 hp
  have h6' := wt_p6 hq
  have hsh : ∀ x, x < 64 → x * 2 ^ wt_m (P d) < 2 ^ 32 := fun x hx => Nat.lt_of_le_of_lt (Nat.mul_le_mul (Nat.le_of_lt hx) h6) (by decide)
  unfold wpX_then
  refine xb_ref hd c1 d1 hp.1 hq.1 (fun _ => ?_) (fun z => absurd z (by omega))
  refine br_t rfl (nm_r e1 (nm_r e2 (wz_ld d (nI (wt_m (P d))) (wz_in (d + 1) (nm_r (e' := nI (wt_F (P (d + 1)) * 2 ^ wt_m (P d))) (by rw [wz_at (d + 1) d3, wr_shl (by have := hp.1; omega) (hsh _ (Nat.lt_of_lt_of_le hq.2.1 h6'))]) (wz_in (d + 1) (nm_r (e' := nI (wt_L (P (d + 1)) * 2 ^ wt_m (P d))) (by rw [wz_at (d + 1) d4, wr_shl (by have := hp.1; omega) (hsh _ (Nat.lt_of_lt_of_le hq.2.2.1 h6'))]) ?_)))) (by omega) rfl c1)))
  refine xb_tp (p := d) (q := d + 1) (by omega) (by omega) c1 d1 hm (wt_f (P (d + 1))) d7 (fun i => Nat.lt_of_lt_of_le (hq.2.2.2.2.2.2.1 i) h6') c5 d5 c6 d6 (Nat.lt_of_lt_of_le hq.2.2.2.1 h6') (Nat.lt_of_lt_of_le hq.2.2.2.2.1 h6') (fun fo h1 h2 => ?_)
  refine wz_in d ?_
  refine xb_af (wt_L (P d)) (wt_F (P (d + 1)) * 2 ^ wt_m (P d)) (wz_at d c4) rfl (by omega) (by have := hp.2.2.1; omega) _ (xb_fo hp hq c7 h1 h2) (fun fo' h3 h4 => ?_)
  have hfo : ∀ i, i < 6 → fo' (d * 6 + i) = nI (wt_f (wt_join true (P d) (P (d + 1))) i) := by
    intro i hi
    rw [h3 i hi]
    show _ = nI (if i < wt_m (P d) then (if _ ∧ _ then _ else _) else _)
    by_cases z : i < wt_m (P d)
    · rw [if_pos z, if_pos z]
      by_cases z2 : (wt_L (P d)).testBit i = true
      · rw [if_pos z2, if_pos ⟨rfl, z2⟩]
      · rw [if_neg z2, if_neg (fun w => z2 w.2)]
    · rw [if_neg z, if_neg z, Nat.testBit_lt_two_pow (Nat.lt_of_lt_of_le hp.2.2.1 (Nat.pow_le_pow_right (by decide) (by omega))), if_neg Bool.false_ne_true]
  have h5 : ∀ j, j < d * 6 → fo' j = a_followers j := fun j hj => (h4 j (fun k hk => by omega)).trans (h2 j (fun k hk => by omega))
  have fin : ∀ w a b, w = wr_b (wt_e (wt_join true (P d) (P (d + 1)))) → a = nI (wt_F (wt_join true (P d) (P (d + 1)))) → b = nI (wt_L (wt_join true (P d) (P (d + 1)))) → wX_then_164 post w (nI d) (nI (d + 2)) f_signCount f_demandCount f_boundCount (upd a_sizes d (nI (wt_m (P d) + wt_m (P (d + 1))))) a_withEmpty (upd a_firsts d a) (upd a_lasts d b) (upd a_zeroReaders d (nI (wt_Z (P d) ||| wt_Z (P (d + 1)) * 2 ^ wt_m (P d)))) (upd a_oneReaders d (nI (wt_O (P d) ||| wt_O (P (d + 1)) * 2 ^ wt_m (P d)))) fo' a_placedSizes a_steps a_ends a_ways a_nextWays a_groups a_finerGroups a_reached a_signs a_demandSigns a_demandSignCounts a_demandPatterns a_demandKept a_boundA a_boundB a_boundC a_boundD := by
    intro w a b hw ha hb
    exact wz_st d w (nm_r e2 (K _ _ _ _ _ _ _ (xb_fin (th := true) S hm hw ha hb hfo h5))) (by omega) rfl (by rw [hw, wr_b_v])
  have fin2 : ∀ a b, a = nI (wt_F (wt_join true (P d) (P (d + 1)))) → b = nI (wt_L (wt_join true (P d) (P (d + 1)))) → wX_then_135 post (nI d) (nI (d + 1)) b (nI d) (nI (d + 2)) f_signCount f_demandCount f_boundCount (upd a_sizes d (nI (wt_m (P d) + wt_m (P (d + 1))))) a_withEmpty (upd a_firsts d a) a_lasts (upd a_zeroReaders d (nI (wt_Z (P d) ||| wt_Z (P (d + 1)) * 2 ^ wt_m (P d)))) (upd a_oneReaders d (nI (wt_O (P d) ||| wt_O (P (d + 1)) * 2 ^ wt_m (P d)))) fo' a_placedSizes a_steps a_ends a_ways a_nextWays a_groups a_finerGroups a_reached a_signs a_demandSigns a_demandSignCounts a_demandPatterns a_demandKept a_boundA a_boundB a_boundC a_boundD := by
    intro a b ha hb
    refine wz_st d b (wz_in d (wz_if (wt_e (P d)) (fun z => fin 0 a b ?_ ha hb) (fun z => wz_in (d + 1) (wz_if (wt_e (P (d + 1))) (fun z2 => fin 0 a b ?_ ha hb) (fun z2 => fin 1 a b ?_ ha hb) (wz_at (d + 1) d2))) (wz_at d c2)))
    · show _ = wr_b (wt_e (P d) && wt_e (P (d + 1))); rw [z]; rfl
    · show _ = wr_b (wt_e (P d) && wt_e (P (d + 1))); rw [z, z2]; rfl
    · show _ = wr_b (wt_e (P d) && wt_e (P (d + 1))); rw [z, z2]; rfl
  have fin3 : ∀ a, a = nI (wt_F (wt_join true (P d) (P (d + 1)))) → wX_then_106 post (nI d) (nI (d + 1)) (nI (wt_L (P (d + 1)) * 2 ^ wt_m (P d))) a (nI d) (nI (d + 2)) f_signCount f_demandCount f_boundCount (upd a_sizes d (nI (wt_m (P d) + wt_m (P (d + 1))))) a_withEmpty a_firsts a_lasts (upd a_zeroReaders d (nI (wt_Z (P d) ||| wt_Z (P (d + 1)) * 2 ^ wt_m (P d)))) (upd a_oneReaders d (nI (wt_O (P d) ||| wt_O (P (d + 1)) * 2 ^ wt_m (P d)))) fo' a_placedSizes a_steps a_ends a_ways a_nextWays a_groups a_finerGroups a_reached a_signs a_demandSigns a_demandSignCounts a_demandPatterns a_demandKept a_boundA a_boundB a_boundC a_boundD := by
    intro a ha
    refine wz_st d a (wz_in (d + 1) (wz_if (wt_e (P (d + 1))) (fun z => fin2 a _ ha ?_) (fun z => wz_in d (fin2 a _ ha ?_)) (wz_at (d + 1) d2)))
    · show _ = nI (_ ||| (if _ then _ else _))
      rw [if_neg (fun w => by rcases w with w | w <;> simp [z] at w), Nat.or_zero]
    · show _ = nI (_ ||| (if _ then _ else _))
      rw [if_pos (Or.inr z), wz_at d c4, wr_or, Nat.or_comm]
  refine wz_in d (wz_if (wt_e (P d)) (fun z => wz_in d (fin3 _ ?_)) (fun z => wz_in d (fin3 _ ?_)) (wz_at d c2))
  · show _ = nI (_ ||| (if _ then _ else _))
    rw [if_neg (fun w => by rcases w with w | w <;> simp [z] at w), Nat.or_zero, wz_at d c3]
  · show _ = nI (_ ||| (if _ then _ else _))
    rw [if_pos (Or.inr z), wz_at d c3, wr_or]
theorem xc_fo {post : Int32 → Prop} {s t : Nat} (hs : s < 5) (ht : t < 64) (f : Nat → Nat) (hf : ∀ i, i < 6 → a_followers (s * 6 + i) = nI (f i)) (K : post (nI (ws_or 0 f t 6))) : wpX_followersOf post (f_stacked, f_signCount, f_demandCount, f_boundCount, a_sizes, a_withEmpty, a_firsts, a_lasts, a_zeroReaders, a_oneReaders, a_followers, a_placedSizes, a_steps, a_ends, a_ways, a_nextWays, a_groups, a_finerGroups, a_reached, a_signs, a_demandSigns, a_demandSignCounts, a_demandPatterns, a_demandKept, a_boundA, a_boundB, a_boundC, a_boundD) (nI s) (nI t) := by
  refine pk_loop (fun n i x => wX_followersOf_5 post (nI s) (nI t) f_stacked f_signCount f_demandCount f_boundCount a_sizes a_withEmpty a_firsts a_lasts a_zeroReaders a_oneReaders a_followers a_placedSizes a_steps a_ends a_ways a_nextWays a_groups a_finerGroups a_reached a_signs a_demandSigns a_demandSignCounts a_demandPatterns a_demandKept a_boundA a_boundB a_boundC a_boundD n x (nI i)) (fun i x => x = nI (ws_or 0 f t i)) 6 0 0 (by omega) rfl ?_ ?_
  · intro n x I
    subst I
    exact br_t (nI_le (a := 6) (b := 6) (by omega) (by omega)) K
  · intro n i x hi I ih
    subst I
    refine br_f (nI_ge (b := 6) hi (by omega)) (wz_tb (t.testBit i) (fun z => ?_) (fun z => ?_) (wr_bit1 (by omega) (by omega)))
    · refine wz_in (s * 6 + i) (nm_r (e' := nI (ws_or 0 f t (i + 1))) ?_ (nm_r (nI_1 i) (ih _ rfl))) (by omega) (wz_m6 s i)
      rw [wz_at (s * 6 + i) (hf i hi) (wz_m6 s i), wr_or, ws_or_s, if_pos z]
    · refine nm_r (nI_1 i) (ih _ ?_)
      rw [ws_or_s, if_neg (by rw [z]; exact Bool.false_ne_true)]
theorem xc_ps {post : SX → Prop} {k t s : Nat} {p : ws_Pat} (hk : k < 3) (ht : t < 65) (hs : s < 5) (L : wr_XL p s a_sizes a_withEmpty a_firsts a_lasts a_zeroReaders a_oneReaders a_followers) (K : post (f_stacked, f_signCount, f_demandCount, f_boundCount, a_sizes, a_withEmpty, a_firsts, a_lasts, a_zeroReaders, a_oneReaders, a_followers, a_placedSizes, (upd (upd a_steps ((k * 65 + t) * 2) (nI (k * 65 + wt_d p t false))) ((k * 65 + t) * 2 + 1) (nI (k * 65 + wt_d p t true))), (upd a_ends (k * 65 + t) (wr_b (wt_a p t))), a_ways, a_nextWays, a_groups, a_finerGroups, a_reached, a_signs, a_demandSigns, a_demandSignCounts, a_demandPatterns, a_demandKept, a_boundA, a_boundB, a_boundC, a_boundD)) : wpX_placeState post (f_stacked, f_signCount, f_demandCount, f_boundCount, a_sizes, a_withEmpty, a_firsts, a_lasts, a_zeroReaders, a_oneReaders, a_followers, a_placedSizes, a_steps, a_ends, a_ways, a_nextWays, a_groups, a_finerGroups, a_reached, a_signs, a_demandSigns, a_demandSignCounts, a_demandPatterns, a_demandKept, a_boundA, a_boundB, a_boundC, a_boundD) (nI k) (nI t) (nI s) := by
  obtain ⟨hp, c1, c2, c3, c4, c5, c6, c7⟩ := L
  have h6 := wt_p6 hp
  have e1 : nI (k * 65) + nI t = nI (k * 65 + t) := nI_add _ _
  have e2 : (nI (k * 65) + nI t) * 2 = nI ((k * 65 + t) * 2) := by rw [e1]; exact pk_mul _ 2
  have e3 : (nI (k * 65) + nI t) * 2 + 1 = nI ((k * 65 + t) * 2 + 1) := by rw [e2, nI_1]
  have main : ∀ X, X &&& wt_r p false = wt_d p t false → X &&& wt_r p true = wt_d p t true → wX_placeState_27 post (nI t) (nI s) (nI (k * 65)) (nI X) f_stacked f_signCount f_demandCount f_boundCount a_sizes a_withEmpty a_firsts a_lasts a_zeroReaders a_oneReaders a_followers a_placedSizes a_steps a_ends a_ways a_nextWays a_groups a_finerGroups a_reached a_signs a_demandSigns a_demandSignCounts a_demandPatterns a_demandKept a_boundA a_boundB a_boundC a_boundD := by
    intro X hX0 hX1
    refine wz_in s (wz_st ((k * 65 + t) * 2) (nI (k * 65 + wt_d p t false)) (wz_in s (wz_st ((k * 65 + t) * 2 + 1) (nI (k * 65 + wt_d p t true)) (pk_eq t 64 (fun z => ?_) (fun z => ?_)) (by omega) e3 ?_)) (by omega) e2 ?_)
    · refine wz_in s (wz_st (k * 65 + t) (wr_b (wt_a p t)) K (by omega) e1 ?_)
      rw [wz_at s c2, z, wt_a64 hp, wr_b_v]
    · have hb : wt_a p t = decide (t &&& wt_L p ≠ 0) := wt_as p (by omega)
      have hle : t &&& wt_L p ≤ t := Nat.and_le_left
      have hand : nI t &&& a_lasts (nI s).toNatClampNeg = nI (t &&& wt_L p) := by rw [wz_at s c4, nx_and]
      refine wz_in s (pk_eq (t &&& wt_L p) 0 (fun w => ?_) (fun w => ?_) hand)
      · refine wz_st (k * 65 + t) (wr_b (wt_a p t)) K (by omega) e1 ?_
        rw [hb, decide_eq_false (fun y => y w)]; rfl
      · refine wz_st (k * 65 + t) (wr_b (wt_a p t)) K (by omega) e1 ?_
        rw [hb, decide_eq_true w]; rfl
    · rw [wz_at s c6, nx_and, nI_add]; exact congrArg nI (congrArg (k * 65 + ·) hX1)
    · rw [wz_at s c5, nx_and, nI_add]; exact congrArg nI (congrArg (k * 65 + ·) hX0)
  refine nm_r (e' := nI (k * 65)) (wz_m65 k) (pk_eq t 64 (fun z => ?_) (fun z => ?_))
  · refine wz_in s ?_
    rw [wz_at s c3]
    subst z
    exact main (wt_F p) (wt_d64 p false).symm (wt_d64 p true).symm
  · exact xc_fo hs (by omega) (wt_f p) c7 (main _ (wt_ds p (by omega) false).symm (wt_ds p (by omega) true).symm)
end
end
section
/-! the component: place; the start -/
section
variable {f_stacked f_signCount f_demandCount f_boundCount : Int32} {a_sizes a_withEmpty a_firsts a_lasts a_zeroReaders a_oneReaders a_followers a_placedSizes a_steps a_ends a_ways a_nextWays a_groups a_finerGroups a_reached a_signs a_demandSigns a_demandSignCounts a_demandPatterns a_demandKept a_boundA a_boundB a_boundC a_boundD : Nat → Int32}
def xd_I (Q : Nat → ws_Pat) (k t : Nat) (st en : Nat → Int32) : Prop := ∀ s, s < 195 → ¬ (s / 65 = k ∧ t ≤ s % 65) → st (s * 2) = nI (wt_xd Q s false) ∧ st (s * 2 + 1) = nI (wt_xd Q s true) ∧ en s = wr_b (wt_xa Q s)
theorem xd_place {post : Int32 → SX → Prop} {k d : Nat} {P Q : Nat → ws_Pat} (hk : k < 3) (hd : d < 5) (S : wr_XS (d + 1) P a_sizes a_withEmpty a_firsts a_lasts a_zeroReaders a_oneReaders a_followers) (Pl : wr_XP Q a_placedSizes a_steps a_ends) (K : ∀ st en : Nat → Int32, wr_XP (wr_P Q k (P d)) (upd a_placedSizes k (nI (wt_m (P d)))) st en → post (nI d) ((nI d), f_signCount, f_demandCount, f_boundCount, a_sizes, a_withEmpty, a_firsts, a_lasts, a_zeroReaders, a_oneReaders, a_followers, (upd a_placedSizes k (nI (wt_m (P d)))), st, en, a_ways, a_nextWays, a_groups, a_finerGroups, a_reached, a_signs, a_demandSigns, a_demandSignCounts, a_demandPatterns, a_demandKept, a_boundA, a_boundB, a_boundC, a_boundD)) : wpX_place post ((nI (d + 1)), f_signCount, f_demandCount, f_boundCount, a_sizes, a_withEmpty, a_firsts, a_lasts, a_zeroReaders, a_oneReaders, a_followers, a_placedSizes, a_steps, a_ends, a_ways, a_nextWays, a_groups, a_finerGroups, a_reached, a_signs, a_demandSigns, a_demandSignCounts, a_demandPatterns, a_demandKept, a_boundA, a_boundB, a_boundC, a_boundD) (nI k) := by
  have L := S d (by omega)
  refine br_f (nI_pos (by omega)) (br_t (nI_lt (b := 3) hk (by decide)) (br_t (nI_le (a := 1) (b := d + 1) (by omega) (by omega)) (nm_r (nI_pred d) (wz_in d (wz_st k (nI (wt_m (P d))) ?_ (by omega) rfl (wz_at d L.2.1))))))
  refine pk_loop (fun n t (s : (Nat → Int32) × (Nat → Int32)) => wX_place_49 post (nI k) n (nI t) (nI d) f_signCount f_demandCount f_boundCount a_sizes a_withEmpty a_firsts a_lasts a_zeroReaders a_oneReaders a_followers (upd a_placedSizes k (nI (wt_m (P d)))) s.1 s.2 a_ways a_nextWays a_groups a_finerGroups a_reached a_signs a_demandSigns a_demandSignCounts a_demandPatterns a_demandKept a_boundA a_boundB a_boundC a_boundD) (fun t s => xd_I (wr_P Q k (P d)) k t s.1 s.2) 65 0 (a_steps, a_ends) (by omega) ?_ ?_ ?_
  · intro s hs hn
    have e : wr_P Q k (P d) (s / 65) = Q (s / 65) := wr_Pn _ _ (fun z => hn ⟨z, Nat.zero_le _⟩)
    have h := Pl.2.2 s hs
    unfold wt_xd wt_xa at h ⊢
    rw [e]
    exact h
  · intro n s I
    refine br_t (nI_le (a := 65) (b := 65) (by omega) (by omega)) (K s.1 s.2 ⟨?_, ?_, fun t ht => I t ht (by omega)⟩)
    · intro j hj
      by_cases z : j = k
      · subst z; rw [wr_Ps]; exact L.1
      · rw [wr_Pn _ _ z]; exact Pl.1 j hj
    · intro j hj
      by_cases z : j = k
      · subst z; rw [wr_Ps, pk_us]
      · rw [wr_Pn _ _ z, pk_un z]; exact Pl.2.1 j hj
  · intro n t s ht I ih
    refine br_f (nI_ge (b := 65) ht (by omega)) (xc_ps hk ht hd L (nm_r (nI_1 t) (ih (upd (upd s.1 ((k * 65 + t) * 2) (nI (k * 65 + wt_d (P d) t false))) ((k * 65 + t) * 2 + 1) (nI (k * 65 + wt_d (P d) t true)), upd s.2 (k * 65 + t) (wr_b (wt_a (P d) t))) ?_)))
    intro r hr hn
    dsimp only
    by_cases z : r = k * 65 + t
    · subst z
      have e1 : (k * 65 + t) / 65 = k := by omega
      have e2 : (k * 65 + t) % 65 = t := by omega
      unfold wt_xd wt_xa
      rw [e1, e2, wr_Ps, pk_us, pk_us, pk_un (by omega), pk_us, Nat.mul_comm 65 k]
      exact ⟨rfl, rfl, rfl⟩
    · rw [pk_un (by omega), pk_un (by omega), pk_un (by omega), pk_un (by omega), pk_un z]
      exact I r hr (by omega)
theorem xd_e0 (t : Nat) (b : Bool) : wt_d (wt_sim 3) t b = 0 := by
  unfold wt_d
  cases b <;> exact Nat.and_zero _
theorem xd_e1 {t : Nat} (ht : t < 65) : wt_a (wt_sim 3) t = decide (t = 64) := by
  have h : ∀ t, t < 65 → wt_a (wt_sim 3) t = decide (t = 64) := by decide +kernel
  exact h t ht
theorem xd_init {post : SX → Prop} (K : ∀ st en : Nat → Int32, wr_XP (fun _ => wt_sim 3) (fun _ => 0) st en → post (0, 0, 0, 0, (fun _ => 0), (fun _ => 0), (fun _ => 0), (fun _ => 0), (fun _ => 0), (fun _ => 0), (fun _ => 0), (fun _ => 0), st, en, (fun _ => 0), (fun _ => 0), (fun _ => 0), (fun _ => 0), (fun _ => 0), (fun _ => 0), (fun _ => 0), (fun _ => 0), (fun _ => 0), (fun _ => 0), (fun _ => 0), (fun _ => 0), (fun _ => 0), (fun _ => 0))) : wpX_init post := by
  refine pk_loop (fun n k (s : (Nat → Int32) × (Nat → Int32)) => wX_init_213 post n (nI k) 0 0 0 0 (fun _ => 0) (fun _ => 0) (fun _ => 0) (fun _ => 0) (fun _ => 0) (fun _ => 0) (fun _ => 0) (fun _ => 0) s.1 s.2 (fun _ => 0) (fun _ => 0) (fun _ => 0) (fun _ => 0) (fun _ => 0) (fun _ => 0) (fun _ => 0) (fun _ => 0) (fun _ => 0) (fun _ => 0) (fun _ => 0) (fun _ => 0) (fun _ => 0) (fun _ => 0)) (fun k s => (∀ t, t < k * 65 → s.1 (t * 2) = nI (65 * (t / 65)) ∧ s.1 (t * 2 + 1) = nI (65 * (t / 65))) ∧ ∀ t, s.2 t = wr_b (decide (t < k * 65 ∧ t % 65 = 64))) 3 0 ((fun _ => 0), (fun _ => 0)) (by omega) ⟨fun t ht => absurd ht (by omega), fun t => by rw [decide_eq_false (by omega)]; rfl⟩ ?_ ?_
  · intro n s I
    refine br_t (nI_le (a := 3) (b := 3) (by omega) (by omega)) (K s.1 s.2 ⟨fun _ _ => wt_sim_ok (by omega), fun _ _ => rfl, ?_⟩)
    intro t ht
    have h := I.1 t (by omega)
    unfold wt_xd wt_xa
    rw [xd_e0, xd_e0, xd_e1 (by omega), I.2 t]
    refine ⟨h.1, h.2, ?_⟩
    congr 1
    rw [decide_eq_decide]
    omega
  · intro n k s hk I ih
    refine br_f (nI_ge (b := 3) hk (by omega)) (xa_pe hk (fun st h => nm_r (nI_1 k) (ih (st, upd s.2 (k * 65 + 64) 1) ⟨h, ?_⟩)) I.1)
    intro t
    dsimp only
    by_cases z : t = k * 65 + 64
    · subst z
      rw [pk_us, decide_eq_true (by omega)]; rfl
    · rw [pk_un z, I.2 t]
      congr 1
      rw [decide_eq_decide]
      omega
end
end
section
/-! the component: how many words -/
section
variable {f_stacked f_signCount f_demandCount f_boundCount : Int32} {a_sizes a_withEmpty a_firsts a_lasts a_zeroReaders a_oneReaders a_followers a_placedSizes a_steps a_ends a_ways a_nextWays a_groups a_finerGroups a_reached a_signs a_demandSigns a_demandSignCounts a_demandPatterns a_demandKept a_boundA a_boundB a_boundC a_boundD : Nat → Int32}
theorem xw_ring (a w c d : Int32) : a + w * c + w * d = a + w * (c + d) := by grind
theorem xw_rol {post : SX → Prop} {Q : Nat → ws_Pat} (Pl : wr_XP Q a_placedSizes a_steps a_ends) (j : Nat) (K : ∀ wa nw : Nat → Int32, ws_sum wa (ws_A (wt_xd Q) (wt_xa Q) j) 195 = ws_sum a_ways (ws_A (wt_xd Q) (wt_xa Q) (j + 1)) 195 → post (f_stacked, f_signCount, f_demandCount, f_boundCount, a_sizes, a_withEmpty, a_firsts, a_lasts, a_zeroReaders, a_oneReaders, a_followers, a_placedSizes, a_steps, a_ends, wa, nw, a_groups, a_finerGroups, a_reached, a_signs, a_demandSigns, a_demandSignCounts, a_demandPatterns, a_demandKept, a_boundA, a_boundB, a_boundC, a_boundD)) : wpX_readOneLetter post (f_stacked, f_signCount, f_demandCount, f_boundCount, a_sizes, a_withEmpty, a_firsts, a_lasts, a_zeroReaders, a_oneReaders, a_followers, a_placedSizes, a_steps, a_ends, a_ways, a_nextWays, a_groups, a_finerGroups, a_reached, a_signs, a_demandSigns, a_demandSignCounts, a_demandPatterns, a_demandKept, a_boundA, a_boundB, a_boundC, a_boundD) := by
  refine pk_loop (fun n i nw => wX_readOneLetter_2 post f_stacked f_signCount f_demandCount f_boundCount n (nI i) a_sizes a_withEmpty a_firsts a_lasts a_zeroReaders a_oneReaders a_followers a_placedSizes a_steps a_ends a_ways nw a_groups a_finerGroups a_reached a_signs a_demandSigns a_demandSignCounts a_demandPatterns a_demandKept a_boundA a_boundB a_boundC a_boundD) (fun i nw => ∀ s, s < i → nw s = 0) 195 0 a_nextWays (by omega) (fun s hs => absurd hs (by omega)) ?_ ?_
  · intro n nw I
    refine br_t (nI_le (a := 195) (b := 195) (by omega) (by omega)) ?_
    refine pk_loop (fun n i nw => wX_readOneLetter_24 post f_stacked f_signCount f_demandCount f_boundCount n (nI i) a_sizes a_withEmpty a_firsts a_lasts a_zeroReaders a_oneReaders a_followers a_placedSizes a_steps a_ends a_ways nw a_groups a_finerGroups a_reached a_signs a_demandSigns a_demandSignCounts a_demandPatterns a_demandKept a_boundA a_boundB a_boundC a_boundD) (fun i nw => ws_sum nw (ws_A (wt_xd Q) (wt_xa Q) j) 195 = ws_sum a_ways (ws_A (wt_xd Q) (wt_xa Q) (j + 1)) i) 195 0 nw (by omega) (ws_sum_0 _ 195 I) ?_ ?_
    · intro n nw I
      refine br_t (nI_le (a := 195) (b := 195) (by omega) (by omega)) ?_
      refine pk_loop (fun n i wa => wX_readOneLetter_85 post f_stacked f_signCount f_demandCount f_boundCount n (nI i) a_sizes a_withEmpty a_firsts a_lasts a_zeroReaders a_oneReaders a_followers a_placedSizes a_steps a_ends wa nw a_groups a_finerGroups a_reached a_signs a_demandSigns a_demandSignCounts a_demandPatterns a_demandKept a_boundA a_boundB a_boundC a_boundD) (fun i wa => ∀ s, s < i → wa s = nw s) 195 0 a_ways (by omega) (fun s hs => absurd hs (by omega)) ?_ ?_
      · intro n wa I2
        exact br_t (nI_le (a := 195) (b := 195) (by omega) (by omega)) (K wa nw ((ws_sum_congr _ 195 I2).trans I))
      · intro n i wa hi I2 ih
        refine br_f (nI_ge (b := 195) hi (by omega)) (wz_in i (wz_st i (nw i) (nm_r (nI_1 i) (ih _ ?_)) (by omega) rfl (wz_at i rfl)))
        intro s hs
        by_cases z : s = i
        · subst z; exact pk_us
        · rw [pk_un z]; exact I2 s (by omega)
    · intro n i nw hi I ih
      obtain ⟨s0, s1, -⟩ := Pl.2.2 i hi
      have b0 := wt_xd_lt Pl.1 i false hi
      have b1 := wt_xd_lt Pl.1 i true hi
      have e0 := wz_at (i * 2) s0 (wz_m2 i)
      have e1 := wz_at (i * 2 + 1) s1 (wz_m21 i)
      refine br_f (nI_ge (b := 195) hi (by omega)) (wz_in (i * 2) (wz_in (wt_xd Q i false) (wz_in i (wz_st (wt_xd Q i false) (nw (wt_xd Q i false) + a_ways i) (wz_in (i * 2 + 1) (wz_in (wt_xd Q i true) (wz_in i (wz_st (wt_xd Q i true) (upd nw (wt_xd Q i false) (nw (wt_xd Q i false) + a_ways i) (wt_xd Q i true) + a_ways i) (nm_r (nI_1 i) (ih _ ?_)) (by omega) e1 ?_)) (by omega) e1) (by omega) (wz_m21 i)) (by omega) e0 ?_)) (by omega) e0) (by omega) (wz_m2 i))
      · rw [ws_sum_upd _ _ _ _ 195 b1, ws_sum_upd _ _ _ _ 195 b0, I, ws_sum_s, xw_ring, nI_add]
        rfl
      · rw [e1, nI_clamp (by omega), nI_clamp (by omega)]
      · rw [e0, nI_clamp (by omega), nI_clamp (by omega)]
  · intro n i nw hi I ih
    refine br_f (nI_ge (b := 195) hi (by omega)) (wz_st i 0 (nm_r (nI_1 i) (ih _ ?_)))
    intro s hs
    by_cases z : s = i
    · subst z; exact pk_us
    · rw [pk_un z]; exact I s (by omega)
theorem xw_cw {post : Int32 → SX → Prop} {Q : Nat → ws_Pat} (Pl : wr_XP Q a_placedSizes a_steps a_ends) {k m : Nat} (hk : k < 3) (hm : m < 2 ^ 31) (K : ∀ wa nw : Nat → Int32, post (nI (ws_A (wt_d (Q k)) (wt_a (Q k)) m 64)) (f_stacked, f_signCount, f_demandCount, f_boundCount, a_sizes, a_withEmpty, a_firsts, a_lasts, a_zeroReaders, a_oneReaders, a_followers, a_placedSizes, a_steps, a_ends, wa, nw, a_groups, a_finerGroups, a_reached, a_signs, a_demandSigns, a_demandSignCounts, a_demandPatterns, a_demandKept, a_boundA, a_boundB, a_boundC, a_boundD)) : wpX_countWords post (f_stacked, f_signCount, f_demandCount, f_boundCount, a_sizes, a_withEmpty, a_firsts, a_lasts, a_zeroReaders, a_oneReaders, a_followers, a_placedSizes, a_steps, a_ends, a_ways, a_nextWays, a_groups, a_finerGroups, a_reached, a_signs, a_demandSigns, a_demandSignCounts, a_demandPatterns, a_demandKept, a_boundA, a_boundB, a_boundC, a_boundD) (nI k) (nI m) := by
  refine pk_loop (fun n i wa => wX_countWords_2 post (nI k) (nI m) f_stacked f_signCount f_demandCount f_boundCount n (nI i) a_sizes a_withEmpty a_firsts a_lasts a_zeroReaders a_oneReaders a_followers a_placedSizes a_steps a_ends wa a_nextWays a_groups a_finerGroups a_reached a_signs a_demandSigns a_demandSignCounts a_demandPatterns a_demandKept a_boundA a_boundB a_boundC a_boundD) (fun i wa => ∀ s, s < i → wa s = 0) 195 0 a_ways (by omega) (fun s hs => absurd hs (by omega)) ?_ ?_
  · intro n wa I
    refine br_t (nI_le (a := 195) (b := 195) (by omega) (by omega)) (wz_st (k * 65 + 64) 1 ?_ (by omega) (wz_m64 k) rfl)
    refine pk_loop (fun n r (s : (Nat → Int32) × (Nat → Int32)) => wX_countWords_37 post (nI m) n (nI r) f_stacked f_signCount f_demandCount f_boundCount a_sizes a_withEmpty a_firsts a_lasts a_zeroReaders a_oneReaders a_followers a_placedSizes a_steps a_ends s.1 s.2 a_groups a_finerGroups a_reached a_signs a_demandSigns a_demandSignCounts a_demandPatterns a_demandKept a_boundA a_boundB a_boundC a_boundD) (fun r s => ws_sum s.1 (ws_A (wt_xd Q) (wt_xa Q) (m - r)) 195 = nI (ws_A (wt_d (Q k)) (wt_a (Q k)) m 64)) m 0 (upd wa (k * 65 + 64) 1, a_nextWays) (by omega) ?_ ?_ ?_
    · dsimp only
      have e : upd wa (k * 65 + 64) 1 = upd wa (k * 65 + 64) (wa (k * 65 + 64) + 1) := by rw [I _ (by omega)]; rfl
      rw [e, ws_sum_upd _ _ _ _ 195 (by omega), ws_sum_0 _ 195 I, Int32.zero_add, Int32.one_mul, Nat.sub_zero, Nat.mul_comm k 65, wt_xA Pl.1 hk m 64 (by omega)]
    · intro n s I2
      refine br_t (nI_le (Nat.le_refl _) hm) ?_
      rw [Nat.sub_self] at I2
      refine pk_loop (fun n i x => wX_countWords_57 post f_stacked f_signCount f_demandCount f_boundCount a_sizes a_withEmpty a_firsts a_lasts a_zeroReaders a_oneReaders a_followers a_placedSizes a_steps a_ends s.1 s.2 a_groups a_finerGroups a_reached a_signs a_demandSigns a_demandSignCounts a_demandPatterns a_demandKept a_boundA a_boundB a_boundC a_boundD n x (nI i)) (fun i x => x = ws_sum s.1 (ws_A (wt_xd Q) (wt_xa Q) 0) i) 195 0 0 (by omega) rfl ?_ ?_
      · intro n x I3
        rw [I2] at I3
        subst I3
        exact br_t (nI_le (a := 195) (b := 195) (by omega) (by omega)) (K s.1 s.2)
      · intro n i x hi I3 ih
        have hA : ws_A (wt_xd Q) (wt_xa Q) 0 i = if wt_xa Q i = true then 1 else 0 := rfl
        refine br_f (nI_ge (b := 195) hi (by omega)) (wz_in i (wz_if (wt_xa Q i) (fun z => nm_e (nm_r (nI_1 i) (ih _ ?_))) (fun z => wz_in i (nm_e (nm_r (nI_1 i) (ih _ ?_)))) (wz_at i (Pl.2.2 i hi).2.2)))
        · rw [ws_sum_s, hA, z, I3, if_neg Bool.false_ne_true, show nI 0 = 0 from rfl, Int32.mul_zero]
        · rw [ws_sum_s, hA, z, I3, if_pos rfl, show nI 1 = 1 from rfl, Int32.mul_one, wz_at (a := s.1) i rfl]
    · intro n r s hr I2 ih
      refine br_f (nI_ge hr hm) (xw_rol Pl (m - (r + 1)) (fun wa nw h => nm_r (nI_1 r) (ih (wa, nw) ?_)))
      dsimp only
      rw [h, show m - (r + 1) + 1 = m - r from by omega]
      exact I2
  · intro n i wa hi I ih
    refine br_f (nI_ge (b := 195) hi (by omega)) (wz_st i 0 (nm_r (nI_1 i) (ih _ ?_)))
    intro s hs
    by_cases z : s = i
    · subst z; exact pk_us
    · rw [pk_un z]; exact I s (by omega)
/-- one of the numbers of words of length 7 to 12 is not 0 -/
theorem xw_end {post : Int32 → SX → Prop} {Q : Nat → ws_Pat} (Pl : wr_XP Q a_placedSizes a_steps a_ends) {k : Nat} (hk : k < 3) (K : ∀ (b : Bool) (wa nw : Nat → Int32), (b = true ↔ ∃ n, 7 ≤ n ∧ n < 13 ∧ 0 < ws_A (wt_d (Q k)) (wt_a (Q k)) n 64) → post (wr_b b) (f_stacked, f_signCount, f_demandCount, f_boundCount, a_sizes, a_withEmpty, a_firsts, a_lasts, a_zeroReaders, a_oneReaders, a_followers, a_placedSizes, a_steps, a_ends, wa, nw, a_groups, a_finerGroups, a_reached, a_signs, a_demandSigns, a_demandSignCounts, a_demandPatterns, a_demandKept, a_boundA, a_boundB, a_boundC, a_boundD)) : ∃ n, wX_endless_14 post (nI k) n 7 f_stacked f_signCount f_demandCount f_boundCount a_sizes a_withEmpty a_firsts a_lasts a_zeroReaders a_oneReaders a_followers a_placedSizes a_steps a_ends a_ways a_nextWays a_groups a_finerGroups a_reached a_signs a_demandSigns a_demandSignCounts a_demandPatterns a_demandKept a_boundA a_boundB a_boundC a_boundD := by
  refine pk_loop (fun n i (s : (Nat → Int32) × (Nat → Int32)) => wX_endless_14 post (nI k) n (nI i) f_stacked f_signCount f_demandCount f_boundCount a_sizes a_withEmpty a_firsts a_lasts a_zeroReaders a_oneReaders a_followers a_placedSizes a_steps a_ends s.1 s.2 a_groups a_finerGroups a_reached a_signs a_demandSigns a_demandSignCounts a_demandPatterns a_demandKept a_boundA a_boundB a_boundC a_boundD) (fun i _ => 7 ≤ i ∧ ∀ n, 7 ≤ n → n < i → ws_A (wt_d (Q k)) (wt_a (Q k)) n 64 = 0) 13 7 (a_ways, a_nextWays) (by omega) ⟨by omega, fun n h1 h2 => absurd h1 (by omega)⟩ ?_ ?_
  · intro n s I
    refine br_t (nI_lt (a := 12) (b := 13) (by omega) (by omega)) (K false s.1 s.2 ⟨fun z => absurd z Bool.false_ne_true, ?_⟩)
    rintro ⟨n, h1, h2, h3⟩
    have := I.2 n h1 h2
    omega
  · intro n i s hi I ih
    have hA := ws_A_le (wt_d (Q k)) (wt_a (Q k)) i 64
    have hA2 : 2 ^ i ≤ 2 ^ 12 := Nat.pow_le_pow_right (by decide) (by omega)
    refine br_f (nI_nlt (b := i) (a := 12) (by omega) (by omega)) (xw_cw Pl hk (by omega) (fun wa nw => pk_le (ws_A (wt_d (Q k)) (wt_a (Q k)) i 64) 0 (fun z => nm_r (nI_1 i) (ih (wa, nw) ⟨by omega, ?_⟩)) (fun z => K true wa nw ⟨fun _ => ⟨i, I.1, hi, z⟩, fun _ => rfl⟩)))
    intro n h1 h2
    by_cases e : n = i
    · subst e; omega
    · exact I.2 n h1 (by omega)
end
end
section
/-! the component: groups of states -/
section
variable {f_stacked f_signCount f_demandCount f_boundCount : Int32} {a_sizes a_withEmpty a_firsts a_lasts a_zeroReaders a_oneReaders a_followers a_placedSizes a_steps a_ends a_ways a_nextWays a_groups a_finerGroups a_reached a_signs a_demandSigns a_demandSignCounts a_demandPatterns a_demandKept a_boundA a_boundB a_boundC a_boundD : Nat → Int32}
def xg_g (ga : Nat → Int32) (g : Nat → Nat) : Prop := ∀ s, s < 195 → ga s = nI (g s) ∧ g s < 195
theorem xg_al {post : Int32 → Prop} {Q : Nat → ws_Pat} (Pl : wr_XP Q a_placedSizes a_steps a_ends) {g : Nat → Nat} (hg : xg_g a_groups g) {s t : Nat} (hs : s < 195) (ht : t < 195) (K1 : ws_alk (wt_xd Q) g s t → post 1) (K0 : ¬ ws_alk (wt_xd Q) g s t → post 0) : wpX_areAlike post (f_stacked, f_signCount, f_demandCount, f_boundCount, a_sizes, a_withEmpty, a_firsts, a_lasts, a_zeroReaders, a_oneReaders, a_followers, a_placedSizes, a_steps, a_ends, a_ways, a_nextWays, a_groups, a_finerGroups, a_reached, a_signs, a_demandSigns, a_demandSignCounts, a_demandPatterns, a_demandKept, a_boundA, a_boundB, a_boundC, a_boundD) (nI s) (nI t) := by
  obtain ⟨p0, p1, -⟩ := Pl.2.2 s hs
  obtain ⟨q0, q1, -⟩ := Pl.2.2 t ht
  have bp0 := wt_xd_lt Pl.1 s false hs
  have bp1 := wt_xd_lt Pl.1 s true hs
  have bq0 := wt_xd_lt Pl.1 t false ht
  have bq1 := wt_xd_lt Pl.1 t true ht
  have ep0 := wz_at (s * 2) p0 (wz_m2 s)
  have ep1 := wz_at (s * 2 + 1) p1 (wz_m21 s)
  have eq0 := wz_at (t * 2) q0 (wz_m2 t)
  have eq1 := wz_at (t * 2 + 1) q1 (wz_m21 t)
  have gs := hg s hs
  have gt := hg t ht
  have gp0 := hg _ bp0
  have gp1 := hg _ bp1
  have gq0 := hg _ bq0
  have gq1 := hg _ bq1
  refine wz_in s (wz_in t (pk_eq (g s) (g t) (fun z1 => ?_) (fun z1 => K0 (fun z => z1 z.1)) (wz_at s gs.1) (wz_at t gt.1)))
  refine wz_in (s * 2) (wz_in (wt_xd Q s false) (wz_in (t * 2) (wz_in (wt_xd Q t false) (pk_eq (g (wt_xd Q s false)) (g (wt_xd Q t false)) (fun z2 => ?_) (fun z2 => K0 (fun z => z2 z.2.1)) (wz_at _ gp0.1 ep0) (wz_at _ gq0.1 eq0)) (by omega) eq0) (by omega) (wz_m2 t)) (by omega) ep0) (by omega) (wz_m2 s)
  refine wz_in (s * 2 + 1) (wz_in (wt_xd Q s true) (wz_in (t * 2 + 1) (wz_in (wt_xd Q t true) (pk_eq (g (wt_xd Q s true)) (g (wt_xd Q t true)) (fun z3 => K1 ⟨z1, z2, z3⟩) (fun z3 => K0 (fun z => z3 z.2.2)) (wz_at _ gp1.1 ep1) (wz_at _ gq1.1 eq1)) (by omega) eq1) (by omega) (wz_m21 t)) (by omega) ep1) (by omega) (wz_m21 s)
theorem xg_11 {post : Int32 → SX → Prop} {J : Int32 → (Nat → Int32) → (Nat → Int32) → (Nat → Int32) → (Nat → Int32) → (Nat → Int32) → (Nat → Int32) → (Nat → Int32) → (Nat → Int32) → (Nat → Int32) → (Nat → Int32) → (Nat → Int32) → (Nat → Int32) → (Nat → Int32) → (Nat → Int32) → (Nat → Int32) → (Nat → Int32) → (Nat → Int32) → (Nat → Int32) → (Nat → Int32) → (Nat → Int32) → (Nat → Int32) → (Nat → Int32) → (Nat → Int32) → (Nat → Int32) → Prop} {Q : Nat → ws_Pat} (Pl : wr_XP Q a_placedSizes a_steps a_ends) {g : Nat → Nat} (hg : xg_g a_groups g) {s : Nat} (hs : s < 195) (K : ∀ l, l ≤ s → ws_alk (wt_xd Q) g l s → (∀ t, t < l → ¬ ws_alk (wt_xd Q) g t s) → J (nI (s + 1)) a_sizes a_withEmpty a_firsts a_lasts a_zeroReaders a_oneReaders a_followers a_placedSizes a_steps a_ends a_ways a_nextWays a_groups (upd a_finerGroups s (nI l)) a_reached a_signs a_demandSigns a_demandSignCounts a_demandPatterns a_demandKept a_boundA a_boundB a_boundC a_boundD) : ∃ n, wX_splitGroups_11 post J (nI s) f_stacked f_signCount f_demandCount f_boundCount a_sizes a_withEmpty a_firsts a_lasts a_zeroReaders a_oneReaders a_followers a_placedSizes a_steps a_ends a_ways a_nextWays a_groups a_finerGroups a_reached a_signs a_demandSigns a_demandSignCounts a_demandPatterns a_demandKept a_boundA a_boundB a_boundC a_boundD n 0 := by
  refine pk_loop (fun n l (_ : Unit) => wX_splitGroups_11 post J (nI s) f_stacked f_signCount f_demandCount f_boundCount a_sizes a_withEmpty a_firsts a_lasts a_zeroReaders a_oneReaders a_followers a_placedSizes a_steps a_ends a_ways a_nextWays a_groups a_finerGroups a_reached a_signs a_demandSigns a_demandSignCounts a_demandPatterns a_demandKept a_boundA a_boundB a_boundC a_boundD n (nI l)) (fun l _ => ∀ t, t < l → ¬ ws_alk (wt_xd Q) g t s) s 0 () (by omega) (fun t ht => absurd ht (by omega)) ?_ ?_
  · intro n _ I
    exact br_t (nI_le (Nat.le_refl _) (by omega)) (wz_st s (nI s) (nm_r (nI_1 s) (K s (Nat.le_refl s) ⟨rfl, rfl, rfl⟩ I)))
  · intro n l _ hl I ih
    refine br_f (nI_ge hl (by omega)) (xg_al Pl hg (by omega) hs (fun z => br_f (by decide) (wz_st s (nI l) (nm_r (nI_1 s) (K l (by omega) z I)))) (fun z => br_t rfl (nm_r (nI_1 l) (ih () ?_))))
    intro t ht
    by_cases e : t = l
    · subst e; exact z
    · exact I t (by omega)
theorem xg_sp {post : Int32 → SX → Prop} {Q : Nat → ws_Pat} (Pl : wr_XP Q a_placedSizes a_steps a_ends) {g : Nat → Nat} (hg : xg_g a_groups g) (K : ∀ (b : Bool) (gr fg : Nat → Int32) (g' : Nat → Nat), xg_g gr g' → ws_spl (wt_xd Q) 195 g g' → (b = true → ∃ s, s < 195 ∧ g s ≠ g' s) → (b = false → ∀ s, s < 195 → g s = g' s) → post (wr_b b) (f_stacked, f_signCount, f_demandCount, f_boundCount, a_sizes, a_withEmpty, a_firsts, a_lasts, a_zeroReaders, a_oneReaders, a_followers, a_placedSizes, a_steps, a_ends, a_ways, a_nextWays, gr, fg, a_reached, a_signs, a_demandSigns, a_demandSignCounts, a_demandPatterns, a_demandKept, a_boundA, a_boundB, a_boundC, a_boundD)) : wpX_splitGroups post (f_stacked, f_signCount, f_demandCount, f_boundCount, a_sizes, a_withEmpty, a_firsts, a_lasts, a_zeroReaders, a_oneReaders, a_followers, a_placedSizes, a_steps, a_ends, a_ways, a_nextWays, a_groups, a_finerGroups, a_reached, a_signs, a_demandSigns, a_demandSignCounts, a_demandPatterns, a_demandKept, a_boundA, a_boundB, a_boundC, a_boundD) := by
  refine pk_loop (fun n s fg => wX_splitGroups_2 post f_stacked f_signCount f_demandCount f_boundCount n (nI s) a_sizes a_withEmpty a_firsts a_lasts a_zeroReaders a_oneReaders a_followers a_placedSizes a_steps a_ends a_ways a_nextWays a_groups fg a_reached a_signs a_demandSigns a_demandSignCounts a_demandPatterns a_demandKept a_boundA a_boundB a_boundC a_boundD) (fun i fg => ∀ s, s < i → ∃ l, fg s = nI l ∧ l ≤ s ∧ ws_alk (wt_xd Q) g l s ∧ ∀ t, t < l → ¬ ws_alk (wt_xd Q) g t s) 195 0 a_finerGroups (by omega) (fun s hs => absurd hs (by omega)) ?_ ?_
  · intro n fg I
    have hf : ∀ s, s < 195 → fg s = nI (fg s).toNatClampNeg ∧ (fg s).toNatClampNeg ≤ s ∧ ws_alk (wt_xd Q) g (fg s).toNatClampNeg s ∧ ∀ t, t < (fg s).toNatClampNeg → ¬ ws_alk (wt_xd Q) g t s := by
      intro s hs
      obtain ⟨l, h1, h2⟩ := I s hs
      have e : (fg s).toNatClampNeg = l := by rw [h1]; exact nI_clamp (by omega)
      rw [e]
      exact ⟨h1, h2⟩
    generalize hg' : (fun s => (fg s).toNatClampNeg) = g' at *
    have hg2 : ∀ s, (fg s).toNatClampNeg = g' s := fun s => by rw [← hg']
    simp only [hg2] at hf
    refine br_t (nI_le (a := 195) (b := 195) (by omega) (by omega)) ?_
    refine pk_loop (fun n i (s : Int32 × (Nat → Int32)) => wX_splitGroups_48 post f_stacked f_signCount f_demandCount f_boundCount n s.1 (nI i) a_sizes a_withEmpty a_firsts a_lasts a_zeroReaders a_oneReaders a_followers a_placedSizes a_steps a_ends a_ways a_nextWays s.2 fg a_reached a_signs a_demandSigns a_demandSignCounts a_demandPatterns a_demandKept a_boundA a_boundB a_boundC a_boundD) (fun i s => ∃ b : Bool, s.1 = wr_b b ∧ (b = true → ∃ t, t < 195 ∧ g t ≠ g' t) ∧ (b = false → ∀ t, t < i → g t = g' t) ∧ (∀ t, t < i → s.2 t = fg t) ∧ ∀ t, i ≤ t → s.2 t = a_groups t) 195 0 (0, a_groups) (by omega) ⟨false, rfl, fun z => absurd z Bool.false_ne_true, fun _ t ht => absurd ht (by omega), fun t ht => absurd ht (by omega), fun _ _ => rfl⟩ ?_ ?_
    · intro n s I2
      obtain ⟨b, h1, h2, h3, h4, _⟩ := I2
      refine br_t (nI_le (a := 195) (b := 195) (by omega) (by omega)) ?_
      rw [h1]
      refine ⟨wr_b_n b, K b s.2 fg g' ?_ ?_ h2 h3⟩
      · intro t ht
        have := hf t ht
        exact ⟨(h4 t ht).trans this.1, by omega⟩
      · intro t ht
        exact (hf t ht).2
    · intro n i s hi I2 ih
      obtain ⟨b, h1, h2, h3, h4, h5⟩ := I2
      have hfi := hf i hi
      have step : ∀ b' : Bool, (b' = true → ∃ t, t < 195 ∧ g t ≠ g' t) → (b' = false → ∀ t, t < i + 1 → g t = g' t) → wX_splitGroups_79 post (wX_splitGroups_48 post f_stacked f_signCount f_demandCount f_boundCount n) (nI i) (wr_b b') f_stacked f_signCount f_demandCount f_boundCount a_sizes a_withEmpty a_firsts a_lasts a_zeroReaders a_oneReaders a_followers a_placedSizes a_steps a_ends a_ways a_nextWays s.2 fg a_reached a_signs a_demandSigns a_demandSignCounts a_demandPatterns a_demandKept a_boundA a_boundB a_boundC a_boundD := by
        intro b' k1 k2
        refine wz_in i (wz_st i (fg i) (nm_r (nI_1 i) (ih (wr_b b', upd s.2 i (fg i)) ⟨b', rfl, k1, k2, ?_, ?_⟩)) (by omega) rfl (wz_at i rfl))
        · intro t ht
          by_cases e : t = i
          · subst e; exact pk_us
          · dsimp only; rw [pk_un e]; exact h4 t (by omega)
        · intro t ht
          dsimp only; rw [pk_un (by omega)]; exact h5 t (by omega)
      refine br_f (nI_ge (b := 195) hi (by omega)) ?_
      rw [h1]
      refine wz_if b (fun z => wz_in i (wz_in i (pk_eq (g i) (g' i) (fun w => step false (fun y => absurd y Bool.false_ne_true) (fun _ t ht => ?_)) (fun w => step true (fun _ => ⟨i, hi, w⟩) (fun y => absurd y.symm Bool.false_ne_true)) (wz_at i ((h5 i (Nat.le_refl i)).trans (hg i hi).1)) (wz_at i hfi.1) (by have := (hg i hi).2; omega) (by omega)))) (fun z => step true (fun _ => h2 z) (fun y => absurd y.symm Bool.false_ne_true))
      by_cases e : t = i
      · subst e; exact w
      · exact h3 z t (by omega)
  · intro n i fg hi I ih
    refine br_f (nI_ge (b := 195) hi (by omega)) (xg_11 Pl hg hi (fun l h1 h2 h3 => ih _ ?_))
    intro s hs
    by_cases e : s = i
    · subst e; exact ⟨l, pk_us, h1, h2, h3⟩
    · rw [pk_un e]; exact I s (by omega)
theorem xg_gs {post : SX → Prop} {Q : Nat → ws_Pat} (Pl : wr_XP Q a_placedSizes a_steps a_ends) (K : ∀ (gr fg : Nat → Int32) (g : Nat → Nat), xg_g gr g → (∀ s t, s < 195 → t < 195 → (g s = g t ↔ ws_eqv (wt_xd Q) (wt_xa Q) s t)) → post (f_stacked, f_signCount, f_demandCount, f_boundCount, a_sizes, a_withEmpty, a_firsts, a_lasts, a_zeroReaders, a_oneReaders, a_followers, a_placedSizes, a_steps, a_ends, a_ways, a_nextWays, gr, fg, a_reached, a_signs, a_demandSigns, a_demandSignCounts, a_demandPatterns, a_demandKept, a_boundA, a_boundB, a_boundC, a_boundD)) : wpX_groupStates post (f_stacked, f_signCount, f_demandCount, f_boundCount, a_sizes, a_withEmpty, a_firsts, a_lasts, a_zeroReaders, a_oneReaders, a_followers, a_placedSizes, a_steps, a_ends, a_ways, a_nextWays, a_groups, a_finerGroups, a_reached, a_signs, a_demandSigns, a_demandSignCounts, a_demandPatterns, a_demandKept, a_boundA, a_boundB, a_boundC, a_boundD) := by
  refine pk_loop (fun n i gr => wX_groupStates_2 post f_stacked f_signCount f_demandCount f_boundCount n (nI i) a_sizes a_withEmpty a_firsts a_lasts a_zeroReaders a_oneReaders a_followers a_placedSizes a_steps a_ends a_ways a_nextWays gr a_finerGroups a_reached a_signs a_demandSigns a_demandSignCounts a_demandPatterns a_demandKept a_boundA a_boundB a_boundC a_boundD) (fun i gr => ∀ s, s < i → gr s = nI (if wt_xa Q s = true then 1 else 0)) 195 0 a_groups (by omega) (fun s hs => absurd hs (by omega)) ?_ ?_
  · intro n gr I
    refine br_t (nI_le (a := 195) (b := 195) (by omega) (by omega)) ?_
    refine pk_loop (fun n r (s : Int32 × (Nat → Int32) × (Nat → Int32)) => wX_groupStates_39 post n s.1 (nI r) f_stacked f_signCount f_demandCount f_boundCount a_sizes a_withEmpty a_firsts a_lasts a_zeroReaders a_oneReaders a_followers a_placedSizes a_steps a_ends a_ways a_nextWays s.2.1 s.2.2 a_reached a_signs a_demandSigns a_demandSignCounts a_demandPatterns a_demandKept a_boundA a_boundB a_boundC a_boundD) (fun r s => ∃ (b : Bool) (g : Nat → Nat), s.1 = wr_b b ∧ xg_g s.2.1 g ∧ ws_G (wt_xd Q) (wt_xa Q) 195 r b g) 196 0 (1, gr, a_finerGroups) (by omega) ?_ ?_ ?_
    · refine ⟨true, fun s => if wt_xa Q s = true then 1 else 0, rfl, fun s hs => ⟨I s hs, ?_⟩, ws_J0 (fun _ _ => rfl), fun _ => Or.inl rfl, fun z => absurd z.symm Bool.false_ne_true⟩
      dsimp only
      split <;> omega
    · intro n s I2
      obtain ⟨b, g, _, h2, h3⟩ := I2
      exact br_t (nI_lt (a := 195) (b := 196) (by omega) (by omega)) (K s.2.1 s.2.2 g h2 (ws_G_e (by omega) h3))
    · intro n r s hr I2 ih
      obtain ⟨b, g, h1, h2, h3⟩ := I2
      refine br_f (nI_nlt (b := r) (a := 195) (by omega) (by omega)) ?_
      rw [h1]
      refine wz_if b (fun z => K s.2.1 s.2.2 g h2 (h3.2.2 z)) (fun z => ?_)
      subst z
      exact xg_sp Pl h2 (fun b' gr' fg' g' k1 k2 k3 k4 => nm_r (nI_1 r) (ih (wr_b b', gr', fg') ⟨b', g', rfl, k1, ws_G_s (by omega) (fun s b hs => wt_xd_lt Pl.1 s b hs) h3 k2 k3 k4⟩))
  · intro n i gr hi I ih
    have hn : ∀ v, v = nI (if wt_xa Q i = true then 1 else 0) → ∀ s, s < i + 1 → upd gr i v s = nI (if wt_xa Q s = true then 1 else 0) := by
      intro v hv s hs
      by_cases e : s = i
      · subst e; rw [pk_us, hv]
      · rw [pk_un e]; exact I s (by omega)
    refine br_f (nI_ge (b := 195) hi (by omega)) (wz_in i (wz_if (wt_xa Q i) (fun z => wz_st i 0 (nm_r (nI_1 i) (ih _ (hn 0 ?_)))) (fun z => wz_st i 1 (nm_r (nI_1 i) (ih _ (hn 1 ?_)))) (wz_at i (Pl.2.2 i hi).2.2)))
    · rw [z]; rfl
    · rw [z]; rfl
end
end
section
/-! the component: which states are reached, how many rests -/
def xr_r (ra : Nat → Int32) (R : Nat → Bool) : Prop := ∀ s, s < 195 → ra s = wr_b (R s)
def xr_up (R : Nat → Bool) (t : Nat) : Nat → Bool := fun s => if s = t then true else R s
theorem xr_up_s (R : Nat → Bool) (t : Nat) : xr_up R t t = true := if_pos rfl
theorem xr_up_n (R : Nat → Bool) {t s : Nat} (h : s ≠ t) : xr_up R t s = R s := if_neg h
theorem xr_up_m (R : Nat → Bool) (t : Nat) {s : Nat} (h : R s = true) : xr_up R t s = true := by
  unfold xr_up
  split
  · rfl
  · exact h
theorem xr_up_c {R : Nat → Bool} {t s : Nat} (h : xr_up R t s = true) : s = t ∨ R s = true := by
  unfold xr_up at h
  split at h
  · exact Or.inl (by assumption)
  · exact Or.inr h
theorem xr_r_up {ra : Nat → Int32} {R : Nat → Bool} (h : xr_r ra R) (t : Nat) : xr_r (upd ra t 1) (xr_up R t) := by
  intro s hs
  by_cases z : s = t
  · subst z; rw [pk_us, xr_up_s]; rfl
  · rw [pk_un z, xr_up_n R z]; exact h s hs
section
variable {f_stacked f_signCount f_demandCount f_boundCount : Int32} {a_sizes a_withEmpty a_firsts a_lasts a_zeroReaders a_oneReaders a_followers a_placedSizes a_steps a_ends a_ways a_nextWays a_groups a_finerGroups a_reached a_signs a_demandSigns a_demandSignCounts a_demandPatterns a_demandKept a_boundA a_boundB a_boundC a_boundD : Nat → Int32}
theorem xr_rf {post : Int32 → SX → Prop} {Q : Nat → ws_Pat} (Pl : wr_XP Q a_placedSizes a_steps a_ends) {s0 : Nat} {R0 : Nat → Bool} (h0 : xr_r a_reached R0) (hr : ∀ s, s < 195 → R0 s = true → ws_rch (wt_xd Q) s0 s) (K : ∀ (b : Bool) (ra : Nat → Int32) (R : Nat → Bool), xr_r ra R → (∀ s, s < 195 → R0 s = true → R s = true) → (∀ s, s < 195 → R s = true → ws_rch (wt_xd Q) s0 s) → (b = false → ∀ s c, s < 195 → R s = true → R (wt_xd Q s c) = true) → (b = true → ws_cnt R0 195 < ws_cnt R 195) → post (wr_b b) (f_stacked, f_signCount, f_demandCount, f_boundCount, a_sizes, a_withEmpty, a_firsts, a_lasts, a_zeroReaders, a_oneReaders, a_followers, a_placedSizes, a_steps, a_ends, a_ways, a_nextWays, a_groups, a_finerGroups, ra, a_signs, a_demandSigns, a_demandSignCounts, a_demandPatterns, a_demandKept, a_boundA, a_boundB, a_boundC, a_boundD)) : wpX_reachFurther post (f_stacked, f_signCount, f_demandCount, f_boundCount, a_sizes, a_withEmpty, a_firsts, a_lasts, a_zeroReaders, a_oneReaders, a_followers, a_placedSizes, a_steps, a_ends, a_ways, a_nextWays, a_groups, a_finerGroups, a_reached, a_signs, a_demandSigns, a_demandSignCounts, a_demandPatterns, a_demandKept, a_boundA, a_boundB, a_boundC, a_boundD) := by
  refine pk_loop (fun n i (s : Int32 × (Nat → Int32)) => wX_reachFurther_4 post f_stacked f_signCount f_demandCount f_boundCount n s.1 (nI i) a_sizes a_withEmpty a_firsts a_lasts a_zeroReaders a_oneReaders a_followers a_placedSizes a_steps a_ends a_ways a_nextWays a_groups a_finerGroups s.2 a_signs a_demandSigns a_demandSignCounts a_demandPatterns a_demandKept a_boundA a_boundB a_boundC a_boundD) (fun i s => ∃ (b : Bool) (R : Nat → Bool), s.1 = wr_b b ∧ xr_r s.2 R ∧ (∀ t, t < 195 → R0 t = true → R t = true) ∧ (∀ t, t < 195 → R t = true → ws_rch (wt_xd Q) s0 t) ∧ (b = false → (∀ t, t < 195 → R t = R0 t) ∧ ∀ t c, t < i → R t = true → R (wt_xd Q t c) = true) ∧ (b = true → ∃ t, t < 195 ∧ R t = true ∧ R0 t = false)) 195 0 (0, a_reached) (by omega) ⟨false, R0, rfl, h0, fun _ _ h => h, hr, fun _ => ⟨fun _ _ => rfl, fun t c ht => absurd ht (by omega)⟩, fun z => absurd z Bool.false_ne_true⟩ ?_ ?_
  · intro n s I
    obtain ⟨b, R, h1, h2, h3, h4, h5, h6⟩ := I
    refine br_t (nI_le (a := 195) (b := 195) (by omega) (by omega)) ?_
    rw [h1]
    exact ⟨wr_b_n b, K b s.2 R h2 h3 h4 (fun z t c ht hR => (h5 z).2 t c ht hR) (fun z => ws_cnt_lt R0 R 195 h3 (h6 z))⟩
  · intro n i s hi I ih
    obtain ⟨b, R, h1, h2, h3, h4, h5, h6⟩ := I
    obtain ⟨p0, p1, -⟩ := Pl.2.2 i hi
    have b0 := wt_xd_lt Pl.1 i false hi
    have b1 := wt_xd_lt Pl.1 i true hi
    have e0 := wz_at (i * 2) p0 (wz_m2 i)
    have e1 := wz_at (i * 2 + 1) p1 (wz_m21 i)
    refine br_f (nI_ge (b := 195) hi (by omega)) (wz_in i (wz_if (R i) (fun z => nm_r (nI_1 i) (ih s ⟨b, R, h1, h2, h3, h4, fun y => ⟨(h5 y).1, fun t c ht hR => ?_⟩, h6⟩)) (fun z => ?_) (wz_at i (h2 i hi))))
    · by_cases e : t = i
      · subst e; rw [z] at hR; exact absurd hR Bool.false_ne_true
      · exact (h5 y).2 t c (by omega) hR
    · have step : ∀ b' : Bool, (b' = false → b = false ∧ R (wt_xd Q i false) = true ∧ R (wt_xd Q i true) = true) → (b' = true → b = true ∨ R (wt_xd Q i false) = false ∨ R (wt_xd Q i true) = false) → wX_reachFurther_63 post (wX_reachFurther_4 post f_stacked f_signCount f_demandCount f_boundCount n) (nI i) (wr_b b') f_stacked f_signCount f_demandCount f_boundCount a_sizes a_withEmpty a_firsts a_lasts a_zeroReaders a_oneReaders a_followers a_placedSizes a_steps a_ends a_ways a_nextWays a_groups a_finerGroups s.2 a_signs a_demandSigns a_demandSignCounts a_demandPatterns a_demandKept a_boundA a_boundB a_boundC a_boundD := by
        intro b' k0 k1
        have hu : ∀ t, R t = true → xr_up (xr_up R (wt_xd Q i false)) (wt_xd Q i true) t = true := fun t ht => xr_up_m _ _ (xr_up_m _ _ ht)
        have hd : ∀ c, xr_up (xr_up R (wt_xd Q i false)) (wt_xd Q i true) (wt_xd Q i c) = true := by
          intro c
          cases c
          · exact xr_up_m _ _ (xr_up_s _ _)
          · exact xr_up_s _ _
        refine wz_in (i * 2) (wz_st (wt_xd Q i false) 1 (wz_in (i * 2 + 1) (wz_st (wt_xd Q i true) 1 (nm_r (nI_1 i) (ih (wr_b b', upd (upd s.2 (wt_xd Q i false) 1) (wt_xd Q i true) 1) ⟨b', xr_up (xr_up R (wt_xd Q i false)) (wt_xd Q i true), rfl, xr_r_up (xr_r_up h2 _) _, fun t ht h => hu t (h3 t ht h), ?_, ?_, ?_⟩)) (by omega) e1 rfl) (by omega) (wz_m21 i)) (by omega) e0 rfl) (by omega) (wz_m2 i)
        · intro t ht h
          rcases xr_up_c h with h | h
          · rw [h]; exact ws_rch_s (h4 i hi z) true
          · rcases xr_up_c h with h | h
            · rw [h]; exact ws_rch_s (h4 i hi z) false
            · exact h4 t ht h
        · intro y
          obtain ⟨y0, y1, y2⟩ := k0 y
          have same : ∀ t, xr_up (xr_up R (wt_xd Q i false)) (wt_xd Q i true) t = R t := by
            intro t
            by_cases q1 : t = wt_xd Q i true
            · rw [q1, xr_up_s, y2]
            · rw [xr_up_n _ q1]
              by_cases q0 : t = wt_xd Q i false
              · rw [q0, xr_up_s, y1]
              · rw [xr_up_n _ q0]
          refine ⟨fun t ht => (same t).trans ((h5 y0).1 t ht), fun t c ht hR => ?_⟩
          by_cases e : t = i
          · subst e; exact hd c
          · rw [same] at hR ⊢; exact (h5 y0).2 t c (by omega) hR
        · intro y
          cases hb : b with
          | true =>
            obtain ⟨t, t1, t2, t3⟩ := h6 hb
            exact ⟨t, t1, hu t t2, t3⟩
          | false =>
            have hs := (h5 hb).1
            rcases k1 y with w | w | w
            · rw [hb] at w; exact absurd w Bool.false_ne_true
            · exact ⟨wt_xd Q i false, b0, hd false, (hs _ b0).symm.trans w⟩
            · exact ⟨wt_xd Q i true, b1, hd true, (hs _ b1).symm.trans w⟩
      rw [h1]
      refine wz_if b (fun y => wz_in (i * 2) (wz_in (wt_xd Q i false) (wz_if (R (wt_xd Q i false)) (fun w => step true (fun q => absurd q.symm Bool.false_ne_true) (fun _ => Or.inr (Or.inl w))) (fun w => wz_in (i * 2 + 1) (wz_in (wt_xd Q i true) (wz_if (R (wt_xd Q i true)) (fun w2 => step true (fun q => absurd q.symm Bool.false_ne_true) (fun _ => Or.inr (Or.inr w2))) (fun w2 => step false (fun _ => ⟨y, w, w2⟩) (fun q => absurd q Bool.false_ne_true)) (wz_at _ (h2 _ b1) e1)) (by omega) e1) (by omega) (wz_m21 i)) (wz_at _ (h2 _ b0) e0)) (by omega) e0) (by omega) (wz_m2 i)) (fun y => step true (fun q => absurd q.symm Bool.false_ne_true) (fun _ => Or.inl y))
theorem xr_65 : ∀ k, k < 3 → ws_cnt (fun s => decide (s / 65 = k)) 195 = 65 := by decide +kernel
theorem xr_mr {post : SX → Prop} {Q : Nat → ws_Pat} (Pl : wr_XP Q a_placedSizes a_steps a_ends) {k : Nat} (hk : k < 3) (K : ∀ (ra : Nat → Int32) (R : Nat → Bool), xr_r ra R → (∀ s, s < 195 → (R s = true ↔ ws_rch (wt_xd Q) (k * 65 + 64) s)) → post (f_stacked, f_signCount, f_demandCount, f_boundCount, a_sizes, a_withEmpty, a_firsts, a_lasts, a_zeroReaders, a_oneReaders, a_followers, a_placedSizes, a_steps, a_ends, a_ways, a_nextWays, a_groups, a_finerGroups, ra, a_signs, a_demandSigns, a_demandSignCounts, a_demandPatterns, a_demandKept, a_boundA, a_boundB, a_boundC, a_boundD)) : wpX_markReached post (f_stacked, f_signCount, f_demandCount, f_boundCount, a_sizes, a_withEmpty, a_firsts, a_lasts, a_zeroReaders, a_oneReaders, a_followers, a_placedSizes, a_steps, a_ends, a_ways, a_nextWays, a_groups, a_finerGroups, a_reached, a_signs, a_demandSigns, a_demandSignCounts, a_demandPatterns, a_demandKept, a_boundA, a_boundB, a_boundC, a_boundD) (nI k) := by
  have hd : ∀ s b, s < 195 → wt_xd Q s b < 195 := fun s b hs => wt_xd_lt Pl.1 s b hs
  have clo : ∀ (ra : Nat → Int32) (R : Nat → Bool), xr_r ra R → R (k * 65 + 64) = true → (∀ s, s < 195 → R s = true → ws_rch (wt_xd Q) (k * 65 + 64) s) → (∀ s c, s < 195 → R s = true → R (wt_xd Q s c) = true) → post (f_stacked, f_signCount, f_demandCount, f_boundCount, a_sizes, a_withEmpty, a_firsts, a_lasts, a_zeroReaders, a_oneReaders, a_followers, a_placedSizes, a_steps, a_ends, a_ways, a_nextWays, a_groups, a_finerGroups, ra, a_signs, a_demandSigns, a_demandSignCounts, a_demandPatterns, a_demandKept, a_boundA, a_boundB, a_boundC, a_boundD) := by
    intro ra R h1 h2 h3 h4
    refine K ra R h1 (fun s hs => ⟨h3 s hs, ?_⟩)
    rintro ⟨w, rfl⟩
    exact ws_clo hd h4 w _ (by omega) h2
  have blk : ∀ R : Nat → Bool, (∀ s, s < 195 → R s = true → ws_rch (wt_xd Q) (k * 65 + 64) s) → ws_cnt R 195 ≤ 65 := by
    intro R h
    have := ws_cnt_mono R (fun s => decide (s / 65 = k)) 195 (fun s hs hR => by
      obtain ⟨w, e⟩ := h s hs hR
      rw [Nat.mul_comm, wt_xrun Pl.1 hk w 64 (by omega)] at e
      have := wt_run_lt (Pl.1 k hk) w 64 (by omega)
      exact decide_eq_true (by omega))
    rw [xr_65 k hk] at this
    exact this
  refine pk_loop (fun n i ra => wX_markReached_2 post (nI k) f_stacked f_signCount f_demandCount f_boundCount n (nI i) a_sizes a_withEmpty a_firsts a_lasts a_zeroReaders a_oneReaders a_followers a_placedSizes a_steps a_ends a_ways a_nextWays a_groups a_finerGroups ra a_signs a_demandSigns a_demandSignCounts a_demandPatterns a_demandKept a_boundA a_boundB a_boundC a_boundD) (fun i ra => ∀ s, s < i → ra s = 0) 195 0 a_reached (by omega) (fun s hs => absurd hs (by omega)) ?_ ?_
  · intro n ra I
    refine br_t (nI_le (a := 195) (b := 195) (by omega) (by omega)) (wz_st (k * 65 + 64) 1 ?_ (by omega) (wz_m64 k) rfl)
    have st : xr_r (upd ra (k * 65 + 64) 1) (xr_up (fun _ => false) (k * 65 + 64)) := xr_r_up (fun s hs => I s hs) _
    refine pk_loop (fun n r (s : Int32 × (Nat → Int32)) => wX_markReached_39 post n s.1 (nI r) f_stacked f_signCount f_demandCount f_boundCount a_sizes a_withEmpty a_firsts a_lasts a_zeroReaders a_oneReaders a_followers a_placedSizes a_steps a_ends a_ways a_nextWays a_groups a_finerGroups s.2 a_signs a_demandSigns a_demandSignCounts a_demandPatterns a_demandKept a_boundA a_boundB a_boundC a_boundD) (fun r s => ∃ (b : Bool) (R : Nat → Bool), s.1 = wr_b b ∧ xr_r s.2 R ∧ R (k * 65 + 64) = true ∧ (∀ s, s < 195 → R s = true → ws_rch (wt_xd Q) (k * 65 + 64) s) ∧ (b = true → r + 1 ≤ ws_cnt R 195) ∧ (b = false → ∀ s c, s < 195 → R s = true → R (wt_xd Q s c) = true)) 65 0 (1, upd ra (k * 65 + 64) 1) (by omega) ⟨true, _, rfl, st, xr_up_s _ _, ?_, fun _ => ws_cnt_pos _ 195 (k * 65 + 64) (by omega) (xr_up_s _ _), fun z => absurd z.symm Bool.false_ne_true⟩ ?_ ?_
    · intro s hs h
      rcases xr_up_c h with h | h
      · rw [h]; exact ws_rch_0 _ _
      · exact absurd h Bool.false_ne_true
    · intro n s I2
      obtain ⟨b, R, h1, h2, h3, h4, h5, h6⟩ := I2
      refine br_t (nI_le (a := 65) (b := 65) (by omega) (by omega)) ?_
      cases hb : b with
      | false => exact clo s.2 R h2 h3 h4 (h6 hb)
      | true =>
        have q1 := h5 hb
        have q2 := blk R h4
        omega
    · intro n r s hr I2 ih
      obtain ⟨b, R, h1, h2, h3, h4, h5, h6⟩ := I2
      refine br_f (nI_ge (b := 65) hr (by omega)) ?_
      rw [h1]
      refine wz_if b (fun z => clo s.2 R h2 h3 h4 (h6 z)) (fun z => ?_)
      exact xr_rf Pl h2 h4 (fun b' ra' R' k1 k2 k3 k4 k5 => nm_r (nI_1 r) (ih (wr_b b', ra') ⟨b', R', rfl, k1, k2 _ (by omega) h3, k3, fun y => by have := h5 z; have := k5 y; omega, k4⟩))
  · intro n i ra hi I ih
    refine br_f (nI_ge (b := 195) hi (by omega)) (wz_st i 0 (nm_r (nI_1 i) (ih _ ?_)))
    intro s hs
    by_cases z : s = i
    · subst z; exact pk_us
    · rw [pk_un z]; exact I s (by omega)
end
/-- reached, and with no earlier one that is equal and reached -/
def wf_fr (R : Nat → Bool) (E : Nat → Nat → Bool) (t : Nat) : Bool := R t && wl_all (fun o => !(R o && E o t)) t
theorem wf_fr_0 (R : Nat → Bool) (E : Nat → Nat → Bool) {t : Nat} (h : R t = false) : wf_fr R E t = false := by
  unfold wf_fr
  rw [h, Bool.false_and]
theorem wf_fr_1 (R : Nat → Bool) (E : Nat → Nat → Bool) {t : Nat} {b : Bool} (h : R t = true) (w : wl_all (fun o => !(R o && E o t)) t = b) : wf_fr R E t = b := by
  unfold wf_fr
  rw [h, w, Bool.true_and]
theorem wf_fr_congr {R R' : Nat → Bool} {E E' : Nat → Nat → Bool} {t : Nat} (hR : ∀ o, o ≤ t → R o = R' o) (hE : ∀ o, o < t → E o t = E' o t) : wf_fr R E t = wf_fr R' E' t := by
  unfold wf_fr
  rw [hR t (Nat.le_refl t), wl_all_congr t (fun o ho => by rw [hR o (by omega), hE o ho])]
section
variable {f_stacked f_signCount f_demandCount f_boundCount : Int32} {a_sizes a_withEmpty a_firsts a_lasts a_zeroReaders a_oneReaders a_followers a_placedSizes a_steps a_ends a_ways a_nextWays a_groups a_finerGroups a_reached a_signs a_demandSigns a_demandSignCounts a_demandPatterns a_demandKept a_boundA a_boundB a_boundC a_boundD : Nat → Int32}
theorem xr_if {post : Int32 → Prop} {R : Nat → Bool} {g : Nat → Nat} (hr : xr_r a_reached R) (hg : xg_g a_groups g) {k t : Nat} (hk : k < 3) (ht : t < 65) (K : post (wr_b (wl_all (fun o => !(R (k * 65 + o) && decide (g (k * 65 + o) = g (k * 65 + t)))) t))) : wpX_isFirstReachedOfGroup post (f_stacked, f_signCount, f_demandCount, f_boundCount, a_sizes, a_withEmpty, a_firsts, a_lasts, a_zeroReaders, a_oneReaders, a_followers, a_placedSizes, a_steps, a_ends, a_ways, a_nextWays, a_groups, a_finerGroups, a_reached, a_signs, a_demandSigns, a_demandSignCounts, a_demandPatterns, a_demandKept, a_boundA, a_boundB, a_boundC, a_boundD) (nI k) (nI (k * 65 + t)) := by
  refine nm_r (e' := nI (k * 65 + 0)) (wz_m65 k) ?_
  refine pk_loop (fun n o (_ : Unit) => wX_isFirstReachedOfGroup_5 post (nI (k * 65 + t)) f_stacked f_signCount f_demandCount f_boundCount a_sizes a_withEmpty a_firsts a_lasts a_zeroReaders a_oneReaders a_followers a_placedSizes a_steps a_ends a_ways a_nextWays a_groups a_finerGroups a_reached a_signs a_demandSigns a_demandSignCounts a_demandPatterns a_demandKept a_boundA a_boundB a_boundC a_boundD n (nI (k * 65 + o))) (fun i _ => wl_all (fun o => !(R (k * 65 + o) && decide (g (k * 65 + o) = g (k * 65 + t)))) i = true) t 0 () (by omega) rfl ?_ ?_
  · intro n _ I
    rw [I] at K
    exact br_t (nI_le (Nat.le_refl _) (by omega)) K
  · intro n o _ ho I ih
    have e := hr (k * 65 + o) (by omega)
    have g1 := hg (k * 65 + o) (by omega)
    have g2 := hg (k * 65 + t) (by omega)
    refine br_f (nI_ge (by omega) (by omega)) (wz_in (k * 65 + o) (wz_if (R (k * 65 + o)) (fun z => nm_r (nI_1 _) (ih () ?_)) (fun z => wz_in (k * 65 + o) (wz_in (k * 65 + t) (pk_eq (g (k * 65 + o)) (g (k * 65 + t)) (fun w => ?_) (fun w => nm_r (nI_1 _) (ih () ?_)) (wz_at _ g1.1) (wz_at _ g2.1)))) (wz_at _ e)))
    · rw [wl_all_s, I, z]; rfl
    · rw [wl_all_f (i := o) (by rw [z, decide_eq_true w]; rfl) t ho] at K
      exact K
    · rw [wl_all_s, I, z, decide_eq_false w]; rfl
theorem xr_rests {post : Int32 → SX → Prop} {Q : Nat → ws_Pat} (Pl : wr_XP Q a_placedSizes a_steps a_ends) {k : Nat} (hk : k < 3) (K : ∀ (R : Nat → Bool) (E : Nat → Nat → Bool) (gr fg ra : Nat → Int32), (∀ t, t < 65 → (R t = true ↔ ws_rch (wt_d (Q k)) 64 t)) → (∀ s t, s < 65 → t < 65 → (E s t = true ↔ ws_eqv (wt_d (Q k)) (wt_a (Q k)) s t)) → post (nI (ws_cnt (wf_fr R E) 65)) (f_stacked, f_signCount, f_demandCount, f_boundCount, a_sizes, a_withEmpty, a_firsts, a_lasts, a_zeroReaders, a_oneReaders, a_followers, a_placedSizes, a_steps, a_ends, a_ways, a_nextWays, gr, fg, ra, a_signs, a_demandSigns, a_demandSignCounts, a_demandPatterns, a_demandKept, a_boundA, a_boundB, a_boundC, a_boundD)) : wpX_rests post (f_stacked, f_signCount, f_demandCount, f_boundCount, a_sizes, a_withEmpty, a_firsts, a_lasts, a_zeroReaders, a_oneReaders, a_followers, a_placedSizes, a_steps, a_ends, a_ways, a_nextWays, a_groups, a_finerGroups, a_reached, a_signs, a_demandSigns, a_demandSignCounts, a_demandPatterns, a_demandKept, a_boundA, a_boundB, a_boundC, a_boundD) (nI k) := by
  refine br_f (nI_pos (by omega)) (br_t (nI_lt (b := 3) hk (by decide)) ?_)
  refine xg_gs Pl (fun gr fg g hg he => ?_)
  refine xr_mr Pl hk (fun ra R hr hR => ?_)
  have K' := K (fun t => R (k * 65 + t)) (fun o t => decide (g (k * 65 + o) = g (k * 65 + t))) gr fg ra (by
    intro t ht
    rw [← wt_xrch Pl.1 hk, Nat.mul_comm 65 k]
    exact hR _ (by omega)) (by
    intro s t hs ht
    rw [decide_eq_true_eq, he _ _ (by omega) (by omega), Nat.mul_comm k 65, wt_xeqv Pl.1 hk hk hs ht]
    exact Iff.rfl)
  refine nm_r (e' := nI (k * 65 + 0)) (wz_m65 k) ?_
  have e1 : (nI k + 1) * 65 = nI ((k + 1) * 65) := by rw [nI_1]; exact wz_m65 (k + 1)
  refine pk_loop (fun n t x => wX_rests_27 post (nI k) f_stacked f_signCount f_demandCount f_boundCount a_sizes a_withEmpty a_firsts a_lasts a_zeroReaders a_oneReaders a_followers a_placedSizes a_steps a_ends a_ways a_nextWays gr fg ra a_signs a_demandSigns a_demandSignCounts a_demandPatterns a_demandKept a_boundA a_boundB a_boundC a_boundD n x (nI (k * 65 + t))) (fun t x => x = nI (ws_cnt (wf_fr (fun t => R (k * 65 + t)) (fun o t => decide (g (k * 65 + o) = g (k * 65 + t)))) t)) 65 0 0 (by omega) rfl ?_ ?_
  · intro n x I
    subst I
    exact br_t (by rw [e1]; exact nI_le (by omega) (by omega)) K'
  · intro n t x ht I ih
    subst I
    refine br_f (by rw [e1]; exact nI_ge (by omega) (by omega)) (wz_in (k * 65 + t) (wz_if (R (k * 65 + t)) (fun z => nm_r (nI_1 _) (ih _ ?_)) (fun z => ?_) (wz_at _ (hr _ (by omega)))))
    · rw [ws_cnt_s, wf_fr_0 (fun t => R (k * 65 + t)) (fun o t => decide (g (k * 65 + o) = g (k * 65 + t))) z, if_neg Bool.false_ne_true]
    · refine xr_if hr hg hk ht (wz_if _ (fun w => nm_r (nI_1 _) (ih _ ?_)) (fun w => nm_r (nI_1 _) (nm_r (nI_1 _) (ih _ ?_))))
      · rw [ws_cnt_s, wf_fr_1 (fun t => R (k * 65 + t)) (fun o t => decide (g (k * 65 + o) = g (k * 65 + t))) z w, if_neg Bool.false_ne_true]
      · rw [ws_cnt_s, wf_fr_1 (fun t => R (k * 65 + t)) (fun o t => decide (g (k * 65 + o) = g (k * 65 + t))) z w, if_pos rfl]
theorem xr_same {post : Int32 → SX → Prop} {Q : Nat → ws_Pat} (Pl : wr_XP Q a_placedSizes a_steps a_ends) {k j : Nat} (hk : k < 3) (hj : j < 3) (K : ∀ (b : Bool) (gr fg : Nat → Int32), (b = true ↔ ∀ w, wt_a (Q k) (ws_run (wt_d (Q k)) w 64) = wt_a (Q j) (ws_run (wt_d (Q j)) w 64)) → post (wr_b b) (f_stacked, f_signCount, f_demandCount, f_boundCount, a_sizes, a_withEmpty, a_firsts, a_lasts, a_zeroReaders, a_oneReaders, a_followers, a_placedSizes, a_steps, a_ends, a_ways, a_nextWays, gr, fg, a_reached, a_signs, a_demandSigns, a_demandSignCounts, a_demandPatterns, a_demandKept, a_boundA, a_boundB, a_boundC, a_boundD)) : wpX_same post (f_stacked, f_signCount, f_demandCount, f_boundCount, a_sizes, a_withEmpty, a_firsts, a_lasts, a_zeroReaders, a_oneReaders, a_followers, a_placedSizes, a_steps, a_ends, a_ways, a_nextWays, a_groups, a_finerGroups, a_reached, a_signs, a_demandSigns, a_demandSignCounts, a_demandPatterns, a_demandKept, a_boundA, a_boundB, a_boundC, a_boundD) (nI k) (nI j) := by
  refine br_f (nI_pos (by omega)) (br_f (nI_ge (b := 3) hk (by decide)) (br_f (nI_pos (by omega)) (br_t (nI_lt (b := 3) hj (by decide)) ?_)))
  refine xg_gs Pl (fun gr fg g hg he => ?_)
  have h1 := hg (k * 65 + 64) (by omega)
  have h2 := hg (j * 65 + 64) (by omega)
  have h3 := he (k * 65 + 64) (j * 65 + 64) (by omega) (by omega)
  rw [Nat.mul_comm k 65, Nat.mul_comm j 65, wt_xeqv Pl.1 hk hj (by omega) (by omega), Nat.mul_comm 65 k, Nat.mul_comm 65 j] at h3
  refine wz_in (k * 65 + 64) (wz_in (j * 65 + 64) (pk_eq (g (k * 65 + 64)) (g (j * 65 + 64)) (fun z => K true gr fg ⟨fun _ => h3.mp z, fun _ => rfl⟩) (fun z => K false gr fg ⟨fun y => absurd y Bool.false_ne_true, fun y => absurd (h3.mpr y) z⟩) (wz_at _ h1.1 (wz_m64 k)) (wz_at _ h2.1 (wz_m64 j))) (by omega) (wz_m64 j)) (by omega) (wz_m64 k)
end
end
section
/-! the component: words of a trial, bounds, demands -/
theorem xs_wi {post : Int32 → Prop} {n s : Nat} (hn : n < 3375) (hs : s < 5) (K : post (nI (wl_sw n s))) : wpX_wordIn post (nI n) (nI s) := by
  have e : s = 0 ∨ s = 1 ∨ s = 2 ∨ s = 3 ∨ s = 4 := by omega
  rcases e with rfl | rfl | rfl | rfl | rfl
  · refine br_f (by decide) (br_f (by decide) (br_t (by decide) ⟨by decide, ?_⟩))
    rw [show nI n / 225 = nI (n / 225) from pk_div (d := 225) (by omega) (by omega) (by omega), show (1 : Int32) + nI (n / 225) = nI (n / 225 + 1) from by rw [Int32.add_comm]; exact nI_1 _]
    exact K
  · refine br_f (by decide) (br_f (by decide) (br_f (by decide) (br_t (by decide) ⟨by decide, by decide, ?_⟩)))
    rw [show nI n / 15 = nI (n / 15) from pk_div (d := 15) (by omega) (by omega) (by omega), show nI (n / 15) - nI (n / 15) / 15 * 15 = nI (n / 15 % 15) from pk_rem (d := 15) (by omega) (by omega) (by omega), show (1 : Int32) + nI (n / 15 % 15) = nI (n / 15 % 15 + 1) from by rw [Int32.add_comm]; exact nI_1 _]
    exact K
  · refine br_f (by decide) (br_f (by decide) (br_f (by decide) (br_f (by decide) (br_t (by decide) ⟨by decide, ?_⟩))))
    rw [show nI n - nI n / 15 * 15 = nI (n % 15) from pk_rem (d := 15) (by omega) (by omega) (by omega), show (1 : Int32) + nI (n % 15) = nI (n % 15 + 1) from by rw [Int32.add_comm]; exact nI_1 _]
    exact K
  · exact br_f (by decide) (br_f (by decide) (br_f (by decide) (br_f (by decide) (br_f (by decide) (br_t (by decide) K)))))
  · exact br_f (by decide) (br_t (by decide) K)
theorem xs_lo {post : Int32 → Prop} {W : Nat} (hW : W < 16) (K : post (nI (wl_ln W))) : wpX_lengthOf post (nI W) := by
  unfold wl_ln at K
  refine pk_le 2 W (fun z => pk_le 4 W (fun z2 => pk_le 8 W (fun z3 => ?_) (fun z3 => ?_)) (fun z2 => ?_)) (fun z => ?_)
  · rw [if_neg (by omega), if_neg (by omega), if_neg (by omega)] at K; exact K
  · rw [if_neg (by omega), if_neg (by omega), if_pos (by omega)] at K; exact K
  · rw [if_neg (by omega), if_pos (by omega)] at K; exact K
  · rw [if_pos (by omega)] at K; exact K
theorem xs_li {post : Int32 → Prop} {n s : Nat} (hn : n < 3375) (hs : s < 5) (K : post (nI (wl_ln (wl_sw n s)))) : wpX_lengthIn post (nI n) (nI s) := by
  unfold wpX_lengthIn
  exact xs_wi hn hs (xs_lo (wl_sw_in hn hs).2 K)
theorem xs_sm {post : Int32 → Prop} {n : Nat} (hn : n < 3375) (K : post (nI (wl_sm n))) : wpX_sumOfLengths post (nI n) := by
  unfold wpX_sumOfLengths
  refine xs_li (s := 0) hn (by omega) (xs_li (s := 1) hn (by omega) (xs_li (s := 2) hn (by omega) ?_))
  rw [nI_add, nI_add]
  exact K
theorem xs_st {Q : Nat → ws_Pat} {ps st en : Nat → Int32} (Pl : wr_XP Q ps st en) {s c : Nat} (hs : s < 195) (hc : c < 2) : st (s * 2 + c) = nI (wt_xd Q s (decide (c = 1))) := by
  have e : c = 0 ∨ c = 1 := by omega
  rcases e with rfl | rfl
  · exact (Pl.2.2 s hs).1
  · exact (Pl.2.2 s hs).2.1
section
variable {f_stacked f_signCount f_demandCount f_boundCount : Int32} {a_sizes a_withEmpty a_firsts a_lasts a_zeroReaders a_oneReaders a_followers a_placedSizes a_steps a_ends a_ways a_nextWays a_groups a_finerGroups a_reached a_signs a_demandSigns a_demandSignCounts a_demandPatterns a_demandKept a_boundA a_boundB a_boundC a_boundD : Nat → Int32}
theorem xs_kb {post : Int32 → Prop} {n b bc : Nat} {B : Nat → Int32} (hn : n < 3375) (hb : b < bc) (hc : bc ≤ 3) (hB : wr_XB bc B a_boundA a_boundB a_boundC a_boundD) (K : post (wr_b (wr_bok B n b))) : wpX_keepsBound post (f_stacked, f_signCount, f_demandCount, f_boundCount, a_sizes, a_withEmpty, a_firsts, a_lasts, a_zeroReaders, a_oneReaders, a_followers, a_placedSizes, a_steps, a_ends, a_ways, a_nextWays, a_groups, a_finerGroups, a_reached, a_signs, a_demandSigns, a_demandSignCounts, a_demandPatterns, a_demandKept, a_boundA, a_boundB, a_boundC, a_boundD) (nI n) (nI b) := by
  obtain ⟨c1, c2, c3, c4⟩ := hB b hb
  unfold wpX_keepsBound
  refine xs_wi (s := 0) hn (by omega) (xs_wi (s := 1) hn (by omega) (xs_wi (s := 2) hn (by omega) (wz_in b (xs_lo (wl_sw_in hn (by omega)).2 (wz_in b (xs_lo (wl_sw_in hn (by omega)).2 (wz_in b (xs_lo (wl_sw_in hn (by omega)).2 ?_))))))))
  refine nm_r (e' := B (4 * b) * nI (wl_ln (wl_tr n 0 + 1)) + B (4 * b + 1) * nI (wl_ln (wl_tr n 1 + 1)) + B (4 * b + 2) * nI (wl_ln (wl_tr n 2 + 1))) ?_ (wz_in b ?_)
  · rw [wz_at b c1, wz_at b c2, wz_at b c3]; rfl
  · rw [wz_at b c4]
    refine br_c (fun z => ?_) (fun z => ?_)
    · have : wr_bok B n b = false := decide_eq_false (Int32.not_le.mpr z)
      rw [this] at K; exact K
    · have : wr_bok B n b = true := decide_eq_true (Int32.not_lt.mp z)
      rw [this] at K; exact K
theorem xs_iw {post : Int32 → Prop} {Q : Nat → ws_Pat} (Pl : wr_XP Q a_placedSizes a_steps a_ends) {k t len : Nat} (hk : k < 3) (h1 : 2 ^ len ≤ t) (h2 : t < 2 ^ (len + 1)) (hl : len ≤ 12) (K : post (wr_b (wt_a (Q k) (ws_run (wt_d (Q k)) (wl_l len t) 64)))) : wpX_isWordOf post (f_stacked, f_signCount, f_demandCount, f_boundCount, a_sizes, a_withEmpty, a_firsts, a_lasts, a_zeroReaders, a_oneReaders, a_followers, a_placedSizes, a_steps, a_ends, a_ways, a_nextWays, a_groups, a_finerGroups, a_reached, a_signs, a_demandSigns, a_demandSignCounts, a_demandPatterns, a_demandKept, a_boundA, a_boundB, a_boundC, a_boundD) (nI k) (nI t) := by
  have ht : t < 2 ^ 31 := Nat.lt_of_lt_of_le h2 (Nat.pow_le_pow_right (by decide) (by omega))
  have hrun : ∀ w, ws_run (wt_d (Q k)) w 64 < 65 := fun w => wt_run_lt (Pl.1 k hk) w 64 (by omega)
  refine nm_r (e' := nI (k * 65 + 64)) (wz_m64 k) ⟨13, ?_⟩
  refine pk_loopD (fun n e s => wX_isWordOf_12 post (nI t) f_stacked f_signCount f_demandCount f_boundCount a_sizes a_withEmpty a_firsts a_lasts a_zeroReaders a_oneReaders a_followers a_placedSizes a_steps a_ends a_ways a_nextWays a_groups a_finerGroups a_reached a_signs a_demandSigns a_demandSignCounts a_demandPatterns a_demandKept a_boundA a_boundB a_boundC a_boundD n s (nI e + (-1))) (fun e s => e ≤ 12 ∧ s = nI (65 * k + ws_run (wt_d (Q k)) (wl_l (len - e) (t / 2 ^ e)) 64)) ?_ ?_ 12 _ ⟨by omega, ?_⟩
  · intro n s I
    obtain ⟨_, I⟩ := I
    subst I
    have hr := hrun (wl_l (len - 0) (t / 2 ^ 0))
    rw [Nat.sub_zero, Nat.pow_zero, Nat.div_one] at hr ⊢
    have e := wz_at (a := a_ends) _ (Pl.2.2 (65 * k + ws_run (wt_d (Q k)) (wl_l len t) 64) (by omega)).2.2
    rw [wt_xa_k Q hr] at e
    refine br_t (by decide) (wz_in (65 * k + ws_run (wt_d (Q k)) (wl_l len t) 64) ?_ (by omega))
    rw [e]
    exact ⟨wr_b_n _, K⟩
  · intro n i s I ih
    obtain ⟨hi12, I⟩ := I
    subst I
    rw [pk_m1 i]
    have hr := hrun (wl_l (len - (i + 1)) (t / 2 ^ (i + 1)))
    by_cases hi : i < 31
    · refine br_f (nI_pos (by omega)) ?_
      have e1 : nI t >>> ((nI i + 1) &&& 31) = nI (t / 2 ^ (i + 1)) := by
        rw [nI_1]
        by_cases q : i + 1 < 32
        · exact wr_shr q ht
        · omega
      have hdiv : t / 2 ^ (i + 1) ≤ t := Nat.div_le_self _ _
      refine pk_eq (t / 2 ^ (i + 1)) 0 (fun z => nm_e (ih _ ⟨by omega, ?_⟩)) (fun z => ?_) e1
      · rw [wl_dig_n (t / 2 ^ i) (t / 2 ^ (i + 1)) ((wl_dig h1 h2).mp z)]
      · have hlt : i < len := by
          rcases Nat.lt_or_ge i len with q | q
          · exact q
          · exact absurd ((wl_dig h1 h2).mpr q) z
        have hc : t / 2 ^ i % 2 < 2 := Nat.mod_lt _ (by omega)
        have e2 : nI (65 * k + ws_run (wt_d (Q k)) (wl_l (len - (i + 1)) (t / 2 ^ (i + 1))) 64) * 2 + (nI t >>> (nI i &&& 31) &&& 1) = nI ((65 * k + ws_run (wt_d (Q k)) (wl_l (len - (i + 1)) (t / 2 ^ (i + 1))) 64) * 2 + t / 2 ^ i % 2) := by
          rw [wr_bit (by omega) ht, wz_m2, nI_add]
        refine wz_ld _ (nI (65 * k + ws_run (wt_d (Q k)) (wl_l (len - i) (t / 2 ^ i)) 64)) (nm_e (ih _ ⟨by omega, rfl⟩)) (by omega) e2 ?_
        rw [xs_st Pl (by omega) hc, wt_xd_k Q hr, wl_dig_s t hlt, ws_run_app]
        rfl
    · omega
  · rw [show len - 12 = 0 from by omega, Nat.mul_comm 65 k]
    rfl
end
end
section
/-! the component: demands, solutions and what is told of them -/
theorem xt_shl {t l W : Nat} (hl : l ≤ 3) (hW1 : 2 ^ l ≤ W) (hW : W < 16) (ht : t < 2 ^ 13) : (nI t <<< (nI l &&& 31) + nI W) - (1 : Int32) <<< (nI l &&& 31) = nI (t * 2 ^ l + W - 2 ^ l) := by
  have hp : 2 ^ l ≤ 8 := Nat.pow_le_pow_right (n := 2) (i := l) (j := 3) (by decide) hl
  have hb : t * 2 ^ l ≤ 2 ^ 13 * 8 := Nat.mul_le_mul (Nat.le_of_lt ht) hp
  rw [wr_shl (by omega) (by omega), wr_one (by omega), nI_add, pk_sub (by omega)]
section
variable {f_stacked f_signCount f_demandCount f_boundCount : Int32} {a_sizes a_withEmpty a_firsts a_lasts a_zeroReaders a_oneReaders a_followers a_placedSizes a_steps a_ends a_ways a_nextWays a_groups a_finerGroups a_reached a_signs a_demandSigns a_demandSignCounts a_demandPatterns a_demandKept a_boundA a_boundB a_boundC a_boundD : Nat → Int32}
theorem xt_kd {post : Int32 → Prop} {Q : Nat → ws_Pat} (Pl : wr_XP Q a_placedSizes a_steps a_ends) {n d dc : Nat} {D : Nat → wr_Dem} (hn : n < 3375) (hd : d < dc) (hc : dc ≤ 6) (hD : wr_XD dc D a_demandSigns a_demandSignCounts a_demandPatterns a_demandKept) (K : post (wr_b (wr_dok Q D n d))) : wpX_keepsDemand post (f_stacked, f_signCount, f_demandCount, f_boundCount, a_sizes, a_withEmpty, a_firsts, a_lasts, a_zeroReaders, a_oneReaders, a_followers, a_placedSizes, a_steps, a_ends, a_ways, a_nextWays, a_groups, a_finerGroups, a_reached, a_signs, a_demandSigns, a_demandSignCounts, a_demandPatterns, a_demandKept, a_boundA, a_boundB, a_boundC, a_boundD) (nI n) (nI d) := by
  obtain ⟨⟨b1, b2, b3⟩, c1, c2, c3, c4⟩ := hD d hd
  refine pk_loop (fun m i x => wX_keepsDemand_5 post (nI n) (nI d) f_stacked f_signCount f_demandCount f_boundCount a_sizes a_withEmpty a_firsts a_lasts a_zeroReaders a_oneReaders a_followers a_placedSizes a_steps a_ends a_ways a_nextWays a_groups a_finerGroups a_reached a_signs a_demandSigns a_demandSignCounts a_demandPatterns a_demandKept a_boundA a_boundB a_boundC a_boundD m x (nI i)) (fun i x => ∃ len t, x = nI t ∧ 2 ^ len ≤ t ∧ t < 2 ^ (len + 1) ∧ len ≤ 3 * i ∧ wl_l len t = wl_tl (D d).2.2.2 n i) (D d).2.2.1 0 1 (by omega) ⟨0, 1, rfl, by decide, by decide, by omega, rfl⟩ ?_ ?_
  · intro m x I
    obtain ⟨len, t, rfl, h1, h2, h3, h4⟩ := I
    refine wz_in d (br_t (by rw [wz_at d c1]; exact nI_le (Nat.le_refl _) (by omega)) (wz_in d ?_))
    rw [wz_at d c2]
    refine xs_iw Pl b1 h1 h2 (by omega) (wz_in d ?_)
    rw [wz_at d c3, h4]
    refine wz_c (wr_b_e _ _) (fun z => ?_) (fun z => ?_)
    · have : wr_dok Q D n d = true := by
        unfold wr_dok wl_dem
        rw [z, beq_self_eq_true]
      rw [this] at K; exact K
    · have : wr_dok Q D n d = false := by
        unfold wr_dok wl_dem
        exact beq_false_of_ne z
      rw [this] at K; exact K
  · intro m i x hi I ih
    obtain ⟨len, t, rfl, h1, h2, h3, h4⟩ := I
    have hs := b3 i hi
    have hw := wl_sw_in hn hs
    have hl := wl_ln_in _ hw.2 hw.1
    have hg := wl_grow hn hs h1 h2
    have hp : 2 ^ (len + 1) ≤ 2 ^ 13 := Nat.pow_le_pow_right (by decide) (by omega)
    refine wz_in d (br_f (by rw [wz_at d c1]; exact nI_ge hi (by omega)) (wz_in (d * 4 + i) ?_ (by omega) (wz_m4 d i)))
    rw [wz_at (d * 4 + i) (c4 i hi) (wz_m4 d i)]
    refine xs_wi hn hs (xs_lo hw.2 (nm_r (xt_shl hl.2.2 hl.1 hw.2 (by omega)) (nm_r (nI_1 i) (ih _ ⟨_, _, rfl, hg.1, hg.2.1, by omega, ?_⟩))))
    rw [hg.2.2, h4, wl_tl_s]
theorem xt_is {post : Int32 → Prop} {Q : Nat → ws_Pat} (Pl : wr_XP Q a_placedSizes a_steps a_ends) {n dc bc : Nat} {D : Nat → wr_Dem} {B : Nat → Int32} (hn : n < 3375) (hdc : dc ≤ 6) (hbc : bc ≤ 3) (hD : wr_XD dc D a_demandSigns a_demandSignCounts a_demandPatterns a_demandKept) (hB : wr_XB bc B a_boundA a_boundB a_boundC a_boundD) (K : post (wr_b (wr_sol Q dc D bc B n))) : wpX_isSolution post (f_stacked, f_signCount, (nI dc), (nI bc), a_sizes, a_withEmpty, a_firsts, a_lasts, a_zeroReaders, a_oneReaders, a_followers, a_placedSizes, a_steps, a_ends, a_ways, a_nextWays, a_groups, a_finerGroups, a_reached, a_signs, a_demandSigns, a_demandSignCounts, a_demandPatterns, a_demandKept, a_boundA, a_boundB, a_boundC, a_boundD) (nI n) := by
  unfold wr_sol at K
  refine pk_loop (fun m b (_ : Unit) => wX_isSolution_2 post (nI n) f_stacked f_signCount (nI dc) (nI bc) a_sizes a_withEmpty a_firsts a_lasts a_zeroReaders a_oneReaders a_followers a_placedSizes a_steps a_ends a_ways a_nextWays a_groups a_finerGroups a_reached a_signs a_demandSigns a_demandSignCounts a_demandPatterns a_demandKept a_boundA a_boundB a_boundC a_boundD m (nI b)) (fun b _ => wl_all (wr_bok B n) b = true) bc 0 () (by omega) rfl ?_ ?_
  · intro m _ I
    rw [I, Bool.true_and] at K
    refine br_t (nI_le (Nat.le_refl _) (by omega)) ?_
    refine pk_loop (fun m d (_ : Unit) => wX_isSolution_29 post (nI n) f_stacked f_signCount (nI dc) (nI bc) a_sizes a_withEmpty a_firsts a_lasts a_zeroReaders a_oneReaders a_followers a_placedSizes a_steps a_ends a_ways a_nextWays a_groups a_finerGroups a_reached a_signs a_demandSigns a_demandSignCounts a_demandPatterns a_demandKept a_boundA a_boundB a_boundC a_boundD m (nI d)) (fun d _ => wl_all (wr_dok Q D n) d = true) dc 0 () (by omega) rfl ?_ ?_
    · intro m _ I2
      rw [I2] at K
      exact br_t (nI_le (Nat.le_refl _) (by omega)) K
    · intro m d _ hd I2 ih
      refine br_f (nI_ge hd (by omega)) (xt_kd Pl hn hd hdc hD (wz_if _ (fun z => ?_) (fun z => nm_r (nI_1 d) (ih () ?_))))
      · rw [wl_all_f z dc hd] at K; exact K
      · rw [wl_all_s, I2, z]; rfl
  · intro m b _ hb I ih
    refine br_f (nI_ge hb (by omega)) (xs_kb hn hb hbc hB (wz_if _ (fun z => ?_) (fun z => nm_r (nI_1 b) (ih () ?_))))
    · rw [wl_all_f z bc hb, Bool.false_and] at K; exact K
    · rw [wl_all_s, I, z]; rfl
variable {Q : Nat → ws_Pat} {dc bc : Nat} {D : Nat → wr_Dem} {B : Nat → Int32}
theorem xt_sols {post : Int32 → Prop} (Pl : wr_XP Q a_placedSizes a_steps a_ends) (hdc : dc ≤ 6) (hbc : bc ≤ 3) (hD : wr_XD dc D a_demandSigns a_demandSignCounts a_demandPatterns a_demandKept) (hB : wr_XB bc B a_boundA a_boundB a_boundC a_boundD) (K : post (nI (ws_cnt (wr_sol Q dc D bc B) 3375))) : wpX_solutions post (f_stacked, f_signCount, (nI dc), (nI bc), a_sizes, a_withEmpty, a_firsts, a_lasts, a_zeroReaders, a_oneReaders, a_followers, a_placedSizes, a_steps, a_ends, a_ways, a_nextWays, a_groups, a_finerGroups, a_reached, a_signs, a_demandSigns, a_demandSignCounts, a_demandPatterns, a_demandKept, a_boundA, a_boundB, a_boundC, a_boundD) := by
  refine pk_loop (fun m n x => wX_solutions_4 post f_stacked f_signCount (nI dc) (nI bc) a_sizes a_withEmpty a_firsts a_lasts a_zeroReaders a_oneReaders a_followers a_placedSizes a_steps a_ends a_ways a_nextWays a_groups a_finerGroups a_reached a_signs a_demandSigns a_demandSignCounts a_demandPatterns a_demandKept a_boundA a_boundB a_boundC a_boundD m x (nI n)) (fun n x => x = nI (ws_cnt (wr_sol Q dc D bc B) n)) 3375 0 0 (by omega) rfl ?_ ?_
  · intro m x I
    subst I
    exact br_t (nI_le (a := 3375) (b := 3375) (by omega) (by omega)) K
  · intro m n x hn I ih
    subst I
    refine br_f (nI_ge (b := 3375) hn (by omega)) (xt_is Pl hn hdc hbc hD hB (wz_if _ (fun z => nm_r (nI_1 n) (ih _ ?_)) (fun z => nm_r (nI_1 _) (nm_r (nI_1 n) (ih _ ?_)))))
    · rw [ws_cnt_s, z, if_neg Bool.false_ne_true]
    · rw [ws_cnt_s, z, if_pos rfl]
def xt_o (o : Option Nat) : Int32 := match o with
  | none => -1
  | some j => nI j
theorem xt_fs {post : Int32 → Prop} (Pl : wr_XP Q a_placedSizes a_steps a_ends) (hdc : dc ≤ 6) (hbc : bc ≤ 3) (hD : wr_XD dc D a_demandSigns a_demandSignCounts a_demandPatterns a_demandKept) (hB : wr_XB bc B a_boundA a_boundB a_boundC a_boundD) (K : post (xt_o (wl_fs (wr_sol Q dc D bc B) 3375))) : wpX_firstSolution post (f_stacked, f_signCount, (nI dc), (nI bc), a_sizes, a_withEmpty, a_firsts, a_lasts, a_zeroReaders, a_oneReaders, a_followers, a_placedSizes, a_steps, a_ends, a_ways, a_nextWays, a_groups, a_finerGroups, a_reached, a_signs, a_demandSigns, a_demandSignCounts, a_demandPatterns, a_demandKept, a_boundA, a_boundB, a_boundC, a_boundD) := by
  have h10 : ∀ o, wl_lo 10 o ≤ 10 := by
    intro o
    cases o with
    | none => exact Nat.le_refl 10
    | some j => exact Nat.le_trans (wl_sm_9 j) (by decide)
  refine pk_loop (fun m n (s : Int32 × Int32) => wX_firstSolution_7 post f_stacked f_signCount (nI dc) (nI bc) a_sizes a_withEmpty a_firsts a_lasts a_zeroReaders a_oneReaders a_followers a_placedSizes a_steps a_ends a_ways a_nextWays a_groups a_finerGroups a_reached a_signs a_demandSigns a_demandSignCounts a_demandPatterns a_demandKept a_boundA a_boundB a_boundC a_boundD m s.1 s.2 (nI n)) (fun n s => s.1 = xt_o (wl_fs (wr_sol Q dc D bc B) n) ∧ s.2 = nI (wl_lo 10 (wl_fs (wr_sol Q dc D bc B) n))) 3375 0 (-1, 10) (by omega) ⟨rfl, rfl⟩ ?_ ?_
  · intro m s I
    refine br_t (nI_le (a := 3375) (b := 3375) (by omega) (by omega)) ?_
    rw [I.1]
    exact K
  · intro m n s hn I ih
    have h9 := wl_sm_9 n
    refine br_f (nI_ge (b := 3375) hn (by omega)) (xs_sm hn ?_)
    refine pk_le (wl_lo 10 (wl_fs (wr_sol Q dc D bc B) n)) (wl_sm n) (fun z => nm_r (nI_1 n) (ih s ?_)) (fun z => ?_) I.2 rfl (by have := h10 (wl_fs (wr_sol Q dc D bc B) n); omega) (by omega)
    · rw [wl_fs_s, if_neg (fun w => by have := (wl_lo_lt n _).mpr w.2; omega)]
      exact I
    · refine xt_is Pl hn hdc hbc hD hB (wz_if _ (fun y => nm_r (nI_1 n) (ih s ?_)) (fun y => nm_r (nI_1 n) (ih (nI n, nI (wl_sm n)) ?_)))
      · rw [wl_fs_s, if_neg (fun w => by rw [y] at w; exact absurd w.1 Bool.false_ne_true)]
        exact I
      · rw [wl_fs_s, if_pos ⟨y, (wl_lo_lt n _).mp z⟩]
        exact ⟨rfl, rfl⟩
theorem xt_ne {j : Nat} (h : j < 3375) : ¬ nI j = -1 := by
  intro z
  have := congrArg Int32.toInt z
  rw [nI_toInt (by omega), show (-1 : Int32).toInt = -1 from by decide] at this
  omega
theorem xt_len {post : Int32 → Prop} {i : Nat} (Pl : wr_XP Q a_placedSizes a_steps a_ends) (hdc : dc ≤ 6) (hbc : bc ≤ 3) (hD : wr_XD dc D a_demandSigns a_demandSignCounts a_demandPatterns a_demandKept) (hB : wr_XB bc B a_boundA a_boundB a_boundC a_boundD) (hi : i < 3) (K0 : wl_fs (wr_sol Q dc D bc B) 3375 = none → post (-4)) (K1 : ∀ j, j < 3375 → wl_fs (wr_sol Q dc D bc B) 3375 = some j → post (nI (wl_ln (wl_tr j i + 1)))) : wpX_length post (f_stacked, f_signCount, (nI dc), (nI bc), a_sizes, a_withEmpty, a_firsts, a_lasts, a_zeroReaders, a_oneReaders, a_followers, a_placedSizes, a_steps, a_ends, a_ways, a_nextWays, a_groups, a_finerGroups, a_reached, a_signs, a_demandSigns, a_demandSignCounts, a_demandPatterns, a_demandKept, a_boundA, a_boundB, a_boundC, a_boundD) (nI i) := by
  refine br_f (nI_pos (by omega)) (br_t (nI_lt (b := 3) hi (by decide)) (xt_fs Pl hdc hbc hD hB ?_))
  cases e : wl_fs (wr_sol Q dc D bc B) 3375 with
  | none => exact br_t rfl (K0 e)
  | some j =>
    have hj := wl_fs_lt _ _ _ e
    have e2 : wl_sw j i = wl_tr j i + 1 := if_pos hi
    refine br_f (xt_ne hj) (xs_li hj (by omega) ?_)
    rw [e2]
    exact K1 j hj e
theorem xt_let {post : Int32 → Prop} {i : Nat} {v : Int32} (Pl : wr_XP Q a_placedSizes a_steps a_ends) (hdc : dc ≤ 6) (hbc : bc ≤ 3) (hD : wr_XD dc D a_demandSigns a_demandSignCounts a_demandPatterns a_demandKept) (hB : wr_XB bc B a_boundA a_boundB a_boundC a_boundD) (hi : i < 3) (K0 : wl_fs (wr_sol Q dc D bc B) 3375 = none → post (-4)) (K1 : ∀ j, j < 3375 → wl_fs (wr_sol Q dc D bc B) 3375 = some j → (v < 0 → post (-4)) ∧ (∀ p, p < 2 ^ 31 → v = nI p → wl_ln (wl_tr j i + 1) ≤ p → post (-4)) ∧ (∀ p, v = nI p → p < wl_ln (wl_tr j i + 1) → post (nI ((wl_tr j i + 1) / 2 ^ (wl_ln (wl_tr j i + 1) - 1 - p) % 2)))) : wpX_letter post (f_stacked, f_signCount, (nI dc), (nI bc), a_sizes, a_withEmpty, a_firsts, a_lasts, a_zeroReaders, a_oneReaders, a_followers, a_placedSizes, a_steps, a_ends, a_ways, a_nextWays, a_groups, a_finerGroups, a_reached, a_signs, a_demandSigns, a_demandSignCounts, a_demandPatterns, a_demandKept, a_boundA, a_boundB, a_boundC, a_boundD) (nI i) v := by
  refine br_f (nI_pos (by omega)) (br_t (nI_lt (b := 3) hi (by decide)) (xt_fs Pl hdc hbc hD hB ?_))
  cases e : wl_fs (wr_sol Q dc D bc B) 3375 with
  | none => exact br_t rfl (K0 e)
  | some j =>
    have hj := wl_fs_lt _ _ _ e
    have e2 : wl_sw j i = wl_tr j i + 1 := if_pos hi
    have ht := wl_tr_lt hj i
    have h3 := wl_ln_3 (wl_tr j i + 1)
    obtain ⟨k1, k2, k3⟩ := K1 j hj e
    refine br_f (xt_ne hj) (xs_li hj (by omega) ?_)
    rw [e2]
    by_cases hv : v < 0
    · exact nm_e (br_t hv (k1 hv))
    · obtain ⟨p, hp, rfl⟩ := nI_of hv
      generalize hL : wl_ln (wl_tr j i + 1) = L at *
      cases L with
      | zero =>
        refine nm_e (br_f hv (br_f ?_ (k2 p hp rfl (by omega))))
        intro z
        have := Int32.le_iff_toInt_le.mp z
        rw [nI_toInt hp, show (nI 0 - 1 : Int32).toInt = -1 from by decide] at this
        omega
      | succ L =>
        refine nm_r (nI_pred L) (br_f hv (pk_le p L (fun z => xs_wi hj (by omega) ?_) (fun z => k2 p hp rfl (by omega))))
        rw [e2, pk_sub z, wr_bit (by omega) (by omega)]
        exact k3 p rfl (by omega)
theorem xt_lens {post : Int32 → Prop} {i : Nat} (Pl : wr_XP Q a_placedSizes a_steps a_ends) (hdc : dc ≤ 6) (hbc : bc ≤ 3) (hD : wr_XD dc D a_demandSigns a_demandSignCounts a_demandPatterns a_demandKept) (hB : wr_XB bc B a_boundA a_boundB a_boundC a_boundD) (hi : i < 3) (K : post (nI (wl_S (wr_sol Q dc D bc B) i 3375))) : wpX_lengths post (f_stacked, f_signCount, (nI dc), (nI bc), a_sizes, a_withEmpty, a_firsts, a_lasts, a_zeroReaders, a_oneReaders, a_followers, a_placedSizes, a_steps, a_ends, a_ways, a_nextWays, a_groups, a_finerGroups, a_reached, a_signs, a_demandSigns, a_demandSignCounts, a_demandPatterns, a_demandKept, a_boundA, a_boundB, a_boundC, a_boundD) (nI i) := by
  refine br_f (nI_pos (by omega)) (br_t (nI_lt (b := 3) hi (by decide)) ?_)
  refine pk_loop (fun m n x => wX_lengths_15 post (nI i) f_stacked f_signCount (nI dc) (nI bc) a_sizes a_withEmpty a_firsts a_lasts a_zeroReaders a_oneReaders a_followers a_placedSizes a_steps a_ends a_ways a_nextWays a_groups a_finerGroups a_reached a_signs a_demandSigns a_demandSignCounts a_demandPatterns a_demandKept a_boundA a_boundB a_boundC a_boundD m x (nI n)) (fun n x => x = nI (wl_S (wr_sol Q dc D bc B) i n)) 3375 0 0 (by omega) rfl ?_ ?_
  · intro m x I
    subst I
    exact br_t (nI_le (a := 3375) (b := 3375) (by omega) (by omega)) K
  · intro m n x hn I ih
    subst I
    have e2 : wl_sw n i = wl_tr n i + 1 := if_pos hi
    have h3 := wl_ln_3 (wl_tr n i + 1)
    refine br_f (nI_ge (b := 3375) hn (by omega)) (xt_is Pl hn hdc hbc hD hB (wz_if _ (fun z => nm_r (nI_1 n) (ih _ ?_)) (fun z => xs_li hn (by omega) (nm_r (e' := nI (wl_S (wr_sol Q dc D bc B) i (n + 1))) ?_ (nm_r (nI_1 n) (ih _ rfl))))))
    · rw [wl_S_s, z, if_neg Bool.false_ne_true]
    · rw [wl_S_s, z, if_pos rfl, e2, wr_one (by omega), wr_or]
theorem xt_dif {post : Int32 → Prop} {i : Nat} (Pl : wr_XP Q a_placedSizes a_steps a_ends) (hdc : dc ≤ 6) (hbc : bc ≤ 3) (hD : wr_XD dc D a_demandSigns a_demandSignCounts a_demandPatterns a_demandKept) (hB : wr_XB bc B a_boundA a_boundB a_boundC a_boundD) (hi : i < 3) (K : post (nI (ws_cnt (fun w => (wl_M (wr_sol Q dc D bc B) i 3375).testBit w) 15))) : wpX_different post (f_stacked, f_signCount, (nI dc), (nI bc), a_sizes, a_withEmpty, a_firsts, a_lasts, a_zeroReaders, a_oneReaders, a_followers, a_placedSizes, a_steps, a_ends, a_ways, a_nextWays, a_groups, a_finerGroups, a_reached, a_signs, a_demandSigns, a_demandSignCounts, a_demandPatterns, a_demandKept, a_boundA, a_boundB, a_boundC, a_boundD) (nI i) := by
  refine br_f (nI_pos (by omega)) (br_t (nI_lt (b := 3) hi (by decide)) ?_)
  refine pk_loop (fun m n x => wX_different_15 post (nI i) f_stacked f_signCount (nI dc) (nI bc) a_sizes a_withEmpty a_firsts a_lasts a_zeroReaders a_oneReaders a_followers a_placedSizes a_steps a_ends a_ways a_nextWays a_groups a_finerGroups a_reached a_signs a_demandSigns a_demandSignCounts a_demandPatterns a_demandKept a_boundA a_boundB a_boundC a_boundD m x (nI n)) (fun n x => x = nI (wl_M (wr_sol Q dc D bc B) i n * 2 ^ 1)) 3375 0 0 (by omega) rfl ?_ ?_
  · intro m x I
    subst I
    have hM := wl_M_lt (wr_sol Q dc D bc B) i 3375 (by omega)
    refine br_t (nI_le (a := 3375) (b := 3375) (by omega) (by omega)) ?_
    refine pk_loop (fun m n x => wX_different_51 post (nI (wl_M (wr_sol Q dc D bc B) i 3375 * 2 ^ 1)) f_stacked f_signCount (nI dc) (nI bc) a_sizes a_withEmpty a_firsts a_lasts a_zeroReaders a_oneReaders a_followers a_placedSizes a_steps a_ends a_ways a_nextWays a_groups a_finerGroups a_reached a_signs a_demandSigns a_demandSignCounts a_demandPatterns a_demandKept a_boundA a_boundB a_boundC a_boundD m x (nI n)) (fun n x => 1 ≤ n ∧ x = nI (ws_cnt (fun w => (wl_M (wr_sol Q dc D bc B) i 3375).testBit w) (n - 1))) 16 1 0 (by omega) ⟨by omega, rfl⟩ ?_ ?_
    · intro m x I
      obtain ⟨_, I⟩ := I
      subst I
      exact br_t (nI_lt (a := 15) (b := 16) (by omega) (by omega)) K
    · intro m n x hn I ih
      obtain ⟨h1, I⟩ := I
      subst I
      obtain ⟨n, rfl⟩ : ∃ q, n = q + 1 := ⟨n - 1, by omega⟩
      refine br_f (nI_nlt (b := n + 1) (a := 15) (by omega) (by omega)) (nm_r (e' := nI (ws_cnt (fun w => (wl_M (wr_sol Q dc D bc B) i 3375).testBit w) (n + 1))) ?_ (nm_r (nI_1 _) (ih _ ⟨by omega, rfl⟩)))
      have e : (wl_M (wr_sol Q dc D bc B) i 3375).testBit n = decide (wl_M (wr_sol Q dc D bc B) i 3375 * 2 ^ 1 / 2 ^ (n + 1) % 2 = 1) := by
        rw [Nat.testBit_eq_decide_div_mod_eq, Nat.pow_succ 2 n, Nat.pow_one, Nat.mul_div_mul_right _ _ (by omega : 0 < 2)]
      rw [wr_bit (by omega) (by omega), nI_add, ws_cnt_s, e]
      have hc : wl_M (wr_sol Q dc D bc B) i 3375 * 2 ^ 1 / 2 ^ (n + 1) % 2 = 0 ∨ wl_M (wr_sol Q dc D bc B) i 3375 * 2 ^ 1 / 2 ^ (n + 1) % 2 = 1 := by omega
      rcases hc with hc | hc
      · rw [hc]; rfl
      · rw [hc]; rfl
  · intro m n x hn I ih
    subst I
    have e2 : wl_sw n i = wl_tr n i + 1 := if_pos hi
    have ht := wl_tr_lt hn i
    refine br_f (nI_ge (b := 3375) hn (by omega)) (xt_is Pl hn hdc hbc hD hB (wz_if _ (fun z => nm_r (nI_1 n) (ih _ ?_)) (fun z => xs_wi hn (by omega) (nm_r (e' := nI (wl_M (wr_sol Q dc D bc B) i (n + 1) * 2 ^ 1)) ?_ (nm_r (nI_1 n) (ih _ rfl))))))
    · rw [wl_M_s, z, if_neg Bool.false_ne_true]
    · rw [wl_M_s, z, if_pos rfl, e2, wr_one (by omega), wr_or]
      congr 1
      apply Nat.eq_of_testBit_eq
      intro q
      rw [Nat.testBit_or, Nat.testBit_mul_two_pow, Nat.testBit_mul_two_pow, Nat.testBit_or, Nat.testBit_two_pow, Nat.testBit_two_pow]
      by_cases hq : 1 ≤ q
      · rw [decide_eq_true hq, Bool.true_and, Bool.true_and]
        congr 1
        rw [decide_eq_decide]
        omega
      · rw [decide_eq_false hq, Bool.false_and, Bool.false_and, Bool.false_or, decide_eq_false (by omega)]
theorem xt_ofl {post : Int32 → Prop} {v : Int32} (Pl : wr_XP Q a_placedSizes a_steps a_ends) (hdc : dc ≤ 6) (hbc : bc ≤ 3) (hD : wr_XD dc D a_demandSigns a_demandSignCounts a_demandPatterns a_demandKept) (hB : wr_XB bc B a_boundA a_boundB a_boundC a_boundD) (K : post (nI (ws_cnt (fun j => wr_sol Q dc D bc B j && decide (nI (wl_sm j) = v)) 3375))) : wpX_ofLength post (f_stacked, f_signCount, (nI dc), (nI bc), a_sizes, a_withEmpty, a_firsts, a_lasts, a_zeroReaders, a_oneReaders, a_followers, a_placedSizes, a_steps, a_ends, a_ways, a_nextWays, a_groups, a_finerGroups, a_reached, a_signs, a_demandSigns, a_demandSignCounts, a_demandPatterns, a_demandKept, a_boundA, a_boundB, a_boundC, a_boundD) v := by
  refine pk_loop (fun m n x => wX_ofLength_4 post v f_stacked f_signCount (nI dc) (nI bc) a_sizes a_withEmpty a_firsts a_lasts a_zeroReaders a_oneReaders a_followers a_placedSizes a_steps a_ends a_ways a_nextWays a_groups a_finerGroups a_reached a_signs a_demandSigns a_demandSignCounts a_demandPatterns a_demandKept a_boundA a_boundB a_boundC a_boundD m x (nI n)) (fun n x => x = nI (ws_cnt (fun j => wr_sol Q dc D bc B j && decide (nI (wl_sm j) = v)) n)) 3375 0 0 (by omega) rfl ?_ ?_
  · intro m x I
    subst I
    exact br_t (nI_le (a := 3375) (b := 3375) (by omega) (by omega)) K
  · intro m n x hn I ih
    subst I
    refine br_f (nI_ge (b := 3375) hn (by omega)) (xs_sm hn (br_c (fun z => xt_is Pl hn hdc hbc hD hB (wz_if _ (fun y => nm_r (nI_1 n) (ih _ ?_)) (fun y => nm_r (nI_1 _) (nm_r (nI_1 n) (ih _ ?_))))) (fun z => nm_r (nI_1 n) (ih _ ?_))))
    · rw [ws_cnt_s, y, Bool.false_and, if_neg Bool.false_ne_true]
    · rw [ws_cnt_s, y, decide_eq_true z, Bool.and_self, if_pos rfl]
    · rw [ws_cnt_s, decide_eq_false z, Bool.and_false, if_neg Bool.false_ne_true]
end
end
section
/-! the reference: one step, the table of steps, the start -/
theorem ya_64 : ∀ t, t < 128 → (t &&& 64 = 0 ↔ t.testBit 6 = false) := by decide +kernel
theorem ya_fit {p : ws_Pat} (hp : wt_ok p) {i c : Nat} (hi : i < wt_m p) (hc : c < 2) : (wt_c p i = 2 ∨ wt_c p i = c) ↔ (wt_r p (decide (c = 1))).testBit i = true := by
  have h := hp.2.2.2.2.2.1 i hi
  unfold wt_c wt_r
  have e : c = 0 ∨ c = 1 := by omega
  rcases e with rfl | rfl
  · cases hz : (wt_Z p).testBit i <;> cases ho : (wt_O p).testBit i <;> simp [hz, ho] at h ⊢
  · cases hz : (wt_Z p).testBit i <;> cases ho : (wt_O p).testBit i <;> simp [hz, ho] at h ⊢
section
variable {f_depth f_termLength f_demands f_boundCount f_known f_found f_least : Int32} {a_sizes a_empties a_firsts a_lasts a_letters a_behinds a_steps a_term a_patterns a_kepts a_signs a_signCounts a_bounds a_firstWords a_sums a_met a_tried a_seen a_apart a_counts a_next : Nat → Int32}
theorem ya_step {post : Int32 → Prop} {p : ws_Pat} {s t c : Nat} {x y z : Int32} (hx : x = nI s) (hy : y = nI t) (hz : z = nI c) (hs : s < 8) (ht : t < 128) (hc : c < 2) (hp : wt_ok p) (L : wr_YL p s a_sizes a_empties a_firsts a_lasts a_letters a_behinds) (K : post (nI (wt_d p t (decide (c = 1))))) : wpY_step post (f_depth, f_termLength, f_demands, f_boundCount, f_known, f_found, f_least, a_sizes, a_empties, a_firsts, a_lasts, a_letters, a_behinds, a_steps, a_term, a_patterns, a_kepts, a_signs, a_signCounts, a_bounds, a_firstWords, a_sums, a_met, a_tried, a_seen, a_apart, a_counts, a_next) x y z := by
  subst hx hy hz
  obtain ⟨c1, c2, c3, c4, c5⟩ := L
  have hm := hp.1
  have h64 : (64 : Int32) = nI 64 := rfl
  have hlt : t &&& 64 ≤ t := Nat.and_le_left
  have loop : ∀ x, x = nI (wt_i p t) → ∃ n, wY_step_22 post (nI s) (nI t) (nI c) f_depth f_termLength f_demands f_boundCount f_known f_found f_least a_sizes a_empties a_firsts a_lasts a_letters a_behinds a_steps a_term a_patterns a_kepts a_signs a_signCounts a_bounds a_firstWords a_sums a_met a_tried a_seen a_apart a_counts a_next n x 0 := by
    intro x hx
    refine pk_loop (fun n i x => wY_step_22 post (nI s) (nI t) (nI c) f_depth f_termLength f_demands f_boundCount f_known f_found f_least a_sizes a_empties a_firsts a_lasts a_letters a_behinds a_steps a_term a_patterns a_kepts a_signs a_signCounts a_bounds a_firstWords a_sums a_met a_tried a_seen a_apart a_counts a_next n x (nI i)) (fun i x => x = nI (ws_or (wt_i p t) (wt_f p) t i)) (wt_m p) 0 x (by omega) hx ?_ ?_
    · intro n x I
      subst I
      have hX : ws_or (wt_i p t) (wt_f p) t (wt_m p) < 2 ^ wt_m p := by
        refine ws_or_lt _ _ _ _ ?_ hp.2.2.2.2.2.2.1 _
        unfold wt_i
        split
        · exact hp.2.1
        · exact Nat.two_pow_pos _
      have hX6 : ws_or (wt_i p t) (wt_f p) t 6 = ws_or (wt_i p t) (wt_f p) t (wt_m p) := by
        have := ws_or_more (wt_i p t) (wt_f p) t (wt_m p) hp.2.2.2.2.2.2.2 (6 - wt_m p)
        rw [show wt_m p + (6 - wt_m p) = 6 from by omega] at this
        exact this
      have h6 := wt_p6 hp
      refine wz_in s (br_t (by rw [wz_at s c1]; exact nI_le (Nat.le_refl _) (by omega)) ?_)
      refine pk_loop (fun n i x => wY_step_74 post (nI s) (nI c) f_depth f_termLength f_demands f_boundCount f_known f_found f_least a_sizes a_empties a_firsts a_lasts a_letters a_behinds a_steps a_term a_patterns a_kepts a_signs a_signCounts a_bounds a_firstWords a_sums a_met a_tried a_seen a_apart a_counts a_next n x (nI i)) (fun i x => x = nI (wy_fit (ws_or (wt_i p t) (wt_f p) t (wt_m p)) (wt_r p (decide (c = 1))) i)) (wt_m p) 0 _ (by omega) rfl ?_ ?_
      · intro n x I
        subst I
        refine wz_in s (br_t (by rw [wz_at s c1]; exact nI_le (Nat.le_refl _) (by omega)) ?_)
        rw [wy_fit_eq hm hX, ← hX6]
        exact K
      · intro n i x hi I ih
        subst I
        have hl := wz_at (6 * s + i) (c5 i hi).1 (wz_6m s i)
        have hf := ya_fit hp hi hc
        have hc2 : wt_c p i ≤ 2 := by
          unfold wt_c
          split
          · split <;> omega
          · omega
        have yes : (wt_r p (decide (c = 1))).testBit i = true → wY_step_122 post (wY_step_74 post (nI s) (nI c) f_depth f_termLength f_demands f_boundCount f_known f_found f_least a_sizes a_empties a_firsts a_lasts a_letters a_behinds a_steps a_term a_patterns a_kepts a_signs a_signCounts a_bounds a_firstWords a_sums a_met a_tried a_seen a_apart a_counts a_next n) (nI s) (nI c) (nI (wy_fit (ws_or (wt_i p t) (wt_f p) t (wt_m p)) (wt_r p (decide (c = 1))) i)) (nI i) 1 f_depth f_termLength f_demands f_boundCount f_known f_found f_least a_sizes a_empties a_firsts a_lasts a_letters a_behinds a_steps a_term a_patterns a_kepts a_signs a_signCounts a_bounds a_firstWords a_sums a_met a_tried a_seen a_apart a_counts a_next := by
          intro w
          refine br_f (by decide) (nm_r (nI_1 i) (ih _ ?_))
          rw [wy_fit_s, if_pos w]
        refine wz_in s (br_f (by rw [wz_at s c1]; exact nI_ge hi (by omega)) (wz_in (6 * s + i) (pk_eq (wt_c p i) 2 (fun w => yes (hf.mp (Or.inl w))) (fun w => wz_in (6 * s + i) (pk_eq (wt_c p i) c (fun w2 => yes (hf.mp (Or.inr w2))) (fun w2 => br_t rfl (nm_r (wr_clr _ (wy_fit_lt _ (by omega) i) i (by omega)) (nm_r (nI_1 i) (ih _ ?_)))) hl) (by omega) (wz_6m s i)) hl) (by omega) (wz_6m s i)))
        rw [wy_fit_s, if_neg (fun w3 => (hf.mpr w3).elim w w2)]
    · intro n i x hi I ih
      subst I
      refine wz_in s (br_f (by rw [wz_at s c1]; exact nI_ge hi (by omega)) (wz_tb (t.testBit i) (fun w => ?_) (fun w => ?_) (wr_bit1 (by omega) (by omega))))
      · refine wz_in (6 * s + i) (nm_r (e' := nI (ws_or (wt_i p t) (wt_f p) t (i + 1))) ?_ (nm_r (nI_1 i) (ih _ rfl))) (by omega) (wz_6m s i)
        rw [wz_at (6 * s + i) (c5 i hi).2 (wz_6m s i), wr_or, ws_or_s, if_pos w]
      · refine nm_r (nI_1 i) (ih _ ?_)
        rw [ws_or_s, if_neg (by rw [w]; exact Bool.false_ne_true)]
  refine pk_eq (t &&& 64) 0 (fun w => loop 0 ?_) (fun w => wz_ld s (nI (wt_F p)) (loop _ ?_) (by omega) rfl c3) (by rw [h64, nx_and])
  · unfold wt_i
    rw [(ya_64 t ht).mp w, if_neg Bool.false_ne_true]; rfl
  · unfold wt_i
    have : t.testBit 6 = true := by
      cases h : t.testBit 6 with
      | true => rfl
      | false => exact absurd ((ya_64 t ht).mpr h) w
    rw [this, if_pos rfl]
theorem ya_ms {post : SY → Prop} {p : ws_Pat} {k : Nat} (hk : k < 3) (hp : wt_ok p) (L : wr_YL p (5 + k) a_sizes a_empties a_firsts a_lasts a_letters a_behinds) (K : ∀ st : Nat → Int32, (∀ n, n < 256 → st (256 * k + n) = nI (wt_d p (n / 2) (decide (n % 2 = 1)))) → (∀ j, (∀ n, n < 256 → j ≠ 256 * k + n) → st j = a_steps j) → post (f_depth, f_termLength, f_demands, f_boundCount, 0, f_found, f_least, a_sizes, a_empties, a_firsts, a_lasts, a_letters, a_behinds, st, a_term, a_patterns, a_kepts, a_signs, a_signCounts, a_bounds, a_firstWords, a_sums, a_met, a_tried, a_seen, a_apart, a_counts, a_next)) : wpY_makeSteps post (f_depth, f_termLength, f_demands, f_boundCount, f_known, f_found, f_least, a_sizes, a_empties, a_firsts, a_lasts, a_letters, a_behinds, a_steps, a_term, a_patterns, a_kepts, a_signs, a_signCounts, a_bounds, a_firstWords, a_sums, a_met, a_tried, a_seen, a_apart, a_counts, a_next) (nI k) := by
  refine pk_loop (fun n i st => wY_makeSteps_2 post (nI k) f_depth f_termLength f_demands f_boundCount f_known f_found f_least n (nI i) a_sizes a_empties a_firsts a_lasts a_letters a_behinds st a_term a_patterns a_kepts a_signs a_signCounts a_bounds a_firstWords a_sums a_met a_tried a_seen a_apart a_counts a_next) (fun i st => (∀ n, n < i → st (256 * k + n) = nI (wt_d p (n / 2) (decide (n % 2 = 1)))) ∧ (∀ j, (∀ n, n < 256 → j ≠ 256 * k + n) → st j = a_steps j)) 256 0 a_steps (by omega) ⟨fun n hn => absurd hn (by omega), fun _ _ => rfl⟩ ?_ ?_
  · intro n st I
    exact br_t (nI_le (a := 256) (b := 256) (by omega) (by omega)) (K st I.1 I.2)
  · intro n i st hi I ih
    refine br_f (nI_ge (b := 256) hi (by omega)) ⟨by decide, by decide, ?_⟩
    refine ya_step (wz_5 k) (wz_d2 (by omega)) (wz_r2 (by omega)) (by omega) (by omega) (Nat.mod_lt _ (by omega)) hp L (wz_st (256 * k + i) _ (nm_r (nI_1 i) (ih _ ⟨?_, ?_⟩)) (by omega) (wz_256 k i) rfl)
    · intro j hj
      by_cases e : j = i
      · subst e; exact pk_us
      · rw [pk_un (by omega)]; exact I.1 j (by omega)
    · intro j hj
      rw [pk_un (hj i hi)]; exact I.2 j hj
end
theorem ya_init {post : SY → Prop} (K : ∀ em st : Nat → Int32, wr_YP (fun _ => wt_sim 3) (fun _ => 0) em (fun _ => 0) (fun _ => 0) (fun _ => 0) (fun _ => 0) → wr_YT (fun _ => wt_sim 3) st → post (0, 0, 0, 0, 0, 0, 0, (fun _ => 0), em, (fun _ => 0), (fun _ => 0), (fun _ => 0), (fun _ => 0), st, (fun _ => 0), (fun _ => 0), (fun _ => 0), (fun _ => 0), (fun _ => 0), (fun _ => 0), (fun _ => 0), (fun _ => 0), (fun _ => 0), (fun _ => 0), (fun _ => 0), (fun _ => 0), (fun _ => 0), (fun _ => 0))) : wpY_init post := by
  refine pk_loop (fun n k (s : (Nat → Int32) × (Nat → Int32)) => wY_init_175 post n (nI k) 0 0 0 0 0 0 0 (fun _ => 0) s.1 (fun _ => 0) (fun _ => 0) (fun _ => 0) (fun _ => 0) s.2 (fun _ => 0) (fun _ => 0) (fun _ => 0) (fun _ => 0) (fun _ => 0) (fun _ => 0) (fun _ => 0) (fun _ => 0) (fun _ => 0) (fun _ => 0) (fun _ => 0) (fun _ => 0) (fun _ => 0) (fun _ => 0)) (fun k s => (∀ j, j < k → s.1 (5 + j) = 1) ∧ ∀ j, j < k → ∀ n, n < 256 → s.2 (256 * j + n) = nI (wt_d (wt_sim 3) (n / 2) (decide (n % 2 = 1)))) 3 0 ((fun _ => 0), (fun _ => 0)) (by omega) ⟨fun j hj => absurd hj (by omega), fun j hj => absurd hj (by omega)⟩ ?_ ?_
  · intro n s I
    exact br_t (nI_le (a := 3) (b := 3) (by omega) (by omega)) (K s.1 s.2 (fun k hk => ⟨rfl, I.1 k hk, rfl, rfl, fun i hi => absurd hi (Nat.not_lt_zero i)⟩) I.2)
  · intro n k s hk I ih
    refine br_f (nI_ge (b := 3) hk (by omega)) (wz_st (5 + k) 1 ?_ (by omega) (wz_5 k) rfl)
    refine ya_ms hk (wt_sim_ok (w := 3) (by decide)) ⟨rfl, pk_us, rfl, rfl, fun i hi => absurd hi (Nat.not_lt_zero i)⟩ (fun st h1 h2 => nm_r (nI_1 k) (ih (upd s.1 (5 + k) 1, st) ⟨?_, ?_⟩))
    · intro j hj
      dsimp only
      by_cases e : j = k
      · subst e; exact pk_us
      · rw [pk_un (by omega)]; exact I.1 j (by omega)
    · intro j hj m hm
      dsimp only
      by_cases e : j = k
      · subst e; exact h1 m hm
      · rw [h2 _ (fun q hq => by omega)]; exact I.2 j (by omega) m hm
end
section
/-! the reference: simple, then, or, many, place -/
section
variable {f_depth f_termLength f_demands f_boundCount f_known f_found f_least : Int32} {a_sizes a_empties a_firsts a_lasts a_letters a_behinds a_steps a_term a_patterns a_kepts a_signs a_signCounts a_bounds a_firstWords a_sums a_met a_tried a_seen a_apart a_counts a_next : Nat → Int32}
/-- the other slots are as they were -/
def yb_F (d : Nat) (sz em fi la le be sz' em' fi' la' le' be' : Nat → Int32) : Prop := ∀ (s : Nat) (p : ws_Pat), s ≠ d → wt_m p ≤ 6 → wr_YL p s sz em fi la le be → wr_YL p s sz' em' fi' la' le' be'
theorem yb_F_of {d : Nat} {sz em fi la le be sz' em' fi' la' le' be' : Nat → Int32} (h1 : ∀ s, s ≠ d → sz' s = sz s) (h2 : ∀ s, s ≠ d → em' s = em s) (h3 : ∀ s, s ≠ d → fi' s = fi s) (h4 : ∀ s, s ≠ d → la' s = la s) (h5 : ∀ j, (∀ i, i < 6 → j ≠ 6 * d + i) → le' j = le j) (h6 : ∀ j, (∀ i, i < 6 → j ≠ 6 * d + i) → be' j = be j) : yb_F d sz em fi la le be sz' em' fi' la' le' be' :=
  fun s _ hs hm h => wr_YL_c h hm (h1 s hs) (h2 s hs) (h3 s hs) (h4 s hs) (fun i hi => h5 _ (fun q hq => by omega)) (fun i hi => h6 _ (fun q hq => by omega))
theorem yb_set {post : SY → Prop} {d : Nat} {x a b c e : Int32} (hd : d < 8) (hx : x = nI d) (b' : Int32) (hb : vp_nar .boolean b = b') (K : post (f_depth, f_termLength, f_demands, f_boundCount, f_known, f_found, f_least, (upd a_sizes d a), (upd a_empties d b'), (upd a_firsts d c), (upd a_lasts d e), a_letters, a_behinds, a_steps, a_term, a_patterns, a_kepts, a_signs, a_signCounts, a_bounds, a_firstWords, a_sums, a_met, a_tried, a_seen, a_apart, a_counts, a_next)) : wpY_set post (f_depth, f_termLength, f_demands, f_boundCount, f_known, f_found, f_least, a_sizes, a_empties, a_firsts, a_lasts, a_letters, a_behinds, a_steps, a_term, a_patterns, a_kepts, a_signs, a_signCounts, a_bounds, a_firstWords, a_sums, a_met, a_tried, a_seen, a_apart, a_counts, a_next) x a b c e := by
  subst hx
  exact wz_st d a (wz_st d b' (wz_st d c (wz_st d e K)) (by omega) rfl hb)
theorem yb_sim0 {post : Int32 → SY → Prop} {dp : Nat} (hd : dp < 5) (K : ∀ sz em fi la le be : Nat → Int32, wr_YL (wt_sim 0) dp sz em fi la le be → yb_F dp a_sizes a_empties a_firsts a_lasts a_letters a_behinds sz em fi la le be → post (nI (dp + 1)) ((nI (dp + 1)), f_termLength, f_demands, f_boundCount, f_known, f_found, f_least, sz, em, fi, la, le, be, a_steps, a_term, a_patterns, a_kepts, a_signs, a_signCounts, a_bounds, a_firstWords, a_sums, a_met, a_tried, a_seen, a_apart, a_counts, a_next)) : wpY_simple post ((nI dp), f_termLength, f_demands, f_boundCount, f_known, f_found, f_least, a_sizes, a_empties, a_firsts, a_lasts, a_letters, a_behinds, a_steps, a_term, a_patterns, a_kepts, a_signs, a_signCounts, a_bounds, a_firstWords, a_sums, a_met, a_tried, a_seen, a_apart, a_counts, a_next) (nI 0) := by
  refine br_f (by decide) (br_t (by decide) (pk_eq dp 5 (fun z => absurd z (by omega)) (fun _ => br_f (by decide) ?_)))
  refine br_f (by decide) (br_f (by decide) (br_f (by decide) (br_f (by decide) ?_)))
  refine yb_set (d := dp) (by omega) rfl 0 rfl (wz_st (6 * dp) (nI 0) (wz_st (6 * dp) 0 (nm_r (nI_1 dp) (K _ _ _ _ _ _ ⟨pk_us, pk_us, pk_us, pk_us, ?_⟩ ?_)) (by omega) (wz_6 dp) rfl) (by omega) (wz_6 dp) rfl)
  · intro i hi
    change i < 1 at hi
    obtain rfl : i = 0 := by omega
    exact ⟨pk_us, pk_us⟩
  · exact yb_F_of (fun s hs => pk_un hs) (fun s hs => pk_un hs) (fun s hs => pk_un hs) (fun s hs => pk_un hs) (fun j hj => pk_un (hj 0 (by omega))) (fun j hj => pk_un (hj 0 (by omega)))
theorem yb_sim1 {post : Int32 → SY → Prop} {dp : Nat} (hd : dp < 5) (K : ∀ sz em fi la le be : Nat → Int32, wr_YL (wt_sim 1) dp sz em fi la le be → yb_F dp a_sizes a_empties a_firsts a_lasts a_letters a_behinds sz em fi la le be → post (nI (dp + 1)) ((nI (dp + 1)), f_termLength, f_demands, f_boundCount, f_known, f_found, f_least, sz, em, fi, la, le, be, a_steps, a_term, a_patterns, a_kepts, a_signs, a_signCounts, a_bounds, a_firstWords, a_sums, a_met, a_tried, a_seen, a_apart, a_counts, a_next)) : wpY_simple post ((nI dp), f_termLength, f_demands, f_boundCount, f_known, f_found, f_least, a_sizes, a_empties, a_firsts, a_lasts, a_letters, a_behinds, a_steps, a_term, a_patterns, a_kepts, a_signs, a_signCounts, a_bounds, a_firstWords, a_sums, a_met, a_tried, a_seen, a_apart, a_counts, a_next) (nI 1) := by
  refine br_f (by decide) (br_t (by decide) (pk_eq dp 5 (fun z => absurd z (by omega)) (fun _ => br_f (by decide) ?_)))
  refine br_f (by decide) (br_f (by decide) (br_f (by decide) (br_f (by decide) ?_)))
  refine yb_set (d := dp) (by omega) rfl 0 rfl (wz_st (6 * dp) (nI 1) (wz_st (6 * dp) 0 (nm_r (nI_1 dp) (K _ _ _ _ _ _ ⟨pk_us, pk_us, pk_us, pk_us, ?_⟩ ?_)) (by omega) (wz_6 dp) rfl) (by omega) (wz_6 dp) rfl)
  · intro i hi
    change i < 1 at hi
    obtain rfl : i = 0 := by omega
    exact ⟨pk_us, pk_us⟩
  · exact yb_F_of (fun s hs => pk_un hs) (fun s hs => pk_un hs) (fun s hs => pk_un hs) (fun s hs => pk_un hs) (fun j hj => pk_un (hj 0 (by omega))) (fun j hj => pk_un (hj 0 (by omega)))
theorem yb_sim2 {post : Int32 → SY → Prop} {dp : Nat} (hd : dp < 5) (K : ∀ sz em fi la le be : Nat → Int32, wr_YL (wt_sim 2) dp sz em fi la le be → yb_F dp a_sizes a_empties a_firsts a_lasts a_letters a_behinds sz em fi la le be → post (nI (dp + 1)) ((nI (dp + 1)), f_termLength, f_demands, f_boundCount, f_known, f_found, f_least, sz, em, fi, la, le, be, a_steps, a_term, a_patterns, a_kepts, a_signs, a_signCounts, a_bounds, a_firstWords, a_sums, a_met, a_tried, a_seen, a_apart, a_counts, a_next)) : wpY_simple post ((nI dp), f_termLength, f_demands, f_boundCount, f_known, f_found, f_least, a_sizes, a_empties, a_firsts, a_lasts, a_letters, a_behinds, a_steps, a_term, a_patterns, a_kepts, a_signs, a_signCounts, a_bounds, a_firstWords, a_sums, a_met, a_tried, a_seen, a_apart, a_counts, a_next) (nI 2) := by
  refine br_f (by decide) (br_t (by decide) (pk_eq dp 5 (fun z => absurd z (by omega)) (fun _ => br_f (by decide) ?_)))
  refine br_f (by decide) (br_f (by decide) (br_f (by decide) (br_f (by decide) ?_)))
  refine yb_set (d := dp) (by omega) rfl 0 rfl (wz_st (6 * dp) (nI 2) (wz_st (6 * dp) 0 (nm_r (nI_1 dp) (K _ _ _ _ _ _ ⟨pk_us, pk_us, pk_us, pk_us, ?_⟩ ?_)) (by omega) (wz_6 dp) rfl) (by omega) (wz_6 dp) rfl)
  · intro i hi
    change i < 1 at hi
    obtain rfl : i = 0 := by omega
    exact ⟨pk_us, pk_us⟩
  · exact yb_F_of (fun s hs => pk_un hs) (fun s hs => pk_un hs) (fun s hs => pk_un hs) (fun s hs => pk_un hs) (fun j hj => pk_un (hj 0 (by omega))) (fun j hj => pk_un (hj 0 (by omega)))
theorem yb_sim3 {post : Int32 → SY → Prop} {dp : Nat} (hd : dp < 5) (K : ∀ sz em fi la le be : Nat → Int32, wr_YL (wt_sim 3) dp sz em fi la le be → yb_F dp a_sizes a_empties a_firsts a_lasts a_letters a_behinds sz em fi la le be → post (nI (dp + 1)) ((nI (dp + 1)), f_termLength, f_demands, f_boundCount, f_known, f_found, f_least, sz, em, fi, la, le, be, a_steps, a_term, a_patterns, a_kepts, a_signs, a_signCounts, a_bounds, a_firstWords, a_sums, a_met, a_tried, a_seen, a_apart, a_counts, a_next)) : wpY_simple post ((nI dp), f_termLength, f_demands, f_boundCount, f_known, f_found, f_least, a_sizes, a_empties, a_firsts, a_lasts, a_letters, a_behinds, a_steps, a_term, a_patterns, a_kepts, a_signs, a_signCounts, a_bounds, a_firstWords, a_sums, a_met, a_tried, a_seen, a_apart, a_counts, a_next) (nI 3) := by
  refine br_f (by decide) (br_t (by decide) (pk_eq dp 5 (fun z => absurd z (by omega)) (fun _ => br_t (by decide) ?_)))
  refine br_t (by decide) (br_t (by decide) (br_t (by decide) (br_t (by decide) ?_)))
  refine yb_set (d := dp) (by omega) rfl 1 rfl (wz_st (6 * dp) (nI 3) (wz_st (6 * dp) 0 (nm_r (nI_1 dp) (K _ _ _ _ _ _ ⟨pk_us, pk_us, pk_us, pk_us, ?_⟩ ?_)) (by omega) (wz_6 dp) rfl) (by omega) (wz_6 dp) rfl)
  · intro i hi
    change i < 0 at hi
    omega
    
  · exact yb_F_of (fun s hs => pk_un hs) (fun s hs => pk_un hs) (fun s hs => pk_un hs) (fun s hs => pk_un hs) (fun j hj => pk_un (hj 0 (by omega))) (fun j hj => pk_un (hj 0 (by omega)))
theorem yb_many {post : Int32 → SY → Prop} {d : Nat} {p : ws_Pat} (hd : d < 5) (hp : wt_ok p) (L : wr_YL p d a_sizes a_empties a_firsts a_lasts a_letters a_behinds) (K : ∀ em be : Nat → Int32, wr_YL (wt_many p) d a_sizes em a_firsts a_lasts a_letters be → yb_F d a_sizes a_empties a_firsts a_lasts a_letters a_behinds a_sizes em a_firsts a_lasts a_letters be → post (nI (d + 1)) ((nI (d + 1)), f_termLength, f_demands, f_boundCount, f_known, f_found, f_least, a_sizes, em, a_firsts, a_lasts, a_letters, be, a_steps, a_term, a_patterns, a_kepts, a_signs, a_signCounts, a_bounds, a_firstWords, a_sums, a_met, a_tried, a_seen, a_apart, a_counts, a_next)) : wpY_many post ((nI (d + 1)), f_termLength, f_demands, f_boundCount, f_known, f_found, f_least, a_sizes, a_empties, a_firsts, a_lasts, a_letters, a_behinds, a_steps, a_term, a_patterns, a_kepts, a_signs, a_signCounts, a_bounds, a_firstWords, a_sums, a_met, a_tried, a_seen, a_apart, a_counts, a_next) := by
  obtain ⟨c1, c2, c3, c4, c5⟩ := L
  have hm := hp.1
  have h6 := wt_p6 hp
  have hL := hp.2.2.1
  refine br_f (nI_ne0 (by omega) (by omega)) (nm_r (nI_pred d) ?_)
  refine pk_loop (fun n i be => wY_many_19 post (nI d) (nI (d + 1)) f_termLength f_demands f_boundCount f_known f_found f_least n (nI i) a_sizes a_empties a_firsts a_lasts a_letters be a_steps a_term a_patterns a_kepts a_signs a_signCounts a_bounds a_firstWords a_sums a_met a_tried a_seen a_apart a_counts a_next) (fun i be => (∀ j, j < i → be (6 * d + j) = nI (wt_f (wt_many p) j)) ∧ (∀ j, (∀ q, q < i → j ≠ 6 * d + q) → be j = a_behinds j)) (wt_m p) 0 a_behinds (by omega) ⟨fun j hj => absurd hj (by omega), fun _ _ => rfl⟩ ?_ ?_
  · intro n be I
    refine wz_in d (br_t (by rw [wz_at d c1]; exact nI_le (Nat.le_refl _) (by omega)) (wz_st d 1 (K _ _ ⟨c1, pk_us, c3, c4, fun i hi => ⟨(c5 i hi).1, I.1 i hi⟩⟩ ?_)))
    exact yb_F_of (fun _ _ => rfl) (fun s hs => pk_un hs) (fun _ _ => rfl) (fun _ _ => rfl) (fun _ _ => rfl) (fun j hj => I.2 j (fun q hq => hj q (by omega)))
  · intro n i be hi I ih
    have e0 : be (6 * d + i) = nI (wt_f p i) := (I.2 _ (fun q hq => by omega)).trans (c5 i hi).2
    have e1 := wz_at (6 * d + i) e0 (wz_6m d i)
    have nxt : ∀ v, v = nI (wt_f (wt_many p) i) → wY_many_19 post (nI d) (nI (d + 1)) f_termLength f_demands f_boundCount f_known f_found f_least n (nI (i + 1)) a_sizes a_empties a_firsts a_lasts a_letters (upd be (6 * d + i) v) a_steps a_term a_patterns a_kepts a_signs a_signCounts a_bounds a_firstWords a_sums a_met a_tried a_seen a_apart a_counts a_next := by
      intro v hv
      refine ih _ ⟨?_, ?_⟩
      · intro j hj
        by_cases e : j = i
        · subst e; rw [pk_us, hv]
        · rw [pk_un (by omega)]; exact I.1 j (by omega)
      · intro j hj
        rw [pk_un (hj i (by omega))]; exact I.2 j (fun q hq => hj q (by omega))
    refine wz_in d (br_f (by rw [wz_at d c1]; exact nI_ge hi (by omega)) (wz_in d (wz_tb ((wt_L p).testBit i) (fun w => ?_) (fun w => ?_) ?_)))
    · refine br_f (by decide) (wz_in (6 * d + i) (wz_in d (wz_st (6 * d + i) (nI (wt_f p i ||| wt_F p)) (nm_r (nI_1 i) (nxt _ ?_)) (by omega) (wz_6m d i) ?_)) (by omega) (wz_6m d i))
      · show _ = nI (if (wt_L p).testBit i = true then _ else _)
        rw [if_pos w]
      · rw [e1, wz_at d c3, wr_or]
    · refine br_t rfl (wz_in (6 * d + i) (wz_st (6 * d + i) (nI (wt_f p i)) (nm_r (nI_1 i) (nxt _ ?_)) (by omega) (wz_6m d i) e1) (by omega) (wz_6m d i))
      show _ = nI (if (wt_L p).testBit i = true then _ else _)
      rw [if_neg (by rw [w]; exact Bool.false_ne_true)]
    · rw [wz_at d c4]
      exact wr_bit1 (by omega) (by omega)
theorem yb_place {post : Int32 → SY → Prop} {k d : Nat} {p : ws_Pat} (hk : k < 3) (hd : d < 5) (hp : wt_ok p) (L : wr_YL p d a_sizes a_empties a_firsts a_lasts a_letters a_behinds) (K : ∀ sz em fi la le be st : Nat → Int32, wr_YL p (5 + k) sz em fi la le be → yb_F (5 + k) a_sizes a_empties a_firsts a_lasts a_letters a_behinds sz em fi la le be → (∀ n, n < 256 → st (256 * k + n) = nI (wt_d p (n / 2) (decide (n % 2 = 1)))) → (∀ j, (∀ n, n < 256 → j ≠ 256 * k + n) → st j = a_steps j) → post (nI d) ((nI d), f_termLength, f_demands, f_boundCount, 0, f_found, f_least, sz, em, fi, la, le, be, st, a_term, a_patterns, a_kepts, a_signs, a_signCounts, a_bounds, a_firstWords, a_sums, a_met, a_tried, a_seen, a_apart, a_counts, a_next)) : wpY_place post ((nI (d + 1)), f_termLength, f_demands, f_boundCount, f_known, f_found, f_least, a_sizes, a_empties, a_firsts, a_lasts, a_letters, a_behinds, a_steps, a_term, a_patterns, a_kepts, a_signs, a_signCounts, a_bounds, a_firstWords, a_sums, a_met, a_tried, a_seen, a_apart, a_counts, a_next) (nI k) := by
  obtain ⟨c1, c2, c3, c4, c5⟩ := L
  have hm := hp.1
  unfold wpY_place
  refine br_f (nI_pos (by omega)) (br_f (nI_nlt (a := 2) (b := k) (by omega) (by omega)) (br_f (by decide) (br_f (nI_ne0 (by omega) (by omega)) (nm_r (nI_pred d) (wz_in d (wz_in d (wz_in d (wz_in d ?_))))))))
  refine yb_set (d := 5 + k) (by omega) (wz_5 k) (wr_b (wt_e p)) (by rw [wz_at d c2, wr_b_v]) ?_
  rw [wz_at d c1, wz_at d c3, wz_at d c4]
  refine pk_loop (fun n i (s : (Nat → Int32) × (Nat → Int32)) => wY_place_75 post (nI k) (nI d) f_termLength f_demands f_boundCount f_known f_found f_least n (nI i) (upd a_sizes (5 + k) (nI (wt_m p))) (upd a_empties (5 + k) (wr_b (wt_e p))) (upd a_firsts (5 + k) (nI (wt_F p))) (upd a_lasts (5 + k) (nI (wt_L p))) s.1 s.2 a_steps a_term a_patterns a_kepts a_signs a_signCounts a_bounds a_firstWords a_sums a_met a_tried a_seen a_apart a_counts a_next) (fun i s => (∀ j, j < i → s.1 (6 * (5 + k) + j) = a_letters (6 * d + j) ∧ s.2 (6 * (5 + k) + j) = a_behinds (6 * d + j)) ∧ ∀ j, (∀ q, q < 6 → j ≠ 6 * (5 + k) + q) → s.1 j = a_letters j ∧ s.2 j = a_behinds j) 6 0 (a_letters, a_behinds) (by omega) ⟨fun j hj => absurd hj (by omega), fun _ _ => ⟨rfl, rfl⟩⟩ ?_ ?_
  · intro n s I
    have L' : wr_YL p (5 + k) (upd a_sizes (5 + k) (nI (wt_m p))) (upd a_empties (5 + k) (wr_b (wt_e p))) (upd a_firsts (5 + k) (nI (wt_F p))) (upd a_lasts (5 + k) (nI (wt_L p))) s.1 s.2 := ⟨pk_us, pk_us, pk_us, pk_us, fun i hi => ⟨((I.1 i (by omega)).1).trans (c5 i hi).1, ((I.1 i (by omega)).2).trans (c5 i hi).2⟩⟩
    exact br_t (nI_le (a := 6) (b := 6) (by omega) (by omega)) (ya_ms hk hp L' (fun st h1 h2 => K _ _ _ _ _ _ st L' (yb_F_of (fun s hs => pk_un hs) (fun s hs => pk_un hs) (fun s hs => pk_un hs) (fun s hs => pk_un hs) (fun j hj => (I.2 j hj).1) (fun j hj => (I.2 j hj).2)) h1 h2))
  · intro n i s hi I ih
    have e1 : (6 : Int32) * (5 + nI k) + nI i = nI (6 * (5 + k) + i) := by rw [wz_5, wz_6m]
    have o := I.2 (6 * d + i) (fun q hq => by omega)
    refine br_f (nI_ge (b := 6) hi (by omega)) (wz_in (6 * d + i) (wz_st (6 * (5 + k) + i) (a_letters (6 * d + i)) (wz_in (6 * d + i) (wz_st (6 * (5 + k) + i) (a_behinds (6 * d + i)) (nm_r (nI_1 i) (ih (upd s.1 (6 * (5 + k) + i) (a_letters (6 * d + i)), upd s.2 (6 * (5 + k) + i) (a_behinds (6 * d + i))) ⟨?_, ?_⟩)) (by omega) e1 (wz_at _ o.2 (wz_6m d i))) (by omega) (wz_6m d i)) (by omega) e1 (wz_at _ o.1 (wz_6m d i))) (by omega) (wz_6m d i))
    · intro j hj
      dsimp only
      by_cases e : j = i
      · subst e; exact ⟨pk_us, pk_us⟩
      · rw [pk_un (by omega), pk_un (by omega)]; exact I.1 j (by omega)
    · intro j hj
      dsimp only
      rw [pk_un (hj i hi), pk_un (hj i hi)]; exact I.2 j hj
end
end
section
/-! the reference: then, or -/
section
variable {f_depth f_termLength f_demands f_boundCount f_known f_found f_least : Int32} {a_sizes a_empties a_firsts a_lasts a_letters a_behinds a_steps a_term a_patterns a_kepts a_signs a_signCounts a_bounds a_firstWords a_sums a_met a_tried a_seen a_apart a_counts a_next : Nat → Int32}
theorem yc_347 {post : Int32 → SY → Prop} {th : Bool} {d : Nat} {p q : ws_Pat} {w a b : Int32} (hd : d + 2 ≤ 5) (hm : wt_m p + wt_m q ≤ 6) (c1 : a_sizes (d + 1) = nI (wt_m q)) (hw : w = wr_b (wt_e (wt_join th p q))) (ha : a = nI (wt_F (wt_join th p q))) (hb : b = nI (wt_L (wt_join th p q))) (h5 : ∀ i, i < wt_m p + wt_m q → a_letters (6 * d + i) = nI (wt_c (wt_join th p q) i) ∧ a_behinds (6 * d + i) = nI (wt_f (wt_join th p q) i)) (K : ∀ sz em fi la : Nat → Int32, wr_YL (wt_join th p q) d sz em fi la a_letters a_behinds → (∀ s, s ≠ d → sz s = a_sizes s ∧ em s = a_empties s ∧ fi s = a_firsts s ∧ la s = a_lasts s) → post (nI (d + 1)) ((nI (d + 1)), f_termLength, f_demands, f_boundCount, f_known, f_found, f_least, sz, em, fi, la, a_letters, a_behinds, a_steps, a_term, a_patterns, a_kepts, a_signs, a_signCounts, a_bounds, a_firstWords, a_sums, a_met, a_tried, a_seen, a_apart, a_counts, a_next)) : wY_join_347 post (nI d) (nI (d + 1)) (nI (wt_m p)) a b w (nI (d + 2)) f_termLength f_demands f_boundCount f_known f_found f_least a_sizes a_empties a_firsts a_lasts a_letters a_behinds a_steps a_term a_patterns a_kepts a_signs a_signCounts a_bounds a_firstWords a_sums a_met a_tried a_seen a_apart a_counts a_next := by
  refine wz_in (d + 1) (yb_set (d := d) (by omega) rfl w (by rw [hw, wr_b_v]) (nm_r (nI_pred (d + 1)) (K _ _ _ _ ⟨?_, ?_, ?_, ?_, h5⟩ (fun s hs => ⟨pk_un hs, pk_un hs, pk_un hs, pk_un hs⟩))))
  · rw [pk_us, wz_at (d + 1) c1, nI_add]; rfl
  · rw [pk_us, hw]
  · rw [pk_us, ha]
  · rw [pk_us, hb]
theorem yc_291 {post : Int32 → SY → Prop} {th : Bool} {d : Nat} {p q : ws_Pat} {a b c : Int32} (hd : d + 2 ≤ 5) (hm : wt_m p + wt_m q ≤ 6) (c1 : a_sizes (d + 1) = nI (wt_m q)) (c2 : a_empties d = wr_b (wt_e p)) (c3 : a_empties (d + 1) = wr_b (wt_e q)) (ha : a = nI (wt_F (wt_join th p q))) (hb : c ||| b = nI (wt_L (wt_join th p q))) (h5 : ∀ i, i < wt_m p + wt_m q → a_letters (6 * d + i) = nI (wt_c (wt_join th p q) i) ∧ a_behinds (6 * d + i) = nI (wt_f (wt_join th p q) i)) (K : ∀ sz em fi la : Nat → Int32, wr_YL (wt_join th p q) d sz em fi la a_letters a_behinds → (∀ s, s ≠ d → sz s = a_sizes s ∧ em s = a_empties s ∧ fi s = a_firsts s ∧ la s = a_lasts s) → post (nI (d + 1)) ((nI (d + 1)), f_termLength, f_demands, f_boundCount, f_known, f_found, f_least, sz, em, fi, la, a_letters, a_behinds, a_steps, a_term, a_patterns, a_kepts, a_signs, a_signCounts, a_bounds, a_firstWords, a_sums, a_met, a_tried, a_seen, a_apart, a_counts, a_next)) : wY_join_291 post (wr_b th) (nI d) (nI (d + 1)) (nI (wt_m p)) a b c (nI (d + 2)) f_termLength f_demands f_boundCount f_known f_found f_least a_sizes a_empties a_firsts a_lasts a_letters a_behinds a_steps a_term a_patterns a_kepts a_signs a_signCounts a_bounds a_firstWords a_sums a_met a_tried a_seen a_apart a_counts a_next := by
  refine nm_r hb (wz_if th (fun z => ?_) (fun z => ?_))
  · subst z
    refine wz_in d (wz_if (wt_e p) (fun w => wz_in (d + 1) (wz_if (wt_e q) (fun w2 => yc_347 hd hm c1 ?_ ha rfl h5 K) (fun w2 => yc_347 hd hm c1 ?_ ha rfl h5 K) (wz_at (d + 1) c3))) (fun w => yc_347 hd hm c1 ?_ ha rfl h5 K) (wz_at d c2))
    · show _ = wr_b (wt_e p || wt_e q); rw [w, w2]; rfl
    · show _ = wr_b (wt_e p || wt_e q); rw [w, w2]; rfl
    · show _ = wr_b (wt_e p || wt_e q); rw [w]; rfl
  · subst z
    refine wz_in d (wz_if (wt_e p) (fun w => yc_347 hd hm c1 ?_ ha rfl h5 K) (fun w => wz_in (d + 1) (wz_if (wt_e q) (fun w2 => yc_347 hd hm c1 ?_ ha rfl h5 K) (fun w2 => yc_347 hd hm c1 ?_ ha rfl h5 K) (wz_at (d + 1) c3))) (wz_at d c2))
    · show _ = wr_b (wt_e p && wt_e q); rw [w]; rfl
    · show _ = wr_b (wt_e p && wt_e q); rw [w, w2]; rfl
    · show _ = wr_b (wt_e p && wt_e q); rw [w, w2]; rfl
theorem yc_263 {post : Int32 → SY → Prop} {th : Bool} {d : Nat} {p q : ws_Pat} {a b : Int32} (hd : d + 2 ≤ 5) (hm : wt_m p + wt_m q ≤ 6) (c1 : a_sizes (d + 1) = nI (wt_m q)) (c2 : a_empties d = wr_b (wt_e p)) (c3 : a_empties (d + 1) = wr_b (wt_e q)) (c4 : a_lasts d = nI (wt_L p)) (ha : b ||| a = nI (wt_F (wt_join th p q))) (h5 : ∀ i, i < wt_m p + wt_m q → a_letters (6 * d + i) = nI (wt_c (wt_join th p q) i) ∧ a_behinds (6 * d + i) = nI (wt_f (wt_join th p q) i)) (K : ∀ sz em fi la : Nat → Int32, wr_YL (wt_join th p q) d sz em fi la a_letters a_behinds → (∀ s, s ≠ d → sz s = a_sizes s ∧ em s = a_empties s ∧ fi s = a_firsts s ∧ la s = a_lasts s) → post (nI (d + 1)) ((nI (d + 1)), f_termLength, f_demands, f_boundCount, f_known, f_found, f_least, sz, em, fi, la, a_letters, a_behinds, a_steps, a_term, a_patterns, a_kepts, a_signs, a_signCounts, a_bounds, a_firstWords, a_sums, a_met, a_tried, a_seen, a_apart, a_counts, a_next)) : wY_join_263 post (wr_b th) (nI d) (nI (d + 1)) (nI (wt_m p)) (nI (wt_L q * 2 ^ wt_m p)) a b (nI (d + 2)) f_termLength f_demands f_boundCount f_known f_found f_least a_sizes a_empties a_firsts a_lasts a_letters a_behinds a_steps a_term a_patterns a_kepts a_signs a_signCounts a_bounds a_firstWords a_sums a_met a_tried a_seen a_apart a_counts a_next := by
  have long : (th = false ∨ wt_e q = true) → wY_join_281 post (wr_b th) (nI d) (nI (d + 1)) (nI (wt_m p)) (nI (wt_F (wt_join th p q))) (nI (wt_L q * 2 ^ wt_m p)) (nI (d + 2)) f_termLength f_demands f_boundCount f_known f_found f_least a_sizes a_empties a_firsts a_lasts a_letters a_behinds a_steps a_term a_patterns a_kepts a_signs a_signCounts a_bounds a_firstWords a_sums a_met a_tried a_seen a_apart a_counts a_next := by
    intro z
    refine wz_in d (yc_291 hd hm c1 c2 c3 rfl ?_ h5 K)
    rw [wz_at d c4, wr_or]
    show _ = nI (_ ||| (if _ then _ else _))
    rw [if_pos z]
  refine nm_r ha (wz_if th (fun z => long (Or.inl z)) (fun z => wz_in (d + 1) (wz_if (wt_e q) (fun w => yc_291 hd hm c1 c2 c3 rfl ?_ h5 K) (fun w => long (Or.inr w)) (wz_at (d + 1) c3))))
  rw [show (0 : Int32) = nI 0 from rfl, wr_or]
  show _ = nI (_ ||| (if _ then _ else _))
  rw [if_neg (fun y => by rcases y with y | y <;> simp [z, w] at y)]
theorem yc_join {post : Int32 → SY → Prop} {th : Bool} {d : Nat} {p q : ws_Pat} (hd : d + 2 ≤ 5) (hp : wt_ok p) (hq : wt_ok q) (hm : wt_m p + wt_m q ≤ 6) (L : wr_YL p d a_sizes a_empties a_firsts a_lasts a_letters a_behinds) (L' : wr_YL q (d + 1) a_sizes a_empties a_firsts a_lasts a_letters a_behinds) (K : ∀ sz em fi la le be : Nat → Int32, wr_YL (wt_join th p q) d sz em fi la le be → yb_F d a_sizes a_empties a_firsts a_lasts a_letters a_behinds sz em fi la le be → post (nI (d + 1)) ((nI (d + 1)), f_termLength, f_demands, f_boundCount, f_known, f_found, f_least, sz, em, fi, la, le, be, a_steps, a_term, a_patterns, a_kepts, a_signs, a_signCounts, a_bounds, a_firstWords, a_sums, a_met, a_tried, a_seen, a_apart, a_counts, a_next)) : wpY_join post ((nI (d + 2)), f_termLength, f_demands, f_boundCount, f_known, f_found, f_least, a_sizes, a_empties, a_firsts, a_lasts, a_letters, a_behinds, a_steps, a_term, a_patterns, a_kepts, a_signs, a_signCounts, a_bounds, a_firstWords, a_sums, a_met, a_tried, a_seen, a_apart, a_counts, a_next) (wr_b th) := by
  obtain ⟨c1, c2, c3, c4, c5⟩ := L
  obtain ⟨d1, d2, d3, d4, d5⟩ := L'
  have e1 : nI (d + 2) - 2 = nI d := pk_sub (a := d + 2) (b := 2) (by omega)
  have e2 : nI (d + 2) - 1 = nI (d + 1) := nI_pred (d + 1)
  have h6 := wt_p6 hp
  have h6' := wt_p6 hq
  have hsh : ∀ x, x < 64 → x * 2 ^ wt_m p < 2 ^ 32 := fun x hx => Nat.lt_of_le_of_lt (Nat.mul_le_mul (Nat.le_of_lt hx) h6) (by decide)
  have hF := hq.2.1
  have hL := hq.2.2.1
  have hLp := hp.2.2.1
  refine br_t (nI_le (a := 2) (b := d + 2) (by omega) (by omega)) (nm_r e1 (nm_r e2 (wz_ld d (nI (wt_m p)) (wz_in (d + 1) (br_t ?_ (wz_in (d + 1) (nm_r (e' := nI (wt_F q * 2 ^ wt_m p)) (by rw [wz_at (d + 1) d3, wr_shl (by omega) (hsh _ (by omega))]) (wz_in (d + 1) (nm_r (e' := nI (wt_L q * 2 ^ wt_m p)) (by rw [wz_at (d + 1) d4, wr_shl (by omega) (hsh _ (by omega))]) ?_)))))) (by omega) rfl c1)))
  · rw [wz_at (d + 1) d1, nI_add]
    exact nI_le (b := 6) hm (by decide)
  refine pk_loop (fun n i be => wY_join_75 post (wr_b th) (nI d) (nI (d + 1)) (nI (wt_m p)) (nI (wt_F q * 2 ^ wt_m p)) (nI (wt_L q * 2 ^ wt_m p)) (nI (d + 2)) f_termLength f_demands f_boundCount f_known f_found f_least n (nI i) a_sizes a_empties a_firsts a_lasts a_letters be a_steps a_term a_patterns a_kepts a_signs a_signCounts a_bounds a_firstWords a_sums a_met a_tried a_seen a_apart a_counts a_next) (fun i be => (∀ j, j < i → be (6 * d + j) = nI (wt_f (wt_join th p q) j)) ∧ (∀ j, (∀ r, r < i → j ≠ 6 * d + r) → be j = a_behinds j)) (wt_m p) 0 a_behinds (by omega) ⟨fun j hj => absurd hj (by omega), fun _ _ => rfl⟩ ?_ ?_
  · intro n be I
    refine br_t (nI_le (Nat.le_refl _) (by omega)) ?_
    refine pk_loop (fun n i (s : (Nat → Int32) × (Nat → Int32)) => wY_join_164 post (wr_b th) (nI d) (nI (d + 1)) (nI (wt_m p)) (nI (wt_F q * 2 ^ wt_m p)) (nI (wt_L q * 2 ^ wt_m p)) (nI (d + 2)) f_termLength f_demands f_boundCount f_known f_found f_least n (nI i) a_sizes a_empties a_firsts a_lasts s.1 s.2 a_steps a_term a_patterns a_kepts a_signs a_signCounts a_bounds a_firstWords a_sums a_met a_tried a_seen a_apart a_counts a_next) (fun i s => (∀ j, j < i → s.1 (6 * d + wt_m p + j) = nI (wt_c q j) ∧ s.2 (6 * d + wt_m p + j) = nI (wt_f q j * 2 ^ wt_m p)) ∧ ∀ j, (∀ r, r < i → j ≠ 6 * d + wt_m p + r) → s.1 j = a_letters j ∧ s.2 j = be j) (wt_m q) 0 (a_letters, be) (by omega) ⟨fun j hj => absurd hj (by omega), fun _ _ => ⟨rfl, rfl⟩⟩ ?_ ?_
    · intro n s I2
      have h5 : ∀ i, i < wt_m p + wt_m q → s.1 (6 * d + i) = nI (wt_c (wt_join th p q) i) ∧ s.2 (6 * d + i) = nI (wt_f (wt_join th p q) i) := by
        intro i hi
        by_cases z : i < wt_m p
        · obtain ⟨o1, o2⟩ := I2.2 (6 * d + i) (fun r hr => by omega)
          rw [o1, o2, I.1 i z, wt_join_c th q hp, if_pos z]
          exact ⟨(c5 i z).1, rfl⟩
        · obtain ⟨o1, o2⟩ := I2.1 (i - wt_m p) (by omega)
          rw [show 6 * d + wt_m p + (i - wt_m p) = 6 * d + i from by omega] at o1 o2
          rw [o1, o2, wt_join_c th q hp, if_neg z]
          refine ⟨rfl, ?_⟩
          show _ = nI (if i < wt_m p then _ else _)
          rw [if_neg z]
      have K' : ∀ sz em fi la : Nat → Int32, wr_YL (wt_join th p q) d sz em fi la s.1 s.2 → (∀ s, s ≠ d → sz s = a_sizes s ∧ em s = a_empties s ∧ fi s = a_firsts s ∧ la s = a_lasts s) → post (nI (d + 1)) ((nI (d + 1)), f_termLength, f_demands, f_boundCount, f_known, f_found, f_least, sz, em, fi, la, s.1, s.2, a_steps, a_term, a_patterns, a_kepts, a_signs, a_signCounts, a_bounds, a_firstWords, a_sums, a_met, a_tried, a_seen, a_apart, a_counts, a_next) := by
        intro sz em fi la k1 k2
        refine K sz em fi la s.1 s.2 k1 (yb_F_of (fun s hs => (k2 s hs).1) (fun s hs => (k2 s hs).2.1) (fun s hs => (k2 s hs).2.2.1) (fun s hs => (k2 s hs).2.2.2) (fun j hj => (I2.2 j (fun r hr => ?_)).1) (fun j hj => (I2.2 j (fun r hr => ?_)).2.trans (I.2 j (fun r hr => hj r (by omega)))))
        · have := hj (wt_m p + r) (by omega); omega
        · have := hj (wt_m p + r) (by omega); omega
      refine wz_in (d + 1) (br_t (by rw [wz_at (d + 1) d1]; exact nI_le (Nat.le_refl _) (by omega)) (wz_in d ?_))
      have long : (th = false ∨ wt_e p = true) → wY_join_257 post (wr_b th) (nI d) (nI (d + 1)) (nI (wt_m p)) (nI (wt_F q * 2 ^ wt_m p)) (nI (wt_L q * 2 ^ wt_m p)) (a_firsts (nI d).toNatClampNeg) (nI (d + 2)) f_termLength f_demands f_boundCount f_known f_found f_least a_sizes a_empties a_firsts a_lasts s.1 s.2 a_steps a_term a_patterns a_kepts a_signs a_signCounts a_bounds a_firstWords a_sums a_met a_tried a_seen a_apart a_counts a_next := by
        intro z
        refine yc_263 hd hm d1 c2 d2 c4 ?_ h5 K'
        rw [wz_at d c3, wr_or]
        show _ = nI (_ ||| (if _ then _ else _))
        rw [if_pos z]
      refine wz_if th (fun z => long (Or.inl z)) (fun z => wz_in d (wz_if (wt_e p) (fun w => yc_263 hd hm d1 c2 d2 c4 ?_ h5 K') (fun w => long (Or.inr w)) (wz_at d c2)))
      rw [wz_at d c3, show (0 : Int32) = nI 0 from rfl, wr_or]
      show _ = nI (_ ||| (if _ then _ else _))
      rw [if_neg (fun y => by rcases y with y | y <;> simp [z, w] at y)]
    · intro n i s hi I2 ih
      have e5 : (6 : Int32) * nI d + nI (wt_m p) + nI i = nI (6 * d + wt_m p + i) := by rw [wz_6m, nI_add]
      have o := I2.2 (6 * (d + 1) + i) (fun r hr => by omega)
      have o1 : s.1 (6 * (d + 1) + i) = nI (wt_c q i) := o.1.trans (d5 i hi).1
      have o2 : s.2 (6 * (d + 1) + i) = nI (wt_f q i) := o.2.trans ((I.2 _ (fun r hr => by omega)).trans (d5 i hi).2)
      have hfq := hq.2.2.2.2.2.2.1 i
      refine wz_in (d + 1) (br_f (by rw [wz_at (d + 1) d1]; exact nI_ge hi (by omega)) (wz_in (6 * (d + 1) + i) (wz_st (6 * d + wt_m p + i) (nI (wt_c q i)) (wz_in (6 * (d + 1) + i) (wz_st (6 * d + wt_m p + i) (nI (wt_f q i * 2 ^ wt_m p)) (nm_r (nI_1 i) (ih (upd s.1 (6 * d + wt_m p + i) (nI (wt_c q i)), upd s.2 (6 * d + wt_m p + i) (nI (wt_f q i * 2 ^ wt_m p))) ⟨?_, ?_⟩)) (by omega) e5 ?_) (by omega) (wz_6m (d + 1) i)) (by omega) e5 (wz_at _ o1 (wz_6m (d + 1) i))) (by omega) (wz_6m (d + 1) i)))
      · intro j hj
        dsimp only
        by_cases e : j = i
        · subst e; exact ⟨pk_us, pk_us⟩
        · rw [pk_un (by omega), pk_un (by omega)]; exact I2.1 j (by omega)
      · intro j hj
        dsimp only
        rw [pk_un (hj i (by omega)), pk_un (hj i (by omega))]; exact I2.2 j (fun r hr => hj r (by omega))
      · rw [wz_at _ o2 (wz_6m (d + 1) i), wr_shl (by omega) (hsh _ (by omega))]
  · intro n i be hi I ih
    have e0 : be (6 * d + i) = nI (wt_f p i) := (I.2 _ (fun r hr => by omega)).trans (c5 i hi).2
    have e3 := wz_at (6 * d + i) e0 (wz_6m d i)
    have hj : wt_f (wt_join th p q) i = if th = true ∧ (wt_L p).testBit i = true then wt_f p i ||| wt_F q * 2 ^ wt_m p else wt_f p i := if_pos hi
    have nxt : ∀ v, v = nI (wt_f (wt_join th p q) i) → wY_join_75 post (wr_b th) (nI d) (nI (d + 1)) (nI (wt_m p)) (nI (wt_F q * 2 ^ wt_m p)) (nI (wt_L q * 2 ^ wt_m p)) (nI (d + 2)) f_termLength f_demands f_boundCount f_known f_found f_least n (nI (i + 1)) a_sizes a_empties a_firsts a_lasts a_letters (upd be (6 * d + i) v) a_steps a_term a_patterns a_kepts a_signs a_signCounts a_bounds a_firstWords a_sums a_met a_tried a_seen a_apart a_counts a_next := by
      intro v hv
      refine ih _ ⟨?_, ?_⟩
      · intro j hj
        by_cases e : j = i
        · subst e; rw [pk_us, hv]
        · rw [pk_un (by omega)]; exact I.1 j (by omega)
      · intro j hj
        rw [pk_un (hj i (by omega))]; exact I.2 j (fun q hq => hj q (by omega))
    have no : ¬ (th = true ∧ (wt_L p).testBit i = true) → wY_join_105 post (wY_join_75 post (wr_b th) (nI d) (nI (d + 1)) (nI (wt_m p)) (nI (wt_F q * 2 ^ wt_m p)) (nI (wt_L q * 2 ^ wt_m p)) (nI (d + 2)) f_termLength f_demands f_boundCount f_known f_found f_least n) (wr_b th) (nI d) (nI (d + 1)) (nI (wt_m p)) (nI (wt_F q * 2 ^ wt_m p)) (nI (wt_L q * 2 ^ wt_m p)) (nI i) (nI (d + 2)) f_termLength f_demands f_boundCount f_known f_found f_least a_sizes a_empties a_firsts a_lasts a_letters be a_steps a_term a_patterns a_kepts a_signs a_signCounts a_bounds a_firstWords a_sums a_met a_tried a_seen a_apart a_counts a_next := by
      intro z
      refine br_t rfl (wz_in (6 * d + i) (wz_st (6 * d + i) (nI (wt_f p i)) (nm_r (nI_1 i) (nxt _ ?_)) (by omega) (wz_6m d i) e3) (by omega) (wz_6m d i))
      rw [hj, if_neg z]
    refine br_f (nI_ge hi (by omega)) (wz_if th (fun z => no (fun y => by rw [z] at y; exact absurd y.1 Bool.false_ne_true)) (fun z => wz_in d (wz_tb ((wt_L p).testBit i) (fun w => ?_) (fun w => no (fun y => by rw [w] at y; exact absurd y.2 Bool.false_ne_true)) ?_)))
    · refine br_f (by decide) (wz_in (6 * d + i) (wz_st (6 * d + i) (nI (wt_f p i ||| wt_F q * 2 ^ wt_m p)) (nm_r (nI_1 i) (nxt _ ?_)) (by omega) (wz_6m d i) ?_) (by omega) (wz_6m d i))
      · rw [hj, if_pos ⟨z, w⟩]
      · rw [e3, wr_or]
    · rw [wz_at d c4]
      exact wr_bit1 (by omega) (by omega)
end
end
section
/-! the reference: how many words, endless -/
section
variable {f_depth f_termLength f_demands f_boundCount f_known f_found f_least : Int32} {a_sizes a_empties a_firsts a_lasts a_letters a_behinds a_steps a_term a_patterns a_kepts a_signs a_signCounts a_bounds a_firstWords a_sums a_met a_tried a_seen a_apart a_counts a_next : Nat → Int32}
theorem yd_acc {post : Int32 → Prop} {p : ws_Pat} {k t : Nat} {x : Int32} (hx : x = nI t) (hk : k < 3) (ht : t < 128) (L : wr_YL p (5 + k) a_sizes a_empties a_firsts a_lasts a_letters a_behinds) (K : post (wr_b (wt_a p t))) : wpY_accepts post (f_depth, f_termLength, f_demands, f_boundCount, f_known, f_found, f_least, a_sizes, a_empties, a_firsts, a_lasts, a_letters, a_behinds, a_steps, a_term, a_patterns, a_kepts, a_signs, a_signCounts, a_bounds, a_firstWords, a_sums, a_met, a_tried, a_seen, a_apart, a_counts, a_next) (nI k) x := by
  subst hx
  obtain ⟨c1, c2, c3, c4, c5⟩ := L
  have h1 : t &&& wt_L p ≤ t := Nat.and_le_left
  have h2 : t &&& 64 ≤ t := Nat.and_le_left
  unfold wt_a at K
  refine wz_in (5 + k) (pk_eq (t &&& wt_L p) 0 (fun z => pk_eq (t &&& 64) 0 (fun w => ?_) (fun w => wz_in (5 + k) (wz_if (wt_e p) (fun y => ?_) (fun y => ?_) (wz_at (5 + k) c2 (wz_5 k))) (by omega) (wz_5 k)) (nx_and t 64)) (fun z => ?_) (by rw [wz_at (5 + k) c4 (wz_5 k), nx_and])) (by omega) (wz_5 k)
  · rw [decide_eq_false (fun y => y z), (ya_64 t ht).mp w, Bool.false_and, Bool.or_false] at K
    exact K
  · rw [decide_eq_false (fun y => y z), y, Bool.and_false, Bool.or_false] at K
    exact K
  · have : t.testBit 6 = true := by
      cases h : t.testBit 6 with
      | true => rfl
      | false => exact absurd ((ya_64 t ht).mpr h) w
    rw [decide_eq_false (fun y => y z), y, this] at K
    exact K
  · rw [decide_eq_true z, Bool.true_or] at K
    exact K
theorem yd_cw {post : Int32 → SY → Prop} {Q : Nat → ws_Pat} {k m : Nat} (hk : k < 3) (hm : m < 2 ^ 31) (hp : wt_ok (Q k)) (L : wr_YL (Q k) (5 + k) a_sizes a_empties a_firsts a_lasts a_letters a_behinds) (T : wr_YT Q a_steps) (K : ∀ ca nx : Nat → Int32, post (nI (ws_A (wt_d (Q k)) (wt_a (Q k)) m 64)) (f_depth, f_termLength, f_demands, f_boundCount, f_known, f_found, f_least, a_sizes, a_empties, a_firsts, a_lasts, a_letters, a_behinds, a_steps, a_term, a_patterns, a_kepts, a_signs, a_signCounts, a_bounds, a_firstWords, a_sums, a_met, a_tried, a_seen, a_apart, ca, nx)) : wpY_countWords post (f_depth, f_termLength, f_demands, f_boundCount, f_known, f_found, f_least, a_sizes, a_empties, a_firsts, a_lasts, a_letters, a_behinds, a_steps, a_term, a_patterns, a_kepts, a_signs, a_signCounts, a_bounds, a_firstWords, a_sums, a_met, a_tried, a_seen, a_apart, a_counts, a_next) (nI k) (nI m) := by
  refine pk_loop (fun n i ca => wY_countWords_2 post (nI k) (nI m) f_depth f_termLength f_demands f_boundCount f_known f_found f_least n (nI i) a_sizes a_empties a_firsts a_lasts a_letters a_behinds a_steps a_term a_patterns a_kepts a_signs a_signCounts a_bounds a_firstWords a_sums a_met a_tried a_seen a_apart ca a_next) (fun i ca => ∀ s, s < i → ca s = if s = 64 then 1 else 0) 128 0 a_counts (by omega) (fun s hs => absurd hs (by omega)) ?_ ?_
  · intro n ca I
    refine br_t (nI_le (a := 128) (b := 128) (by omega) (by omega)) ?_
    refine pk_loop (fun n r (s : (Nat → Int32) × (Nat → Int32)) => wY_countWords_34 post (nI k) (nI m) n (nI r) f_depth f_termLength f_demands f_boundCount f_known f_found f_least a_sizes a_empties a_firsts a_lasts a_letters a_behinds a_steps a_term a_patterns a_kepts a_signs a_signCounts a_bounds a_firstWords a_sums a_met a_tried a_seen a_apart s.1 s.2) (fun r s => ws_sum s.1 (ws_A (wt_d (Q k)) (wt_a (Q k)) (m - r)) 128 = nI (ws_A (wt_d (Q k)) (wt_a (Q k)) m 64)) m 0 (ca, a_next) (by omega) ?_ ?_ ?_
    · dsimp only
      have e : ∀ s, s < 128 → ca s = upd (fun _ => 0) 64 ((fun _ => (0 : Int32)) 64 + 1) s := by
        intro s hs
        rw [I s hs]
        by_cases z : s = 64
        · subst z; rw [if_pos rfl, pk_us]; rfl
        · rw [if_neg z, pk_un z]
      rw [ws_sum_congr _ 128 e, ws_sum_upd _ _ _ _ 128 (by omega), ws_sum_0 _ 128 (fun _ _ => rfl), Int32.zero_add, Int32.one_mul, Nat.sub_zero]
    · intro n s I2
      refine br_t (nI_le (Nat.le_refl _) hm) ?_
      rw [Nat.sub_self] at I2
      refine pk_loop (fun n i x => wY_countWords_135 post (nI k) f_depth f_termLength f_demands f_boundCount f_known f_found f_least a_sizes a_empties a_firsts a_lasts a_letters a_behinds a_steps a_term a_patterns a_kepts a_signs a_signCounts a_bounds a_firstWords a_sums a_met a_tried a_seen a_apart s.1 s.2 n x (nI i)) (fun i x => x = ws_sum s.1 (ws_A (wt_d (Q k)) (wt_a (Q k)) 0) i) 128 0 0 (by omega) rfl ?_ ?_
      · intro n x I3
        rw [I2] at I3
        subst I3
        exact br_t (nI_le (a := 128) (b := 128) (by omega) (by omega)) (K s.1 s.2)
      · intro n i x hi I3 ih
        have hA : ws_A (wt_d (Q k)) (wt_a (Q k)) 0 i = if wt_a (Q k) i = true then 1 else 0 := rfl
        refine br_f (nI_ge (b := 128) hi (by omega)) (yd_acc rfl hk hi L (wz_if _ (fun z => nm_r (nI_1 i) (ih _ ?_)) (fun z => wz_in i (nm_e (nm_r (nI_1 i) (ih _ ?_))))))
        · rw [ws_sum_s, hA, z, I3, if_neg Bool.false_ne_true, show nI 0 = 0 from rfl, Int32.mul_zero, Int32.add_zero]
        · rw [ws_sum_s, hA, z, I3, if_pos rfl, show nI 1 = 1 from rfl, Int32.mul_one, wz_at (a := s.1) i rfl]
    · intro n r s hr I2 ih
      refine br_f (nI_ge hr hm) ?_
      refine pk_loop (fun n' i nx => wY_countWords_42 post (wY_countWords_34 post (nI k) (nI m) n) (nI k) (nI m) (nI r) f_depth f_termLength f_demands f_boundCount f_known f_found f_least n' (nI i) a_sizes a_empties a_firsts a_lasts a_letters a_behinds a_steps a_term a_patterns a_kepts a_signs a_signCounts a_bounds a_firstWords a_sums a_met a_tried a_seen a_apart s.1 nx) (fun i nx => ∀ s, s < i → nx s = 0) 128 0 s.2 (by omega) (fun s hs => absurd hs (by omega)) ?_ ?_
      · intro n' nx I3
        refine br_t (nI_le (a := 128) (b := 128) (by omega) (by omega)) ?_
        refine pk_loop (fun n' i nx => wY_countWords_67 post (wY_countWords_34 post (nI k) (nI m) n) (nI k) (nI m) (nI r) f_depth f_termLength f_demands f_boundCount f_known f_found f_least n' (nI i) a_sizes a_empties a_firsts a_lasts a_letters a_behinds a_steps a_term a_patterns a_kepts a_signs a_signCounts a_bounds a_firstWords a_sums a_met a_tried a_seen a_apart s.1 nx) (fun i nx => ws_sum nx (ws_A (wt_d (Q k)) (wt_a (Q k)) (m - (r + 1))) 128 = ws_sum (fun j => s.1 (j / 2)) (fun j => ws_A (wt_d (Q k)) (wt_a (Q k)) (m - (r + 1)) (wt_d (Q k) (j / 2) (decide (j % 2 = 1)))) i) 256 0 nx (by omega) (ws_sum_0 _ 128 I3) ?_ ?_
        · intro n' nx I4
          refine br_t (nI_le (a := 256) (b := 256) (by omega) (by omega)) ?_
          refine pk_loop (fun n' i ca => wY_copyNext_2 _ f_depth f_termLength f_demands f_boundCount f_known f_found f_least n' (nI i) a_sizes a_empties a_firsts a_lasts a_letters a_behinds a_steps a_term a_patterns a_kepts a_signs a_signCounts a_bounds a_firstWords a_sums a_met a_tried a_seen a_apart ca nx) (fun i ca => ∀ s, s < i → ca s = nx s) 128 0 s.1 (by omega) (fun s hs => absurd hs (by omega)) ?_ ?_
          · intro n' ca I5
            refine br_t (nI_le (a := 128) (b := 128) (by omega) (by omega)) (nm_r (nI_1 r) (ih (ca, nx) ?_))
            dsimp only
            have e := ws_sum_half s.1 (fun a c => ws_A (wt_d (Q k)) (wt_a (Q k)) (m - (r + 1)) (wt_d (Q k) a (decide (c = 1)))) 128
            rw [ws_sum_congr _ 128 I5, I4]
            refine Eq.trans e ?_
            rw [← I2, show m - r = m - (r + 1) + 1 from by omega]
            rfl
          · intro n' i ca hi I5 ih5
            refine br_f (nI_ge (b := 128) hi (by omega)) (wz_in i (wz_st i (nx i) (nm_r (nI_1 i) (ih5 _ ?_)) (by omega) rfl (wz_at i rfl)))
            intro s hs
            by_cases z : s = i
            · subst z; exact pk_us
            · rw [pk_un z]; exact I5 s (by omega)
        · intro n' i nx hi I4 ih4
          have b0 := wt_d_lt hp (i / 2) (decide (i % 2 = 1))
          refine br_f (nI_ge (b := 256) hi (by omega)) (wz_ld (256 * k + i) (nI (wt_d (Q k) (i / 2) (decide (i % 2 = 1)))) (wz_in (wt_d (Q k) (i / 2) (decide (i % 2 = 1))) ⟨by decide, wz_in (i / 2) (wz_st (wt_d (Q k) (i / 2) (decide (i % 2 = 1))) (nx (wt_d (Q k) (i / 2) (decide (i % 2 = 1))) + s.1 (i / 2)) (nm_r (nI_1 i) (ih4 _ ?_)) (by omega) rfl ?_) (by omega) (wz_d2 (by omega))⟩ (by omega)) (by omega) (wz_256 k i) (T k hk i hi))
          · rw [ws_sum_upd _ _ _ _ 128 (by omega), I4, ws_sum_s]
          · rw [nI_clamp (by omega), wz_d2 (by omega), nI_clamp (by omega)]
      · intro n' i nx hi I3 ih3
        refine br_f (nI_ge (b := 128) hi (by omega)) (wz_st i 0 (nm_r (nI_1 i) (ih3 _ ?_)))
        intro s hs
        by_cases z : s = i
        · subst z; exact pk_us
        · rw [pk_un z]; exact I3 s (by omega)
  · intro n i ca hi I ih
    have nx : ∀ v, v = (if i = 64 then (1 : Int32) else 0) → ∀ s, s < i + 1 → upd ca i v s = if s = 64 then 1 else 0 := by
      intro v hv s hs
      by_cases e : s = i
      · subst e; rw [pk_us, hv]
      · rw [pk_un e]; exact I s (by omega)
    refine br_f (nI_ge (b := 128) hi (by omega)) (pk_eq i 64 (fun z => wz_st i 1 (nm_r (nI_1 i) (ih _ (nx 1 ?_)))) (fun z => wz_st i 0 (nm_r (nI_1 i) (ih _ (nx 0 ?_)))))
    · rw [if_pos z]
    · rw [if_neg z]
theorem yd_end {post : Int32 → SY → Prop} {Q : Nat → ws_Pat} {k : Nat} (hk : k < 3) (hp : wt_ok (Q k)) (L : wr_YL (Q k) (5 + k) a_sizes a_empties a_firsts a_lasts a_letters a_behinds) (T : wr_YT Q a_steps) (K : ∀ (b : Bool) (ca nx : Nat → Int32), (b = true ↔ ∃ n, wt_m (Q k) + 1 ≤ n ∧ n < 2 * wt_m (Q k) + 3 ∧ 0 < ws_A (wt_d (Q k)) (wt_a (Q k)) n 64) → post (wr_b b) (f_depth, f_termLength, f_demands, f_boundCount, f_known, f_found, f_least, a_sizes, a_empties, a_firsts, a_lasts, a_letters, a_behinds, a_steps, a_term, a_patterns, a_kepts, a_signs, a_signCounts, a_bounds, a_firstWords, a_sums, a_met, a_tried, a_seen, a_apart, ca, nx)) : wpY_endless post (f_depth, f_termLength, f_demands, f_boundCount, f_known, f_found, f_least, a_sizes, a_empties, a_firsts, a_lasts, a_letters, a_behinds, a_steps, a_term, a_patterns, a_kepts, a_signs, a_signCounts, a_bounds, a_firstWords, a_sums, a_met, a_tried, a_seen, a_apart, a_counts, a_next) (nI k) := by
  have hm := hp.1
  have e3 : (2 : Int32) * nI (wt_m (Q k)) + 3 = nI (2 * wt_m (Q k) + 3) := wz_am 2 (wt_m (Q k)) 3
  unfold wpY_endless
  refine br_f (nI_pos (by omega)) (br_f (nI_nlt (a := 2) (b := k) (by omega) (by omega)) (br_f (by decide) (wz_ld (5 + k) (nI (wt_m (Q k))) (nm_r (nI_1 _) ?_) (by omega) (wz_5 k) L.1)))
  refine pk_loop (fun n i (s : (Nat → Int32) × (Nat → Int32)) => wY_endless_23 post (nI k) (nI (wt_m (Q k))) n (nI i) f_depth f_termLength f_demands f_boundCount f_known f_found f_least a_sizes a_empties a_firsts a_lasts a_letters a_behinds a_steps a_term a_patterns a_kepts a_signs a_signCounts a_bounds a_firstWords a_sums a_met a_tried a_seen a_apart s.1 s.2) (fun i _ => wt_m (Q k) + 1 ≤ i ∧ ∀ n, wt_m (Q k) + 1 ≤ n → n < i → ws_A (wt_d (Q k)) (wt_a (Q k)) n 64 = 0) (2 * wt_m (Q k) + 3) (wt_m (Q k) + 1) (a_counts, a_next) (by omega) ⟨by omega, fun n h1 h2 => absurd h1 (by omega)⟩ ?_ ?_
  · intro n s I
    refine br_t (by rw [e3]; exact nI_le (Nat.le_refl _) (by omega)) (K false s.1 s.2 ⟨fun z => absurd z Bool.false_ne_true, ?_⟩)
    rintro ⟨n, h1, h2, h3⟩
    have := I.2 n h1 h2
    omega
  · intro n i s hi I ih
    have hA := ws_A_le (wt_d (Q k)) (wt_a (Q k)) i 64
    have hA2 : 2 ^ i ≤ 2 ^ 15 := Nat.pow_le_pow_right (by decide) (by omega)
    refine br_f (by rw [e3]; exact nI_ge hi (by omega)) (yd_cw hk (by omega) hp L T (fun ca nx => pk_le (ws_A (wt_d (Q k)) (wt_a (Q k)) i 64) 0 (fun z => nm_r (nI_1 i) (ih (ca, nx) ⟨by omega, ?_⟩)) (fun z => K true ca nx ⟨fun _ => ⟨i, I.1, hi, z⟩, fun _ => rfl⟩)))
    intro n h1 h2
    by_cases e : n = i
    · subst e; omega
    · exact I.2 n h1 (by omega)
end
end
section
/-! the reference: are two patterns the same -/
def ye_r (N : Nat) (ra : Nat → Int32) (R : Nat → Bool) : Prop := ∀ s, s < N → ra s = wr_b (R s)
def ye_set (R : Nat → Bool) (t : Nat) (b : Bool) : Nat → Bool := fun s => if s = t then b else R s
theorem ye_set_s (R : Nat → Bool) (t : Nat) (b : Bool) : ye_set R t b t = b := if_pos rfl
theorem ye_set_n (R : Nat → Bool) {t s : Nat} (b : Bool) (h : s ≠ t) : ye_set R t b s = R s := if_neg h
theorem ye_r_set {N : Nat} {ra : Nat → Int32} {R : Nat → Bool} (h : ye_r N ra R) (t : Nat) (b : Bool) : ye_r N (upd ra t (wr_b b)) (ye_set R t b) := by
  intro s hs
  by_cases z : s = t
  · subst z; rw [pk_us, ye_set_s]
  · rw [pk_un z, ye_set_n R b z]; exact h s hs
theorem ye_set_same {R : Nat → Bool} {t : Nat} {b : Bool} (h : R t = b) (s : Nat) : ye_set R t b s = R s := by
  by_cases z : s = t
  · subst z; rw [ye_set_s, h]
  · exact ye_set_n R b z
theorem ye_set_m {R : Nat → Bool} {t : Nat} {b : Bool} (hb : R t = true → b = true) {s : Nat} (h : R s = true) : ye_set R t b s = true := by
  by_cases z : s = t
  · subst z; rw [ye_set_s]; exact hb h
  · rw [ye_set_n R b z]; exact h
section
variable {f_depth f_termLength f_demands f_boundCount f_known f_found f_least : Int32} {a_sizes a_empties a_firsts a_lasts a_letters a_behinds a_steps a_term a_patterns a_kepts a_signs a_signCounts a_bounds a_firstWords a_sums a_met a_tried a_seen a_apart a_counts a_next : Nat → Int32}
theorem ye_139 {post : Int32 → SY → Prop} {J : _} {J' : Int32 → Int32 → (Nat → Int32) → (Nat → Int32) → (Nat → Int32) → (Nat → Int32) → (Nat → Int32) → (Nat → Int32) → (Nat → Int32) → (Nat → Int32) → (Nat → Int32) → (Nat → Int32) → (Nat → Int32) → (Nat → Int32) → (Nat → Int32) → (Nat → Int32) → (Nat → Int32) → (Nat → Int32) → (Nat → Int32) → (Nat → Int32) → (Nat → Int32) → (Nat → Int32) → (Nat → Int32) → Prop} {x1 x2 : Int32} {b fr : Bool} {i q one two : Nat} {R : Nat → Bool} (hR : ye_r 16384 a_apart R) (h1 : one < 128) (h2 : two < 128) (hq : q = 128 * one + two) (K : J' (wr_b (b || fr)) (nI (i + 1)) a_sizes a_empties a_firsts a_lasts a_letters a_behinds a_steps a_term a_patterns a_kepts a_signs a_signCounts a_bounds a_firstWords a_sums a_met a_tried a_seen (upd a_apart q (wr_b (R q || fr))) a_counts a_next) : wY_isSame_139 post J J' x1 x2 (wr_b b) (nI i) (nI one) (nI two) (wr_b fr) f_depth f_termLength f_demands f_boundCount f_known f_found f_least a_sizes a_empties a_firsts a_lasts a_letters a_behinds a_steps a_term a_patterns a_kepts a_signs a_signCounts a_bounds a_firstWords a_sums a_met a_tried a_seen a_apart a_counts a_next := by
  have hq2 : q < 16384 := by omega
  have e1 : (128 : Int32) * nI one + nI two = nI q := by rw [hq]; exact wz_128 one two
  have fin : ∀ v : Bool, v = (R q || fr) → wY_isSame_181 post J J' x1 x2 (wr_b b) (nI i) (wr_b fr) (wr_b v) (128 * nI one + nI two) f_depth f_termLength f_demands f_boundCount f_known f_found f_least a_sizes a_empties a_firsts a_lasts a_letters a_behinds a_steps a_term a_patterns a_kepts a_signs a_signCounts a_bounds a_firstWords a_sums a_met a_tried a_seen a_apart a_counts a_next := by
    intro v hv
    refine wz_st q (wr_b (R q || fr)) (wz_if b (fun z => wz_if fr (fun w => nm_r (nI_1 i) ?_) (fun w => nm_r (nI_1 i) ?_)) (fun z => nm_r (nI_1 i) ?_)) hq2 e1 (by rw [wr_b_v, hv])
    · rw [z, w] at K; rw [w]; exact K
    · rw [z, w] at K; rw [w]; exact K
    · rw [z] at K; exact K
  refine wz_in q (wz_if (R q) (fun z => wz_if fr (fun w => fin false ?_) (fun w => fin true ?_)) (fun z => fin true ?_) (wz_at q (hR q hq2) e1)) hq2 e1
  · rw [z, w]; rfl
  · rw [z, w]; rfl
  · rw [z]; rfl
variable {Q : Nat → ws_Pat} {k j : Nat}
theorem ye_pr_lt (hk : wt_ok (Q k)) (hj : wt_ok (Q j)) (n : Nat) (b : Bool) : ws_pr (wt_d (Q k)) (wt_d (Q j)) n b < 16384 := by
  have h1 := wt_d_lt hk (n / 128) b
  have h2 := wt_d_lt hj (n % 128) b
  unfold ws_pr
  omega
/-- what one sweep over the pairs does -/
theorem ye_sw {post : Int32 → SY → Prop} {J : Int32 → (Nat → Int32) → (Nat → Int32) → (Nat → Int32) → (Nat → Int32) → (Nat → Int32) → (Nat → Int32) → (Nat → Int32) → (Nat → Int32) → (Nat → Int32) → (Nat → Int32) → (Nat → Int32) → (Nat → Int32) → (Nat → Int32) → (Nat → Int32) → (Nat → Int32) → (Nat → Int32) → (Nat → Int32) → (Nat → Int32) → (Nat → Int32) → (Nat → Int32) → (Nat → Int32) → Prop} (hk : k < 3) (hj : j < 3) (ok : wt_ok (Q k)) (oj : wt_ok (Q j)) (T : wr_YT Q a_steps) {R0 : Nat → Bool} (h0 : ye_r 16384 a_apart R0) (hr : ∀ s, s < 16384 → R0 s = true → ws_rch (ws_pr (wt_d (Q k)) (wt_d (Q j))) 8256 s)
    (K : ∀ (b : Bool) (ap : Nat → Int32) (R : Nat → Bool), ye_r 16384 ap R → (∀ s, s < 16384 → R0 s = true → R s = true) → (∀ s, s < 16384 → R s = true → ws_rch (ws_pr (wt_d (Q k)) (wt_d (Q j))) 8256 s) → (b = false → ∀ s c, s < 16384 → R s = true → R (ws_pr (wt_d (Q k)) (wt_d (Q j)) s c) = true) → (b = true → ws_cnt R0 16384 < ws_cnt R 16384) → J (wr_b b) a_sizes a_empties a_firsts a_lasts a_letters a_behinds a_steps a_term a_patterns a_kepts a_signs a_signCounts a_bounds a_firstWords a_sums a_met a_tried a_seen ap a_counts a_next) : ∃ n, wY_isSame_44 post J (nI k) (nI j) f_depth f_termLength f_demands f_boundCount f_known f_found f_least n 0 0 a_sizes a_empties a_firsts a_lasts a_letters a_behinds a_steps a_term a_patterns a_kepts a_signs a_signCounts a_bounds a_firstWords a_sums a_met a_tried a_seen a_apart a_counts a_next := by
  refine pk_loop (fun n i (s : Int32 × (Nat → Int32)) => wY_isSame_44 post J (nI k) (nI j) f_depth f_termLength f_demands f_boundCount f_known f_found f_least n s.1 (nI i) a_sizes a_empties a_firsts a_lasts a_letters a_behinds a_steps a_term a_patterns a_kepts a_signs a_signCounts a_bounds a_firstWords a_sums a_met a_tried a_seen s.2 a_counts a_next) (fun i s => ∃ (b : Bool) (R : Nat → Bool), s.1 = wr_b b ∧ ye_r 16384 s.2 R ∧ (∀ s, s < 16384 → R0 s = true → R s = true) ∧ (∀ s, s < 16384 → R s = true → ws_rch (ws_pr (wt_d (Q k)) (wt_d (Q j))) 8256 s) ∧ (b = false → (∀ t, t < 16384 → R t = R0 t) ∧ ∀ n, n < i → R (n / 2) = true → R (ws_pr (wt_d (Q k)) (wt_d (Q j)) (n / 2) (decide (n % 2 = 1))) = true) ∧ (b = true → ∃ t, t < 16384 ∧ R t = true ∧ R0 t = false)) 32768 0 (0, a_apart) (by omega) ⟨false, R0, rfl, h0, fun _ _ h => h, hr, fun _ => ⟨fun _ _ => rfl, fun n hn => absurd hn (by omega)⟩, fun z => absurd z Bool.false_ne_true⟩ ?_ ?_
  · intro n s I
    obtain ⟨b, R, h1, h2, h3, h4, h5, h6⟩ := I
    refine br_t (nI_le (a := 32768) (b := 32768) (by omega) (by omega)) ?_
    rw [h1]
    refine K b s.2 R h2 h3 h4 (fun z t c ht hR => ?_) (fun z => ws_cnt_lt R0 R 16384 h3 (h6 z))
    have h7 := (h5 z).2 (2 * t + c.toNat) (by cases c <;> simp <;> omega)
    have e1 : (2 * t + c.toNat) / 2 = t := by cases c <;> simp <;> omega
    have e2 : decide ((2 * t + c.toNat) % 2 = 1) = c := by cases c <;> simp <;> omega
    rw [e1, e2] at h7
    exact h7 hR
  · intro n i s hi I ih
    obtain ⟨b, R, h1, h2, h3, h4, h5, h6⟩ := I
    have t1 := T k hk (i / 256 * 2 + i % 2) (by omega)
    have t2 := T j hj (i / 2 % 128 * 2 + i % 2) (by omega)
    rw [show (i / 256 * 2 + i % 2) / 2 = i / 2 / 128 from by omega, show (i / 256 * 2 + i % 2) % 2 = i % 2 from by omega] at t1
    rw [show (i / 2 % 128 * 2 + i % 2) / 2 = i / 2 % 128 from by omega, show (i / 2 % 128 * 2 + i % 2) % 2 = i % 2 from by omega] at t2
    have b1 := wt_d_lt ok (i / 2 / 128) (decide (i % 2 = 1))
    have b2 := wt_d_lt oj (i / 2 % 128) (decide (i % 2 = 1))
    have hq : ws_pr (wt_d (Q k)) (wt_d (Q j)) (i / 2) (decide (i % 2 = 1)) = 128 * wt_d (Q k) (i / 2 / 128) (decide (i % 2 = 1)) + wt_d (Q j) (i / 2 % 128) (decide (i % 2 = 1)) := rfl
    have hql := ye_pr_lt (Q := Q) ok oj (i / 2) (decide (i % 2 = 1))
    have x1 : (256 : Int32) * nI k + nI i / 256 * 2 + (nI i - nI i / 2 * 2) = nI (256 * k + (i / 256 * 2 + i % 2)) := by
      rw [wz_r2 (by omega), wz_d256 (by omega), wz_m2, wz_256, nI_add, Nat.add_assoc]
    have x2 : (256 : Int32) * nI j + (nI i / 2 - nI i / 2 / 128 * 128) * 2 + (nI i - nI i / 2 * 2) = nI (256 * j + (i / 2 % 128 * 2 + i % 2)) := by
      rw [wz_r2 (by omega), wz_d2 (by omega), wz_r128 (by omega), wz_m2, wz_256, nI_add, Nat.add_assoc]
    have x3 : (128 : Int32) * nI (wt_d (Q k) (i / 2 / 128) (decide (i % 2 = 1))) + nI (wt_d (Q j) (i / 2 % 128) (decide (i % 2 = 1))) = nI (ws_pr (wt_d (Q k)) (wt_d (Q j)) (i / 2) (decide (i % 2 = 1))) := by rw [hq]; exact wz_128 _ _
    have nxt : ∀ fr : Bool, fr = (R (i / 2) && !(R (ws_pr (wt_d (Q k)) (wt_d (Q j)) (i / 2) (decide (i % 2 = 1))))) → wY_isSame_139 post J (wY_isSame_44 post J (nI k) (nI j) f_depth f_termLength f_demands f_boundCount f_known f_found f_least n) (nI k) (nI j) (wr_b b) (nI i) (nI (wt_d (Q k) (i / 2 / 128) (decide (i % 2 = 1)))) (nI (wt_d (Q j) (i / 2 % 128) (decide (i % 2 = 1)))) (wr_b fr) f_depth f_termLength f_demands f_boundCount f_known f_found f_least a_sizes a_empties a_firsts a_lasts a_letters a_behinds a_steps a_term a_patterns a_kepts a_signs a_signCounts a_bounds a_firstWords a_sums a_met a_tried a_seen s.2 a_counts a_next := by
      intro fr hfr
      refine ye_139 h2 (by omega) (by omega) hq (ih (wr_b (b || fr), upd s.2 (ws_pr (wt_d (Q k)) (wt_d (Q j)) (i / 2) (decide (i % 2 = 1))) (wr_b (R (ws_pr (wt_d (Q k)) (wt_d (Q j)) (i / 2) (decide (i % 2 = 1))) || fr))) ⟨b || fr, _, rfl, ye_r_set h2 _ _, ?_, ?_, ?_, ?_⟩)
      · intro t ht h
        exact ye_set_m (fun y => by rw [y, Bool.true_or]) (h3 t ht h)
      · intro t ht h
        by_cases e : t = ws_pr (wt_d (Q k)) (wt_d (Q j)) (i / 2) (decide (i % 2 = 1))
        · subst e
          rw [ye_set_s, Bool.or_eq_true] at h
          rcases h with h | h
          · exact h4 _ ht h
          · rw [h] at hfr
            have hp : R (i / 2) = true := by
              cases hh : R (i / 2) with
              | true => rfl
              | false => rw [hh, Bool.false_and] at hfr; exact absurd hfr.symm Bool.false_ne_true
            exact ws_rch_s (h4 _ (by omega) hp) _
        · rw [ye_set_n _ _ e] at h; exact h4 t ht h
      · intro y
        rw [Bool.or_eq_false_iff] at y
        obtain ⟨y1, y2⟩ := y
        have same := ye_set_same (R := R) (t := ws_pr (wt_d (Q k)) (wt_d (Q j)) (i / 2) (decide (i % 2 = 1))) (b := (R (ws_pr (wt_d (Q k)) (wt_d (Q j)) (i / 2) (decide (i % 2 = 1))) || fr)) (by rw [y2, Bool.or_false])
        refine ⟨fun t ht => (same t).trans ((h5 y1).1 t ht), fun m hm hR => ?_⟩
        rw [same] at hR ⊢
        by_cases e : m = i
        · subst e
          rw [y2, hR, Bool.true_and] at hfr
          cases hh : R (ws_pr (wt_d (Q k)) (wt_d (Q j)) (m / 2) (decide (m % 2 = 1))) with
          | true => rfl
          | false => rw [hh] at hfr; exact absurd hfr Bool.false_ne_true
        · exact (h5 y1).2 m (by omega) hR
      · intro y
        cases hb : b with
        | true =>
          obtain ⟨t, u1, u2, u3⟩ := h6 hb
          exact ⟨t, u1, ye_set_m (fun y => by rw [y, Bool.true_or]) u2, u3⟩
        | false =>
          rw [hb, Bool.false_or] at y
          refine ⟨_, hql, ?_, ?_⟩
          · rw [ye_set_s, y, Bool.or_true]
          · rw [← (h5 hb).1 _ hql]
            rw [y] at hfr
            cases hh : R (ws_pr (wt_d (Q k)) (wt_d (Q j)) (i / 2) (decide (i % 2 = 1))) with
            | false => rfl
            | true => rw [hh, Bool.not_true, Bool.and_false] at hfr; exact absurd hfr.symm Bool.false_ne_true
    refine br_f (nI_ge (b := 32768) hi (by omega)) ⟨by decide, by decide, wz_ld (256 * k + (i / 256 * 2 + i % 2)) _ ⟨by decide, by decide, by decide, wz_ld (256 * j + (i / 2 % 128 * 2 + i % 2)) _ ⟨by decide, wz_in (i / 2) ?_ (by omega) (wz_d2 (by omega))⟩ (by omega) x2 t2⟩ (by omega) x1 t1⟩
    rw [h1]
    refine wz_if (R (i / 2)) (fun z => nxt false (by rw [z]; rfl)) (fun z => wz_in _ (wz_if (R (ws_pr (wt_d (Q k)) (wt_d (Q j)) (i / 2) (decide (i % 2 = 1)))) (fun w => nxt true (by rw [z, w]; rfl)) (fun w => nxt false (by rw [z, w]; rfl)) (wz_at _ (h2 _ hql) x3)) hql x3) (wz_at _ (h2 _ (by omega)) (wz_d2 (by omega)))
theorem ye_same {post : Int32 → SY → Prop} (hk : k < 3) (hj : j < 3) (ok : wt_ok (Q k)) (oj : wt_ok (Q j)) (L : wr_YL (Q k) (5 + k) a_sizes a_empties a_firsts a_lasts a_letters a_behinds) (L' : wr_YL (Q j) (5 + j) a_sizes a_empties a_firsts a_lasts a_letters a_behinds) (T : wr_YT Q a_steps) (K : ∀ (b : Bool) (ap : Nat → Int32), (b = true ↔ ∀ w, wt_a (Q k) (ws_run (wt_d (Q k)) w 64) = wt_a (Q j) (ws_run (wt_d (Q j)) w 64)) → post (wr_b b) (f_depth, f_termLength, f_demands, f_boundCount, f_known, f_found, f_least, a_sizes, a_empties, a_firsts, a_lasts, a_letters, a_behinds, a_steps, a_term, a_patterns, a_kepts, a_signs, a_signCounts, a_bounds, a_firstWords, a_sums, a_met, a_tried, a_seen, ap, a_counts, a_next)) : wpY_isSame post (f_depth, f_termLength, f_demands, f_boundCount, f_known, f_found, f_least, a_sizes, a_empties, a_firsts, a_lasts, a_letters, a_behinds, a_steps, a_term, a_patterns, a_kepts, a_signs, a_signCounts, a_bounds, a_firstWords, a_sums, a_met, a_tried, a_seen, a_apart, a_counts, a_next) (nI k) (nI j) := by
  have hd : ∀ s b, s < 16384 → ws_pr (wt_d (Q k)) (wt_d (Q j)) s b < 16384 := fun s b _ => ye_pr_lt (Q := Q) ok oj s b
  have hjl : ∀ s b, s < 128 → wt_d (Q j) s b < 128 := fun s b _ => by have := wt_d_lt oj s b; omega
  have fin : ∀ (ap : Nat → Int32) (R : Nat → Bool), ye_r 16384 ap R → R 8256 = true → (∀ s, s < 16384 → R s = true → ws_rch (ws_pr (wt_d (Q k)) (wt_d (Q j))) 8256 s) → (∀ s c, s < 16384 → R s = true → R (ws_pr (wt_d (Q k)) (wt_d (Q j)) s c) = true) → ∃ n, wY_isSame_209 post (nI k) (nI j) f_depth f_termLength f_demands f_boundCount f_known f_found f_least a_sizes a_empties a_firsts a_lasts a_letters a_behinds a_steps a_term a_patterns a_kepts a_signs a_signCounts a_bounds a_firstWords a_sums a_met a_tried a_seen ap a_counts a_next n 0 := by
    intro ap R h1 h2 h3 h4
    refine pk_loop (fun n i (_ : Unit) => wY_isSame_209 post (nI k) (nI j) f_depth f_termLength f_demands f_boundCount f_known f_found f_least a_sizes a_empties a_firsts a_lasts a_letters a_behinds a_steps a_term a_patterns a_kepts a_signs a_signCounts a_bounds a_firstWords a_sums a_met a_tried a_seen ap a_counts a_next n (nI i)) (fun i _ => ∀ s, s < i → R s = true → wt_a (Q k) (s / 128) = wt_a (Q j) (s % 128)) 16384 0 () (by omega) (fun s hs => absurd hs (by omega)) ?_ ?_
    · intro n _ I
      refine br_t (nI_le (a := 16384) (b := 16384) (by omega) (by omega)) (K true ap ⟨fun _ w => ?_, fun _ => rfl⟩)
      have q1 := ws_clo hd h4 w 8256 (by omega) h2
      have q2 := ws_pr_run (wt_d (Q k)) (wt_d (Q j)) hjl w 64 64 (by omega)
      have q3 := ws_run_lt hjl w 64 (by omega)
      have q4 := wt_run_lt ok w 64 (by omega)
      rw [show 128 * 64 + 64 = 8256 from rfl] at q2
      rw [q2] at q1
      have q5 := I _ (by omega) q1
      rw [show (128 * ws_run (wt_d (Q k)) w 64 + ws_run (wt_d (Q j)) w 64) / 128 = ws_run (wt_d (Q k)) w 64 from by omega, show (128 * ws_run (wt_d (Q k)) w 64 + ws_run (wt_d (Q j)) w 64) % 128 = ws_run (wt_d (Q j)) w 64 from by omega] at q5
      exact q5
    · intro n i _ hi I ih
      refine br_f (nI_ge (b := 16384) hi (by omega)) (wz_in i (wz_if (R i) (fun z => nm_r (nI_1 i) (ih () ?_)) (fun z => ⟨by decide, ?_⟩) (wz_at i (h1 i hi))))
      · intro s hs hR
        by_cases e : s = i
        · subst e; rw [z] at hR; exact absurd hR Bool.false_ne_true
        · exact I s (by omega) hR
      · refine yd_acc (wz_d128 (by omega)) hk (by omega) L ⟨by decide, yd_acc (wz_r128 (by omega)) hj (by omega) L' (wz_c (wr_b_e _ _) (fun w => nm_r (nI_1 i) (ih () ?_)) (fun w => K false ap ⟨fun y => absurd y Bool.false_ne_true, fun y => ?_⟩))⟩
        · intro s hs hR
          by_cases e : s = i
          · subst e; exact w
          · exact I s (by omega) hR
        · exfalso
          obtain ⟨v, hv⟩ := h3 i hi z
          have q2 := ws_pr_run (wt_d (Q k)) (wt_d (Q j)) hjl v 64 64 (by omega)
          have q3 := ws_run_lt hjl v 64 (by omega)
          rw [show 128 * 64 + 64 = 8256 from rfl, hv] at q2
          apply w
          rw [show i / 128 = ws_run (wt_d (Q k)) v 64 from by omega, show i % 128 = ws_run (wt_d (Q j)) v 64 from by omega]
          exact y v
  refine pk_loop (fun n i ap => wY_isSame_2 post (nI k) (nI j) f_depth f_termLength f_demands f_boundCount f_known f_found f_least n (nI i) a_sizes a_empties a_firsts a_lasts a_letters a_behinds a_steps a_term a_patterns a_kepts a_signs a_signCounts a_bounds a_firstWords a_sums a_met a_tried a_seen ap a_counts a_next) (fun i ap => ∀ s, s < i → ap s = wr_b (decide (s = 8256))) 16384 0 a_apart (by omega) (fun s hs => absurd hs (by omega)) ?_ ?_
  · intro n ap I
    refine br_t (nI_le (a := 16384) (b := 16384) (by omega) (by omega)) ?_
    refine loop_m (σ := Bool × (Nat → Bool) × (Nat → Int32)) (fun n s => wY_isSame_35 post (nI k) (nI j) f_depth f_termLength f_demands f_boundCount f_known f_found f_least n (wr_b s.1) a_sizes a_empties a_firsts a_lasts a_letters a_behinds a_steps a_term a_patterns a_kepts a_signs a_signCounts a_bounds a_firstWords a_sums a_met a_tried a_seen s.2.2 a_counts a_next) (fun s => ye_r 16384 s.2.2 s.2.1 ∧ s.2.1 8256 = true ∧ (∀ t, t < 16384 → s.2.1 t = true → ws_rch (ws_pr (wt_d (Q k)) (wt_d (Q j))) 8256 t) ∧ (s.1 = false → ∀ t c, t < 16384 → s.2.1 t = true → s.2.1 (ws_pr (wt_d (Q k)) (wt_d (Q j)) t c) = true)) (fun s => 2 * (16384 - ws_cnt s.2.1 16384) + (if s.1 = true then 1 else 0)) ?_ (true, (fun s => decide (s = 8256)), ap) ⟨I, rfl, ?_, fun z => absurd z.symm Bool.false_ne_true⟩
    · rintro n ⟨b, R, ap⟩ ⟨h1, h2, h3, h4⟩ ih
      dsimp only at h1 h2 h3 h4 ih ⊢
      refine wz_if b (fun z => fin ap R h1 h2 h3 (h4 z)) (fun z => ye_sw hk hj ok oj T h1 h3 (fun b' ap' R' k1 k2 k3 k4 k5 => ih (b', R', ap') ⟨k1, k2 _ (by omega) h2, k3, k4⟩ ?_))
      dsimp only
      have m1 := ws_cnt_mono R R' 16384 k2
      have m2 := ws_cnt_le R' 16384
      rw [z, if_pos rfl]
      cases hb : b' with
      | true => have := k5 hb; rw [if_pos rfl]; omega
      | false => rw [if_neg Bool.false_ne_true]; omega
    · intro t ht h
      rw [show t = 8256 from of_decide_eq_true h]
      exact ws_rch_0 _ _
  · intro n i ap hi I ih
    have nx : ∀ v, v = wr_b (decide (i = 8256)) → ∀ s, s < i + 1 → upd ap i v s = wr_b (decide (s = 8256)) := by
      intro v hv s hs
      by_cases e : s = i
      · subst e; rw [pk_us, hv]
      · rw [pk_un e]; exact I s (by omega)
    refine br_f (nI_ge (b := 16384) hi (by omega)) (pk_eq i 8256 (fun z => wz_st i 1 (nm_r (nI_1 i) (ih _ (nx 1 ?_)))) (fun z => wz_st i 0 (nm_r (nI_1 i) (ih _ (nx 0 ?_)))))
    · rw [decide_eq_true z]; rfl
    · rw [decide_eq_false z]; rfl
end
end
section
/-! the reference: how many rests -/
section
variable {f_depth f_termLength f_demands f_boundCount f_known f_found f_least : Int32} {a_sizes a_empties a_firsts a_lasts a_letters a_behinds a_steps a_term a_patterns a_kepts a_signs a_signCounts a_bounds a_firstWords a_sums a_met a_tried a_seen a_apart a_counts a_next : Nat → Int32}
variable {Q : Nat → ws_Pat} {k : Nat}
/-- one pair, both letters -/
theorem yf_la {post : Int32 → SY → Prop} {i : Nat} (hk : k < 3) (ok : wt_ok (Q k)) (T : wr_YT Q a_steps) (hi : i < 16384) {R : Nat → Bool} (hR : ye_r 16384 a_apart R) (K : ∀ (r : Bool) (ap : Nat → Int32), ye_r 16384 ap (ye_set R i r) → (r = true → R i = true ∨ ∃ c, R (ws_pr (wt_d (Q k)) (wt_d (Q k)) i c) = true) → (r = false → R i = false ∧ ∀ c, R (ws_pr (wt_d (Q k)) (wt_d (Q k)) i c) = false) → post (wr_b r) (f_depth, f_termLength, f_demands, f_boundCount, f_known, f_found, f_least, a_sizes, a_empties, a_firsts, a_lasts, a_letters, a_behinds, a_steps, a_term, a_patterns, a_kepts, a_signs, a_signCounts, a_bounds, a_firstWords, a_sums, a_met, a_tried, a_seen, ap, a_counts, a_next)) : wpY_leadApart post (f_depth, f_termLength, f_demands, f_boundCount, f_known, f_found, f_least, a_sizes, a_empties, a_firsts, a_lasts, a_letters, a_behinds, a_steps, a_term, a_patterns, a_kepts, a_signs, a_signCounts, a_bounds, a_firstWords, a_sums, a_met, a_tried, a_seen, a_apart, a_counts, a_next) (nI k) (nI k) (nI i) := by
  refine pk_loop (fun n c ap => wY_leadApart_3 post (nI k) (nI k) (nI i) f_depth f_termLength f_demands f_boundCount f_known f_found f_least n (nI c) a_sizes a_empties a_firsts a_lasts a_letters a_behinds a_steps a_term a_patterns a_kepts a_signs a_signCounts a_bounds a_firstWords a_sums a_met a_tried a_seen ap a_counts a_next) (fun c ap => ∃ r : Bool, ye_r 16384 ap (ye_set R i r) ∧ (r = true → R i = true ∨ ∃ c, R (ws_pr (wt_d (Q k)) (wt_d (Q k)) i c) = true) ∧ (r = false → R i = false ∧ ∀ b : Bool, b.toNat < c → R (ws_pr (wt_d (Q k)) (wt_d (Q k)) i b) = false)) 2 0 a_apart (by omega) ⟨R i, ?_, fun z => Or.inl z, fun z => ⟨z, fun b hb => absurd hb (by omega)⟩⟩ ?_ ?_
  · intro s hs
    rw [ye_set_same rfl]
    exact hR s hs
  · intro n ap I
    obtain ⟨r, h1, h2, h3⟩ := I
    have e := h1 i hi
    rw [ye_set_s] at e
    have e2 := wz_at i e
    refine br_t (nI_le (a := 2) (b := 2) (by omega) (by omega)) (wz_in i ?_)
    rw [e2]
    exact ⟨wr_b_n r, K r ap h1 h2 (fun z => ⟨(h3 z).1, fun c => (h3 z).2 c (by cases c <;> decide)⟩)⟩
  · intro n c ap hc I ih
    obtain ⟨r, h1, h2, h3⟩ := I
    have t1 := T k hk (i / 128 * 2 + c) (by omega)
    have t2 := T k hk (i % 128 * 2 + c) (by omega)
    rw [show (i / 128 * 2 + c) / 2 = i / 128 from by omega, show (i / 128 * 2 + c) % 2 = c from by omega] at t1
    rw [show (i % 128 * 2 + c) / 2 = i % 128 from by omega, show (i % 128 * 2 + c) % 2 = c from by omega] at t2
    have b1 := wt_d_lt ok (i / 128) (decide (c = 1))
    have b2 := wt_d_lt ok (i % 128) (decide (c = 1))
    have hq : ws_pr (wt_d (Q k)) (wt_d (Q k)) i (decide (c = 1)) = 128 * wt_d (Q k) (i / 128) (decide (c = 1)) + wt_d (Q k) (i % 128) (decide (c = 1)) := rfl
    have hql := ye_pr_lt (Q := Q) ok ok i (decide (c = 1))
    have x1 : (256 : Int32) * nI k + nI i / 128 * 2 + nI c = nI (256 * k + (i / 128 * 2 + c)) := by
      rw [wz_d128 (by omega), wz_m2, wz_256, nI_add, Nat.add_assoc]
    have x2 : (256 : Int32) * nI k + (nI i - nI i / 128 * 128) * 2 + nI c = nI (256 * k + (i % 128 * 2 + c)) := by
      rw [wz_r128 (by omega), wz_m2, wz_256, nI_add, Nat.add_assoc]
    have x3 : (128 : Int32) * nI (wt_d (Q k) (i / 128) (decide (c = 1))) + nI (wt_d (Q k) (i % 128) (decide (c = 1))) = nI (ws_pr (wt_d (Q k)) (wt_d (Q k)) i (decide (c = 1))) := by rw [hq]; exact wz_128 _ _
    have e := h1 i hi
    rw [ye_set_s] at e
    have eq := h1 _ hql
    have bt : ∀ b : Bool, b.toNat < c + 1 → b.toNat < c ∨ b = decide (c = 1) := by
      intro b hb
      cases b
      · by_cases z : c = 0
        · subst z; exact Or.inr rfl
        · exact Or.inl (by show 0 < c; omega)
      · change 1 < c + 1 at hb
        exact Or.inr (by rw [decide_eq_true (by omega)])
    have nxt : ∀ r' : Bool, (r' = true → R i = true ∨ ∃ c, R (ws_pr (wt_d (Q k)) (wt_d (Q k)) i c) = true) → (r' = false → R i = false ∧ ∀ b : Bool, b.toNat < c + 1 → R (ws_pr (wt_d (Q k)) (wt_d (Q k)) i b) = false) → wY_leadApart_3 post (nI k) (nI k) (nI i) f_depth f_termLength f_demands f_boundCount f_known f_found f_least n (nI (c + 1)) a_sizes a_empties a_firsts a_lasts a_letters a_behinds a_steps a_term a_patterns a_kepts a_signs a_signCounts a_bounds a_firstWords a_sums a_met a_tried a_seen (upd ap i (wr_b r')) a_counts a_next := by
      intro r' k1 k2
      refine ih _ ⟨r', ?_, k1, k2⟩
      intro s hs
      by_cases z : s = i
      · subst z; rw [pk_us, ye_set_s]
      · rw [pk_un z, ye_set_n R r' z]
        have := h1 s hs
        rw [ye_set_n R r z] at this
        exact this
    refine br_f (nI_ge (b := 2) hc (by omega)) ⟨by decide, wz_ld (256 * k + (i / 128 * 2 + c)) _ ⟨by decide, wz_ld (256 * k + (i % 128 * 2 + c)) _ (wz_in i (wz_if r (fun z => wz_in (ws_pr (wt_d (Q k)) (wt_d (Q k)) i (decide (c = 1))) (wz_if (ye_set R i r (ws_pr (wt_d (Q k)) (wt_d (Q k)) i (decide (c = 1)))) (fun w => wz_in i (nm_r (e' := upd ap i (wr_b false)) (by rw [nI_clamp (by omega)]; rfl) (nm_r (nI_1 c) (nxt false (fun y => absurd y Bool.false_ne_true) (fun _ => ⟨(h3 z).1, fun b hb => ?_⟩))))) (fun w => wz_in i (nm_r (e' := upd ap i (wr_b true)) (by rw [nI_clamp (by omega)]; rfl) (nm_r (nI_1 c) (nxt true (fun _ => ?_) (fun y => absurd y.symm Bool.false_ne_true))))) (wz_at _ eq x3)) hql x3) (fun z => wz_in i (nm_r (e' := upd ap i (wr_b true)) (by rw [nI_clamp (by omega)]; rfl) (nm_r (nI_1 c) (nxt true (fun _ => h2 z) (fun y => absurd y.symm Bool.false_ne_true))))) (wz_at i e))) (by omega) x2 t2⟩ (by omega) x1 t1⟩
    · rcases bt b hb with y | y
      · exact (h3 z).2 b y
      · subst y
        by_cases q : ws_pr (wt_d (Q k)) (wt_d (Q k)) i (decide (c = 1)) = i
        · rw [q]; exact (h3 z).1
        · rw [ye_set_n R r q] at w; exact w
    · by_cases q : ws_pr (wt_d (Q k)) (wt_d (Q k)) i (decide (c = 1)) = i
      · rw [q, ye_set_s, z] at w; exact absurd w Bool.false_ne_true
      · rw [ye_set_n R r q] at w; exact Or.inr ⟨_, w⟩
theorem yf_ta {post : SY → Prop} (hk : k < 3) (ok : wt_ok (Q k)) (L : wr_YL (Q k) (5 + k) a_sizes a_empties a_firsts a_lasts a_letters a_behinds) (T : wr_YT Q a_steps) (K : ∀ (ap : Nat → Int32) (R : Nat → Bool), ye_r 16384 ap R → (∀ s t, s < 128 → t < 128 → (R (128 * s + t) = false ↔ ws_eqv (wt_d (Q k)) (wt_a (Q k)) s t)) → post (f_depth, f_termLength, f_demands, f_boundCount, f_known, f_found, f_least, a_sizes, a_empties, a_firsts, a_lasts, a_letters, a_behinds, a_steps, a_term, a_patterns, a_kepts, a_signs, a_signCounts, a_bounds, a_firstWords, a_sums, a_met, a_tried, a_seen, ap, a_counts, a_next)) : wpY_tellApart post (f_depth, f_termLength, f_demands, f_boundCount, f_known, f_found, f_least, a_sizes, a_empties, a_firsts, a_lasts, a_letters, a_behinds, a_steps, a_term, a_patterns, a_kepts, a_signs, a_signCounts, a_bounds, a_firstWords, a_sums, a_met, a_tried, a_seen, a_apart, a_counts, a_next) (nI k) (nI k) := by
  have hd : ∀ s b, s < 128 → wt_d (Q k) s b < 128 := fun s b _ => by have := wt_d_lt ok s b; omega
  have fin : ∀ (ap : Nat → Int32) (R : Nat → Bool), ye_r 16384 ap R → (∀ n, n < 16384 → R n = true → ws_ap (wt_d (Q k)) (wt_d (Q k)) (wt_a (Q k)) (wt_a (Q k)) n) → (∀ n, n < 16384 → R n = false → wt_a (Q k) (n / 128) = wt_a (Q k) (n % 128)) → (∀ n c, n < 16384 → R n = false → R (ws_pr (wt_d (Q k)) (wt_d (Q k)) n c) = false) → post (f_depth, f_termLength, f_demands, f_boundCount, f_known, f_found, f_least, a_sizes, a_empties, a_firsts, a_lasts, a_letters, a_behinds, a_steps, a_term, a_patterns, a_kepts, a_signs, a_signCounts, a_bounds, a_firstWords, a_sums, a_met, a_tried, a_seen, ap, a_counts, a_next) := by
    intro ap R h1 h2 h3 h4
    exact K ap R h1 (fun s t hs ht => ws_ap_iff hd hd h3 h4 h2 hs ht)
  refine pk_loop (fun n i ap => wY_tellApart_2 post (nI k) (nI k) f_depth f_termLength f_demands f_boundCount f_known f_found f_least n (nI i) a_sizes a_empties a_firsts a_lasts a_letters a_behinds a_steps a_term a_patterns a_kepts a_signs a_signCounts a_bounds a_firstWords a_sums a_met a_tried a_seen ap a_counts a_next) (fun i ap => ∀ s, s < i → ap s = wr_b (decide (wt_a (Q k) (s / 128) ≠ wt_a (Q k) (s % 128)))) 16384 0 a_apart (by omega) (fun s hs => absurd hs (by omega)) ?_ ?_
  · intro n ap I
    refine br_t (nI_le (a := 16384) (b := 16384) (by omega) (by omega)) ?_
    refine loop_m (σ := Bool × (Nat → Bool) × (Nat → Int32)) (fun n s => wY_tellApart_51 post (nI k) (nI k) n (wr_b s.1) f_depth f_termLength f_demands f_boundCount f_known f_found f_least a_sizes a_empties a_firsts a_lasts a_letters a_behinds a_steps a_term a_patterns a_kepts a_signs a_signCounts a_bounds a_firstWords a_sums a_met a_tried a_seen s.2.2 a_counts a_next) (fun s => ye_r 16384 s.2.2 s.2.1 ∧ (∀ n, n < 16384 → s.2.1 n = true → ws_ap (wt_d (Q k)) (wt_d (Q k)) (wt_a (Q k)) (wt_a (Q k)) n) ∧ (∀ n, n < 16384 → s.2.1 n = false → wt_a (Q k) (n / 128) = wt_a (Q k) (n % 128)) ∧ (s.1 = false → ∀ n c, n < 16384 → s.2.1 n = false → s.2.1 (ws_pr (wt_d (Q k)) (wt_d (Q k)) n c) = false)) (fun s => 2 * (16384 - ws_cnt s.2.1 16384) + (if s.1 = true then 1 else 0)) ?_ (true, (fun s => decide (wt_a (Q k) (s / 128) ≠ wt_a (Q k) (s % 128))), ap) ⟨I, fun n hn h => ws_ap_0 (of_decide_eq_true h), fun n hn h => Decidable.not_not.mp (of_decide_eq_false h), fun z => absurd z.symm Bool.false_ne_true⟩
    rintro n ⟨b, R0, ap⟩ ⟨h1, h2, h3, h4⟩ ih
    dsimp only at h1 h2 h3 h4 ih ⊢
    refine wz_if b (fun z => fin ap R0 h1 h2 h3 (h4 z)) (fun z => ?_)
    refine pk_loop (fun n' i (s : Int32 × (Nat → Int32)) => wY_tellApart_60 post (wY_tellApart_51 post (nI k) (nI k) n) (nI k) (nI k) n' s.1 (nI i) f_depth f_termLength f_demands f_boundCount f_known f_found f_least a_sizes a_empties a_firsts a_lasts a_letters a_behinds a_steps a_term a_patterns a_kepts a_signs a_signCounts a_bounds a_firstWords a_sums a_met a_tried a_seen s.2 a_counts a_next) (fun i s => ∃ (b : Bool) (R : Nat → Bool), s.1 = wr_b b ∧ ye_r 16384 s.2 R ∧ (∀ t, t < 16384 → R0 t = true → R t = true) ∧ (∀ t, t < 16384 → R t = true → ws_ap (wt_d (Q k)) (wt_d (Q k)) (wt_a (Q k)) (wt_a (Q k)) t) ∧ (b = false → ∀ t c, t < i → R t = false → R (ws_pr (wt_d (Q k)) (wt_d (Q k)) t c) = false) ∧ (b = true → ∃ t, t < 16384 ∧ R t = true ∧ R0 t = false)) 16384 0 (0, ap) (by omega) ⟨false, R0, rfl, h1, fun _ _ h => h, h2, fun _ t c ht => absurd ht (by omega), fun y => absurd y Bool.false_ne_true⟩ ?_ ?_
    · intro n' s I2
      obtain ⟨b', R, g1, g2, g3, g4, g5, g6⟩ := I2
      refine br_t (nI_le (a := 16384) (b := 16384) (by omega) (by omega)) ?_
      rw [g1]
      refine ih (b', R, s.2) ⟨g2, g4, ?_, fun y t c ht => g5 y t c ht⟩ ?_
      · intro t ht hR
        apply h3 t ht
        cases hh : R0 t with
        | false => rfl
        | true => dsimp only at hR; rw [g3 t ht hh] at hR; exact absurd hR.symm Bool.false_ne_true
      · dsimp only
        have m1 := ws_cnt_mono R0 R 16384 g3
        have m2 := ws_cnt_le R 16384
        rw [z, if_pos rfl]
        cases hb : b' with
        | true => have := ws_cnt_lt R0 R 16384 g3 (g6 hb); rw [if_pos rfl]; omega
        | false => rw [if_neg Bool.false_ne_true]; omega
    · intro n' i s hi I2 ih2
      obtain ⟨b', R, g1, g2, g3, g4, g5, g6⟩ := I2
      refine br_f (nI_ge (b := 16384) hi (by omega)) ?_
      rw [g1]
      refine wz_in i (wz_if (R i) (fun y => ?_) (fun y => ?_) (wz_at i (g2 i hi)))
      · refine yf_la hk ok T hi g2 (fun r ap' q1 q2 q3 => wz_if r (fun w => ?_) (fun w => ?_))
        · subst w
          have same := ye_set_same (R := R) (t := i) (b := false) y
          have cl : b' = false → ∀ t c, t < i + 1 → R t = false → R (ws_pr (wt_d (Q k)) (wt_d (Q k)) t c) = false := by
            intro u t c ht hR
            by_cases e : t = i
            · subst e; exact (q3 rfl).2 c
            · exact g5 u t c (by omega) hR
          have q4 : ye_r 16384 ap' R := fun s hs => by rw [q1 s hs, same]
          refine wz_if b' (fun u => nm_r (nI_1 i) (ih2 (0, ap') ⟨false, R, rfl, q4, g3, g4, fun _ => cl u, fun v => absurd v Bool.false_ne_true⟩)) (fun u => nm_r (nI_1 i) (ih2 (1, ap') ⟨true, R, rfl, q4, g3, g4, fun v => absurd v.symm Bool.false_ne_true, fun _ => g6 u⟩))
        · subst w
          refine nm_r (nI_1 i) (ih2 (1, ap') ⟨true, ye_set R i true, rfl, q1, fun t ht h => ye_set_m (fun _ => rfl) (g3 t ht h), ?_, fun v => absurd v.symm Bool.false_ne_true, fun _ => ⟨i, hi, ye_set_s _ _ _, ?_⟩⟩)
          · intro t ht h
            by_cases e : t = i
            · subst e
              rcases q2 rfl with h5 | ⟨c, h5⟩
              · exact g4 t ht h5
              · exact ws_ap_s hd c (g4 _ (ye_pr_lt (Q := Q) ok ok t c) h5)
            · rw [ye_set_n R true e] at h; exact g4 t ht h
          · cases hh : R0 i with
            | false => rfl
            | true => rw [g3 i hi hh] at y; exact absurd y.symm Bool.false_ne_true
      · have cl : b' = false → ∀ t c, t < i + 1 → R t = false → R (ws_pr (wt_d (Q k)) (wt_d (Q k)) t c) = false := by
          intro u t c ht hR
          by_cases e : t = i
          · subst e; rw [y] at hR; exact absurd hR.symm Bool.false_ne_true
          · exact g5 u t c (by omega) hR
        exact wz_if b' (fun u => nm_r (nI_1 i) (ih2 (0, s.2) ⟨false, R, rfl, g2, g3, g4, fun _ => cl u, fun v => absurd v Bool.false_ne_true⟩)) (fun u => nm_r (nI_1 i) (ih2 (1, s.2) ⟨true, R, rfl, g2, g3, g4, fun v => absurd v.symm Bool.false_ne_true, fun _ => g6 u⟩))
  · intro n i ap hi I ih
    have nx : ∀ v, v = wr_b (decide (wt_a (Q k) (i / 128) ≠ wt_a (Q k) (i % 128))) → ∀ s, s < i + 1 → upd ap i v s = wr_b (decide (wt_a (Q k) (s / 128) ≠ wt_a (Q k) (s % 128))) := by
      intro v hv s hs
      by_cases e : s = i
      · subst e; rw [pk_us, hv]
      · rw [pk_un e]; exact I s (by omega)
    refine br_f (nI_ge (b := 16384) hi (by omega)) ⟨by decide, yd_acc (wz_d128 (by omega)) hk (by omega) L ⟨by decide, yd_acc (wz_r128 (by omega)) hk (by omega) L (wz_c (wr_b_e _ _) (fun w => wz_st i 0 (nm_r (nI_1 i) (ih _ (nx 0 ?_)))) (fun w => wz_st i 1 (nm_r (nI_1 i) (ih _ (nx 1 ?_)))))⟩⟩
    · rw [decide_eq_false (fun y => y w)]; rfl
    · rw [decide_eq_true w]; rfl
theorem yf_meet {post : SY → Prop} (hk : k < 3) (ok : wt_ok (Q k)) (T : wr_YT Q a_steps) (K : ∀ (se : Nat → Int32) (R : Nat → Bool), ye_r 128 se R → (∀ s, s < 128 → (R s = true ↔ ws_rch (wt_d (Q k)) 64 s)) → post (f_depth, f_termLength, f_demands, f_boundCount, f_known, f_found, f_least, a_sizes, a_empties, a_firsts, a_lasts, a_letters, a_behinds, a_steps, a_term, a_patterns, a_kepts, a_signs, a_signCounts, a_bounds, a_firstWords, a_sums, a_met, a_tried, se, a_apart, a_counts, a_next)) : wpY_meet post (f_depth, f_termLength, f_demands, f_boundCount, f_known, f_found, f_least, a_sizes, a_empties, a_firsts, a_lasts, a_letters, a_behinds, a_steps, a_term, a_patterns, a_kepts, a_signs, a_signCounts, a_bounds, a_firstWords, a_sums, a_met, a_tried, a_seen, a_apart, a_counts, a_next) (nI k) := by
  have hd : ∀ s b, s < 128 → wt_d (Q k) s b < 128 := fun s b _ => by have := wt_d_lt ok s b; omega
  have fin : ∀ (se : Nat → Int32) (R : Nat → Bool), ye_r 128 se R → R 64 = true → (∀ s, s < 128 → R s = true → ws_rch (wt_d (Q k)) 64 s) → (∀ s c, s < 128 → R s = true → R (wt_d (Q k) s c) = true) → post (f_depth, f_termLength, f_demands, f_boundCount, f_known, f_found, f_least, a_sizes, a_empties, a_firsts, a_lasts, a_letters, a_behinds, a_steps, a_term, a_patterns, a_kepts, a_signs, a_signCounts, a_bounds, a_firstWords, a_sums, a_met, a_tried, se, a_apart, a_counts, a_next) := by
    intro se R h1 h2 h3 h4
    refine K se R h1 (fun s hs => ⟨h3 s hs, ?_⟩)
    rintro ⟨w, rfl⟩
    exact ws_clo hd h4 w 64 (by omega) h2
  refine pk_loop (fun n i se => wY_meet_2 post (nI k) f_depth f_termLength f_demands f_boundCount f_known f_found f_least n (nI i) a_sizes a_empties a_firsts a_lasts a_letters a_behinds a_steps a_term a_patterns a_kepts a_signs a_signCounts a_bounds a_firstWords a_sums a_met a_tried se a_apart a_counts a_next) (fun i se => ∀ s, s < i → se s = wr_b (decide (s = 64))) 128 0 a_seen (by omega) (fun s hs => absurd hs (by omega)) ?_ ?_
  · intro n se I
    refine br_t (nI_le (a := 128) (b := 128) (by omega) (by omega)) ?_
    refine loop_m (σ := Bool × (Nat → Bool) × (Nat → Int32)) (fun n s => wY_meet_34 post (nI k) f_depth f_termLength f_demands f_boundCount f_known f_found f_least n (wr_b s.1) a_sizes a_empties a_firsts a_lasts a_letters a_behinds a_steps a_term a_patterns a_kepts a_signs a_signCounts a_bounds a_firstWords a_sums a_met a_tried s.2.2 a_apart a_counts a_next) (fun s => ye_r 128 s.2.2 s.2.1 ∧ s.2.1 64 = true ∧ (∀ t, t < 128 → s.2.1 t = true → ws_rch (wt_d (Q k)) 64 t) ∧ (s.1 = false → ∀ t c, t < 128 → s.2.1 t = true → s.2.1 (wt_d (Q k) t c) = true)) (fun s => 2 * (128 - ws_cnt s.2.1 128) + (if s.1 = true then 1 else 0)) ?_ (true, (fun s => decide (s = 64)), se) ⟨I, rfl, ?_, fun z => absurd z.symm Bool.false_ne_true⟩
    · rintro n ⟨b, R0, se⟩ ⟨h1, h2, h3, h4⟩ ih
      dsimp only at h1 h2 h3 h4 ih ⊢
      refine wz_if b (fun z => fin se R0 h1 h2 h3 (h4 z)) (fun z => ?_)
      refine pk_loop (fun n' i (s : Int32 × (Nat → Int32)) => wY_meet_42 post (wY_meet_34 post (nI k) f_depth f_termLength f_demands f_boundCount f_known f_found f_least n) (nI k) f_depth f_termLength f_demands f_boundCount f_known f_found f_least n' s.1 (nI i) a_sizes a_empties a_firsts a_lasts a_letters a_behinds a_steps a_term a_patterns a_kepts a_signs a_signCounts a_bounds a_firstWords a_sums a_met a_tried s.2 a_apart a_counts a_next) (fun i s => ∃ (b : Bool) (R : Nat → Bool), s.1 = wr_b b ∧ ye_r 128 s.2 R ∧ (∀ t, t < 128 → R0 t = true → R t = true) ∧ (∀ t, t < 128 → R t = true → ws_rch (wt_d (Q k)) 64 t) ∧ (b = false → (∀ t, t < 128 → R t = R0 t) ∧ ∀ m, m < i → R (m / 2) = true → R (wt_d (Q k) (m / 2) (decide (m % 2 = 1))) = true) ∧ (b = true → ∃ t, t < 128 ∧ R t = true ∧ R0 t = false)) 256 0 (0, se) (by omega) ⟨false, R0, rfl, h1, fun _ _ h => h, h3, fun _ => ⟨fun _ _ => rfl, fun m hm => absurd hm (by omega)⟩, fun y => absurd y Bool.false_ne_true⟩ ?_ ?_
      · intro n' s I2
        obtain ⟨b', R, g1, g2, g3, g4, g5, g6⟩ := I2
        refine br_t (nI_le (a := 256) (b := 256) (by omega) (by omega)) ?_
        rw [g1]
        refine ih (b', R, s.2) ⟨g2, g3 _ (by omega) h2, g4, fun y t c ht hR => ?_⟩ ?_
        · have h7 := (g5 y).2 (2 * t + c.toNat) (by cases c <;> simp <;> omega)
          have e1 : (2 * t + c.toNat) / 2 = t := by cases c <;> simp <;> omega
          have e2 : decide ((2 * t + c.toNat) % 2 = 1) = c := by cases c <;> simp <;> omega
          rw [e1, e2] at h7
          exact h7 hR
        · dsimp only
          have m1 := ws_cnt_mono R0 R 128 g3
          have m2 := ws_cnt_le R 128
          rw [z, if_pos rfl]
          cases hb : b' with
          | true => have := ws_cnt_lt R0 R 128 g3 (g6 hb); rw [if_pos rfl]; omega
          | false => rw [if_neg Bool.false_ne_true]; omega
      · intro n' i s hi I2 ih2
        obtain ⟨b', R, g1, g2, g3, g4, g5, g6⟩ := I2
        have hq := wt_d_lt ok (i / 2) (decide (i % 2 = 1))
        have nxt : ∀ m' : Bool, m' = (b' || (R (i / 2) && !(R (wt_d (Q k) (i / 2) (decide (i % 2 = 1)))))) → wY_meet_93 post (wY_meet_34 post (nI k) f_depth f_termLength f_demands f_boundCount f_known f_found f_least n) (wY_meet_42 post (wY_meet_34 post (nI k) f_depth f_termLength f_demands f_boundCount f_known f_found f_least n) (nI k) f_depth f_termLength f_demands f_boundCount f_known f_found f_least n') (nI k) (nI i) (nI (wt_d (Q k) (i / 2) (decide (i % 2 = 1)))) (wr_b m') f_depth f_termLength f_demands f_boundCount f_known f_found f_least a_sizes a_empties a_firsts a_lasts a_letters a_behinds a_steps a_term a_patterns a_kepts a_signs a_signCounts a_bounds a_firstWords a_sums a_met a_tried s.2 a_apart a_counts a_next := by
          intro m' hm'
          have go : ∀ v : Bool, v = (R (wt_d (Q k) (i / 2) (decide (i % 2 = 1))) || R (i / 2)) → wY_meet_42 post (wY_meet_34 post (nI k) f_depth f_termLength f_demands f_boundCount f_known f_found f_least n) (nI k) f_depth f_termLength f_demands f_boundCount f_known f_found f_least n' (wr_b m') (nI (i + 1)) a_sizes a_empties a_firsts a_lasts a_letters a_behinds a_steps a_term a_patterns a_kepts a_signs a_signCounts a_bounds a_firstWords a_sums a_met a_tried (upd s.2 (wt_d (Q k) (i / 2) (decide (i % 2 = 1))) (wr_b v)) a_apart a_counts a_next := by
            intro v hv
            refine ih2 (wr_b m', upd s.2 (wt_d (Q k) (i / 2) (decide (i % 2 = 1))) (wr_b v)) ⟨m', _, rfl, ye_r_set g2 _ _, ?_, ?_, ?_, ?_⟩
            · intro t ht h
              exact ye_set_m (fun y => by rw [hv, y, Bool.true_or]) (g3 t ht h)
            · intro t ht h
              by_cases e : t = wt_d (Q k) (i / 2) (decide (i % 2 = 1))
              · subst e
                rw [ye_set_s, hv, Bool.or_eq_true] at h
                rcases h with h | h
                · exact g4 _ ht h
                · exact ws_rch_s (g4 _ (by omega) h) _
              · rw [ye_set_n _ _ e] at h; exact g4 t ht h
            · intro y
              rw [y, eq_comm, Bool.or_eq_false_iff] at hm'
              obtain ⟨y1, y2⟩ := hm'
              have hv2 : R (wt_d (Q k) (i / 2) (decide (i % 2 = 1))) = v := by
                cases p1 : R (i / 2) <;> cases p2 : R (wt_d (Q k) (i / 2) (decide (i % 2 = 1))) <;> rw [p1, p2] at y2 hv <;> simp at y2 hv ⊢ <;> exact hv
              have same := ye_set_same hv2
              refine ⟨fun t ht => (same t).trans ((g5 y1).1 t ht), fun m hm hR => ?_⟩
              rw [same] at hR ⊢
              by_cases e : m = i
              · subst e
                rw [hR, Bool.true_and] at y2
                cases hh : R (wt_d (Q k) (m / 2) (decide (m % 2 = 1))) with
                | true => rfl
                | false => rw [hh] at y2; exact absurd y2.symm Bool.false_ne_true
              · exact (g5 y1).2 m (by omega) hR
            · intro y
              cases hb : b' with
              | true =>
                obtain ⟨t, u1, u2, u3⟩ := g6 hb
                exact ⟨t, u1, ye_set_m (fun y => by rw [hv, y, Bool.true_or]) u2, u3⟩
              | false =>
                rw [hb, Bool.false_or, y, eq_comm, Bool.and_eq_true] at hm'
                refine ⟨wt_d (Q k) (i / 2) (decide (i % 2 = 1)), by omega, ?_, ?_⟩
                · rw [ye_set_s, hv, hm'.1, Bool.or_true]
                · rw [← (g5 hb).1 _ (by omega)]
                  have := hm'.2
                  cases hh : R (wt_d (Q k) (i / 2) (decide (i % 2 = 1))) with
                  | false => rfl
                  | true => rw [hh] at this; exact absurd this Bool.false_ne_true
          refine wz_in _ (wz_if (R (wt_d (Q k) (i / 2) (decide (i % 2 = 1)))) (fun y => ⟨by decide, wz_in (i / 2) (wz_if (R (i / 2)) (fun w => wz_st (wt_d (Q k) (i / 2) (decide (i % 2 = 1))) (wr_b false) (nm_r (nI_1 i) (go false (by rw [y, w]; rfl)))) (fun w => wz_st (wt_d (Q k) (i / 2) (decide (i % 2 = 1))) (wr_b true) (nm_r (nI_1 i) (go true (by rw [y, w]; rfl)))) (wz_at _ (g2 _ (by omega)) (wz_d2 (by omega)))) (by omega) (wz_d2 (by omega))⟩) (fun y => wz_st (wt_d (Q k) (i / 2) (decide (i % 2 = 1))) (wr_b true) (nm_r (nI_1 i) (go true (by rw [y]; rfl)))) (wz_at _ (g2 _ (by omega)))) (by omega) rfl
        refine br_f (nI_ge (b := 256) hi (by omega)) (wz_ld (256 * k + i) (nI (wt_d (Q k) (i / 2) (decide (i % 2 = 1)))) ?_ (by omega) (wz_256 k i) (T k hk i hi))
        rw [g1]
        refine wz_if b' (fun y => ⟨by decide, wz_in (i / 2) (wz_if (R (i / 2)) (fun w => nxt false (by rw [y, w]; rfl)) (fun w => wz_in (wt_d (Q k) (i / 2) (decide (i % 2 = 1))) (wz_if (R (wt_d (Q k) (i / 2) (decide (i % 2 = 1)))) (fun v => nxt true (by rw [y, w, v]; rfl)) (fun v => nxt false (by rw [y, w, v]; rfl)) (wz_at _ (g2 _ (by omega))))) (wz_at _ (g2 _ (by omega)) (wz_d2 (by omega)))) (by omega) (wz_d2 (by omega))⟩) (fun y => nxt true (by rw [y, Bool.true_or]))
    · intro t ht h
      rw [show t = 64 from of_decide_eq_true h]
      exact ws_rch_0 _ _
  · intro n i se hi I ih
    have nx : ∀ v, v = wr_b (decide (i = 64)) → ∀ s, s < i + 1 → upd se i v s = wr_b (decide (s = 64)) := by
      intro v hv s hs
      by_cases e : s = i
      · subst e; rw [pk_us, hv]
      · rw [pk_un e]; exact I s (by omega)
    refine br_f (nI_ge (b := 128) hi (by omega)) (pk_eq i 64 (fun z => wz_st i 1 (nm_r (nI_1 i) (ih _ (nx 1 ?_)))) (fun z => wz_st i 0 (nm_r (nI_1 i) (ih _ (nx 0 ?_)))))
    · rw [decide_eq_true z]; rfl
    · rw [decide_eq_false z]; rfl
theorem yf_all_f {p : Nat → Bool} {i : Nat} (h : wl_all p i = false) : ∀ n, wl_all p (i + n) = false := by
  intro n
  induction n with
  | zero => exact h
  | succ n ih => rw [← Nat.add_assoc, wl_all_s, ih, Bool.false_and]
theorem yf_rests {post : Int32 → SY → Prop} (hk : k < 3) (ok : wt_ok (Q k)) (L : wr_YL (Q k) (5 + k) a_sizes a_empties a_firsts a_lasts a_letters a_behinds) (T : wr_YT Q a_steps) (K : ∀ (R : Nat → Bool) (E : Nat → Nat → Bool) (ap se : Nat → Int32), (∀ t, t < 128 → (R t = true ↔ ws_rch (wt_d (Q k)) 64 t)) → (∀ s t, s < 128 → t < 128 → (E s t = true ↔ ws_eqv (wt_d (Q k)) (wt_a (Q k)) s t)) → post (nI (ws_cnt (wf_fr R E) 128)) (f_depth, f_termLength, f_demands, f_boundCount, f_known, f_found, f_least, a_sizes, a_empties, a_firsts, a_lasts, a_letters, a_behinds, a_steps, a_term, a_patterns, a_kepts, a_signs, a_signCounts, a_bounds, a_firstWords, a_sums, a_met, a_tried, se, ap, a_counts, a_next)) : wpY_rests post (f_depth, f_termLength, f_demands, f_boundCount, f_known, f_found, f_least, a_sizes, a_empties, a_firsts, a_lasts, a_letters, a_behinds, a_steps, a_term, a_patterns, a_kepts, a_signs, a_signCounts, a_bounds, a_firstWords, a_sums, a_met, a_tried, a_seen, a_apart, a_counts, a_next) (nI k) := by
  unfold wpY_rests
  refine br_f (nI_pos (by omega)) (br_f (nI_nlt (a := 2) (b := k) (by omega) (by omega)) (br_f (by decide) ?_))
  refine yf_ta hk ok L T (fun ap A ha hA => ?_)
  refine yf_meet hk ok T (fun se S hs hS => ?_)
  have K' := K S (fun o t => !(A (128 * t + o))) ap se hS (by
    intro s t h1 h2
    rw [Bool.not_eq_true', hA t s h2 h1]
    exact ⟨fun h w => (h w).symm, fun h w => (h w).symm⟩)
  refine pk_loop (fun n t x => wY_rests_25 post f_depth f_termLength f_demands f_boundCount f_known f_found f_least a_sizes a_empties a_firsts a_lasts a_letters a_behinds a_steps a_term a_patterns a_kepts a_signs a_signCounts a_bounds a_firstWords a_sums a_met a_tried se ap a_counts a_next n x (nI t)) (fun t x => x = nI (ws_cnt (wf_fr S (fun o t => !(A (128 * t + o)))) t)) 128 0 0 (by omega) rfl ?_ ?_
  · intro n x I
    subst I
    exact br_t (nI_le (a := 128) (b := 128) (by omega) (by omega)) K'
  · intro n t x ht I ih
    subst I
    have fin : ∀ v : Bool, v = wf_fr S (fun o t => !(A (128 * t + o))) t → wY_rests_93 post (wY_rests_25 post f_depth f_termLength f_demands f_boundCount f_known f_found f_least a_sizes a_empties a_firsts a_lasts a_letters a_behinds a_steps a_term a_patterns a_kepts a_signs a_signCounts a_bounds a_firstWords a_sums a_met a_tried se ap a_counts a_next n) (nI (ws_cnt (wf_fr S (fun o t => !(A (128 * t + o)))) t)) (nI t) (wr_b v) f_depth f_termLength f_demands f_boundCount f_known f_found f_least a_sizes a_empties a_firsts a_lasts a_letters a_behinds a_steps a_term a_patterns a_kepts a_signs a_signCounts a_bounds a_firstWords a_sums a_met a_tried se ap a_counts a_next := by
      intro v hv
      refine wz_if v (fun z => nm_r (nI_1 t) (ih _ ?_)) (fun z => nm_r (nI_1 _) (nm_r (nI_1 t) (ih _ ?_)))
      · rw [ws_cnt_s, ← hv, z, if_neg Bool.false_ne_true]
      · rw [ws_cnt_s, ← hv, z, if_pos rfl]
    refine br_f (nI_ge (b := 128) ht (by omega)) (wz_ld t (wr_b (S t)) ?_ (by omega) rfl (hs t ht))
    refine pk_loop (fun n' o x => wY_rests_43 post (wY_rests_25 post f_depth f_termLength f_demands f_boundCount f_known f_found f_least a_sizes a_empties a_firsts a_lasts a_letters a_behinds a_steps a_term a_patterns a_kepts a_signs a_signCounts a_bounds a_firstWords a_sums a_met a_tried se ap a_counts a_next n) (nI (ws_cnt (wf_fr S (fun o t => !(A (128 * t + o)))) t)) (nI t) f_depth f_termLength f_demands f_boundCount f_known f_found f_least a_sizes a_empties a_firsts a_lasts a_letters a_behinds a_steps a_term a_patterns a_kepts a_signs a_signCounts a_bounds a_firstWords a_sums a_met a_tried se ap a_counts a_next n' x (nI o)) (fun o x => x = wr_b (S t && wl_all (fun o => !(S o && !(A (128 * t + o)))) o)) t 0 (wr_b (S t)) (by omega) (by show _ = wr_b (S t && true); rw [Bool.and_true]) ?_ ?_
    · intro n' x I
      subst I
      exact br_t (nI_le (Nat.le_refl _) (by omega)) (fin _ rfl)
    · intro n' o x ho I ih2
      subst I
      refine br_f (nI_ge ho (by omega)) (wz_if _ (fun z => fin _ ?_) (fun z => ?_))
      · rw [z]
        symm
        rw [Bool.and_eq_false_iff] at z
        rcases z with z | z
        · exact wf_fr_0 _ _ z
        · unfold wf_fr
          have := yf_all_f z (t - o)
          rw [show o + (t - o) = t from by omega] at this
          rw [this, Bool.and_false]
      · rw [Bool.and_eq_true] at z
        have hA2 := ha (128 * t + o) (by omega)
        refine wz_in o (wz_if (S o) (fun w => nm_r (nI_1 o) (ih2 _ ?_)) (fun w => wz_in (128 * t + o) (wz_if (A (128 * t + o)) (fun y => nm_r (nI_1 o) (ih2 _ ?_)) (fun y => nm_r (nI_1 o) (ih2 _ ?_)) (wz_at _ hA2 (wz_128 t o))) (by omega) (wz_128 t o)) (wz_at o (hs o (by omega))))
        · rw [wl_all_s, z.1, z.2, w]; rfl
        · rw [wl_all_s, z.1, z.2, w, y]; rfl
        · rw [wl_all_s, z.1, z.2, w, y]; rfl
end
end
section
/-! the reference: words, demands, bounds -/
theorem yg_sl3 (n : Nat) : wl_sl n 3 = [false] := by
  have e : wl_sw n 3 = 2 := if_neg (by decide)
  unfold wl_sl
  rw [e]
  decide
theorem yg_sl4 (n : Nat) : wl_sl n 4 = [true] := by
  have e : wl_sw n 4 = 3 := if_neg (by decide)
  unfold wl_sl
  rw [e]
  decide
section
variable {f_depth f_termLength f_demands f_boundCount f_known f_found f_least : Int32} {a_sizes a_empties a_firsts a_lasts a_letters a_behinds a_steps a_term a_patterns a_kepts a_signs a_signCounts a_bounds a_firstWords a_sums a_met a_tried a_seen a_apart a_counts a_next : Nat → Int32}
theorem yg_lo {post : Int32 → Prop} {w : Nat} {x : Int32} (hx : x = nI w) (hw : w < 15) (K : post (nI (wl_ln (w + 1)))) : wpY_lengthOf post (f_depth, f_termLength, f_demands, f_boundCount, f_known, f_found, f_least, a_sizes, a_empties, a_firsts, a_lasts, a_letters, a_behinds, a_steps, a_term, a_patterns, a_kepts, a_signs, a_signCounts, a_bounds, a_firstWords, a_sums, a_met, a_tried, a_seen, a_apart, a_counts, a_next) x := by
  subst hx
  unfold wl_ln at K
  refine pk_eq w 0 (fun z => ?_) (fun z => pk_le 3 w (fun z2 => pk_le 7 w (fun z3 => ?_) (fun z3 => ?_)) (fun z2 => ?_))
  · rw [if_pos (by omega)] at K; exact K
  · rw [if_neg (by omega), if_neg (by omega), if_neg (by omega)] at K; exact K
  · rw [if_neg (by omega), if_neg (by omega), if_pos (by omega)] at K; exact K
  · rw [if_neg (by omega), if_pos (by omega)] at K; exact K
theorem yg_let {post : Int32 → Prop} {w n : Nat} {x : Int32} (hx : x = nI w) (hw : w < 15) (hn : n < wl_ln (w + 1)) (K : post (nI ((w + 1) / 2 ^ (wl_ln (w + 1) - 1 - n) % 2))) : wpY_letterOf post (f_depth, f_termLength, f_demands, f_boundCount, f_known, f_found, f_least, a_sizes, a_empties, a_firsts, a_lasts, a_letters, a_behinds, a_steps, a_term, a_patterns, a_kepts, a_signs, a_signCounts, a_bounds, a_firstWords, a_sums, a_met, a_tried, a_seen, a_apart, a_counts, a_next) x (nI n) := by
  unfold wpY_letterOf
  refine yg_lo hx hw ?_
  subst hx
  have h3 := wl_ln_3 (w + 1)
  obtain ⟨l, hl⟩ : ∃ l, wl_ln (w + 1) = l + 1 := ⟨wl_ln (w + 1) - 1, by omega⟩
  rw [hl] at K hn h3 ⊢
  rw [nI_pred, pk_sub (by omega), nI_1, wr_bit (by omega) (by omega)]
  exact K
variable {Q : Nat → ws_Pat} {k : Nat}
theorem yg_read {post : Int32 → Prop} {w s : Nat} {x : Int32} (hx : x = nI w) (hk : k < 3) (ok : wt_ok (Q k)) (T : wr_YT Q a_steps) (hw : w < 15) (hs : s < 65) (K : post (nI (ws_run (wt_d (Q k)) (wl_l (wl_ln (w + 1)) (w + 1)) s))) : wpY_read post (f_depth, f_termLength, f_demands, f_boundCount, f_known, f_found, f_least, a_sizes, a_empties, a_firsts, a_lasts, a_letters, a_behinds, a_steps, a_term, a_patterns, a_kepts, a_signs, a_signCounts, a_bounds, a_firstWords, a_sums, a_met, a_tried, a_seen, a_apart, a_counts, a_next) (nI k) (nI s) x := by
  subst hx
  have h3 := wl_ln_3 (w + 1)
  refine pk_loop (fun n i x => wY_read_6 post (nI k) (nI w) f_depth f_termLength f_demands f_boundCount f_known f_found f_least a_sizes a_empties a_firsts a_lasts a_letters a_behinds a_steps a_term a_patterns a_kepts a_signs a_signCounts a_bounds a_firstWords a_sums a_met a_tried a_seen a_apart a_counts a_next n x (nI i)) (fun i x => x = nI (ws_run (wt_d (Q k)) (wl_l i ((w + 1) / 2 ^ (wl_ln (w + 1) - i))) s)) (wl_ln (w + 1)) 0 (nI s) (by omega) rfl ?_ ?_
  · intro n x I
    subst I
    rw [Nat.sub_self, Nat.pow_zero, Nat.div_one, wY_read_6]
    dsimp only
    exact yg_lo rfl hw (br_t (nI_le (Nat.le_refl _) (by omega)) K)
  · intro n i x hi I ih
    subst I
    have hr := wt_run_lt ok (wl_l i ((w + 1) / 2 ^ (wl_ln (w + 1) - i))) s hs
    have hc : (w + 1) / 2 ^ (wl_ln (w + 1) - 1 - i) % 2 < 2 := Nat.mod_lt _ (by omega)
    have t1 := T k hk (2 * ws_run (wt_d (Q k)) (wl_l i ((w + 1) / 2 ^ (wl_ln (w + 1) - i))) s + (w + 1) / 2 ^ (wl_ln (w + 1) - 1 - i) % 2) (by omega)
    rw [show (2 * ws_run (wt_d (Q k)) (wl_l i ((w + 1) / 2 ^ (wl_ln (w + 1) - i))) s + (w + 1) / 2 ^ (wl_ln (w + 1) - 1 - i) % 2) / 2 = ws_run (wt_d (Q k)) (wl_l i ((w + 1) / 2 ^ (wl_ln (w + 1) - i))) s from by omega, show (2 * ws_run (wt_d (Q k)) (wl_l i ((w + 1) / 2 ^ (wl_ln (w + 1) - i))) s + (w + 1) / 2 ^ (wl_ln (w + 1) - 1 - i) % 2) % 2 = (w + 1) / 2 ^ (wl_ln (w + 1) - 1 - i) % 2 from by omega] at t1
    rw [wY_read_6]
    dsimp only
    refine yg_lo rfl hw (br_f (nI_ge hi (by omega)) (yg_let rfl hw hi (wz_ld (256 * k + (2 * ws_run (wt_d (Q k)) (wl_l i ((w + 1) / 2 ^ (wl_ln (w + 1) - i))) s + (w + 1) / 2 ^ (wl_ln (w + 1) - 1 - i) % 2)) _ (nm_r (nI_1 i) (ih _ ?_)) (by omega) ?_ t1)))
    · rw [wl_let (w + 1) hi, ws_run_app]
      rfl
    · rw [show (2 : Int32) = nI 2 from rfl, pk_mul, wz_256, nI_add, Nat.add_assoc]
variable {n dc bc : Nat} {D : Nat → wr_Dem} {B : Nat → Int32}
theorem yg_kept {post : Int32 → Prop} {d : Nat} (hn : n < 3375) (o3 : wt_ok3 Q) (P : wr_YP Q a_sizes a_empties a_firsts a_lasts a_letters a_behinds) (T : wr_YT Q a_steps) (hdc : dc ≤ 6) (hd : d < dc) (ho : (D d).1 < 3 ∧ (D d).2.2.1 ≤ 4 ∧ ∀ i, i < (D d).2.2.1 → (D d).2.2.2 i < 5) (hD : wr_YD dc D a_signs a_signCounts a_patterns a_kepts) (hT : ∀ i, i < 3 → a_tried i = nI (wl_tr n i)) (K : post (wr_b (wr_dok Q D n d))) : wpY_isKept post (f_depth, f_termLength, f_demands, f_boundCount, f_known, f_found, f_least, a_sizes, a_empties, a_firsts, a_lasts, a_letters, a_behinds, a_steps, a_term, a_patterns, a_kepts, a_signs, a_signCounts, a_bounds, a_firstWords, a_sums, a_met, a_tried, a_seen, a_apart, a_counts, a_next) (nI d) := by
  obtain ⟨c1, c2, c3, c4⟩ := hD d hd
  obtain ⟨b1, b2, b3⟩ := ho
  have ok := o3 (D d).1 b1
  refine wz_ld d (nI (D d).1) ?_ (by omega) rfl c2
  refine pk_loop (fun m i x => wY_isKept_13 post (nI d) (nI (D d).1) f_depth f_termLength f_demands f_boundCount f_known f_found f_least a_sizes a_empties a_firsts a_lasts a_letters a_behinds a_steps a_term a_patterns a_kepts a_signs a_signCounts a_bounds a_firstWords a_sums a_met a_tried a_seen a_apart a_counts a_next m x (nI i)) (fun i x => x = nI (ws_run (wt_d (Q (D d).1)) (wl_tl (D d).2.2.2 n i) 64)) (D d).2.2.1 0 64 (by omega) rfl ?_ ?_
  · intro m x I
    subst I
    have hr := wt_run_lt ok (wl_tl (D d).2.2.2 n (D d).2.2.1) 64 (by omega)
    refine wz_in d (br_t (by rw [wz_at d c1]; exact nI_le (Nat.le_refl _) (by omega)) ?_)
    unfold wr_dok wl_dem at K
    refine yd_acc rfl b1 (by omega) (P _ b1) (wz_in d (wz_if1 (D d).2.1 (fun z => wz_if1 _ (fun w => ?_) (fun w => ?_)) (fun z => wz_if _ (fun w => ?_) (fun w => ?_)) (wz_at d c3)))
    · rw [w, z] at K; exact K
    · rw [w, z] at K; exact K
    · rw [w, z] at K; exact K
    · rw [w, z] at K; exact K
  · intro m i x hi I ih
    subst I
    have hr := wt_run_lt ok (wl_tl (D d).2.2.2 n i) 64 (by omega)
    have hs := b3 i hi
    refine wz_in d (br_f (by rw [wz_at d c1]; exact nI_ge hi (by omega)) (wz_ld (4 * d + i) (nI ((D d).2.2.2 i)) (pk_le 3 ((D d).2.2.2 i) (fun z => ?_) (fun z => ?_)) (by omega) (wz_4m d i) (c4 i hi)))
    · have t1 := T (D d).1 b1 (2 * ws_run (wt_d (Q (D d).1)) (wl_tl (D d).2.2.2 n i) 64 + ((D d).2.2.2 i - 3)) (by omega)
      rw [show (2 * ws_run (wt_d (Q (D d).1)) (wl_tl (D d).2.2.2 n i) 64 + ((D d).2.2.2 i - 3)) / 2 = ws_run (wt_d (Q (D d).1)) (wl_tl (D d).2.2.2 n i) 64 from by omega, show (2 * ws_run (wt_d (Q (D d).1)) (wl_tl (D d).2.2.2 n i) 64 + ((D d).2.2.2 i - 3)) % 2 = (D d).2.2.2 i - 3 from by omega] at t1
      refine wz_ld (256 * (D d).1 + (2 * ws_run (wt_d (Q (D d).1)) (wl_tl (D d).2.2.2 n i) 64 + ((D d).2.2.2 i - 3))) _ (nm_r (nI_1 i) (ih _ ?_)) (by omega) ?_ t1
      · rw [wl_tl_s, ws_run_app]
        have e : (D d).2.2.2 i = 3 ∨ (D d).2.2.2 i = 4 := by omega
        rcases e with e | e
        · rw [e, yg_sl3]; rfl
        · rw [e, yg_sl4]; rfl
      · rw [show (2 : Int32) = nI 2 from rfl, pk_mul, wz_256, nI_add, show (3 : Int32) = nI 3 from rfl, pk_sub (by omega)]
        congr 1
        omega
    · refine wz_in ((D d).2.2.2 i) ?_
      refine yg_read (wz_at _ (hT _ z)) b1 ok T (wl_tr_lt hn _) hr (nm_r (nI_1 i) (ih _ ?_))
      rw [wl_tl_s, ws_run_app]
      unfold wl_sl wl_sw
      rw [if_pos z]
def yg_bs (B : Nat → Int32) (n b : Nat) : Nat → Int32
  | 0 => 0
  | i + 1 => yg_bs B n b i + B (4 * b + i) * nI (wl_ln (wl_tr n i + 1))
theorem yg_bnd {post : Int32 → Prop} {b : Nat} (hn : n < 3375) (hbc : bc ≤ 3) (hb : b < bc) (hB : wr_YB bc B a_bounds) (hT : ∀ i, i < 3 → a_tried i = nI (wl_tr n i)) (K : post (wr_b (wr_bok B n b))) : wpY_isBound post (f_depth, f_termLength, f_demands, f_boundCount, f_known, f_found, f_least, a_sizes, a_empties, a_firsts, a_lasts, a_letters, a_behinds, a_steps, a_term, a_patterns, a_kepts, a_signs, a_signCounts, a_bounds, a_firstWords, a_sums, a_met, a_tried, a_seen, a_apart, a_counts, a_next) (nI b) := by
  refine pk_loop (fun m i x => wY_isBound_4 post (nI b) f_depth f_termLength f_demands f_boundCount f_known f_found f_least a_sizes a_empties a_firsts a_lasts a_letters a_behinds a_steps a_term a_patterns a_kepts a_signs a_signCounts a_bounds a_firstWords a_sums a_met a_tried a_seen a_apart a_counts a_next m x (nI i)) (fun i x => x = yg_bs B n b i) 3 0 0 (by omega) rfl ?_ ?_
  · intro m x I
    subst I
    have e3 : (4 : Int32) * nI b + 3 = nI (4 * b + 3) := wz_4m b 3
    have c := hB (4 * b + 3) (by omega)
    have e : yg_bs B n b 3 = B (4 * b) * nI (wl_ln (wl_tr n 0 + 1)) + B (4 * b + 1) * nI (wl_ln (wl_tr n 1 + 1)) + B (4 * b + 2) * nI (wl_ln (wl_tr n 2 + 1)) := by
      show 0 + B (4 * b) * _ + _ + _ = _
      rw [Int32.zero_add]
    refine br_t (nI_le (a := 3) (b := 3) (by omega) (by omega)) (wz_in (4 * b + 3) ?_ (by omega) e3)
    rw [wz_at (4 * b + 3) c e3, e]
    refine br_c (fun z => ?_) (fun z => ?_)
    · have : wr_bok B n b = false := decide_eq_false (Int32.not_le.mpr z)
      rw [this] at K; exact K
    · have : wr_bok B n b = true := decide_eq_true (Int32.not_lt.mp z)
      rw [this] at K; exact K
  · intro m i x hi I ih
    subst I
    refine br_f (nI_ge (b := 3) hi (by omega)) (wz_in (4 * b + i) (wz_in i (yg_lo (wz_at i (hT i hi)) (wl_tr_lt hn i) (nm_r (e' := yg_bs B n b (i + 1)) ?_ (nm_r (nI_1 i) (ih _ rfl))))) (by omega) (wz_4m b i))
    rw [wz_at (4 * b + i) (hB _ (by omega)) (wz_4m b i)]
    rfl
theorem yg_sol {post : Int32 → Prop} (hn : n < 3375) (o3 : wt_ok3 Q) (P : wr_YP Q a_sizes a_empties a_firsts a_lasts a_letters a_behinds) (T : wr_YT Q a_steps) (hdc : dc ≤ 6) (hbc : bc ≤ 3) (ho : ∀ d, d < dc → (D d).1 < 3 ∧ (D d).2.2.1 ≤ 4 ∧ ∀ i, i < (D d).2.2.1 → (D d).2.2.2 i < 5) (hD : wr_YD dc D a_signs a_signCounts a_patterns a_kepts) (hB : wr_YB bc B a_bounds) (hT : ∀ i, i < 3 → a_tried i = nI (wl_tr n i)) (K : post (wr_b (wr_sol Q dc D bc B n))) : wpY_solves post (f_depth, f_termLength, (nI dc), (nI bc), f_known, f_found, f_least, a_sizes, a_empties, a_firsts, a_lasts, a_letters, a_behinds, a_steps, a_term, a_patterns, a_kepts, a_signs, a_signCounts, a_bounds, a_firstWords, a_sums, a_met, a_tried, a_seen, a_apart, a_counts, a_next) := by
  unfold wr_sol at K
  refine pk_loop (fun m b (_ : Unit) => wY_solves_2 post f_depth f_termLength (nI dc) (nI bc) f_known f_found f_least a_sizes a_empties a_firsts a_lasts a_letters a_behinds a_steps a_term a_patterns a_kepts a_signs a_signCounts a_bounds a_firstWords a_sums a_met a_tried a_seen a_apart a_counts a_next m (nI b)) (fun b _ => wl_all (wr_bok B n) b = true) bc 0 () (by omega) rfl ?_ ?_
  · intro m _ I
    rw [I, Bool.true_and] at K
    refine br_t (nI_le (Nat.le_refl _) (by omega)) ?_
    refine pk_loop (fun m d (_ : Unit) => wY_solves_28 post f_depth f_termLength (nI dc) (nI bc) f_known f_found f_least a_sizes a_empties a_firsts a_lasts a_letters a_behinds a_steps a_term a_patterns a_kepts a_signs a_signCounts a_bounds a_firstWords a_sums a_met a_tried a_seen a_apart a_counts a_next m (nI d)) (fun d _ => wl_all (wr_dok Q D n) d = true) dc 0 () (by omega) rfl ?_ ?_
    · intro m _ I2
      rw [I2] at K
      exact br_t (nI_le (Nat.le_refl _) (by omega)) K
    · intro m d _ hd I2 ih
      refine br_f (nI_ge hd (by omega)) (yg_kept hn o3 P T hdc hd (ho d hd) hD hT (wz_if _ (fun z => ?_) (fun z => nm_r (nI_1 d) (ih () ?_))))
      · rw [wl_all_f z dc hd] at K; exact K
      · rw [wl_all_s, I2, z]; rfl
  · intro m b _ hb I ih
    refine br_f (nI_ge hb (by omega)) (yg_bnd hn hbc hb hB hT (wz_if _ (fun z => ?_) (fun z => nm_r (nI_1 b) (ih () ?_))))
    · rw [wl_all_f z bc hb, Bool.false_and] at K; exact K
    · rw [wl_all_s, I, z]; rfl
end
end
section
/-! the reference: all trials -/
def yh_ps (n : Nat) : Nat → Nat
  | 0 => 0
  | i + 1 => yh_ps n i + wl_ln (wl_tr n i + 1)
theorem yh_ps3 (n : Nat) : yh_ps n 3 = wl_sm n := by
  show 0 + _ + _ + _ = _
  rw [Nat.zero_add]
  rfl
theorem yh_ps_le (n : Nat) : ∀ i, yh_ps n i ≤ 3 * i := by
  intro i
  induction i with
  | zero => exact Nat.le_refl 0
  | succ i ih =>
    have := wl_ln_3 (wl_tr n i + 1)
    show yh_ps n i + wl_ln (wl_tr n i + 1) ≤ _
    omega
section
variable {f_depth f_termLength f_demands f_boundCount f_known f_found f_least : Int32} {a_sizes a_empties a_firsts a_lasts a_letters a_behinds a_steps a_term a_patterns a_kepts a_signs a_signCounts a_bounds a_firstWords a_sums a_met a_tried a_seen a_apart a_counts a_next : Nat → Int32}
variable {sol : Nat → Bool} {n : Nat}
theorem yh_note {post : SY → Prop} (hn : n < 3375) (hs : sol n = true) (hT : ∀ i, i < 3 → a_tried i = nI (wl_tr n i)) (C : wr_C sol n f_found f_least a_firstWords a_sums a_met) (K : ∀ (fd ls : Int32) (fw sm mt : Nat → Int32), wr_C sol (n + 1) fd ls fw sm mt → post (f_depth, f_termLength, f_demands, f_boundCount, f_known, fd, ls, a_sizes, a_empties, a_firsts, a_lasts, a_letters, a_behinds, a_steps, a_term, a_patterns, a_kepts, a_signs, a_signCounts, a_bounds, fw, sm, mt, a_tried, a_seen, a_apart, a_counts, a_next)) : wpY_note post (f_depth, f_termLength, f_demands, f_boundCount, f_known, f_found, f_least, a_sizes, a_empties, a_firsts, a_lasts, a_letters, a_behinds, a_steps, a_term, a_patterns, a_kepts, a_signs, a_signCounts, a_bounds, a_firstWords, a_sums, a_met, a_tried, a_seen, a_apart, a_counts, a_next) := by
  obtain ⟨C1, C2, C3, C4, C5⟩ := C
  subst C1 C2
  have h9 := wl_sm_9 n
  refine pk_loop (fun m i (s : Int32 × (Nat → Int32)) => wY_note_4 post f_depth f_termLength f_demands f_boundCount f_known (nI (ws_cnt sol n)) (nI (wl_lo 100 (wl_fs sol n))) m s.1 (nI i) a_sizes a_empties a_firsts a_lasts a_letters a_behinds a_steps a_term a_patterns a_kepts a_signs a_signCounts a_bounds a_firstWords a_sums s.2 a_tried a_seen a_apart a_counts a_next) (fun i s => s.1 = nI (yh_ps n i) ∧ (∀ j, j < i → s.2 j = nI (wl_M sol j (n + 1))) ∧ ∀ j, i ≤ j → s.2 j = a_met j) 3 0 (0, a_met) (by omega) ⟨rfl, fun j hj => absurd hj (by omega), fun _ _ => rfl⟩ ?_ ?_
  · intro m s I
    obtain ⟨I1, I2, I3⟩ := I
    rw [yh_ps3] at I1
    have hlo : wl_lo 100 (wl_fs sol n) ≤ 100 := by
      cases h : wl_fs sol n with
      | none => exact Nat.le_refl 100
      | some j => exact Nat.le_trans (wl_sm_9 j) (by decide)
    have hsum : ∀ t, t < 10 → upd a_sums (wl_sm n) (a_sums (wl_sm n) + 1) t = nI (ws_cnt (fun j => sol j && decide (wl_sm j = t)) (n + 1)) := by
      intro t ht
      rw [ws_cnt_s, hs, Bool.true_and]
      by_cases z : t = wl_sm n
      · subst z
        rw [pk_us, C4 _ ht, decide_eq_true rfl, if_pos rfl, nI_1]
      · rw [pk_un z, C4 _ ht, decide_eq_false (fun y => z y.symm), if_neg Bool.false_ne_true]
    have hfd : nI (ws_cnt sol n) + 1 = nI (ws_cnt sol (n + 1)) := by rw [nI_1, ws_cnt_s, hs, if_pos rfl]
    refine br_t (nI_le (a := 3) (b := 3) (by omega) (by omega)) (nm_r hfd ?_)
    rw [I1]
    refine wz_in (wl_sm n) (wz_st (wl_sm n) (a_sums (wl_sm n) + 1) ?_ (by omega) rfl (by rw [nI_clamp (by omega)]))
    by_cases hlt : wl_sm n < wl_lo 100 (wl_fs sol n)
    · have hfs : wl_fs sol (n + 1) = some n := by rw [wl_fs_s, if_pos ⟨hs, hlt⟩]
      refine pk_loop (fun m i fw => wY_note_71 post (nI (wl_sm n)) f_depth f_termLength f_demands f_boundCount f_known (nI (ws_cnt sol (n + 1))) (nI (wl_lo 100 (wl_fs sol n))) m (nI i) a_sizes a_empties a_firsts a_lasts a_letters a_behinds a_steps a_term a_patterns a_kepts a_signs a_signCounts a_bounds fw (upd a_sums (wl_sm n) (a_sums (wl_sm n) + 1)) s.2 a_tried a_seen a_apart a_counts a_next) (fun i fw => ∀ j, j < i → fw j = nI (wl_tr n j)) 3 0 a_firstWords (by omega) (fun j hj => absurd hj (by omega)) ?_ ?_
      · intro m fw I
        refine br_t (nI_le (a := 3) (b := 3) (by omega) (by omega)) (br_f (nI_ge hlt (by omega)) (K _ _ fw _ s.2 ⟨rfl, ?_, ?_, hsum, I2⟩))
        · rw [hfs]; rfl
        · intro j hj
          rw [hfs] at hj
          cases hj
          exact I
      · intro m i fw hi I ih
        refine br_f (nI_ge (b := 3) hi (by omega)) (br_f (nI_ge hlt (by omega)) (wz_in i (wz_st i (nI (wl_tr n i)) (nm_r (nI_1 i) (ih _ ?_)) (by omega) rfl (wz_at i (hT i hi)))))
        intro j hj
        by_cases z : j = i
        · subst z; exact pk_us
        · rw [pk_un z]; exact I j (by omega)
    · have hfs : wl_fs sol (n + 1) = wl_fs sol n := by rw [wl_fs_s, if_neg (fun y => hlt y.2)]
      refine ⟨1, br_f (nI_ge (a := 0) (b := 3) (by omega) (by omega)) (br_t (nI_le (by omega) (by omega)) (br_t (nI_le (by omega) (by omega)) (K _ _ a_firstWords _ s.2 ⟨rfl, ?_, ?_, hsum, I2⟩)))⟩
      · rw [hfs]
      · rw [hfs]; exact C3
  · intro m i s hi I ih
    obtain ⟨I1, I2, I3⟩ := I
    have ht := wl_tr_lt hn i
    have eT := wz_at i (hT i hi)
    refine br_f (nI_ge (b := 3) hi (by omega)) (wz_in i (yg_lo eT ht ?_))
    refine nm_r (e' := nI (yh_ps n (i + 1))) (by rw [I1, nI_add]; rfl) (wz_in i (wz_in i (wz_st i (nI (wl_M sol i (n + 1))) (nm_r (nI_1 i) (ih (nI (yh_ps n (i + 1)), upd s.2 i (nI (wl_M sol i (n + 1)))) ⟨rfl, ?_, ?_⟩)) (by omega) rfl ?_)))
    · intro j hj
      dsimp only
      by_cases z : j = i
      · subst z; exact pk_us
      · rw [pk_un z]; exact I2 j (by omega)
    · intro j hj
      dsimp only
      rw [pk_un (by omega)]; exact I3 j (by omega)
    · rw [eT, wz_at i ((I3 i (Nat.le_refl i)).trans (C5 i hi)), wr_one (by omega), wr_or, wl_M_s, hs, if_pos rfl]
theorem yh_skip {fd ls : Int32} {fw sm mt : Nat → Int32} (hs : sol n = false) (C : wr_C sol n fd ls fw sm mt) : wr_C sol (n + 1) fd ls fw sm mt := by
  obtain ⟨C1, C2, C3, C4, C5⟩ := C
  have hfs : wl_fs sol (n + 1) = wl_fs sol n := by rw [wl_fs_s, if_neg (fun y => by rw [hs] at y; exact absurd y.1 Bool.false_ne_true)]
  refine ⟨?_, ?_, ?_, ?_, ?_⟩
  · rw [ws_cnt_s, hs, if_neg Bool.false_ne_true]; exact C1
  · rw [hfs]; exact C2
  · rw [hfs]; exact C3
  · intro t ht
    rw [ws_cnt_s, hs, Bool.false_and, if_neg Bool.false_ne_true]; exact C4 t ht
  · intro i hi
    rw [wl_M_s, hs, if_neg Bool.false_ne_true]; exact C5 i hi
variable {Q : Nat → ws_Pat} {dc bc : Nat} {D : Nat → wr_Dem} {B : Nat → Int32}
theorem yh_try {post : SY → Prop} (o3 : wt_ok3 Q) (P : wr_YP Q a_sizes a_empties a_firsts a_lasts a_letters a_behinds) (T : wr_YT Q a_steps) (hdc : dc ≤ 6) (hbc : bc ≤ 3) (ho : ∀ d, d < dc → (D d).1 < 3 ∧ (D d).2.2.1 ≤ 4 ∧ ∀ i, i < (D d).2.2.1 → (D d).2.2.2 i < 5) (hD : wr_YD dc D a_signs a_signCounts a_patterns a_kepts) (hB : wr_YB bc B a_bounds) (hc : f_known = 0 ∨ (f_known = 1 ∧ wr_C (wr_sol Q dc D bc B) 3375 f_found f_least a_firstWords a_sums a_met)) (K : ∀ (fd ls : Int32) (fw sm mt tr : Nat → Int32), wr_C (wr_sol Q dc D bc B) 3375 fd ls fw sm mt → post (f_depth, f_termLength, (nI dc), (nI bc), 1, fd, ls, a_sizes, a_empties, a_firsts, a_lasts, a_letters, a_behinds, a_steps, a_term, a_patterns, a_kepts, a_signs, a_signCounts, a_bounds, fw, sm, mt, tr, a_seen, a_apart, a_counts, a_next)) : wpY_tryAll post (f_depth, f_termLength, (nI dc), (nI bc), f_known, f_found, f_least, a_sizes, a_empties, a_firsts, a_lasts, a_letters, a_behinds, a_steps, a_term, a_patterns, a_kepts, a_signs, a_signCounts, a_bounds, a_firstWords, a_sums, a_met, a_tried, a_seen, a_apart, a_counts, a_next) := by
  rcases hc with hc | ⟨hc, C⟩
  · subst hc
    refine br_t rfl ?_
    refine pk_loop (fun m i sm => wY_tryAll_21 post f_depth f_termLength (nI dc) (nI bc) 0 0 100 m (nI i) a_sizes a_empties a_firsts a_lasts a_letters a_behinds a_steps a_term a_patterns a_kepts a_signs a_signCounts a_bounds a_firstWords sm a_met a_tried a_seen a_apart a_counts a_next) (fun i sm => ∀ t, t < i → sm t = 0) 10 0 a_sums (by omega) (fun t ht => absurd ht (by omega)) ?_ ?_
    · intro m sm I
      refine br_t (nI_le (a := 10) (b := 10) (by omega) (by omega)) ?_
      refine pk_loop (fun m i mt => wY_tryAll_42 post f_depth f_termLength (nI dc) (nI bc) 0 0 100 m (nI i) a_sizes a_empties a_firsts a_lasts a_letters a_behinds a_steps a_term a_patterns a_kepts a_signs a_signCounts a_bounds a_firstWords sm mt a_tried a_seen a_apart a_counts a_next) (fun i mt => ∀ t, t < i → mt t = 0) 3 0 a_met (by omega) (fun t ht => absurd ht (by omega)) ?_ ?_
      · intro m mt I2
        refine br_t (nI_le (a := 3) (b := 3) (by omega) (by omega)) ?_
        refine pk_loop (fun m n (s : Int32 × Int32 × (Nat → Int32) × (Nat → Int32) × (Nat → Int32) × (Nat → Int32)) => wY_tryAll_62 post m (nI n) f_depth f_termLength (nI dc) (nI bc) 0 s.1 s.2.1 a_sizes a_empties a_firsts a_lasts a_letters a_behinds a_steps a_term a_patterns a_kepts a_signs a_signCounts a_bounds s.2.2.1 s.2.2.2.1 s.2.2.2.2.1 s.2.2.2.2.2 a_seen a_apart a_counts a_next) (fun n s => wr_C (wr_sol Q dc D bc B) n s.1 s.2.1 s.2.2.1 s.2.2.2.1 s.2.2.2.2.1) 3375 0 (0, 100, a_firstWords, sm, mt, a_tried) (by omega) ⟨rfl, rfl, fun j hj => absurd hj (by intro z; cases z), I, I2⟩ ?_ ?_
        · intro m s C
          exact br_t (nI_le (a := 3375) (b := 3375) (by omega) (by omega)) (K _ _ _ _ _ _ C)
        · intro m n s hn C ih
          have hT : ∀ i, i < 3 → upd (upd (upd s.2.2.2.2.2 0 (nI n / 225)) 1 (nI n / 15 - nI n / 15 / 15 * 15)) 2 (nI n - nI n / 15 * 15) i = nI (wl_tr n i) := by
            intro i hi
            have e : i = 0 ∨ i = 1 ∨ i = 2 := by omega
            rcases e with rfl | rfl | rfl
            · rw [pk_un (by omega), pk_un (by omega), pk_us]
              exact pk_div (d := 225) (by omega) (by omega) (by omega)
            · rw [pk_un (by omega), pk_us, show nI n / 15 = nI (n / 15) from pk_div (d := 15) (by omega) (by omega) (by omega)]
              exact pk_rem (d := 15) (by omega) (by omega) (by omega)
            · rw [pk_us]
              exact pk_rem (d := 15) (by omega) (by omega) (by omega)
          refine br_f (nI_ge (b := 3375) hn (by omega)) ⟨by decide, nm_e ⟨by decide, by decide, nm_e ⟨by decide, nm_e ?_⟩⟩⟩
          refine yg_sol hn o3 P T hdc hbc ho hD hB hT (wz_if _ (fun z => nm_r (nI_1 n) (ih (s.1, s.2.1, s.2.2.1, s.2.2.2.1, s.2.2.2.2.1, upd (upd (upd s.2.2.2.2.2 0 (nI n / 225)) 1 (nI n / 15 - nI n / 15 / 15 * 15)) 2 (nI n - nI n / 15 * 15)) (yh_skip z C))) (fun z => ?_))
          exact yh_note hn z hT C (fun fd ls fw sm mt C' => nm_r (nI_1 n) (ih (fd, ls, fw, sm, mt, upd (upd (upd s.2.2.2.2.2 0 (nI n / 225)) 1 (nI n / 15 - nI n / 15 / 15 * 15)) 2 (nI n - nI n / 15 * 15)) C'))
      · intro m i mt hi I2 ih
        refine br_f (nI_ge (b := 3) hi (by omega)) (wz_st i 0 (nm_r (nI_1 i) (ih _ ?_)))
        intro j hj
        by_cases z : j = i
        · subst z; exact pk_us
        · rw [pk_un z]; exact I2 j (by omega)
    · intro m i sm hi I ih
      refine br_f (nI_ge (b := 10) hi (by omega)) (wz_st i 0 (nm_r (nI_1 i) (ih _ ?_)))
      intro j hj
      by_cases z : j = i
      · subst z; exact pk_us
      · rw [pk_un z]; exact I j (by omega)
  · subst hc
    exact br_f (by decide) (K _ _ _ _ _ _ C)
theorem yh_sols {post : Int32 → SY → Prop} (o3 : wt_ok3 Q) (P : wr_YP Q a_sizes a_empties a_firsts a_lasts a_letters a_behinds) (T : wr_YT Q a_steps) (hdc : dc ≤ 6) (hbc : bc ≤ 3) (ho : ∀ d, d < dc → (D d).1 < 3 ∧ (D d).2.2.1 ≤ 4 ∧ ∀ i, i < (D d).2.2.1 → (D d).2.2.2 i < 5) (hD : wr_YD dc D a_signs a_signCounts a_patterns a_kepts) (hB : wr_YB bc B a_bounds) (hc : f_known = 0 ∨ (f_known = 1 ∧ wr_C (wr_sol Q dc D bc B) 3375 f_found f_least a_firstWords a_sums a_met)) (K : ∀ (r : Int32) (fd ls : Int32) (fw sm mt tr : Nat → Int32), wr_C (wr_sol Q dc D bc B) 3375 fd ls fw sm mt → r = nI (ws_cnt (wr_sol Q dc D bc B) 3375) → post r (f_depth, f_termLength, (nI dc), (nI bc), 1, fd, ls, a_sizes, a_empties, a_firsts, a_lasts, a_letters, a_behinds, a_steps, a_term, a_patterns, a_kepts, a_signs, a_signCounts, a_bounds, fw, sm, mt, tr, a_seen, a_apart, a_counts, a_next)) : wpY_solutions post (f_depth, f_termLength, (nI dc), (nI bc), f_known, f_found, f_least, a_sizes, a_empties, a_firsts, a_lasts, a_letters, a_behinds, a_steps, a_term, a_patterns, a_kepts, a_signs, a_signCounts, a_bounds, a_firstWords, a_sums, a_met, a_tried, a_seen, a_apart, a_counts, a_next) := by
  unfold wpY_solutions
  refine yh_try o3 P T hdc hbc ho hD hB hc (fun fd ls fw sm mt tr C => ?_)
  exact K _ _ _ _ _ _ _ C C.1
theorem yh_len {post : Int32 → SY → Prop} {i : Nat} (hi : i < 3) (o3 : wt_ok3 Q) (P : wr_YP Q a_sizes a_empties a_firsts a_lasts a_letters a_behinds) (T : wr_YT Q a_steps) (hdc : dc ≤ 6) (hbc : bc ≤ 3) (ho : ∀ d, d < dc → (D d).1 < 3 ∧ (D d).2.2.1 ≤ 4 ∧ ∀ i, i < (D d).2.2.1 → (D d).2.2.2 i < 5) (hD : wr_YD dc D a_signs a_signCounts a_patterns a_kepts) (hB : wr_YB bc B a_bounds) (hc : f_known = 0 ∨ (f_known = 1 ∧ wr_C (wr_sol Q dc D bc B) 3375 f_found f_least a_firstWords a_sums a_met)) (K : ∀ (r : Int32) (fd ls : Int32) (fw sm mt tr : Nat → Int32), wr_C (wr_sol Q dc D bc B) 3375 fd ls fw sm mt → (wl_fs (wr_sol Q dc D bc B) 3375 = none → r = -4) → (∀ j, j < 3375 → wl_fs (wr_sol Q dc D bc B) 3375 = some j → r = nI (wl_ln (wl_tr j i + 1))) → post r (f_depth, f_termLength, (nI dc), (nI bc), 1, fd, ls, a_sizes, a_empties, a_firsts, a_lasts, a_letters, a_behinds, a_steps, a_term, a_patterns, a_kepts, a_signs, a_signCounts, a_bounds, fw, sm, mt, tr, a_seen, a_apart, a_counts, a_next)) : wpY_length post (f_depth, f_termLength, (nI dc), (nI bc), f_known, f_found, f_least, a_sizes, a_empties, a_firsts, a_lasts, a_letters, a_behinds, a_steps, a_term, a_patterns, a_kepts, a_signs, a_signCounts, a_bounds, a_firstWords, a_sums, a_met, a_tried, a_seen, a_apart, a_counts, a_next) (nI i) := by
  unfold wpY_length
  refine br_f (nI_pos (by omega)) (br_f (nI_nlt (a := 2) (b := i) (by omega) (by omega)) (br_f (by decide) ?_))
  refine yh_try o3 P T hdc hbc ho hD hB hc (fun fd ls fw sm mt tr C => ?_)
  have hcl := ws_cnt_le (wr_sol Q dc D bc B) 3375
  refine pk_eq (ws_cnt (wr_sol Q dc D bc B) 3375) 0 (fun z => ?_) (fun z => ?_) C.1
  · have e := (wl_fs_none (wr_sol Q dc D bc B) 3375).mpr z
    exact K _ _ _ _ _ _ _ C (fun _ => rfl) (fun j _ hj => by rw [e] at hj; cases hj)
  · cases e : wl_fs (wr_sol Q dc D bc B) 3375 with
    | none => exact absurd ((wl_fs_none _ _).mp e) z
    | some j =>
      have hj := wl_fs_lt _ _ _ e
      refine wz_in i (yg_lo (wz_at i (C.2.2.1 j e i hi)) (wl_tr_lt hj i) (K _ _ _ _ _ _ _ C (fun y => by rw [e] at y; cases y) (fun j' _ hj' => ?_)))
      rw [e] at hj'
      cases hj'
      rfl
theorem yh_let {post : Int32 → SY → Prop} {i : Nat} {v : Int32} (hi : i < 3) (o3 : wt_ok3 Q) (P : wr_YP Q a_sizes a_empties a_firsts a_lasts a_letters a_behinds) (T : wr_YT Q a_steps) (hdc : dc ≤ 6) (hbc : bc ≤ 3) (ho : ∀ d, d < dc → (D d).1 < 3 ∧ (D d).2.2.1 ≤ 4 ∧ ∀ i, i < (D d).2.2.1 → (D d).2.2.2 i < 5) (hD : wr_YD dc D a_signs a_signCounts a_patterns a_kepts) (hB : wr_YB bc B a_bounds) (hc : f_known = 0 ∨ (f_known = 1 ∧ wr_C (wr_sol Q dc D bc B) 3375 f_found f_least a_firstWords a_sums a_met)) (K : ∀ (r : Int32) (fd ls : Int32) (fw sm mt tr : Nat → Int32), wr_C (wr_sol Q dc D bc B) 3375 fd ls fw sm mt → (wl_fs (wr_sol Q dc D bc B) 3375 = none → r = -4) → (∀ j, j < 3375 → wl_fs (wr_sol Q dc D bc B) 3375 = some j → (v < 0 → r = -4) ∧ (∀ p, p < 2 ^ 31 → v = nI p → wl_ln (wl_tr j i + 1) ≤ p → r = -4) ∧ (∀ p, v = nI p → p < wl_ln (wl_tr j i + 1) → r = nI ((wl_tr j i + 1) / 2 ^ (wl_ln (wl_tr j i + 1) - 1 - p) % 2))) → post r (f_depth, f_termLength, (nI dc), (nI bc), 1, fd, ls, a_sizes, a_empties, a_firsts, a_lasts, a_letters, a_behinds, a_steps, a_term, a_patterns, a_kepts, a_signs, a_signCounts, a_bounds, fw, sm, mt, tr, a_seen, a_apart, a_counts, a_next)) : wpY_letter post (f_depth, f_termLength, (nI dc), (nI bc), f_known, f_found, f_least, a_sizes, a_empties, a_firsts, a_lasts, a_letters, a_behinds, a_steps, a_term, a_patterns, a_kepts, a_signs, a_signCounts, a_bounds, a_firstWords, a_sums, a_met, a_tried, a_seen, a_apart, a_counts, a_next) (nI i) v := by
  unfold wpY_letter
  refine br_f (nI_pos (by omega)) (br_f (nI_nlt (a := 2) (b := i) (by omega) (by omega)) (br_f (by decide) ?_))
  refine yh_try o3 P T hdc hbc ho hD hB hc (fun fd ls fw sm mt tr C => ?_)
  have hcl := ws_cnt_le (wr_sol Q dc D bc B) 3375
  refine pk_eq (ws_cnt (wr_sol Q dc D bc B) 3375) 0 (fun z => ?_) (fun z => ?_) C.1
  · have e := (wl_fs_none (wr_sol Q dc D bc B) 3375).mpr z
    exact K _ _ _ _ _ _ _ C (fun _ => rfl) (fun j _ hj => by rw [e] at hj; cases hj)
  · cases e : wl_fs (wr_sol Q dc D bc B) 3375 with
    | none => exact absurd ((wl_fs_none _ _).mp e) z
    | some j =>
      have hj := wl_fs_lt _ _ _ e
      have ht := wl_tr_lt hj i
      have h3 := wl_ln_3 (wl_tr j i + 1)
      have ew := wz_at i (C.2.2.1 j e i hi)
      by_cases hv : v < 0
      · refine br_t hv (K _ _ _ _ _ _ _ C (fun _ => rfl) (fun j' _ hj' => ⟨fun _ => rfl, fun _ _ _ _ => rfl, fun p hp hl => ?_⟩))
        exfalso
        have h3' := wl_ln_3 (wl_tr j' i + 1)
        subst hp
        exact nI_pos (by omega) hv
      · obtain ⟨p, hp, rfl⟩ := nI_of hv
        refine br_f hv (wz_in i (yg_lo ew ht (pk_lt p (wl_ln (wl_tr j i + 1)) (fun w => wz_in i (yg_let ew ht w (K _ _ _ _ _ _ _ C (fun y => by rw [e] at y; cases y) (fun j' _ hj' => ?_)))) (fun w => K _ _ _ _ _ _ _ C (fun _ => rfl) (fun j' _ hj' => ?_)))))
        · rw [e] at hj'
          cases hj'
          refine ⟨fun y => absurd y hv, fun q hq1 hq2 hq3 => ?_, fun q hq1 hq2 => ?_⟩
          · have := (nI_eq hp hq1).mp hq2
            omega
          · have := (nI_eq hp (by omega)).mp hq1
            subst this
            rfl
        · rw [e] at hj'
          cases hj'
          refine ⟨fun _ => rfl, fun _ _ _ _ => rfl, fun q hq1 hq2 => ?_⟩
          have := (nI_eq hp (by omega)).mp hq1
          omega
theorem yh_lens {post : Int32 → SY → Prop} {i : Nat} (hi : i < 3) (o3 : wt_ok3 Q) (P : wr_YP Q a_sizes a_empties a_firsts a_lasts a_letters a_behinds) (T : wr_YT Q a_steps) (hdc : dc ≤ 6) (hbc : bc ≤ 3) (ho : ∀ d, d < dc → (D d).1 < 3 ∧ (D d).2.2.1 ≤ 4 ∧ ∀ i, i < (D d).2.2.1 → (D d).2.2.2 i < 5) (hD : wr_YD dc D a_signs a_signCounts a_patterns a_kepts) (hB : wr_YB bc B a_bounds) (hc : f_known = 0 ∨ (f_known = 1 ∧ wr_C (wr_sol Q dc D bc B) 3375 f_found f_least a_firstWords a_sums a_met)) (K : ∀ (r : Int32) (fd ls : Int32) (fw sm mt tr : Nat → Int32), wr_C (wr_sol Q dc D bc B) 3375 fd ls fw sm mt → r = nI (wl_S (wr_sol Q dc D bc B) i 3375) → post r (f_depth, f_termLength, (nI dc), (nI bc), 1, fd, ls, a_sizes, a_empties, a_firsts, a_lasts, a_letters, a_behinds, a_steps, a_term, a_patterns, a_kepts, a_signs, a_signCounts, a_bounds, fw, sm, mt, tr, a_seen, a_apart, a_counts, a_next)) : wpY_lengths post (f_depth, f_termLength, (nI dc), (nI bc), f_known, f_found, f_least, a_sizes, a_empties, a_firsts, a_lasts, a_letters, a_behinds, a_steps, a_term, a_patterns, a_kepts, a_signs, a_signCounts, a_bounds, a_firstWords, a_sums, a_met, a_tried, a_seen, a_apart, a_counts, a_next) (nI i) := by
  unfold wpY_lengths
  refine br_f (nI_pos (by omega)) (br_f (nI_nlt (a := 2) (b := i) (by omega) (by omega)) (br_f (by decide) ?_))
  refine yh_try o3 P T hdc hbc ho hD hB hc (fun fd ls fw sm mt tr C => ?_)
  have hM := wl_M_lt (wr_sol Q dc D bc B) i 3375 (by omega)
  have eM := C.2.2.2.2 i hi
  refine pk_loop (fun m w x => wY_lengths_18 post (nI i) f_depth f_termLength (nI dc) (nI bc) 1 fd ls a_sizes a_empties a_firsts a_lasts a_letters a_behinds a_steps a_term a_patterns a_kepts a_signs a_signCounts a_bounds fw sm mt tr a_seen a_apart a_counts a_next m x (nI w)) (fun w x => x = nI (ws_or 0 (fun w => 2 ^ wl_ln (w + 1)) (wl_M (wr_sol Q dc D bc B) i 3375) w)) 15 0 0 (by omega) rfl ?_ ?_
  · intro m x I
    subst I
    refine br_t (nI_le (a := 15) (b := 15) (by omega) (by omega)) (K _ _ _ _ _ _ _ C ?_)
    rw [wl_S_M _ _ 3375 (by omega)]
  · intro m w x hw I ih
    subst I
    have h3 := wl_ln_3 (w + 1)
    refine br_f (nI_ge (b := 15) hw (by omega)) (wz_in i (wz_tb ((wl_M (wr_sol Q dc D bc B) i 3375).testBit w) (fun z => ?_) (fun z => ?_) ?_))
    · refine yg_lo rfl hw (nm_r (e' := nI (ws_or 0 (fun w => 2 ^ wl_ln (w + 1)) (wl_M (wr_sol Q dc D bc B) i 3375) (w + 1))) ?_ (nm_r (nI_1 w) (ih _ rfl)))
      rw [wr_one (by omega), wr_or, ws_or_s, if_pos z]
    · refine nm_r (nI_1 w) (ih _ ?_)
      rw [ws_or_s, if_neg (by rw [z]; exact Bool.false_ne_true)]
    · rw [wz_at i eM]
      exact wr_bit1 (by omega) (by omega)
theorem yh_dif {post : Int32 → SY → Prop} {i : Nat} (hi : i < 3) (o3 : wt_ok3 Q) (P : wr_YP Q a_sizes a_empties a_firsts a_lasts a_letters a_behinds) (T : wr_YT Q a_steps) (hdc : dc ≤ 6) (hbc : bc ≤ 3) (ho : ∀ d, d < dc → (D d).1 < 3 ∧ (D d).2.2.1 ≤ 4 ∧ ∀ i, i < (D d).2.2.1 → (D d).2.2.2 i < 5) (hD : wr_YD dc D a_signs a_signCounts a_patterns a_kepts) (hB : wr_YB bc B a_bounds) (hc : f_known = 0 ∨ (f_known = 1 ∧ wr_C (wr_sol Q dc D bc B) 3375 f_found f_least a_firstWords a_sums a_met)) (K : ∀ (r : Int32) (fd ls : Int32) (fw sm mt tr : Nat → Int32), wr_C (wr_sol Q dc D bc B) 3375 fd ls fw sm mt → r = nI (ws_cnt (fun w => (wl_M (wr_sol Q dc D bc B) i 3375).testBit w) 15) → post r (f_depth, f_termLength, (nI dc), (nI bc), 1, fd, ls, a_sizes, a_empties, a_firsts, a_lasts, a_letters, a_behinds, a_steps, a_term, a_patterns, a_kepts, a_signs, a_signCounts, a_bounds, fw, sm, mt, tr, a_seen, a_apart, a_counts, a_next)) : wpY_different post (f_depth, f_termLength, (nI dc), (nI bc), f_known, f_found, f_least, a_sizes, a_empties, a_firsts, a_lasts, a_letters, a_behinds, a_steps, a_term, a_patterns, a_kepts, a_signs, a_signCounts, a_bounds, a_firstWords, a_sums, a_met, a_tried, a_seen, a_apart, a_counts, a_next) (nI i) := by
  unfold wpY_different
  refine br_f (nI_pos (by omega)) (br_f (nI_nlt (a := 2) (b := i) (by omega) (by omega)) (br_f (by decide) ?_))
  refine yh_try o3 P T hdc hbc ho hD hB hc (fun fd ls fw sm mt tr C => ?_)
  have hM := wl_M_lt (wr_sol Q dc D bc B) i 3375 (by omega)
  have eM := C.2.2.2.2 i hi
  refine pk_loop (fun m w x => wY_different_18 post (nI i) f_depth f_termLength (nI dc) (nI bc) 1 fd ls a_sizes a_empties a_firsts a_lasts a_letters a_behinds a_steps a_term a_patterns a_kepts a_signs a_signCounts a_bounds fw sm mt tr a_seen a_apart a_counts a_next m x (nI w)) (fun w x => x = nI (ws_cnt (fun w => (wl_M (wr_sol Q dc D bc B) i 3375).testBit w) w)) 15 0 0 (by omega) rfl ?_ ?_
  · intro m x I
    subst I
    exact br_t (nI_le (a := 15) (b := 15) (by omega) (by omega)) (K _ _ _ _ _ _ _ C rfl)
  · intro m w x hw I ih
    subst I
    refine br_f (nI_ge (b := 15) hw (by omega)) (wz_in i (nm_r (e' := nI (ws_cnt (fun w => (wl_M (wr_sol Q dc D bc B) i 3375).testBit w) (w + 1))) ?_ (nm_r (nI_1 w) (ih _ rfl))))
    rw [wz_at i eM, wr_bit (by omega) (by omega), nI_add, ws_cnt_s, Nat.testBit_eq_decide_div_mod_eq]
    have hc2 : wl_M (wr_sol Q dc D bc B) i 3375 / 2 ^ w % 2 = 0 ∨ wl_M (wr_sol Q dc D bc B) i 3375 / 2 ^ w % 2 = 1 := by omega
    rcases hc2 with hc2 | hc2
    · rw [hc2]; rfl
    · rw [hc2]; rfl
theorem yh_ofl {post : Int32 → SY → Prop} {v : Int32} (o3 : wt_ok3 Q) (P : wr_YP Q a_sizes a_empties a_firsts a_lasts a_letters a_behinds) (T : wr_YT Q a_steps) (hdc : dc ≤ 6) (hbc : bc ≤ 3) (ho : ∀ d, d < dc → (D d).1 < 3 ∧ (D d).2.2.1 ≤ 4 ∧ ∀ i, i < (D d).2.2.1 → (D d).2.2.2 i < 5) (hD : wr_YD dc D a_signs a_signCounts a_patterns a_kepts) (hB : wr_YB bc B a_bounds) (hc : f_known = 0 ∨ (f_known = 1 ∧ wr_C (wr_sol Q dc D bc B) 3375 f_found f_least a_firstWords a_sums a_met)) (K : ∀ (r : Int32) (fd ls : Int32) (fw sm mt tr : Nat → Int32), wr_C (wr_sol Q dc D bc B) 3375 fd ls fw sm mt → r = nI (ws_cnt (fun j => wr_sol Q dc D bc B j && decide (nI (wl_sm j) = v)) 3375) → post r (f_depth, f_termLength, (nI dc), (nI bc), 1, fd, ls, a_sizes, a_empties, a_firsts, a_lasts, a_letters, a_behinds, a_steps, a_term, a_patterns, a_kepts, a_signs, a_signCounts, a_bounds, fw, sm, mt, tr, a_seen, a_apart, a_counts, a_next)) : wpY_ofLength post (f_depth, f_termLength, (nI dc), (nI bc), f_known, f_found, f_least, a_sizes, a_empties, a_firsts, a_lasts, a_letters, a_behinds, a_steps, a_term, a_patterns, a_kepts, a_signs, a_signCounts, a_bounds, a_firstWords, a_sums, a_met, a_tried, a_seen, a_apart, a_counts, a_next) v := by
  unfold wpY_ofLength
  refine yh_try o3 P T hdc hbc ho hD hB hc (fun fd ls fw sm mt tr C => ?_)
  have h9 := wl_sm_9
  by_cases hv : v < 0
  · refine br_t hv (K _ _ _ _ _ _ _ C ?_)
    rw [ws_cnt_0 _ 3375 (fun j _ => ?_)]
    · rfl
    · rw [decide_eq_false, Bool.and_false]
      intro y
      subst y
      exact nI_pos (by have := h9 j; omega) hv
  · obtain ⟨p, hp, rfl⟩ := nI_of hv
    have e : (fun j => wr_sol Q dc D bc B j && decide (nI (wl_sm j) = nI p)) = (fun j => wr_sol Q dc D bc B j && decide (wl_sm j = p)) := by
      funext j
      congr 1
      rw [decide_eq_decide]
      exact nI_eq (by have := h9 j; omega) hp
    rw [e] at K
    refine br_f hv (pk_le p 9 (fun z => wz_in p (K _ _ _ _ _ _ _ C ?_)) (fun z => K _ _ _ _ _ _ _ C ?_))
    · rw [nI_clamp hp]
      exact C.2.2.2.1 p (by omega)
    · rw [ws_cnt_0 _ 3375 (fun j _ => ?_)]
      · rfl
      · rw [decide_eq_false, Bool.and_false]
        have := h9 j
        omega
end
end
section
/-! sign, demand, bound on both sides -/
theorem zz_3 (x : Int32) : x < 0 ∨ (¬ x < 0 ∧ ¬ x < 3 ∧ 3 ≤ x ∧ 2 < x) ∨ ∃ k, k < 3 ∧ x = nI k := by
  by_cases h : x < 0
  · exact Or.inl h
  · obtain ⟨j, hj, rfl⟩ := nI_of h
    by_cases h3 : j < 3
    · exact Or.inr (Or.inr ⟨j, h3, rfl⟩)
    · exact Or.inr (Or.inl ⟨h, nI_nlt (b := 3) (by omega) hj, nI_le (a := 3) (by omega) hj, nI_lt (a := 2) (by omega) hj⟩)
section
variable {f_stacked f_signCount f_demandCount f_boundCount : Int32} {a_sizes a_withEmpty a_firsts a_lasts a_zeroReaders a_oneReaders a_followers a_placedSizes a_steps a_ends a_ways a_nextWays a_groups a_finerGroups a_reached a_signs a_demandSigns a_demandSignCounts a_demandPatterns a_demandKept a_boundA a_boundB a_boundC a_boundD : Nat → Int32}
variable {dc tc bc : Nat} {D : Nat → wr_Dem} {g : Nat → Nat} {B : Nat → Int32}
theorem zx_dem {post : Int32 → SX → Prop} {b : Bool} {k : Nat} (hk : k < 3) (hdc : dc < 6) (htc : tc ≤ 4) (hT : wr_T tc g a_signs) (hg : ∀ i, i < tc → g i < 5) (hD : wr_XD dc D a_demandSigns a_demandSignCounts a_demandPatterns a_demandKept) (K : ∀ sg sc pt kp : Nat → Int32, wr_XD (dc + 1) (wr_D D dc (k, b, tc, g)) sg sc pt kp → post (nI (dc + 1)) (f_stacked, 0, (nI (dc + 1)), f_boundCount, a_sizes, a_withEmpty, a_firsts, a_lasts, a_zeroReaders, a_oneReaders, a_followers, a_placedSizes, a_steps, a_ends, a_ways, a_nextWays, a_groups, a_finerGroups, a_reached, a_signs, sg, sc, pt, kp, a_boundA, a_boundB, a_boundC, a_boundD)) : wpX_demand post (f_stacked, (nI tc), (nI dc), f_boundCount, a_sizes, a_withEmpty, a_firsts, a_lasts, a_zeroReaders, a_oneReaders, a_followers, a_placedSizes, a_steps, a_ends, a_ways, a_nextWays, a_groups, a_finerGroups, a_reached, a_signs, a_demandSigns, a_demandSignCounts, a_demandPatterns, a_demandKept, a_boundA, a_boundB, a_boundC, a_boundD) (nI k) (wr_b b) := by
  refine br_f (nI_pos (by omega)) (br_f (nI_ge (b := 3) hk (by decide)) (br_f (by cases b <;> decide) (br_t (by cases b <;> decide) (br_t (nI_lt (b := 6) hdc (by decide)) ?_))))
  refine pk_loop (fun n i sg => wX_demand_34 post (nI k) (wr_b b) f_stacked (nI tc) (nI dc) f_boundCount n (nI i) a_sizes a_withEmpty a_firsts a_lasts a_zeroReaders a_oneReaders a_followers a_placedSizes a_steps a_ends a_ways a_nextWays a_groups a_finerGroups a_reached a_signs sg a_demandSignCounts a_demandPatterns a_demandKept a_boundA a_boundB a_boundC a_boundD) (fun i sg => (∀ j, j < i → sg (dc * 4 + j) = nI (g j)) ∧ ∀ j, j < dc * 4 → sg j = a_demandSigns j) tc 0 a_demandSigns (by omega) ⟨fun j hj => absurd hj (by omega), fun _ _ => rfl⟩ ?_ ?_
  · intro n sg I
    have fin : ∀ b' : Bool, b' = b → wX_demand_108 post (wr_b b') (nI dc) f_stacked (nI tc) (nI dc) f_boundCount a_sizes a_withEmpty a_firsts a_lasts a_zeroReaders a_oneReaders a_followers a_placedSizes a_steps a_ends a_ways a_nextWays a_groups a_finerGroups a_reached a_signs sg (upd a_demandSignCounts dc (nI tc)) (upd a_demandPatterns dc (nI k)) a_demandKept a_boundA a_boundB a_boundC a_boundD := by
      intro b' hb
      subst hb
      refine wz_st dc (wr_b b') (nm_r (nI_1 dc) (K _ _ _ _ ?_)) (by omega) rfl (wr_b_v b')
      intro d hd
      by_cases z : d = dc
      · subst z
        rw [wr_Ds]
        exact ⟨⟨hk, htc, hg⟩, pk_us, pk_us, pk_us, fun i hi => I.1 i hi⟩
      · rw [wr_Dn _ _ z]
        obtain ⟨q1, q2, q3, q4, q5⟩ := hD d (by omega)
        exact ⟨q1, (pk_un z).trans q2, (pk_un z).trans q3, (pk_un z).trans q4, fun i hi => (I.2 _ (by have := q1.2.1; omega)).trans (q5 i hi)⟩
    exact br_t (nI_le (Nat.le_refl _) (by omega)) (wz_st dc (nI tc) (wz_st dc (nI k) (wz_if1 b (fun z => fin true z.symm) (fun z => fin false z.symm))))
  · intro n i sg hi I ih
    refine br_f (nI_ge hi (by omega)) (wz_in i (wz_st (dc * 4 + i) (nI (g i)) (nm_r (nI_1 i) (ih _ ⟨?_, ?_⟩)) (by omega) (wz_m4 dc i) (wz_at i (hT i hi))))
    · intro j hj
      by_cases z : j = i
      · subst z; exact pk_us
      · rw [pk_un (by omega)]; exact I.1 j (by omega)
    · intro j hj
      rw [pk_un (by omega)]; exact I.2 j hj
theorem zx_sign {post : Int32 → SX → Prop} {w : Nat} (hw : w < 5) (htc : tc < 4) (K : post (nI (tc + 1)) (f_stacked, (nI (tc + 1)), f_demandCount, f_boundCount, a_sizes, a_withEmpty, a_firsts, a_lasts, a_zeroReaders, a_oneReaders, a_followers, a_placedSizes, a_steps, a_ends, a_ways, a_nextWays, a_groups, a_finerGroups, a_reached, (upd a_signs tc (nI w)), a_demandSigns, a_demandSignCounts, a_demandPatterns, a_demandKept, a_boundA, a_boundB, a_boundC, a_boundD)) : wpX_sign post (f_stacked, (nI tc), f_demandCount, f_boundCount, a_sizes, a_withEmpty, a_firsts, a_lasts, a_zeroReaders, a_oneReaders, a_followers, a_placedSizes, a_steps, a_ends, a_ways, a_nextWays, a_groups, a_finerGroups, a_reached, a_signs, a_demandSigns, a_demandSignCounts, a_demandPatterns, a_demandKept, a_boundA, a_boundB, a_boundC, a_boundD) (nI w) :=
  br_f (nI_pos (by omega)) (br_t (nI_le (b := 4) (by omega) (by decide)) (br_t (nI_lt (b := 4) htc (by decide)) (wz_st tc (nI w) (nm_r (nI_1 tc) K))))
end
section
variable {f_depth f_termLength f_demands f_boundCount f_known f_found f_least : Int32} {a_sizes a_empties a_firsts a_lasts a_letters a_behinds a_steps a_term a_patterns a_kepts a_signs a_signCounts a_bounds a_firstWords a_sums a_met a_tried a_seen a_apart a_counts a_next : Nat → Int32}
variable {dc tc bc : Nat} {D : Nat → wr_Dem} {g : Nat → Nat} {B : Nat → Int32}
theorem zy_dem {post : Int32 → SY → Prop} {b : Bool} {k : Nat} (hk : k < 3) (hdc : dc < 6) (htc : tc ≤ 4) (hT : wr_T tc g a_term) (hc : ∀ d, d < dc → (D d).2.2.1 ≤ 4) (hD : wr_YD dc D a_signs a_signCounts a_patterns a_kepts) (K : ∀ sg sc pt kp : Nat → Int32, wr_YD (dc + 1) (wr_D D dc (k, b, tc, g)) sg sc pt kp → post (nI (dc + 1)) (f_depth, 0, (nI (dc + 1)), f_boundCount, 0, f_found, f_least, a_sizes, a_empties, a_firsts, a_lasts, a_letters, a_behinds, a_steps, a_term, pt, kp, sg, sc, a_bounds, a_firstWords, a_sums, a_met, a_tried, a_seen, a_apart, a_counts, a_next)) : wpY_demand post (f_depth, (nI tc), (nI dc), f_boundCount, f_known, f_found, f_least, a_sizes, a_empties, a_firsts, a_lasts, a_letters, a_behinds, a_steps, a_term, a_patterns, a_kepts, a_signs, a_signCounts, a_bounds, a_firstWords, a_sums, a_met, a_tried, a_seen, a_apart, a_counts, a_next) (nI k) (wr_b b) := by
  have main : wY_demand_19 post (nI k) (wr_b b) f_depth (nI tc) (nI dc) f_boundCount f_known f_found f_least a_sizes a_empties a_firsts a_lasts a_letters a_behinds a_steps a_term a_patterns a_kepts a_signs a_signCounts a_bounds a_firstWords a_sums a_met a_tried a_seen a_apart a_counts a_next := by
    refine pk_eq dc 6 (fun z => absurd z (by omega)) (fun _ => wz_st dc (nI k) (wz_st dc (wr_b b) (wz_st dc (nI tc) ?_)))
    refine pk_loop (fun n i sg => wY_demand_66 post f_depth (nI tc) (nI dc) f_boundCount f_known f_found f_least n (nI i) a_sizes a_empties a_firsts a_lasts a_letters a_behinds a_steps a_term (upd a_patterns dc (nI k)) (upd a_kepts dc (wr_b b)) sg (upd a_signCounts dc (nI tc)) a_bounds a_firstWords a_sums a_met a_tried a_seen a_apart a_counts a_next) (fun i sg => (∀ j, j < i → sg (4 * dc + j) = nI (g j)) ∧ ∀ j, j < 4 * dc → sg j = a_signs j) tc 0 a_signs (by omega) ⟨fun j hj => absurd hj (by omega), fun _ _ => rfl⟩ ?_ ?_
    · intro n sg I
      refine br_t (nI_le (Nat.le_refl _) (by omega)) (nm_r (nI_1 dc) (K _ _ _ _ ?_))
      intro d hd
      by_cases z : d = dc
      · subst z
        rw [wr_Ds]
        exact ⟨pk_us, pk_us, pk_us, fun i hi => I.1 i hi⟩
      · rw [wr_Dn _ _ z]
        obtain ⟨q2, q3, q4, q5⟩ := hD d (by omega)
        exact ⟨(pk_un z).trans q2, (pk_un z).trans q3, (pk_un z).trans q4, fun i hi => (I.2 _ (by have := hc d (by omega); omega)).trans (q5 i hi)⟩
    · intro n i sg hi I ih
      refine br_f (nI_ge hi (by omega)) (wz_in i (wz_st (4 * dc + i) (nI (g i)) (nm_r (nI_1 i) (ih _ ⟨?_, ?_⟩)) (by omega) (wz_4m dc i) (wz_at i (hT i hi))))
      · intro j hj
        by_cases z : j = i
        · subst z; exact pk_us
        · rw [pk_un (by omega)]; exact I.1 j (by omega)
      · intro j hj
        rw [pk_un (by omega)]; exact I.2 j hj
  unfold wpY_demand
  refine br_f (nI_pos (by omega)) (br_f (nI_nlt (a := 2) (b := k) (by omega) (by omega)) (br_f (by decide) (wz_if b (fun _ => main) (fun z => br_t ?_ main))))
  rw [z]; rfl
theorem zy_sign {post : Int32 → SY → Prop} {w : Nat} (hw : w < 5) (htc : tc < 4) (K : post (nI (tc + 1)) (f_depth, (nI (tc + 1)), f_demands, f_boundCount, f_known, f_found, f_least, a_sizes, a_empties, a_firsts, a_lasts, a_letters, a_behinds, a_steps, (upd a_term tc (nI w)), a_patterns, a_kepts, a_signs, a_signCounts, a_bounds, a_firstWords, a_sums, a_met, a_tried, a_seen, a_apart, a_counts, a_next)) : wpY_sign post (f_depth, (nI tc), f_demands, f_boundCount, f_known, f_found, f_least, a_sizes, a_empties, a_firsts, a_lasts, a_letters, a_behinds, a_steps, a_term, a_patterns, a_kepts, a_signs, a_signCounts, a_bounds, a_firstWords, a_sums, a_met, a_tried, a_seen, a_apart, a_counts, a_next) (nI w) :=
  br_f (nI_pos (by omega)) (br_t (nI_le (b := 4) (by omega) (by decide)) (pk_eq tc 4 (fun z => absurd z (by omega)) (fun _ => wz_st tc (nI w) (nm_r (nI_1 tc) K))))
end
def zz_B (B : Nat → Int32) (bc : Nat) (a b c d : Int32) : Nat → Int32 := upd (upd (upd (upd B (4 * bc) a) (4 * bc + 1) b) (4 * bc + 2) c) (4 * bc + 3) d
theorem zz_BX {bc : Nat} {B : Nat → Int32} {x1 x2 x3 x4 : Nat → Int32} (a b c d : Int32) (h : wr_XB bc B x1 x2 x3 x4) : wr_XB (bc + 1) (zz_B B bc a b c d) (upd x1 bc a) (upd x2 bc b) (upd x3 bc c) (upd x4 bc d) := by
  intro i hi
  unfold zz_B
  by_cases z : i = bc
  · subst z
    refine ⟨?_, ?_, ?_, ?_⟩
    · rw [pk_us, pk_un (by omega), pk_un (by omega), pk_un (by omega), pk_us]
    · rw [pk_us, pk_un (by omega), pk_un (by omega), pk_us]
    · rw [pk_us, pk_un (by omega), pk_us]
    · rw [pk_us, pk_us]
  · obtain ⟨q1, q2, q3, q4⟩ := h i (by omega)
    refine ⟨?_, ?_, ?_, ?_⟩
    · rw [pk_un z, pk_un (by omega), pk_un (by omega), pk_un (by omega), pk_un (by omega)]; exact q1
    · rw [pk_un z, pk_un (by omega), pk_un (by omega), pk_un (by omega), pk_un (by omega)]; exact q2
    · rw [pk_un z, pk_un (by omega), pk_un (by omega), pk_un (by omega), pk_un (by omega)]; exact q3
    · rw [pk_un z, pk_un (by omega), pk_un (by omega), pk_un (by omega), pk_un (by omega)]; exact q4
theorem zz_BY {bc : Nat} {B bs : Nat → Int32} (a b c d : Int32) (h : wr_YB bc B bs) : wr_YB (bc + 1) (zz_B B bc a b c d) (upd (upd (upd (upd bs (4 * bc) a) (4 * bc + 1) b) (4 * bc + 2) c) (4 * bc + 3) d) := by
  intro j hj
  unfold zz_B
  by_cases z3 : j = 4 * bc + 3
  · subst z3; rw [pk_us, pk_us]
  · rw [pk_un z3, pk_un z3]
    by_cases z2 : j = 4 * bc + 2
    · subst z2; rw [pk_us, pk_us]
    · rw [pk_un z2, pk_un z2]
      by_cases z1 : j = 4 * bc + 1
      · subst z1; rw [pk_us, pk_us]
      · rw [pk_un z1, pk_un z1]
        by_cases z0 : j = 4 * bc
        · subst z0; rw [pk_us, pk_us]
        · rw [pk_un z0, pk_un z0]; exact h j (by omega)
/-! the ranges of a bound -/
def zz_R (a b c d : Int32) : Prop := (¬ a < (-3) ∧ ¬ 3 < a) ∧ (¬ b < (-3) ∧ ¬ 3 < b) ∧ (¬ c < (-3) ∧ ¬ 3 < c) ∧ ¬ d < (-20) ∧ ¬ 20 < d
theorem zx_isf {post : Int32 → Prop} (x : Int32) (K1 : (¬ x < (-3) ∧ ¬ 3 < x) → post 1) (K0 : ¬ (¬ x < (-3) ∧ ¬ 3 < x) → post 0) : wpX_isFactor post x :=
  br_c (fun a => K0 (fun z => z.1 a)) (fun a => br_c (fun b => K0 (fun z => z.2 b)) (fun b => K1 ⟨a, b⟩))
section
variable {f_stacked f_signCount f_demandCount f_boundCount : Int32} {a_sizes a_withEmpty a_firsts a_lasts a_zeroReaders a_oneReaders a_followers a_placedSizes a_steps a_ends a_ways a_nextWays a_groups a_finerGroups a_reached a_signs a_demandSigns a_demandSignCounts a_demandPatterns a_demandKept a_boundA a_boundB a_boundC a_boundD : Nat → Int32}
theorem zx_bnd {post : Int32 → SX → Prop} {a b c d : Int32} (K1 : zz_R a b c d → ((f_boundCount < 3 → (vp_in f_boundCount 3 ∧ ∀ x1 : Nat → Int32, x1 = upd a_boundA f_boundCount.toNatClampNeg a → (vp_in f_boundCount 3 ∧ ∀ x2 : Nat → Int32, x2 = upd a_boundB f_boundCount.toNatClampNeg b → (vp_in f_boundCount 3 ∧ ∀ x3 : Nat → Int32, x3 = upd a_boundC f_boundCount.toNatClampNeg c → (vp_in f_boundCount 3 ∧ ∀ x4 : Nat → Int32, x4 = upd a_boundD f_boundCount.toNatClampNeg d → ∀ n : Int32, n = f_boundCount + 1 → post n (f_stacked, f_signCount, f_demandCount, n, a_sizes, a_withEmpty, a_firsts, a_lasts, a_zeroReaders, a_oneReaders, a_followers, a_placedSizes, a_steps, a_ends, a_ways, a_nextWays, a_groups, a_finerGroups, a_reached, a_signs, a_demandSigns, a_demandSignCounts, a_demandPatterns, a_demandKept, x1, x2, x3, x4)))))) ∧ (¬ f_boundCount < 3 → post (-2) (f_stacked, f_signCount, f_demandCount, f_boundCount, a_sizes, a_withEmpty, a_firsts, a_lasts, a_zeroReaders, a_oneReaders, a_followers, a_placedSizes, a_steps, a_ends, a_ways, a_nextWays, a_groups, a_finerGroups, a_reached, a_signs, a_demandSigns, a_demandSignCounts, a_demandPatterns, a_demandKept, a_boundA, a_boundB, a_boundC, a_boundD)))) (K0 : ¬ zz_R a b c d → post (-1) (f_stacked, f_signCount, f_demandCount, f_boundCount, a_sizes, a_withEmpty, a_firsts, a_lasts, a_zeroReaders, a_oneReaders, a_followers, a_placedSizes, a_steps, a_ends, a_ways, a_nextWays, a_groups, a_finerGroups, a_reached, a_signs, a_demandSigns, a_demandSignCounts, a_demandPatterns, a_demandKept, a_boundA, a_boundB, a_boundC, a_boundD)) : wpX_bound post (f_stacked, f_signCount, f_demandCount, f_boundCount, a_sizes, a_withEmpty, a_firsts, a_lasts, a_zeroReaders, a_oneReaders, a_followers, a_placedSizes, a_steps, a_ends, a_ways, a_nextWays, a_groups, a_finerGroups, a_reached, a_signs, a_demandSigns, a_demandSignCounts, a_demandPatterns, a_demandKept, a_boundA, a_boundB, a_boundC, a_boundD) a b c d := by
  unfold wpX_bound
  refine zx_isf a (fun ha => br_f (by decide) (zx_isf b (fun hb => br_f (by decide) (zx_isf c (fun hc => br_f (by decide) (br_c (fun h => K0 (fun z => z.2.2.2.1 h)) (fun h => br_c (fun h2 => K1 ⟨ha, hb, hc, h, Int32.not_lt.mpr h2⟩) (fun h2 => K0 (fun z => h2 (Int32.not_lt.mp z.2.2.2.2)))))) (fun hc => br_t rfl (K0 (fun z => hc z.2.2.1))))) (fun hb => br_t rfl (K0 (fun z => hb z.2.1))))) (fun ha => br_t rfl (K0 (fun z => ha z.1)))
end
section
variable {f_depth f_termLength f_demands f_boundCount f_known f_found f_least : Int32} {a_sizes a_empties a_firsts a_lasts a_letters a_behinds a_steps a_term a_patterns a_kepts a_signs a_signCounts a_bounds a_firstWords a_sums a_met a_tried a_seen a_apart a_counts a_next : Nat → Int32}
theorem zy_isin {post : Int32 → Prop} (x l : Int32) (K1 : (¬ x < (-l) ∧ ¬ l < x) → post 1) (K0 : ¬ (¬ x < (-l) ∧ ¬ l < x) → post 0) : wpY_isIn post (f_depth, f_termLength, f_demands, f_boundCount, f_known, f_found, f_least, a_sizes, a_empties, a_firsts, a_lasts, a_letters, a_behinds, a_steps, a_term, a_patterns, a_kepts, a_signs, a_signCounts, a_bounds, a_firstWords, a_sums, a_met, a_tried, a_seen, a_apart, a_counts, a_next) x l :=
  br_c (fun a => K0 (fun z => z.1 a)) (fun a => br_c (fun b => K0 (fun z => z.2 b)) (fun b => K1 ⟨a, b⟩))
theorem zy_bnd {post : Int32 → SY → Prop} {a b c d : Int32} {bc : Nat} (hb : bc ≤ 3) (K1 : zz_R a b c d → bc < 3 → post (nI (bc + 1)) (f_depth, f_termLength, f_demands, (nI (bc + 1)), 0, f_found, f_least, a_sizes, a_empties, a_firsts, a_lasts, a_letters, a_behinds, a_steps, a_term, a_patterns, a_kepts, a_signs, a_signCounts, (upd (upd (upd (upd a_bounds (4 * bc) a) (4 * bc + 1) b) (4 * bc + 2) c) (4 * bc + 3) d), a_firstWords, a_sums, a_met, a_tried, a_seen, a_apart, a_counts, a_next)) (K2 : zz_R a b c d → bc = 3 → post (-2) (f_depth, f_termLength, f_demands, (nI bc), f_known, f_found, f_least, a_sizes, a_empties, a_firsts, a_lasts, a_letters, a_behinds, a_steps, a_term, a_patterns, a_kepts, a_signs, a_signCounts, a_bounds, a_firstWords, a_sums, a_met, a_tried, a_seen, a_apart, a_counts, a_next)) (K0 : ¬ zz_R a b c d → post (-1) (f_depth, f_termLength, f_demands, (nI bc), f_known, f_found, f_least, a_sizes, a_empties, a_firsts, a_lasts, a_letters, a_behinds, a_steps, a_term, a_patterns, a_kepts, a_signs, a_signCounts, a_bounds, a_firstWords, a_sums, a_met, a_tried, a_seen, a_apart, a_counts, a_next)) : wpY_bound post (f_depth, f_termLength, f_demands, (nI bc), f_known, f_found, f_least, a_sizes, a_empties, a_firsts, a_lasts, a_letters, a_behinds, a_steps, a_term, a_patterns, a_kepts, a_signs, a_signCounts, a_bounds, a_firstWords, a_sums, a_met, a_tried, a_seen, a_apart, a_counts, a_next) a b c d := by
  have e0 : (4 : Int32) * nI bc = nI (4 * bc) := pk_mul 4 bc
  have e1 : (4 : Int32) * nI bc + 1 = nI (4 * bc + 1) := wz_4m bc 1
  have e2 : (4 : Int32) * nI bc + 2 = nI (4 * bc + 2) := wz_4m bc 2
  have e3 : (4 : Int32) * nI bc + 3 = nI (4 * bc + 3) := wz_4m bc 3
  unfold wpY_bound
  refine zy_isin a 3 (fun ha => br_f (by decide) (zy_isin b 3 (fun hb' => br_f (by decide) (zy_isin c 3 (fun hc => br_f (by decide) (zy_isin d 20 (fun hd => br_f (by decide) ?_) (fun hd => br_t rfl (K0 (fun z => hd z.2.2.2))))) (fun hc => br_t rfl (K0 (fun z => hc z.2.2.1))))) (fun hb' => br_t rfl (K0 (fun z => hb' z.2.1))))) (fun ha => br_t rfl (K0 (fun z => ha z.1)))
  have hR : zz_R a b c d := ⟨ha, hb', hc, hd⟩
  exact pk_eq bc 3 (fun z => K2 hR z) (fun z => wz_st (4 * bc) a (wz_st (4 * bc + 1) b (wz_st (4 * bc + 2) c (wz_st (4 * bc + 3) d (nm_r (nI_1 bc) (K1 hR (by omega))) (by omega) e3 rfl) (by omega) e2 rfl) (by omega) e1 rfl) (by omega) e0 rfl)
end
end
section
/-! the relation -/
def wr_RX (dp tc dc bc : Nat) (P Q : Nat → ws_Pat) (g : Nat → Nat) (D : Nat → wr_Dem) (B : Nat → Int32) (u : SX) : Prop := match u with
  | (f_stacked, f_signCount, f_demandCount, f_boundCount, a_sizes, a_withEmpty, a_firsts, a_lasts, a_zeroReaders, a_oneReaders, a_followers, a_placedSizes, a_steps, a_ends, a_ways, a_nextWays, a_groups, a_finerGroups, a_reached, a_signs, a_demandSigns, a_demandSignCounts, a_demandPatterns, a_demandKept, a_boundA, a_boundB, a_boundC, a_boundD) => f_stacked = nI dp ∧ f_signCount = nI tc ∧ f_demandCount = nI dc ∧ f_boundCount = nI bc ∧ wr_XS dp P a_sizes a_withEmpty a_firsts a_lasts a_zeroReaders a_oneReaders a_followers ∧ wr_XP Q a_placedSizes a_steps a_ends ∧ wr_T tc g a_signs ∧ wr_XD dc D a_demandSigns a_demandSignCounts a_demandPatterns a_demandKept ∧ wr_XB bc B a_boundA a_boundB a_boundC a_boundD
def wr_RY (dp tc dc bc : Nat) (P Q : Nat → ws_Pat) (g : Nat → Nat) (D : Nat → wr_Dem) (B : Nat → Int32) (v : SY) : Prop := match v with
  | (f_depth, f_termLength, f_demands, f_boundCount, f_known, f_found, f_least, a_sizes, a_empties, a_firsts, a_lasts, a_letters, a_behinds, a_steps, a_term, a_patterns, a_kepts, a_signs, a_signCounts, a_bounds, a_firstWords, a_sums, a_met, a_tried, a_seen, a_apart, a_counts, a_next) => f_depth = nI dp ∧ f_termLength = nI tc ∧ f_demands = nI dc ∧ f_boundCount = nI bc ∧ wr_YS dp P a_sizes a_empties a_firsts a_lasts a_letters a_behinds ∧ wr_YP Q a_sizes a_empties a_firsts a_lasts a_letters a_behinds ∧ wr_YT Q a_steps ∧ wr_T tc g a_term ∧ wr_YD dc D a_signs a_signCounts a_patterns a_kepts ∧ wr_YB bc B a_bounds ∧ (f_known = 0 ∨ (f_known = 1 ∧ wr_C (wr_sol Q dc D bc B) 3375 f_found f_least a_firstWords a_sums a_met))
def wr_RG (dp tc dc bc : Nat) (g : Nat → Nat) : Prop := dp ≤ 5 ∧ tc ≤ 4 ∧ dc ≤ 6 ∧ bc ≤ 3 ∧ ∀ i, i < tc → g i < 5
def i_Rel (k : Nat) (u : SX) (v : SY) : Prop := ∃ (dp tc dc bc : Nat) (P Q : Nat → ws_Pat) (g : Nat → Nat) (D : Nat → wr_Dem) (B : Nat → Int32), wr_RG dp tc dc bc g ∧ wr_RX dp tc dc bc P Q g D B u ∧ wr_RY dp tc dc bc P Q g D B v
theorem i_up {k : Nat} {u : SX} {v : SY} (h : i_Rel k u v) : i_Rel (k + 5) u v := h
section
variable {dp tc dc bc : Nat} {P Q : Nat → ws_Pat} {g : Nat → Nat} {D : Nat → wr_Dem} {B : Nat → Int32}
theorem zr_mk {k : Nat} {u : SX} {v : SY} (h1 : wr_RG dp tc dc bc g) (h2 : wr_RX dp tc dc bc P Q g D B u) (h3 : wr_RY dp tc dc bc P Q g D B v) : i_Rel k u v := ⟨dp, tc, dc, bc, P, Q, g, D, B, h1, h2, h3⟩
section
variable {f_stacked f_signCount f_demandCount f_boundCount : Int32} {a_sizes a_withEmpty a_firsts a_lasts a_zeroReaders a_oneReaders a_followers a_placedSizes a_steps a_ends a_ways a_nextWays a_groups a_finerGroups a_reached a_signs a_demandSigns a_demandSignCounts a_demandPatterns a_demandKept a_boundA a_boundB a_boundC a_boundD : Nat → Int32}
theorem zr_X (S : wr_XS dp P a_sizes a_withEmpty a_firsts a_lasts a_zeroReaders a_oneReaders a_followers) (Pl : wr_XP Q a_placedSizes a_steps a_ends) (T : wr_T tc g a_signs) (hD : wr_XD dc D a_demandSigns a_demandSignCounts a_demandPatterns a_demandKept) (hB : wr_XB bc B a_boundA a_boundB a_boundC a_boundD) : wr_RX dp tc dc bc P Q g D B ((nI dp), (nI tc), (nI dc), (nI bc), a_sizes, a_withEmpty, a_firsts, a_lasts, a_zeroReaders, a_oneReaders, a_followers, a_placedSizes, a_steps, a_ends, a_ways, a_nextWays, a_groups, a_finerGroups, a_reached, a_signs, a_demandSigns, a_demandSignCounts, a_demandPatterns, a_demandKept, a_boundA, a_boundB, a_boundC, a_boundD) := ⟨rfl, rfl, rfl, rfl, S, Pl, T, hD, hB⟩
end
section
variable {f_depth f_termLength f_demands f_boundCount f_known f_found f_least : Int32} {a_sizes a_empties a_firsts a_lasts a_letters a_behinds a_steps a_term a_patterns a_kepts a_signs a_signCounts a_bounds a_firstWords a_sums a_met a_tried a_seen a_apart a_counts a_next : Nat → Int32}
theorem zr_Y (S : wr_YS dp P a_sizes a_empties a_firsts a_lasts a_letters a_behinds) (YP : wr_YP Q a_sizes a_empties a_firsts a_lasts a_letters a_behinds) (YT : wr_YT Q a_steps) (T : wr_T tc g a_term) (hD : wr_YD dc D a_signs a_signCounts a_patterns a_kepts) (hB : wr_YB bc B a_bounds) (hc : f_known = 0 ∨ (f_known = 1 ∧ wr_C (wr_sol Q dc D bc B) 3375 f_found f_least a_firstWords a_sums a_met)) : wr_RY dp tc dc bc P Q g D B ((nI dp), (nI tc), (nI dc), (nI bc), f_known, f_found, f_least, a_sizes, a_empties, a_firsts, a_lasts, a_letters, a_behinds, a_steps, a_term, a_patterns, a_kepts, a_signs, a_signCounts, a_bounds, a_firstWords, a_sums, a_met, a_tried, a_seen, a_apart, a_counts, a_next) := ⟨rfl, rfl, rfl, rfl, S, YP, YT, T, hD, hB, hc⟩
end
theorem zr_YS {n d : Nat} {p : ws_Pat} {sz em fi la le be sz' em' fi' la' le' be' : Nat → Int32} (h : ∀ s, s < n → s ≠ d → wt_ok (P s) ∧ wr_YL (P s) s sz em fi la le be) (L : wr_YL p d sz' em' fi' la' le' be') (F : yb_F d sz em fi la le be sz' em' fi' la' le' be') : wr_YS n (wr_P P d p) sz' em' fi' la' le' be' := by
  intro s hs
  by_cases z : s = d
  · subst z; rw [wr_Ps]; exact L
  · rw [wr_Pn _ _ z]
    obtain ⟨q1, q2⟩ := h s hs z
    exact F s (P s) z q1.1 q2
theorem zr_YP {d : Nat} {sz em fi la le be sz' em' fi' la' le' be' : Nat → Int32} (o3 : wt_ok3 Q) (hd : d < 5) (h : wr_YP Q sz em fi la le be) (F : yb_F d sz em fi la le be sz' em' fi' la' le' be') : wr_YP Q sz' em' fi' la' le' be' :=
  fun k hk => F (5 + k) (Q k) (by omega) (o3 k hk).1 (h k hk)
end
end
section
/-! what is owed -/
theorem i_vc0 : wpX_init (fun u => wpY_init (fun v => i_Rel 0 u v)) := by
  refine xd_init (fun st en Pl => ya_init (fun em st' YP YT => ?_))
  refine zr_mk (dp := 0) (tc := 0) (dc := 0) (bc := 0) (P := fun _ => wt_sim 3) (Q := fun _ => wt_sim 3) (g := fun _ => 0) (D := fun _ => (0, false, 0, fun _ => 0)) (B := fun _ => 0) ⟨by omega, by omega, by omega, by omega, fun i hi => absurd hi (by omega)⟩ (zr_X (fun s hs => absurd hs (by omega)) Pl (fun s hs => absurd hs (by omega)) (fun s hs => absurd hs (by omega)) (fun s hs => absurd hs (by omega))) (zr_Y (fun s hs => absurd hs (by omega)) YP YT (fun s hs => absurd hs (by omega)) (fun s hs => absurd hs (by omega)) (fun s hs => absurd hs (by omega)) (Or.inl rfl))
theorem i_vc_simple {k : Nat} {u : SX} {v : SY} (I : i_Rel k u v) (hk : k + 5 ≤ 2560) (v1 : Int32) : wpX_simple (fun r u' => wpY_simple (fun r' v' => r' = r ∧ i_Rel (k + 5) u' v') v v1) u v1 := by
  obtain ⟨f_stacked, f_signCount, f_demandCount, f_boundCount, a_sizes, a_withEmpty, a_firsts, a_lasts, a_zeroReaders, a_oneReaders, a_followers, a_placedSizes, a_steps, a_ends, a_ways, a_nextWays, a_groups, a_finerGroups, a_reached, a_signs, a_demandSigns, a_demandSignCounts, a_demandPatterns, a_demandKept, a_boundA, a_boundB, a_boundC, a_boundD⟩ := u
  obtain ⟨f_depth', f_termLength', f_demands', f_boundCount', f_known', f_found', f_least', a_sizes', a_empties', a_firsts', a_lasts', a_letters', a_behinds', a_steps', a_term', a_patterns', a_kepts', a_signs', a_signCounts', a_bounds', a_firstWords', a_sums', a_met', a_tried', a_seen', a_apart', a_counts', a_next'⟩ := v
  have I' := i_up I
  obtain ⟨dp, tc, dc, bc, P, Q, g, D, B, ⟨g1, g2, g3, g4, g5⟩, ⟨rfl, rfl, rfl, rfl, S, Pl, Tm, hD, hB⟩, ⟨rfl, rfl, rfl, rfl, YS, YP, YT, YTm, YD, YB, hc⟩⟩ := I
  by_cases h0 : v1 < 0
  · exact br_t h0 (br_t h0 ⟨rfl, I'⟩)
  by_cases h3 : v1 ≤ 3
  · by_cases hd : dp < 5
    · obtain ⟨w, hw, rfl⟩ : ∃ w, w ≤ 3 ∧ v1 = nI w := by
        obtain ⟨w, hw, rfl⟩ := nI_of h0
        exact ⟨w, (nI_leI (b := 3) hw (by decide)).mp h3, rfl⟩
      have fin : ∀ (p : ws_Pat) (sz we fi la zr on fo : Nat → Int32) (sz' em' fi' la' le' be' : Nat → Int32), wr_XS (dp + 1) (wr_P P dp p) sz we fi la zr on fo → wr_YL p dp sz' em' fi' la' le' be' → yb_F dp a_sizes' a_empties' a_firsts' a_lasts' a_letters' a_behinds' sz' em' fi' la' le' be' → i_Rel (k + 5) ((nI (dp + 1)), (nI tc), (nI dc), (nI bc), sz, we, fi, la, zr, on, fo, a_placedSizes, a_steps, a_ends, a_ways, a_nextWays, a_groups, a_finerGroups, a_reached, a_signs, a_demandSigns, a_demandSignCounts, a_demandPatterns, a_demandKept, a_boundA, a_boundB, a_boundC, a_boundD) ((nI (dp + 1)), (nI tc), (nI dc), (nI bc), f_known', f_found', f_least', sz', em', fi', la', le', be', a_steps', a_term', a_patterns', a_kepts', a_signs', a_signCounts', a_bounds', a_firstWords', a_sums', a_met', a_tried', a_seen', a_apart', a_counts', a_next') := by
        intro p sz we fi la zr on fo sz' em' fi' la' le' be' S' L F
        exact zr_mk ⟨by omega, g2, g3, g4, g5⟩ (zr_X S' Pl Tm hD hB) (zr_Y (zr_YS (fun s hs z => ⟨(S s (by omega)).1, YS s (by omega)⟩) L F) (zr_YP Pl.1 hd YP F) YT YTm YD YB hc)
      have e : w = 0 ∨ w = 1 ∨ w = 2 ∨ w = 3 := by omega
      rcases e with rfl | rfl | rfl | rfl
      · exact xa_sim0 hd S (fun _ _ _ _ _ _ _ S' => yb_sim0 hd (fun _ _ _ _ _ _ L F => ⟨rfl, fin _ _ _ _ _ _ _ _ _ _ _ _ _ _ S' L F⟩))
      · exact xa_sim1 hd S (fun _ _ _ _ _ _ _ S' => yb_sim1 hd (fun _ _ _ _ _ _ L F => ⟨rfl, fin _ _ _ _ _ _ _ _ _ _ _ _ _ _ S' L F⟩))
      · exact xa_sim2 hd S (fun _ _ _ _ _ _ _ S' => yb_sim2 hd (fun _ _ _ _ _ _ L F => ⟨rfl, fin _ _ _ _ _ _ _ _ _ _ _ _ _ _ S' L F⟩))
      · exact xa_sim3 hd S (fun _ _ _ _ _ _ _ S' => yb_sim3 hd (fun _ _ _ _ _ _ L F => ⟨rfl, fin _ _ _ _ _ _ _ _ _ _ _ _ _ _ S' L F⟩))
    · have e : dp = 5 := by omega
      subst e
      exact br_f h0 (br_t h3 (br_f (by decide) (br_f h0 (br_t h3 (br_t rfl ⟨rfl, I'⟩)))))
  · exact br_f h0 (br_f h3 (br_f h0 (br_f h3 ⟨rfl, I'⟩)))
theorem i_vc_then {k : Nat} {u : SX} {v : SY} (I : i_Rel k u v) (hk : k + 5 ≤ 2560) : wpX_then (fun r u' => wpY_then (fun r' v' => r' = r ∧ i_Rel (k + 5) u' v') v) u := by
  obtain ⟨f_stacked, f_signCount, f_demandCount, f_boundCount, a_sizes, a_withEmpty, a_firsts, a_lasts, a_zeroReaders, a_oneReaders, a_followers, a_placedSizes, a_steps, a_ends, a_ways, a_nextWays, a_groups, a_finerGroups, a_reached, a_signs, a_demandSigns, a_demandSignCounts, a_demandPatterns, a_demandKept, a_boundA, a_boundB, a_boundC, a_boundD⟩ := u
  obtain ⟨f_depth', f_termLength', f_demands', f_boundCount', f_known', f_found', f_least', a_sizes', a_empties', a_firsts', a_lasts', a_letters', a_behinds', a_steps', a_term', a_patterns', a_kepts', a_signs', a_signCounts', a_bounds', a_firstWords', a_sums', a_met', a_tried', a_seen', a_apart', a_counts', a_next'⟩ := v
  have I' := i_up I
  obtain ⟨dp, tc, dc, bc, P, Q, g, D, B, ⟨g1, g2, g3, g4, g5⟩, ⟨rfl, rfl, rfl, rfl, S, Pl, Tm, hD, hB⟩, ⟨rfl, rfl, rfl, rfl, YS, YP, YT, YTm, YD, YB, hc⟩⟩ := I
  by_cases h2 : 2 ≤ dp
  · obtain ⟨d, rfl⟩ : ∃ d, dp = d + 2 := ⟨dp - 2, by omega⟩
    have op := (S d (by omega)).1
    have oq := (S (d + 1) (by omega)).1
    by_cases hm : wt_m (P d) + wt_m (P (d + 1)) ≤ 6
    · refine xc_then g1 S hm (fun sz we fi la zr on fo S' => ?_)
      unfold wpY_then
      refine yc_join (th := true) g1 op oq hm (YS d (by omega)) (YS (d + 1) (by omega)) (fun sz' em' fi' la' le' be' L F => ⟨rfl, ?_⟩)
      exact zr_mk ⟨by omega, g2, g3, g4, g5⟩ (zr_X S' Pl Tm hD hB) (zr_Y (zr_YS (fun s hs z => ⟨(S s (by omega)).1, YS s (by omega)⟩) L F) (zr_YP Pl.1 (by omega) YP F) YT YTm YD YB hc)
    · have e1 : nI (d + 2) - 2 = nI d := pk_sub (a := d + 2) (b := 2) (by omega)
      have e2 : nI (d + 2) - 1 = nI (d + 1) := nI_pred (d + 1)
      have hp6 := op.1
      have hq6 := oq.1
      unfold wpX_then
      refine xb_ref g1 (S d (by omega)).2.1 (S (d + 1) (by omega)).2.1 op.1 oq.1 (fun z => absurd z hm) (fun _ => br_f (by decide) ?_)
      unfold wpY_then
      refine br_t (nI_le (a := 2) (b := d + 2) (by omega) (by omega)) (nm_r e1 (nm_r e2 (wz_ld d (nI (wt_m (P d))) (wz_in (d + 1) (br_f ?_ ⟨rfl, I'⟩)) (by omega) rfl (YS d (by omega)).1)))
      rw [wz_at (d + 1) (YS (d + 1) (by omega)).1, nI_add]
      exact nI_ge (b := wt_m (P d) + wt_m (P (d + 1))) (a := 6) (by omega) (by omega)
  · unfold wpX_then
    refine br_f (nI_ge (b := 2) (by omega) (by decide)) (br_f (by decide) ?_)
    unfold wpY_then
    exact br_f (nI_ge (b := 2) (by omega) (by decide)) ⟨rfl, I'⟩
theorem i_vc_or {k : Nat} {u : SX} {v : SY} (I : i_Rel k u v) (hk : k + 5 ≤ 2560) : wpX_or (fun r u' => wpY_or (fun r' v' => r' = r ∧ i_Rel (k + 5) u' v') v) u := by
  obtain ⟨f_stacked, f_signCount, f_demandCount, f_boundCount, a_sizes, a_withEmpty, a_firsts, a_lasts, a_zeroReaders, a_oneReaders, a_followers, a_placedSizes, a_steps, a_ends, a_ways, a_nextWays, a_groups, a_finerGroups, a_reached, a_signs, a_demandSigns, a_demandSignCounts, a_demandPatterns, a_demandKept, a_boundA, a_boundB, a_boundC, a_boundD⟩ := u
  obtain ⟨f_depth', f_termLength', f_demands', f_boundCount', f_known', f_found', f_least', a_sizes', a_empties', a_firsts', a_lasts', a_letters', a_behinds', a_steps', a_term', a_patterns', a_kepts', a_signs', a_signCounts', a_bounds', a_firstWords', a_sums', a_met', a_tried', a_seen', a_apart', a_counts', a_next'⟩ := v
  have I' := i_up I
  obtain ⟨dp, tc, dc, bc, P, Q, g, D, B, ⟨g1, g2, g3, g4, g5⟩, ⟨rfl, rfl, rfl, rfl, S, Pl, Tm, hD, hB⟩, ⟨rfl, rfl, rfl, rfl, YS, YP, YT, YTm, YD, YB, hc⟩⟩ := I
  by_cases h2 : 2 ≤ dp
  · obtain ⟨d, rfl⟩ : ∃ d, dp = d + 2 := ⟨dp - 2, by omega⟩
    have op := (S d (by omega)).1
    have oq := (S (d + 1) (by omega)).1
    by_cases hm : wt_m (P d) + wt_m (P (d + 1)) ≤ 6
    · refine xb_or g1 S hm (fun sz we fi la zr on fo S' => ?_)
      unfold wpY_or
      refine yc_join (th := false) g1 op oq hm (YS d (by omega)) (YS (d + 1) (by omega)) (fun sz' em' fi' la' le' be' L F => ⟨rfl, ?_⟩)
      exact zr_mk ⟨by omega, g2, g3, g4, g5⟩ (zr_X S' Pl Tm hD hB) (zr_Y (zr_YS (fun s hs z => ⟨(S s (by omega)).1, YS s (by omega)⟩) L F) (zr_YP Pl.1 (by omega) YP F) YT YTm YD YB hc)
    · have e1 : nI (d + 2) - 2 = nI d := pk_sub (a := d + 2) (b := 2) (by omega)
      have e2 : nI (d + 2) - 1 = nI (d + 1) := nI_pred (d + 1)
      have hp6 := op.1
      have hq6 := oq.1
      unfold wpX_or
      refine xb_ref g1 (S d (by omega)).2.1 (S (d + 1) (by omega)).2.1 op.1 oq.1 (fun z => absurd z hm) (fun _ => br_f (by decide) ?_)
      unfold wpY_or
      refine br_t (nI_le (a := 2) (b := d + 2) (by omega) (by omega)) (nm_r e1 (nm_r e2 (wz_ld d (nI (wt_m (P d))) (wz_in (d + 1) (br_f ?_ ⟨rfl, I'⟩)) (by omega) rfl (YS d (by omega)).1)))
      rw [wz_at (d + 1) (YS (d + 1) (by omega)).1, nI_add]
      exact nI_ge (b := wt_m (P d) + wt_m (P (d + 1))) (a := 6) (by omega) (by omega)
  · unfold wpX_or
    refine br_f (nI_ge (b := 2) (by omega) (by decide)) (br_f (by decide) ?_)
    unfold wpY_or
    exact br_f (nI_ge (b := 2) (by omega) (by decide)) ⟨rfl, I'⟩
theorem i_vc_many {k : Nat} {u : SX} {v : SY} (I : i_Rel k u v) (hk : k + 5 ≤ 2560) : wpX_many (fun r u' => wpY_many (fun r' v' => r' = r ∧ i_Rel (k + 5) u' v') v) u := by
  obtain ⟨f_stacked, f_signCount, f_demandCount, f_boundCount, a_sizes, a_withEmpty, a_firsts, a_lasts, a_zeroReaders, a_oneReaders, a_followers, a_placedSizes, a_steps, a_ends, a_ways, a_nextWays, a_groups, a_finerGroups, a_reached, a_signs, a_demandSigns, a_demandSignCounts, a_demandPatterns, a_demandKept, a_boundA, a_boundB, a_boundC, a_boundD⟩ := u
  obtain ⟨f_depth', f_termLength', f_demands', f_boundCount', f_known', f_found', f_least', a_sizes', a_empties', a_firsts', a_lasts', a_letters', a_behinds', a_steps', a_term', a_patterns', a_kepts', a_signs', a_signCounts', a_bounds', a_firstWords', a_sums', a_met', a_tried', a_seen', a_apart', a_counts', a_next'⟩ := v
  have I' := i_up I
  obtain ⟨dp, tc, dc, bc, P, Q, g, D, B, ⟨g1, g2, g3, g4, g5⟩, ⟨rfl, rfl, rfl, rfl, S, Pl, Tm, hD, hB⟩, ⟨rfl, rfl, rfl, rfl, YS, YP, YT, YTm, YD, YB, hc⟩⟩ := I
  by_cases h1 : 1 ≤ dp
  · obtain ⟨d, rfl⟩ : ∃ d, dp = d + 1 := ⟨dp - 1, by omega⟩
    refine xb_many (by omega) S (fun we fo S' => yb_many (by omega) (S d (by omega)).1 (YS d (by omega)) (fun em' be' L F => ⟨rfl, ?_⟩))
    exact zr_mk ⟨g1, g2, g3, g4, g5⟩ (zr_X S' Pl Tm hD hB) (zr_Y (zr_YS (fun s hs z => ⟨(S s hs).1, YS s hs⟩) L F) (zr_YP Pl.1 (by omega) YP F) YT YTm YD YB hc)
  · have e : dp = 0 := by omega
    subst e
    exact br_f (by decide) (br_t rfl ⟨rfl, I'⟩)
theorem i_vc_place {k : Nat} {u : SX} {v : SY} (I : i_Rel k u v) (hk : k + 5 ≤ 2560) (v1 : Int32) : wpX_place (fun r u' => wpY_place (fun r' v' => r' = r ∧ i_Rel (k + 5) u' v') v v1) u v1 := by
  obtain ⟨f_stacked, f_signCount, f_demandCount, f_boundCount, a_sizes, a_withEmpty, a_firsts, a_lasts, a_zeroReaders, a_oneReaders, a_followers, a_placedSizes, a_steps, a_ends, a_ways, a_nextWays, a_groups, a_finerGroups, a_reached, a_signs, a_demandSigns, a_demandSignCounts, a_demandPatterns, a_demandKept, a_boundA, a_boundB, a_boundC, a_boundD⟩ := u
  obtain ⟨f_depth', f_termLength', f_demands', f_boundCount', f_known', f_found', f_least', a_sizes', a_empties', a_firsts', a_lasts', a_letters', a_behinds', a_steps', a_term', a_patterns', a_kepts', a_signs', a_signCounts', a_bounds', a_firstWords', a_sums', a_met', a_tried', a_seen', a_apart', a_counts', a_next'⟩ := v
  have I' := i_up I
  obtain ⟨dp, tc, dc, bc, P, Q, g, D, B, ⟨g1, g2, g3, g4, g5⟩, ⟨rfl, rfl, rfl, rfl, S, Pl, Tm, hD, hB⟩, ⟨rfl, rfl, rfl, rfl, YS, YP, YT, YTm, YD, YB, hc⟩⟩ := I
  rcases zz_3 v1 with h | ⟨h0, h3, h4, h5⟩ | ⟨j, hj, rfl⟩
  · refine br_t h ?_
    unfold wpY_place
    exact br_t h (br_t rfl ⟨rfl, I'⟩)
  · refine br_f h0 (br_f h3 ?_)
    unfold wpY_place
    exact br_f h0 (br_t h5 (br_t rfl ⟨rfl, I'⟩))
  · by_cases h1 : 1 ≤ dp
    · obtain ⟨d, rfl⟩ : ∃ d, dp = d + 1 := ⟨dp - 1, by omega⟩
      have ok := (S d (by omega)).1
      refine xd_place hj (by omega) S Pl (fun st en Pl' => yb_place hj (by omega) ok (YS d (by omega)) (fun sz' em' fi' la' le' be' st' L F t1 t2 => ⟨rfl, ?_⟩))
      refine zr_mk ⟨by omega, g2, g3, g4, g5⟩ (zr_X (fun s hs => S s (by omega)) Pl' Tm hD hB) (zr_Y (fun s hs => F s (P s) (by omega) (S s (by omega)).1.1 (YS s (by omega))) ?_ ?_ YTm YD YB (Or.inl rfl))
      · intro i hi
        by_cases z : i = j
        · subst z; rw [wr_Ps]; exact L
        · rw [wr_Pn _ _ z]; exact F (5 + i) (Q i) (by omega) (Pl.1 i hi).1 (YP i hi)
      · intro i hi n hn
        by_cases z : i = j
        · subst z; rw [wr_Ps]; exact t1 n hn
        · rw [wr_Pn _ _ z, t2 _ (fun m hm => by omega)]; exact YT i hi n hn
    · have e : dp = 0 := by omega
      subst e
      refine br_f (nI_pos (by omega)) (br_t (nI_lt (b := 3) hj (by decide)) (br_f (by decide) ?_))
      unfold wpY_place
      exact br_f (nI_pos (by omega)) (br_f (nI_nlt (a := 2) (b := j) (by omega) (by omega)) (br_f (by decide) (br_t rfl ⟨rfl, I'⟩)))
theorem i_vc_size {k : Nat} {u : SX} {v : SY} (I : i_Rel k u v) (hk : k + 5 ≤ 2560) (v1 : Int32) : wpX_size (fun r => wpY_size (fun r' => r' = r ∧ i_Rel (k + 5) u v) v v1) u v1 := by
  obtain ⟨f_stacked, f_signCount, f_demandCount, f_boundCount, a_sizes, a_withEmpty, a_firsts, a_lasts, a_zeroReaders, a_oneReaders, a_followers, a_placedSizes, a_steps, a_ends, a_ways, a_nextWays, a_groups, a_finerGroups, a_reached, a_signs, a_demandSigns, a_demandSignCounts, a_demandPatterns, a_demandKept, a_boundA, a_boundB, a_boundC, a_boundD⟩ := u
  obtain ⟨f_depth', f_termLength', f_demands', f_boundCount', f_known', f_found', f_least', a_sizes', a_empties', a_firsts', a_lasts', a_letters', a_behinds', a_steps', a_term', a_patterns', a_kepts', a_signs', a_signCounts', a_bounds', a_firstWords', a_sums', a_met', a_tried', a_seen', a_apart', a_counts', a_next'⟩ := v
  have I' := i_up I
  obtain ⟨dp, tc, dc, bc, P, Q, g, D, B, ⟨g1, g2, g3, g4, g5⟩, ⟨rfl, rfl, rfl, rfl, S, Pl, Tm, hD, hB⟩, ⟨rfl, rfl, rfl, rfl, YS, YP, YT, YTm, YD, YB, hc⟩⟩ := I
  rcases zz_3 v1 with h | ⟨h0, h3, h4, h5⟩ | ⟨j, hj, rfl⟩
  · refine br_t h ?_
    unfold wpY_size
    exact br_t h (br_t rfl ⟨rfl, I'⟩)
  · refine br_f h0 (br_f h3 ?_)
    unfold wpY_size
    exact br_f h0 (br_t h5 (br_t rfl ⟨rfl, I'⟩))
  · refine br_f (nI_pos (by omega)) (br_t (nI_lt (b := 3) hj (by decide)) (wz_in j ?_))
    unfold wpY_size
    refine br_f (nI_pos (by omega)) (br_f (nI_nlt (a := 2) (b := j) (by omega) (by omega)) (br_f (by decide) (wz_in (5 + j) ⟨?_, I'⟩ (by omega) (wz_5 j))))
    rw [wz_at (5 + j) (YP j hj).1 (wz_5 j), wz_at j (Pl.2.1 j hj)]
theorem i_vc_words {k : Nat} {u : SX} {v : SY} (I : i_Rel k u v) (hk : k + 5 ≤ 2560) (v1 : Int32) (v2 : Int32) : wpX_words (fun r u' => wpY_words (fun r' v' => r' = r ∧ i_Rel (k + 5) u' v') v v1 v2) u v1 v2 := by
  obtain ⟨f_stacked, f_signCount, f_demandCount, f_boundCount, a_sizes, a_withEmpty, a_firsts, a_lasts, a_zeroReaders, a_oneReaders, a_followers, a_placedSizes, a_steps, a_ends, a_ways, a_nextWays, a_groups, a_finerGroups, a_reached, a_signs, a_demandSigns, a_demandSignCounts, a_demandPatterns, a_demandKept, a_boundA, a_boundB, a_boundC, a_boundD⟩ := u
  obtain ⟨f_depth', f_termLength', f_demands', f_boundCount', f_known', f_found', f_least', a_sizes', a_empties', a_firsts', a_lasts', a_letters', a_behinds', a_steps', a_term', a_patterns', a_kepts', a_signs', a_signCounts', a_bounds', a_firstWords', a_sums', a_met', a_tried', a_seen', a_apart', a_counts', a_next'⟩ := v
  have I' := i_up I
  obtain ⟨dp, tc, dc, bc, P, Q, g, D, B, ⟨g1, g2, g3, g4, g5⟩, ⟨rfl, rfl, rfl, rfl, S, Pl, Tm, hD, hB⟩, ⟨rfl, rfl, rfl, rfl, YS, YP, YT, YTm, YD, YB, hc⟩⟩ := I
  rcases zz_3 v1 with h | ⟨h0, h3, h4, h5⟩ | ⟨j, hj, rfl⟩
  · refine br_t h ?_
    unfold wpY_words
    exact br_t h (br_t rfl ⟨rfl, I'⟩)
  · refine br_f h0 (br_t h4 ?_)
    unfold wpY_words
    exact br_f h0 (br_t h5 (br_t rfl ⟨rfl, I'⟩))
  · by_cases n0 : v2 < 0
    · refine br_f (nI_pos (by omega)) (br_f (nI_ge (b := 3) hj (by decide)) (br_t n0 ?_))
      unfold wpY_words
      exact br_f (nI_pos (by omega)) (br_f (nI_nlt (a := 2) (b := j) (by omega) (by omega)) (br_f (by decide) (br_t n0 ⟨rfl, I'⟩)))
    by_cases n20 : v2 ≤ 20
    · obtain ⟨m, hm, rfl⟩ := nI_of n0
      refine br_f (nI_pos (by omega)) (br_f (nI_ge (b := 3) hj (by decide)) (br_f n0 (br_t n20 (xw_cw Pl hj hm (fun wa nw => ?_)))))
      unfold wpY_words
      refine br_f (nI_pos (by omega)) (br_f (nI_nlt (a := 2) (b := j) (by omega) (by omega)) (br_f (by decide) (br_f n0 (br_t n20 (yd_cw hj hm (Pl.1 j hj) (YP j hj) YT (fun ca nx => ⟨rfl, ?_⟩))))))
      exact zr_mk ⟨g1, g2, g3, g4, g5⟩ (zr_X S Pl Tm hD hB) (zr_Y YS YP YT YTm YD YB hc)
    · refine br_f (nI_pos (by omega)) (br_f (nI_ge (b := 3) hj (by decide)) (br_f n0 (br_f n20 ?_)))
      unfold wpY_words
      exact br_f (nI_pos (by omega)) (br_f (nI_nlt (a := 2) (b := j) (by omega) (by omega)) (br_f (by decide) (br_f n0 (br_f n20 ⟨rfl, I'⟩))))
theorem i_vc_same {k : Nat} {u : SX} {v : SY} (I : i_Rel k u v) (hk : k + 5 ≤ 2560) (v1 : Int32) (v2 : Int32) : wpX_same (fun r u' => wpY_same (fun r' v' => r' = r ∧ i_Rel (k + 5) u' v') v v1 v2) u v1 v2 := by
  obtain ⟨f_stacked, f_signCount, f_demandCount, f_boundCount, a_sizes, a_withEmpty, a_firsts, a_lasts, a_zeroReaders, a_oneReaders, a_followers, a_placedSizes, a_steps, a_ends, a_ways, a_nextWays, a_groups, a_finerGroups, a_reached, a_signs, a_demandSigns, a_demandSignCounts, a_demandPatterns, a_demandKept, a_boundA, a_boundB, a_boundC, a_boundD⟩ := u
  obtain ⟨f_depth', f_termLength', f_demands', f_boundCount', f_known', f_found', f_least', a_sizes', a_empties', a_firsts', a_lasts', a_letters', a_behinds', a_steps', a_term', a_patterns', a_kepts', a_signs', a_signCounts', a_bounds', a_firstWords', a_sums', a_met', a_tried', a_seen', a_apart', a_counts', a_next'⟩ := v
  have I' := i_up I
  obtain ⟨dp, tc, dc, bc, P, Q, g, D, B, ⟨g1, g2, g3, g4, g5⟩, ⟨rfl, rfl, rfl, rfl, S, Pl, Tm, hD, hB⟩, ⟨rfl, rfl, rfl, rfl, YS, YP, YT, YTm, YD, YB, hc⟩⟩ := I
  rcases zz_3 v1 with h | ⟨h0, h3, h4, h5⟩ | ⟨j, hj, rfl⟩
  · refine br_t h ?_
    unfold wpY_same
    exact br_t h (br_t rfl ⟨rfl, I'⟩)
  · refine br_f h0 (br_t h4 ?_)
    unfold wpY_same
    exact br_f h0 (br_t h5 (br_t rfl ⟨rfl, I'⟩))
  · rcases zz_3 v2 with h | ⟨h0, h3, h4, h5⟩ | ⟨i, hi, rfl⟩
    · refine br_f (nI_pos (by omega)) (br_f (nI_ge (b := 3) hj (by decide)) (br_t h ?_))
      unfold wpY_same
      exact br_f (nI_pos (by omega)) (br_f (nI_nlt (a := 2) (b := j) (by omega) (by omega)) (br_f (by decide) (br_t h (br_t rfl ⟨rfl, I'⟩))))
    · refine br_f (nI_pos (by omega)) (br_f (nI_ge (b := 3) hj (by decide)) (br_f h0 (br_f h3 ?_)))
      unfold wpY_same
      exact br_f (nI_pos (by omega)) (br_f (nI_nlt (a := 2) (b := j) (by omega) (by omega)) (br_f (by decide) (br_f h0 (br_t h5 (br_t rfl ⟨rfl, I'⟩)))))
    · refine xr_same Pl hj hi (fun b gr fg hb => ?_)
      unfold wpY_same
      refine br_f (nI_pos (by omega)) (br_f (nI_nlt (a := 2) (b := j) (by omega) (by omega)) (br_f (by decide) (br_f (nI_pos (by omega)) (br_f (nI_nlt (a := 2) (b := i) (by omega) (by omega)) (br_f (by decide) (ye_same hj hi (Pl.1 j hj) (Pl.1 i hi) (YP j hj) (YP i hi) YT (fun b' ap hb' => ?_)))))))
      have e : b' = b := by rw [Bool.eq_iff_iff, hb', hb]
      subst e
      refine wz_if b' (fun z => ⟨?_, ?_⟩) (fun z => ⟨?_, ?_⟩)
      · rw [z]; rfl
      · exact zr_mk ⟨g1, g2, g3, g4, g5⟩ (zr_X S Pl Tm hD hB) (zr_Y YS YP YT YTm YD YB hc)
      · rw [z]; rfl
      · exact zr_mk ⟨g1, g2, g3, g4, g5⟩ (zr_X S Pl Tm hD hB) (zr_Y YS YP YT YTm YD YB hc)
theorem i_vc_endless {k : Nat} {u : SX} {v : SY} (I : i_Rel k u v) (hk : k + 5 ≤ 2560) (v1 : Int32) : wpX_endless (fun r u' => wpY_endless (fun r' v' => r' = r ∧ i_Rel (k + 5) u' v') v v1) u v1 := by
  obtain ⟨f_stacked, f_signCount, f_demandCount, f_boundCount, a_sizes, a_withEmpty, a_firsts, a_lasts, a_zeroReaders, a_oneReaders, a_followers, a_placedSizes, a_steps, a_ends, a_ways, a_nextWays, a_groups, a_finerGroups, a_reached, a_signs, a_demandSigns, a_demandSignCounts, a_demandPatterns, a_demandKept, a_boundA, a_boundB, a_boundC, a_boundD⟩ := u
  obtain ⟨f_depth', f_termLength', f_demands', f_boundCount', f_known', f_found', f_least', a_sizes', a_empties', a_firsts', a_lasts', a_letters', a_behinds', a_steps', a_term', a_patterns', a_kepts', a_signs', a_signCounts', a_bounds', a_firstWords', a_sums', a_met', a_tried', a_seen', a_apart', a_counts', a_next'⟩ := v
  have I' := i_up I
  obtain ⟨dp, tc, dc, bc, P, Q, g, D, B, ⟨g1, g2, g3, g4, g5⟩, ⟨rfl, rfl, rfl, rfl, S, Pl, Tm, hD, hB⟩, ⟨rfl, rfl, rfl, rfl, YS, YP, YT, YTm, YD, YB, hc⟩⟩ := I
  rcases zz_3 v1 with h | ⟨h0, h3, h4, h5⟩ | ⟨j, hj, rfl⟩
  · refine br_t h ?_
    unfold wpY_endless
    exact br_t h (br_t rfl ⟨rfl, I'⟩)
  · refine br_f h0 (br_f h3 ?_)
    unfold wpY_endless
    exact br_f h0 (br_t h5 (br_t rfl ⟨rfl, I'⟩))
  · refine br_f (nI_pos (by omega)) (br_t (nI_lt (b := 3) hj (by decide)) (xw_end Pl hj (fun b wa nw hb => yd_end hj (Pl.1 j hj) (YP j hj) YT (fun b' ca nx hb' => ⟨?_, ?_⟩))))
    · have e : b' = b := by rw [Bool.eq_iff_iff, hb', hb, wt_end (Pl.1 j hj)]
      rw [e]
    · exact zr_mk ⟨g1, g2, g3, g4, g5⟩ (zr_X S Pl Tm hD hB) (zr_Y YS YP YT YTm YD YB hc)
theorem i_vc_rests {k : Nat} {u : SX} {v : SY} (I : i_Rel k u v) (hk : k + 5 ≤ 2560) (v1 : Int32) : wpX_rests (fun r u' => wpY_rests (fun r' v' => r' = r ∧ i_Rel (k + 5) u' v') v v1) u v1 := by
  obtain ⟨f_stacked, f_signCount, f_demandCount, f_boundCount, a_sizes, a_withEmpty, a_firsts, a_lasts, a_zeroReaders, a_oneReaders, a_followers, a_placedSizes, a_steps, a_ends, a_ways, a_nextWays, a_groups, a_finerGroups, a_reached, a_signs, a_demandSigns, a_demandSignCounts, a_demandPatterns, a_demandKept, a_boundA, a_boundB, a_boundC, a_boundD⟩ := u
  obtain ⟨f_depth', f_termLength', f_demands', f_boundCount', f_known', f_found', f_least', a_sizes', a_empties', a_firsts', a_lasts', a_letters', a_behinds', a_steps', a_term', a_patterns', a_kepts', a_signs', a_signCounts', a_bounds', a_firstWords', a_sums', a_met', a_tried', a_seen', a_apart', a_counts', a_next'⟩ := v
  have I' := i_up I
  obtain ⟨dp, tc, dc, bc, P, Q, g, D, B, ⟨g1, g2, g3, g4, g5⟩, ⟨rfl, rfl, rfl, rfl, S, Pl, Tm, hD, hB⟩, ⟨rfl, rfl, rfl, rfl, YS, YP, YT, YTm, YD, YB, hc⟩⟩ := I
  rcases zz_3 v1 with h | ⟨h0, h3, h4, h5⟩ | ⟨j, hj, rfl⟩
  · refine br_t h ?_
    unfold wpY_rests
    exact br_t h (br_t rfl ⟨rfl, I'⟩)
  · refine br_f h0 (br_f h3 ?_)
    unfold wpY_rests
    exact br_f h0 (br_t h5 (br_t rfl ⟨rfl, I'⟩))
  · refine xr_rests Pl hj (fun R E gr fg ra hR hE => yf_rests hj (Pl.1 j hj) (YP j hj) YT (fun R' E' ap se hR' hE' => ⟨?_, ?_⟩))
    · congr 1
      rw [show 128 = 65 + 63 from rfl, ws_cnt_add, ws_cnt_0 (fun t => wf_fr R' E' (65 + t)) 63 (fun t ht => ?_), Nat.add_zero]
      · refine ws_cnt_congr _ _ 65 (fun t ht => wf_fr_congr (fun o ho => ?_) (fun o ho => ?_))
        · rw [Bool.eq_iff_iff, hR' o (by omega), hR o (by omega)]
        · rw [Bool.eq_iff_iff, hE' o t (by omega) (by omega), hE o t (by omega) (by omega)]
      · apply wf_fr_0
        cases hh : R' (65 + t) with
        | false => rfl
        | true =>
          obtain ⟨w, hw⟩ := (hR' _ (by omega)).mp hh
          have := wt_run_lt (Pl.1 j hj) w 64 (by omega)
          omega
    · exact zr_mk ⟨g1, g2, g3, g4, g5⟩ (zr_X S Pl Tm hD hB) (zr_Y YS YP YT YTm YD YB hc)
theorem i_vc_sign {k : Nat} {u : SX} {v : SY} (I : i_Rel k u v) (hk : k + 5 ≤ 2560) (v1 : Int32) : wpX_sign (fun r u' => wpY_sign (fun r' v' => r' = r ∧ i_Rel (k + 5) u' v') v v1) u v1 := by
  obtain ⟨f_stacked, f_signCount, f_demandCount, f_boundCount, a_sizes, a_withEmpty, a_firsts, a_lasts, a_zeroReaders, a_oneReaders, a_followers, a_placedSizes, a_steps, a_ends, a_ways, a_nextWays, a_groups, a_finerGroups, a_reached, a_signs, a_demandSigns, a_demandSignCounts, a_demandPatterns, a_demandKept, a_boundA, a_boundB, a_boundC, a_boundD⟩ := u
  obtain ⟨f_depth', f_termLength', f_demands', f_boundCount', f_known', f_found', f_least', a_sizes', a_empties', a_firsts', a_lasts', a_letters', a_behinds', a_steps', a_term', a_patterns', a_kepts', a_signs', a_signCounts', a_bounds', a_firstWords', a_sums', a_met', a_tried', a_seen', a_apart', a_counts', a_next'⟩ := v
  have I' := i_up I
  obtain ⟨dp, tc, dc, bc, P, Q, g, D, B, ⟨g1, g2, g3, g4, g5⟩, ⟨rfl, rfl, rfl, rfl, S, Pl, Tm, hD, hB⟩, ⟨rfl, rfl, rfl, rfl, YS, YP, YT, YTm, YD, YB, hc⟩⟩ := I
  by_cases h0 : v1 < 0
  · exact br_t h0 (br_t h0 ⟨rfl, I'⟩)
  by_cases h4 : v1 ≤ 4
  · by_cases ht : tc < 4
    · obtain ⟨w, hw, rfl⟩ : ∃ w, w < 5 ∧ v1 = nI w := by
        obtain ⟨w, hw, rfl⟩ := nI_of h0
        exact ⟨w, by have := (nI_leI (b := 4) hw (by decide)).mp h4; omega, rfl⟩
      have st : ∀ a : Nat → Int32, wr_T tc g a → wr_T (tc + 1) (fun i => if i = tc then w else g i) (upd a tc (nI w)) := by
        intro a h i hi
        dsimp only
        by_cases z : i = tc
        · subst z; rw [pk_us, if_pos rfl]
        · rw [pk_un z, if_neg z]; exact h i (by omega)
      refine zx_sign hw ht (zy_sign hw ht ⟨rfl, zr_mk (g := fun i => if i = tc then w else g i) ⟨g1, by omega, g3, g4, ?_⟩ (zr_X S Pl (st _ Tm) hD hB) (zr_Y YS YP YT (st _ YTm) YD YB hc)⟩)
      intro i hi
      dsimp only
      by_cases z : i = tc
      · rw [if_pos z]; exact hw
      · rw [if_neg z]; exact g5 i (by omega)
    · have e : tc = 4 := by omega
      subst e
      exact br_f h0 (br_t h4 (br_f (by decide) (br_f h0 (br_t h4 (br_t rfl ⟨rfl, I'⟩)))))
  · exact br_f h0 (br_f h4 (br_f h0 (br_f h4 ⟨rfl, I'⟩)))
theorem i_vc_demand {k : Nat} {u : SX} {v : SY} (I : i_Rel k u v) (hk : k + 5 ≤ 2560) (v1 : Int32) (v2 : Int32) : wpX_demand (fun r u' => wpY_demand (fun r' v' => r' = r ∧ i_Rel (k + 5) u' v') v v1 v2) u v1 v2 := by
  obtain ⟨f_stacked, f_signCount, f_demandCount, f_boundCount, a_sizes, a_withEmpty, a_firsts, a_lasts, a_zeroReaders, a_oneReaders, a_followers, a_placedSizes, a_steps, a_ends, a_ways, a_nextWays, a_groups, a_finerGroups, a_reached, a_signs, a_demandSigns, a_demandSignCounts, a_demandPatterns, a_demandKept, a_boundA, a_boundB, a_boundC, a_boundD⟩ := u
  obtain ⟨f_depth', f_termLength', f_demands', f_boundCount', f_known', f_found', f_least', a_sizes', a_empties', a_firsts', a_lasts', a_letters', a_behinds', a_steps', a_term', a_patterns', a_kepts', a_signs', a_signCounts', a_bounds', a_firstWords', a_sums', a_met', a_tried', a_seen', a_apart', a_counts', a_next'⟩ := v
  have I' := i_up I
  obtain ⟨dp, tc, dc, bc, P, Q, g, D, B, ⟨g1, g2, g3, g4, g5⟩, ⟨rfl, rfl, rfl, rfl, S, Pl, Tm, hD, hB⟩, ⟨rfl, rfl, rfl, rfl, YS, YP, YT, YTm, YD, YB, hc⟩⟩ := I
  rcases zz_3 v1 with h | ⟨h0, h3, h4, h5⟩ | ⟨j, hj, rfl⟩
  · refine br_t h ?_
    unfold wpY_demand
    exact br_t h (br_t rfl ⟨rfl, I'⟩)
  · refine br_f h0 (br_t h4 ?_)
    unfold wpY_demand
    exact br_f h0 (br_t h5 (br_t rfl ⟨rfl, I'⟩))
  · by_cases n0 : v2 < 0
    · have z0 : ¬ v2 = 0 := by intro e; rw [e] at n0; exact absurd n0 (by decide)
      have z1 : ¬ v2 = 1 := by intro e; rw [e] at n0; exact absurd n0 (by decide)
      refine br_f (nI_pos (by omega)) (br_f (nI_ge (b := 3) hj (by decide)) (br_t n0 ?_))
      unfold wpY_demand
      exact br_f (nI_pos (by omega)) (br_f (nI_nlt (a := 2) (b := j) (by omega) (by omega)) (br_f (by decide) (br_f z0 (br_f z1 ⟨rfl, I'⟩))))
    by_cases n1 : v2 ≤ 1
    · obtain ⟨b, rfl⟩ : ∃ b, v2 = wr_b b := by
        obtain ⟨w, hw, rfl⟩ := nI_of n0
        have := (nI_leI (b := 1) hw (by decide)).mp n1
        have e : w = 0 ∨ w = 1 := by omega
        rcases e with rfl | rfl
        · exact ⟨false, rfl⟩
        · exact ⟨true, rfl⟩
      by_cases hd : dc < 6
      · refine zx_dem hj hd g2 Tm g5 hD (fun sg sc pt kp hD' => zy_dem hj hd g2 YTm (fun d hd => (hD d hd).1.2.1) YD (fun sg' sc' pt' kp' YD' => ⟨rfl, ?_⟩))
        exact zr_mk (tc := 0) (g := g) ⟨g1, by omega, by omega, g4, fun i hi => absurd hi (by omega)⟩ (zr_X S Pl (fun i hi => absurd hi (by omega)) hD' hB) (zr_Y YS YP YT (fun i hi => absurd hi (by omega)) YD' YB (Or.inl rfl))
      · have e : dc = 6 := by omega
        subst e
        refine br_f (nI_pos (by omega)) (br_f (nI_ge (b := 3) hj (by decide)) (br_f n0 (br_t n1 (br_f (by decide) ?_))))
        unfold wpY_demand
        cases b
        · exact br_f (nI_pos (by omega)) (br_f (nI_nlt (a := 2) (b := j) (by omega) (by omega)) (br_f (by decide) (br_t rfl (br_t rfl ⟨rfl, I'⟩))))
        · exact br_f (nI_pos (by omega)) (br_f (nI_nlt (a := 2) (b := j) (by omega) (by omega)) (br_f (by decide) (br_f (by decide) (br_t rfl (br_t rfl ⟨rfl, I'⟩)))))
    · have z0 : ¬ v2 = 0 := by intro e; rw [e] at n1; exact absurd (by decide) n1
      have z1 : ¬ v2 = 1 := by intro e; rw [e] at n1; exact absurd (by decide) n1
      refine br_f (nI_pos (by omega)) (br_f (nI_ge (b := 3) hj (by decide)) (br_f n0 (br_f n1 ?_)))
      unfold wpY_demand
      exact br_f (nI_pos (by omega)) (br_f (nI_nlt (a := 2) (b := j) (by omega) (by omega)) (br_f (by decide) (br_f z0 (br_f z1 ⟨rfl, I'⟩))))
theorem i_vc_bound {k : Nat} {u : SX} {v : SY} (I : i_Rel k u v) (hk : k + 5 ≤ 2560) (v1 : Int32) (v2 : Int32) (v3 : Int32) (v4 : Int32) : wpX_bound (fun r u' => wpY_bound (fun r' v' => r' = r ∧ i_Rel (k + 5) u' v') v v1 v2 v3 v4) u v1 v2 v3 v4 := by
  obtain ⟨f_stacked, f_signCount, f_demandCount, f_boundCount, a_sizes, a_withEmpty, a_firsts, a_lasts, a_zeroReaders, a_oneReaders, a_followers, a_placedSizes, a_steps, a_ends, a_ways, a_nextWays, a_groups, a_finerGroups, a_reached, a_signs, a_demandSigns, a_demandSignCounts, a_demandPatterns, a_demandKept, a_boundA, a_boundB, a_boundC, a_boundD⟩ := u
  obtain ⟨f_depth', f_termLength', f_demands', f_boundCount', f_known', f_found', f_least', a_sizes', a_empties', a_firsts', a_lasts', a_letters', a_behinds', a_steps', a_term', a_patterns', a_kepts', a_signs', a_signCounts', a_bounds', a_firstWords', a_sums', a_met', a_tried', a_seen', a_apart', a_counts', a_next'⟩ := v
  have I' := i_up I
  obtain ⟨dp, tc, dc, bc, P, Q, g, D, B, ⟨g1, g2, g3, g4, g5⟩, ⟨rfl, rfl, rfl, rfl, S, Pl, Tm, hD, hB⟩, ⟨rfl, rfl, rfl, rfl, YS, YP, YT, YTm, YD, YB, hc⟩⟩ := I
  refine zx_bnd (fun hR => pk_lt bc 3 (fun hb => ?_) (fun hb => ?_)) (fun hR => ?_)
  · refine wz_st bc v1 (wz_st bc v2 (wz_st bc v3 (wz_st bc v4 (nm_r (nI_1 bc) ?_))))
    refine zy_bnd g4 (fun _ _ => ⟨rfl, ?_⟩) (fun _ z => absurd z (by omega)) (fun z => absurd hR z)
    exact zr_mk (B := zz_B B bc v1 v2 v3 v4) ⟨g1, g2, g3, by omega, g5⟩ (zr_X S Pl Tm hD (zz_BX v1 v2 v3 v4 hB)) (zr_Y YS YP YT YTm YD (zz_BY v1 v2 v3 v4 YB) (Or.inl rfl))
  · exact zy_bnd g4 (fun _ z => absurd z (by omega)) (fun _ _ => ⟨rfl, I'⟩) (fun z => absurd hR z)
  · exact zy_bnd g4 (fun z => absurd z hR) (fun z => absurd z hR) (fun _ => ⟨rfl, I'⟩)
theorem i_vc_drop {k : Nat} {u : SX} {v : SY} (I : i_Rel k u v) (hk : k + 5 ≤ 2560) (v1 : Int32) : wpX_drop (fun r u' => wpY_drop (fun r' v' => r' = r ∧ i_Rel (k + 5) u' v') v v1) u v1 := by
  obtain ⟨f_stacked, f_signCount, f_demandCount, f_boundCount, a_sizes, a_withEmpty, a_firsts, a_lasts, a_zeroReaders, a_oneReaders, a_followers, a_placedSizes, a_steps, a_ends, a_ways, a_nextWays, a_groups, a_finerGroups, a_reached, a_signs, a_demandSigns, a_demandSignCounts, a_demandPatterns, a_demandKept, a_boundA, a_boundB, a_boundC, a_boundD⟩ := u
  obtain ⟨f_depth', f_termLength', f_demands', f_boundCount', f_known', f_found', f_least', a_sizes', a_empties', a_firsts', a_lasts', a_letters', a_behinds', a_steps', a_term', a_patterns', a_kepts', a_signs', a_signCounts', a_bounds', a_firstWords', a_sums', a_met', a_tried', a_seen', a_apart', a_counts', a_next'⟩ := v
  have I' := i_up I
  obtain ⟨dp, tc, dc, bc, P, Q, g, D, B, ⟨g1, g2, g3, g4, g5⟩, ⟨rfl, rfl, rfl, rfl, S, Pl, Tm, hD, hB⟩, ⟨rfl, rfl, rfl, rfl, YS, YP, YT, YTm, YD, YB, hc⟩⟩ := I
  by_cases h0 : v1 = 0
  · subst h0
    by_cases hd : dc = 0
    · subst hd
      exact br_f (by decide) (br_t (by decide) (br_t rfl (br_f (by decide) (br_t rfl (br_t rfl (br_t rfl ⟨rfl, I'⟩))))))
    · obtain ⟨d, rfl⟩ : ∃ d, dc = d + 1 := ⟨dc - 1, by omega⟩
      refine br_f (by decide) (br_t (by decide) (br_t rfl (br_t (nI_le (a := 1) (b := d + 1) (by omega) (by omega)) (br_t rfl (nm_r (nI_pred d) (br_t rfl (br_t rfl (br_f (nI_ne0 (by omega) (by omega)) (br_t rfl (nm_r (nI_pred d) ⟨(nI_pred d).symm, ?_⟩))))))))))
      exact zr_mk ⟨g1, g2, by omega, g4, g5⟩ (zr_X S Pl Tm (fun i hi => hD i (by omega)) hB) (zr_Y YS YP YT YTm (fun i hi => YD i (by omega)) YB (Or.inl rfl))
  by_cases h1 : v1 = 1
  · subst h1
    by_cases hd : bc = 0
    · subst hd
      exact br_f (by decide) (br_t (by decide) (br_f (by decide) (br_f (by decide) (br_f (by decide) (br_t rfl (br_f (by decide) (br_t rfl ⟨rfl, I'⟩)))))))
    · obtain ⟨d, rfl⟩ : ∃ d, bc = d + 1 := ⟨bc - 1, by omega⟩
      refine br_f (by decide) (br_t (by decide) (br_f (by decide) (br_t (nI_le (a := 1) (b := d + 1) (by omega) (by omega)) (br_f (by decide) (nm_r (nI_pred d) (br_f (by decide) (br_t rfl (br_f (by decide) (br_f (nI_ne0 (by omega) (by omega)) (br_f (by decide) (nm_r (nI_pred d) ⟨(nI_pred d).symm, ?_⟩)))))))))))
      exact zr_mk ⟨g1, g2, g3, by omega, g5⟩ (zr_X S Pl Tm hD (fun i hi => hB i (by omega))) (zr_Y YS YP YT YTm YD (fun i hi => YB i (by omega)) (Or.inl rfl))
  · by_cases n0 : v1 < 0
    · exact br_t n0 (br_f h0 (br_f h1 ⟨rfl, I'⟩))
    · by_cases n1 : v1 ≤ 1
      · exfalso
        obtain ⟨w, hw, rfl⟩ := nI_of n0
        have := (nI_leI (b := 1) hw (by decide)).mp n1
        have e : w = 0 ∨ w = 1 := by omega
        rcases e with rfl | rfl
        · exact h0 rfl
        · exact h1 rfl
      · exact br_f n0 (br_f n1 (br_f h0 (br_f h1 ⟨rfl, I'⟩)))
theorem i_vc_solutions {k : Nat} {u : SX} {v : SY} (I : i_Rel k u v) (hk : k + 5 ≤ 2560) : wpX_solutions (fun r => wpY_solutions (fun r' v' => r' = r ∧ i_Rel (k + 5) u v') v) u := by
  obtain ⟨f_stacked, f_signCount, f_demandCount, f_boundCount, a_sizes, a_withEmpty, a_firsts, a_lasts, a_zeroReaders, a_oneReaders, a_followers, a_placedSizes, a_steps, a_ends, a_ways, a_nextWays, a_groups, a_finerGroups, a_reached, a_signs, a_demandSigns, a_demandSignCounts, a_demandPatterns, a_demandKept, a_boundA, a_boundB, a_boundC, a_boundD⟩ := u
  obtain ⟨f_depth', f_termLength', f_demands', f_boundCount', f_known', f_found', f_least', a_sizes', a_empties', a_firsts', a_lasts', a_letters', a_behinds', a_steps', a_term', a_patterns', a_kepts', a_signs', a_signCounts', a_bounds', a_firstWords', a_sums', a_met', a_tried', a_seen', a_apart', a_counts', a_next'⟩ := v
  have I' := i_up I
  obtain ⟨dp, tc, dc, bc, P, Q, g, D, B, ⟨g1, g2, g3, g4, g5⟩, ⟨rfl, rfl, rfl, rfl, S, Pl, Tm, hD, hB⟩, ⟨rfl, rfl, rfl, rfl, YS, YP, YT, YTm, YD, YB, hc⟩⟩ := I
  exact xt_sols Pl g3 g4 hD hB (yh_sols Pl.1 YP YT g3 g4 (fun d hd => (hD d hd).1) YD YB hc (fun r fd ls fw sm mt tr C e => ⟨e, zr_mk ⟨g1, g2, g3, g4, g5⟩ (zr_X S Pl Tm hD hB) (zr_Y YS YP YT YTm YD YB (Or.inr ⟨rfl, C⟩))⟩))
theorem i_vc_length {k : Nat} {u : SX} {v : SY} (I : i_Rel k u v) (hk : k + 5 ≤ 2560) (v1 : Int32) : wpX_length (fun r => wpY_length (fun r' v' => r' = r ∧ i_Rel (k + 5) u v') v v1) u v1 := by
  obtain ⟨f_stacked, f_signCount, f_demandCount, f_boundCount, a_sizes, a_withEmpty, a_firsts, a_lasts, a_zeroReaders, a_oneReaders, a_followers, a_placedSizes, a_steps, a_ends, a_ways, a_nextWays, a_groups, a_finerGroups, a_reached, a_signs, a_demandSigns, a_demandSignCounts, a_demandPatterns, a_demandKept, a_boundA, a_boundB, a_boundC, a_boundD⟩ := u
  obtain ⟨f_depth', f_termLength', f_demands', f_boundCount', f_known', f_found', f_least', a_sizes', a_empties', a_firsts', a_lasts', a_letters', a_behinds', a_steps', a_term', a_patterns', a_kepts', a_signs', a_signCounts', a_bounds', a_firstWords', a_sums', a_met', a_tried', a_seen', a_apart', a_counts', a_next'⟩ := v
  have I' := i_up I
  obtain ⟨dp, tc, dc, bc, P, Q, g, D, B, ⟨g1, g2, g3, g4, g5⟩, ⟨rfl, rfl, rfl, rfl, S, Pl, Tm, hD, hB⟩, ⟨rfl, rfl, rfl, rfl, YS, YP, YT, YTm, YD, YB, hc⟩⟩ := I
  rcases zz_3 v1 with h | ⟨h0, h3, h4, h5⟩ | ⟨j, hj, rfl⟩
  · refine br_t h ?_
    unfold wpY_length
    exact br_t h (br_t rfl ⟨rfl, I'⟩)
  · refine br_f h0 (br_f h3 ?_)
    unfold wpY_length
    exact br_f h0 (br_t h5 (br_t rfl ⟨rfl, I'⟩))
  · exact xt_len Pl g3 g4 hD hB hj (fun e => yh_len hj Pl.1 YP YT g3 g4 (fun d hd => (hD d hd).1) YD YB hc (fun r fd ls fw sm mt tr C e0 _ => ⟨e0 e, zr_mk ⟨g1, g2, g3, g4, g5⟩ (zr_X S Pl Tm hD hB) (zr_Y YS YP YT YTm YD YB (Or.inr ⟨rfl, C⟩))⟩)) (fun q hq e => yh_len hj Pl.1 YP YT g3 g4 (fun d hd => (hD d hd).1) YD YB hc (fun r fd ls fw sm mt tr C _ e1 => ⟨e1 q hq e, zr_mk ⟨g1, g2, g3, g4, g5⟩ (zr_X S Pl Tm hD hB) (zr_Y YS YP YT YTm YD YB (Or.inr ⟨rfl, C⟩))⟩))
theorem i_vc_letter {k : Nat} {u : SX} {v : SY} (I : i_Rel k u v) (hk : k + 5 ≤ 2560) (v1 : Int32) (v2 : Int32) : wpX_letter (fun r => wpY_letter (fun r' v' => r' = r ∧ i_Rel (k + 5) u v') v v1 v2) u v1 v2 := by
  obtain ⟨f_stacked, f_signCount, f_demandCount, f_boundCount, a_sizes, a_withEmpty, a_firsts, a_lasts, a_zeroReaders, a_oneReaders, a_followers, a_placedSizes, a_steps, a_ends, a_ways, a_nextWays, a_groups, a_finerGroups, a_reached, a_signs, a_demandSigns, a_demandSignCounts, a_demandPatterns, a_demandKept, a_boundA, a_boundB, a_boundC, a_boundD⟩ := u
  obtain ⟨f_depth', f_termLength', f_demands', f_boundCount', f_known', f_found', f_least', a_sizes', a_empties', a_firsts', a_lasts', a_letters', a_behinds', a_steps', a_term', a_patterns', a_kepts', a_signs', a_signCounts', a_bounds', a_firstWords', a_sums', a_met', a_tried', a_seen', a_apart', a_counts', a_next'⟩ := v
  have I' := i_up I
  obtain ⟨dp, tc, dc, bc, P, Q, g, D, B, ⟨g1, g2, g3, g4, g5⟩, ⟨rfl, rfl, rfl, rfl, S, Pl, Tm, hD, hB⟩, ⟨rfl, rfl, rfl, rfl, YS, YP, YT, YTm, YD, YB, hc⟩⟩ := I
  rcases zz_3 v1 with h | ⟨h0, h3, h4, h5⟩ | ⟨j, hj, rfl⟩
  · refine br_t h ?_
    unfold wpY_letter
    exact br_t h (br_t rfl ⟨rfl, I'⟩)
  · refine br_f h0 (br_f h3 ?_)
    unfold wpY_letter
    exact br_f h0 (br_t h5 (br_t rfl ⟨rfl, I'⟩))
  · refine xt_let Pl g3 g4 hD hB hj (fun e => yh_let hj Pl.1 YP YT g3 g4 (fun d hd => (hD d hd).1) YD YB hc (fun r fd ls fw sm mt tr C e0 _ => ⟨e0 e, zr_mk ⟨g1, g2, g3, g4, g5⟩ (zr_X S Pl Tm hD hB) (zr_Y YS YP YT YTm YD YB (Or.inr ⟨rfl, C⟩))⟩)) (fun q hq e => ⟨fun hv => ?_, fun p hp hv hl => ?_, fun p hv hl => ?_⟩)
    · exact yh_let hj Pl.1 YP YT g3 g4 (fun d hd => (hD d hd).1) YD YB hc (fun r fd ls fw sm mt tr C _ e1 => ⟨(e1 q hq e).1 hv, zr_mk ⟨g1, g2, g3, g4, g5⟩ (zr_X S Pl Tm hD hB) (zr_Y YS YP YT YTm YD YB (Or.inr ⟨rfl, C⟩))⟩)
    · exact yh_let hj Pl.1 YP YT g3 g4 (fun d hd => (hD d hd).1) YD YB hc (fun r fd ls fw sm mt tr C _ e1 => ⟨(e1 q hq e).2.1 p hp hv hl, zr_mk ⟨g1, g2, g3, g4, g5⟩ (zr_X S Pl Tm hD hB) (zr_Y YS YP YT YTm YD YB (Or.inr ⟨rfl, C⟩))⟩)
    · exact yh_let hj Pl.1 YP YT g3 g4 (fun d hd => (hD d hd).1) YD YB hc (fun r fd ls fw sm mt tr C _ e1 => ⟨(e1 q hq e).2.2 p hv hl, zr_mk ⟨g1, g2, g3, g4, g5⟩ (zr_X S Pl Tm hD hB) (zr_Y YS YP YT YTm YD YB (Or.inr ⟨rfl, C⟩))⟩)
theorem i_vc_lengths {k : Nat} {u : SX} {v : SY} (I : i_Rel k u v) (hk : k + 5 ≤ 2560) (v1 : Int32) : wpX_lengths (fun r => wpY_lengths (fun r' v' => r' = r ∧ i_Rel (k + 5) u v') v v1) u v1 := by
  obtain ⟨f_stacked, f_signCount, f_demandCount, f_boundCount, a_sizes, a_withEmpty, a_firsts, a_lasts, a_zeroReaders, a_oneReaders, a_followers, a_placedSizes, a_steps, a_ends, a_ways, a_nextWays, a_groups, a_finerGroups, a_reached, a_signs, a_demandSigns, a_demandSignCounts, a_demandPatterns, a_demandKept, a_boundA, a_boundB, a_boundC, a_boundD⟩ := u
  obtain ⟨f_depth', f_termLength', f_demands', f_boundCount', f_known', f_found', f_least', a_sizes', a_empties', a_firsts', a_lasts', a_letters', a_behinds', a_steps', a_term', a_patterns', a_kepts', a_signs', a_signCounts', a_bounds', a_firstWords', a_sums', a_met', a_tried', a_seen', a_apart', a_counts', a_next'⟩ := v
  have I' := i_up I
  obtain ⟨dp, tc, dc, bc, P, Q, g, D, B, ⟨g1, g2, g3, g4, g5⟩, ⟨rfl, rfl, rfl, rfl, S, Pl, Tm, hD, hB⟩, ⟨rfl, rfl, rfl, rfl, YS, YP, YT, YTm, YD, YB, hc⟩⟩ := I
  rcases zz_3 v1 with h | ⟨h0, h3, h4, h5⟩ | ⟨j, hj, rfl⟩
  · refine br_t h ?_
    unfold wpY_lengths
    exact br_t h (br_t rfl ⟨rfl, I'⟩)
  · refine br_f h0 (br_f h3 ?_)
    unfold wpY_lengths
    exact br_f h0 (br_t h5 (br_t rfl ⟨rfl, I'⟩))
  · exact xt_lens Pl g3 g4 hD hB hj (yh_lens hj Pl.1 YP YT g3 g4 (fun d hd => (hD d hd).1) YD YB hc (fun r fd ls fw sm mt tr C e => ⟨e, zr_mk ⟨g1, g2, g3, g4, g5⟩ (zr_X S Pl Tm hD hB) (zr_Y YS YP YT YTm YD YB (Or.inr ⟨rfl, C⟩))⟩))
theorem i_vc_different {k : Nat} {u : SX} {v : SY} (I : i_Rel k u v) (hk : k + 5 ≤ 2560) (v1 : Int32) : wpX_different (fun r => wpY_different (fun r' v' => r' = r ∧ i_Rel (k + 5) u v') v v1) u v1 := by
  obtain ⟨f_stacked, f_signCount, f_demandCount, f_boundCount, a_sizes, a_withEmpty, a_firsts, a_lasts, a_zeroReaders, a_oneReaders, a_followers, a_placedSizes, a_steps, a_ends, a_ways, a_nextWays, a_groups, a_finerGroups, a_reached, a_signs, a_demandSigns, a_demandSignCounts, a_demandPatterns, a_demandKept, a_boundA, a_boundB, a_boundC, a_boundD⟩ := u
  obtain ⟨f_depth', f_termLength', f_demands', f_boundCount', f_known', f_found', f_least', a_sizes', a_empties', a_firsts', a_lasts', a_letters', a_behinds', a_steps', a_term', a_patterns', a_kepts', a_signs', a_signCounts', a_bounds', a_firstWords', a_sums', a_met', a_tried', a_seen', a_apart', a_counts', a_next'⟩ := v
  have I' := i_up I
  obtain ⟨dp, tc, dc, bc, P, Q, g, D, B, ⟨g1, g2, g3, g4, g5⟩, ⟨rfl, rfl, rfl, rfl, S, Pl, Tm, hD, hB⟩, ⟨rfl, rfl, rfl, rfl, YS, YP, YT, YTm, YD, YB, hc⟩⟩ := I
  rcases zz_3 v1 with h | ⟨h0, h3, h4, h5⟩ | ⟨j, hj, rfl⟩
  · refine br_t h ?_
    unfold wpY_different
    exact br_t h (br_t rfl ⟨rfl, I'⟩)
  · refine br_f h0 (br_f h3 ?_)
    unfold wpY_different
    exact br_f h0 (br_t h5 (br_t rfl ⟨rfl, I'⟩))
  · exact xt_dif Pl g3 g4 hD hB hj (yh_dif hj Pl.1 YP YT g3 g4 (fun d hd => (hD d hd).1) YD YB hc (fun r fd ls fw sm mt tr C e => ⟨e, zr_mk ⟨g1, g2, g3, g4, g5⟩ (zr_X S Pl Tm hD hB) (zr_Y YS YP YT YTm YD YB (Or.inr ⟨rfl, C⟩))⟩))
theorem i_vc_ofLength {k : Nat} {u : SX} {v : SY} (I : i_Rel k u v) (hk : k + 5 ≤ 2560) (v1 : Int32) : wpX_ofLength (fun r => wpY_ofLength (fun r' v' => r' = r ∧ i_Rel (k + 5) u v') v v1) u v1 := by
  obtain ⟨f_stacked, f_signCount, f_demandCount, f_boundCount, a_sizes, a_withEmpty, a_firsts, a_lasts, a_zeroReaders, a_oneReaders, a_followers, a_placedSizes, a_steps, a_ends, a_ways, a_nextWays, a_groups, a_finerGroups, a_reached, a_signs, a_demandSigns, a_demandSignCounts, a_demandPatterns, a_demandKept, a_boundA, a_boundB, a_boundC, a_boundD⟩ := u
  obtain ⟨f_depth', f_termLength', f_demands', f_boundCount', f_known', f_found', f_least', a_sizes', a_empties', a_firsts', a_lasts', a_letters', a_behinds', a_steps', a_term', a_patterns', a_kepts', a_signs', a_signCounts', a_bounds', a_firstWords', a_sums', a_met', a_tried', a_seen', a_apart', a_counts', a_next'⟩ := v
  have I' := i_up I
  obtain ⟨dp, tc, dc, bc, P, Q, g, D, B, ⟨g1, g2, g3, g4, g5⟩, ⟨rfl, rfl, rfl, rfl, S, Pl, Tm, hD, hB⟩, ⟨rfl, rfl, rfl, rfl, YS, YP, YT, YTm, YD, YB, hc⟩⟩ := I
  exact xt_ofl Pl g3 g4 hD hB (yh_ofl Pl.1 YP YT g3 g4 (fun d hd => (hD d hd).1) YD YB hc (fun r fd ls fw sm mt tr C e => ⟨e, zr_mk ⟨g1, g2, g3, g4, g5⟩ (zr_X S Pl Tm hD hB) (zr_Y YS YP YT YTm YD YB (Or.inr ⟨rfl, C⟩))⟩))
end
