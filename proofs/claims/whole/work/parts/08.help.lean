/-! terms that meet the printed steps -/
theorem wz_st {a : Nat → Int32} {x v : Int32} {P : (Nat → Int32) → Prop} {N : Nat} (j : Nat) (v' : Int32) (h : P (upd a j v')) (hj : j < N := by omega) (hx : x = nI j := by rfl) (hv : v = v' := by rfl) (hN : N < 2 ^ 31 := by decide) : vp_in x N ∧ ∀ a', a' = upd a x.toNatClampNeg v → P a' := by
  subst hx hv
  rw [nI_clamp (by omega)]
  exact ⟨vp_in_nI hj hN, nm_e h⟩
theorem wz_ld {a : Nat → Int32} {x : Int32} {P : Int32 → Prop} {N : Nat} (j : Nat) (y : Int32) (h : P y) (hj : j < N := by omega) (hx : x = nI j := by rfl) (hy : a j = y := by rfl) (hN : N < 2 ^ 31 := by decide) : vp_in x N ∧ ∀ y', y' = a x.toNatClampNeg → P y' := by
  subst hx hy
  rw [nI_clamp (by omega)]
  exact ⟨vp_in_nI hj hN, nm_e h⟩
theorem wz_in {x : Int32} {A : Prop} {N : Nat} (j : Nat) (h : A) (hj : j < N := by omega) (hx : x = nI j := by rfl) (hN : N < 2 ^ 31 := by decide) : vp_in x N ∧ A := by
  subst hx
  exact ⟨vp_in_nI hj hN, h⟩
theorem wz_at {a : Nat → Int32} {x y : Int32} (j : Nat) (hy : a j = y) (hx : x = nI j := by rfl) (hj : j < 2 ^ 31 := by omega) : a x.toNatClampNeg = y := by
  subst hx
  rw [nI_clamp hj]
  exact hy
theorem wz_if {y : Int32} {A B : Prop} (b : Bool) (f : b = false → A) (g : b = true → B) (hy : y = wr_b b := by rfl) : (y = 0 → A) ∧ (¬ y = 0 → B) := by
  subst hy
  rw [wr_b_0]
  exact ⟨f, fun z => g (by cases b <;> simp at z ⊢)⟩
theorem wz_if1 {y : Int32} {A B : Prop} (b : Bool) (f : b = true → A) (g : b = false → B) (hy : y = wr_b b := by rfl) : (y = 1 → A) ∧ (¬ y = 1 → B) := by
  subst hy
  rw [wr_b_1]
  exact ⟨f, fun z => g (by cases b <;> simp at z ⊢)⟩
theorem wz_tb {y : Int32} {A B : Prop} (b : Bool) (f : b = true → A) (g : b = false → B) (hy : y = 1 ↔ b = true) : (y = 1 → A) ∧ (¬ y = 1 → B) := by
  rw [hy]
  exact ⟨f, fun z => g (by cases b <;> simp at z ⊢)⟩
theorem wz_c {c d A B : Prop} (hc : c ↔ d) (f : d → A) (g : ¬ d → B) : (c → A) ∧ (¬ c → B) := by
  rw [hc]
  exact ⟨f, g⟩
theorem wz_v {P : Int32 → Prop} {x y : Int32} (e : x = y) (h : P y) : P x := e ▸ h
theorem wz_lit (a n : Nat) : nI a * nI n + nI 0 = nI (a * n) := by rw [pk_mul, nI_add, Nat.add_zero]
theorem wz_ma (a m b : Nat) : nI a * nI m + nI b = nI (a * m + b) := by rw [pk_mul, nI_add]
theorem wz_am (m a b : Nat) : nI m * nI a + nI b = nI (m * a + b) := wz_ma m a b
theorem wz_m6 (a b : Nat) : nI a * 6 + nI b = nI (a * 6 + b) := wz_ma a 6 b
theorem wz_m4 (a b : Nat) : nI a * 4 + nI b = nI (a * 4 + b) := wz_ma a 4 b
theorem wz_m2 (a : Nat) : nI a * 2 = nI (a * 2) := pk_mul a 2
theorem wz_m21 (a : Nat) : nI a * 2 + 1 = nI (a * 2 + 1) := wz_ma a 2 1
theorem wz_m65 (a : Nat) : nI a * 65 = nI (a * 65) := pk_mul a 65
theorem wz_m64 (a : Nat) : nI a * 65 + 64 = nI (a * 65 + 64) := wz_ma a 65 64
theorem wz_6m (a b : Nat) : (6 : Int32) * nI a + nI b = nI (6 * a + b) := wz_am 6 a b
theorem wz_6 (a : Nat) : (6 : Int32) * nI a = nI (6 * a) := pk_mul 6 a
theorem wz_5 (a : Nat) : (5 : Int32) + nI a = nI (5 + a) := nI_add 5 a
theorem wz_256 (a b : Nat) : (256 : Int32) * nI a + nI b = nI (256 * a + b) := wz_am 256 a b
theorem wz_128 (a b : Nat) : (128 : Int32) * nI a + nI b = nI (128 * a + b) := wz_am 128 a b
theorem wz_4m (a b : Nat) : (4 : Int32) * nI a + nI b = nI (4 * a + b) := wz_am 4 a b
theorem wz_d2 {a : Nat} (h : a < 2 ^ 31) : nI a / 2 = nI (a / 2) := pk_div (d := 2) h (by decide) (by decide)
theorem wz_r2 {a : Nat} (h : a < 2 ^ 31) : nI a - nI a / 2 * 2 = nI (a % 2) := pk_rem (d := 2) h (by decide) (by decide)
theorem wz_d128 {a : Nat} (h : a < 2 ^ 31) : nI a / 128 = nI (a / 128) := pk_div (d := 128) h (by decide) (by decide)
theorem wz_r128 {a : Nat} (h : a < 2 ^ 31) : nI a - nI a / 128 * 128 = nI (a % 128) := pk_rem (d := 128) h (by decide) (by decide)
theorem wz_d256 {a : Nat} (h : a < 2 ^ 31) : nI a / 256 = nI (a / 256) := pk_div (d := 256) h (by decide) (by decide)
