/-! rows pasted from kit/rows -/
theorem pk_us {f : Nat → Int32} {k : Nat} {x : Int32} : upd f k x k = x := if_pos rfl
theorem pk_un {f : Nat → Int32} {k j : Nat} {x : Int32} (h : j ≠ k) : upd f k x j = f j := if_neg h
theorem pk_sub {a b : Nat} (h : b ≤ a) : nI a - nI b = nI (a - b) := by
  obtain ⟨c, rfl⟩ : ∃ c, a = c + b := ⟨a - b, by omega⟩
  rw [← nI_add, Int32.add_sub_cancel, Nat.add_sub_cancel]
theorem pk_m1 (n : Nat) : nI (n + 1) + (-1) = nI n := by
  rw [← nI_1, Int32.add_assoc, show (1 : Int32) + (-1) = 0 from rfl, Int32.add_zero]
theorem pk_mul (a b : Nat) : nI a * nI b = nI (a * b) := (Int32.ofNat_mul a b).symm
theorem pk_div {a d : Nat} (ha : a < 2 ^ 31) (h0 : 0 < d) (hd : d < 2 ^ 31) : nI a / nI d = nI (a / d) := by
  apply Int32.toInt_inj.mp
  rw [lg_idiv_nonneg (by rw [nI_toInt ha]; omega) (by rw [nI_toInt hd]; omega), nI_toInt ha, nI_toInt hd, nI_toInt (Nat.lt_of_le_of_lt (Nat.div_le_self a d) ha)]
  first | rfl | exact (Int.natCast_ediv _ _).symm
theorem pk_rem {a d : Nat} (ha : a < 2 ^ 31) (h0 : 0 < d) (hd : d < 2 ^ 31) : nI a - nI a / nI d * nI d = nI (a % d) := by
  rw [pk_div ha h0 hd, pk_mul, pk_sub (Nat.div_mul_le_self a d)]
  exact congrArg nI (by have := Nat.div_add_mod' a d; omega)
theorem pk_sub_toInt {a b : Nat} (ha : a < 2 ^ 30) (hb : b < 2 ^ 30) : (nI a - nI b).toInt = (a : Int) - b := by
  rw [Int32.toInt_sub, nI_toInt (by omega), nI_toInt (by omega)]
  exact Int.bmod_eq_of_le (by omega) (by omega)
theorem pk_sneg {a b : Nat} (hb : b < 2 ^ 30) (h : a < b) : nI a - nI b < 0 := by
  rw [Int32.lt_iff_toInt_lt, pk_sub_toInt (by omega) hb, show (0 : Int32).toInt = 0 from by decide]
  omega
theorem pk_ix (x : Int32) {n : Nat} (hn : n < 2 ^ 31) : x < 0 ∨ nI n ≤ x ∨ ∃ j : Nat, j < n ∧ x = nI j := by
  by_cases h : x < 0
  · exact Or.inl h
  · obtain ⟨j, hj, rfl⟩ := nI_of h
    by_cases h2 : j < n
    · exact Or.inr (Or.inr ⟨j, h2, rfl⟩)
    · exact Or.inr (Or.inl (nI_le (by omega) hj))
theorem pk_le {x y : Int32} {A B : Prop} (a b : Nat) (f : a ≤ b → A) (g : b < a → B) (hx : x = nI a := by rfl) (hy : y = nI b := by rfl) (ha : a < 2 ^ 31 := by omega) (hb : b < 2 ^ 31 := by omega) : (x ≤ y → A) ∧ (¬ x ≤ y → B) := by
  subst hx hy
  rw [nI_leI ha hb]
  exact ⟨f, fun z => g (by omega)⟩
theorem pk_lt {x y : Int32} {A B : Prop} (a b : Nat) (f : a < b → A) (g : b ≤ a → B) (hx : x = nI a := by rfl) (hy : y = nI b := by rfl) (ha : a < 2 ^ 31 := by omega) (hb : b < 2 ^ 31 := by omega) : (x < y → A) ∧ (¬ x < y → B) := by
  subst hx hy
  rw [nI_ltI ha hb]
  exact ⟨f, fun z => g (by omega)⟩
theorem pk_eq {x y : Int32} {A B : Prop} (a b : Nat) (f : a = b → A) (g : a ≠ b → B) (hx : x = nI a := by rfl) (hy : y = nI b := by rfl) (ha : a < 2 ^ 31 := by omega) (hb : b < 2 ^ 31 := by omega) : (x = y → A) ∧ (¬ x = y → B) := by
  subst hx hy
  rw [nI_eq ha hb]
  exact ⟨f, g⟩
theorem pk_in {x : Int32} (n N : Nat) (h : n < N) (hx : x = nI n := by rfl) (hN : N < 2 ^ 31 := by omega) : vp_in x N := by
  subst hx
  exact vp_in_nI h hN
theorem pk_cl {x : Int32} (n : Nat) (hx : x = nI n := by rfl) (h : n < 2 ^ 31 := by omega) : x.toNatClampNeg = n := by
  subst hx
  exact nI_clamp h
theorem pk_loop {σ : Type} (W : Nat → Nat → σ → Prop) (I : Nat → σ → Prop) (e i0 : Nat) (s : σ) (hi : i0 ≤ e) (h0 : I i0 s) (hx : ∀ n s, I e s → W (n + 1) e s)
    (hs : ∀ n i s, i < e → I i s → (∀ s', I (i + 1) s' → W n (i + 1) s') → W (n + 1) i s) : ∃ n, W n i0 s :=
  ⟨e + 1, loop_i W I e hx hs (e + 1) i0 s hi (by omega) h0⟩
theorem pk_loopD {σ : Type} (W : Nat → Nat → σ → Prop) (I : Nat → σ → Prop) (hx : ∀ n s, I 0 s → W (n + 1) 0 s)
    (hs : ∀ n i s, I (i + 1) s → (∀ s', I i s' → W n i s') → W (n + 1) (i + 1) s) : ∀ (e : Nat) (s : σ), I e s → W (e + 1) e s := by
  intro e
  induction e with
  | zero => exact fun s h => hx 0 s h
  | succ e ih => exact fun s h => hs (e + 1) e s h (fun s' h' => ih s' h')
/-! the cells: 0 .. 100 -/
def fz_c (a : Fin 101) : Int32 := nI a.val
theorem fz_c_0 : fz_c 0 = 0 := by decide
theorem fz_c_1 : fz_c 1 = 1 := by decide
theorem fz_c_100 : fz_c 100 = 100 := by decide
theorem fz_c_lt (a : Fin 101) : a.val < 2 ^ 31 := Nat.lt_trans a.isLt (by decide)
theorem fz_c_inj {a b : Fin 101} : fz_c a = fz_c b ↔ a = b := by
  show nI a.val = nI b.val ↔ a = b
  rw [nI_eq (fz_c_lt a) (fz_c_lt b)]
  exact ⟨fun h => Fin.ext h, fun h => by rw [h]⟩
theorem fz_c_z {a : Fin 101} : fz_c a = 0 ↔ a = 0 := by
  rw [← fz_c_0]
  exact fz_c_inj
theorem fz_c_ge (a : Fin 101) : ¬ fz_c a < 0 := nI_pos (fz_c_lt a)
theorem fz_c_n4 (a : Fin 101) : fz_c a ≠ -4 := fun h => fz_c_ge a (by rw [h]; decide)
theorem fz_rem {n : Nat} (h : n < 2 ^ 31) : nI n - nI n / 101 * 101 = fz_c (Fin.ofNat 101 n) := pk_rem (d := 101) h (by decide) (by decide)
theorem fz_of_mul (m n : Nat) : Fin.ofNat 101 (m * n) = Fin.ofNat 101 m * Fin.ofNat 101 n := by
  apply Fin.ext
  show m * n % 101 = (m % 101) * (n % 101) % 101
  exact Nat.mul_mod m n 101
theorem fz_of_val (a : Fin 101) : Fin.ofNat 101 a.val = a := Fin.ext (Nat.mod_eq_of_lt a.isLt)
theorem fz_of_neg (a : Fin 101) : Fin.ofNat 101 (101 - a.val) = - a := by
  have h : Fin.ofNat 101 (101 - a.val) + a = 0 := by
    have h1 : Fin.ofNat 101 (101 - a.val) + Fin.ofNat 101 a.val = 0 := by
      rw [← fz_ofNat_add, Nat.sub_add_cancel (Nat.le_of_lt a.isLt)]
      rfl
    rw [fz_of_val] at h1
    exact h1
  generalize Fin.ofNat 101 (101 - a.val) = b at h
  grind
theorem fz_mul_lt (a b : Fin 101) : a.val * b.val ≤ 10000 := Nat.mul_le_mul (show a.val ≤ 100 by omega) (show b.val ≤ 100 by omega)
theorem fz_rem_m (a b : Fin 101) : fz_c a * fz_c b - fz_c a * fz_c b / 101 * 101 = fz_c (a * b) := by
  show nI a.val * nI b.val - nI a.val * nI b.val / 101 * 101 = _
  have := fz_mul_lt a b
  rw [pk_mul, fz_rem (by omega), fz_of_mul, fz_of_val, fz_of_val]
theorem fz_rem_ma (a b c : Fin 101) : (fz_c a + fz_c b * fz_c c) - (fz_c a + fz_c b * fz_c c) / 101 * 101 = fz_c (a + b * c) := by
  show (nI a.val + nI b.val * nI c.val) - (nI a.val + nI b.val * nI c.val) / 101 * 101 = _
  have := fz_mul_lt b c
  rw [pk_mul, nI_add, fz_rem (by omega), fz_ofNat_add, fz_of_mul, fz_of_val, fz_of_val, fz_of_val]
theorem fz_rem_h (s a b : Fin 101) : (fz_c s * fz_c a + fz_c b) - (fz_c s * fz_c a + fz_c b) / 101 * 101 = fz_c (s * a + b) := by
  show (nI s.val * nI a.val + nI b.val) - (nI s.val * nI a.val + nI b.val) / 101 * 101 = _
  have := fz_mul_lt s a
  rw [pk_mul, nI_add, fz_rem (by omega), fz_ofNat_add, fz_of_mul, fz_of_val, fz_of_val, fz_of_val]
theorem fz_rem_ms (a b c : Fin 101) : (fz_c a + (101 - fz_c b) * fz_c c) - (fz_c a + (101 - fz_c b) * fz_c c) / 101 * 101 = fz_c (a - b * c) := by
  have e : (101 : Int32) - fz_c b = nI (101 - b.val) := pk_sub (a := 101) (Nat.le_of_lt b.isLt)
  rw [e]
  show (nI a.val + nI (101 - b.val) * nI c.val) - (nI a.val + nI (101 - b.val) * nI c.val) / 101 * 101 = _
  have : (101 - b.val) * c.val ≤ 101 * 100 := Nat.mul_le_mul (by omega) (by omega)
  rw [pk_mul, nI_add, fz_rem (by omega), fz_ofNat_add, fz_of_mul, fz_of_val, fz_of_neg, fz_of_val]
  congr 1
  grind
theorem fz_rem_k {k : Nat} (hk : k < 1000) (a : Fin 101) : nI k * fz_c a - nI k * fz_c a / 101 * 101 = fz_c (Fin.ofNat 101 k * a) := by
  show nI k * nI a.val - nI k * nI a.val / 101 * 101 = _
  have : k * a.val ≤ 1000 * 100 := Nat.mul_le_mul (by omega) (by omega)
  rw [pk_mul, fz_rem (by omega), fz_of_mul, fz_of_val]
theorem fz_rem_1 (a : Fin 101) : fz_c a - fz_c a / 101 * 101 = fz_c a := by
  show nI a.val - nI a.val / 101 * 101 = _
  rw [fz_rem (fz_c_lt a), fz_of_val]
/-! arrays and their pictures -/
def fz_ar (A : Nat → Int32) (f : Nat → Fin 101) : Prop := ∀ k, k < 25 → A k = fz_c (f k)
def fz_at (A : Nat → Int32) (o : Nat) (f : Nat → Fin 101) : Prop := ∀ k, k < 25 → A (o + k) = fz_c (f k)
theorem fz_up {s : Nat → Int32} {f : Nat → Fin 101} {i : Nat} {v : Int32} (h : ∀ k, k < i → s k = fz_c (f k)) (hv : v = fz_c (f i)) : ∀ k, k < i + 1 → upd s i v k = fz_c (f k) := fun k hk => by
  by_cases c : k = i
  · subst c
    rw [pk_us, hv]
  · rw [pk_un c]
    exact h k (by omega)
theorem fz_upo {s : Nat → Int32} {f : Nat → Fin 101} {i o : Nat} {v : Int32} (h : ∀ k, k < i → s (o + k) = fz_c (f k)) (hv : v = fz_c (f i)) : ∀ k, k < i + 1 → upd s (o + i) v (o + k) = fz_c (f k) := fun k hk => by
  by_cases c : k = i
  · subst c
    rw [pk_us, hv]
  · rw [pk_un (by omega)]
    exact h k (by omega)
def fz_d1 : Nat → Int32
  | 0 => -1
  | j + 1 => nI j
theorem fz_d1_s (j : Nat) : nI j + (-1) = fz_d1 j := by
  cases j with
  | zero => decide
  | succ j => exact pk_m1 j
theorem fz_nz101 : ¬ (101 : Int32) = 0 := by decide
theorem fz_ar_inj {A : Nat → Int32} {f g : Nat → Fin 101} (hf : fz_ar A f) (hg : fz_ar A g) (lf : fz_l f 25) (lg : fz_l g 25) : f = g := by
  funext k
  by_cases c : k < 25
  · exact fz_c_inj.mp ((hf k c).symm.trans (hg k c))
  · rw [lf k (by omega), lg k (by omega)]
/-! the parts of a product, one factor's cells one after another -/
def fz_tr (i : Nat) (f : Nat → Fin 101) : Nat → Fin 101 := fun k => if k < i then f k else 0
theorem fz_tr_s (i : Nat) (f : Nat → Fin 101) : fz_tr (i + 1) f = fz_a (fz_tr i f) (fz_o i (f i)) := by
  funext k
  show (if k < i + 1 then f k else 0) = (if k < i then f k else 0) + (if k = i then f i else 0)
  by_cases c : k = i
  · subst c
    rw [if_pos (by omega), if_neg (by omega), if_pos rfl]
    grind
  · by_cases d : k < i
    · rw [if_pos (by omega), if_pos d, if_neg c]
      grind
    · rw [if_neg (by omega), if_neg d, if_neg c]
      rfl
theorem fz_tr_e {n : Nat} {f : Nat → Fin 101} (h : fz_l f n) : fz_tr n f = f := by
  funext k
  show (if k < n then f k else 0) = f k
  by_cases c : k < n
  · rw [if_pos c]
  · rw [if_neg c, h k (by omega)]
theorem fz_tr_0 (f : Nat → Fin 101) : fz_tr 0 f = fz_o 0 0 := by
  funext k
  rw [fz_o00]
  show (if k < 0 then f k else 0) = 0
  rw [if_neg (by omega)]
theorem fz_r_trs {R : Type} [Lean.Grind.CommRing R] (f t o g : R) : f + (t + o) * g = (f + t * g) + o * g := by grind
theorem fz_tr_add (f h g : Nat → Fin 101) (i : Nat) : fz_a f (fz_m (fz_tr (i + 1) h) g) = fz_a (fz_a f (fz_m (fz_tr i h) g)) (fz_m (fz_o i (h i)) g) := by
  rw [fz_tr_s]
  exact @fz_r_trs _ fz_ring f (fz_tr i h) (fz_o i (h i)) g
theorem fz_r_tr0 {R : Type} [Lean.Grind.CommRing R] (f g : R) : f + 0 * g = f := by grind
theorem fz_tr_add0 (f h g : Nat → Fin 101) : fz_a f (fz_m (fz_tr 0 h) g) = f := by
  rw [fz_tr_0]
  exact @fz_r_tr0 _ fz_ring f g
