section
/-! sums and polynomials over the remainders of 101; a polynomial is a function from the exponents -/
def fz_s : Nat → (Nat → Fin 101) → Fin 101
  | 0, _ => 0
  | n + 1, h => fz_s n h + h n
theorem fz_s_first (n : Nat) (h : Nat → Fin 101) : fz_s (n + 1) h = h 0 + fz_s n (fun i => h (i + 1)) := by
  induction n with
  | zero =>
    show 0 + h 0 = h 0 + 0
    grind
  | succ n ih =>
    show fz_s (n + 1) h + h (n + 1) = h 0 + (fz_s n (fun i => h (i + 1)) + h (n + 1))
    rw [ih]
    grind
theorem fz_s_congr {n : Nat} {h h' : Nat → Fin 101} (e : ∀ i, i < n → h i = h' i) : fz_s n h = fz_s n h' := by
  induction n with
  | zero => rfl
  | succ n ih =>
    show fz_s n h + h n = fz_s n h' + h' n
    rw [ih (fun i hi => e i (by omega)), e n (by omega)]
theorem fz_s_zero {n : Nat} {h : Nat → Fin 101} (e : ∀ i, i < n → h i = 0) : fz_s n h = 0 := by
  induction n with
  | zero => rfl
  | succ n ih =>
    show fz_s n h + h n = 0
    rw [ih (fun i hi => e i (by omega)), e n (by omega)]
    rfl
theorem fz_s_one {n : Nat} {h : Nat → Fin 101} (i0 : Nat) (hi : i0 < n) (e : ∀ i, i < n → i ≠ i0 → h i = 0) : fz_s n h = h i0 := by
  induction n with
  | zero => omega
  | succ n ih =>
    show fz_s n h + h n = h i0
    by_cases c : i0 = n
    · subst c
      rw [fz_s_zero (fun i hi => e i (by omega) (by omega))]
      grind
    · rw [ih (by omega) (fun i hi => e i (by omega)), e n (by omega) (fun z => c z.symm)]
      grind
theorem fz_s_add (n : Nat) (h h' : Nat → Fin 101) : fz_s n (fun i => h i + h' i) = fz_s n h + fz_s n h' := by
  induction n with
  | zero => rfl
  | succ n ih =>
    show fz_s n (fun i => h i + h' i) + (h n + h' n) = fz_s n h + h n + (fz_s n h' + h' n)
    rw [ih]
    grind
theorem fz_s_mul (n : Nat) (c : Fin 101) (h : Nat → Fin 101) : fz_s n (fun i => c * h i) = c * fz_s n h := by
  induction n with
  | zero =>
    show (0 : Fin 101) = c * 0
    grind
  | succ n ih =>
    show fz_s n (fun i => c * h i) + c * h n = c * (fz_s n h + h n)
    rw [ih]
    grind
def fz_m (f g : Nat → Fin 101) : Nat → Fin 101 := fun k => fz_s (k + 1) (fun i => f i * g (k - i))
def fz_a (f g : Nat → Fin 101) : Nat → Fin 101 := fun k => f k + g k
def fz_d (f g : Nat → Fin 101) : Nat → Fin 101 := fun k => f k - g k
def fz_n (f : Nat → Fin 101) : Nat → Fin 101 := fun k => - f k
def fz_o (s : Nat) (a : Fin 101) : Nat → Fin 101 := fun k => if k = s then a else 0
def fz_t (f : Nat → Fin 101) : Nat → Fin 101 := fun k => f (k + 1)
theorem fz_m_0 (f g : Nat → Fin 101) : fz_m f g 0 = f 0 * g 0 := by
  show 0 + f 0 * g 0 = f 0 * g 0
  grind
theorem fz_m_first (f g : Nat → Fin 101) (k : Nat) : fz_m f g (k + 1) = f 0 * g (k + 1) + fz_m (fz_t f) g k := by
  show fz_s (k + 1 + 1) (fun i => f i * g (k + 1 - i)) = _
  rw [fz_s_first]
  show f 0 * g (k + 1) + fz_s (k + 1) (fun i => f (i + 1) * g (k + 1 - (i + 1))) = _
  congr 1
  exact fz_s_congr (fun i hi => by
    show f (i + 1) * g (k + 1 - (i + 1)) = f (i + 1) * g (k - i)
    rw [Nat.add_sub_add_right])
theorem fz_m_last (f g : Nat → Fin 101) (k : Nat) : fz_m f g (k + 1) = fz_m f (fz_t g) k + f (k + 1) * g 0 := by
  show fz_s (k + 1) (fun i => f i * g (k + 1 - i)) + f (k + 1) * g (k + 1 - (k + 1)) = _
  rw [Nat.sub_self]
  congr 1
  exact fz_s_congr (fun i hi => by
    show f i * g (k + 1 - i) = f i * g (k - i + 1)
    rw [show k + 1 - i = k - i + 1 by omega])
theorem fz_m_comm_k (k : Nat) : ∀ f g : Nat → Fin 101, fz_m f g k = fz_m g f k := by
  induction k with
  | zero =>
    intro f g
    rw [fz_m_0, fz_m_0]
    grind
  | succ k ih =>
    intro f g
    rw [fz_m_first f g, fz_m_last g f, ih (fz_t f) g]
    grind
theorem fz_m_comm (f g : Nat → Fin 101) : fz_m f g = fz_m g f := funext (fun k => fz_m_comm_k k f g)
theorem fz_m_radd (f g h : Nat → Fin 101) : fz_m f (fz_a g h) = fz_a (fz_m f g) (fz_m f h) := by
  funext k
  show fz_s (k + 1) (fun i => f i * (g (k - i) + h (k - i))) = fz_s (k + 1) (fun i => f i * g (k - i)) + fz_s (k + 1) (fun i => f i * h (k - i))
  rw [← fz_s_add]
  exact fz_s_congr (fun i hi => by grind)
theorem fz_m_ladd (f g h : Nat → Fin 101) : fz_m (fz_a f g) h = fz_a (fz_m f h) (fz_m g h) := by
  rw [fz_m_comm, fz_m_radd, fz_m_comm h f, fz_m_comm h g]
theorem fz_m_mono (s : Nat) (a : Fin 101) (g : Nat → Fin 101) (k : Nat) : fz_m (fz_o s a) g k = if s ≤ k then a * g (k - s) else 0 := by
  show fz_s (k + 1) (fun i => (if i = s then a else 0) * g (k - i)) = _
  by_cases h : s ≤ k
  · rw [if_pos h, fz_s_one s (by omega) (fun i hi hn => by
      show (if i = s then a else 0) * g (k - i) = 0
      rw [if_neg hn]
      grind)]
    rw [if_pos rfl]
  · rw [if_neg h]
    exact fz_s_zero (fun i hi => by
      show (if i = s then a else 0) * g (k - i) = 0
      rw [if_neg (by omega)]
      grind)
theorem fz_m_const (a : Fin 101) (g : Nat → Fin 101) : fz_m (fz_o 0 a) g = fun k => a * g k := by
  funext k
  rw [fz_m_mono, if_pos (Nat.zero_le k), Nat.sub_zero]
theorem fz_t_m (f g : Nat → Fin 101) : fz_t (fz_m f g) = fz_a (fz_m (fz_o 0 (f 0)) (fz_t g)) (fz_m (fz_t f) g) := by
  funext k
  show fz_m f g (k + 1) = fz_m (fz_o 0 (f 0)) (fz_t g) k + fz_m (fz_t f) g k
  rw [fz_m_first, fz_m_const]
  rfl
theorem fz_m_cm (c : Fin 101) (u h : Nat → Fin 101) (k : Nat) : fz_m (fz_m (fz_o 0 c) u) h k = c * fz_m u h k := by
  rw [fz_m_const]
  show fz_s (k + 1) (fun i => c * u i * h (k - i)) = c * fz_s (k + 1) (fun i => u i * h (k - i))
  rw [← fz_s_mul]
  exact fz_s_congr (fun i hi => by grind)
theorem fz_m_assoc_k (k : Nat) : ∀ f g h : Nat → Fin 101, fz_m (fz_m f g) h k = fz_m f (fz_m g h) k := by
  induction k with
  | zero =>
    intro f g h
    rw [fz_m_0, fz_m_0, fz_m_0, fz_m_0]
    grind
  | succ k ih =>
    intro f g h
    rw [fz_m_first (fz_m f g) h, fz_m_first f (fz_m g h), fz_m_first g h, fz_t_m, fz_m_ladd, fz_m_0]
    show f 0 * g 0 * h (k + 1) + (fz_m (fz_m (fz_o 0 (f 0)) (fz_t g)) h k + fz_m (fz_m (fz_t f) g) h k) = _
    rw [fz_m_cm, ih]
    grind
theorem fz_m_assoc (f g h : Nat → Fin 101) : fz_m (fz_m f g) h = fz_m f (fz_m g h) := funext (fun k => fz_m_assoc_k k f g h)
theorem fz_m_one (f : Nat → Fin 101) : fz_m f (fz_o 0 1) = f := by
  rw [fz_m_comm, fz_m_const]
  funext k
  grind
theorem fz_o00 (k : Nat) : fz_o 0 0 k = 0 := by
  show (if k = 0 then (0 : Fin 101) else 0) = 0
  split <;> rfl
theorem fz_m_zero (f : Nat → Fin 101) : fz_m (fz_o 0 0) f = fz_o 0 0 := by
  rw [fz_m_const]
  funext k
  rw [fz_o00]
  grind
theorem fz_n_o (s : Nat) (a : Fin 101) : fz_n (fz_o s a) = fz_o s (-a) := by
  funext k
  show - (if k = s then a else 0) = if k = s then -a else 0
  split
  · rfl
  · rfl
theorem fz_o_add (s : Nat) (a b : Fin 101) : fz_a (fz_o s a) (fz_o s b) = fz_o s (a + b) := by
  funext k
  show (if k = s then a else 0) + (if k = s then b else 0) = if k = s then a + b else 0
  split
  · rfl
  · rfl
def fz_zi : Int → Fin 101
  | Int.ofNat n => Fin.ofNat 101 n
  | Int.negSucc n => - Fin.ofNat 101 (n + 1)
theorem fz_zi_neg (i : Int) : fz_zi (-i) = - fz_zi i := by
  cases i with
  | ofNat n =>
    cases n with
    | zero => rfl
    | succ n => rfl
  | negSucc n =>
    show Fin.ofNat 101 (n + 1) = - - Fin.ofNat 101 (n + 1)
    grind
theorem fz_n_m (f g : Nat → Fin 101) : fz_m (fz_n f) g = fz_n (fz_m f g) := by
  have h : fz_n f = fz_m (fz_o 0 (-1)) f := by
    rw [fz_m_const]
    funext k
    show - f k = -1 * f k
    grind
  rw [h, fz_m_assoc, fz_m_const]
  funext k
  show -1 * fz_m f g k = - fz_m f g k
  grind
/-- the ring, for ring equations -/
def fz_ring : Lean.Grind.CommRing (Nat → Fin 101) where
  add := fz_a
  mul := fz_m
  neg := fz_n
  sub := fz_d
  natCast := ⟨fun n => fz_o 0 (Fin.ofNat 101 n)⟩
  ofNat := fun n => ⟨fz_o 0 (Fin.ofNat 101 n)⟩
  nsmul := ⟨fun n f => fz_m (fz_o 0 (Fin.ofNat 101 n)) f⟩
  npow := ⟨fun f n => Nat.rec (fz_o 0 1) (fun _ r => fz_m r f) n⟩
  intCast := ⟨fun i => fz_o 0 (fz_zi i)⟩
  zsmul := ⟨fun i f => fz_m (fz_o 0 (fz_zi i)) f⟩
  add_zero := fun f => by
    show fz_a f (fz_o 0 0) = f
    funext k
    show f k + fz_o 0 0 k = f k
    rw [fz_o00]
    grind
  add_comm := fun f g => by
    show fz_a f g = fz_a g f
    funext k
    show f k + g k = g k + f k
    grind
  add_assoc := fun f g h => by
    show fz_a (fz_a f g) h = fz_a f (fz_a g h)
    funext k
    show f k + g k + h k = f k + (g k + h k)
    grind
  mul_assoc := fz_m_assoc
  mul_one := fz_m_one
  mul_comm := fz_m_comm
  one_mul := fun f => by
    show fz_m (fz_o 0 1) f = f
    rw [fz_m_comm, fz_m_one]
  left_distrib := fz_m_radd
  right_distrib := fz_m_ladd
  zero_mul := fz_m_zero
  mul_zero := fun f => by
    show fz_m f (fz_o 0 0) = fz_o 0 0
    rw [fz_m_comm, fz_m_zero]
  pow_zero := fun _ => rfl
  pow_succ := fun _ _ => rfl
  ofNat_succ := fun n => by
    show fz_o 0 (Fin.ofNat 101 (n + 1)) = fz_a (fz_o 0 (Fin.ofNat 101 n)) (fz_o 0 1)
    rw [fz_o_add]
    congr 1
    apply Fin.ext
    show (n + 1) % 101 = (n % 101 + 1) % 101
    omega
  ofNat_eq_natCast := fun _ => rfl
  nsmul_eq_natCast_mul := fun _ _ => rfl
  neg_add_cancel := fun f => by
    show fz_a (fz_n f) f = fz_o 0 0
    funext k
    rw [fz_o00]
    show - f k + f k = 0
    grind
  sub_eq_add_neg := fun f g => by
    show fz_d f g = fz_a f (fz_n g)
    funext k
    show f k - g k = f k + - g k
    grind
  neg_zsmul := fun i f => by
    show fz_m (fz_o 0 (fz_zi (-i))) f = fz_n (fz_m (fz_o 0 (fz_zi i)) f)
    rw [fz_zi_neg, ← fz_n_o, fz_n_m]
  zsmul_natCast_eq_nsmul := fun _ _ => rfl
  intCast_ofNat := fun _ => rfl
  intCast_neg := fun i => by
    show fz_o 0 (fz_zi (-i)) = fz_n (fz_o 0 (fz_zi i))
    rw [fz_zi_neg, fz_n_o]
end
section
/-! degrees, no zero divisors, coprime, lowest terms -/
def fz_l (f : Nat → Fin 101) (n : Nat) : Prop := ∀ k, n ≤ k → f k = 0
def fz_e (f : Nat → Fin 101) (m : Nat) : Prop := f m ≠ 0 ∧ fz_l f (m + 1)
def fz_p (f : Nat → Fin 101) : Prop := ∃ n, fz_l f n
theorem fz_l_mono {f : Nat → Fin 101} {n n' : Nat} (h : fz_l f n) (hn : n ≤ n') : fz_l f n' := fun k hk => h k (by omega)
theorem fz_l_p {f : Nat → Fin 101} {n : Nat} (h : fz_l f n) : fz_p f := ⟨n, h⟩
theorem fz_l_a {f g : Nat → Fin 101} {n : Nat} (hf : fz_l f n) (hg : fz_l g n) : fz_l (fz_a f g) n := fun k hk => by
  show f k + g k = 0
  rw [hf k hk, hg k hk]
  rfl
theorem fz_l_d {f g : Nat → Fin 101} {n : Nat} (hf : fz_l f n) (hg : fz_l g n) : fz_l (fz_d f g) n := fun k hk => by
  show f k - g k = 0
  rw [hf k hk, hg k hk]
  rfl
theorem fz_l_o {s n : Nat} {a : Fin 101} (h : s < n) : fz_l (fz_o s a) n := fun k hk => by
  show (if k = s then a else 0) = 0
  rw [if_neg (by omega)]
theorem fz_l_z (n : Nat) : fz_l (fz_o 0 0) n := fun k _ => fz_o00 k
theorem fz_l_0 {f : Nat → Fin 101} (h : fz_l f 0) : f = fz_o 0 0 := funext (fun k => by rw [h k (Nat.zero_le k), fz_o00])
theorem fz_l_1 {f : Nat → Fin 101} (h : fz_l f 1) : f = fz_o 0 (f 0) := funext (fun k => by
  show f k = if k = 0 then f 0 else 0
  by_cases c : k = 0
  · rw [if_pos c, c]
  · rw [if_neg c]
    exact h k (by omega))
theorem fz_l_m {f g : Nat → Fin 101} {m n : Nat} (hf : fz_l f (m + 1)) (hg : fz_l g (n + 1)) : fz_l (fz_m f g) (m + n + 1) := fun k hk =>
  fz_s_zero (fun i hi => by
    show f i * g (k - i) = 0
    by_cases c : m + 1 ≤ i
    · rw [hf i c]
      grind
    · rw [hg (k - i) (by omega)]
      grind)
theorem fz_m_top {f g : Nat → Fin 101} {m n : Nat} (hf : fz_l f (m + 1)) (hg : fz_l g (n + 1)) : fz_m f g (m + n) = f m * g n := by
  show fz_s (m + n + 1) (fun i => f i * g (m + n - i)) = _
  rw [fz_s_one m (by omega) (fun i hi hn => by
    show f i * g (m + n - i) = 0
    by_cases c : m + 1 ≤ i
    · rw [hf i c]
      grind
    · rw [hg (m + n - i) (by omega)]
      grind)]
  rw [Nat.add_sub_cancel_left]
theorem fz_l_m' {f g : Nat → Fin 101} {m n r : Nat} (hf : fz_l f (m + 1)) (hg : fz_l g (n + 1)) (h : m + n < r) : fz_l (fz_m f g) r := fz_l_mono (fz_l_m hf hg) (by omega)
theorem fz_p_a {f g : Nat → Fin 101} (hf : fz_p f) (hg : fz_p g) : fz_p (fz_a f g) := by
  obtain ⟨m, hf⟩ := hf
  obtain ⟨n, hg⟩ := hg
  exact ⟨m + n, fz_l_a (fz_l_mono hf (by omega)) (fz_l_mono hg (by omega))⟩
theorem fz_p_d {f g : Nat → Fin 101} (hf : fz_p f) (hg : fz_p g) : fz_p (fz_d f g) := by
  obtain ⟨m, hf⟩ := hf
  obtain ⟨n, hg⟩ := hg
  exact ⟨m + n, fz_l_d (fz_l_mono hf (by omega)) (fz_l_mono hg (by omega))⟩
theorem fz_p_m {f g : Nat → Fin 101} (hf : fz_p f) (hg : fz_p g) : fz_p (fz_m f g) := by
  obtain ⟨m, hf⟩ := hf
  obtain ⟨n, hg⟩ := hg
  exact ⟨_, fz_l_m (fz_l_mono hf (by omega)) (fz_l_mono hg (Nat.le_succ n)) (m := m) (n := n)⟩
theorem fz_p_o (s : Nat) (a : Fin 101) : fz_p (fz_o s a) := ⟨s + 1, fz_l_o (by omega)⟩
def fz_i (a : Fin 101) : Fin 101 := Fin.ofNat 101 (a.val ^ 99)
theorem fz_i_m : ∀ a : Fin 101, a ≠ 0 → a * fz_i a = 1 := by decide +kernel
theorem fz_i_1 : fz_i 1 = 1 := by decide +kernel
theorem fz_zd {a b : Fin 101} (h : a * b = 0) : a = 0 ∨ b = 0 := by
  by_cases c : a = 0
  · exact Or.inl c
  · refine Or.inr ?_
    have e := fz_i_m a c
    have : b = (a * fz_i a) * b := by rw [e]; grind
    rw [this]
    have : a * fz_i a * b = fz_i a * (a * b) := by grind
    rw [this, h]
    grind
theorem fz_nz {a b : Fin 101} (ha : a ≠ 0) (hb : b ≠ 0) : a * b ≠ 0 := fun h => by
  cases fz_zd h with
  | inl h => exact ha h
  | inr h => exact hb h
theorem fz_i_u {a b : Fin 101} (h : a * b = 1) : b = fz_i a := by
  have ha : a ≠ 0 := fun z => by
    rw [z] at h
    have : (0 : Fin 101) * b = 0 := by grind
    rw [this] at h
    exact absurd h (by decide)
  have e := fz_i_m a ha
  have : b = b * (a * fz_i a) := by rw [e]; grind
  rw [this]
  have : b * (a * fz_i a) = (a * b) * fz_i a := by grind
  rw [this, h]
  grind
theorem fz_i_nz {a : Fin 101} (h : a ≠ 0) : fz_i a ≠ 0 := fun z => by
  have e := fz_i_m a h
  rw [z] at e
  have : a * (0 : Fin 101) = 0 := by grind
  rw [this] at e
  exact absurd e (by decide)
theorem fz_e_m {f g : Nat → Fin 101} {m n : Nat} (hf : fz_e f m) (hg : fz_e g n) : fz_e (fz_m f g) (m + n) :=
  ⟨by rw [fz_m_top hf.2 hg.2]; exact fz_nz hf.1 hg.1, fz_l_m hf.2 hg.2⟩
theorem fz_e_ex {f : Nat → Fin 101} : ∀ n : Nat, fz_l f n → f ≠ fz_o 0 0 → ∃ m, m < n ∧ fz_e f m := by
  intro n
  induction n with
  | zero => exact fun h hn => absurd (fz_l_0 h) hn
  | succ n ih =>
    intro h hn
    by_cases c : f n = 0
    · obtain ⟨m, hm, he⟩ := ih (fun k hk => by
        by_cases e : k = n
        · rw [e]
          exact c
        · exact h k (by omega)) hn
      exact ⟨m, by omega, he⟩
    · exact ⟨n, by omega, c, h⟩
theorem fz_e_exp {f : Nat → Fin 101} (h : fz_p f) (hn : f ≠ fz_o 0 0) : ∃ m, fz_e f m := by
  obtain ⟨n, h⟩ := h
  obtain ⟨m, _, he⟩ := fz_e_ex n h hn
  exact ⟨m, he⟩
theorem fz_e_ne {f : Nat → Fin 101} {m : Nat} (h : fz_e f m) : f ≠ fz_o 0 0 := fun z => h.1 (by rw [z, fz_o00])
theorem fz_e_lt {f : Nat → Fin 101} {m n : Nat} (h : fz_e f m) (hl : fz_l f n) : m < n := by
  by_cases c : m < n
  · exact c
  · exact absurd (hl m (by omega)) h.1
theorem fz_e_p {f : Nat → Fin 101} {m : Nat} (h : fz_e f m) : fz_p f := ⟨m + 1, h.2⟩
theorem fz_dom {f g : Nat → Fin 101} (hf : fz_p f) (hg : fz_p g) (h : fz_m f g = fz_o 0 0) : f = fz_o 0 0 ∨ g = fz_o 0 0 := by
  by_cases c : f = fz_o 0 0
  · exact Or.inl c
  · by_cases d : g = fz_o 0 0
    · exact Or.inr d
    · obtain ⟨m, hm⟩ := fz_e_exp hf c
      obtain ⟨n, hn⟩ := fz_e_exp hg d
      exact absurd h (fz_e_ne (fz_e_m hm hn))
theorem fz_m_ne {f g : Nat → Fin 101} (hf : fz_p f) (hg : fz_p g) (nf : f ≠ fz_o 0 0) (ng : g ≠ fz_o 0 0) : fz_m f g ≠ fz_o 0 0 := fun h => by
  cases fz_dom hf hg h with
  | inl h => exact nf h
  | inr h => exact ng h
theorem fz_r_sub0 {R : Type} [Lean.Grind.CommRing R] {a b : R} (h : a - b = 0) : a = b := by grind
theorem fz_r_dist {R : Type} [Lean.Grind.CommRing R] {a b c : R} (h : a * b = a * c) : a * (b - c) = 0 := by grind
theorem fz_d0 {f g : Nat → Fin 101} (h : fz_d f g = fz_o 0 0) : f = g := @fz_r_sub0 _ fz_ring f g h
theorem fz_cancel {f g h : Nat → Fin 101} (hf : fz_p f) (hg : fz_p g) (hh : fz_p h) (nf : f ≠ fz_o 0 0) (e : fz_m f g = fz_m f h) : g = h := by
  cases fz_dom hf (fz_p_d hg hh) (@fz_r_dist _ fz_ring f g h e) with
  | inl z => exact absurd z nf
  | inr z => exact fz_d0 z
theorem fz_small {g T : Nat → Fin 101} {n : Nat} (hg : fz_e g n) (hT : fz_p T) (h : fz_l (fz_m g T) n) : T = fz_o 0 0 := by
  by_cases c : T = fz_o 0 0
  · exact c
  · obtain ⟨m, hm⟩ := fz_e_exp hT c
    have := fz_e_lt (fz_e_m hg hm) h
    omega
theorem fz_dvd_l {d g : Nat → Fin 101} {n j : Nat} (hd : fz_p d) (hg : fz_e g j) (h : fz_l (fz_m d g) n) : fz_l d n := by
  by_cases c : d = fz_o 0 0
  · rw [c]
    exact fz_l_z n
  · obtain ⟨m, hm⟩ := fz_e_exp hd c
    have := fz_e_lt (fz_e_m hm hg) h
    exact fz_l_mono hm.2 (by omega)
theorem fz_r_div {R : Type} [Lean.Grind.CommRing R] {s g t s' t' : R} (h : s * g + t = s' * g + t') : g * (s - s') = t' - t := by grind
theorem fz_r_add0 {R : Type} [Lean.Grind.CommRing R] {s g t t' : R} (h : s * g + t = s * g + t') : t = t' := by grind
theorem fz_div_uniq {g s t s' t' : Nat → Fin 101} {n : Nat} (hg : fz_e g n) (hs : fz_p s) (hs' : fz_p s') (ht : fz_l t n) (ht' : fz_l t' n) (h : fz_a (fz_m s g) t = fz_a (fz_m s' g) t') : s = s' ∧ t = t' := by
  have e : fz_m g (fz_d s s') = fz_d t' t := @fz_r_div _ fz_ring s g t s' t' h
  have z := fz_small hg (fz_p_d hs hs') (by rw [e]; exact fz_l_d ht' ht)
  have z' := fz_d0 z
  subst z'
  exact ⟨rfl, @fz_r_add0 _ fz_ring s g t t' h⟩
def fz_co (P Q : Nat → Fin 101) : Prop := ∃ A B, fz_p A ∧ fz_p B ∧ fz_a (fz_m A P) (fz_m B Q) = fz_o 0 1
def fz_mo (Q : Nat → Fin 101) (m : Nat) : Prop := Q m = 1 ∧ fz_l Q (m + 1)
theorem fz_mo_e {Q : Nat → Fin 101} {m : Nat} (h : fz_mo Q m) : fz_e Q m := ⟨by rw [h.1]; decide, h.2⟩
def fz_low (P Q : Nat → Fin 101) : Prop := fz_p P ∧ fz_co P Q ∧ ∃ m, fz_mo Q m
theorem fz_low_pQ {P Q : Nat → Fin 101} (h : fz_low P Q) : fz_p Q := by
  obtain ⟨_, _, m, h⟩ := h
  exact ⟨m + 1, h.2⟩
theorem fz_low_nQ {P Q : Nat → Fin 101} (h : fz_low P Q) : Q ≠ fz_o 0 0 := by
  obtain ⟨_, _, m, h⟩ := h
  exact fz_e_ne (fz_mo_e h)
theorem fz_r_dvd {R : Type} [Lean.Grind.CommRing R] {A B P Q p q : R} (h : A * P + B * Q = 1) (e : P * q = p * Q) : q = Q * (A * p + B * q) := by grind
theorem fz_dvd {P Q p q : Nat → Fin 101} (h : fz_co P Q) (hp : fz_p p) (hq : fz_p q) (e : fz_m P q = fz_m p Q) : ∃ T, fz_p T ∧ q = fz_m Q T := by
  obtain ⟨A, B, hA, hB, h⟩ := h
  exact ⟨_, fz_p_a (fz_p_m hA hp) (fz_p_m hB hq), @fz_r_dvd _ fz_ring A B P Q p q h e⟩
theorem fz_monT {Q R T : Nat → Fin 101} {m m' : Nat} (hQ : fz_mo Q m) (hR : fz_mo R m') (hT : fz_p T) (e : R = fz_m Q T) (h : m' ≤ m) : R = Q := by
  have nT : T ≠ fz_o 0 0 := fun z => by
    rw [z, fz_m_comm, fz_m_zero] at e
    exact fz_e_ne (fz_mo_e hR) e
  obtain ⟨i, hi⟩ := fz_e_exp hT nT
  have hm := fz_e_m (fz_mo_e hQ) hi
  rw [← e] at hm
  have h1 := fz_e_lt hm hR.2
  have i0 : i = 0 := by omega
  subst i0
  have eT := fz_l_1 hi.2
  have h2 : R m = Q m * T 0 := by
    rw [e]
    exact fz_m_top hQ.2 hi.2
  have h3 : m' = m := by omega
  rw [h3] at hR
  rw [hR.1, hQ.1] at h2
  have h4 : T 0 = 1 := by
    rw [h2]
    grind
  rw [h4] at eT
  rw [e, eT, fz_m_one]
theorem fz_uniq {P Q P' Q' : Nat → Fin 101} (h : fz_low P Q) (h' : fz_low P' Q') (e : fz_m P Q' = fz_m P' Q) : P = P' ∧ Q = Q' := by
  obtain ⟨m, hm⟩ := h.2.2
  obtain ⟨m', hm'⟩ := h'.2.2
  have eQ : Q = Q' := by
    by_cases c : m' ≤ m
    · obtain ⟨T, hT, eT⟩ := fz_dvd h.2.1 h'.1 (fz_low_pQ h') e
      exact (fz_monT hm hm' hT eT c).symm
    · obtain ⟨T, hT, eT⟩ := fz_dvd h'.2.1 h.1 (fz_low_pQ h) e.symm
      exact fz_monT hm' hm hT eT (by omega)
  subst eQ
  refine ⟨?_, rfl⟩
  rw [fz_m_comm P, fz_m_comm P'] at e
  exact fz_cancel (fz_low_pQ h) h.1 h'.1 (fz_low_nQ h) e
theorem fz_r_co {R : Type} [Lean.Grind.CommRing R] {A B P Q A' B' P' : R} (h : A * P + B * Q = 1) (h' : A' * P' + B' * Q = 1) : (A * A') * (P * P') + (A * P * B' + B * A' * P' + B * B' * Q) * Q = 1 := by grind
theorem fz_co_m {P P' Q : Nat → Fin 101} (hP : fz_p P) (hP' : fz_p P') (hQ : fz_p Q) (h : fz_co P Q) (h' : fz_co P' Q) : fz_co (fz_m P P') Q := by
  obtain ⟨A, B, hA, hB, h⟩ := h
  obtain ⟨A', B', hA', hB', h'⟩ := h'
  exact ⟨_, _, fz_p_m hA hA', fz_p_a (fz_p_a (fz_p_m (fz_p_m hA hP) hB') (fz_p_m (fz_p_m hB hA') hP')) (fz_p_m (fz_p_m hB hB') hQ), @fz_r_co _ fz_ring A B P Q A' B' P' h h'⟩
theorem fz_r_swap {R : Type} [Lean.Grind.CommRing R] {A B P Q : R} (h : A * P + B * Q = 1) : B * Q + A * P = 1 := by grind
theorem fz_co_s {P Q : Nat → Fin 101} (h : fz_co P Q) : fz_co Q P := by
  obtain ⟨A, B, hA, hB, h⟩ := h
  exact ⟨B, A, hB, hA, @fz_r_swap _ fz_ring A B P Q h⟩
theorem fz_mo_m {Q Q' : Nat → Fin 101} {m m' : Nat} (h : fz_mo Q m) (h' : fz_mo Q' m') : fz_mo (fz_m Q Q') (m + m') :=
  ⟨by rw [fz_m_top h.2 h'.2, h.1, h'.1]; rfl, fz_l_m h.2 h'.2⟩
theorem fz_low_01 : fz_low (fz_o 0 0) (fz_o 0 1) :=
  ⟨fz_p_o 0 0, ⟨fz_o 0 0, fz_o 0 1, fz_p_o 0 0, fz_p_o 0 1, by
    rw [fz_m_zero, fz_m_one]
    funext k
    show fz_o 0 0 k + fz_o 0 1 k = fz_o 0 1 k
    rw [fz_o00]
    grind⟩, 0, rfl, fz_l_o (by omega)⟩
theorem fz_r_co1 {R : Type} [Lean.Grind.CommRing R] (P : R) : 0 * P + 1 * 1 = (1 : R) := by grind
theorem fz_low_1 {P : Nat → Fin 101} (h : fz_p P) : fz_low P (fz_o 0 1) :=
  ⟨h, ⟨fz_o 0 0, fz_o 0 1, fz_p_o 0 0, fz_p_o 0 1, @fz_r_co1 _ fz_ring P⟩, 0, rfl, fz_l_o (by omega)⟩
end
section
/-! values, derivative, division steps, the greatest common divisor's end, the row space of the reference -/
def fz_h : Nat → (Nat → Fin 101) → Fin 101 → Fin 101
  | 0, _, _ => 0
  | n + 1, f, a => f 0 + a * fz_h n (fz_t f) a
def fz_x (a : Fin 101) : Nat → Fin 101 := fz_a (fz_o 1 1) (fz_o 0 (-a))
def fz_q (n : Nat) (f : Nat → Fin 101) (a : Fin 101) : Nat → Fin 101 := fun k => fz_h (n - 1 - k) (fun i => f (i + (k + 1))) a
theorem fz_x_m0 (a : Fin 101) (g : Nat → Fin 101) : fz_m (fz_x a) g 0 = -a * g 0 := by
  rw [fz_m_0]
  show (fz_o 1 1 0 + fz_o 0 (-a) 0) * g 0 = -a * g 0
  show ((0 : Fin 101) + -a) * g 0 = -a * g 0
  grind
theorem fz_x_ms (a : Fin 101) (g : Nat → Fin 101) (k : Nat) : fz_m (fz_x a) g (k + 1) = g k - a * g (k + 1) := by
  show fz_m (fz_a (fz_o 1 1) (fz_o 0 (-a))) g (k + 1) = _
  rw [fz_m_ladd]
  show fz_m (fz_o 1 1) g (k + 1) + fz_m (fz_o 0 (-a)) g (k + 1) = _
  rw [fz_m_mono, fz_m_const, if_pos (by omega), Nat.add_sub_cancel]
  grind
theorem fz_q_step {n : Nat} {f : Nat → Fin 101} (a : Fin 101) (h : fz_l f n) (k : Nat) : fz_q n f a k = f (k + 1) + a * fz_q n f a (k + 1) := by
  show fz_h (n - 1 - k) (fun i => f (i + (k + 1))) a = f (k + 1) + a * fz_h (n - 1 - (k + 1)) (fun i => f (i + (k + 1 + 1))) a
  by_cases c : n - 1 - k = 0
  · rw [c, show n - 1 - (k + 1) = 0 by omega, h (k + 1) (by omega)]
    show (0 : Fin 101) = 0 + a * 0
    grind
  · obtain ⟨j, hj⟩ : ∃ j, n - 1 - k = j + 1 := ⟨n - 1 - k - 1, by omega⟩
    rw [hj, show n - 1 - (k + 1) = j by omega]
    show f (0 + (k + 1)) + a * fz_h j (fun i => f (i + 1 + (k + 1))) a = _
    rw [Nat.zero_add]
    have : (fun i => f (i + 1 + (k + 1))) = (fun i => f (i + (k + 1 + 1))) := funext (fun i => by congr 1; omega)
    rw [this]
theorem fz_h_split {n : Nat} {f : Nat → Fin 101} (a : Fin 101) (h : fz_l f n) : f = fz_a (fz_m (fz_x a) (fz_q n f a)) (fz_o 0 (fz_h n f a)) := by
  funext k
  show f k = fz_m (fz_x a) (fz_q n f a) k + fz_o 0 (fz_h n f a) k
  cases k with
  | zero =>
    rw [fz_x_m0]
    show f 0 = -a * fz_h (n - 1 - 0) (fun i => f (i + (0 + 1))) a + fz_h n f a
    cases n with
    | zero =>
      rw [h 0 (by omega)]
      show (0 : Fin 101) = -a * 0 + 0
      grind
    | succ n =>
      show f 0 = -a * fz_h n (fz_t f) a + (f 0 + a * fz_h n (fz_t f) a)
      grind
  | succ k =>
    rw [fz_x_ms, fz_q_step a h k]
    show f (k + 1) = f (k + 1) + a * fz_q n f a (k + 1) - a * fz_q n f a (k + 1) + 0
    grind
theorem fz_q_l {n : Nat} (f : Nat → Fin 101) (a : Fin 101) : fz_l (fz_q n f a) (n - 1) := fun k hk => by
  show fz_h (n - 1 - k) (fun i => f (i + (k + 1))) a = 0
  rw [show n - 1 - k = 0 by omega]
  rfl
def fz_v (f : Nat → Fin 101) (a c : Fin 101) : Prop := ∃ g, fz_p g ∧ f = fz_a (fz_m (fz_x a) g) (fz_o 0 c)
theorem fz_v_h {n : Nat} {f : Nat → Fin 101} (a : Fin 101) (h : fz_l f n) : fz_v f a (fz_h n f a) := ⟨_, ⟨_, fz_q_l f a⟩, fz_h_split a h⟩
theorem fz_x_e (a : Fin 101) : fz_e (fz_x a) 1 :=
  ⟨by show fz_o 1 1 1 + fz_o 0 (-a) 1 ≠ 0; show (1 : Fin 101) + 0 ≠ 0; decide, fz_l_a (fz_l_o (by omega)) (fz_l_o (by omega))⟩
theorem fz_r_vu {R : Type} [Lean.Grind.CommRing R] {x g c g' c' : R} (h : x * g + c = x * g' + c') : x * (g - g') = c' - c := by grind
theorem fz_v_uniq {f : Nat → Fin 101} {a c c' : Fin 101} (h : fz_v f a c) (h' : fz_v f a c') : c = c' := by
  obtain ⟨g, hg, e⟩ := h
  obtain ⟨g', hg', e'⟩ := h'
  have e2 : fz_m (fz_x a) (fz_d g g') = fz_d (fz_o 0 c') (fz_o 0 c) := @fz_r_vu _ fz_ring (fz_x a) g (fz_o 0 c) g' (fz_o 0 c') (e.symm.trans e')
  have z := fz_small (fz_x_e a) (fz_p_d hg hg') (by rw [e2]; exact fz_l_d (fz_l_o (by omega)) (fz_l_o (by omega)))
  rw [z, fz_m_comm, fz_m_zero] at e2
  have e3 := fz_d0 e2.symm
  have e4 := congrFun e3 0
  exact e4.symm
theorem fz_r_va {R : Type} [Lean.Grind.CommRing R] {x g c g' c' f f' : R} (h : f = x * g + c) (h' : f' = x * g' + c') : f + f' = x * (g + g') + (c + c') := by grind
theorem fz_r_vm {R : Type} [Lean.Grind.CommRing R] {x g c g' c' f f' : R} (h : f = x * g + c) (h' : f' = x * g' + c') : f * f' = x * (g * f' + c * g') + c * c' := by grind
theorem fz_v_a {f f' : Nat → Fin 101} {a c c' : Fin 101} (h : fz_v f a c) (h' : fz_v f' a c') : fz_v (fz_a f f') a (c + c') := by
  obtain ⟨g, hg, e⟩ := h
  obtain ⟨g', hg', e'⟩ := h'
  refine ⟨_, fz_p_a hg hg', ?_⟩
  rw [← fz_o_add]
  exact @fz_r_va _ fz_ring (fz_x a) g (fz_o 0 c) g' (fz_o 0 c') f f' e e'
theorem fz_o_mul (c c' : Fin 101) : fz_m (fz_o 0 c) (fz_o 0 c') = fz_o 0 (c * c') := by
  rw [fz_m_const]
  funext k
  show c * (if k = 0 then c' else 0) = if k = 0 then c * c' else 0
  split
  · rfl
  · grind
theorem fz_v_pf {f : Nat → Fin 101} {a c : Fin 101} (h : fz_v f a c) : fz_p f := by
  obtain ⟨g, hg, e⟩ := h
  rw [e]
  exact fz_p_a (fz_p_m (fz_e_p (fz_x_e a)) hg) (fz_p_o 0 c)
theorem fz_v_m {f f' : Nat → Fin 101} {a c c' : Fin 101} (h : fz_v f a c) (h' : fz_v f' a c') : fz_v (fz_m f f') a (c * c') := by
  have hf' := fz_v_pf h'
  obtain ⟨g, hg, e⟩ := h
  obtain ⟨g', hg', e'⟩ := h'
  refine ⟨_, fz_p_a (fz_p_m hg hf') (fz_p_m (fz_p_o 0 c) hg'), ?_⟩
  rw [← fz_o_mul]
  exact @fz_r_vm _ fz_ring (fz_x a) g (fz_o 0 c) g' (fz_o 0 c') f f' e e'
theorem fz_r_v0 {R : Type} [Lean.Grind.CommRing R] (x c : R) : c = x * 0 + c := by grind
theorem fz_v_o (a c : Fin 101) : fz_v (fz_o 0 c) a c := ⟨fz_o 0 0, fz_p_o 0 0, @fz_r_v0 _ fz_ring (fz_x a) (fz_o 0 c)⟩
theorem fz_v_ex {f : Nat → Fin 101} (a : Fin 101) (h : fz_p f) : ∃ c, fz_v f a c := by
  obtain ⟨n, h⟩ := h
  exact ⟨_, fz_v_h a h⟩
/-- the value of a fraction: lowest terms against any not both 0 at a -/
theorem fz_val {P Q p q : Nat → Fin 101} {a vP vQ vp vq : Fin 101} (hc : fz_co P Q) (e : fz_m P q = fz_m p Q) (hP : fz_v P a vP) (hQ : fz_v Q a vQ) (hp : fz_v p a vp) (hq : fz_v q a vq) (hn : ¬ (vp = 0 ∧ vq = 0)) :
    (vq = 0 → vQ = 0) ∧ (vq ≠ 0 → vQ ≠ 0 ∧ vP * fz_i vQ = vp * fz_i vq) := by
  have e1 : vP * vq = vp * vQ := fz_v_uniq (e ▸ fz_v_m hP hq) (fz_v_m hp hQ)
  refine ⟨fun z => ?_, fun z => ?_⟩
  · rw [z] at e1
    have z2 : vp * vQ = 0 := by rw [← e1]; grind
    cases fz_zd z2 with
    | inl h => exact absurd ⟨h, z⟩ hn
    | inr h => exact h
  · have nQ : vQ ≠ 0 := fun y => by
      rw [y] at e1
      have z2 : vP * vq = 0 := by rw [e1]; grind
      cases fz_zd z2 with
      | inr h => exact z h
      | inl h =>
        obtain ⟨A, B, hA, hB, h1⟩ := hc
        obtain ⟨cA, hcA⟩ := fz_v_ex a hA
        obtain ⟨cB, hcB⟩ := fz_v_ex a hB
        have e2 := fz_v_uniq (fz_v_a (fz_v_m hcA hP) (fz_v_m hcB hQ)) (h1 ▸ fz_v_o a 1)
        rw [h, y] at e2
        have e3 : cA * 0 + cB * 0 = (0 : Fin 101) := by grind
        rw [e3] at e2
        exact absurd e2 (by decide)
    refine ⟨nQ, ?_⟩
    have i1 := fz_i_m vQ nQ
    have i2 := fz_i_m vq z
    have e4 : vP * fz_i vQ = vP * fz_i vQ * (vq * fz_i vq) := by rw [i2]; grind
    have e5 : vP * fz_i vQ * (vq * fz_i vq) = (vP * vq) * fz_i vQ * fz_i vq := by grind
    have e6 : vp * vQ * fz_i vQ * fz_i vq = vp * fz_i vq * (vQ * fz_i vQ) := by grind
    rw [e4, e5, e1, e6, i1]
    grind
/-! the derivative -/
def fz_dv (f : Nat → Fin 101) : Nat → Fin 101 := fun k => Fin.ofNat 101 (k + 1) * f (k + 1)
theorem fz_ofNat_add (m n : Nat) : Fin.ofNat 101 (m + n) = Fin.ofNat 101 m + Fin.ofNat 101 n := by
  apply Fin.ext
  show (m + n) % 101 = (m % 101 + n % 101) % 101
  omega
theorem fz_dv_m (f g : Nat → Fin 101) : fz_dv (fz_m f g) = fz_a (fz_m (fz_dv f) g) (fz_m f (fz_dv g)) := by
  funext k
  show Fin.ofNat 101 (k + 1) * fz_s (k + 1 + 1) (fun i => f i * g (k + 1 - i)) = fz_m (fz_dv f) g k + fz_m f (fz_dv g) k
  rw [← fz_s_mul]
  have h1 : fz_s (k + 1 + 1) (fun i => Fin.ofNat 101 (k + 1) * (f i * g (k + 1 - i))) = fz_s (k + 1 + 1) (fun i => Fin.ofNat 101 i * (f i * g (k + 1 - i)) + Fin.ofNat 101 (k + 1 - i) * (f i * g (k + 1 - i))) :=
    fz_s_congr (fun i hi => by
      show Fin.ofNat 101 (k + 1) * (f i * g (k + 1 - i)) = Fin.ofNat 101 i * (f i * g (k + 1 - i)) + Fin.ofNat 101 (k + 1 - i) * (f i * g (k + 1 - i))
      have : Fin.ofNat 101 (k + 1) = Fin.ofNat 101 i + Fin.ofNat 101 (k + 1 - i) := by
        rw [← fz_ofNat_add]
        congr 1
        omega
      rw [this]
      generalize Fin.ofNat 101 i = u
      generalize Fin.ofNat 101 (k + 1 - i) = w
      grind)
  rw [h1, fz_s_add, fz_s_first]
  have h2 : fz_s (k + 1) (fun i => Fin.ofNat 101 (i + 1) * (f (i + 1) * g (k + 1 - (i + 1)))) = fz_m (fz_dv f) g k :=
    fz_s_congr (fun i hi => by
      show Fin.ofNat 101 (i + 1) * (f (i + 1) * g (k + 1 - (i + 1))) = Fin.ofNat 101 (i + 1) * f (i + 1) * g (k - i)
      rw [Nat.add_sub_add_right]
      generalize Fin.ofNat 101 (i + 1) = u
      grind)
  have h3 : fz_s (k + 1 + 1) (fun i => Fin.ofNat 101 (k + 1 - i) * (f i * g (k + 1 - i))) = fz_m f (fz_dv g) k := by
    show fz_s (k + 1) (fun i => Fin.ofNat 101 (k + 1 - i) * (f i * g (k + 1 - i))) + Fin.ofNat 101 (k + 1 - (k + 1)) * (f (k + 1) * g (k + 1 - (k + 1))) = _
    rw [Nat.sub_self]
    have h4 : fz_s (k + 1) (fun i => Fin.ofNat 101 (k + 1 - i) * (f i * g (k + 1 - i))) = fz_m f (fz_dv g) k :=
      fz_s_congr (fun i hi => by
        show Fin.ofNat 101 (k + 1 - i) * (f i * g (k + 1 - i)) = f i * (Fin.ofNat 101 (k - i + 1) * g (k - i + 1))
        rw [show k + 1 - i = k - i + 1 by omega]
        generalize Fin.ofNat 101 (k - i + 1) = u
        grind)
    rw [h4]
    have h5 : Fin.ofNat 101 0 * (f (k + 1) * g 0) = 0 := by
      show (0 : Fin 101) * _ = 0
      grind
    rw [h5]
    grind
  rw [h2, h3]
  have h5 : Fin.ofNat 101 0 * (f 0 * g (k + 1 - 0)) = 0 := by
    show (0 : Fin 101) * _ = 0
    grind
  rw [h5]
  grind
theorem fz_dv_l {f : Nat → Fin 101} {n : Nat} (h : fz_l f (n + 1)) : fz_l (fz_dv f) n := fun k hk => by
  show Fin.ofNat 101 (k + 1) * f (k + 1) = 0
  rw [h (k + 1) (by omega)]
  grind
theorem fz_r_dv {R : Type} [Lean.Grind.CommRing R] {P Q p q P1 Q1 p1 q1 : R} (h : P * q = p * Q) (h' : P1 * q + P * q1 = p1 * Q + p * Q1) : (P1 * Q - P * Q1) * (q * q) = (p1 * q - p * q1) * (Q * Q) := by grind
theorem fz_dv_eq {P Q p q : Nat → Fin 101} (h : fz_m P q = fz_m p Q) : fz_m (fz_d (fz_m (fz_dv P) Q) (fz_m P (fz_dv Q))) (fz_m q q) = fz_m (fz_d (fz_m (fz_dv p) q) (fz_m p (fz_dv q))) (fz_m Q Q) := by
  have h' : fz_a (fz_m (fz_dv P) q) (fz_m P (fz_dv q)) = fz_a (fz_m (fz_dv p) Q) (fz_m p (fz_dv Q)) := by
    rw [← fz_dv_m, ← fz_dv_m, h]
  exact @fz_r_dv _ fz_ring P Q p q (fz_dv P) (fz_dv Q) (fz_dv p) (fz_dv q) h h'
/-! the four operations, and what lowest terms keep -/
theorem fz_r_add {R : Type} [Lean.Grind.CommRing R] {P Q p q P1 Q1 p1 q1 : R} (h : P * q = p * Q) (h1 : P1 * q1 = p1 * Q1) : (P * Q1 + Q * P1) * (q * q1) = (p * q1 + p1 * q) * (Q * Q1) := by grind
theorem fz_r_sub {R : Type} [Lean.Grind.CommRing R] {P Q p q P1 Q1 p1 q1 : R} (h : P * q = p * Q) (h1 : P1 * q1 = p1 * Q1) : (P * Q1 - Q * P1) * (q * q1) = (p * q1 - p1 * q) * (Q * Q1) := by grind
theorem fz_r_mul {R : Type} [Lean.Grind.CommRing R] {P Q p q P1 Q1 p1 q1 : R} (h : P * q = p * Q) (h1 : P1 * q1 = p1 * Q1) : (P * P1) * (q * q1) = (p * p1) * (Q * Q1) := by grind
theorem fz_r_quo {R : Type} [Lean.Grind.CommRing R] {P Q p q P1 Q1 p1 q1 : R} (h : P * q = p * Q) (h1 : P1 * q1 = p1 * Q1) : (P * Q1) * (q * p1) = (p * q1) * (Q * P1) := by grind
theorem fz_r_low {R : Type} [Lean.Grind.CommRing R] {P Q P0 Q0 p0 q0 : R} (h : P * Q0 = P0 * Q) (h1 : P0 * q0 = p0 * Q0) : Q0 * (P * q0) = Q0 * (p0 * Q) := by grind
theorem fz_low_keep {P Q P0 Q0 p0 q0 : Nat → Fin 101} (hP : fz_p P) (hQ : fz_p Q) (hQ0 : fz_p Q0) (hp : fz_p p0) (hq : fz_p q0) (n0 : Q0 ≠ fz_o 0 0) (h : fz_m P Q0 = fz_m P0 Q) (h1 : fz_m P0 q0 = fz_m p0 Q0) : fz_m P q0 = fz_m p0 Q :=
  fz_cancel hQ0 (fz_p_m hP hq) (fz_p_m hp hQ) n0 (@fz_r_low _ fz_ring P Q P0 Q0 p0 q0 h h1)
theorem fz_zero_iff {P Q p q : Nat → Fin 101} (hP : fz_p P) (hQ : fz_p Q) (hp : fz_p p) (hq : fz_p q) (nQ : Q ≠ fz_o 0 0) (nq : q ≠ fz_o 0 0) (h : fz_m P q = fz_m p Q) : P = fz_o 0 0 ↔ p = fz_o 0 0 := by
  constructor
  · intro z
    rw [z, fz_m_zero] at h
    cases fz_dom hp hQ h.symm with
    | inl h => exact h
    | inr h => exact absurd h nQ
  · intro z
    rw [z, fz_m_zero] at h
    cases fz_dom hP hq h with
    | inl h => exact h
    | inr h => exact absurd h nq
theorem fz_r_same1 {R : Type} [Lean.Grind.CommRing R] {P Q p q p1 q1 : R} (h : P * q = p * Q) (h1 : P * q1 = p1 * Q) : Q * (p * q1) = Q * (p1 * q) := by grind
theorem fz_r_same2 {R : Type} [Lean.Grind.CommRing R] {P Q p q P1 Q1 p1 q1 : R} (h : P * q = p * Q) (h1 : P1 * q1 = p1 * Q1) (e : p * q1 = p1 * q) : (q * q1) * (P * Q1) = (q * q1) * (P1 * Q) := by grind
theorem fz_same {P Q p q P1 Q1 p1 q1 : Nat → Fin 101} (hL : fz_low P Q) (hL1 : fz_low P1 Q1) (hp : fz_p p) (hq : fz_p q) (hp1 : fz_p p1) (hq1 : fz_p q1) (nq : q ≠ fz_o 0 0) (nq1 : q1 ≠ fz_o 0 0)
    (h : fz_m P q = fz_m p Q) (h1 : fz_m P1 q1 = fz_m p1 Q1) : (P = P1 ∧ Q = Q1) ↔ fz_m p q1 = fz_m p1 q := by
  constructor
  · intro ⟨e, e'⟩
    subst e e'
    exact fz_cancel (fz_low_pQ hL) (fz_p_m hp hq1) (fz_p_m hp1 hq) (fz_low_nQ hL) (@fz_r_same1 _ fz_ring P Q p q p1 q1 h h1)
  · intro e
    refine fz_uniq hL hL1 ?_
    exact fz_cancel (fz_p_m hq hq1) (fz_p_m hL.1 (fz_low_pQ hL1)) (fz_p_m hL1.1 (fz_low_pQ hL)) (fz_m_ne hq hq1 nq nq1) (@fz_r_same2 _ fz_ring P Q p q P1 Q1 p1 q1 h h1 e)
/-! a step of a division -/
theorem fz_div_step {f g : Nat → Fin 101} {s n : Nat} (hg : fz_e g n) (hf : fz_l f (s + n + 1)) : fz_l (fz_d f (fz_m (fz_o s (f (s + n) * fz_i (g n))) g)) (s + n) := fun k hk => by
  show f k - fz_m (fz_o s (f (s + n) * fz_i (g n))) g k = 0
  rw [fz_m_mono, if_pos (by omega)]
  by_cases c : k = s + n
  · subst c
    rw [Nat.add_sub_cancel_left]
    have i := fz_i_m (g n) hg.1
    have : f (s + n) * fz_i (g n) * g n = f (s + n) * (g n * fz_i (g n)) := by grind
    rw [this, i]
    grind
  · rw [hf k (by omega), hg.2 (k - s) (by omega)]
    grind
theorem fz_r_dstep {R : Type} [Lean.Grind.CommRing R] {f0 f q g m : R} (h : f0 = q * g + f) : f0 = (q + m) * g + (f - m * g) := by grind
theorem fz_div_inv {f0 f q g : Nat → Fin 101} (m : Nat → Fin 101) (h : f0 = fz_a (fz_m q g) f) : f0 = fz_a (fz_m (fz_a q m) g) (fz_d f (fz_m m g)) := @fz_r_dstep _ fz_ring f0 f q g m h
/-! Euclid -/
/-- (c, r) and (P, Q) are combinations of each other -/
def fz_eu (P Q c r : Nat → Fin 101) : Prop := ∃ a1 b1 a2 b2 d1 e1 d2 e2, fz_p a1 ∧ fz_p b1 ∧ fz_p a2 ∧ fz_p b2 ∧ fz_p d1 ∧ fz_p e1 ∧ fz_p d2 ∧ fz_p e2 ∧
  c = fz_a (fz_m a1 P) (fz_m b1 Q) ∧ r = fz_a (fz_m a2 P) (fz_m b2 Q) ∧ P = fz_a (fz_m d1 c) (fz_m e1 r) ∧ Q = fz_a (fz_m d2 c) (fz_m e2 r)
theorem fz_r_e1 {R : Type} [Lean.Grind.CommRing R] (P Q : R) : P = 1 * P + 0 * Q := by grind
theorem fz_r_e2 {R : Type} [Lean.Grind.CommRing R] (P Q : R) : Q = 0 * P + 1 * Q := by grind
theorem fz_eu_0 (P Q : Nat → Fin 101) : fz_eu P Q P Q :=
  ⟨fz_o 0 1, fz_o 0 0, fz_o 0 0, fz_o 0 1, fz_o 0 1, fz_o 0 0, fz_o 0 0, fz_o 0 1, fz_p_o _ _, fz_p_o _ _, fz_p_o _ _, fz_p_o _ _, fz_p_o _ _, fz_p_o _ _, fz_p_o _ _, fz_p_o _ _,
    @fz_r_e1 _ fz_ring P Q, @fz_r_e2 _ fz_ring P Q, @fz_r_e1 _ fz_ring P Q, @fz_r_e2 _ fz_ring P Q⟩
theorem fz_r_e3 {R : Type} [Lean.Grind.CommRing R] {P Q c r s t a1 b1 a2 b2 : R} (h : c = s * r + t) (hc : c = a1 * P + b1 * Q) (hr : r = a2 * P + b2 * Q) : t = (a1 - s * a2) * P + (b1 - s * b2) * Q := by grind
theorem fz_r_e4 {R : Type} [Lean.Grind.CommRing R] {P c r s t d1 e1 : R} (h : c = s * r + t) (hP : P = d1 * c + e1 * r) : P = (d1 * s + e1) * r + d1 * t := by grind
theorem fz_eu_s {P Q c r s t : Nat → Fin 101} (hs : fz_p s) (h : c = fz_a (fz_m s r) t) (hE : fz_eu P Q c r) : fz_eu P Q r t := by
  obtain ⟨a1, b1, a2, b2, d1, e1, d2, e2, pa1, pb1, pa2, pb2, pd1, pe1, pd2, pe2, h1, h2, h3, h4⟩ := hE
  exact ⟨a2, b2, _, _, _, d1, _, d2, pa2, pb2, fz_p_d pa1 (fz_p_m hs pa2), fz_p_d pb1 (fz_p_m hs pb2), fz_p_a (fz_p_m pd1 hs) pe1, pd1, fz_p_a (fz_p_m pd2 hs) pe2, pd2, h2,
    @fz_r_e3 _ fz_ring P Q c r s t a1 b1 a2 b2 h h1 h2, @fz_r_e4 _ fz_ring P c r s t d1 e1 h h3, @fz_r_e4 _ fz_ring Q c r s t d2 e2 h h4⟩
theorem fz_r_e5 {R : Type} [Lean.Grind.CommRing R] {P c d e : R} (h : P = d * c + e * 0) : P = d * c + 0 := by grind
theorem fz_r_e6 {R : Type} [Lean.Grind.CommRing R] {P Q g a b d1 d2 : R} (h : g = a * P + b * Q) (h1 : P = d1 * g + 0) (h2 : Q = d2 * g + 0) : g * 1 = g * (a * d1 + b * d2) := by grind
theorem fz_eu_end {P Q g : Nat → Fin 101} (hE : fz_eu P Q g (fz_o 0 0)) (nQ : Q ≠ fz_o 0 0) (pg : fz_p g) :
    g ≠ fz_o 0 0 ∧ ∃ d1 d2, fz_p d1 ∧ fz_p d2 ∧ P = fz_a (fz_m d1 g) (fz_o 0 0) ∧ Q = fz_a (fz_m d2 g) (fz_o 0 0) ∧ fz_co d1 d2 := by
  obtain ⟨a1, b1, a2, b2, d1, e1, d2, e2, pa1, pb1, pa2, pb2, pd1, pe1, pd2, pe2, h1, h2, h3, h4⟩ := hE
  have h3' : P = fz_a (fz_m d1 g) (fz_o 0 0) := @fz_r_e5 _ fz_ring P g d1 e1 h3
  have h4' : Q = fz_a (fz_m d2 g) (fz_o 0 0) := @fz_r_e5 _ fz_ring Q g d2 e2 h4
  have ng : g ≠ fz_o 0 0 := fun z => nQ (by
    rw [h4', z, fz_m_comm, fz_m_zero]
    funext k
    show fz_o 0 0 k + fz_o 0 0 k = fz_o 0 0 k
    rw [fz_o00]
    rfl)
  refine ⟨ng, d1, d2, pd1, pd2, h3', h4', a1, b1, pa1, pb1, ?_⟩
  exact (fz_cancel pg (fz_p_o 0 1) (fz_p_a (fz_p_m pa1 pd1) (fz_p_m pb1 pd2)) ng (@fz_r_e6 _ fz_ring P Q g a1 b1 d1 d2 h1 h3' h4')).symm
theorem fz_r_sc {R : Type} [Lean.Grind.CommRing R] {A B P Q u w : R} (h : A * P + B * Q = 1) (hu : w * u = 1) : (w * A) * (u * P) + (w * B) * (u * Q) = 1 := by grind
theorem fz_r_sc2 {R : Type} [Lean.Grind.CommRing R] {P0 Q0 d1 d2 g u : R} (h1 : P0 = d1 * g + 0) (h2 : Q0 = d2 * g + 0) : (u * d1) * Q0 = P0 * (u * d2) := by grind
/-- scaled by the inverse of the leading coefficient, the parts of a common divisor's end are lowest terms -/
theorem fz_scale {P0 Q0 d1 d2 g : Nat → Fin 101} {m : Nat} (p1 : fz_p d1) (hc : fz_co d1 d2) (h1 : P0 = fz_a (fz_m d1 g) (fz_o 0 0)) (h2 : Q0 = fz_a (fz_m d2 g) (fz_o 0 0)) (he : fz_e d2 m) :
    fz_low (fz_m (fz_o 0 (fz_i (d2 m))) d1) (fz_m (fz_o 0 (fz_i (d2 m))) d2) ∧ fz_m (fz_m (fz_o 0 (fz_i (d2 m))) d1) Q0 = fz_m P0 (fz_m (fz_o 0 (fz_i (d2 m))) d2) := by
  refine ⟨⟨fz_p_m (fz_p_o _ _) p1, ?_, m, ?_, ?_⟩, @fz_r_sc2 _ fz_ring P0 Q0 d1 d2 g (fz_o 0 (fz_i (d2 m))) h1 h2⟩
  · obtain ⟨A, B, hA, hB, h⟩ := hc
    refine ⟨_, _, fz_p_m (fz_p_o 0 (d2 m)) hA, fz_p_m (fz_p_o 0 (d2 m)) hB, @fz_r_sc _ fz_ring A B d1 d2 (fz_o 0 (fz_i (d2 m))) (fz_o 0 (d2 m)) h ?_⟩
    show fz_m (fz_o 0 (d2 m)) (fz_o 0 (fz_i (d2 m))) = fz_o 0 1
    rw [fz_o_mul, fz_i_m _ he.1]
  · rw [fz_m_const]
    show fz_i (d2 m) * d2 m = 1
    rw [← fz_i_m _ he.1]
    grind
  · rw [fz_m_const]
    intro k hk
    show fz_i (d2 m) * d2 k = 0
    rw [he.2 k hk]
    grind
end
section
/-! the reference's rows: remainders of T p by q -/
def fz_re (p q : Nat → Fin 101) (n : Nat) (T t : Nat → Fin 101) : Prop := ∃ s, fz_p s ∧ fz_m T p = fz_a (fz_m s q) t ∧ fz_l t n
theorem fz_r_resub {R : Type} [Lean.Grind.CommRing R] {T p s q t T' s' t' c : R} (h : T * p = s * q + t) (h' : T' * p = s' * q + t') : (T - c * T') * p = (s - c * s') * q + (t - c * t') := by grind
theorem fz_r_resc {R : Type} [Lean.Grind.CommRing R] {T p s q t c : R} (h : T * p = s * q + t) : (c * T) * p = (c * s) * q + (c * t) := by grind
theorem fz_cl {c : Fin 101} {t : Nat → Fin 101} {n : Nat} (h : fz_l t n) : fz_l (fz_m (fz_o 0 c) t) n := by
  rw [fz_m_const]
  intro k hk
  show c * t k = 0
  rw [h k hk]
  grind
theorem fz_re_sub {p q T t T' t' : Nat → Fin 101} {n : Nat} (c : Fin 101) (h : fz_re p q n T t) (h' : fz_re p q n T' t') : fz_re p q n (fz_d T (fz_m (fz_o 0 c) T')) (fz_d t (fz_m (fz_o 0 c) t')) := by
  obtain ⟨s, ps, e, lt⟩ := h
  obtain ⟨s', ps', e', lt'⟩ := h'
  exact ⟨_, fz_p_d ps (fz_p_m (fz_p_o 0 c) ps'), @fz_r_resub _ fz_ring T p s q t T' s' t' (fz_o 0 c) e e', fz_l_d lt (fz_cl lt')⟩
theorem fz_re_sc {p q T t : Nat → Fin 101} {n : Nat} (c : Fin 101) (h : fz_re p q n T t) : fz_re p q n (fz_m (fz_o 0 c) T) (fz_m (fz_o 0 c) t) := by
  obtain ⟨s, ps, e, lt⟩ := h
  exact ⟨_, fz_p_m (fz_p_o 0 c) ps, @fz_r_resc _ fz_ring T p s q t (fz_o 0 c) e, fz_cl lt⟩
theorem fz_re_uniq {p q T t t' : Nat → Fin 101} {n : Nat} (hq : fz_e q n) (h : fz_re p q n T t) (h' : fz_re p q n T t') : t = t' := by
  obtain ⟨s, ps, e, lt⟩ := h
  obtain ⟨s', ps', e', lt'⟩ := h'
  exact (fz_div_uniq hq ps ps' lt lt' (e.symm.trans e')).2
theorem fz_r_rex {R : Type} [Lean.Grind.CommRing R] {T p s q t x s2 t2 : R} (h : T * p = s * q + t) (h2 : x * t = s2 * q + t2) : (x * T) * p = (x * s + s2) * q + t2 := by grind
theorem fz_re_x {p q T t s2 t2 : Nat → Fin 101} {n : Nat} (x : Nat → Fin 101) (px : fz_p x) (h : fz_re p q n T t) (ps2 : fz_p s2) (h2 : fz_m x t = fz_a (fz_m s2 q) t2) (l2 : fz_l t2 n) : fz_re p q n (fz_m x T) t2 := by
  obtain ⟨s, ps, e, lt⟩ := h
  exact ⟨_, fz_p_a (fz_p_m px ps) ps2, @fz_r_rex _ fz_ring T p s q t x s2 t2 e h2, l2⟩
def fz_ri (p q : Nat → Fin 101) (n : Nat) (L R : Nat → Nat → Fin 101) (l : Nat → Nat) (row : Nat) : Prop :=
  ∀ j, j < row → fz_re p q n (R j) (L j) ∧ R j j ≠ 0 ∧ fz_l (R j) (j + 1) ∧ L j (l j) = 1 ∧ ∀ i, i < j → L j (l i) = 0
theorem fz_S {p q : Nat → Fin 101} {n : Nat} {L R : Nat → Nat → Fin 101} {l : Nat → Nat} (hq : fz_e q n) : ∀ row, fz_ri p q n L R l row → ∀ T t : Nat → Fin 101, fz_l T row → fz_re p q n T t → (∀ j, j < row → t (l j) = 0) → T = fz_o 0 0 := by
  intro row
  induction row with
  | zero => exact fun _ T t hT _ _ => fz_l_0 hT
  | succ row ih =>
    intro ri T t hT hre ht
    obtain ⟨re, nz, lR, l1, l0⟩ := ri row (by omega)
    have i := fz_i_m _ nz
    have hz := ih (fun j hj => ri j (by omega)) _ _ (fun k hk => by
      show T k - fz_m (fz_o 0 (T row * fz_i (R row row))) (R row) k = 0
      rw [fz_m_const]
      show T k - T row * fz_i (R row row) * R row k = 0
      by_cases c : k = row
      · subst c
        have : T k * fz_i (R k k) * R k k = T k * (R k k * fz_i (R k k)) := by grind
        rw [this, i]
        grind
      · rw [hT k (by omega), lR k (by omega)]
        grind) (fz_re_sub (T row * fz_i (R row row)) hre re) (fun j hj => by
      show t (l j) - fz_m (fz_o 0 (T row * fz_i (R row row))) (L row) (l j) = 0
      rw [fz_m_const]
      show t (l j) - T row * fz_i (R row row) * L row (l j) = 0
      rw [ht j (by omega), l0 j hj]
      grind)
    have eT := fz_d0 hz
    have hr2 := fz_re_sc (T row * fz_i (R row row)) re
    rw [← eT] at hr2
    have et := fz_re_uniq hq hre hr2
    have e1 := ht row (by omega)
    rw [et, fz_m_const] at e1
    have e2 : T row * fz_i (R row row) * L row (l row) = 0 := e1
    rw [l1] at e2
    have e3 : T row * fz_i (R row row) = 0 := by
      rw [← e2]
      grind
    rw [eT, e3, fz_m_zero]
theorem fz_r_kr {R : Type} [Lean.Grind.CommRing R] {P q p Q : R} (h : P * q = p * Q) : Q * p = P * q + 0 := by grind
theorem fz_re_Q {P Q p q : Nat → Fin 101} {n : Nat} (hP : fz_p P) (h : fz_m P q = fz_m p Q) : fz_re p q n Q (fz_o 0 0) := ⟨P, hP, @fz_r_kr _ fz_ring P q p Q h, fz_l_z n⟩
theorem fz_kr_a {P Q p q : Nat → Fin 101} {n row : Nat} {L R : Nat → Nat → Fin 101} {l : Nat → Nat} {R0 L0 : Nat → Fin 101} (hq : fz_e q n) (ri : fz_ri p q n L R l row) (hR : fz_mo R0 row) (re : fz_re p q n R0 L0) (h0 : ∀ j, j < row → L0 (l j) = 0)
    (hQ : fz_mo Q row) (hP : fz_p P) (h : fz_m P q = fz_m p Q) : R0 = Q ∧ L0 = fz_o 0 0 := by
  have hz := fz_S hq row ri _ _ (fun k hk => by
    show Q k - fz_m (fz_o 0 1) R0 k = 0
    rw [fz_m_const]
    show Q k - 1 * R0 k = 0
    by_cases c : k = row
    · subst c
      rw [hQ.1, hR.1]
      rfl
    · rw [hQ.2 k (by omega), hR.2 k (by omega)]
      rfl) (fz_re_sub 1 (fz_re_Q hP h) re) (fun j hj => by
    show fz_o 0 0 (l j) - fz_m (fz_o 0 1) L0 (l j) = 0
    rw [fz_m_const]
    show fz_o 0 0 (l j) - 1 * L0 (l j) = 0
    rw [fz_o00, h0 j hj]
    rfl)
  have e := fz_d0 hz
  rw [fz_m_comm, fz_m_one] at e
  refine ⟨e.symm, ?_⟩
  rw [← e] at re
  exact fz_re_uniq hq re (fz_re_Q hP h)
theorem fz_r_krb {R : Type} [Lean.Grind.CommRing R] {P q p Q r s : R} (h : P * q = p * Q) (h' : r * p = s * q + 0) : q * (P * r) = q * (s * Q) := by grind
theorem fz_kr_b {P Q p q : Nat → Fin 101} {n row m : Nat} {R0 : Nat → Fin 101} (hq : fz_e q n) (hR : fz_mo R0 row) (re : fz_re p q n R0 (fz_o 0 0)) (hQ : fz_mo Q m) (hm : row ≤ m) (hP : fz_p P) (hc : fz_co P Q) (h : fz_m P q = fz_m p Q) : R0 = Q := by
  obtain ⟨s, ps, e, _⟩ := re
  have pR : fz_p R0 := ⟨_, hR.2⟩
  have e2 := fz_cancel (fz_e_p hq) (fz_p_m hP pR) (fz_p_m ps ⟨_, hQ.2⟩) (fz_e_ne hq) (@fz_r_krb _ fz_ring P q p Q R0 s h e)
  obtain ⟨T, pT, eT⟩ := fz_dvd hc ps pR e2
  exact fz_monT hQ hR pT eT hm
theorem fz_r_krp {R : Type} [Lean.Grind.CommRing R] {P q p Q s t : R} (h : P * q = p * Q) (h' : p * Q = s * q + t) : s * q + t = P * q + 0 := by grind
theorem fz_kr_P {P Q p q s t : Nat → Fin 101} {n : Nat} (hq : fz_e q n) (hP : fz_p P) (ps : fz_p s) (lt : fz_l t n) (h : fz_m P q = fz_m p Q) (h' : fz_m p Q = fz_a (fz_m s q) t) : s = P :=
  (fz_div_uniq hq ps hP lt (fz_l_z n) (@fz_r_krp _ fz_ring P q p Q s t h h')).1
end
section
/-! rows pasted from kit/rows -/
theorem pk_us {f : Nat → Int32} {k : Nat} {x : Int32} : upd f k x k = x := if_pos rfl
theorem pk_un {f : Nat → Int32} {k j : Nat} {x : Int32} (h : j ≠ k) : upd f k x j = f j := if_neg h
theorem pk_sub {a b : Nat} (h : b ≤ a) : nI a - nI b = nI (a - b) := by
  obtain ⟨c, rfl⟩ : ∃ c, a = c + b := ⟨a - b, by omega⟩
  rw [← nI_add, Int32.add_sub_cancel, Nat.add_sub_cancel]
theorem pk_m1 (n : Nat) : nI (n + 1) + (-1) = nI n := by
  rw [← nI_1, Int32.add_assoc, show (1 : Int32) + (-1) = 0 from rfl, Int32.add_zero]
theorem pk_mul (a b : Nat) : nI a * nI b = nI (a * b) := (Int32.ofNat_mul a b).symm
theorem pk_div {a d : Nat} (ha : a < 2 ^ 31) (h0 : 0 < d) (hd : d < 2 ^ 31) : nI a / nI d = nI (a / d) := by
  apply Int32.toInt_inj.mp
  rw [lg_idiv_nonneg (by rw [nI_toInt ha]; omega) (by rw [nI_toInt hd]; omega), nI_toInt ha, nI_toInt hd, nI_toInt (Nat.lt_of_le_of_lt (Nat.div_le_self a d) ha)]
  first | rfl | exact (Int.natCast_ediv _ _).symm
theorem pk_rem {a d : Nat} (ha : a < 2 ^ 31) (h0 : 0 < d) (hd : d < 2 ^ 31) : nI a - nI a / nI d * nI d = nI (a % d) := by
  rw [pk_div ha h0 hd, pk_mul, pk_sub (Nat.div_mul_le_self a d)]
  exact congrArg nI (by have := Nat.div_add_mod' a d; omega)
theorem pk_sub_toInt {a b : Nat} (ha : a < 2 ^ 30) (hb : b < 2 ^ 30) : (nI a - nI b).toInt = (a : Int) - b := by
  rw [Int32.toInt_sub, nI_toInt (by omega), nI_toInt (by omega)]
  exact Int.bmod_eq_of_le (by omega) (by omega)
theorem pk_sneg {a b : Nat} (hb : b < 2 ^ 30) (h : a < b) : nI a - nI b < 0 := by
  rw [Int32.lt_iff_toInt_lt, pk_sub_toInt (by omega) hb, show (0 : Int32).toInt = 0 from by decide]
  omega
theorem pk_ix (x : Int32) {n : Nat} (hn : n < 2 ^ 31) : x < 0 ∨ nI n ≤ x ∨ ∃ j : Nat, j < n ∧ x = nI j := by
  by_cases h : x < 0
  · exact Or.inl h
  · obtain ⟨j, hj, rfl⟩ := nI_of h
    by_cases h2 : j < n
    · exact Or.inr (Or.inr ⟨j, h2, rfl⟩)
    · exact Or.inr (Or.inl (nI_le (by omega) hj))
theorem pk_le {x y : Int32} {A B : Prop} (a b : Nat) (f : a ≤ b → A) (g : b < a → B) (hx : x = nI a := by rfl) (hy : y = nI b := by rfl) (ha : a < 2 ^ 31 := by omega) (hb : b < 2 ^ 31 := by omega) : (x ≤ y → A) ∧ (¬ x ≤ y → B) := by
  subst hx hy
  rw [nI_leI ha hb]
  exact ⟨f, fun z => g (by omega)⟩
theorem pk_lt {x y : Int32} {A B : Prop} (a b : Nat) (f : a < b → A) (g : b ≤ a → B) (hx : x = nI a := by rfl) (hy : y = nI b := by rfl) (ha : a < 2 ^ 31 := by omega) (hb : b < 2 ^ 31 := by omega) : (x < y → A) ∧ (¬ x < y → B) := by
  subst hx hy
  rw [nI_ltI ha hb]
  exact ⟨f, fun z => g (by omega)⟩
theorem pk_eq {x y : Int32} {A B : Prop} (a b : Nat) (f : a = b → A) (g : a ≠ b → B) (hx : x = nI a := by rfl) (hy : y = nI b := by rfl) (ha : a < 2 ^ 31 := by omega) (hb : b < 2 ^ 31 := by omega) : (x = y → A) ∧ (¬ x = y → B) := by
  subst hx hy
  rw [nI_eq ha hb]
  exact ⟨f, g⟩
theorem pk_in {x : Int32} (n N : Nat) (h : n < N) (hx : x = nI n := by rfl) (hN : N < 2 ^ 31 := by omega) : vp_in x N := by
  subst hx
  exact vp_in_nI h hN
theorem pk_cl {x : Int32} (n : Nat) (hx : x = nI n := by rfl) (h : n < 2 ^ 31 := by omega) : x.toNatClampNeg = n := by
  subst hx
  exact nI_clamp h
theorem pk_loop {σ : Type} (W : Nat → Nat → σ → Prop) (I : Nat → σ → Prop) (e i0 : Nat) (s : σ) (hi : i0 ≤ e) (h0 : I i0 s) (hx : ∀ n s, I e s → W (n + 1) e s)
    (hs : ∀ n i s, i < e → I i s → (∀ s', I (i + 1) s' → W n (i + 1) s') → W (n + 1) i s) : ∃ n, W n i0 s :=
  ⟨e + 1, loop_i W I e hx hs (e + 1) i0 s hi (by omega) h0⟩
theorem pk_loopD {σ : Type} (W : Nat → Nat → σ → Prop) (I : Nat → σ → Prop) (hx : ∀ n s, I 0 s → W (n + 1) 0 s)
    (hs : ∀ n i s, I (i + 1) s → (∀ s', I i s' → W n i s') → W (n + 1) (i + 1) s) : ∀ (e : Nat) (s : σ), I e s → W (e + 1) e s := by
  intro e
  induction e with
  | zero => exact fun s h => hx 0 s h
  | succ e ih => exact fun s h => hs (e + 1) e s h (fun s' h' => ih s' h')
/-! the cells: 0 .. 100 -/
def fz_c (a : Fin 101) : Int32 := nI a.val
theorem fz_c_0 : fz_c 0 = 0 := by decide
theorem fz_c_1 : fz_c 1 = 1 := by decide
theorem fz_c_100 : fz_c 100 = 100 := by decide
theorem fz_c_lt (a : Fin 101) : a.val < 2 ^ 31 := Nat.lt_trans a.isLt (by decide)
theorem fz_c_inj {a b : Fin 101} : fz_c a = fz_c b ↔ a = b := by
  show nI a.val = nI b.val ↔ a = b
  rw [nI_eq (fz_c_lt a) (fz_c_lt b)]
  exact ⟨fun h => Fin.ext h, fun h => by rw [h]⟩
theorem fz_c_z {a : Fin 101} : fz_c a = 0 ↔ a = 0 := by
  rw [← fz_c_0]
  exact fz_c_inj
theorem fz_c_ge (a : Fin 101) : ¬ fz_c a < 0 := nI_pos (fz_c_lt a)
theorem fz_c_n4 (a : Fin 101) : fz_c a ≠ -4 := fun h => fz_c_ge a (by rw [h]; decide)
theorem fz_rem {n : Nat} (h : n < 2 ^ 31) : nI n - nI n / 101 * 101 = fz_c (Fin.ofNat 101 n) := pk_rem (d := 101) h (by decide) (by decide)
theorem fz_of_mul (m n : Nat) : Fin.ofNat 101 (m * n) = Fin.ofNat 101 m * Fin.ofNat 101 n := by
  apply Fin.ext
  show m * n % 101 = (m % 101) * (n % 101) % 101
  exact Nat.mul_mod m n 101
theorem fz_of_val (a : Fin 101) : Fin.ofNat 101 a.val = a := Fin.ext (Nat.mod_eq_of_lt a.isLt)
theorem fz_of_neg (a : Fin 101) : Fin.ofNat 101 (101 - a.val) = - a := by
  have h : Fin.ofNat 101 (101 - a.val) + a = 0 := by
    have h1 : Fin.ofNat 101 (101 - a.val) + Fin.ofNat 101 a.val = 0 := by
      rw [← fz_ofNat_add, Nat.sub_add_cancel (Nat.le_of_lt a.isLt)]
      rfl
    rw [fz_of_val] at h1
    exact h1
  generalize Fin.ofNat 101 (101 - a.val) = b at h
  grind
theorem fz_mul_lt (a b : Fin 101) : a.val * b.val ≤ 10000 := Nat.mul_le_mul (show a.val ≤ 100 by omega) (show b.val ≤ 100 by omega)
theorem fz_rem_m (a b : Fin 101) : fz_c a * fz_c b - fz_c a * fz_c b / 101 * 101 = fz_c (a * b) := by
  show nI a.val * nI b.val - nI a.val * nI b.val / 101 * 101 = _
  have := fz_mul_lt a b
  rw [pk_mul, fz_rem (by omega), fz_of_mul, fz_of_val, fz_of_val]
theorem fz_rem_ma (a b c : Fin 101) : (fz_c a + fz_c b * fz_c c) - (fz_c a + fz_c b * fz_c c) / 101 * 101 = fz_c (a + b * c) := by
  show (nI a.val + nI b.val * nI c.val) - (nI a.val + nI b.val * nI c.val) / 101 * 101 = _
  have := fz_mul_lt b c
  rw [pk_mul, nI_add, fz_rem (by omega), fz_ofNat_add, fz_of_mul, fz_of_val, fz_of_val, fz_of_val]
theorem fz_rem_h (s a b : Fin 101) : (fz_c s * fz_c a + fz_c b) - (fz_c s * fz_c a + fz_c b) / 101 * 101 = fz_c (s * a + b) := by
  show (nI s.val * nI a.val + nI b.val) - (nI s.val * nI a.val + nI b.val) / 101 * 101 = _
  have := fz_mul_lt s a
  rw [pk_mul, nI_add, fz_rem (by omega), fz_ofNat_add, fz_of_mul, fz_of_val, fz_of_val, fz_of_val]
theorem fz_rem_ms (a b c : Fin 101) : (fz_c a + (101 - fz_c b) * fz_c c) - (fz_c a + (101 - fz_c b) * fz_c c) / 101 * 101 = fz_c (a - b * c) := by
  have e : (101 : Int32) - fz_c b = nI (101 - b.val) := pk_sub (a := 101) (Nat.le_of_lt b.isLt)
  rw [e]
  show (nI a.val + nI (101 - b.val) * nI c.val) - (nI a.val + nI (101 - b.val) * nI c.val) / 101 * 101 = _
  have : (101 - b.val) * c.val ≤ 101 * 100 := Nat.mul_le_mul (by omega) (by omega)
  rw [pk_mul, nI_add, fz_rem (by omega), fz_ofNat_add, fz_of_mul, fz_of_val, fz_of_neg, fz_of_val]
  congr 1
  grind
theorem fz_rem_k {k : Nat} (hk : k < 1000) (a : Fin 101) : nI k * fz_c a - nI k * fz_c a / 101 * 101 = fz_c (Fin.ofNat 101 k * a) := by
  show nI k * nI a.val - nI k * nI a.val / 101 * 101 = _
  have : k * a.val ≤ 1000 * 100 := Nat.mul_le_mul (by omega) (by omega)
  rw [pk_mul, fz_rem (by omega), fz_of_mul, fz_of_val]
theorem fz_rem_1 (a : Fin 101) : fz_c a - fz_c a / 101 * 101 = fz_c a := by
  show nI a.val - nI a.val / 101 * 101 = _
  rw [fz_rem (fz_c_lt a), fz_of_val]
/-! arrays and their pictures -/
def fz_ar (A : Nat → Int32) (f : Nat → Fin 101) : Prop := ∀ k, k < 25 → A k = fz_c (f k)
def fz_at (A : Nat → Int32) (o : Nat) (f : Nat → Fin 101) : Prop := ∀ k, k < 25 → A (o + k) = fz_c (f k)
theorem fz_up {s : Nat → Int32} {f : Nat → Fin 101} {i : Nat} {v : Int32} (h : ∀ k, k < i → s k = fz_c (f k)) (hv : v = fz_c (f i)) : ∀ k, k < i + 1 → upd s i v k = fz_c (f k) := fun k hk => by
  by_cases c : k = i
  · subst c
    rw [pk_us, hv]
  · rw [pk_un c]
    exact h k (by omega)
theorem fz_upo {s : Nat → Int32} {f : Nat → Fin 101} {i o : Nat} {v : Int32} (h : ∀ k, k < i → s (o + k) = fz_c (f k)) (hv : v = fz_c (f i)) : ∀ k, k < i + 1 → upd s (o + i) v (o + k) = fz_c (f k) := fun k hk => by
  by_cases c : k = i
  · subst c
    rw [pk_us, hv]
  · rw [pk_un (by omega)]
    exact h k (by omega)
def fz_d1 : Nat → Int32
  | 0 => -1
  | j + 1 => nI j
theorem fz_d1_s (j : Nat) : nI j + (-1) = fz_d1 j := by
  cases j with
  | zero => decide
  | succ j => exact pk_m1 j
theorem fz_nz101 : ¬ (101 : Int32) = 0 := by decide
theorem fz_ar_inj {A : Nat → Int32} {f g : Nat → Fin 101} (hf : fz_ar A f) (hg : fz_ar A g) (lf : fz_l f 25) (lg : fz_l g 25) : f = g := by
  funext k
  by_cases c : k < 25
  · exact fz_c_inj.mp ((hf k c).symm.trans (hg k c))
  · rw [lf k (by omega), lg k (by omega)]
/-! the parts of a product, one factor's cells one after another -/
def fz_tr (i : Nat) (f : Nat → Fin 101) : Nat → Fin 101 := fun k => if k < i then f k else 0
theorem fz_tr_s (i : Nat) (f : Nat → Fin 101) : fz_tr (i + 1) f = fz_a (fz_tr i f) (fz_o i (f i)) := by
  funext k
  show (if k < i + 1 then f k else 0) = (if k < i then f k else 0) + (if k = i then f i else 0)
  by_cases c : k = i
  · subst c
    rw [if_pos (by omega), if_neg (by omega), if_pos rfl]
    grind
  · by_cases d : k < i
    · rw [if_pos (by omega), if_pos d, if_neg c]
      grind
    · rw [if_neg (by omega), if_neg d, if_neg c]
      rfl
theorem fz_tr_e {n : Nat} {f : Nat → Fin 101} (h : fz_l f n) : fz_tr n f = f := by
  funext k
  show (if k < n then f k else 0) = f k
  by_cases c : k < n
  · rw [if_pos c]
  · rw [if_neg c, h k (by omega)]
theorem fz_tr_0 (f : Nat → Fin 101) : fz_tr 0 f = fz_o 0 0 := by
  funext k
  rw [fz_o00]
  show (if k < 0 then f k else 0) = 0
  rw [if_neg (by omega)]
theorem fz_r_trs {R : Type} [Lean.Grind.CommRing R] (f t o g : R) : f + (t + o) * g = (f + t * g) + o * g := by grind
theorem fz_tr_add (f h g : Nat → Fin 101) (i : Nat) : fz_a f (fz_m (fz_tr (i + 1) h) g) = fz_a (fz_a f (fz_m (fz_tr i h) g)) (fz_m (fz_o i (h i)) g) := by
  rw [fz_tr_s]
  exact @fz_r_trs _ fz_ring f (fz_tr i h) (fz_o i (h i)) g
theorem fz_r_tr0 {R : Type} [Lean.Grind.CommRing R] (f g : R) : f + 0 * g = f := by grind
theorem fz_tr_add0 (f h g : Nat → Fin 101) : fz_a f (fz_m (fz_tr 0 h) g) = f := by
  rw [fz_tr_0]
  exact @fz_r_tr0 _ fz_ring f g
end
section
/-! the component's own loops, a lemma for each print (written by wip/whole/gen_x.py) -/
section
variable {c : Int32} {sA sB hh lA lB rA rB zA zB cm rm qt : Nat → Int32}
theorem gx_set_zA {post : SX → Prop} (v : Fin 101) (K : ∀ t, fz_ar t (fz_o 0 v) → post (c, sA, sB, hh, lA, lB, rA, rB, t, zB, cm, rm, qt)) : wpX_setToNumber__resultAbove post (c, sA, sB, hh, lA, lB, rA, rB, zA, zB, cm, rm, qt) (fz_c v) := by
  refine pk_loop (fun n i s => wX_setToNumber__resultAbove_2 post (fz_c v) c n (nI i) sA sB hh lA lB rA rB s zB cm rm qt) (fun i s => ∀ k, 1 ≤ k → k < i → s k = 0) 25 1 zA (by omega) (fun k h1 h2 => by omega) ?_ ?_
  · intro n s h
    refine br_t (by decide) ?_
    refine nm_e ?_
    refine K _ (fun k hk => ?_)
    by_cases d : k = 0
    · subst d
      rw [pk_us]
      rfl
    · rw [pk_un d, h k (by omega) hk]
      show 0 = fz_c (if k = 0 then v else 0)
      rw [if_neg d]
      rfl
  · intro n i s hi h ih
    refine br_f (nI_ge (b := 25) hi (by decide)) ⟨vp_in_nI hi (by decide), ?_⟩
    refine nm_r (e' := upd s i 0) (by rw [nI_clamp (by omega)]) ?_
    refine nm_r (nI_1 i) ?_
    refine ih _ (fun k h1 h2 => ?_)
    by_cases d : k = i
    · subst d
      rw [pk_us]
    · rw [pk_un d]
      exact h k h1 (by omega)
theorem gx_set_zB {post : SX → Prop} (v : Fin 101) (K : ∀ t, fz_ar t (fz_o 0 v) → post (c, sA, sB, hh, lA, lB, rA, rB, zA, t, cm, rm, qt)) : wpX_setToNumber__resultBelow post (c, sA, sB, hh, lA, lB, rA, rB, zA, zB, cm, rm, qt) (fz_c v) := by
  refine pk_loop (fun n i s => wX_setToNumber__resultBelow_2 post (fz_c v) c n (nI i) sA sB hh lA lB rA rB zA s cm rm qt) (fun i s => ∀ k, 1 ≤ k → k < i → s k = 0) 25 1 zB (by omega) (fun k h1 h2 => by omega) ?_ ?_
  · intro n s h
    refine br_t (by decide) ?_
    refine nm_e ?_
    refine K _ (fun k hk => ?_)
    by_cases d : k = 0
    · subst d
      rw [pk_us]
      rfl
    · rw [pk_un d, h k (by omega) hk]
      show 0 = fz_c (if k = 0 then v else 0)
      rw [if_neg d]
      rfl
  · intro n i s hi h ih
    refine br_f (nI_ge (b := 25) hi (by decide)) ⟨vp_in_nI hi (by decide), ?_⟩
    refine nm_r (e' := upd s i 0) (by rw [nI_clamp (by omega)]) ?_
    refine nm_r (nI_1 i) ?_
    refine ih _ (fun k h1 h2 => ?_)
    by_cases d : k = i
    · subst d
      rw [pk_us]
    · rw [pk_un d]
      exact h k h1 (by omega)
theorem gx_set_qt {post : SX → Prop} (v : Fin 101) (K : ∀ t, fz_ar t (fz_o 0 v) → post (c, sA, sB, hh, lA, lB, rA, rB, zA, zB, cm, rm, t)) : wpX_setToNumber__quotient post (c, sA, sB, hh, lA, lB, rA, rB, zA, zB, cm, rm, qt) (fz_c v) := by
  refine pk_loop (fun n i s => wX_setToNumber__quotient_2 post (fz_c v) c n (nI i) sA sB hh lA lB rA rB zA zB cm rm s) (fun i s => ∀ k, 1 ≤ k → k < i → s k = 0) 25 1 qt (by omega) (fun k h1 h2 => by omega) ?_ ?_
  · intro n s h
    refine br_t (by decide) ?_
    refine nm_e ?_
    refine K _ (fun k hk => ?_)
    by_cases d : k = 0
    · subst d
      rw [pk_us]
      rfl
    · rw [pk_un d, h k (by omega) hk]
      show 0 = fz_c (if k = 0 then v else 0)
      rw [if_neg d]
      rfl
  · intro n i s hi h ih
    refine br_f (nI_ge (b := 25) hi (by decide)) ⟨vp_in_nI hi (by decide), ?_⟩
    refine nm_r (e' := upd s i 0) (by rw [nI_clamp (by omega)]) ?_
    refine nm_r (nI_1 i) ?_
    refine ih _ (fun k h1 h2 => ?_)
    by_cases d : k = i
    · subst d
      rw [pk_us]
    · rw [pk_un d]
      exact h k h1 (by omega)
theorem gx_copy_zA_cm {post : SX → Prop} {f : Nat → Fin 101} (hf : fz_ar zA f) (K : ∀ t, fz_ar t f → post (c, sA, sB, hh, lA, lB, rA, rB, zA, zB, t, rm, qt)) : wpX_copy__resultAbove_common post (c, sA, sB, hh, lA, lB, rA, rB, zA, zB, cm, rm, qt) := by
  refine pk_loop (fun n i s => wX_copy__resultAbove_common_2 post c n (nI i) sA sB hh lA lB rA rB zA zB s rm qt) (fun i s => ∀ k, k < i → s k = fz_c (f k)) 25 0 cm (by omega) (fun k h => by omega) ?_ ?_
  · intro n s h
    exact br_t (by decide) (K _ h)
  · intro n i s hi h ih
    refine br_f (nI_ge (b := 25) hi (by decide)) ⟨vp_in_nI hi (by decide), vp_in_nI hi (by decide), ?_⟩
    refine nm_r (e' := upd s i (zA i)) (by rw [nI_clamp (by omega)]) ?_
    refine nm_r (nI_1 i) ?_
    exact ih _ (fz_up h (hf i hi))
theorem gx_copy_zB_rm {post : SX → Prop} {f : Nat → Fin 101} (hf : fz_ar zB f) (K : ∀ t, fz_ar t f → post (c, sA, sB, hh, lA, lB, rA, rB, zA, zB, cm, t, qt)) : wpX_copy__resultBelow_remainder post (c, sA, sB, hh, lA, lB, rA, rB, zA, zB, cm, rm, qt) := by
  refine pk_loop (fun n i s => wX_copy__resultBelow_remainder_2 post c n (nI i) sA sB hh lA lB rA rB zA zB cm s qt) (fun i s => ∀ k, k < i → s k = fz_c (f k)) 25 0 rm (by omega) (fun k h => by omega) ?_ ?_
  · intro n s h
    exact br_t (by decide) (K _ h)
  · intro n i s hi h ih
    refine br_f (nI_ge (b := 25) hi (by decide)) ⟨vp_in_nI hi (by decide), vp_in_nI hi (by decide), ?_⟩
    refine nm_r (e' := upd s i (zB i)) (by rw [nI_clamp (by omega)]) ?_
    refine nm_r (nI_1 i) ?_
    exact ih _ (fz_up h (hf i hi))
theorem gx_copy_qt_zA {post : SX → Prop} {f : Nat → Fin 101} (hf : fz_ar qt f) (K : ∀ t, fz_ar t f → post (c, sA, sB, hh, lA, lB, rA, rB, t, zB, cm, rm, qt)) : wpX_copy__quotient_resultAbove post (c, sA, sB, hh, lA, lB, rA, rB, zA, zB, cm, rm, qt) := by
  refine pk_loop (fun n i s => wX_copy__quotient_resultAbove_2 post c n (nI i) sA sB hh lA lB rA rB s zB cm rm qt) (fun i s => ∀ k, k < i → s k = fz_c (f k)) 25 0 zA (by omega) (fun k h => by omega) ?_ ?_
  · intro n s h
    exact br_t (by decide) (K _ h)
  · intro n i s hi h ih
    refine br_f (nI_ge (b := 25) hi (by decide)) ⟨vp_in_nI hi (by decide), vp_in_nI hi (by decide), ?_⟩
    refine nm_r (e' := upd s i (qt i)) (by rw [nI_clamp (by omega)]) ?_
    refine nm_r (nI_1 i) ?_
    exact ih _ (fz_up h (hf i hi))
theorem gx_copy_qt_zB {post : SX → Prop} {f : Nat → Fin 101} (hf : fz_ar qt f) (K : ∀ t, fz_ar t f → post (c, sA, sB, hh, lA, lB, rA, rB, zA, t, cm, rm, qt)) : wpX_copy__quotient_resultBelow post (c, sA, sB, hh, lA, lB, rA, rB, zA, zB, cm, rm, qt) := by
  refine pk_loop (fun n i s => wX_copy__quotient_resultBelow_2 post c n (nI i) sA sB hh lA lB rA rB zA s cm rm qt) (fun i s => ∀ k, k < i → s k = fz_c (f k)) 25 0 zB (by omega) (fun k h => by omega) ?_ ?_
  · intro n s h
    exact br_t (by decide) (K _ h)
  · intro n i s hi h ih
    refine br_f (nI_ge (b := 25) hi (by decide)) ⟨vp_in_nI hi (by decide), vp_in_nI hi (by decide), ?_⟩
    refine nm_r (e' := upd s i (qt i)) (by rw [nI_clamp (by omega)]) ?_
    refine nm_r (nI_1 i) ?_
    exact ih _ (fz_up h (hf i hi))
theorem gx_copy_zA_lA {post : SX → Prop} {f : Nat → Fin 101} (hf : fz_ar zA f) (K : ∀ t, fz_ar t f → post (c, sA, sB, hh, t, lB, rA, rB, zA, zB, cm, rm, qt)) : wpX_copy__resultAbove_leftAbove post (c, sA, sB, hh, lA, lB, rA, rB, zA, zB, cm, rm, qt) := by
  refine pk_loop (fun n i s => wX_copy__resultAbove_leftAbove_2 post c n (nI i) sA sB hh s lB rA rB zA zB cm rm qt) (fun i s => ∀ k, k < i → s k = fz_c (f k)) 25 0 lA (by omega) (fun k h => by omega) ?_ ?_
  · intro n s h
    exact br_t (by decide) (K _ h)
  · intro n i s hi h ih
    refine br_f (nI_ge (b := 25) hi (by decide)) ⟨vp_in_nI hi (by decide), vp_in_nI hi (by decide), ?_⟩
    refine nm_r (e' := upd s i (zA i)) (by rw [nI_clamp (by omega)]) ?_
    refine nm_r (nI_1 i) ?_
    exact ih _ (fz_up h (hf i hi))
theorem gx_copy_zB_lB {post : SX → Prop} {f : Nat → Fin 101} (hf : fz_ar zB f) (K : ∀ t, fz_ar t f → post (c, sA, sB, hh, lA, t, rA, rB, zA, zB, cm, rm, qt)) : wpX_copy__resultBelow_leftBelow post (c, sA, sB, hh, lA, lB, rA, rB, zA, zB, cm, rm, qt) := by
  refine pk_loop (fun n i s => wX_copy__resultBelow_leftBelow_2 post c n (nI i) sA sB hh lA s rA rB zA zB cm rm qt) (fun i s => ∀ k, k < i → s k = fz_c (f k)) 25 0 lB (by omega) (fun k h => by omega) ?_ ?_
  · intro n s h
    exact br_t (by decide) (K _ h)
  · intro n i s hi h ih
    refine br_f (nI_ge (b := 25) hi (by decide)) ⟨vp_in_nI hi (by decide), vp_in_nI hi (by decide), ?_⟩
    refine nm_r (e' := upd s i (zB i)) (by rw [nI_clamp (by omega)]) ?_
    refine nm_r (nI_1 i) ?_
    exact ih _ (fz_up h (hf i hi))
theorem gx_load_lA_lB {post : SX → Prop} {f g : Nat → Fin 101} (j : Nat) (hj : j < 6) (hf : fz_at sA (j * 25) f) (hg : fz_at sB (j * 25) g) (K : ∀ t t', fz_ar t f → fz_ar t' g → post (c, sA, sB, hh, t, t', rA, rB, zA, zB, cm, rm, qt)) : wpX_loadFraction__leftAbove_leftBelow post (c, sA, sB, hh, lA, lB, rA, rB, zA, zB, cm, rm, qt) (nI j) := by
  refine nm_r (e' := nI (j * 25)) (pk_mul j 25) ?_
  refine pk_loop (fun n i (s : (Nat → Int32) × (Nat → Int32)) => wX_loadFraction__leftAbove_leftBelow_9 post (nI (j * 25)) c n (nI i) sA sB hh s.1 s.2 rA rB zA zB cm rm qt) (fun i s => (∀ k, k < i → s.1 k = fz_c (f k)) ∧ ∀ k, k < i → s.2 k = fz_c (g k)) 25 0 (lA, lB) (by omega) ⟨fun k h => by omega, fun k h => by omega⟩ ?_ ?_
  · intro n s h
    exact br_t (by decide) (K _ _ h.1 h.2)
  · intro n i s hi h ih
    refine br_f (nI_ge (b := 25) hi (by decide)) ?_
    rw [nI_add]
    refine ⟨vp_in_nI (by omega) (by decide), vp_in_nI hi (by decide), ?_⟩
    refine nm_r (e' := upd s.1 i (sA (j * 25 + i))) (by rw [nI_clamp (by omega), nI_clamp (by omega)]) ?_
    refine ⟨vp_in_nI (by omega) (by decide), vp_in_nI hi (by decide), ?_⟩
    refine nm_r (e' := upd s.2 i (sB (j * 25 + i))) (by rw [nI_clamp (by omega), nI_clamp (by omega)]) ?_
    refine nm_r (nI_1 i) ?_
    exact ih (_, _) ⟨fz_up h.1 (hf i hi), fz_up h.2 (hg i hi)⟩
theorem gx_load_rA_rB {post : SX → Prop} {f g : Nat → Fin 101} (j : Nat) (hj : j < 6) (hf : fz_at sA (j * 25) f) (hg : fz_at sB (j * 25) g) (K : ∀ t t', fz_ar t f → fz_ar t' g → post (c, sA, sB, hh, lA, lB, t, t', zA, zB, cm, rm, qt)) : wpX_loadFraction__rightAbove_rightBelow post (c, sA, sB, hh, lA, lB, rA, rB, zA, zB, cm, rm, qt) (nI j) := by
  refine nm_r (e' := nI (j * 25)) (pk_mul j 25) ?_
  refine pk_loop (fun n i (s : (Nat → Int32) × (Nat → Int32)) => wX_loadFraction__rightAbove_rightBelow_9 post (nI (j * 25)) c n (nI i) sA sB hh lA lB s.1 s.2 zA zB cm rm qt) (fun i s => (∀ k, k < i → s.1 k = fz_c (f k)) ∧ ∀ k, k < i → s.2 k = fz_c (g k)) 25 0 (rA, rB) (by omega) ⟨fun k h => by omega, fun k h => by omega⟩ ?_ ?_
  · intro n s h
    exact br_t (by decide) (K _ _ h.1 h.2)
  · intro n i s hi h ih
    refine br_f (nI_ge (b := 25) hi (by decide)) ?_
    rw [nI_add]
    refine ⟨vp_in_nI (by omega) (by decide), vp_in_nI hi (by decide), ?_⟩
    refine nm_r (e' := upd s.1 i (sA (j * 25 + i))) (by rw [nI_clamp (by omega), nI_clamp (by omega)]) ?_
    refine ⟨vp_in_nI (by omega) (by decide), vp_in_nI hi (by decide), ?_⟩
    refine nm_r (e' := upd s.2 i (sB (j * 25 + i))) (by rw [nI_clamp (by omega), nI_clamp (by omega)]) ?_
    refine nm_r (nI_1 i) ?_
    exact ih (_, _) ⟨fz_up h.1 (hf i hi), fz_up h.2 (hg i hi)⟩
theorem gx_load_zA_zB {post : SX → Prop} {f g : Nat → Fin 101} (j : Nat) (hj : j < 6) (hf : fz_at sA (j * 25) f) (hg : fz_at sB (j * 25) g) (K : ∀ t t', fz_ar t f → fz_ar t' g → post (c, sA, sB, hh, lA, lB, rA, rB, t, t', cm, rm, qt)) : wpX_loadFraction__resultAbove_resultBelow post (c, sA, sB, hh, lA, lB, rA, rB, zA, zB, cm, rm, qt) (nI j) := by
  refine nm_r (e' := nI (j * 25)) (pk_mul j 25) ?_
  refine pk_loop (fun n i (s : (Nat → Int32) × (Nat → Int32)) => wX_loadFraction__resultAbove_resultBelow_9 post (nI (j * 25)) c n (nI i) sA sB hh lA lB rA rB s.1 s.2 cm rm qt) (fun i s => (∀ k, k < i → s.1 k = fz_c (f k)) ∧ ∀ k, k < i → s.2 k = fz_c (g k)) 25 0 (zA, zB) (by omega) ⟨fun k h => by omega, fun k h => by omega⟩ ?_ ?_
  · intro n s h
    exact br_t (by decide) (K _ _ h.1 h.2)
  · intro n i s hi h ih
    refine br_f (nI_ge (b := 25) hi (by decide)) ?_
    rw [nI_add]
    refine ⟨vp_in_nI (by omega) (by decide), vp_in_nI hi (by decide), ?_⟩
    refine nm_r (e' := upd s.1 i (sA (j * 25 + i))) (by rw [nI_clamp (by omega), nI_clamp (by omega)]) ?_
    refine ⟨vp_in_nI (by omega) (by decide), vp_in_nI hi (by decide), ?_⟩
    refine nm_r (e' := upd s.2 i (sB (j * 25 + i))) (by rw [nI_clamp (by omega), nI_clamp (by omega)]) ?_
    refine nm_r (nI_1 i) ?_
    exact ih (_, _) ⟨fz_up h.1 (hf i hi), fz_up h.2 (hg i hi)⟩
theorem gx_store_zA_zB {post : SX → Prop} {f g : Nat → Fin 101} (j : Nat) (hj : j < 6) (hf : fz_ar zA f) (hg : fz_ar zB g) (K : ∀ t t', fz_at t (j * 25) f → fz_at t' (j * 25) g → (∀ m, m < j * 25 ∨ j * 25 + 25 ≤ m → t m = sA m) → (∀ m, m < j * 25 ∨ j * 25 + 25 ≤ m → t' m = sB m) → post (c, t, t', hh, lA, lB, rA, rB, zA, zB, cm, rm, qt)) : wpX_storeFraction__resultAbove_resultBelow post (c, sA, sB, hh, lA, lB, rA, rB, zA, zB, cm, rm, qt) (nI j) := by
  refine nm_r (e' := nI (j * 25)) (pk_mul j 25) ?_
  refine pk_loop (fun n i (s : (Nat → Int32) × (Nat → Int32)) => wX_storeFraction__resultAbove_resultBelow_9 post (nI (j * 25)) c n (nI i) s.1 s.2 hh lA lB rA rB zA zB cm rm qt) (fun i s => (∀ k, k < i → s.1 (j * 25 + k) = fz_c (f k)) ∧ (∀ k, k < i → s.2 (j * 25 + k) = fz_c (g k)) ∧ (∀ m, m < j * 25 ∨ j * 25 + 25 ≤ m → s.1 m = sA m) ∧ (∀ m, m < j * 25 ∨ j * 25 + 25 ≤ m → s.2 m = sB m)) 25 0 (sA, sB) (by omega) ⟨fun k h => by omega, fun k h => by omega, fun _ _ => rfl, fun _ _ => rfl⟩ ?_ ?_
  · intro n s h
    exact br_t (by decide) (K _ _ h.1 h.2.1 h.2.2.1 h.2.2.2)
  · intro n i s hi h ih
    refine br_f (nI_ge (b := 25) hi (by decide)) ?_
    rw [nI_add]
    refine ⟨vp_in_nI hi (by decide), vp_in_nI (by omega) (by decide), ?_⟩
    refine nm_r (e' := upd s.1 (j * 25 + i) (zA i)) (by rw [nI_clamp (by omega), nI_clamp (by omega)]) ?_
    refine ⟨vp_in_nI hi (by decide), vp_in_nI (by omega) (by decide), ?_⟩
    refine nm_r (e' := upd s.2 (j * 25 + i) (zB i)) (by rw [nI_clamp (by omega), nI_clamp (by omega)]) ?_
    refine nm_r (nI_1 i) ?_
    exact ih (_, _) ⟨fz_upo h.1 (hf i hi), fz_upo h.2.1 (hg i hi), fun m hm => (pk_un (by omega)).trans (h.2.2.1 m hm), fun m hm => (pk_un (by omega)).trans (h.2.2.2 m hm)⟩
theorem gx_store_rA_rB {post : SX → Prop} {f g : Nat → Fin 101} (j : Nat) (hj : j < 6) (hf : fz_ar rA f) (hg : fz_ar rB g) (K : ∀ t t', fz_at t (j * 25) f → fz_at t' (j * 25) g → (∀ m, m < j * 25 ∨ j * 25 + 25 ≤ m → t m = sA m) → (∀ m, m < j * 25 ∨ j * 25 + 25 ≤ m → t' m = sB m) → post (c, t, t', hh, lA, lB, rA, rB, zA, zB, cm, rm, qt)) : wpX_storeFraction__rightAbove_rightBelow post (c, sA, sB, hh, lA, lB, rA, rB, zA, zB, cm, rm, qt) (nI j) := by
  refine nm_r (e' := nI (j * 25)) (pk_mul j 25) ?_
  refine pk_loop (fun n i (s : (Nat → Int32) × (Nat → Int32)) => wX_storeFraction__rightAbove_rightBelow_9 post (nI (j * 25)) c n (nI i) s.1 s.2 hh lA lB rA rB zA zB cm rm qt) (fun i s => (∀ k, k < i → s.1 (j * 25 + k) = fz_c (f k)) ∧ (∀ k, k < i → s.2 (j * 25 + k) = fz_c (g k)) ∧ (∀ m, m < j * 25 ∨ j * 25 + 25 ≤ m → s.1 m = sA m) ∧ (∀ m, m < j * 25 ∨ j * 25 + 25 ≤ m → s.2 m = sB m)) 25 0 (sA, sB) (by omega) ⟨fun k h => by omega, fun k h => by omega, fun _ _ => rfl, fun _ _ => rfl⟩ ?_ ?_
  · intro n s h
    exact br_t (by decide) (K _ _ h.1 h.2.1 h.2.2.1 h.2.2.2)
  · intro n i s hi h ih
    refine br_f (nI_ge (b := 25) hi (by decide)) ?_
    rw [nI_add]
    refine ⟨vp_in_nI hi (by decide), vp_in_nI (by omega) (by decide), ?_⟩
    refine nm_r (e' := upd s.1 (j * 25 + i) (rA i)) (by rw [nI_clamp (by omega), nI_clamp (by omega)]) ?_
    refine ⟨vp_in_nI hi (by decide), vp_in_nI (by omega) (by decide), ?_⟩
    refine nm_r (e' := upd s.2 (j * 25 + i) (rB i)) (by rw [nI_clamp (by omega), nI_clamp (by omega)]) ?_
    refine nm_r (nI_1 i) ?_
    exact ih (_, _) ⟨fz_upo h.1 (hf i hi), fz_upo h.2.1 (hg i hi), fun m hm => (pk_un (by omega)).trans (h.2.2.1 m hm), fun m hm => (pk_un (by omega)).trans (h.2.2.2 m hm)⟩
theorem gx_store_lA_lB {post : SX → Prop} {f g : Nat → Fin 101} (j : Nat) (hj : j < 6) (hf : fz_ar lA f) (hg : fz_ar lB g) (K : ∀ t t', fz_at t (j * 25) f → fz_at t' (j * 25) g → (∀ m, m < j * 25 ∨ j * 25 + 25 ≤ m → t m = sA m) → (∀ m, m < j * 25 ∨ j * 25 + 25 ≤ m → t' m = sB m) → post (c, t, t', hh, lA, lB, rA, rB, zA, zB, cm, rm, qt)) : wpX_storeFraction__leftAbove_leftBelow post (c, sA, sB, hh, lA, lB, rA, rB, zA, zB, cm, rm, qt) (nI j) := by
  refine nm_r (e' := nI (j * 25)) (pk_mul j 25) ?_
  refine pk_loop (fun n i (s : (Nat → Int32) × (Nat → Int32)) => wX_storeFraction__leftAbove_leftBelow_9 post (nI (j * 25)) c n (nI i) s.1 s.2 hh lA lB rA rB zA zB cm rm qt) (fun i s => (∀ k, k < i → s.1 (j * 25 + k) = fz_c (f k)) ∧ (∀ k, k < i → s.2 (j * 25 + k) = fz_c (g k)) ∧ (∀ m, m < j * 25 ∨ j * 25 + 25 ≤ m → s.1 m = sA m) ∧ (∀ m, m < j * 25 ∨ j * 25 + 25 ≤ m → s.2 m = sB m)) 25 0 (sA, sB) (by omega) ⟨fun k h => by omega, fun k h => by omega, fun _ _ => rfl, fun _ _ => rfl⟩ ?_ ?_
  · intro n s h
    exact br_t (by decide) (K _ _ h.1 h.2.1 h.2.2.1 h.2.2.2)
  · intro n i s hi h ih
    refine br_f (nI_ge (b := 25) hi (by decide)) ?_
    rw [nI_add]
    refine ⟨vp_in_nI hi (by decide), vp_in_nI (by omega) (by decide), ?_⟩
    refine nm_r (e' := upd s.1 (j * 25 + i) (lA i)) (by rw [nI_clamp (by omega), nI_clamp (by omega)]) ?_
    refine ⟨vp_in_nI hi (by decide), vp_in_nI (by omega) (by decide), ?_⟩
    refine nm_r (e' := upd s.2 (j * 25 + i) (lB i)) (by rw [nI_clamp (by omega), nI_clamp (by omega)]) ?_
    refine nm_r (nI_1 i) ?_
    exact ih (_, _) ⟨fz_upo h.1 (hf i hi), fz_upo h.2.1 (hg i hi), fun m hm => (pk_un (by omega)).trans (h.2.2.1 m hm), fun m hm => (pk_un (by omega)).trans (h.2.2.2 m hm)⟩
theorem gx_deg_rm {post : Int32 → Prop} (m : Nat) (hm : m < 25) (hz : ∀ k, m < k → k < 25 → rm k = 0) (h : m = 0 ∨ rm m ≠ 0) (K : post (nI m)) : wpX_degree__remainder post (c, sA, sB, hh, lA, lB, rA, rB, zA, zB, cm, rm, qt) := by
  have key : ∀ n j, j < m + n → m ≤ j → j < 25 → wX_degree__remainder_3 post c sA sB hh lA lB rA rB zA zB cm rm qt n (nI j) := by
    intro n
    induction n with
    | zero => intro j h1 h2; omega
    | succ n ih =>
      intro j h1 h2 h3
      by_cases d : j = 0
      · subst d
        have m0 : m = 0 := by omega
        subst m0
        exact br_t (by decide) K
      · refine br_f (nI_nle (by omega) (by omega)) ⟨vp_in_nI h3 (by decide), ?_⟩
        rw [nI_clamp (by omega)]
        by_cases e : j = m
        · subst e
          cases h with
          | inl h => exact absurd h d
          | inr h => exact br_f h K
        · refine br_t (hz j (by omega) h3) ?_
          obtain ⟨i, rfl⟩ : ∃ i, j = i + 1 := ⟨j - 1, by omega⟩
          refine nm_r (pk_m1 i) ?_
          exact ih i (by omega) (by omega) (by omega)
  exact ⟨25, key 25 24 (by omega) (by omega) (by omega)⟩
theorem gx_deg_zA {post : Int32 → Prop} (m : Nat) (hm : m < 25) (hz : ∀ k, m < k → k < 25 → zA k = 0) (h : m = 0 ∨ zA m ≠ 0) (K : post (nI m)) : wpX_degree__resultAbove post (c, sA, sB, hh, lA, lB, rA, rB, zA, zB, cm, rm, qt) := by
  have key : ∀ n j, j < m + n → m ≤ j → j < 25 → wX_degree__resultAbove_3 post c sA sB hh lA lB rA rB zA zB cm rm qt n (nI j) := by
    intro n
    induction n with
    | zero => intro j h1 h2; omega
    | succ n ih =>
      intro j h1 h2 h3
      by_cases d : j = 0
      · subst d
        have m0 : m = 0 := by omega
        subst m0
        exact br_t (by decide) K
      · refine br_f (nI_nle (by omega) (by omega)) ⟨vp_in_nI h3 (by decide), ?_⟩
        rw [nI_clamp (by omega)]
        by_cases e : j = m
        · subst e
          cases h with
          | inl h => exact absurd h d
          | inr h => exact br_f h K
        · refine br_t (hz j (by omega) h3) ?_
          obtain ⟨i, rfl⟩ : ∃ i, j = i + 1 := ⟨j - 1, by omega⟩
          refine nm_r (pk_m1 i) ?_
          exact ih i (by omega) (by omega) (by omega)
  exact ⟨25, key 25 24 (by omega) (by omega) (by omega)⟩
theorem gx_deg_cm {post : Int32 → Prop} (m : Nat) (hm : m < 25) (hz : ∀ k, m < k → k < 25 → cm k = 0) (h : m = 0 ∨ cm m ≠ 0) (K : post (nI m)) : wpX_degree__common post (c, sA, sB, hh, lA, lB, rA, rB, zA, zB, cm, rm, qt) := by
  have key : ∀ n j, j < m + n → m ≤ j → j < 25 → wX_degree__common_3 post c sA sB hh lA lB rA rB zA zB cm rm qt n (nI j) := by
    intro n
    induction n with
    | zero => intro j h1 h2; omega
    | succ n ih =>
      intro j h1 h2 h3
      by_cases d : j = 0
      · subst d
        have m0 : m = 0 := by omega
        subst m0
        exact br_t (by decide) K
      · refine br_f (nI_nle (by omega) (by omega)) ⟨vp_in_nI h3 (by decide), ?_⟩
        rw [nI_clamp (by omega)]
        by_cases e : j = m
        · subst e
          cases h with
          | inl h => exact absurd h d
          | inr h => exact br_f h K
        · refine br_t (hz j (by omega) h3) ?_
          obtain ⟨i, rfl⟩ : ∃ i, j = i + 1 := ⟨j - 1, by omega⟩
          refine nm_r (pk_m1 i) ?_
          exact ih i (by omega) (by omega) (by omega)
  exact ⟨25, key 25 24 (by omega) (by omega) (by omega)⟩
theorem gx_deg_zB {post : Int32 → Prop} (m : Nat) (hm : m < 25) (hz : ∀ k, m < k → k < 25 → zB k = 0) (h : m = 0 ∨ zB m ≠ 0) (K : post (nI m)) : wpX_degree__resultBelow post (c, sA, sB, hh, lA, lB, rA, rB, zA, zB, cm, rm, qt) := by
  have key : ∀ n j, j < m + n → m ≤ j → j < 25 → wX_degree__resultBelow_3 post c sA sB hh lA lB rA rB zA zB cm rm qt n (nI j) := by
    intro n
    induction n with
    | zero => intro j h1 h2; omega
    | succ n ih =>
      intro j h1 h2 h3
      by_cases d : j = 0
      · subst d
        have m0 : m = 0 := by omega
        subst m0
        exact br_t (by decide) K
      · refine br_f (nI_nle (by omega) (by omega)) ⟨vp_in_nI h3 (by decide), ?_⟩
        rw [nI_clamp (by omega)]
        by_cases e : j = m
        · subst e
          cases h with
          | inl h => exact absurd h d
          | inr h => exact br_f h K
        · refine br_t (hz j (by omega) h3) ?_
          obtain ⟨i, rfl⟩ : ∃ i, j = i + 1 := ⟨j - 1, by omega⟩
          refine nm_r (pk_m1 i) ?_
          exact ih i (by omega) (by omega) (by omega)
  exact ⟨25, key 25 24 (by omega) (by omega) (by omega)⟩
theorem gx_deg_rA {post : Int32 → Prop} (m : Nat) (hm : m < 25) (hz : ∀ k, m < k → k < 25 → rA k = 0) (h : m = 0 ∨ rA m ≠ 0) (K : post (nI m)) : wpX_degree__rightAbove post (c, sA, sB, hh, lA, lB, rA, rB, zA, zB, cm, rm, qt) := by
  have key : ∀ n j, j < m + n → m ≤ j → j < 25 → wX_degree__rightAbove_3 post c sA sB hh lA lB rA rB zA zB cm rm qt n (nI j) := by
    intro n
    induction n with
    | zero => intro j h1 h2; omega
    | succ n ih =>
      intro j h1 h2 h3
      by_cases d : j = 0
      · subst d
        have m0 : m = 0 := by omega
        subst m0
        exact br_t (by decide) K
      · refine br_f (nI_nle (by omega) (by omega)) ⟨vp_in_nI h3 (by decide), ?_⟩
        rw [nI_clamp (by omega)]
        by_cases e : j = m
        · subst e
          cases h with
          | inl h => exact absurd h d
          | inr h => exact br_f h K
        · refine br_t (hz j (by omega) h3) ?_
          obtain ⟨i, rfl⟩ : ∃ i, j = i + 1 := ⟨j - 1, by omega⟩
          refine nm_r (pk_m1 i) ?_
          exact ih i (by omega) (by omega) (by omega)
  exact ⟨25, key 25 24 (by omega) (by omega) (by omega)⟩
theorem gx_zero_rm {post : Int32 → Prop} {f : Nat → Fin 101} (hf : fz_ar rm f) (lf : fz_l f 25) (K1 : f = fz_o 0 0 → post 1) (K0 : f ≠ fz_o 0 0 → post 0) : wpX_isZero__remainder post (c, sA, sB, hh, lA, lB, rA, rB, zA, zB, cm, rm, qt) := by
  by_cases z : f = fz_o 0 0
  · refine gx_deg_rm (post := _) 0 (by omega) (fun k h1 h2 => by rw [hf k h2, z, fz_o00]; rfl) (Or.inl rfl) ?_
    exact br_t rfl (br_t (by rw [hf 0 (by omega), z, fz_o00]; rfl) (K1 z))
  · obtain ⟨m, hm, he⟩ := fz_e_ex 25 lf z
    refine gx_deg_rm (post := _) m hm (fun k h1 h2 => by rw [hf k h2, he.2 k h1]; rfl) (Or.inr (by rw [hf m hm]; exact fun y => he.1 (fz_c_z.mp y))) ?_
    by_cases d : m = 0
    · subst d
      exact br_t rfl (br_f (by rw [hf 0 hm]; exact fun y => he.1 (fz_c_z.mp y)) (K0 z))
    · exact br_f (nI_ne0 (by omega) (by omega)) (K0 z)
theorem gx_zero_zA {post : Int32 → Prop} {f : Nat → Fin 101} (hf : fz_ar zA f) (lf : fz_l f 25) (K1 : f = fz_o 0 0 → post 1) (K0 : f ≠ fz_o 0 0 → post 0) : wpX_isZero__resultAbove post (c, sA, sB, hh, lA, lB, rA, rB, zA, zB, cm, rm, qt) := by
  by_cases z : f = fz_o 0 0
  · refine gx_deg_zA (post := _) 0 (by omega) (fun k h1 h2 => by rw [hf k h2, z, fz_o00]; rfl) (Or.inl rfl) ?_
    exact br_t rfl (br_t (by rw [hf 0 (by omega), z, fz_o00]; rfl) (K1 z))
  · obtain ⟨m, hm, he⟩ := fz_e_ex 25 lf z
    refine gx_deg_zA (post := _) m hm (fun k h1 h2 => by rw [hf k h2, he.2 k h1]; rfl) (Or.inr (by rw [hf m hm]; exact fun y => he.1 (fz_c_z.mp y))) ?_
    by_cases d : m = 0
    · subst d
      exact br_t rfl (br_f (by rw [hf 0 hm]; exact fun y => he.1 (fz_c_z.mp y)) (K0 z))
    · exact br_f (nI_ne0 (by omega) (by omega)) (K0 z)
theorem gx_zero_rA {post : Int32 → Prop} {f : Nat → Fin 101} (hf : fz_ar rA f) (lf : fz_l f 25) (K1 : f = fz_o 0 0 → post 1) (K0 : f ≠ fz_o 0 0 → post 0) : wpX_isZero__rightAbove post (c, sA, sB, hh, lA, lB, rA, rB, zA, zB, cm, rm, qt) := by
  by_cases z : f = fz_o 0 0
  · refine gx_deg_rA (post := _) 0 (by omega) (fun k h1 h2 => by rw [hf k h2, z, fz_o00]; rfl) (Or.inl rfl) ?_
    exact br_t rfl (br_t (by rw [hf 0 (by omega), z, fz_o00]; rfl) (K1 z))
  · obtain ⟨m, hm, he⟩ := fz_e_ex 25 lf z
    refine gx_deg_rA (post := _) m hm (fun k h1 h2 => by rw [hf k h2, he.2 k h1]; rfl) (Or.inr (by rw [hf m hm]; exact fun y => he.1 (fz_c_z.mp y))) ?_
    by_cases d : m = 0
    · subst d
      exact br_t rfl (br_f (by rw [hf 0 hm]; exact fun y => he.1 (fz_c_z.mp y)) (K0 z))
    · exact br_f (nI_ne0 (by omega) (by omega)) (K0 z)
theorem gx_dege_rm {post : Int32 → Prop} {f : Nat → Fin 101} {m : Nat} (hf : fz_ar rm f) (hm : m < 25) (he : fz_e f m) (K : post (nI m)) : wpX_degree__remainder post (c, sA, sB, hh, lA, lB, rA, rB, zA, zB, cm, rm, qt) :=
  gx_deg_rm m hm (fun k h1 h2 => by rw [hf k h2, he.2 k h1]; rfl) (Or.inr (by rw [hf m hm]; exact fun y => he.1 (fz_c_z.mp y))) K
theorem gx_dege_zA {post : Int32 → Prop} {f : Nat → Fin 101} {m : Nat} (hf : fz_ar zA f) (hm : m < 25) (he : fz_e f m) (K : post (nI m)) : wpX_degree__resultAbove post (c, sA, sB, hh, lA, lB, rA, rB, zA, zB, cm, rm, qt) :=
  gx_deg_zA m hm (fun k h1 h2 => by rw [hf k h2, he.2 k h1]; rfl) (Or.inr (by rw [hf m hm]; exact fun y => he.1 (fz_c_z.mp y))) K
theorem gx_dege_cm {post : Int32 → Prop} {f : Nat → Fin 101} {m : Nat} (hf : fz_ar cm f) (hm : m < 25) (he : fz_e f m) (K : post (nI m)) : wpX_degree__common post (c, sA, sB, hh, lA, lB, rA, rB, zA, zB, cm, rm, qt) :=
  gx_deg_cm m hm (fun k h1 h2 => by rw [hf k h2, he.2 k h1]; rfl) (Or.inr (by rw [hf m hm]; exact fun y => he.1 (fz_c_z.mp y))) K
theorem gx_dege_zB {post : Int32 → Prop} {f : Nat → Fin 101} {m : Nat} (hf : fz_ar zB f) (hm : m < 25) (he : fz_e f m) (K : post (nI m)) : wpX_degree__resultBelow post (c, sA, sB, hh, lA, lB, rA, rB, zA, zB, cm, rm, qt) :=
  gx_deg_zB m hm (fun k h1 h2 => by rw [hf k h2, he.2 k h1]; rfl) (Or.inr (by rw [hf m hm]; exact fun y => he.1 (fz_c_z.mp y))) K
theorem gx_dege_rA {post : Int32 → Prop} {f : Nat → Fin 101} {m : Nat} (hf : fz_ar rA f) (hm : m < 25) (he : fz_e f m) (K : post (nI m)) : wpX_degree__rightAbove post (c, sA, sB, hh, lA, lB, rA, rB, zA, zB, cm, rm, qt) :=
  gx_deg_rA m hm (fun k h1 h2 => by rw [hf k h2, he.2 k h1]; rfl) (Or.inr (by rw [hf m hm]; exact fun y => he.1 (fz_c_z.mp y))) K
theorem gx_inv {post : Int32 → Prop} (a : Fin 101) (h : a ≠ 0) (K : post (fz_c (fz_i a))) : wpX_inverse post (fz_c a) := by
  have key : ∀ n j, (fz_i a).val < j + n → j ≤ (fz_i a).val → wX_inverse_2 post (fz_c a) n (nI j) := by
    intro n
    induction n with
    | zero => intro j h1 h2; omega
    | succ n ih =>
      intro j h1 h2
      have hi := (fz_i a).isLt
      refine br_f (nI_ge (b := 101) (by omega) (by decide)) ⟨fz_nz101, ?_⟩
      have e : nI j = fz_c (Fin.ofNat 101 j) := by
        show nI j = nI (j % 101)
        rw [Nat.mod_eq_of_lt (by omega)]
      rw [e, fz_rem_m]
      by_cases d : j = (fz_i a).val
      · rw [d, fz_of_val]
        refine br_t ?_ K
        rw [fz_i_m a h]
        rfl
      · refine br_f ?_ ?_
        · rw [← fz_c_1, fz_c_inj]
          intro y
          have y2 := congrArg Fin.val (fz_i_u y)
          rw [show (Fin.ofNat 101 j).val = j from Nat.mod_eq_of_lt (by omega)] at y2
          exact d y2
        · rw [← e]
          refine nm_r (nI_1 j) ?_
          exact ih (j + 1) (by omega) (by omega)
  refine ⟨101, ?_⟩
  have h0 : (fz_i a).val ≠ 0 := fun z => fz_i_nz h (Fin.ext z)
  have hi := (fz_i a).isLt
  exact key 101 1 (by omega) (by omega)
theorem gx_scale_zA {post : SX → Prop} {f : Nat → Fin 101} (u : Fin 101) (hf : fz_ar zA f) (K : ∀ t, fz_ar t (fz_m (fz_o 0 u) f) → post (c, sA, sB, hh, lA, lB, rA, rB, t, zB, cm, rm, qt)) : wpX_multiplyByNumber__resultAbove post (c, sA, sB, hh, lA, lB, rA, rB, zA, zB, cm, rm, qt) (fz_c u) := by
  refine pk_loop (fun n i s => wX_multiplyByNumber__resultAbove_2 post (fz_c u) c n (nI i) sA sB hh lA lB rA rB s zB cm rm qt) (fun i s => (∀ k, k < i → s k = fz_c (fz_m (fz_o 0 u) f k)) ∧ ∀ k, i ≤ k → k < 25 → s k = fz_c (f k)) 25 0 zA (by omega) ⟨fun k h => by omega, fun k _ h => hf k h⟩ ?_ ?_
  · intro n s h
    exact br_t (by decide) (K _ h.1)
  · intro n i s hi h ih
    refine br_f (nI_ge (b := 25) hi (by decide)) ⟨vp_in_nI hi (by decide), fz_nz101, vp_in_nI hi (by decide), ?_⟩
    refine nm_r (e' := upd s i (fz_c (fz_m (fz_o 0 u) f i))) (by rw [nI_clamp (by omega), h.2 i (by omega) hi, fz_rem_m, fz_m_const]; congr 2; grind) ?_
    refine nm_r (nI_1 i) ?_
    exact ih _ ⟨fz_up h.1 rfl, fun k h1 h2 => by rw [pk_un (by omega)]; exact h.2 k (by omega) h2⟩
theorem gx_scale_zB {post : SX → Prop} {f : Nat → Fin 101} (u : Fin 101) (hf : fz_ar zB f) (K : ∀ t, fz_ar t (fz_m (fz_o 0 u) f) → post (c, sA, sB, hh, lA, lB, rA, rB, zA, t, cm, rm, qt)) : wpX_multiplyByNumber__resultBelow post (c, sA, sB, hh, lA, lB, rA, rB, zA, zB, cm, rm, qt) (fz_c u) := by
  refine pk_loop (fun n i s => wX_multiplyByNumber__resultBelow_2 post (fz_c u) c n (nI i) sA sB hh lA lB rA rB zA s cm rm qt) (fun i s => (∀ k, k < i → s k = fz_c (fz_m (fz_o 0 u) f k)) ∧ ∀ k, i ≤ k → k < 25 → s k = fz_c (f k)) 25 0 zB (by omega) ⟨fun k h => by omega, fun k _ h => hf k h⟩ ?_ ?_
  · intro n s h
    exact br_t (by decide) (K _ h.1)
  · intro n i s hi h ih
    refine br_f (nI_ge (b := 25) hi (by decide)) ⟨vp_in_nI hi (by decide), fz_nz101, vp_in_nI hi (by decide), ?_⟩
    refine nm_r (e' := upd s i (fz_c (fz_m (fz_o 0 u) f i))) (by rw [nI_clamp (by omega), h.2 i (by omega) hi, fz_rem_m, fz_m_const]; congr 2; grind) ?_
    refine nm_r (nI_1 i) ?_
    exact ih _ ⟨fz_up h.1 rfl, fun k h1 h2 => by rw [pk_un (by omega)]; exact h.2 k (by omega) h2⟩
theorem gx_dv_lA {post : SX → Prop} {f : Nat → Fin 101} (hf : fz_ar lA f) (lf : fz_l f 25) (K : ∀ t, fz_ar t (fz_dv f) → post (c, sA, sB, hh, lA, lB, t, rB, zA, zB, cm, rm, qt)) : wpX_derivePolynomial__leftAbove_rightAbove post (c, sA, sB, hh, lA, lB, rA, rB, zA, zB, cm, rm, qt) := by
  refine pk_loop (fun n i s => wX_derivePolynomial__leftAbove_rightAbove_2 post c n (nI i) sA sB hh lA lB s rB zA zB cm rm qt) (fun i s => 1 ≤ i ∧ ∀ k, k + 1 < i → s k = fz_c (fz_dv f k)) 25 1 rA (by omega) ⟨by omega, fun k h => by omega⟩ ?_ ?_
  · intro n s h
    refine br_t (by decide) ?_
    refine nm_e ?_
    refine K _ (fun k hk => ?_)
    by_cases d : k = 24
    · subst d
      rw [pk_us, fz_dv_l (n := 24) lf 24 (by omega)]
      rfl
    · rw [pk_un d]
      exact h.2 k (by omega)
  · intro n i s hi h ih
    obtain ⟨j, rfl⟩ : ∃ j, i = j + 1 := ⟨i - 1, by omega⟩
    refine br_f (nI_ge (b := 25) hi (by decide)) ⟨vp_in_nI hi (by decide), fz_nz101, ?_⟩
    rw [nI_pred j]
    refine ⟨vp_in_nI (by omega) (by decide), ?_⟩
    refine nm_r (e' := upd s j (fz_c (fz_dv f j))) (by rw [nI_clamp (by omega), nI_clamp (by omega), hf (j + 1) hi, fz_rem_k (by omega)]; rfl) ?_
    refine nm_r (nI_1 (j + 1)) ?_
    refine ih _ ⟨by omega, fun k hk => ?_⟩
    by_cases d : k = j
    · subst d
      rw [pk_us]
    · rw [pk_un d]
      exact h.2 k (by omega)
theorem gx_dv_lB {post : SX → Prop} {f : Nat → Fin 101} (hf : fz_ar lB f) (lf : fz_l f 25) (K : ∀ t, fz_ar t (fz_dv f) → post (c, sA, sB, hh, lA, lB, rA, t, zA, zB, cm, rm, qt)) : wpX_derivePolynomial__leftBelow_rightBelow post (c, sA, sB, hh, lA, lB, rA, rB, zA, zB, cm, rm, qt) := by
  refine pk_loop (fun n i s => wX_derivePolynomial__leftBelow_rightBelow_2 post c n (nI i) sA sB hh lA lB rA s zA zB cm rm qt) (fun i s => 1 ≤ i ∧ ∀ k, k + 1 < i → s k = fz_c (fz_dv f k)) 25 1 rB (by omega) ⟨by omega, fun k h => by omega⟩ ?_ ?_
  · intro n s h
    refine br_t (by decide) ?_
    refine nm_e ?_
    refine K _ (fun k hk => ?_)
    by_cases d : k = 24
    · subst d
      rw [pk_us, fz_dv_l (n := 24) lf 24 (by omega)]
      rfl
    · rw [pk_un d]
      exact h.2 k (by omega)
  · intro n i s hi h ih
    obtain ⟨j, rfl⟩ : ∃ j, i = j + 1 := ⟨i - 1, by omega⟩
    refine br_f (nI_ge (b := 25) hi (by decide)) ⟨vp_in_nI hi (by decide), fz_nz101, ?_⟩
    rw [nI_pred j]
    refine ⟨vp_in_nI (by omega) (by decide), ?_⟩
    refine nm_r (e' := upd s j (fz_c (fz_dv f j))) (by rw [nI_clamp (by omega), nI_clamp (by omega), hf (j + 1) hi, fz_rem_k (by omega)]; rfl) ?_
    refine nm_r (nI_1 (j + 1)) ?_
    refine ih _ ⟨by omega, fun k hk => ?_⟩
    by_cases d : k = j
    · subst d
      rw [pk_us]
    · rw [pk_un d]
      exact h.2 k (by omega)
theorem gx_at_zB {post : Int32 → Prop} {f : Nat → Fin 101} (a : Fin 101) (hf : fz_ar zB f) (K : post (fz_c (fz_h 25 f a))) : wpX_polynomialAt__resultBelow post (c, sA, sB, hh, lA, lB, rA, rB, zA, zB, cm, rm, qt) (fz_c a) := by
  have key := pk_loopD (fun n j (s : Int32) => wX_polynomialAt__resultBelow_5 post (fz_c a) c sA sB hh lA lB rA rB zA zB cm rm qt n s (fz_d1 j)) (fun j s => j ≤ 25 ∧ s = fz_c (fz_h (25 - j) (fun i => f (i + j)) a)) (fun n s h => by
    refine br_t (by decide) ?_
    rw [h.2]
    exact K) (fun n j s h ih => by
    refine br_f (nI_pos (by omega)) ⟨vp_in_nI (by omega) (by decide), fz_nz101, ?_⟩
    refine nm_r (e' := fz_c (fz_h (25 - j) (fun i => f (i + j)) a)) ?_ ?_
    · rw [show fz_d1 (j + 1) = nI j from rfl, nI_clamp (by omega), h.2, hf j (by omega), fz_rem_h]
      congr 1
      rw [show 25 - j = 25 - (j + 1) + 1 by omega]
      show _ = f (0 + j) + a * fz_h (25 - (j + 1)) (fun i => f (i + 1 + j)) a
      rw [Nat.zero_add, show (fun i => f (i + 1 + j)) = (fun i => f (i + (j + 1))) from funext (fun i => by congr 1; omega)]
      grind
    · refine nm_r (fz_d1_s j) ?_
      exact ih _ ⟨by omega, rfl⟩)
  exact ⟨26, key 25 0 ⟨by omega, rfl⟩⟩
theorem gx_at_zA {post : Int32 → Prop} {f : Nat → Fin 101} (a : Fin 101) (hf : fz_ar zA f) (K : post (fz_c (fz_h 25 f a))) : wpX_polynomialAt__resultAbove post (c, sA, sB, hh, lA, lB, rA, rB, zA, zB, cm, rm, qt) (fz_c a) := by
  have key := pk_loopD (fun n j (s : Int32) => wX_polynomialAt__resultAbove_5 post (fz_c a) c sA sB hh lA lB rA rB zA zB cm rm qt n s (fz_d1 j)) (fun j s => j ≤ 25 ∧ s = fz_c (fz_h (25 - j) (fun i => f (i + j)) a)) (fun n s h => by
    refine br_t (by decide) ?_
    rw [h.2]
    exact K) (fun n j s h ih => by
    refine br_f (nI_pos (by omega)) ⟨vp_in_nI (by omega) (by decide), fz_nz101, ?_⟩
    refine nm_r (e' := fz_c (fz_h (25 - j) (fun i => f (i + j)) a)) ?_ ?_
    · rw [show fz_d1 (j + 1) = nI j from rfl, nI_clamp (by omega), h.2, hf j (by omega), fz_rem_h]
      congr 1
      rw [show 25 - j = 25 - (j + 1) + 1 by omega]
      show _ = f (0 + j) + a * fz_h (25 - (j + 1)) (fun i => f (i + 1 + j)) a
      rw [Nat.zero_add, show (fun i => f (i + 1 + j)) = (fun i => f (i + (j + 1))) from funext (fun i => by congr 1; omega)]
      grind
    · refine nm_r (fz_d1_s j) ?_
      exact ih _ ⟨by omega, rfl⟩)
  exact ⟨26, key 25 0 ⟨by omega, rfl⟩⟩
theorem gx_exch {post : SX → Prop} {f g : Nat → Fin 101} (hf : fz_ar cm f) (hg : fz_ar rm g) (K : ∀ t t', fz_ar t g → fz_ar t' f → post (c, sA, sB, hh, lA, lB, rA, rB, zA, zB, t, t', qt)) : wpX_exchange__common_remainder post (c, sA, sB, hh, lA, lB, rA, rB, zA, zB, cm, rm, qt) := by
  refine pk_loop (fun n i (s : (Nat → Int32) × (Nat → Int32)) => wX_exchange__common_remainder_2 post c n (nI i) sA sB hh lA lB rA rB zA zB s.1 s.2 qt) (fun i s => (∀ k, k < i → s.1 k = fz_c (g k)) ∧ (∀ k, k < i → s.2 k = fz_c (f k)) ∧ (∀ k, i ≤ k → k < 25 → s.1 k = fz_c (f k)) ∧ (∀ k, i ≤ k → k < 25 → s.2 k = fz_c (g k))) 25 0 (cm, rm) (by omega) ⟨fun k h => by omega, fun k h => by omega, fun k _ h => hf k h, fun k _ h => hg k h⟩ ?_ ?_
  · intro n s h
    exact br_t (by decide) (K _ _ h.1 h.2.1)
  · intro n i s hi h ih
    have v := vp_in_nI (n := i) (N := 25) hi (by decide)
    refine br_f (nI_ge (b := 25) hi (by decide)) ⟨v, ?_⟩
    refine nm_r (e' := fz_c (f i)) (by rw [nI_clamp (by omega)]; exact h.2.2.1 i (by omega) hi) ?_
    refine ⟨v, v, ?_⟩
    refine nm_r (e' := upd s.1 i (fz_c (g i))) (by rw [nI_clamp (by omega)]; rw [h.2.2.2 i (by omega) hi]) ?_
    refine ⟨v, ?_⟩
    refine nm_r (e' := upd s.2 i (fz_c (f i))) (by rw [nI_clamp (by omega)]) ?_
    refine nm_r (nI_1 i) ?_
    exact ih (upd s.1 i (fz_c (g i)), upd s.2 i (fz_c (f i))) ⟨fz_up h.1 rfl, fz_up h.2.1 rfl, fun k h1 h2 => (pk_un (by omega)).trans (h.2.2.1 k (by omega) h2), fun k h1 h2 => (pk_un (by omega)).trans (h.2.2.2 k (by omega) h2)⟩
end
end
section
/-! addProduct and divide, a lemma for each print (written by wip/whole/gen_x2.py) -/
theorem fz_ar_up {s : Nat → Int32} {F F' : Nat → Fin 101} {m : Nat} {v : Int32} (h : fz_ar s F) (hv : v = fz_c (F' m)) (e : ∀ k, k ≠ m → F' k = F k) : fz_ar (upd s m v) F' := fun k hk => by
  by_cases d : k = m
  · subst d
    rw [pk_us, hv]
  · rw [pk_un d, e k d]
    exact h k hk
def fz_api (f g : Nat → Fin 101) (i : Nat) (sc : Fin 101) (j : Nat) : Nat → Fin 101 := fun k => if i ≤ k ∧ k < i + j then f k + sc * g (k - i) else f k
theorem fz_api_0 (f g : Nat → Fin 101) (i : Nat) (sc : Fin 101) : fz_api f g i sc 0 = f := funext (fun k => if_neg (by omega))
theorem fz_api_at (f g : Nat → Fin 101) (i : Nat) (sc : Fin 101) (j : Nat) : fz_api f g i sc j (i + j) = f (i + j) := if_neg (by omega)
theorem fz_api_s (f g : Nat → Fin 101) (i : Nat) (sc : Fin 101) (j : Nat) : fz_api f g i sc (j + 1) (i + j) = f (i + j) + sc * g j := by
  show (if i ≤ i + j ∧ i + j < i + (j + 1) then f (i + j) + sc * g (i + j - i) else f (i + j)) = _
  rw [if_pos (by omega), Nat.add_sub_cancel_left]
theorem fz_api_o (f g : Nat → Fin 101) (i : Nat) (sc : Fin 101) (j : Nat) : ∀ k, k ≠ i + j → fz_api f g i sc (j + 1) k = fz_api f g i sc j k := fun k hk => by
  show (if i ≤ k ∧ k < i + (j + 1) then f k + sc * g (k - i) else f k) = (if i ≤ k ∧ k < i + j then f k + sc * g (k - i) else f k)
  by_cases d : i ≤ k ∧ k < i + j
  · rw [if_pos d, if_pos (by omega)]
  · rw [if_neg d, if_neg (by omega)]
theorem fz_api_e {s : Nat → Int32} {f g : Nat → Fin 101} {i e : Nat} {sc : Fin 101} (h : fz_ar s (fz_api f g i sc e)) (hg : fz_l g e ∨ 25 ≤ i + e) : fz_ar s (fz_a f (fz_m (fz_o i sc) g)) := fun k hk => by
  rw [h k hk]
  congr 1
  show (if i ≤ k ∧ k < i + e then f k + sc * g (k - i) else f k) = f k + fz_m (fz_o i sc) g k
  rw [fz_m_mono]
  by_cases d : i ≤ k ∧ k < i + e
  · rw [if_pos d, if_pos d.1]
  · rw [if_neg d]
    by_cases c : i ≤ k
    · rw [if_pos c]
      cases hg with
      | inl hg =>
        rw [hg (k - i) (by omega)]
        grind
      | inr hg => exact absurd ⟨c, by omega⟩ d
    · rw [if_neg c]
      grind
theorem fz_r_neg {R : Type} [Lean.Grind.CommRing R] (r m g : R) : r + (-m) * g = r - m * g := by grind
theorem fz_a_neg (r g : Nat → Fin 101) (i : Nat) (sc : Fin 101) : fz_a r (fz_m (fz_o i (-sc)) g) = fz_d r (fz_m (fz_o i sc) g) := by
  rw [← fz_n_o]
  exact @fz_r_neg _ fz_ring r (fz_o i sc) g
section
variable {c : Int32} {sA sB hh lA lB rA rB zA zB cm rm qt : Nat → Int32}
theorem gx_api_zA_lA_rB {post : SX → Prop} {J3 : Int32 → (Nat → Int32) → (Nat → Int32) → (Nat → Int32) → (Nat → Int32) → (Nat → Int32) → (Nat → Int32) → (Nat → Int32) → (Nat → Int32) → (Nat → Int32) → (Nat → Int32) → (Nat → Int32) → (Nat → Int32) → Prop} {x3 : Int32} {f g : Nat → Fin 101} (i : Nat) (hi : i < 25) (sc : Fin 101) (hf : fz_ar zA f) (hg : fz_ar rB g)
    (K : ∀ t, fz_ar t (fz_a f (fz_m (fz_o i sc) g)) → J3 (nI (i + 1)) sA sB hh lA lB rA rB t zB cm rm qt) : ∃ n, wX_addProduct__resultAbove_leftAbove_rightBelow_24 post J3 x3 (nI i) (fz_c sc) c n 0 sA sB hh lA lB rA rB zA zB cm rm qt := by
  refine pk_loop (fun n j s => wX_addProduct__resultAbove_leftAbove_rightBelow_24 post J3 x3 (nI i) (fz_c sc) c n (nI j) sA sB hh lA lB rA rB s zB cm rm qt) (fun j s => fz_ar s (fz_api f g i sc j)) (25 - i) 0 zA (by omega) (by rw [fz_api_0]; exact hf) ?_ ?_
  · intro n s h
    refine br_t ?_ ?_
    · rw [nI_add, show i + (25 - i) = 25 by omega]
      decide
    · refine nm_r (nI_1 i) ?_
      exact K _ (fz_api_e h (Or.inr (by omega)))
  · intro n j s hj h ih
    refine br_f ?_ ?_
    · rw [nI_add]
      exact nI_ge (b := 25) (by omega) (by decide)
    · rw [nI_add]
      refine ⟨vp_in_nI (by omega) (by decide), vp_in_nI (by omega) (by decide), fz_nz101, vp_in_nI (by omega) (by decide), ?_⟩
      refine nm_r (e' := upd s (i + j) (fz_c (f (i + j) + sc * g j))) (by rw [nI_clamp (by omega), nI_clamp (by omega), h (i + j) (by omega), fz_api_at, hg j (by omega), fz_rem_ma]) ?_
      refine nm_r (nI_1 j) ?_
      exact ih _ (fz_ar_up h (by rw [fz_api_s]) (fz_api_o f g i sc j))
theorem gx_ap_zA_lA_rB {post : SX → Prop} {f p q : Nat → Fin 101} (u : Fin 101) (hf : fz_ar zA f) (hp : fz_ar lA p) (hq : fz_ar rB q) (lp : fz_l p 25)
    (K : ∀ t, fz_ar t (fz_a f (fz_m (fz_m (fz_o 0 u) p) q)) → post (c, sA, sB, hh, lA, lB, rA, rB, t, zB, cm, rm, qt)) : wpX_addProduct__resultAbove_leftAbove_rightBelow post (c, sA, sB, hh, lA, lB, rA, rB, zA, zB, cm, rm, qt) (fz_c u) := by
  refine pk_loop (fun n i s => wX_addProduct__resultAbove_leftAbove_rightBelow_3 post (fz_c u) c n (nI i) sA sB hh lA lB rA rB s zB cm rm qt) (fun i s => fz_ar s (fz_a f (fz_m (fz_tr i (fz_m (fz_o 0 u) p)) q))) 25 0 zA (by omega) (by rw [fz_tr_add0]; exact hf) ?_ ?_
  · intro n s h
    rw [fz_tr_e (fz_cl lp)] at h
    exact br_t (by decide) (K _ h)
  · intro n i s hi h ih
    refine br_f (nI_ge (b := 25) hi (by decide)) ⟨vp_in_nI hi (by decide), fz_nz101, ?_⟩
    refine nm_r (e' := fz_c (fz_m (fz_o 0 u) p i)) (by rw [nI_clamp (by omega), hp i hi, fz_rem_m, fz_m_const]; congr 1; grind) ?_
    refine gx_api_zA_lA_rB i hi _ h hq (fun t ht => ?_)
    rw [← fz_tr_add] at ht
    exact ih t ht
theorem gx_api_zA_lB_rA {post : SX → Prop} {J3 : Int32 → (Nat → Int32) → (Nat → Int32) → (Nat → Int32) → (Nat → Int32) → (Nat → Int32) → (Nat → Int32) → (Nat → Int32) → (Nat → Int32) → (Nat → Int32) → (Nat → Int32) → (Nat → Int32) → (Nat → Int32) → Prop} {x3 : Int32} {f g : Nat → Fin 101} (i : Nat) (hi : i < 25) (sc : Fin 101) (hf : fz_ar zA f) (hg : fz_ar rA g)
    (K : ∀ t, fz_ar t (fz_a f (fz_m (fz_o i sc) g)) → J3 (nI (i + 1)) sA sB hh lA lB rA rB t zB cm rm qt) : ∃ n, wX_addProduct__resultAbove_leftBelow_rightAbove_24 post J3 x3 (nI i) (fz_c sc) c n 0 sA sB hh lA lB rA rB zA zB cm rm qt := by
  refine pk_loop (fun n j s => wX_addProduct__resultAbove_leftBelow_rightAbove_24 post J3 x3 (nI i) (fz_c sc) c n (nI j) sA sB hh lA lB rA rB s zB cm rm qt) (fun j s => fz_ar s (fz_api f g i sc j)) (25 - i) 0 zA (by omega) (by rw [fz_api_0]; exact hf) ?_ ?_
  · intro n s h
    refine br_t ?_ ?_
    · rw [nI_add, show i + (25 - i) = 25 by omega]
      decide
    · refine nm_r (nI_1 i) ?_
      exact K _ (fz_api_e h (Or.inr (by omega)))
  · intro n j s hj h ih
    refine br_f ?_ ?_
    · rw [nI_add]
      exact nI_ge (b := 25) (by omega) (by decide)
    · rw [nI_add]
      refine ⟨vp_in_nI (by omega) (by decide), vp_in_nI (by omega) (by decide), fz_nz101, vp_in_nI (by omega) (by decide), ?_⟩
      refine nm_r (e' := upd s (i + j) (fz_c (f (i + j) + sc * g j))) (by rw [nI_clamp (by omega), nI_clamp (by omega), h (i + j) (by omega), fz_api_at, hg j (by omega), fz_rem_ma]) ?_
      refine nm_r (nI_1 j) ?_
      exact ih _ (fz_ar_up h (by rw [fz_api_s]) (fz_api_o f g i sc j))
theorem gx_ap_zA_lB_rA {post : SX → Prop} {f p q : Nat → Fin 101} (u : Fin 101) (hf : fz_ar zA f) (hp : fz_ar lB p) (hq : fz_ar rA q) (lp : fz_l p 25)
    (K : ∀ t, fz_ar t (fz_a f (fz_m (fz_m (fz_o 0 u) p) q)) → post (c, sA, sB, hh, lA, lB, rA, rB, t, zB, cm, rm, qt)) : wpX_addProduct__resultAbove_leftBelow_rightAbove post (c, sA, sB, hh, lA, lB, rA, rB, zA, zB, cm, rm, qt) (fz_c u) := by
  refine pk_loop (fun n i s => wX_addProduct__resultAbove_leftBelow_rightAbove_3 post (fz_c u) c n (nI i) sA sB hh lA lB rA rB s zB cm rm qt) (fun i s => fz_ar s (fz_a f (fz_m (fz_tr i (fz_m (fz_o 0 u) p)) q))) 25 0 zA (by omega) (by rw [fz_tr_add0]; exact hf) ?_ ?_
  · intro n s h
    rw [fz_tr_e (fz_cl lp)] at h
    exact br_t (by decide) (K _ h)
  · intro n i s hi h ih
    refine br_f (nI_ge (b := 25) hi (by decide)) ⟨vp_in_nI hi (by decide), fz_nz101, ?_⟩
    refine nm_r (e' := fz_c (fz_m (fz_o 0 u) p i)) (by rw [nI_clamp (by omega), hp i hi, fz_rem_m, fz_m_const]; congr 1; grind) ?_
    refine gx_api_zA_lB_rA i hi _ h hq (fun t ht => ?_)
    rw [← fz_tr_add] at ht
    exact ih t ht
theorem gx_api_zB_lB_rB {post : SX → Prop} {J3 : Int32 → (Nat → Int32) → (Nat → Int32) → (Nat → Int32) → (Nat → Int32) → (Nat → Int32) → (Nat → Int32) → (Nat → Int32) → (Nat → Int32) → (Nat → Int32) → (Nat → Int32) → (Nat → Int32) → (Nat → Int32) → Prop} {x3 : Int32} {f g : Nat → Fin 101} (i : Nat) (hi : i < 25) (sc : Fin 101) (hf : fz_ar zB f) (hg : fz_ar rB g)
    (K : ∀ t, fz_ar t (fz_a f (fz_m (fz_o i sc) g)) → J3 (nI (i + 1)) sA sB hh lA lB rA rB zA t cm rm qt) : ∃ n, wX_addProduct__resultBelow_leftBelow_rightBelow_24 post J3 x3 (nI i) (fz_c sc) c n 0 sA sB hh lA lB rA rB zA zB cm rm qt := by
  refine pk_loop (fun n j s => wX_addProduct__resultBelow_leftBelow_rightBelow_24 post J3 x3 (nI i) (fz_c sc) c n (nI j) sA sB hh lA lB rA rB zA s cm rm qt) (fun j s => fz_ar s (fz_api f g i sc j)) (25 - i) 0 zB (by omega) (by rw [fz_api_0]; exact hf) ?_ ?_
  · intro n s h
    refine br_t ?_ ?_
    · rw [nI_add, show i + (25 - i) = 25 by omega]
      decide
    · refine nm_r (nI_1 i) ?_
      exact K _ (fz_api_e h (Or.inr (by omega)))
  · intro n j s hj h ih
    refine br_f ?_ ?_
    · rw [nI_add]
      exact nI_ge (b := 25) (by omega) (by decide)
    · rw [nI_add]
      refine ⟨vp_in_nI (by omega) (by decide), vp_in_nI (by omega) (by decide), fz_nz101, vp_in_nI (by omega) (by decide), ?_⟩
      refine nm_r (e' := upd s (i + j) (fz_c (f (i + j) + sc * g j))) (by rw [nI_clamp (by omega), nI_clamp (by omega), h (i + j) (by omega), fz_api_at, hg j (by omega), fz_rem_ma]) ?_
      refine nm_r (nI_1 j) ?_
      exact ih _ (fz_ar_up h (by rw [fz_api_s]) (fz_api_o f g i sc j))
theorem gx_ap_zB_lB_rB {post : SX → Prop} {f p q : Nat → Fin 101} (u : Fin 101) (hf : fz_ar zB f) (hp : fz_ar lB p) (hq : fz_ar rB q) (lp : fz_l p 25)
    (K : ∀ t, fz_ar t (fz_a f (fz_m (fz_m (fz_o 0 u) p) q)) → post (c, sA, sB, hh, lA, lB, rA, rB, zA, t, cm, rm, qt)) : wpX_addProduct__resultBelow_leftBelow_rightBelow post (c, sA, sB, hh, lA, lB, rA, rB, zA, zB, cm, rm, qt) (fz_c u) := by
  refine pk_loop (fun n i s => wX_addProduct__resultBelow_leftBelow_rightBelow_3 post (fz_c u) c n (nI i) sA sB hh lA lB rA rB zA s cm rm qt) (fun i s => fz_ar s (fz_a f (fz_m (fz_tr i (fz_m (fz_o 0 u) p)) q))) 25 0 zB (by omega) (by rw [fz_tr_add0]; exact hf) ?_ ?_
  · intro n s h
    rw [fz_tr_e (fz_cl lp)] at h
    exact br_t (by decide) (K _ h)
  · intro n i s hi h ih
    refine br_f (nI_ge (b := 25) hi (by decide)) ⟨vp_in_nI hi (by decide), fz_nz101, ?_⟩
    refine nm_r (e' := fz_c (fz_m (fz_o 0 u) p i)) (by rw [nI_clamp (by omega), hp i hi, fz_rem_m, fz_m_const]; congr 1; grind) ?_
    refine gx_api_zB_lB_rB i hi _ h hq (fun t ht => ?_)
    rw [← fz_tr_add] at ht
    exact ih t ht
theorem gx_api_zB_lB_rA {post : SX → Prop} {J3 : Int32 → (Nat → Int32) → (Nat → Int32) → (Nat → Int32) → (Nat → Int32) → (Nat → Int32) → (Nat → Int32) → (Nat → Int32) → (Nat → Int32) → (Nat → Int32) → (Nat → Int32) → (Nat → Int32) → (Nat → Int32) → Prop} {x3 : Int32} {f g : Nat → Fin 101} (i : Nat) (hi : i < 25) (sc : Fin 101) (hf : fz_ar zB f) (hg : fz_ar rA g)
    (K : ∀ t, fz_ar t (fz_a f (fz_m (fz_o i sc) g)) → J3 (nI (i + 1)) sA sB hh lA lB rA rB zA t cm rm qt) : ∃ n, wX_addProduct__resultBelow_leftBelow_rightAbove_24 post J3 x3 (nI i) (fz_c sc) c n 0 sA sB hh lA lB rA rB zA zB cm rm qt := by
  refine pk_loop (fun n j s => wX_addProduct__resultBelow_leftBelow_rightAbove_24 post J3 x3 (nI i) (fz_c sc) c n (nI j) sA sB hh lA lB rA rB zA s cm rm qt) (fun j s => fz_ar s (fz_api f g i sc j)) (25 - i) 0 zB (by omega) (by rw [fz_api_0]; exact hf) ?_ ?_
  · intro n s h
    refine br_t ?_ ?_
    · rw [nI_add, show i + (25 - i) = 25 by omega]
      decide
    · refine nm_r (nI_1 i) ?_
      exact K _ (fz_api_e h (Or.inr (by omega)))
  · intro n j s hj h ih
    refine br_f ?_ ?_
    · rw [nI_add]
      exact nI_ge (b := 25) (by omega) (by decide)
    · rw [nI_add]
      refine ⟨vp_in_nI (by omega) (by decide), vp_in_nI (by omega) (by decide), fz_nz101, vp_in_nI (by omega) (by decide), ?_⟩
      refine nm_r (e' := upd s (i + j) (fz_c (f (i + j) + sc * g j))) (by rw [nI_clamp (by omega), nI_clamp (by omega), h (i + j) (by omega), fz_api_at, hg j (by omega), fz_rem_ma]) ?_
      refine nm_r (nI_1 j) ?_
      exact ih _ (fz_ar_up h (by rw [fz_api_s]) (fz_api_o f g i sc j))
theorem gx_ap_zB_lB_rA {post : SX → Prop} {f p q : Nat → Fin 101} (u : Fin 101) (hf : fz_ar zB f) (hp : fz_ar lB p) (hq : fz_ar rA q) (lp : fz_l p 25)
    (K : ∀ t, fz_ar t (fz_a f (fz_m (fz_m (fz_o 0 u) p) q)) → post (c, sA, sB, hh, lA, lB, rA, rB, zA, t, cm, rm, qt)) : wpX_addProduct__resultBelow_leftBelow_rightAbove post (c, sA, sB, hh, lA, lB, rA, rB, zA, zB, cm, rm, qt) (fz_c u) := by
  refine pk_loop (fun n i s => wX_addProduct__resultBelow_leftBelow_rightAbove_3 post (fz_c u) c n (nI i) sA sB hh lA lB rA rB zA s cm rm qt) (fun i s => fz_ar s (fz_a f (fz_m (fz_tr i (fz_m (fz_o 0 u) p)) q))) 25 0 zB (by omega) (by rw [fz_tr_add0]; exact hf) ?_ ?_
  · intro n s h
    rw [fz_tr_e (fz_cl lp)] at h
    exact br_t (by decide) (K _ h)
  · intro n i s hi h ih
    refine br_f (nI_ge (b := 25) hi (by decide)) ⟨vp_in_nI hi (by decide), fz_nz101, ?_⟩
    refine nm_r (e' := fz_c (fz_m (fz_o 0 u) p i)) (by rw [nI_clamp (by omega), hp i hi, fz_rem_m, fz_m_const]; congr 1; grind) ?_
    refine gx_api_zB_lB_rA i hi _ h hq (fun t ht => ?_)
    rw [← fz_tr_add] at ht
    exact ih t ht
theorem gx_api_zA_lA_rA {post : SX → Prop} {J3 : Int32 → (Nat → Int32) → (Nat → Int32) → (Nat → Int32) → (Nat → Int32) → (Nat → Int32) → (Nat → Int32) → (Nat → Int32) → (Nat → Int32) → (Nat → Int32) → (Nat → Int32) → (Nat → Int32) → (Nat → Int32) → Prop} {x3 : Int32} {f g : Nat → Fin 101} (i : Nat) (hi : i < 25) (sc : Fin 101) (hf : fz_ar zA f) (hg : fz_ar rA g)
    (K : ∀ t, fz_ar t (fz_a f (fz_m (fz_o i sc) g)) → J3 (nI (i + 1)) sA sB hh lA lB rA rB t zB cm rm qt) : ∃ n, wX_addProduct__resultAbove_leftAbove_rightAbove_24 post J3 x3 (nI i) (fz_c sc) c n 0 sA sB hh lA lB rA rB zA zB cm rm qt := by
  refine pk_loop (fun n j s => wX_addProduct__resultAbove_leftAbove_rightAbove_24 post J3 x3 (nI i) (fz_c sc) c n (nI j) sA sB hh lA lB rA rB s zB cm rm qt) (fun j s => fz_ar s (fz_api f g i sc j)) (25 - i) 0 zA (by omega) (by rw [fz_api_0]; exact hf) ?_ ?_
  · intro n s h
    refine br_t ?_ ?_
    · rw [nI_add, show i + (25 - i) = 25 by omega]
      decide
    · refine nm_r (nI_1 i) ?_
      exact K _ (fz_api_e h (Or.inr (by omega)))
  · intro n j s hj h ih
    refine br_f ?_ ?_
    · rw [nI_add]
      exact nI_ge (b := 25) (by omega) (by decide)
    · rw [nI_add]
      refine ⟨vp_in_nI (by omega) (by decide), vp_in_nI (by omega) (by decide), fz_nz101, vp_in_nI (by omega) (by decide), ?_⟩
      refine nm_r (e' := upd s (i + j) (fz_c (f (i + j) + sc * g j))) (by rw [nI_clamp (by omega), nI_clamp (by omega), h (i + j) (by omega), fz_api_at, hg j (by omega), fz_rem_ma]) ?_
      refine nm_r (nI_1 j) ?_
      exact ih _ (fz_ar_up h (by rw [fz_api_s]) (fz_api_o f g i sc j))
theorem gx_ap_zA_lA_rA {post : SX → Prop} {f p q : Nat → Fin 101} (u : Fin 101) (hf : fz_ar zA f) (hp : fz_ar lA p) (hq : fz_ar rA q) (lp : fz_l p 25)
    (K : ∀ t, fz_ar t (fz_a f (fz_m (fz_m (fz_o 0 u) p) q)) → post (c, sA, sB, hh, lA, lB, rA, rB, t, zB, cm, rm, qt)) : wpX_addProduct__resultAbove_leftAbove_rightAbove post (c, sA, sB, hh, lA, lB, rA, rB, zA, zB, cm, rm, qt) (fz_c u) := by
  refine pk_loop (fun n i s => wX_addProduct__resultAbove_leftAbove_rightAbove_3 post (fz_c u) c n (nI i) sA sB hh lA lB rA rB s zB cm rm qt) (fun i s => fz_ar s (fz_a f (fz_m (fz_tr i (fz_m (fz_o 0 u) p)) q))) 25 0 zA (by omega) (by rw [fz_tr_add0]; exact hf) ?_ ?_
  · intro n s h
    rw [fz_tr_e (fz_cl lp)] at h
    exact br_t (by decide) (K _ h)
  · intro n i s hi h ih
    refine br_f (nI_ge (b := 25) hi (by decide)) ⟨vp_in_nI hi (by decide), fz_nz101, ?_⟩
    refine nm_r (e' := fz_c (fz_m (fz_o 0 u) p i)) (by rw [nI_clamp (by omega), hp i hi, fz_rem_m, fz_m_const]; congr 1; grind) ?_
    refine gx_api_zA_lA_rA i hi _ h hq (fun t ht => ?_)
    rw [← fz_tr_add] at ht
    exact ih t ht
theorem gx_api_zA_rA_lB {post : SX → Prop} {J3 : Int32 → (Nat → Int32) → (Nat → Int32) → (Nat → Int32) → (Nat → Int32) → (Nat → Int32) → (Nat → Int32) → (Nat → Int32) → (Nat → Int32) → (Nat → Int32) → (Nat → Int32) → (Nat → Int32) → (Nat → Int32) → Prop} {x3 : Int32} {f g : Nat → Fin 101} (i : Nat) (hi : i < 25) (sc : Fin 101) (hf : fz_ar zA f) (hg : fz_ar lB g)
    (K : ∀ t, fz_ar t (fz_a f (fz_m (fz_o i sc) g)) → J3 (nI (i + 1)) sA sB hh lA lB rA rB t zB cm rm qt) : ∃ n, wX_addProduct__resultAbove_rightAbove_leftBelow_24 post J3 x3 (nI i) (fz_c sc) c n 0 sA sB hh lA lB rA rB zA zB cm rm qt := by
  refine pk_loop (fun n j s => wX_addProduct__resultAbove_rightAbove_leftBelow_24 post J3 x3 (nI i) (fz_c sc) c n (nI j) sA sB hh lA lB rA rB s zB cm rm qt) (fun j s => fz_ar s (fz_api f g i sc j)) (25 - i) 0 zA (by omega) (by rw [fz_api_0]; exact hf) ?_ ?_
  · intro n s h
    refine br_t ?_ ?_
    · rw [nI_add, show i + (25 - i) = 25 by omega]
      decide
    · refine nm_r (nI_1 i) ?_
      exact K _ (fz_api_e h (Or.inr (by omega)))
  · intro n j s hj h ih
    refine br_f ?_ ?_
    · rw [nI_add]
      exact nI_ge (b := 25) (by omega) (by decide)
    · rw [nI_add]
      refine ⟨vp_in_nI (by omega) (by decide), vp_in_nI (by omega) (by decide), fz_nz101, vp_in_nI (by omega) (by decide), ?_⟩
      refine nm_r (e' := upd s (i + j) (fz_c (f (i + j) + sc * g j))) (by rw [nI_clamp (by omega), nI_clamp (by omega), h (i + j) (by omega), fz_api_at, hg j (by omega), fz_rem_ma]) ?_
      refine nm_r (nI_1 j) ?_
      exact ih _ (fz_ar_up h (by rw [fz_api_s]) (fz_api_o f g i sc j))
theorem gx_ap_zA_rA_lB {post : SX → Prop} {f p q : Nat → Fin 101} (u : Fin 101) (hf : fz_ar zA f) (hp : fz_ar rA p) (hq : fz_ar lB q) (lp : fz_l p 25)
    (K : ∀ t, fz_ar t (fz_a f (fz_m (fz_m (fz_o 0 u) p) q)) → post (c, sA, sB, hh, lA, lB, rA, rB, t, zB, cm, rm, qt)) : wpX_addProduct__resultAbove_rightAbove_leftBelow post (c, sA, sB, hh, lA, lB, rA, rB, zA, zB, cm, rm, qt) (fz_c u) := by
  refine pk_loop (fun n i s => wX_addProduct__resultAbove_rightAbove_leftBelow_3 post (fz_c u) c n (nI i) sA sB hh lA lB rA rB s zB cm rm qt) (fun i s => fz_ar s (fz_a f (fz_m (fz_tr i (fz_m (fz_o 0 u) p)) q))) 25 0 zA (by omega) (by rw [fz_tr_add0]; exact hf) ?_ ?_
  · intro n s h
    rw [fz_tr_e (fz_cl lp)] at h
    exact br_t (by decide) (K _ h)
  · intro n i s hi h ih
    refine br_f (nI_ge (b := 25) hi (by decide)) ⟨vp_in_nI hi (by decide), fz_nz101, ?_⟩
    refine nm_r (e' := fz_c (fz_m (fz_o 0 u) p i)) (by rw [nI_clamp (by omega), hp i hi, fz_rem_m, fz_m_const]; congr 1; grind) ?_
    refine gx_api_zA_rA_lB i hi _ h hq (fun t ht => ?_)
    rw [← fz_tr_add] at ht
    exact ih t ht
theorem gx_api_zB_lB_lB {post : SX → Prop} {J3 : Int32 → (Nat → Int32) → (Nat → Int32) → (Nat → Int32) → (Nat → Int32) → (Nat → Int32) → (Nat → Int32) → (Nat → Int32) → (Nat → Int32) → (Nat → Int32) → (Nat → Int32) → (Nat → Int32) → (Nat → Int32) → Prop} {x3 : Int32} {f g : Nat → Fin 101} (i : Nat) (hi : i < 25) (sc : Fin 101) (hf : fz_ar zB f) (hg : fz_ar lB g)
    (K : ∀ t, fz_ar t (fz_a f (fz_m (fz_o i sc) g)) → J3 (nI (i + 1)) sA sB hh lA lB rA rB zA t cm rm qt) : ∃ n, wX_addProduct__resultBelow_leftBelow_leftBelow_24 post J3 x3 (nI i) (fz_c sc) c n 0 sA sB hh lA lB rA rB zA zB cm rm qt := by
  refine pk_loop (fun n j s => wX_addProduct__resultBelow_leftBelow_leftBelow_24 post J3 x3 (nI i) (fz_c sc) c n (nI j) sA sB hh lA lB rA rB zA s cm rm qt) (fun j s => fz_ar s (fz_api f g i sc j)) (25 - i) 0 zB (by omega) (by rw [fz_api_0]; exact hf) ?_ ?_
  · intro n s h
    refine br_t ?_ ?_
    · rw [nI_add, show i + (25 - i) = 25 by omega]
      decide
    · refine nm_r (nI_1 i) ?_
      exact K _ (fz_api_e h (Or.inr (by omega)))
  · intro n j s hj h ih
    refine br_f ?_ ?_
    · rw [nI_add]
      exact nI_ge (b := 25) (by omega) (by decide)
    · rw [nI_add]
      refine ⟨vp_in_nI (by omega) (by decide), vp_in_nI (by omega) (by decide), fz_nz101, vp_in_nI (by omega) (by decide), ?_⟩
      refine nm_r (e' := upd s (i + j) (fz_c (f (i + j) + sc * g j))) (by rw [nI_clamp (by omega), nI_clamp (by omega), h (i + j) (by omega), fz_api_at, hg j (by omega), fz_rem_ma]) ?_
      refine nm_r (nI_1 j) ?_
      exact ih _ (fz_ar_up h (by rw [fz_api_s]) (fz_api_o f g i sc j))
theorem gx_ap_zB_lB_lB {post : SX → Prop} {f p q : Nat → Fin 101} (u : Fin 101) (hf : fz_ar zB f) (hp : fz_ar lB p) (hq : fz_ar lB q) (lp : fz_l p 25)
    (K : ∀ t, fz_ar t (fz_a f (fz_m (fz_m (fz_o 0 u) p) q)) → post (c, sA, sB, hh, lA, lB, rA, rB, zA, t, cm, rm, qt)) : wpX_addProduct__resultBelow_leftBelow_leftBelow post (c, sA, sB, hh, lA, lB, rA, rB, zA, zB, cm, rm, qt) (fz_c u) := by
  refine pk_loop (fun n i s => wX_addProduct__resultBelow_leftBelow_leftBelow_3 post (fz_c u) c n (nI i) sA sB hh lA lB rA rB zA s cm rm qt) (fun i s => fz_ar s (fz_a f (fz_m (fz_tr i (fz_m (fz_o 0 u) p)) q))) 25 0 zB (by omega) (by rw [fz_tr_add0]; exact hf) ?_ ?_
  · intro n s h
    rw [fz_tr_e (fz_cl lp)] at h
    exact br_t (by decide) (K _ h)
  · intro n i s hi h ih
    refine br_f (nI_ge (b := 25) hi (by decide)) ⟨vp_in_nI hi (by decide), fz_nz101, ?_⟩
    refine nm_r (e' := fz_c (fz_m (fz_o 0 u) p i)) (by rw [nI_clamp (by omega), hp i hi, fz_rem_m, fz_m_const]; congr 1; grind) ?_
    refine gx_api_zB_lB_lB i hi _ h hq (fun t ht => ?_)
    rw [← fz_tr_add] at ht
    exact ih t ht
theorem fz_r_div0 {R : Type} [Lean.Grind.CommRing R] (f g : R) : f = 0 * g + f := by grind
theorem gx_divi_cm_rm {post : SX → Prop} {J27 : Int32 → (Nat → Int32) → (Nat → Int32) → (Nat → Int32) → (Nat → Int32) → (Nat → Int32) → (Nat → Int32) → (Nat → Int32) → (Nat → Int32) → (Nat → Int32) → (Nat → Int32) → (Nat → Int32) → (Nat → Int32) → Prop} {x4 : Int32} {r g : Nat → Fin 101} (d j : Nat) (hj : j + d < 25) (fc : Fin 101) (hr : fz_ar cm r) (hg : fz_ar rm g) (lg : fz_l g (d + 1))
    (K : ∀ t, fz_ar t (fz_d r (fz_m (fz_o j fc) g)) → J27 (fz_d1 j) sA sB hh lA lB rA rB zA zB t rm qt) : ∃ n, wX_divide__common_remainder_58 post J27 (nI d) x4 (nI j) (fz_c fc) c n 0 sA sB hh lA lB rA rB zA zB cm rm qt := by
  refine pk_loop (fun n k s => wX_divide__common_remainder_58 post J27 (nI d) x4 (nI j) (fz_c fc) c n (nI k) sA sB hh lA lB rA rB zA zB s rm qt) (fun k s => fz_ar s (fz_api r g j (-fc) k)) (d + 1) 0 cm (by omega) (by rw [fz_api_0]; exact hr) ?_ ?_
  · intro n s h
    refine br_t (nI_lt (by omega) (by omega)) ?_
    refine nm_r (fz_d1_s j) ?_
    have h2 := fz_api_e h (Or.inl lg)
    rw [fz_a_neg] at h2
    exact K _ h2
  · intro n k s hk h ih
    refine br_f (nI_nlt (by omega) (by omega)) ?_
    rw [nI_add]
    refine ⟨vp_in_nI (by omega) (by decide), vp_in_nI (by omega) (by decide), ?_⟩
    refine nm_r (e' := fz_c (r (j + k)) + (101 - fz_c fc) * fz_c (g k)) (by rw [nI_clamp (by omega), nI_clamp (by omega), h (j + k) (by omega), fz_api_at, hg k (by omega)]) ?_
    refine ⟨fz_nz101, vp_in_nI (by omega) (by decide), ?_⟩
    refine nm_r (e' := upd s (j + k) (fz_c (r (j + k) - fc * g k))) (by rw [nI_clamp (by omega), fz_rem_ms]) ?_
    refine nm_r (nI_1 k) ?_
    exact ih _ (fz_ar_up h (by rw [fz_api_s]; congr 1; grind) (fz_api_o r g j (-fc) k))
theorem gx_div_cm_rm {post : SX → Prop} {f g : Nat → Fin 101} (d : Nat) (hd : d < 25) (hf : fz_ar cm f) (lf : fz_l f 25) (hg : fz_ar rm g) (he : fz_e g d)
    (K : ∀ t t' s r, fz_ar t r → fz_ar t' s → fz_l s 25 → fz_l r d → f = fz_a (fz_m s g) r → post (c, sA, sB, hh, lA, lB, rA, rB, zA, zB, t, rm, t')) : wpX_divide__common_remainder post (c, sA, sB, hh, lA, lB, rA, rB, zA, zB, cm, rm, qt) := by
  refine gx_set_qt (post := _) (0 : Fin 101) (fun q0 hq0 => ?_)
  refine gx_dege_rm (post := _) hg hd he ?_
  refine ⟨vp_in_nI hd (by decide), ?_⟩
  rw [nI_clamp (by omega), hg d hd]
  refine gx_inv (g d) he.1 ?_
  refine nm_r (e' := fz_d1 (25 - d)) ?_ ?_
  · rw [show 25 - d = (24 - d) + 1 by omega]
    exact pk_sub (a := 24) (by omega)
  · have key := pk_loopD (fun n j (s : (Nat → Int32) × (Nat → Int32)) => wX_divide__common_remainder_27 post (nI d) (fz_c (fz_i (g d))) c n (fz_d1 j) sA sB hh lA lB rA rB zA zB s.1 rm s.2)
      (fun j s => ∃ Q r, fz_ar s.1 r ∧ fz_ar s.2 Q ∧ fz_l Q 25 ∧ (∀ k, k < j → Q k = 0) ∧ fz_l r (j + d) ∧ f = fz_a (fz_m Q g) r ∧ j + d ≤ 25) (fun n s h => by
      obtain ⟨Q, r, h1, h2, h3, h4, h5, h6, h7⟩ := h
      rw [Nat.zero_add] at h5
      exact br_t (by decide) (K _ _ Q r h1 h2 h3 h5 h6)) (fun n j s h ih => by
      obtain ⟨Q, r, h1, h2, h3, h4, h5, h6, h7⟩ := h
      refine br_f (nI_pos (by omega)) ?_
      rw [show fz_d1 (j + 1) + nI d = nI (j + d) from nI_add j d]
      refine ⟨vp_in_nI (by omega) (by decide), fz_nz101, ?_⟩
      refine nm_r (e' := fz_c (r (j + d) * fz_i (g d))) (by rw [nI_clamp (by omega), h1 (j + d) (by omega), fz_rem_m]) ?_
      refine ⟨vp_in_nI (by omega) (by decide), ?_⟩
      refine nm_r (e' := upd s.2 j (fz_c (r (j + d) * fz_i (g d)))) (by rw [show fz_d1 (j + 1) = nI j from rfl, nI_clamp (by omega)]) ?_
      refine gx_divi_cm_rm d j (by omega) _ h1 hg he.2 (fun t ht => ?_)
      refine ih (t, upd s.2 j (fz_c (r (j + d) * fz_i (g d)))) ⟨fz_a Q (fz_o j (r (j + d) * fz_i (g d))), _, ht, ?_, ?_, ?_, ?_, fz_div_inv _ h6, by omega⟩
      · refine fz_ar_up h2 ?_ ?_
        · show _ = fz_c (Q j + (if j = j then r (j + d) * fz_i (g d) else 0))
          rw [if_pos rfl, h4 j (by omega)]
          congr 1
          grind
        · intro k hk
          show Q k + (if k = j then r (j + d) * fz_i (g d) else 0) = Q k
          rw [if_neg hk]
          grind
      · exact fz_l_a h3 (fz_l_o (by omega))
      · intro k hk
        show Q k + (if k = j then r (j + d) * fz_i (g d) else 0) = 0
        rw [if_neg (by omega), h4 k (by omega)]
        rfl
      · exact fz_div_step he (by rw [show j + d + 1 = j + 1 + d by omega]; exact h5))
    exact ⟨_, key (25 - d) (cm, q0) ⟨fz_o 0 0, f, hf, hq0, fz_l_z 25, fun k _ => fz_o00 k, by rw [Nat.sub_add_cancel (by omega)]; exact lf, @fz_r_div0 _ fz_ring f g, by omega⟩⟩
theorem gx_divi_zA_cm {post : SX → Prop} {J27 : Int32 → (Nat → Int32) → (Nat → Int32) → (Nat → Int32) → (Nat → Int32) → (Nat → Int32) → (Nat → Int32) → (Nat → Int32) → (Nat → Int32) → (Nat → Int32) → (Nat → Int32) → (Nat → Int32) → (Nat → Int32) → Prop} {x4 : Int32} {r g : Nat → Fin 101} (d j : Nat) (hj : j + d < 25) (fc : Fin 101) (hr : fz_ar zA r) (hg : fz_ar cm g) (lg : fz_l g (d + 1))
    (K : ∀ t, fz_ar t (fz_d r (fz_m (fz_o j fc) g)) → J27 (fz_d1 j) sA sB hh lA lB rA rB t zB cm rm qt) : ∃ n, wX_divide__resultAbove_common_58 post J27 (nI d) x4 (nI j) (fz_c fc) c n 0 sA sB hh lA lB rA rB zA zB cm rm qt := by
  refine pk_loop (fun n k s => wX_divide__resultAbove_common_58 post J27 (nI d) x4 (nI j) (fz_c fc) c n (nI k) sA sB hh lA lB rA rB s zB cm rm qt) (fun k s => fz_ar s (fz_api r g j (-fc) k)) (d + 1) 0 zA (by omega) (by rw [fz_api_0]; exact hr) ?_ ?_
  · intro n s h
    refine br_t (nI_lt (by omega) (by omega)) ?_
    refine nm_r (fz_d1_s j) ?_
    have h2 := fz_api_e h (Or.inl lg)
    rw [fz_a_neg] at h2
    exact K _ h2
  · intro n k s hk h ih
    refine br_f (nI_nlt (by omega) (by omega)) ?_
    rw [nI_add]
    refine ⟨vp_in_nI (by omega) (by decide), vp_in_nI (by omega) (by decide), ?_⟩
    refine nm_r (e' := fz_c (r (j + k)) + (101 - fz_c fc) * fz_c (g k)) (by rw [nI_clamp (by omega), nI_clamp (by omega), h (j + k) (by omega), fz_api_at, hg k (by omega)]) ?_
    refine ⟨fz_nz101, vp_in_nI (by omega) (by decide), ?_⟩
    refine nm_r (e' := upd s (j + k) (fz_c (r (j + k) - fc * g k))) (by rw [nI_clamp (by omega), fz_rem_ms]) ?_
    refine nm_r (nI_1 k) ?_
    exact ih _ (fz_ar_up h (by rw [fz_api_s]; congr 1; grind) (fz_api_o r g j (-fc) k))
theorem gx_div_zA_cm {post : SX → Prop} {f g : Nat → Fin 101} (d : Nat) (hd : d < 25) (hf : fz_ar zA f) (lf : fz_l f 25) (hg : fz_ar cm g) (he : fz_e g d)
    (K : ∀ t t' s r, fz_ar t r → fz_ar t' s → fz_l s 25 → fz_l r d → f = fz_a (fz_m s g) r → post (c, sA, sB, hh, lA, lB, rA, rB, t, zB, cm, rm, t')) : wpX_divide__resultAbove_common post (c, sA, sB, hh, lA, lB, rA, rB, zA, zB, cm, rm, qt) := by
  refine gx_set_qt (post := _) (0 : Fin 101) (fun q0 hq0 => ?_)
  refine gx_dege_cm (post := _) hg hd he ?_
  refine ⟨vp_in_nI hd (by decide), ?_⟩
  rw [nI_clamp (by omega), hg d hd]
  refine gx_inv (g d) he.1 ?_
  refine nm_r (e' := fz_d1 (25 - d)) ?_ ?_
  · rw [show 25 - d = (24 - d) + 1 by omega]
    exact pk_sub (a := 24) (by omega)
  · have key := pk_loopD (fun n j (s : (Nat → Int32) × (Nat → Int32)) => wX_divide__resultAbove_common_27 post (nI d) (fz_c (fz_i (g d))) c n (fz_d1 j) sA sB hh lA lB rA rB s.1 zB cm rm s.2)
      (fun j s => ∃ Q r, fz_ar s.1 r ∧ fz_ar s.2 Q ∧ fz_l Q 25 ∧ (∀ k, k < j → Q k = 0) ∧ fz_l r (j + d) ∧ f = fz_a (fz_m Q g) r ∧ j + d ≤ 25) (fun n s h => by
      obtain ⟨Q, r, h1, h2, h3, h4, h5, h6, h7⟩ := h
      rw [Nat.zero_add] at h5
      exact br_t (by decide) (K _ _ Q r h1 h2 h3 h5 h6)) (fun n j s h ih => by
      obtain ⟨Q, r, h1, h2, h3, h4, h5, h6, h7⟩ := h
      refine br_f (nI_pos (by omega)) ?_
      rw [show fz_d1 (j + 1) + nI d = nI (j + d) from nI_add j d]
      refine ⟨vp_in_nI (by omega) (by decide), fz_nz101, ?_⟩
      refine nm_r (e' := fz_c (r (j + d) * fz_i (g d))) (by rw [nI_clamp (by omega), h1 (j + d) (by omega), fz_rem_m]) ?_
      refine ⟨vp_in_nI (by omega) (by decide), ?_⟩
      refine nm_r (e' := upd s.2 j (fz_c (r (j + d) * fz_i (g d)))) (by rw [show fz_d1 (j + 1) = nI j from rfl, nI_clamp (by omega)]) ?_
      refine gx_divi_zA_cm d j (by omega) _ h1 hg he.2 (fun t ht => ?_)
      refine ih (t, upd s.2 j (fz_c (r (j + d) * fz_i (g d)))) ⟨fz_a Q (fz_o j (r (j + d) * fz_i (g d))), _, ht, ?_, ?_, ?_, ?_, fz_div_inv _ h6, by omega⟩
      · refine fz_ar_up h2 ?_ ?_
        · show _ = fz_c (Q j + (if j = j then r (j + d) * fz_i (g d) else 0))
          rw [if_pos rfl, h4 j (by omega)]
          congr 1
          grind
        · intro k hk
          show Q k + (if k = j then r (j + d) * fz_i (g d) else 0) = Q k
          rw [if_neg hk]
          grind
      · exact fz_l_a h3 (fz_l_o (by omega))
      · intro k hk
        show Q k + (if k = j then r (j + d) * fz_i (g d) else 0) = 0
        rw [if_neg (by omega), h4 k (by omega)]
        rfl
      · exact fz_div_step he (by rw [show j + d + 1 = j + 1 + d by omega]; exact h5))
    exact ⟨_, key (25 - d) (zA, q0) ⟨fz_o 0 0, f, hf, hq0, fz_l_z 25, fun k _ => fz_o00 k, by rw [Nat.sub_add_cancel (by omega)]; exact lf, @fz_r_div0 _ fz_ring f g, by omega⟩⟩
theorem gx_divi_zB_cm {post : SX → Prop} {J27 : Int32 → (Nat → Int32) → (Nat → Int32) → (Nat → Int32) → (Nat → Int32) → (Nat → Int32) → (Nat → Int32) → (Nat → Int32) → (Nat → Int32) → (Nat → Int32) → (Nat → Int32) → (Nat → Int32) → (Nat → Int32) → Prop} {x4 : Int32} {r g : Nat → Fin 101} (d j : Nat) (hj : j + d < 25) (fc : Fin 101) (hr : fz_ar zB r) (hg : fz_ar cm g) (lg : fz_l g (d + 1))
    (K : ∀ t, fz_ar t (fz_d r (fz_m (fz_o j fc) g)) → J27 (fz_d1 j) sA sB hh lA lB rA rB zA t cm rm qt) : ∃ n, wX_divide__resultBelow_common_58 post J27 (nI d) x4 (nI j) (fz_c fc) c n 0 sA sB hh lA lB rA rB zA zB cm rm qt := by
  refine pk_loop (fun n k s => wX_divide__resultBelow_common_58 post J27 (nI d) x4 (nI j) (fz_c fc) c n (nI k) sA sB hh lA lB rA rB zA s cm rm qt) (fun k s => fz_ar s (fz_api r g j (-fc) k)) (d + 1) 0 zB (by omega) (by rw [fz_api_0]; exact hr) ?_ ?_
  · intro n s h
    refine br_t (nI_lt (by omega) (by omega)) ?_
    refine nm_r (fz_d1_s j) ?_
    have h2 := fz_api_e h (Or.inl lg)
    rw [fz_a_neg] at h2
    exact K _ h2
  · intro n k s hk h ih
    refine br_f (nI_nlt (by omega) (by omega)) ?_
    rw [nI_add]
    refine ⟨vp_in_nI (by omega) (by decide), vp_in_nI (by omega) (by decide), ?_⟩
    refine nm_r (e' := fz_c (r (j + k)) + (101 - fz_c fc) * fz_c (g k)) (by rw [nI_clamp (by omega), nI_clamp (by omega), h (j + k) (by omega), fz_api_at, hg k (by omega)]) ?_
    refine ⟨fz_nz101, vp_in_nI (by omega) (by decide), ?_⟩
    refine nm_r (e' := upd s (j + k) (fz_c (r (j + k) - fc * g k))) (by rw [nI_clamp (by omega), fz_rem_ms]) ?_
    refine nm_r (nI_1 k) ?_
    exact ih _ (fz_ar_up h (by rw [fz_api_s]; congr 1; grind) (fz_api_o r g j (-fc) k))
theorem gx_div_zB_cm {post : SX → Prop} {f g : Nat → Fin 101} (d : Nat) (hd : d < 25) (hf : fz_ar zB f) (lf : fz_l f 25) (hg : fz_ar cm g) (he : fz_e g d)
    (K : ∀ t t' s r, fz_ar t r → fz_ar t' s → fz_l s 25 → fz_l r d → f = fz_a (fz_m s g) r → post (c, sA, sB, hh, lA, lB, rA, rB, zA, t, cm, rm, t')) : wpX_divide__resultBelow_common post (c, sA, sB, hh, lA, lB, rA, rB, zA, zB, cm, rm, qt) := by
  refine gx_set_qt (post := _) (0 : Fin 101) (fun q0 hq0 => ?_)
  refine gx_dege_cm (post := _) hg hd he ?_
  refine ⟨vp_in_nI hd (by decide), ?_⟩
  rw [nI_clamp (by omega), hg d hd]
  refine gx_inv (g d) he.1 ?_
  refine nm_r (e' := fz_d1 (25 - d)) ?_ ?_
  · rw [show 25 - d = (24 - d) + 1 by omega]
    exact pk_sub (a := 24) (by omega)
  · have key := pk_loopD (fun n j (s : (Nat → Int32) × (Nat → Int32)) => wX_divide__resultBelow_common_27 post (nI d) (fz_c (fz_i (g d))) c n (fz_d1 j) sA sB hh lA lB rA rB zA s.1 cm rm s.2)
      (fun j s => ∃ Q r, fz_ar s.1 r ∧ fz_ar s.2 Q ∧ fz_l Q 25 ∧ (∀ k, k < j → Q k = 0) ∧ fz_l r (j + d) ∧ f = fz_a (fz_m Q g) r ∧ j + d ≤ 25) (fun n s h => by
      obtain ⟨Q, r, h1, h2, h3, h4, h5, h6, h7⟩ := h
      rw [Nat.zero_add] at h5
      exact br_t (by decide) (K _ _ Q r h1 h2 h3 h5 h6)) (fun n j s h ih => by
      obtain ⟨Q, r, h1, h2, h3, h4, h5, h6, h7⟩ := h
      refine br_f (nI_pos (by omega)) ?_
      rw [show fz_d1 (j + 1) + nI d = nI (j + d) from nI_add j d]
      refine ⟨vp_in_nI (by omega) (by decide), fz_nz101, ?_⟩
      refine nm_r (e' := fz_c (r (j + d) * fz_i (g d))) (by rw [nI_clamp (by omega), h1 (j + d) (by omega), fz_rem_m]) ?_
      refine ⟨vp_in_nI (by omega) (by decide), ?_⟩
      refine nm_r (e' := upd s.2 j (fz_c (r (j + d) * fz_i (g d)))) (by rw [show fz_d1 (j + 1) = nI j from rfl, nI_clamp (by omega)]) ?_
      refine gx_divi_zB_cm d j (by omega) _ h1 hg he.2 (fun t ht => ?_)
      refine ih (t, upd s.2 j (fz_c (r (j + d) * fz_i (g d)))) ⟨fz_a Q (fz_o j (r (j + d) * fz_i (g d))), _, ht, ?_, ?_, ?_, ?_, fz_div_inv _ h6, by omega⟩
      · refine fz_ar_up h2 ?_ ?_
        · show _ = fz_c (Q j + (if j = j then r (j + d) * fz_i (g d) else 0))
          rw [if_pos rfl, h4 j (by omega)]
          congr 1
          grind
        · intro k hk
          show Q k + (if k = j then r (j + d) * fz_i (g d) else 0) = Q k
          rw [if_neg hk]
          grind
      · exact fz_l_a h3 (fz_l_o (by omega))
      · intro k hk
        show Q k + (if k = j then r (j + d) * fz_i (g d) else 0) = 0
        rw [if_neg (by omega), h4 k (by omega)]
        rfl
      · exact fz_div_step he (by rw [show j + d + 1 = j + 1 + d by omega]; exact h5))
    exact ⟨_, key (25 - d) (zB, q0) ⟨fz_o 0 0, f, hf, hq0, fz_l_z 25, fun k _ => fz_o00 k, by rw [Nat.sub_add_cancel (by omega)]; exact lf, @fz_r_div0 _ fz_ring f g, by omega⟩⟩
end
end
section
/-! the component's larger own methods (written by wip/whole/gen_x3.py) -/
theorem fz_r_n1 {R : Type} [Lean.Grind.CommRing R] (p q : R) : 0 + (1 * p) * q = p * q := by grind
theorem fz_a0m (p q : Nat → Fin 101) : fz_a (fz_o 0 0) (fz_m (fz_m (fz_o 0 1) p) q) = fz_m p q := @fz_r_n1 _ fz_ring p q
theorem fz_r_n2 {R : Type} [Lean.Grind.CommRing R] (f p q : R) : f + (1 * p) * q = f + p * q := by grind
theorem fz_a1m (f p q : Nat → Fin 101) : fz_a f (fz_m (fz_m (fz_o 0 1) p) q) = fz_a f (fz_m p q) := @fz_r_n2 _ fz_ring f p q
theorem fz_r_n3 {R : Type} [Lean.Grind.CommRing R] (f p q : R) : f + ((-1) * p) * q = f - p * q := by grind
theorem fz_o100 : fz_o 0 100 = fz_n (fz_o 0 1) := by
  rw [fz_n_o]
  rfl
theorem fz_a100m (f p q : Nat → Fin 101) : fz_a f (fz_m (fz_m (fz_o 0 100) p) q) = fz_d f (fz_m p q) := by
  rw [fz_o100]
  exact @fz_r_n3 _ fz_ring f p q
theorem fz_r_a0 {R : Type} [Lean.Grind.CommRing R] (f : R) : f + 0 = f := by grind
theorem fz_a_z (f : Nat → Fin 101) : fz_a f (fz_o 0 0) = f := @fz_r_a0 _ fz_ring f
section
variable {c : Int32} {sA sB hh lA lB rA rB zA zB cm rm qt : Nat → Int32}
theorem gx_push {post : Int32 → SX → Prop} {f g : Nat → Fin 101} {p0 : Int32} (d : Nat) (hd : d < 6) (hf : fz_ar zA f) (hg : fz_ar zB g) (K : ∀ t t', fz_at t (d * 25) f → fz_at t' (d * 25) g → (∀ m, m < d * 25 ∨ d * 25 + 25 ≤ m → t m = sA m) → (∀ m, m < d * 25 ∨ d * 25 + 25 ≤ m → t' m = sB m) → post (nI (d + 1)) (nI (d + 1), t, t', (upd hh d p0), lA, lB, rA, rB, zA, zB, cm, rm, qt)) : wpX_pushResult post (nI d, sA, sB, hh, lA, lB, rA, rB, zA, zB, cm, rm, qt) p0 := by
  refine gx_store_zA_zB (post := _) d hd hf hg (fun t t' h1 h2 h3 h4 => ?_)
  refine ⟨vp_in_nI hd (by decide), ?_⟩
  refine nm_r (e' := upd hh d p0) (by rw [nI_clamp (by omega)]) ?_
  refine nm_r (nI_1 d) ?_
  exact K t t' h1 h2 h3 h4
theorem gx_comb_2 {post : SX → Prop} {P Q P' Q' : Nat → Fin 101} (hP : fz_ar lA P) (hQ : fz_ar lB Q) (hP' : fz_ar rA P') (hQ' : fz_ar rB Q') (lP : fz_l P 25) (lQ : fz_l Q 25) (K : ∀ t t', fz_ar t (fz_m P P') → fz_ar t' (fz_m Q Q') → post (c, sA, sB, hh, lA, lB, rA, rB, t, t', cm, rm, qt)) : wpX_combine post (c, sA, sB, hh, lA, lB, rA, rB, zA, zB, cm, rm, qt) 2 := by
  refine gx_set_zA (post := _) (0 : Fin 101) (fun t ht => ?_)
  refine gx_set_zB (post := _) (0 : Fin 101) (fun t' ht' => ?_)
  refine br_t rfl ?_
  refine gx_ap_zA_lA_rA (post := _) (1 : Fin 101) ht hP hP' lP (fun t1 h1 => ?_)
  refine gx_ap_zB_lB_rB (post := _) (1 : Fin 101) ht' hQ hQ' lQ (fun t2 h2 => ?_)
  rw [fz_a0m] at h1 h2
  exact K t1 t2 h1 h2
theorem gx_comb_3 {post : SX → Prop} {P Q P' Q' : Nat → Fin 101} (hP : fz_ar lA P) (hQ : fz_ar lB Q) (hP' : fz_ar rA P') (hQ' : fz_ar rB Q') (lP : fz_l P 25) (lQ : fz_l Q 25) (K : ∀ t t', fz_ar t (fz_m P Q') → fz_ar t' (fz_m Q P') → post (c, sA, sB, hh, lA, lB, rA, rB, t, t', cm, rm, qt)) : wpX_combine post (c, sA, sB, hh, lA, lB, rA, rB, zA, zB, cm, rm, qt) 3 := by
  refine gx_set_zA (post := _) (0 : Fin 101) (fun t ht => ?_)
  refine gx_set_zB (post := _) (0 : Fin 101) (fun t' ht' => ?_)
  refine br_f (by decide) (br_t rfl ?_)
  refine gx_ap_zA_lA_rB (post := _) (1 : Fin 101) ht hP hQ' lP (fun t1 h1 => ?_)
  refine gx_ap_zB_lB_rA (post := _) (1 : Fin 101) ht' hQ hP' lQ (fun t2 h2 => ?_)
  rw [fz_a0m] at h1 h2
  exact K t1 t2 h1 h2
theorem gx_comb_1 {post : SX → Prop} {P Q P' Q' : Nat → Fin 101} (hP : fz_ar lA P) (hQ : fz_ar lB Q) (hP' : fz_ar rA P') (hQ' : fz_ar rB Q') (lP : fz_l P 25) (lQ : fz_l Q 25) (K : ∀ t t', fz_ar t (fz_d (fz_m P Q') (fz_m Q P')) → fz_ar t' (fz_m Q Q') → post (c, sA, sB, hh, lA, lB, rA, rB, t, t', cm, rm, qt)) : wpX_combine post (c, sA, sB, hh, lA, lB, rA, rB, zA, zB, cm, rm, qt) 1 := by
  refine gx_set_zA (post := _) (0 : Fin 101) (fun t ht => ?_)
  refine gx_set_zB (post := _) (0 : Fin 101) (fun t' ht' => ?_)
  refine br_f (by decide) (br_f (by decide) (br_t rfl ?_))
  refine gx_ap_zA_lA_rB (post := _) (1 : Fin 101) ht hP hQ' lP (fun t1 h1 => ?_)
  refine gx_ap_zA_lB_rA (post := _) (100 : Fin 101) h1 hQ hP' lQ (fun t2 h2 => ?_)
  refine gx_ap_zB_lB_rB (post := _) (1 : Fin 101) ht' hQ hQ' lQ (fun t3 h3 => ?_)
  rw [fz_a0m] at h2 h3
  rw [fz_a100m] at h2
  exact K t2 t3 h2 h3
theorem gx_comb_0 {post : SX → Prop} {P Q P' Q' : Nat → Fin 101} (hP : fz_ar lA P) (hQ : fz_ar lB Q) (hP' : fz_ar rA P') (hQ' : fz_ar rB Q') (lP : fz_l P 25) (lQ : fz_l Q 25) (K : ∀ t t', fz_ar t (fz_a (fz_m P Q') (fz_m Q P')) → fz_ar t' (fz_m Q Q') → post (c, sA, sB, hh, lA, lB, rA, rB, t, t', cm, rm, qt)) : wpX_combine post (c, sA, sB, hh, lA, lB, rA, rB, zA, zB, cm, rm, qt) 0 := by
  refine gx_set_zA (post := _) (0 : Fin 101) (fun t ht => ?_)
  refine gx_set_zB (post := _) (0 : Fin 101) (fun t' ht' => ?_)
  refine br_f (by decide) (br_f (by decide) (br_f (by decide) ?_))
  refine gx_ap_zA_lA_rB (post := _) (1 : Fin 101) ht hP hQ' lP (fun t1 h1 => ?_)
  refine gx_ap_zA_lB_rA (post := _) (1 : Fin 101) h1 hQ hP' lQ (fun t2 h2 => ?_)
  refine gx_ap_zB_lB_rB (post := _) (1 : Fin 101) ht' hQ hQ' lQ (fun t3 h3 => ?_)
  rw [fz_a0m] at h2 h3
  rw [fz_a1m] at h2
  exact K t2 t3 h2 h3
theorem gx_gcd_l {post : SX → Prop} {P Q : Nat → Fin 101} (K : ∀ t t' t'' g, fz_ar t g → fz_l g 25 → fz_eu P Q g (fz_o 0 0) → post (c, sA, sB, hh, lA, lB, rA, rB, zA, zB, t, t', t'')) : ∀ (n j : Nat) (cm rm qt : Nat → Int32) (g r : Nat → Fin 101), fz_ar cm g → fz_ar rm r → fz_l g 25 → fz_l r (25 - j) → j ≤ 25 → 26 ≤ j + n → fz_eu P Q g r → wX_findCommonDivisor_24 post n (nI j) c sA sB hh lA lB rA rB zA zB cm rm qt := by
  intro n
  induction n with
  | zero => intro j cm rm qt g r _ _ _ _ h1 h2; omega
  | succ n ih =>
    intro j cm rm qt g r hg hr lg lr h1 h2 hE
    refine br_f (nI_ge (b := 50) (by omega) (by decide)) ?_
    refine gx_zero_rm (post := _) hr (fz_l_mono lr (by omega)) (fun z => ?_) (fun z => ?_)
    · refine br_f (by decide) ?_
      rw [z] at hE
      exact K _ _ _ g hg lg hE
    · refine br_t rfl ?_
      obtain ⟨d, hd, he⟩ := fz_e_ex _ lr z
      refine gx_div_cm_rm (post := _) d (by omega) hg lg hr he (fun t t' s r' k1 k2 k3 k4 k5 => ?_)
      refine gx_exch (post := _) k1 hr (fun u u' k6 k7 => ?_)
      refine nm_r (nI_1 j) ?_
      exact ih (j + 1) u u' t' r r' k6 k7 (fz_l_mono lr (by omega)) (fz_l_mono k4 (by omega)) (by omega) (by omega) (fz_eu_s ⟨_, k3⟩ k5 hE)
theorem gx_gcd {post : SX → Prop} {P Q : Nat → Fin 101} (hP : fz_ar zA P) (hQ : fz_ar zB Q) (lP : fz_l P 25) (lQ : fz_l Q 25) (K : ∀ t t' t'' g, fz_ar t g → fz_l g 25 → fz_eu P Q g (fz_o 0 0) → post (c, sA, sB, hh, lA, lB, rA, rB, zA, zB, t, t', t'')) : wpX_findCommonDivisor post (c, sA, sB, hh, lA, lB, rA, rB, zA, zB, cm, rm, qt) := by
  refine gx_copy_zA_cm (post := _) hP (fun t ht => ?_)
  refine gx_copy_zB_rm (post := _) hQ (fun t' ht' => ?_)
  exact ⟨26, gx_gcd_l K 26 0 t t' qt P Q ht ht' lP lQ (by omega) (by omega) (fz_eu_0 P Q)⟩
theorem gx_low {post : SX → Prop} {P0 Q0 : Nat → Fin 101} (hP : fz_ar zA P0) (hQ : fz_ar zB Q0) (lP : fz_l P0 25) (lQ : fz_l Q0 25) (nQ : Q0 ≠ fz_o 0 0)
    (K : ∀ tA tB t1 t2 t3 P Q, fz_ar tA P → fz_ar tB Q → fz_l P 25 → fz_l Q 25 → fz_low P Q → fz_m P Q0 = fz_m P0 Q → (∀ n, fz_l P0 n → fz_l P n) → (∀ n, 1 ≤ n → fz_l Q0 n → fz_l Q n) → post (c, sA, sB, hh, lA, lB, rA, rB, tA, tB, t1, t2, t3)) : wpX_lowerResult post (c, sA, sB, hh, lA, lB, rA, rB, zA, zB, cm, rm, qt) := by
  unfold wpX_lowerResult
  refine gx_zero_zA (post := _) hP lP (fun z => ?_) (fun z => ?_)
  · refine br_f (by decide) ?_
    refine gx_set_zB (post := _) (1 : Fin 101) (fun t ht => ?_)
    rw [z] at hP
    refine K zA t cm rm qt _ _ hP ht (fz_l_z 25) (fz_l_o (by omega)) fz_low_01 ?_ (fun n _ => fz_l_z n) (fun n hn _ => fz_l_o (by omega))
    rw [z, fz_m_zero, fz_m_zero]
  · refine br_t rfl ?_
    refine gx_gcd (post := _) hP hQ lP lQ (fun t1 t2 t3 g hg lg hE => ?_)
    obtain ⟨ng, d1, d2, pd1, pd2, e1, e2, hc⟩ := fz_eu_end hE nQ ⟨_, lg⟩
    obtain ⟨j, hj, he⟩ := fz_e_ex 25 lg ng
    refine gx_div_zA_cm (post := _) j hj hP lP hg he (fun u1 u2 s1 r1 k1 k2 k3 k4 k5 => ?_)
    have q1 := (fz_div_uniq he ⟨_, k3⟩ pd1 k4 (fz_l_z j) (k5.symm.trans e1)).1
    subst q1
    refine gx_copy_qt_zA (post := _) k2 (fun u3 k6 => ?_)
    refine gx_div_zB_cm (post := _) j hj hQ lQ hg he (fun w1 w2 s2 r2 m1 m2 m3 m4 m5 => ?_)
    have q2 := (fz_div_uniq he ⟨_, m3⟩ pd2 m4 (fz_l_z j) (m5.symm.trans e2)).1
    subst q2
    refine gx_copy_qt_zB (post := _) m2 (fun w3 m6 => ?_)
    have n2 : s2 ≠ fz_o 0 0 := fun y => nQ (by rw [e2, y, fz_m_zero, fz_a_z])
    obtain ⟨m, hm, hme⟩ := fz_e_ex 25 m3 n2
    refine gx_dege_zB (post := _) m6 hm hme ?_
    refine ⟨vp_in_nI hm (by decide), ?_⟩
    refine nm_r (e' := fz_c (s2 m)) (by rw [nI_clamp (by omega)]; exact m6 m hm) ?_
    refine gx_inv (s2 m) hme.1 ?_
    refine gx_scale_zA (post := _) (fz_i (s2 m)) k6 (fun v1 n3 => ?_)
    refine gx_scale_zB (post := _) (fz_i (s2 m)) m6 (fun v2 n4 => ?_)
    have hs := fz_scale ⟨_, k3⟩ hc e1 e2 hme
    refine K v1 v2 t1 t2 w2 _ _ n3 n4 (fz_cl k3) (fz_cl m3) hs.1 hs.2 (fun n hn => ?_) (fun n _ hn => ?_)
    · rw [e1, fz_a_z] at hn
      exact fz_cl (fz_dvd_l pd1 he hn)
    · rw [e2, fz_a_z] at hn
      exact fz_cl (fz_dvd_l pd2 he hn)
theorem gx_dtop {post : SX → Prop} {P Q : Nat → Fin 101} (d : Nat) (hd : d < 6) (hP : fz_at sA (d * 25) P) (hQ : fz_at sB (d * 25) Q) (lP : fz_l P 13) (lQ : fz_l Q 13) (nQ : Q ≠ fz_o 0 0)
    (K : ∀ a1 a2 a3 a4 tA tB t1 t2 t3 P' Q', fz_ar tA P' → fz_ar tB Q' → fz_l P' 25 → fz_l Q' 25 → fz_low P' Q' → fz_m P' (fz_m Q Q) = fz_m (fz_d (fz_m (fz_dv P) Q) (fz_m P (fz_dv Q))) Q' → (∀ n, fz_l (fz_d (fz_m (fz_dv P) Q) (fz_m P (fz_dv Q))) n → fz_l P' n) → (∀ n, 1 ≤ n → fz_l (fz_m Q Q) n → fz_l Q' n) → post (nI (d + 1), sA, sB, hh, a1, a2, a3, a4, tA, tB, t1, t2, t3)) : wpX_deriveTopIntoResult post (nI (d + 1), sA, sB, hh, lA, lB, rA, rB, zA, zB, cm, rm, qt) := by
  have lP' : fz_l P 25 := fz_l_mono lP (by omega)
  have lQ' : fz_l Q 25 := fz_l_mono lQ (by omega)
  have l1 : fz_l (fz_dv P) 13 := fz_l_mono (fz_dv_l (n := 12) lP) (by omega)
  have l2 : fz_l (fz_dv Q) 13 := fz_l_mono (fz_dv_l (n := 12) lQ) (by omega)
  unfold wpX_deriveTopIntoResult
  dsimp only
  rw [nI_pred d]
  refine gx_load_lA_lB (post := _) d hd hP hQ (fun a1 a2 h1 h2 => ?_)
  refine gx_dv_lA (post := _) h1 lP' (fun a3 h3 => ?_)
  refine gx_dv_lB (post := _) h2 lQ' (fun a4 h4 => ?_)
  refine gx_set_zA (post := _) (0 : Fin 101) (fun b1 k1 => ?_)
  refine gx_set_zB (post := _) (0 : Fin 101) (fun b2 k2 => ?_)
  refine gx_ap_zA_rA_lB (post := _) (1 : Fin 101) k1 h3 h2 (fz_l_mono l1 (by omega)) (fun b3 k3 => ?_)
  refine gx_ap_zA_lA_rB (post := _) (100 : Fin 101) k3 h1 h4 lP' (fun b4 k4 => ?_)
  refine gx_ap_zB_lB_lB (post := _) (1 : Fin 101) k2 h2 h2 lQ' (fun b5 k5 => ?_)
  rw [fz_a100m, fz_a0m] at k4
  rw [fz_a0m] at k5
  refine gx_low (post := _) k4 k5 (fz_l_d (fz_l_m (m := 12) (n := 12) l1 lQ) (fz_l_m (m := 12) (n := 12) lP l2)) (fz_l_m (m := 12) (n := 12) lQ lQ) (fz_m_ne ⟨_, lQ⟩ ⟨_, lQ⟩ nQ nQ) (fun tA tB t1 t2 t3 P' Q' m1 m2 m3 m4 m5 m6 m7 m8 => ?_)
  exact K a1 a2 a3 a4 tA tB t1 t2 t3 P' Q' m1 m2 m3 m4 m5 m6 m7 m8
end
def fz_ans (P Q : Nat → Fin 101) (a : Fin 101) : Int32 := if fz_h 25 Q a = 0 then -4 else fz_c (fz_h 25 P a * fz_i (fz_h 25 Q a))
def fz_cnt (P Q : Nat → Fin 101) (w : Int32) : Nat → Nat
  | 0 => 0
  | n + 1 => if fz_ans P Q (Fin.ofNat 101 n) = w then fz_cnt P Q w n + 1 else fz_cnt P Q w n
theorem fz_cnt_le (P Q : Nat → Fin 101) (w : Int32) : ∀ n, fz_cnt P Q w n ≤ n := by
  intro n
  induction n with
  | zero => exact Nat.le_refl 0
  | succ n ih =>
    show (if fz_ans P Q (Fin.ofNat 101 n) = w then fz_cnt P Q w n + 1 else fz_cnt P Q w n) ≤ n + 1
    split <;> omega
section
variable {c : Int32} {sA sB hh lA lB rA rB zA zB cm rm qt : Nat → Int32}
theorem gx_resat {post : Int32 → Prop} {P Q : Nat → Fin 101} (a : Fin 101) (hP : fz_ar zA P) (hQ : fz_ar zB Q) (K : post (fz_ans P Q a)) : wpX_resultAt post (c, sA, sB, hh, lA, lB, rA, rB, zA, zB, cm, rm, qt) (fz_c a) := by
  refine gx_at_zB (post := _) a hQ ?_
  by_cases z : fz_h 25 Q a = 0
  · refine br_t (fz_c_z.mpr z) ?_
    rw [fz_ans, if_pos z] at K
    exact K
  · refine br_f (fun y => z (fz_c_z.mp y)) ?_
    refine gx_at_zA (post := _) a hP ?_
    refine gx_inv _ z ?_
    refine ⟨fz_nz101, ?_⟩
    rw [fz_rem_m]
    rw [fz_ans, if_neg z] at K
    exact K
theorem gx_count {post : Int32 → SX → Prop} {P Q : Nat → Fin 101} (d : Nat) (hd : d < 6) (w : Int32) (hP : fz_at sA (d * 25) P) (hQ : fz_at sB (d * 25) Q) (K : ∀ t t', post (nI (fz_cnt P Q w 101)) (nI (d + 1), sA, sB, hh, lA, lB, rA, rB, t, t', cm, rm, qt)) : wpX_countTopAnswers post (nI (d + 1), sA, sB, hh, lA, lB, rA, rB, zA, zB, cm, rm, qt) w := by
  unfold wpX_countTopAnswers
  dsimp only
  rw [nI_pred d]
  refine gx_load_zA_zB (post := _) d hd hP hQ (fun t t' h h' => ?_)
  refine pk_loop (fun n i (s : Int32) => wX_countTopAnswers_22 post w (nI (d + 1)) sA sB hh lA lB rA rB t t' cm rm qt n s (nI i)) (fun i s => s = nI (fz_cnt P Q w i)) 101 0 0 (by omega) rfl ?_ ?_
  · intro n s hs
    refine br_t (by decide) ?_
    rw [hs]
    exact K t t'
  · intro n i s hi hs ih
    refine br_f (nI_ge (b := 101) hi (by decide)) ?_
    have e : nI i = fz_c (Fin.ofNat 101 i) := by
      show nI i = nI (i % 101)
      rw [Nat.mod_eq_of_lt hi]
    have ec : fz_cnt P Q w (i + 1) = if fz_ans P Q (Fin.ofNat 101 i) = w then fz_cnt P Q w i + 1 else fz_cnt P Q w i := rfl
    have key : ∀ x, x = nI i → wpX_resultAt (fun r_16 => ((r_16 = w → ∀ x2 : Int32, x2 = s + 1 → ∀ x3 : Int32, x3 = nI i + 1 → wX_countTopAnswers_22 post w (nI (d + 1)) sA sB hh lA lB rA rB t t' cm rm qt n x2 x3) ∧ (¬ r_16 = w → ∀ x3 : Int32, x3 = nI i + 1 → wX_countTopAnswers_22 post w (nI (d + 1)) sA sB hh lA lB rA rB t t' cm rm qt n s x3))) (nI (d + 1), sA, sB, hh, lA, lB, rA, rB, t, t', cm, rm, qt) x := by
      intro x ex
      rw [ex, e]
      refine gx_resat (post := _) (Fin.ofNat 101 i) h h' ?_
      rw [← e]
      by_cases y : fz_ans P Q (Fin.ofNat 101 i) = w
      · rw [if_pos y] at ec
        refine br_t y ?_
        refine nm_r (e' := nI (fz_cnt P Q w i + 1)) (by rw [hs, nI_1]) ?_
        refine nm_r (nI_1 i) ?_
        exact ih _ (by rw [ec])
      · rw [if_neg y] at ec
        refine br_f y ?_
        refine nm_r (nI_1 i) ?_
        exact ih _ (by rw [ec]; exact hs)
    exact key _ rfl
end
end
section
/-! the reference's loops over its cells -/
def fz_fr (ce ce' : Nat → Int32) (r : Nat) : Prop := ∀ s, s ≠ r → ∀ k, k < 25 → ce' (25 * s + k) = ce (25 * s + k)
theorem fz_fr_at {ce ce' : Nat → Int32} {r s : Nat} {f : Nat → Fin 101} (h : fz_fr ce ce' r) (hs : s ≠ r) (hf : fz_at ce (25 * s) f) : fz_at ce' (25 * s) f := fun k hk => by
  rw [h s hs k hk]
  exact hf k hk
theorem fz_fr_rfl (ce : Nat → Int32) (r : Nat) : fz_fr ce ce r := fun _ _ _ _ => rfl
theorem fz_fr_up {ce ce' : Nat → Int32} {r k : Nat} {v : Int32} (h : fz_fr ce ce' r) (hk : k < 25) : fz_fr ce (upd ce' (25 * r + k) v) r := fun s hs j hj => by
  rw [pk_un (by omega)]
  exact h s hs j hj
theorem fz_at_up {s : Nat → Int32} {F F' : Nat → Fin 101} {o m : Nat} {v : Int32} (h : fz_at s o F) (hv : v = fz_c (F' m)) (e : ∀ k, k ≠ m → F' k = F k) : fz_at (upd s (o + m) v) o F' := fun k hk => by
  by_cases d : k = m
  · subst d
    rw [pk_us, hv]
  · rw [pk_un (by omega), e k d]
    exact h k hk
theorem fz_ix (s k : Nat) : 25 * nI s + nI k = nI (25 * s + k) := by
  rw [show (25 : Int32) = nI 25 from rfl, pk_mul, nI_add]
section
variable {dp : Int32} {ce hy ro le : Nat → Int32}
theorem gy_get {post : Int32 → Prop} {p k0 : Int32} (s k : Nat) (hs : s < 22) (hk : k < 25) (ep : p = nI s) (ek : k0 = nI k) (K : post (ce (25 * s + k))) : wpY_get post (dp, ce, hy, ro, le) p k0 := by
  subst ep ek
  show vp_in (25 * nI s + nI k) 550 ∧ post (ce (25 * nI s + nI k).toNatClampNeg)
  rw [fz_ix, nI_clamp (by omega)]
  exact ⟨vp_in_nI (by omega) (by decide), K⟩
theorem gy_put {post : SY → Prop} {p k0 x : Int32} (s k : Nat) (v : Fin 101) (hs : s < 22) (hk : k < 25) (ep : p = nI s) (ek : k0 = nI k) (hv : x - x / 101 * 101 = fz_c v) (K : post (dp, upd ce (25 * s + k) (fz_c v), hy, ro, le)) : wpY_put post (dp, ce, hy, ro, le) p k0 x := by
  subst ep ek
  refine ⟨fz_nz101, ?_⟩
  rw [fz_ix, nI_clamp (by omega), hv]
  exact ⟨vp_in_nI (by omega) (by decide), nm_e K⟩
theorem gy_set {post : SY → Prop} {p x : Int32} (s : Nat) (v : Fin 101) (hs : s < 22) (ep : p = nI s) (ex : x = fz_c v) (K : ∀ ce', fz_at ce' (25 * s) (fz_o 0 v) → fz_fr ce ce' s → post (dp, ce', hy, ro, le)) : wpY_setConstant post (dp, ce, hy, ro, le) p x := by
  subst ep ex
  refine pk_loop (fun n i t => wY_setConstant_2 post (nI s) (fz_c v) n (nI i) dp t hy ro le) (fun i t => (∀ k, k < i → t (25 * s + k) = fz_c (fz_o 0 v k)) ∧ fz_fr ce t s) 25 0 ce (by omega) ⟨fun k h => by omega, fz_fr_rfl ce s⟩ ?_ ?_
  · intro n t h
    exact br_t (by decide) (K t h.1 h.2)
  · intro n i t hi h ih
    refine br_f (nI_ge (b := 25) hi (by decide)) ?_
    by_cases d : i = 0
    · refine br_t (by rw [d]; rfl) ?_
      refine gy_put (post := _) s i v hs hi rfl rfl (fz_rem_1 v) ?_
      refine nm_r (nI_1 i) ?_
      exact ih _ ⟨fz_upo h.1 (by rw [d]; rfl), fz_fr_up h.2 hi⟩
    · refine br_f (nI_ne0 (by omega) (by omega)) ?_
      refine gy_put (post := _) s i 0 hs hi rfl rfl (by decide) ?_
      refine nm_r (nI_1 i) ?_
      exact ih _ ⟨fz_upo h.1 (by show fz_c 0 = fz_c (if i = 0 then v else 0); rw [if_neg d]), fz_fr_up h.2 hi⟩
theorem gy_copy {post : SY → Prop} {p q : Int32} {f : Nat → Fin 101} (s r : Nat) (hs : s < 22) (hr : r < 22) (hn : s ≠ r) (ep : p = nI s) (eq : q = nI r) (hf : fz_at ce (25 * s) f) (K : ∀ ce', fz_at ce' (25 * r) f → fz_fr ce ce' r → post (dp, ce', hy, ro, le)) : wpY_copy post (dp, ce, hy, ro, le) p q := by
  subst ep eq
  refine pk_loop (fun n i t => wY_copy_2 post (nI s) (nI r) dp n (nI i) t hy ro le) (fun i t => (∀ k, k < i → t (25 * r + k) = fz_c (f k)) ∧ fz_fr ce t r) 25 0 ce (by omega) ⟨fun k h => by omega, fz_fr_rfl ce r⟩ ?_ ?_
  · intro n t h
    exact br_t (by decide) (K t h.1 h.2)
  · intro n i t hi h ih
    refine br_f (nI_ge (b := 25) hi (by decide)) ?_
    rw [fz_ix, fz_ix]
    refine ⟨vp_in_nI (by omega) (by decide), vp_in_nI (by omega) (by decide), ?_⟩
    refine nm_r (e' := upd t (25 * r + i) (fz_c (f i))) (by rw [nI_clamp (by omega), nI_clamp (by omega), h.2 s hn i hi, hf i hi]) ?_
    refine nm_r (nI_1 i) ?_
    exact ih _ ⟨fz_upo h.1 rfl, fz_fr_up h.2 hi⟩
theorem gy_deg {post : Int32 → Prop} {p : Int32} {f : Nat → Fin 101} (s : Nat) (hs : s < 22) (ep : p = nI s) (hf : fz_at ce (25 * s) f) (lf : fz_l f 25) (K0 : f = fz_o 0 0 → post (-1)) (K1 : ∀ m, m < 25 → fz_e f m → post (nI m)) : wpY_degree post (dp, ce, hy, ro, le) p := by
  subst ep
  refine pk_loop (fun n i x => wY_degree_4 post (nI s) dp ce hy ro le n x (nI i)) (fun i x => (x = -1 ∧ ∀ k, k < i → f k = 0) ∨ ∃ m, m < i ∧ x = nI m ∧ f m ≠ 0 ∧ ∀ k, m < k → k < i → f k = 0) 25 0 (-1) (by omega) (Or.inl ⟨rfl, fun k h => by omega⟩) ?_ ?_
  · intro n x h
    refine br_t (by decide) ?_
    rcases h with ⟨e, h⟩ | ⟨m, hm, e, hn, h⟩
    · rw [e]
      refine K0 (fz_l_0 (fun k _ => ?_))
      by_cases d : k < 25
      · exact h k d
      · exact lf k (by omega)
    · rw [e]
      refine K1 m hm ⟨hn, fun k hk => ?_⟩
      by_cases d : k < 25
      · exact h k (by omega) d
      · exact lf k (by omega)
  · intro n i x hi h ih
    refine br_f (nI_ge (b := 25) hi (by decide)) ?_
    refine gy_get (post := _) s i hs hi rfl rfl ?_
    rw [hf i hi]
    by_cases z : f i = 0
    · refine br_t (fz_c_z.mpr z) ?_
      refine nm_r (nI_1 i) ?_
      refine ih _ ?_
      rcases h with ⟨e, h⟩ | ⟨m, hm, e, hn, h⟩
      · exact Or.inl ⟨e, fun k hk => by
          by_cases d : k = i
          · rw [d]; exact z
          · exact h k (by omega)⟩
      · exact Or.inr ⟨m, by omega, e, hn, fun k h1 h2 => by
          by_cases d : k = i
          · rw [d]; exact z
          · exact h k h1 (by omega)⟩
    · refine br_f (fun y => z (fz_c_z.mp y)) ?_
      refine nm_r (nI_1 i) ?_
      exact ih _ (Or.inr ⟨i, by omega, rfl, z, fun k h1 h2 => by omega⟩)
theorem gy_muli {post : SY → Prop} {J3 : Int32 → Int32 → (Nat → Int32) → (Nat → Int32) → (Nat → Int32) → (Nat → Int32) → Prop} {f g : Nat → Fin 101} (s s' r i : Nat) (hs : s < 22) (hs' : s' < 22) (hr : r < 22) (hi : i < 25) (hf : fz_at ce (25 * s) f) (hg : fz_at ce (25 * s') g) (K : J3 (nI (i + 1)) dp (upd ce (25 * r + i) (fz_c (fz_m f g i))) hy ro le) : ∃ n, wY_multiply_16 post J3 (nI s) (nI s') (nI r) (nI i) dp ce hy ro le n 0 0 := by
  refine pk_loop (fun n j x => wY_multiply_16 post J3 (nI s) (nI s') (nI r) (nI i) dp ce hy ro le n x (nI j)) (fun j x => ∃ N, x = nI N ∧ N ≤ j * 10000 ∧ Fin.ofNat 101 N = fz_s j (fun k => f k * g (i - k))) (i + 1) 0 0 (by omega) ⟨0, rfl, by omega, rfl⟩ ?_ ?_
  · intro n x h
    obtain ⟨N, e, hN, h⟩ := h
    refine br_t (nI_lt (by omega) (by omega)) ?_
    refine gy_put (post := _) r i (fz_m f g i) hr hi rfl rfl ?_ ?_
    · rw [e, fz_rem (by omega), h]
      rfl
    · exact nm_r (nI_1 i) K
  · intro n j x hj h ih
    obtain ⟨N, e, hN, h⟩ := h
    refine br_f (nI_nlt (by omega) (by omega)) ?_
    refine gy_get (post := _) s j hs (by omega) rfl rfl ?_
    refine gy_get (post := _) s' (i - j) hs' (by omega) rfl (pk_sub (by omega)) ?_
    rw [hf j (by omega), hg (i - j) (by omega)]
    refine nm_r (e' := nI (N + (f j).val * (g (i - j)).val)) ?_ ?_
    · rw [e, ← nI_add, ← pk_mul]
      rfl
    · refine nm_r (nI_1 j) ?_
      have hm := fz_mul_lt (f j) (g (i - j))
      refine ih _ ⟨_, rfl, by omega, ?_⟩
      rw [fz_ofNat_add, fz_of_mul, fz_of_val, fz_of_val, h]
      rfl
theorem gy_mul {post : SY → Prop} {p p' q : Int32} {f g : Nat → Fin 101} (s s' r : Nat) (hs : s < 22) (hs' : s' < 22) (hr : r < 22) (h1 : s ≠ r) (h2 : s' ≠ r) (ep : p = nI s) (ep' : p' = nI s') (eq : q = nI r) (hf : fz_at ce (25 * s) f) (hg : fz_at ce (25 * s') g) (K : ∀ ce', fz_at ce' (25 * r) (fz_m f g) → fz_fr ce ce' r → post (dp, ce', hy, ro, le)) : wpY_multiply post (dp, ce, hy, ro, le) p p' q := by
  subst ep ep' eq
  refine pk_loop (fun n i t => wY_multiply_3 post (nI s) (nI s') (nI r) n (nI i) dp t hy ro le) (fun i t => (∀ k, k < i → t (25 * r + k) = fz_c (fz_m f g k)) ∧ fz_fr ce t r) 25 0 ce (by omega) ⟨fun k h => by omega, fz_fr_rfl ce r⟩ ?_ ?_
  · intro n t h
    exact br_t (by decide) (K t h.1 h.2)
  · intro n i t hi h ih
    refine br_f (nI_ge (b := 25) hi (by decide)) ?_
    refine gy_muli s s' r i hs hs' hr hi (fz_fr_at h.2 h1 hf) (fz_fr_at h.2 h2 hg) ?_
    exact ih _ ⟨fz_upo h.1 rfl, fz_fr_up h.2 hi⟩
theorem gy_add {post : SY → Prop} {p q x : Int32} {f g : Nat → Fin 101} (s r : Nat) (u : Fin 101) (hs : s < 22) (hr : r < 22) (hn : r ≠ s) (ep : p = nI s) (eq : q = nI r) (ex : x = fz_c u) (hf : fz_at ce (25 * s) f) (hg : fz_at ce (25 * r) g) (K : ∀ ce', fz_at ce' (25 * s) (fz_a f (fz_m (fz_o 0 u) g)) → fz_fr ce ce' s → post (dp, ce', hy, ro, le)) : wpY_addMultiple post (dp, ce, hy, ro, le) p q x := by
  subst ep eq ex
  refine pk_loop (fun n i t => wY_addMultiple_3 post (nI s) (nI r) (fz_c u) n (nI i) dp t hy ro le) (fun i t => (∀ k, k < i → t (25 * s + k) = fz_c (fz_a f (fz_m (fz_o 0 u) g) k)) ∧ (∀ k, i ≤ k → k < 25 → t (25 * s + k) = fz_c (f k)) ∧ fz_fr ce t s) 25 0 ce (by omega) ⟨fun k h => by omega, fun k _ h => hf k h, fz_fr_rfl ce s⟩ ?_ ?_
  · intro n t h
    exact br_t (by decide) (K t h.1 h.2.2)
  · intro n i t hi h ih
    refine br_f (nI_ge (b := 25) hi (by decide)) ?_
    refine gy_get (post := _) s i hs hi rfl rfl ?_
    refine gy_get (post := _) r i hr hi rfl rfl ?_
    rw [h.2.1 i (by omega) hi, fz_fr_at h.2.2 hn hg i hi]
    refine gy_put (post := _) s i (fz_a f (fz_m (fz_o 0 u) g) i) hs hi rfl rfl ?_ ?_
    · rw [fz_rem_ma, fz_m_const]
      rfl
    · refine nm_r (nI_1 i) ?_
      exact ih _ ⟨fz_upo h.1 rfl, fun k h1 h2 => by rw [pk_un (by omega)]; exact h.2.1 k (by omega) h2, fz_fr_up h.2.2 hi⟩
theorem gy_inv {post : Int32 → Prop} {x : Int32} (a : Fin 101) (h : a ≠ 0) (ex : x = fz_c a) (K : post (fz_c (fz_i a))) : wpY_inverse post (dp, ce, hy, ro, le) x := by
  subst ex
  have key : ∀ n j, (fz_i a).val < j + n → j ≤ (fz_i a).val → wY_inverse_2 post (fz_c a) dp ce hy ro le n (nI j) := by
    intro n
    induction n with
    | zero => intro j h1 h2; omega
    | succ n ih =>
      intro j h1 h2
      have hi := (fz_i a).isLt
      refine br_f (nI_ge (b := 101) (by omega) (by decide)) ⟨fz_nz101, ?_⟩
      have e : nI j = fz_c (Fin.ofNat 101 j) := by
        show nI j = nI (j % 101)
        rw [Nat.mod_eq_of_lt (by omega)]
      rw [e, fz_rem_m]
      by_cases d : j = (fz_i a).val
      · rw [d, fz_of_val]
        refine br_t ?_ K
        rw [fz_i_m a h]
        rfl
      · refine br_f ?_ ?_
        · rw [← fz_c_1, fz_c_inj]
          intro y
          have y2 := congrArg Fin.val (fz_i_u y)
          rw [show (Fin.ofNat 101 j).val = j from Nat.mod_eq_of_lt (by omega)] at y2
          exact d y2
        · rw [← e]
          refine nm_r (nI_1 j) ?_
          exact ih (j + 1) (by omega) (by omega)
  refine ⟨101, ?_⟩
  have h0 : (fz_i a).val ≠ 0 := fun z => fz_i_nz h (Fin.ext z)
  have hi := (fz_i a).isLt
  exact key 101 1 (by omega) (by omega)
theorem gy_push {post : Int32 → SY → Prop} {x : Int32} (d : Nat) (hd : d < 7) (K : post (nI (d + 1)) (nI (d + 1), ce, upd hy d x, ro, le)) : wpY_push post (nI d, ce, hy, ro, le) x := by
  refine ⟨vp_in_nI hd (by decide), ?_⟩
  refine nm_r (e' := upd hy d x) (by rw [nI_clamp (by omega)]) ?_
  exact nm_r (nI_1 d) K
theorem gy_take {post : SY → Prop} {p : Int32} {f g : Nat → Fin 101} (i : Nat) (hi : i < 6) (ep : p = nI i) (hf : fz_at ce (25 * 14) f) (hg : fz_at ce (25 * 15) g) (K : ∀ ce', fz_at ce' (25 * (2 * i)) f → fz_at ce' (25 * (2 * i + 1)) g → (∀ s, s ≠ 2 * i → s ≠ 2 * i + 1 → ∀ k, k < 25 → ce' (25 * s + k) = ce (25 * s + k)) → post (dp, ce', hy, ro, le)) : wpY_take post (dp, ce, hy, ro, le) p := by
  subst ep
  refine gy_copy (post := _) 14 (2 * i) (by omega) (by omega) (by omega) rfl (pk_mul 2 i) hf (fun c1 h1 h2 => ?_)
  refine gy_copy (post := _) 15 (2 * i + 1) (by omega) (by omega) (by omega) rfl ((congrArg (· + 1) (pk_mul 2 i)).trans (nI_1 (2 * i))) (fz_fr_at h2 (by omega) hg) (fun c2 h3 h4 => ?_)
  exact K c2 (fz_fr_at h4 (by omega) h1) h3 (fun s n1 n2 k hk => (h4 s n2 k hk).trans (h2 s n1 k hk))
theorem gy_val {post : Int32 → Prop} {p x : Int32} {f : Nat → Fin 101} (s : Nat) (a : Fin 101) (hs : s < 22) (ep : p = nI s) (ex : x = fz_c a) (hf : fz_at ce (25 * s) f) (K : post (fz_c (fz_h 25 f a))) : wpY_valueOf post (dp, ce, hy, ro, le) p x := by
  subst ep ex
  have key := pk_loopD (fun n j (x : Int32) => wY_valueOf_6 post (nI s) (fz_c a) dp ce hy ro le n x (fz_d1 j)) (fun j x => j ≤ 25 ∧ x = fz_c (fz_h (25 - j) (fun i => f (i + j)) a)) (fun n x h => by
    refine br_t (by decide) ?_
    rw [h.2]
    exact K) (fun n j x h ih => by
    refine br_f (nI_pos (by omega)) ?_
    refine gy_get (post := _) s j hs (by omega) rfl rfl ?_
    refine ⟨fz_nz101, ?_⟩
    refine nm_r (e' := fz_c (fz_h (25 - j) (fun i => f (i + j)) a)) ?_ ?_
    · rw [h.2, hf j (by omega), fz_rem_h]
      congr 1
      rw [show 25 - j = 25 - (j + 1) + 1 by omega]
      show _ = f (0 + j) + a * fz_h (25 - (j + 1)) (fun i => f (i + 1 + j)) a
      rw [Nat.zero_add, show (fun i => f (i + 1 + j)) = (fun i => f (i + (j + 1))) from funext (fun i => by congr 1; omega)]
      grind
    · refine nm_r (fz_d1_s j) ?_
      exact ih _ ⟨by omega, rfl⟩)
  exact ⟨26, key 25 0 ⟨by omega, rfl⟩⟩
theorem gy_dout {post : SY → Prop} {p x : Int32} {f : Nat → Fin 101} (s : Nat) (a : Fin 101) (hs : s < 22) (ep : p = nI s) (ex : x = fz_c a) (hf : fz_at ce (25 * s) f) (K : ∀ ce', fz_at ce' (25 * s) (fz_q 25 f a) → fz_fr ce ce' s → post (dp, ce', hy, ro, le)) : wpY_divideOut post (dp, ce, hy, ro, le) p x := by
  subst ep ex
  have key := pk_loopD (fun n j (y : Int32 × (Nat → Int32)) => wY_divideOut_6 post (nI s) (fz_c a) n y.1 (fz_d1 j) dp y.2 hy ro le) (fun j y => j ≤ 25 ∧ y.1 = fz_c (fz_h (25 - j) (fun i => f (i + j)) a) ∧ (∀ k, k < j → y.2 (25 * s + k) = fz_c (f k)) ∧ (∀ k, j ≤ k → k < 25 → y.2 (25 * s + k) = fz_c (fz_q 25 f a k)) ∧ fz_fr ce y.2 s) (fun n y h => by
    refine br_t (by decide) ?_
    exact K _ (fun k hk => h.2.2.2.1 k (by omega) hk) h.2.2.2.2) (fun n j y h ih => by
    obtain ⟨h1, h2, h3, h4, h5⟩ := h
    refine br_f (nI_pos (by omega)) ?_
    refine gy_get (post := _) s j hs (by omega) rfl rfl ?_
    refine gy_put (post := _) s j (fz_h (25 - (j + 1)) (fun i => f (i + (j + 1))) a) hs (by omega) rfl rfl (by rw [h2]; exact fz_rem_1 _) ?_
    refine ⟨fz_nz101, ?_⟩
    refine nm_r (e' := fz_c (fz_h (25 - j) (fun i => f (i + j)) a)) ?_ ?_
    · rw [h2, h3 j (by omega), fz_rem_h]
      congr 1
      rw [show 25 - j = 25 - (j + 1) + 1 by omega]
      show _ = f (0 + j) + a * fz_h (25 - (j + 1)) (fun i => f (i + 1 + j)) a
      rw [Nat.zero_add, show (fun i => f (i + 1 + j)) = (fun i => f (i + (j + 1))) from funext (fun i => by congr 1; omega)]
      grind
    · refine nm_r (fz_d1_s j) ?_
      refine ih (_, _) ⟨by omega, rfl, fun k hk => ?_, fun k k1 k2 => ?_, fz_fr_up h5 (by omega)⟩
      · exact (pk_un (by omega)).trans (h3 k (by omega))
      · by_cases d : k = j
        · subst d
          refine pk_us.trans ?_
          congr 1
          show _ = fz_h (25 - 1 - k) (fun i => f (i + (k + 1))) a
          rw [show 25 - (k + 1) = 25 - 1 - k by omega]
        · exact (pk_un (by omega)).trans (h4 k (by omega) k2))
  exact ⟨26, key 25 (0, ce) ⟨by omega, rfl, fun k hk => hf k hk, fun k h1 h2 => by omega, fz_fr_rfl ce s⟩⟩
end
end
section
/-! the reference's fractionAt, reduce, findDerivative -/
theorem fz_h_o (a c : Fin 101) : fz_h 25 (fz_o 0 c) a = c := fz_v_uniq (fz_v_h a (fz_l_o (by omega))) (fz_v_o a c)
theorem fz_ans_0 {P Q : Nat → Fin 101} (a : Fin 101) (h : fz_low P Q) (z : P = fz_o 0 0) : fz_ans P Q a = 0 := by
  have e := (fz_uniq h fz_low_01 (by rw [z, fz_m_zero, fz_m_zero])).2
  rw [fz_ans, z, e, fz_h_o, fz_h_o, if_neg (by decide)]
  have : (0 : Fin 101) * fz_i 1 = 0 := by grind
  rw [this]
  rfl
theorem fz_q_m {f : Nat → Fin 101} {a : Fin 101} (h : fz_l f 25) (z : fz_h 25 f a = 0) : f = fz_m (fz_x a) (fz_q 25 f a) := by
  have e := fz_h_split a h
  rw [z, fz_a_z] at e
  exact e
theorem fz_q_p (f : Nat → Fin 101) (a : Fin 101) : fz_p (fz_q 25 f a) := ⟨_, fz_q_l f a⟩
theorem fz_r_xc {R : Type} [Lean.Grind.CommRing R] {P Q x f g f' g' : R} (h : P * g' = f' * Q) (hf : f' = x * f) (hg : g' = x * g) : x * (P * g) = x * (f * Q) := by grind
theorem fz_d1_lt {d : Nat} (h : d < 2 ^ 31) : fz_d1 d < nI d := by
  cases d with
  | zero => decide
  | succ d => exact nI_lt (by omega) h
def fz_rdi (f g : Nat → Fin 101) (j d : Nat) (sc : Fin 101) (i : Nat) : Nat → Fin 101 := fun k => if j + d < k + i ∧ j ≤ k ∧ k ≤ j + d then f k - sc * g (k - j) else f k
theorem fz_rdi_0 (f g : Nat → Fin 101) (j d : Nat) (sc : Fin 101) : fz_rdi f g j d sc 0 = f := funext (fun k => if_neg (by omega))
theorem fz_rdi_at (f g : Nat → Fin 101) (j d : Nat) (sc : Fin 101) {i : Nat} (hi : i ≤ d) : fz_rdi f g j d sc i (j + d - i) = f (j + d - i) := if_neg (by omega)
theorem fz_rdi_s (f g : Nat → Fin 101) (j d : Nat) (sc : Fin 101) {i : Nat} (hi : i ≤ d) : fz_rdi f g j d sc (i + 1) (j + d - i) = f (j + d - i) - sc * g (d - i) := by
  show (if j + d < j + d - i + (i + 1) ∧ j ≤ j + d - i ∧ j + d - i ≤ j + d then f (j + d - i) - sc * g (j + d - i - j) else f (j + d - i)) = _
  rw [if_pos (by omega), show j + d - i - j = d - i by omega]
theorem fz_rdi_o (f g : Nat → Fin 101) (j d : Nat) (sc : Fin 101) {i : Nat} (hi : i ≤ d) : ∀ k, k ≠ j + d - i → fz_rdi f g j d sc (i + 1) k = fz_rdi f g j d sc i k := fun k hk => by
  show (if j + d < k + (i + 1) ∧ j ≤ k ∧ k ≤ j + d then f k - sc * g (k - j) else f k) = (if j + d < k + i ∧ j ≤ k ∧ k ≤ j + d then f k - sc * g (k - j) else f k)
  by_cases c : j + d < k + i ∧ j ≤ k ∧ k ≤ j + d
  · rw [if_pos c, if_pos (by omega)]
  · rw [if_neg c, if_neg (by omega)]
theorem fz_rdi_e {f g : Nat → Fin 101} {j d : Nat} {sc : Fin 101} (lg : fz_l g (d + 1)) : fz_rdi f g j d sc (d + 1) = fz_d f (fz_m (fz_o j sc) g) := by
  funext k
  show (if j + d < k + (d + 1) ∧ j ≤ k ∧ k ≤ j + d then f k - sc * g (k - j) else f k) = f k - fz_m (fz_o j sc) g k
  rw [fz_m_mono]
  by_cases c : j ≤ k
  · rw [if_pos c]
    by_cases e : k ≤ j + d
    · rw [if_pos (by omega)]
    · rw [if_neg (by omega), lg (k - j) (by omega)]
      grind
  · rw [if_neg (by omega), if_neg c]
    grind
def fz_fr2 (ce ce' : Nat → Int32) (r r' : Nat) : Prop := ∀ s, s ≠ r → s ≠ r' → ∀ k, k < 25 → ce' (25 * s + k) = ce (25 * s + k)
theorem fz_fr2_at {ce ce' : Nat → Int32} {r r' s : Nat} {f : Nat → Fin 101} (h : fz_fr2 ce ce' r r') (hs : s ≠ r) (hs' : s ≠ r') (hf : fz_at ce (25 * s) f) : fz_at ce' (25 * s) f := fun k hk => by
  rw [h s hs hs' k hk]
  exact hf k hk
theorem fz_r_fd {R : Type} [Lean.Grind.CommRing R] (a b : R) : a - b = a + (-1) * b := by grind
section
variable {dp : Int32} {ce hy ro le : Nat → Int32}
theorem gy_fr61 {post : Int32 → SY → Prop} {P Q f g : Nat → Fin 101} (a : Fin 101) (hc : fz_co P Q) (lP : fz_l P 25) (lQ : fz_l Q 25) (lf : fz_l f 25) (lg : fz_l g 25) (hf : fz_at ce (25 * 18) f) (hg : fz_at ce (25 * 19) g) (e : fz_m P g = fz_m f Q) (hn : ¬ (fz_h 25 f a = 0 ∧ fz_h 25 g a = 0))
    (K : post (fz_ans P Q a) (dp, ce, hy, ro, le)) : wY_fractionAt_61 post (fz_c a) dp ce hy ro le := by
  have hv := fz_val hc e (fz_v_h a lP) (fz_v_h a lQ) (fz_v_h a lf) (fz_v_h a lg) hn
  refine gy_val (post := _) 19 a (by omega) rfl rfl hg ?_
  by_cases z : fz_h 25 g a = 0
  · refine br_t (fz_c_z.mpr z) ?_
    rw [fz_ans, if_pos (hv.1 z)] at K
    exact K
  · refine br_f (fun y => z (fz_c_z.mp y)) ?_
    refine gy_val (post := _) 18 a (by omega) rfl rfl hf ?_
    refine gy_inv (post := _) _ z rfl ?_
    refine ⟨fz_nz101, ?_⟩
    rw [fz_rem_m, ← (hv.2 z).2]
    rw [fz_ans, if_neg (hv.2 z).1] at K
    exact K
theorem gy_fr24 {post : Int32 → SY → Prop} {P Q : Nat → Fin 101} (a : Fin 101) (hL : fz_low P Q) (lP : fz_l P 25) (lQ : fz_l Q 25) (K : ∀ ce', fz_fr2 ce ce' 18 19 → post (fz_ans P Q a) (dp, ce', hy, ro, le)) : ∀ (n m : Nat) (ce1 : Nat → Int32) (f g : Nat → Fin 101), m < n → m < 25 → fz_e f m → fz_l g 25 → g ≠ fz_o 0 0 → fz_at ce1 (25 * 18) f → fz_at ce1 (25 * 19) g → fz_m P g = fz_m f Q → fz_fr2 ce ce1 18 19 → wY_fractionAt_24 post (fz_c a) n dp ce1 hy ro le := by
  intro n
  induction n with
  | zero => intro m ce1 f g h; omega
  | succ n ih =>
    intro m ce1 f g hmn hm hf lg ng h18 h19 e fr
    have lf : fz_l f 25 := fz_l_mono hf.2 (by omega)
    refine gy_val (post := _) 18 a (by omega) rfl rfl h18 ?_
    by_cases z : fz_h 25 f a = 0
    · refine br_t (fz_c_z.mpr z) ?_
      refine gy_val (post := _) 19 a (by omega) rfl rfl h19 ?_
      by_cases z' : fz_h 25 g a = 0
      · refine br_t (fz_c_z.mpr z') ?_
        refine gy_dout (post := _) 18 a (by omega) rfl rfl h18 (fun c1 k1 k2 => ?_)
        refine gy_dout (post := _) 19 a (by omega) rfl rfl (fz_fr_at k2 (by omega) h19) (fun c2 k3 k4 => ?_)
        have ef := fz_q_m lf z
        have eg := fz_q_m lg z'
        have nf' : fz_q 25 f a ≠ fz_o 0 0 := fun y => fz_e_ne hf (by rw [ef, y, fz_m_comm, fz_m_zero])
        have ng' : fz_q 25 g a ≠ fz_o 0 0 := fun y => ng (by rw [eg, y, fz_m_comm, fz_m_zero])
        obtain ⟨i, hi⟩ := fz_e_exp (fz_q_p f a) nf'
        have hx := fz_e_m (fz_x_e a) hi
        rw [← ef] at hx
        have d1 := fz_e_lt hx hf.2
        refine ih i c2 (fz_q 25 f a) (fz_q 25 g a) (by omega) (by omega) hi (fz_l_mono (fz_q_l g a) (by omega)) ng' (fz_fr_at k4 (by omega) k1) k3 ?_ ?_
        · exact fz_cancel (fz_e_p (fz_x_e a)) (fz_p_m hL.1 (fz_q_p g a)) (fz_p_m (fz_q_p f a) ⟨_, lQ⟩) (fz_e_ne (fz_x_e a)) (@fz_r_xc _ fz_ring P Q (fz_x a) (fz_q 25 f a) (fz_q 25 g a) f g e ef eg)
        · intro s n1 n2 k hk
          rw [k4 s n2 k hk, k2 s n1 k hk]
          exact fr s n1 n2 k hk
      · refine br_f (fun y => z' (fz_c_z.mp y)) ?_
        exact gy_fr61 a hL.2.1 lP lQ lf lg h18 h19 e (fun y => z' y.2) (K ce1 fr)
    · refine br_f (fun y => z (fz_c_z.mp y)) ?_
      exact gy_fr61 a hL.2.1 lP lQ lf lg h18 h19 e (fun y => z y.1) (K ce1 fr)
theorem gy_frac {post : Int32 → SY → Prop} {p q x : Int32} {P Q f g : Nat → Fin 101} (s r : Nat) (a : Fin 101) (hs : s < 18) (hr : r < 18) (ep : p = nI s) (eq : q = nI r) (ex : x = fz_c a) (hL : fz_low P Q) (lP : fz_l P 25) (lQ : fz_l Q 25) (lf : fz_l f 25) (lg : fz_l g 25) (ng : g ≠ fz_o 0 0) (hf : fz_at ce (25 * s) f) (hg : fz_at ce (25 * r) g) (e : fz_m P g = fz_m f Q)
    (K : ∀ ce', fz_fr2 ce ce' 18 19 → post (fz_ans P Q a) (dp, ce', hy, ro, le)) : wpY_fractionAt post (dp, ce, hy, ro, le) p q x := by
  subst ex
  unfold wpY_fractionAt
  refine gy_deg (post := _) s (by omega) ep hf lf (fun z => ?_) (fun m hm he => ?_)
  · refine br_f (by decide) ?_
    have zP := (fz_zero_iff hL.1 (fz_low_pQ hL) ⟨_, lf⟩ ⟨_, lg⟩ (fz_low_nQ hL) ng e).mpr z
    have k := K ce (fun _ _ _ _ _ => rfl)
    rw [fz_ans_0 a hL zP] at k
    exact k
  · refine br_t (nI_pos' (by omega)) ?_
    refine gy_copy (post := _) s 18 (by omega) (by omega) (by omega) ep rfl hf (fun c1 k1 k2 => ?_)
    refine gy_copy (post := _) r 19 (by omega) (by omega) (by omega) eq rfl (fz_fr_at k2 (by omega) hg) (fun c2 k3 k4 => ?_)
    refine ⟨26, gy_fr24 (ce := ce) a hL lP lQ K 26 m c2 f g (by omega) hm he lg ng (fz_fr_at k4 (by omega) k1) k3 e ?_⟩
    intro t n1 n2 k hk
    rw [k4 t n2 k hk, k2 t n1 k hk]
theorem gy_redi {post : SY → Prop} {J30 : Int32 → Int32 → (Nat → Int32) → (Nat → Int32) → (Nat → Int32) → (Nat → Int32) → Prop} {x3 x5 : Int32} {f g : Nat → Fin 101} (p q d j : Nat) (sc : Fin 101) (hp : p < 22) (hq : q < 22) (hn : q ≠ p) (hj : j + d < 25) (hf : fz_at ce (25 * p) f) (hg : fz_at ce (25 * q) g) (lg : fz_l g (d + 1))
    (K : ∀ ce', fz_at ce' (25 * p) (fz_d f (fz_m (fz_o j sc) g)) → fz_fr ce ce' p → J30 (fz_d1 (j + d)) dp ce' hy ro le) : ∃ n, wY_reduce_67 post J30 (nI p) (nI q) x3 (nI d) x5 (nI (j + d)) (fz_c sc) n 0 dp ce hy ro le := by
  refine pk_loop (fun n i t => wY_reduce_67 post J30 (nI p) (nI q) x3 (nI d) x5 (nI (j + d)) (fz_c sc) n (nI i) dp t hy ro le) (fun i t => fz_at t (25 * p) (fz_rdi f g j d sc i) ∧ fz_fr ce t p) (d + 1) 0 ce (by omega) ⟨by rw [fz_rdi_0]; exact hf, fz_fr_rfl ce p⟩ ?_ ?_
  · intro n t h
    refine br_t (nI_lt (by omega) (by omega)) ?_
    refine nm_r (fz_d1_s (j + d)) ?_
    refine K t ?_ h.2
    rw [← fz_rdi_e lg]
    exact h.1
  · intro n i t hi h ih
    refine br_f (nI_nlt (by omega) (by omega)) ?_
    refine gy_get (post := _) p (j + d - i) hp (by omega) rfl (pk_sub (by omega)) ?_
    refine gy_get (post := _) q (d - i) hq (by omega) rfl (pk_sub (by omega)) ?_
    rw [h.1 (j + d - i) (by omega), fz_rdi_at _ _ _ _ _ (by omega), fz_fr_at h.2 hn hg (d - i) (by omega)]
    refine gy_put (post := _) p (j + d - i) (f (j + d - i) - sc * g (d - i)) hp (by omega) rfl (pk_sub (by omega)) (fz_rem_ms _ _ _) ?_
    refine nm_r (nI_1 i) ?_
    exact ih _ ⟨fz_at_up h.1 (by rw [fz_rdi_s _ _ _ _ _ (by omega)]) (fz_rdi_o f g j d sc (by omega)), fz_fr_up h.2 (by omega)⟩
theorem gy_red {post : SY → Prop} {xp xq xr : Int32} {f g : Nat → Fin 101} (p q r d : Nat) (hp : p < 22) (hq : q < 22) (hr : r < 22) (n1 : q ≠ p) (n2 : r ≠ p) (n3 : q ≠ r) (ep : xp = nI p) (eq : xq = nI q) (er : xr = nI r) (hd : d < 25) (hf : fz_at ce (25 * p) f) (lf : fz_l f 25) (hg : fz_at ce (25 * q) g) (he : fz_e g d)
    (K : ∀ ce' s t, fz_at ce' (25 * p) t → fz_at ce' (25 * r) s → fz_l s 25 → fz_l t d → f = fz_a (fz_m s g) t → fz_fr2 ce ce' p r → post (dp, ce', hy, ro, le)) : wpY_reduce post (dp, ce, hy, ro, le) xp xq xr := by
  subst ep eq er
  unfold wpY_reduce
  refine gy_deg (post := _) q hq rfl hg (fz_l_mono he.2 (by omega)) (fun z => absurd z (fz_e_ne he)) (fun m hm hme => ?_)
  have em : m = d := by
    have a := fz_e_lt hme he.2
    have b := fz_e_lt he hme.2
    omega
  subst em
  refine gy_get (post := _) q m hq hm rfl rfl ?_
  rw [hg m hm]
  refine gy_inv (post := _) (g m) he.1 rfl ?_
  refine gy_set (post := _) r 0 hr rfl rfl (fun c1 k1 k2 => ?_)
  have key := pk_loopD (fun n j (t : Nat → Int32) => wY_reduce_30 post (nI p) (nI q) (nI r) (nI m) (fz_c (fz_i (g m))) n (fz_d1 (j + m)) dp t hy ro le)
    (fun j t => ∃ Q u, fz_at t (25 * p) u ∧ fz_at t (25 * r) Q ∧ fz_l Q 25 ∧ (∀ k, k < j → Q k = 0) ∧ fz_l u (j + m) ∧ f = fz_a (fz_m Q g) u ∧ j + m ≤ 25 ∧ fz_fr2 ce t p r) (fun n t h => by
    obtain ⟨Q, u, h1, h2, h3, h4, h5, h6, h7, h8⟩ := h
    rw [Nat.zero_add] at h5
    refine br_t (by rw [Nat.zero_add]; exact fz_d1_lt (by omega)) ?_
    exact K t Q u h1 h2 h3 h5 h6 h8) (fun n j t h ih => by
    obtain ⟨Q, u, h1, h2, h3, h4, h5, h6, h7, h8⟩ := h
    have e6 : fz_d1 (j + 1 + m) = nI (j + m) := by
      rw [show j + 1 + m = j + m + 1 by omega]
      rfl
    rw [e6]
    refine br_f (nI_nlt (by omega) (by omega)) ?_
    refine gy_get (post := _) p (j + m) hp (by omega) rfl rfl ?_
    refine ⟨fz_nz101, ?_⟩
    refine nm_r (e' := fz_c (u (j + m) * fz_i (g m))) (by rw [h1 (j + m) (by omega), fz_rem_m]) ?_
    refine gy_put (post := _) r j (u (j + m) * fz_i (g m)) hr (by omega) rfl ((pk_sub (by omega)).trans (congrArg nI (by omega))) (fz_rem_1 _) ?_
    have fr1 : fz_fr t (upd t (25 * r + j) (fz_c (u (j + m) * fz_i (g m)))) r := fz_fr_up (fz_fr_rfl t r) (by omega)
    refine gy_redi p q m j _ hp hq n1 (by omega) (fz_fr_at fr1 (fun y => n2 y.symm) h1) (fz_fr_at fr1 n3 (fz_fr2_at h8 n1 n3 hg)) he.2 (fun c2 m1 m2 => ?_)
    refine ih c2 ⟨fz_a Q (fz_o j (u (j + m) * fz_i (g m))), _, m1, ?_, ?_, ?_, ?_, fz_div_inv _ h6, by omega, ?_⟩
    · refine fz_fr_at m2 n2 (fz_at_up h2 ?_ ?_)
      · show _ = fz_c (Q j + (if j = j then u (j + m) * fz_i (g m) else 0))
        rw [if_pos rfl, h4 j (by omega)]
        congr 1
        grind
      · intro k hk
        show Q k + (if k = j then u (j + m) * fz_i (g m) else 0) = Q k
        rw [if_neg hk]
        grind
    · exact fz_l_a h3 (fz_l_o (by omega))
    · intro k hk
      show Q k + (if k = j then u (j + m) * fz_i (g m) else 0) = 0
      rw [if_neg (by omega), h4 k (by omega)]
      rfl
    · exact fz_div_step he (by rw [show j + m + 1 = j + 1 + m by omega]; exact h5)
    · intro s a1 a2 k hk
      rw [m2 s a1 k hk, fr1 s a2 k hk]
      exact h8 s a1 a2 k hk)
  have e24 : (24 : Int32) = fz_d1 (25 - m + m) := by
    rw [Nat.sub_add_cancel (by omega)]
    rfl
  show ∃ n30 : Nat, wY_reduce_30 post (nI p) (nI q) (nI r) (nI m) (fz_c (fz_i (g m))) n30 24 dp c1 hy ro le
  rw [e24]
  exact ⟨_, key (25 - m) c1 ⟨fz_o 0 0, f, fz_fr_at k2 (fun y => n2 y.symm) hf, k1, fz_l_z 25, fun k _ => fz_o00 k, by rw [Nat.sub_add_cancel (by omega)]; exact lf, @fz_r_div0 _ fz_ring f g, by omega, fun s _ a2 k hk => k2 s a2 k hk⟩⟩
theorem gy_fder {post : SY → Prop} {x : Int32} {p q : Nat → Fin 101} (i : Nat) (hi : i < 6) (ex : x = nI i) (hp : fz_at ce (25 * (2 * i)) p) (hq : fz_at ce (25 * (2 * i + 1)) q) (lp : fz_l p 25) (lq : fz_l q 25)
    (K : ∀ ce', fz_at ce' (25 * 12) (fz_d (fz_m (fz_dv p) q) (fz_m p (fz_dv q))) → fz_at ce' (25 * 13) (fz_m q q) → (∀ s, s < 12 → ∀ k, k < 25 → ce' (25 * s + k) = ce (25 * s + k)) → post (dp, ce', hy, ro, le)) : wpY_findDerivative post (dp, ce, hy, ro, le) x := by
  subst ex
  have e0 : 2 * nI i = nI (2 * i) := pk_mul 2 i
  have e1 : 2 * nI i + 1 = nI (2 * i + 1) := (congrArg (· + 1) (pk_mul 2 i)).trans (nI_1 (2 * i))
  refine gy_set (post := _) 16 0 (by omega) rfl rfl (fun c1 a1 a2 => ?_)
  refine gy_set (post := _) 17 0 (by omega) rfl rfl (fun c2 a3 a4 => ?_)
  refine pk_loop (fun n j t => wY_findDerivative_16 post (nI i) n (nI j) dp t hy ro le) (fun j t => 1 ≤ j ∧ (∀ k, k + 1 < j → t (25 * 16 + k) = fz_c (fz_dv p k)) ∧ (∀ k, j ≤ k + 1 → k < 25 → t (25 * 16 + k) = 0) ∧ (∀ k, k + 1 < j → t (25 * 17 + k) = fz_c (fz_dv q k)) ∧ (∀ k, j ≤ k + 1 → k < 25 → t (25 * 17 + k) = 0) ∧ fz_fr2 ce t 16 17) 25 1 c2 (by omega) ⟨by omega, fun k h => by omega, fun k _ h => ?_, fun k h => by omega, fun k _ h => ?_, fun s b1 b2 k hk => ?_⟩ ?_ ?_
  · rw [fz_fr_at a4 (by omega) a1 k h, fz_o00]
    rfl
  · rw [a3 k h, fz_o00]
    rfl
  · rw [a4 s b2 k hk, a2 s b1 k hk]
  · intro n t h
    obtain ⟨_, h2, h3, h4, h5, h6⟩ := h
    have b16 : fz_at t (25 * 16) (fz_dv p) := fun k hk => by
      by_cases d : k = 24
      · subst d
        rw [h3 24 (by omega) hk, fz_dv_l (n := 24) lp 24 (by omega)]
        rfl
      · exact h2 k (by omega)
    have b17 : fz_at t (25 * 17) (fz_dv q) := fun k hk => by
      by_cases d : k = 24
      · subst d
        rw [h5 24 (by omega) hk, fz_dv_l (n := 24) lq 24 (by omega)]
        rfl
      · exact h4 k (by omega)
    have bp := fz_fr2_at h6 (s := 2 * i) (by omega) (by omega) hp
    have bq := fz_fr2_at h6 (s := 2 * i + 1) (by omega) (by omega) hq
    refine br_t (by decide) ?_
    refine gy_mul (post := _) 16 (2 * i + 1) 12 (by omega) (by omega) (by omega) (by omega) (by omega) rfl e1 rfl b16 bq (fun d1 m1 m2 => ?_)
    refine gy_mul (post := _) (2 * i) 17 18 (by omega) (by omega) (by omega) (by omega) (by omega) e0 rfl rfl (fz_fr_at m2 (by omega) bp) (fz_fr_at m2 (by omega) b17) (fun d2 m3 m4 => ?_)
    refine gy_add (post := _) 12 18 100 (by omega) (by omega) (by omega) rfl rfl rfl (fz_fr_at m4 (by omega) m1) m3 (fun d3 m5 m6 => ?_)
    have bq3 := fz_fr_at m6 (s := 2 * i + 1) (by omega) (fz_fr_at m4 (by omega) (fz_fr_at m2 (by omega) bq))
    refine gy_mul (post := _) (2 * i + 1) (2 * i + 1) 13 (by omega) (by omega) (by omega) (by omega) (by omega) e1 e1 rfl bq3 bq3 (fun d4 m7 m8 => ?_)
    rw [fz_o100] at m5
    have m5' : fz_at d3 (25 * 12) (fz_d (fz_m (fz_dv p) q) (fz_m p (fz_dv q))) := by
      rw [show fz_d (fz_m (fz_dv p) q) (fz_m p (fz_dv q)) = fz_a (fz_m (fz_dv p) q) (fz_m (fz_n (fz_o 0 1)) (fz_m p (fz_dv q))) from @fz_r_fd _ fz_ring (fz_m (fz_dv p) q) (fz_m p (fz_dv q))]
      exact m5
    refine K d4 (fz_fr_at m8 (by omega) m5') m7 (fun s hs k hk => ?_)
    rw [m8 s (by omega) k hk, m6 s (by omega) k hk, m4 s (by omega) k hk, m2 s (by omega) k hk]
    exact h6 s (by omega) (by omega) k hk
  · intro n j t hj h ih
    obtain ⟨h1, h2, h3, h4, h5, h6⟩ := h
    obtain ⟨j, rfl⟩ : ∃ j', j = j' + 1 := ⟨j - 1, by omega⟩
    refine br_f (nI_ge (b := 25) hj (by decide)) ?_
    refine gy_get (post := _) (2 * i) (j + 1) (by omega) hj e0 rfl ?_
    rw [fz_fr2_at h6 (s := 2 * i) (by omega) (by omega) hp (j + 1) hj]
    refine gy_put (post := _) 16 j (fz_dv p j) (by omega) (by omega) rfl (nI_pred j) (fz_rem_k (by omega) _) ?_
    refine gy_get (post := _) (2 * i + 1) (j + 1) (by omega) hj e1 rfl ?_
    rw [pk_un (by omega), fz_fr2_at h6 (s := 2 * i + 1) (by omega) (by omega) hq (j + 1) hj]
    refine gy_put (post := _) 17 j (fz_dv q j) (by omega) (by omega) rfl (nI_pred j) (fz_rem_k (by omega) _) ?_
    refine nm_r (nI_1 (j + 1)) ?_
    refine ih _ ⟨by omega, fun k hk => ?_, fun k k1 k2 => ?_, fun k hk => ?_, fun k k1 k2 => ?_, fun s b1 b2 k hk => ?_⟩
    · rw [pk_un (by omega)]
      by_cases d : k = j
      · subst d
        rw [pk_us]
      · rw [pk_un (by omega)]
        exact h2 k (by omega)
    · rw [pk_un (by omega), pk_un (by omega)]
      exact h3 k (by omega) k2
    · by_cases d : k = j
      · subst d
        rw [pk_us]
      · rw [pk_un (by omega), pk_un (by omega)]
        exact h4 k (by omega)
    · rw [pk_un (by omega), pk_un (by omega)]
      exact h5 k (by omega) k2
    · rw [pk_un (by omega), pk_un (by omega)]
      exact h6 s b1 b2 k hk
end
end
section
/-! the reference's rows: startRow, clearLead, settle -/
def fz_jn (L R : Nat → Fin 101) : Nat → Fin 101 := fun k => if k < 13 then L k else R (k - 13)
def fz_rw (ro : Nat → Int32) (j : Nat) (L R : Nat → Fin 101) : Prop := ∀ k, k < 26 → ro (26 * j + k) = fz_c (fz_jn L R k)
def fz_rf (ro ro' : Nat → Int32) (r : Nat) : Prop := ∀ j, j ≠ r → ∀ k, k < 26 → ro' (26 * j + k) = ro (26 * j + k)
theorem fz_rf_rfl (ro : Nat → Int32) (r : Nat) : fz_rf ro ro r := fun _ _ _ _ => rfl
theorem fz_rf_up {ro ro' : Nat → Int32} {r k : Nat} {v : Int32} (h : fz_rf ro ro' r) (hk : k < 26) : fz_rf ro (upd ro' (26 * r + k) v) r := fun s hs j hj => by
  rw [pk_un (by omega)]
  exact h s hs j hj
theorem fz_rf_rw {ro ro' : Nat → Int32} {r j : Nat} {L R : Nat → Fin 101} (h : fz_rf ro ro' r) (hj : j ≠ r) (hw : fz_rw ro j L R) : fz_rw ro' j L R := fun k hk => by
  rw [h j hj k hk]
  exact hw k hk
theorem fz_rf_tr {ro ro' ro'' : Nat → Int32} {r : Nat} (h : fz_rf ro ro' r) (h' : fz_rf ro' ro'' r) : fz_rf ro ro'' r := fun j hj k hk => (h' j hj k hk).trans (h j hj k hk)
theorem fz_rw_L {ro : Nat → Int32} {j : Nat} {L R : Nat → Fin 101} (h : fz_rw ro j L R) {k : Nat} (hk : k < 13) : ro (26 * j + k) = fz_c (L k) := by
  rw [h k (by omega)]
  show fz_c (if k < 13 then L k else R (k - 13)) = _
  rw [if_pos hk]
theorem fz_rw_R {ro : Nat → Int32} {j : Nat} {L R : Nat → Fin 101} (h : fz_rw ro j L R) {k : Nat} (hk : k < 13) : ro (26 * j + 13 + k) = fz_c (R k) := by
  rw [show 26 * j + 13 + k = 26 * j + (13 + k) by omega, h (13 + k) (by omega)]
  show fz_c (if 13 + k < 13 then L (13 + k) else R (13 + k - 13)) = _
  rw [if_neg (by omega), Nat.add_sub_cancel_left]
theorem fz_rw_mk {ro : Nat → Int32} {j : Nat} {L R : Nat → Fin 101} (h : ∀ k, k < 13 → ro (26 * j + k) = fz_c (L k)) (h' : ∀ k, k < 13 → ro (26 * j + 13 + k) = fz_c (R k)) : fz_rw ro j L R := fun k hk => by
  show _ = fz_c (if k < 13 then L k else R (k - 13))
  by_cases c : k < 13
  · rw [if_pos c]
    exact h k c
  · rw [if_neg c, ← h' (k - 13) (by omega)]
    congr 1
    omega
theorem fz_jn_sub (L R L' R' : Nat → Fin 101) (c : Fin 101) (k : Nat) : fz_jn (fz_d L (fz_m (fz_o 0 c) L')) (fz_d R (fz_m (fz_o 0 c) R')) k = fz_jn L R k - c * fz_jn L' R' k := by
  rw [fz_m_const, fz_m_const]
  show (if k < 13 then L k - c * L' k else R (k - 13) - c * R' (k - 13)) = (if k < 13 then L k else R (k - 13)) - c * (if k < 13 then L' k else R' (k - 13))
  split <;> rfl
theorem fz_jn_sc (L R : Nat → Fin 101) (c : Fin 101) (k : Nat) : fz_jn (fz_m (fz_o 0 c) L) (fz_m (fz_o 0 c) R) k = fz_jn L R k * c := by
  rw [fz_m_const, fz_m_const]
  show (if k < 13 then c * L k else c * R (k - 13)) = (if k < 13 then L k else R (k - 13)) * c
  split <;> grind
theorem fz_iy (s k : Nat) : 26 * nI s + nI k = nI (26 * s + k) := by
  rw [show (26 : Int32) = nI 26 from rfl, pk_mul, nI_add]
theorem fz_iz (s k : Nat) : 26 * nI s + 13 + nI k = nI (26 * s + 13 + k) := by
  rw [show (26 : Int32) = nI 26 from rfl, show (13 : Int32) = nI 13 from rfl, pk_mul, nI_add, nI_add]
section
variable {dp : Int32} {ce hy ro le : Nat → Int32}
theorem gy_start {post : SY → Prop} {x : Int32} {M : Nat → Fin 101} (row : Nat) (hr : row < 13) (ex : x = nI row) (hM : fz_at ce (25 * 16) M) (K : ∀ ro', fz_rw ro' row M (fz_o row 1) → fz_rf ro ro' row → post (dp, ce, hy, ro', le)) : wpY_startRow post (dp, ce, hy, ro, le) x := by
  subst ex
  refine pk_loop (fun n i t => wY_startRow_2 post (nI row) dp n (nI i) ce hy t le) (fun i t => (∀ k, k < i → t (26 * row + k) = fz_c (M k)) ∧ (∀ k, k < i → t (26 * row + 13 + k) = fz_c (fz_o row 1 k)) ∧ fz_rf ro t row) 13 0 ro (by omega) ⟨fun k h => by omega, fun k h => by omega, fz_rf_rfl ro row⟩ ?_ ?_
  · intro n t h
    exact br_t (by decide) (K t (fz_rw_mk h.1 h.2.1) h.2.2)
  · intro n i t hi h ih
    refine br_f (nI_ge (b := 13) hi (by decide)) ?_
    refine gy_get (post := _) 16 i (by omega) (by omega) rfl rfl ?_
    rw [hM i (by omega)]
    refine ⟨by rw [fz_iy]; exact vp_in_nI (by omega) (by decide), ?_⟩
    refine nm_r (e' := upd t (26 * row + i) (fz_c (M i))) (by rw [fz_iy, nI_clamp (by omega)]) ?_
    have fin : ∀ v, v = fz_c (fz_o row 1 i) → wY_startRow_2 post (nI row) dp n (nI (i + 1)) ce hy (upd (upd t (26 * row + i) (fz_c (M i))) (26 * row + 13 + i) v) le := by
      intro v hv
      refine ih _ ⟨fun k hk => ?_, fun k hk => ?_, ?_⟩
      · rw [pk_un (by omega)]
        exact fz_upo h.1 rfl k hk
      · refine fz_upo (fun k hk => ?_) hv k hk
        rw [pk_un (by omega)]
        exact h.2.1 k hk
      · rw [show 26 * row + 13 + i = 26 * row + (13 + i) by omega]
        exact fz_rf_up (fz_rf_up h.2.2 (by omega)) (by omega)
    by_cases d : i = row
    · refine br_t (by rw [d]) ⟨by rw [fz_iz]; exact vp_in_nI (by omega) (by decide), ?_⟩
      refine nm_r (e' := upd (upd t (26 * row + i) (fz_c (M i))) (26 * row + 13 + i) 1) (by rw [fz_iz, nI_clamp (by omega)]) ?_
      refine nm_r (nI_1 i) ?_
      refine fin 1 ?_
      show 1 = fz_c (if i = row then 1 else 0)
      rw [if_pos d]
      rfl
    · refine br_f (by rw [nI_eq (by omega) (by omega)]; exact d) ⟨by rw [fz_iz]; exact vp_in_nI (by omega) (by decide), ?_⟩
      refine nm_r (e' := upd (upd t (26 * row + i) (fz_c (M i))) (26 * row + 13 + i) 0) (by rw [fz_iz, nI_clamp (by omega)]) ?_
      refine nm_r (nI_1 i) ?_
      refine fin 0 ?_
      show 0 = fz_c (if i = row then 1 else 0)
      rw [if_neg d]
      rfl
theorem gy_clear {post : SY → Prop} {L R L' R' : Nat → Fin 101} (row b l : Nat) (hr : row < 13) (hb : b < 13) (hn : b ≠ row) (hl : l < 13) (el : le b = nI l) (hw : fz_rw ro row L R) (hw' : fz_rw ro b L' R') (K : ∀ ro', fz_rw ro' row (fz_d L (fz_m (fz_o 0 (L l)) L')) (fz_d R (fz_m (fz_o 0 (L l)) R')) → fz_rf ro ro' row → post (dp, ce, hy, ro', le)) : wpY_clearLead post (dp, ce, hy, ro, le) (nI row) (nI b) := by
  refine ⟨vp_in_nI hb (by decide), ?_⟩
  rw [nI_clamp (by omega), el, fz_iy]
  refine ⟨vp_in_nI (by omega) (by decide), ?_⟩
  refine nm_r (e' := fz_c (L l)) (by rw [nI_clamp (by omega)]; exact fz_rw_L hw hl) ?_
  refine pk_loop (fun n i t => wY_clearLead_20 post (nI row) (nI b) (fz_c (L l)) dp n (nI i) ce hy t le) (fun i t => (∀ k, k < i → t (26 * row + k) = fz_c (fz_jn (fz_d L (fz_m (fz_o 0 (L l)) L')) (fz_d R (fz_m (fz_o 0 (L l)) R')) k)) ∧ (∀ k, i ≤ k → k < 26 → t (26 * row + k) = fz_c (fz_jn L R k)) ∧ fz_rf ro t row) 26 0 ro (by omega) ⟨fun k h => by omega, fun k _ h => hw k h, fz_rf_rfl ro row⟩ ?_ ?_
  · intro n t h
    exact br_t (by decide) (K t h.1 h.2.2)
  · intro n i t hi h ih
    refine br_f (nI_ge (b := 26) hi (by decide)) ?_
    rw [fz_iy, fz_iy]
    refine ⟨vp_in_nI (by omega) (by decide), vp_in_nI (by omega) (by decide), fz_nz101, vp_in_nI (by omega) (by decide), ?_⟩
    refine nm_r (e' := upd t (26 * row + i) (fz_c (fz_jn L R i - L l * fz_jn L' R' i))) (by rw [nI_clamp (by omega), nI_clamp (by omega), h.2.1 i (by omega) hi, fz_rf_rw h.2.2 hn hw' i hi, fz_rem_ms]) ?_
    refine nm_r (nI_1 i) ?_
    exact ih _ ⟨fz_upo h.1 (by rw [fz_jn_sub]), fun k h1 h2 => by rw [pk_un (by omega)]; exact h.2.1 k (by omega) h2, fz_rf_up h.2.2 hi⟩
theorem gy_scale {post : Int32 → SY → Prop} {L R : Nat → Fin 101} (row : Nat) (u : Fin 101) (hr : row < 13) (hw : fz_rw ro row L R) (K : ∀ ro', fz_rw ro' row (fz_m (fz_o 0 u) L) (fz_m (fz_o 0 u) R) → fz_rf ro ro' row → post 1 (dp, ce, hy, ro', le)) : ∃ n, wY_settle_89 post (nI row) (fz_c u) dp n 0 ce hy ro le := by
  refine pk_loop (fun n i t => wY_settle_89 post (nI row) (fz_c u) dp n (nI i) ce hy t le) (fun i t => (∀ k, k < i → t (26 * row + k) = fz_c (fz_jn (fz_m (fz_o 0 u) L) (fz_m (fz_o 0 u) R) k)) ∧ (∀ k, i ≤ k → k < 26 → t (26 * row + k) = fz_c (fz_jn L R k)) ∧ fz_rf ro t row) 26 0 ro (by omega) ⟨fun k h => by omega, fun k _ h => hw k h, fz_rf_rfl ro row⟩ ?_ ?_
  · intro n t h
    exact br_t (by decide) (K t h.1 h.2.2)
  · intro n i t hi h ih
    refine br_f (nI_ge (b := 26) hi (by decide)) ?_
    rw [fz_iy]
    refine ⟨vp_in_nI (by omega) (by decide), fz_nz101, vp_in_nI (by omega) (by decide), ?_⟩
    refine nm_r (e' := upd t (26 * row + i) (fz_c (fz_jn L R i * u))) (by rw [nI_clamp (by omega), h.2.1 i (by omega) hi, fz_rem_m]) ?_
    refine nm_r (nI_1 i) ?_
    exact ih _ ⟨fz_upo h.1 (by rw [fz_jn_sc]), fun k h1 h2 => by rw [pk_un (by omega)]; exact h.2.1 k (by omega) h2, fz_rf_up h.2.2 hi⟩
theorem gy_settle25 {post : Int32 → SY → Prop} {L R : Nat → Fin 101} (row : Nat) (hr : row < 13) (hw : fz_rw ro row L R) (lL : fz_l L 13) (K0 : L = fz_o 0 0 → post 0 (dp, ce, hy, ro, le))
    (K1 : ∀ ld ro', ld < 13 → L ld ≠ 0 → fz_rw ro' row (fz_m (fz_o 0 (fz_i (L ld))) L) (fz_m (fz_o 0 (fz_i (L ld))) R) → fz_rf ro ro' row → post 1 (dp, ce, hy, ro', upd le row (nI ld))) : ∃ n, wY_settle_25 post (nI row) dp ce hy ro le n 13 12 := by
  have key := pk_loopD (fun n j (x : Int32) => wY_settle_25 post (nI row) dp ce hy ro le n x (fz_d1 j)) (fun j x => j ≤ 13 ∧ ((x = nI 13 ∧ ∀ k, j ≤ k → k < 13 → L k = 0) ∨ ∃ m, m < 13 ∧ x = nI m ∧ L m ≠ 0)) (fun n x h => by
    refine br_t (by decide) ?_
    rcases h.2 with ⟨e, h⟩ | ⟨m, hm, e, hn⟩
    · refine br_t e ?_
      refine K0 (fz_l_0 (fun k _ => ?_))
      by_cases d : k < 13
      · exact h k (by omega) d
      · exact lL k (by omega)
    · rw [e]
      refine br_f (by rw [show (13 : Int32) = nI 13 from rfl, nI_eq (by omega) (by omega)]; omega) ⟨vp_in_nI hr (by decide), ?_⟩
      refine nm_r (e' := upd le row (nI m)) (by rw [nI_clamp (by omega)]) ?_
      refine ⟨by rw [fz_iy]; exact vp_in_nI (by omega) (by decide), ?_⟩
      refine gy_inv (post := _) (L m) hn (by rw [fz_iy, nI_clamp (by omega)]; exact fz_rw_L hw hm) ?_
      exact gy_scale row _ hr hw (fun ro' h1 h2 => K1 m ro' hm hn h1 h2)) (fun n j x h ih => by
    refine br_f (nI_pos (by omega)) ?_
    rw [show 26 * nI row + fz_d1 (j + 1) = nI (26 * row + j) from fz_iy row j]
    refine ⟨vp_in_nI (by omega) (by decide), ?_⟩
    rw [nI_clamp (by omega), fz_rw_L hw (by omega)]
    by_cases z : L j = 0
    · refine br_t (fz_c_z.mpr z) ?_
      refine nm_r (fz_d1_s j) ?_
      refine ih _ ⟨by omega, ?_⟩
      rcases h.2 with ⟨e, h⟩ | ⟨m, hm, e, hn⟩
      · refine Or.inl ⟨e, fun k k1 k2 => ?_⟩
        by_cases d : k = j
        · rw [d]; exact z
        · exact h k (by omega) k2
      · exact Or.inr ⟨m, hm, e, hn⟩
    · refine br_f (fun y => z (fz_c_z.mp y)) ?_
      refine nm_r (fz_d1_s j) ?_
      exact ih _ ⟨by omega, Or.inr ⟨j, by omega, rfl, z⟩⟩)
  exact ⟨14, key 13 13 ⟨by omega, Or.inl ⟨rfl, fun k h1 h2 => by omega⟩⟩⟩
theorem gy_settle {post : Int32 → SY → Prop} {p q L R : Nat → Fin 101} {n : Nat} {LL RR : Nat → Nat → Fin 101} {l : Nat → Nat} (row : Nat) (hr : row < 13) (hn : n ≤ 12) (ri : fz_ri p q n LL RR l row) (hrw : ∀ j, j < row → fz_rw ro j (LL j) (RR j)) (hle : ∀ j, j < row → le j = nI (l j) ∧ l j < 13) (hw : fz_rw ro row L R) (re : fz_re p q n R L) (mo : fz_mo R row)
    (K0 : ∀ ro' L' R', fz_rw ro' row L' R' → fz_rf ro ro' row → fz_re p q n R' L' → fz_mo R' row → L' = fz_o 0 0 → post 0 (dp, ce, hy, ro', le))
    (K1 : ∀ ro' L' R' ld, fz_re p q n R' L' → fz_mo R' row → (∀ j, j < row → L' (l j) = 0) → ld < 13 → L' ld ≠ 0 → fz_rw ro' row (fz_m (fz_o 0 (fz_i (L' ld))) L') (fz_m (fz_o 0 (fz_i (L' ld))) R') → fz_rf ro ro' row → post 1 (dp, ce, hy, ro', upd le row (nI ld))) : wpY_settle post (dp, ce, hy, ro, le) (nI row) := by
  refine pk_loop (fun n b t => wY_settle_2 post (nI row) n (nI b) dp ce hy t le) (fun b t => ∃ L' R', fz_rw t row L' R' ∧ fz_rf ro t row ∧ fz_re p q n R' L' ∧ fz_mo R' row ∧ ∀ j, j < b → L' (l j) = 0) row 0 ro (by omega) ⟨L, R, hw, fz_rf_rfl ro row, re, mo, fun j h => by omega⟩ ?_ ?_
  · intro nn t h
    obtain ⟨L', R', h1, h2, h3, h4, h5⟩ := h
    refine br_t (nI_le (Nat.le_refl row) (by omega)) ?_
    have lL : fz_l L' 13 := by
      obtain ⟨s, _, _, lt⟩ := h3
      exact fz_l_mono lt (by omega)
    refine gy_settle25 row hr h1 lL (fun z => K0 t L' R' h1 h2 h3 h4 z) (fun ld ro' k1 k2 k3 k4 => ?_)
    exact K1 ro' L' R' ld h3 h4 h5 k1 k2 k3 (fz_rf_tr h2 k4)
  · intro nn b t hb h ih
    obtain ⟨L', R', h1, h2, h3, h4, h5⟩ := h
    obtain ⟨r1, r2, r3, r4, r5⟩ := ri b hb
    refine br_f (nI_ge hb (by omega)) ?_
    refine gy_clear (post := _) row b (l b) hr (by omega) (by omega) (hle b hb).2 (hle b hb).1 h1 (fz_rf_rw h2 (by omega) (hrw b hb)) (fun ro' k1 k2 => ?_)
    refine nm_r (nI_1 b) ?_
    refine ih ro' ⟨_, _, k1, fz_rf_tr h2 k2, fz_re_sub _ h3 r1, ⟨?_, fun k hk => ?_⟩, fun j hj => ?_⟩
    · rw [fz_m_const]
      show R' row - L' (l b) * RR b row = 1
      rw [h4.1, r3 row (by omega)]
      grind
    · rw [fz_m_const]
      show R' k - L' (l b) * RR b k = 0
      rw [h4.2 k hk, r3 k (by omega)]
      grind
    · rw [fz_m_const]
      show L' (l j) - L' (l b) * LL b (l j) = 0
      by_cases d : j = b
      · rw [d, r4]
        grind
      · rw [h5 j (by omega), r5 j (by omega)]
        grind
end
end
section
/-! the reference's findLowest -/
theorem fz_o1m (row : Nat) : fz_m (fz_o 1 1) (fz_o row 1) = fz_o (row + 1) 1 := by
  funext k
  rw [fz_m_mono]
  show (if 1 ≤ k then 1 * (if k - 1 = row then (1 : Fin 101) else 0) else 0) = if k = row + 1 then 1 else 0
  by_cases c : k = row + 1
  · rw [if_pos (by omega), if_pos (by omega), if_pos c]
    rfl
  · rw [if_neg c]
    by_cases d : 1 ≤ k
    · rw [if_pos d, if_neg (by omega)]
      rfl
    · rw [if_neg d]
theorem fz_o1_at (M : Nat → Fin 101) (k : Nat) : fz_m (fz_o 1 1) M k = if 1 ≤ k then M (k - 1) else 0 := by
  rw [fz_m_mono]
  split
  · grind
  · rfl
theorem fz_mo_o (row : Nat) : fz_mo (fz_o row 1) row := ⟨by show (if row = row then (1 : Fin 101) else 0) = 1; rw [if_pos rfl], fz_l_o (by omega)⟩
def fz_f12 (ce ce' : Nat → Int32) : Prop := ∀ s, s < 12 → ∀ k, k < 25 → ce' (25 * s + k) = ce (25 * s + k)
theorem fz_f12_at {ce ce' : Nat → Int32} {s : Nat} {f : Nat → Fin 101} (h : fz_f12 ce ce') (hs : s < 12) (hf : fz_at ce (25 * s) f) : fz_at ce' (25 * s) f := fun k hk => by
  rw [h s hs k hk]
  exact hf k hk
theorem fz_f12_tr {a b c : Nat → Int32} (h : fz_f12 a b) (h' : fz_f12 b c) : fz_f12 a c := fun s hs k hk => (h' s hs k hk).trans (h s hs k hk)
theorem fz_f12_fr {a b : Nat → Int32} {r : Nat} (h : fz_fr a b r) (hr : 12 ≤ r) : fz_f12 a b := fun s hs k hk => h s (by omega) k hk
theorem fz_f12_fr2 {a b : Nat → Int32} {r r' : Nat} (h : fz_fr2 a b r r') (hr : 12 ≤ r) (hr' : 12 ≤ r') : fz_f12 a b := fun s hs k hk => h s (by omega) (by omega) k hk
section
variable {dp : Int32} {ce hy ro le : Nat → Int32}
theorem gy_51 {post : SY → Prop} {J36 : Int32 → Int32 → (Nat → Int32) → (Nat → Int32) → (Nat → Int32) → (Nat → Int32) → Prop} {x1 : Int32} {M q : Nat → Fin 101} (sq n row : Nat) (hsq : sq < 12) (hn : n < 25) (hr : row < 13) (hM : fz_at ce (25 * 16) M) (lM : fz_l M 24) (hq : fz_at ce (25 * sq) q) (he : fz_e q n)
    (K : ∀ ce' ro' s M', fz_at ce' (25 * 16) M' → fz_p s → fz_m (fz_o 1 1) M = fz_a (fz_m s q) M' → fz_l M' n → fz_rw ro' row M' (fz_o row 1) → fz_rf ro ro' row → fz_f12 ce ce' → J36 (nI row) dp ce' hy ro' le) : ∃ n, wY_findLowest_51 post J36 x1 (nI sq) (nI row) n 24 dp ce hy ro le := by
  have key := pk_loopD (fun n j t => wY_findLowest_51 post J36 x1 (nI sq) (nI row) n (nI j) dp t hy ro le) (fun j t => j ≤ 24 ∧ (∀ k, k ≤ j → t (25 * 16 + k) = fz_c (M k)) ∧ (∀ k, j < k → k < 25 → t (25 * 16 + k) = fz_c (M (k - 1))) ∧ fz_fr ce t 16) (fun nn t h => by
    obtain ⟨h1, h2, h3, h4⟩ := h
    refine br_t (by decide) ?_
    refine gy_put (post := _) 16 0 0 (by omega) (by omega) rfl rfl (by decide) ?_
    have h5 : fz_at (upd t (25 * 16 + 0) (fz_c 0)) (25 * 16) (fz_m (fz_o 1 1) M) := fun k hk => by
      rw [fz_o1_at]
      by_cases d : k = 0
      · subst d
        rw [pk_us]
        rfl
      · rw [pk_un (by omega), if_pos (by omega)]
        exact h3 k (by omega) hk
    have h6 : fz_fr ce (upd t (25 * 16 + 0) (fz_c 0)) 16 := fz_fr_up h4 (by omega)
    refine gy_red (post := _) 16 sq 17 n (by omega) (by omega) (by omega) (by omega) (by omega) (by omega) rfl rfl rfl hn h5 (fz_l_m' (m := 1) (n := 23) (fz_l_o (by omega)) lM (by omega)) (fz_fr_at h6 (by omega) hq) he (fun c2 s M' m1 m2 m3 m4 m5 m6 => ?_)
    refine gy_start (post := _) row hr rfl m1 (fun ro' m7 m8 => ?_)
    exact K c2 ro' s M' m1 ⟨_, m3⟩ m5 m4 m7 m8 (fz_f12_tr (fz_f12_fr h6 (by omega)) (fz_f12_fr2 m6 (by omega) (by omega)))) (fun nn j t h ih => by
    obtain ⟨h1, h2, h3, h4⟩ := h
    refine br_f (nI_nle (by omega) (by omega)) ?_
    refine gy_get (post := _) 16 j (by omega) (by omega) rfl (nI_pred j) ?_
    rw [h2 j (by omega)]
    refine gy_put (post := _) 16 (j + 1) (M j) (by omega) (by omega) rfl rfl (fz_rem_1 _) ?_
    refine nm_r (pk_m1 j) ?_
    refine ih _ ⟨by omega, fun k hk => ?_, fun k k1 k2 => ?_, fz_fr_up h4 (by omega)⟩
    · rw [pk_un (by omega)]
      exact h2 k (by omega)
    · by_cases d : k = j + 1
      · subst d
        rw [pk_us, Nat.add_sub_cancel]
      · rw [pk_un (by omega)]
        exact h3 k (by omega) k2)
  exact ⟨_, key 24 ce ⟨by omega, fun k hk => hM k (by omega), fun k k1 k2 => by omega, fz_fr_rfl ce 16⟩⟩
theorem gy_135 {post : SY → Prop} {P Q p q L : Nat → Fin 101} (sp sq n row : Nat) (hsp : sp < 12) (hsq : sq < 12) (hn : n < 25) (hr : row < 13) (hw : fz_rw ro row L Q) (mo : fz_mo Q row) (h21 : fz_at ce (25 * 21) (fz_o 0 0)) (hp : fz_at ce (25 * sp) p) (hq : fz_at ce (25 * sq) q) (lp : fz_l p 13) (he : fz_e q n) (pP : fz_p P) (e : fz_m P q = fz_m p Q)
    (K : ∀ ce', fz_at ce' (25 * 20) P → fz_at ce' (25 * 21) Q → fz_f12 ce ce' → post (dp, ce', hy, ro, le)) : ∃ n, wY_findLowest_135 post (nI sp) (nI sq) (nI row) (fz_c (fz_i 1)) n 0 dp ce hy ro le := by
  have lQ : fz_l Q 13 := fz_l_mono mo.2 (by omega)
  refine pk_loop (fun n i t => wY_findLowest_135 post (nI sp) (nI sq) (nI row) (fz_c (fz_i 1)) n (nI i) dp t hy ro le) (fun i t => fz_at t (25 * 21) (fz_tr i Q) ∧ fz_fr ce t 21) (row + 1) 0 ce (by omega) ⟨by rw [fz_tr_0]; exact h21, fz_fr_rfl ce 21⟩ ?_ ?_
  · intro nn t h
    obtain ⟨h1, h2⟩ := h
    rw [fz_tr_e mo.2] at h1
    refine br_t (nI_lt (by omega) (by omega)) ?_
    refine gy_mul (post := _) sp 21 18 (by omega) (by omega) (by omega) (by omega) (by omega) rfl rfl rfl (fz_fr_at h2 (by omega) hp) h1 (fun c1 m1 m2 => ?_)
    refine gy_red (post := _) 18 sq 20 n (by omega) (by omega) (by omega) (by omega) (by omega) (by omega) rfl rfl rfl hn m1 (fz_l_m' (m := 12) (n := 12) lp lQ (by omega)) (fz_fr_at m2 (by omega) (fz_fr_at h2 (by omega) hq)) he (fun c2 s t2 k1 k2 k3 k4 k5 k6 => ?_)
    have es : s = P := fz_kr_P he pP ⟨_, k3⟩ k4 e k5
    subst es
    exact K c2 k2 (fz_fr2_at k6 (by omega) (by omega) (fz_fr_at m2 (by omega) h1)) (fz_f12_tr (fz_f12_fr h2 (by omega)) (fz_f12_tr (fz_f12_fr m2 (by omega)) (fz_f12_fr2 k6 (by omega) (by omega))))
  · intro nn i t hi h ih
    obtain ⟨h1, h2⟩ := h
    refine br_f (nI_nlt (by omega) (by omega)) ⟨by rw [fz_iz]; exact vp_in_nI (by omega) (by decide), ?_⟩
    refine gy_put (post := _) 21 i (Q i) (by omega) (by omega) rfl rfl ?_ ?_
    · rw [fz_iz, nI_clamp (by omega), fz_rw_R hw (by omega), fz_rem_m, fz_i_1]
      congr 1
      grind
    · refine nm_r (nI_1 i) ?_
      refine ih _ ⟨fz_at_up h1 ?_ ?_, fz_fr_up h2 (by omega)⟩
      · show _ = fz_c (if i < i + 1 then Q i else 0)
        rw [if_pos (by omega)]
      · intro k hk
        show (if k < i + 1 then Q k else 0) = (if k < i then Q k else 0)
        by_cases d : k < i
        · rw [if_pos d, if_pos (by omega)]
        · rw [if_neg d, if_neg (by omega)]
def fz_FI (p q : Nat → Fin 101) (n row : Nat) (ce ro le : Nat → Int32) : Prop := ∃ LL RR l M, fz_ri p q n LL RR l row ∧ (∀ j, j < row → fz_rw ro j (LL j) (RR j)) ∧ (∀ j, j < row → le j = nI (l j) ∧ l j < 13) ∧ fz_at ce (25 * 16) M ∧ fz_l M n ∧ fz_rw ro row M (fz_o row 1) ∧ fz_re p q n (fz_o row 1) M
theorem gy_36 {post : SY → Prop} {P Q p q : Nat → Fin 101} (sp sq n m : Nat) (hsp : sp < 12) (hsq : sq < 12) (hn : n ≤ 12) (hm : m ≤ 12) (lp : fz_l p 13) (he : fz_e q n) (pP : fz_p P) (hc : fz_co P Q) (mo : fz_mo Q m) (e : fz_m P q = fz_m p Q) (hp : fz_at ce (25 * sp) p) (hq : fz_at ce (25 * sq) q)
    (K : ∀ ce' ro' le', fz_at ce' (25 * 20) P → fz_at ce' (25 * 21) Q → fz_f12 ce ce' → post (dp, ce', hy, ro', le')) : ∀ (nf row : Nat) (ce1 ro1 le1 : Nat → Int32), m < row + nf → row ≤ m → fz_f12 ce ce1 → fz_FI p q n row ce1 ro1 le1 → wY_findLowest_36 post (nI sp) (nI sq) nf (nI row) dp ce1 hy ro1 le1 := by
  intro nf
  induction nf with
  | zero => intro row ce1 ro1 le1 h1 h2; omega
  | succ nf ih =>
    intro row ce1 ro1 le1 h1 h2 f12 hF
    obtain ⟨LL, RR, l, M, ri, hrw, hle, h16, lM, hw, re⟩ := hF
    refine gy_settle (post := _) row (by omega) hn ri hrw hle hw re (fz_mo_o row) (fun ro' L' R' k1 k2 k3 k4 k5 => ?_) (fun ro' L' R' ld k3 k4 k5 k6 k7 k1 k2 => ?_)
    · rw [k5] at k3
      have eR : R' = Q := fz_kr_b he k4 k3 mo h2 pP hc e
      subst eR
      refine br_t rfl ⟨by rw [fz_iz]; exact vp_in_nI (by omega) (by decide), ?_⟩
      refine gy_inv (post := _) 1 (by decide) (by rw [fz_iz, nI_clamp (by omega), fz_rw_R k1 (by omega), k4.1]) ?_
      refine gy_set (post := _) 21 0 (by omega) rfl rfl (fun c1 a1 a2 => ?_)
      exact gy_135 sp sq n row hsp hsq (by omega) (by omega) k1 k4 a1 (fz_fr_at a2 (by omega) (fz_f12_at f12 hsp hp)) (fz_fr_at a2 (by omega) (fz_f12_at f12 hsq hq)) lp he pP e (fun c2 b1 b2 b3 => K c2 _ _ b1 b2 (fz_f12_tr f12 (fz_f12_tr (fz_f12_fr a2 (by omega)) b3)))
    · have hne : row ≠ m := fun y => by
        rw [← y] at mo
        have z := (fz_kr_a he ri k4 k3 k5 mo pP e).2
        exact k7 (by rw [z, fz_o00])
      refine br_f (by decide) ?_
      refine nm_r (nI_1 row) ?_
      refine gy_51 sq n (row + 1) hsq (by omega) (by omega) h16 (fz_l_mono lM (by omega)) (fz_f12_at f12 hsq hq) he (fun c2 ro2 s M' a1 a2 a3 a4 a5 a6 a7 => ?_)
      refine ih (row + 1) c2 ro2 (upd le1 row (nI ld)) (by omega) (by omega) (fz_f12_tr f12 a7) ⟨fun j => if j = row then fz_m (fz_o 0 (fz_i (L' ld))) L' else LL j, fun j => if j = row then fz_m (fz_o 0 (fz_i (L' ld))) R' else RR j, fun j => if j = row then ld else l j, M', ?_, ?_, ?_, a1, a4, a5, ?_⟩
      · intro j hj
        by_cases d : j = row
        · subst d
          dsimp only
          rw [if_pos rfl, if_pos rfl, if_pos rfl]
          refine ⟨fz_re_sc _ k3, ?_, fz_cl k4.2, ?_, fun i hi => ?_⟩
          · rw [fz_m_const]
            show fz_i (L' ld) * R' j ≠ 0
            exact fz_nz (fz_i_nz k7) (by rw [k4.1]; decide)
          · rw [fz_m_const]
            show fz_i (L' ld) * L' ld = 1
            rw [← fz_i_m _ k7]
            grind
          · rw [if_neg (by omega), fz_m_const]
            show fz_i (L' ld) * L' (l i) = 0
            rw [k5 i hi]
            grind
        · dsimp only
          rw [if_neg d, if_neg d, if_neg d]
          obtain ⟨r1, r2, r3, r4, r5⟩ := ri j (by omega)
          refine ⟨r1, r2, r3, r4, fun i hi => ?_⟩
          rw [if_neg (by omega)]
          exact r5 i hi
      · intro j hj
        by_cases d : j = row
        · subst d
          dsimp only
          rw [if_pos rfl, if_pos rfl]
          exact fz_rf_rw a6 (by omega) k1
        · dsimp only
          rw [if_neg d, if_neg d]
          exact fz_rf_rw a6 (by omega) (fz_rf_rw k2 d (hrw j (by omega)))
      · intro j hj
        by_cases d : j = row
        · subst d
          dsimp only
          rw [if_pos rfl, pk_us]
          exact ⟨rfl, k6⟩
        · dsimp only
          rw [if_neg d, pk_un d]
          exact hle j (by omega)
      · have := fz_re_x (fz_o 1 1) (fz_p_o 1 1) re a2 a3 a4
        rw [fz_o1m] at this
        exact this
theorem gy_low {post : SY → Prop} {P Q p q : Nat → Fin 101} (d : Nat) (hd : d < 6) (lp : fz_l p 13) (lq : fz_l q 13) (nq : q ≠ fz_o 0 0) (hL : fz_low P Q) (lQ : fz_l Q 13) (e : fz_m P q = fz_m p Q) (hp : fz_at ce (25 * (2 * d)) p) (hq : fz_at ce (25 * (2 * d + 1)) q)
    (K : ∀ ce' ro' le', fz_at ce' (25 * 20) P → fz_at ce' (25 * 21) Q → fz_f12 ce ce' → post (nI (d + 1), ce', hy, ro', le')) : wpY_findLowest post (nI (d + 1), ce, hy, ro, le) := by
  obtain ⟨n, hn, he⟩ := fz_e_ex 13 lq nq
  obtain ⟨pP, hc, m, mo⟩ := hL
  have hm := fz_e_lt (fz_mo_e mo) lQ
  have e1 : 2 * nI (d + 1) - 2 = nI (2 * d) := by
    rw [show (2 : Int32) = nI 2 from rfl, pk_mul, pk_sub (by omega)]
    congr 1
  refine nm_r (e' := nI (2 * d)) e1 ?_
  refine nm_r (e' := nI (2 * d + 1)) (nI_1 (2 * d)) ?_
  refine gy_copy (post := _) (2 * d) 16 (by omega) (by omega) (by omega) rfl rfl hp (fun c1 a1 a2 => ?_)
  refine gy_red (post := _) 16 (2 * d + 1) 17 n (by omega) (by omega) (by omega) (by omega) (by omega) (by omega) rfl rfl rfl (by omega) a1 (fz_l_mono lp (by omega)) (fz_fr_at a2 (by omega) hq) he (fun c2 s M k1 k2 k3 k4 k5 k6 => ?_)
  refine gy_start (post := _) 0 (by omega) rfl k1 (fun ro' m7 m8 => ?_)
  refine ⟨13, gy_36 (ce := ce) (2 * d) (2 * d + 1) n m (by omega) (by omega) (by omega) (by omega) lp he pP hc mo e hp hq K 13 0 c2 ro' le (by omega) (by omega) (fz_f12_tr (fz_f12_fr a2 (by omega)) (fz_f12_fr2 k6 (by omega) (by omega))) ⟨fun _ => fz_o 0 0, fun _ => fz_o 0 0, fun _ => 0, M, fun j h => by omega, fun j h => by omega, fun j h => by omega, k1, k4, m7, s, ⟨_, k3⟩, ?_, k4⟩⟩
  rw [fz_m_comm, fz_m_one]
  exact k5
end
end
section
/-! the relation -/
def gr_fr (P Q p q : Nat → Fin 101) (h : Nat) : Prop := h ≤ 12 ∧ fz_l P (h + 1) ∧ fz_l Q (h + 1) ∧ fz_l p (h + 1) ∧ fz_l q (h + 1) ∧ fz_low P Q ∧ q ≠ fz_o 0 0 ∧ fz_m P q = fz_m p Q
def gr_sl (sA sB hh ce hy : Nat → Int32) (i : Nat) : Prop := ∃ h P Q p q, gr_fr P Q p q h ∧ hh i = nI h ∧ hy i = nI h ∧ fz_at sA (i * 25) P ∧ fz_at sB (i * 25) Q ∧ fz_at ce (25 * (2 * i)) p ∧ fz_at ce (25 * (2 * i + 1)) q
/-- both stacks hold the same number of formulas of the same heights; the component's in lowest terms, the reference's any fraction that is the same -/
def i_Rel (k : Nat) (u : SX) (v : SY) : Prop := ∃ d, d ≤ 6 ∧ u.1 = nI d ∧ v.1 = nI d ∧ ∀ i, i < d → gr_sl u.2.1 u.2.2.1 u.2.2.2.1 v.2.1 v.2.2.1 i
theorem i_up {k : Nat} {u : SX} {v : SY} (h : i_Rel k u v) : i_Rel (k + 3) u v := h
theorem i_vc0 : wpX_init (fun u => wpY_init (fun v => i_Rel 0 u v)) := ⟨0, by omega, rfl, rfl, fun i h => by omega⟩
theorem gr_fr12 {P Q p q : Nat → Fin 101} {h n : Nat} (H : gr_fr P Q p q h) (hn : 13 ≤ n) : fz_l P n ∧ fz_l Q n ∧ fz_l p n ∧ fz_l q n := by
  obtain ⟨h0, h1, h2, h3, h4, _⟩ := H
  exact ⟨fz_l_mono h1 (by omega), fz_l_mono h2 (by omega), fz_l_mono h3 (by omega), fz_l_mono h4 (by omega)⟩
theorem gr_mono {sA sB hh ce hy sA' sB' hh' ce' hy' : Nat → Int32} {i : Nat} (H : gr_sl sA sB hh ce hy i) (h1 : ∀ k, k < 25 → sA' (i * 25 + k) = sA (i * 25 + k)) (h2 : ∀ k, k < 25 → sB' (i * 25 + k) = sB (i * 25 + k)) (h3 : hh' i = hh i) (h4 : hy' i = hy i)
    (h5 : ∀ k, k < 25 → ce' (25 * (2 * i) + k) = ce (25 * (2 * i) + k)) (h6 : ∀ k, k < 25 → ce' (25 * (2 * i + 1) + k) = ce (25 * (2 * i + 1) + k)) : gr_sl sA' sB' hh' ce' hy' i := by
  obtain ⟨h, P, Q, p, q, a, b, c, d, e, f, g⟩ := H
  exact ⟨h, P, Q, p, q, a, h3.trans b, h4.trans c, fun k hk => (h1 k hk).trans (d k hk), fun k hk => (h2 k hk).trans (e k hk), fun k hk => (h5 k hk).trans (f k hk), fun k hk => (h6 k hk).trans (g k hk)⟩
theorem gr_new {sA sB hh ce hy t t' hh' ce' hy' : Nat → Int32} {P Q p q : Nat → Fin 101} {h : Nat} (j : Nat) (hs : ∀ i, i < j → gr_sl sA sB hh ce hy i) (hF : gr_fr P Q p q h) (eh : hh' j = nI h) (ey : hy' j = nI h) (oh : ∀ i, i < j → hh' i = hh i) (oy : ∀ i, i < j → hy' i = hy i)
    (a1 : fz_at t (j * 25) P) (a2 : fz_at t' (j * 25) Q) (f1 : ∀ m, m < j * 25 ∨ j * 25 + 25 ≤ m → t m = sA m) (f2 : ∀ m, m < j * 25 ∨ j * 25 + 25 ≤ m → t' m = sB m) (a3 : fz_at ce' (25 * (2 * j)) p) (a4 : fz_at ce' (25 * (2 * j + 1)) q) (f3 : ∀ s, s < 2 * j → ∀ k, k < 25 → ce' (25 * s + k) = ce (25 * s + k)) :
    ∀ i, i < j + 1 → gr_sl t t' hh' ce' hy' i := by
  intro i hi
  by_cases c : i = j
  · subst c
    exact ⟨h, P, Q, p, q, hF, eh, ey, a1, a2, a3, a4⟩
  · exact gr_mono (hs i (by omega)) (fun k hk => f1 _ (by omega)) (fun k hk => f2 _ (by omega)) (oh i (by omega)) (oy i (by omega)) (fun k hk => f3 _ (by omega) k hk) (fun k hk => f3 _ (by omega) k hk)
theorem gr_f12 {sA sB hh ce hy ce' : Nat → Int32} {d : Nat} (hd : d ≤ 6) (hs : ∀ i, i < d → gr_sl sA sB hh ce hy i) (h : fz_f12 ce ce') : ∀ i, i < d → gr_sl sA sB hh ce' hy i := fun i hi =>
  gr_mono (hs i hi) (fun _ _ => rfl) (fun _ _ => rfl) rfl rfl (fun k hk => h _ (by omega) k hk) (fun k hk => h _ (by omega) k hk)
theorem gr_mk {A0 B0 a0 b0 P Q : Nat → Fin 101} {h : Nat} (hh : h ≤ 12) (lB : fz_l B0 (h + 1)) (lA : fz_l A0 (h + 1)) (la : fz_l a0 (h + 1)) (lb : fz_l b0 (h + 1)) (nB : B0 ≠ fz_o 0 0) (nb : b0 ≠ fz_o 0 0) (e : fz_m A0 b0 = fz_m a0 B0)
    (hL : fz_low P Q) (e' : fz_m P B0 = fz_m A0 Q) (h1 : ∀ n, fz_l A0 n → fz_l P n) (h2 : ∀ n, 1 ≤ n → fz_l B0 n → fz_l Q n) : gr_fr P Q a0 b0 h :=
  ⟨hh, h1 _ lA, h2 _ (by omega) lB, la, lb, hL, nb, fz_low_keep hL.1 (fz_low_pQ hL) ⟨_, lB⟩ ⟨_, la⟩ ⟨_, lb⟩ nB e' e⟩
theorem gr_add {P Q p q P1 Q1 p1 q1 A B : Nat → Fin 101} {h h1 : Nat} (H : gr_fr P Q p q h) (H1 : gr_fr P1 Q1 p1 q1 h1) (hh : h + h1 ≤ 12) (hL : fz_low A B) (e : fz_m A (fz_m Q Q1) = fz_m (fz_a (fz_m P Q1) (fz_m Q P1)) B) (d1 : ∀ n, fz_l (fz_a (fz_m P Q1) (fz_m Q P1)) n → fz_l A n) (d2 : ∀ n, 1 ≤ n → fz_l (fz_m Q Q1) n → fz_l B n) : gr_fr A B (fz_a (fz_m p q1) (fz_m p1 q)) (fz_m q q1) (h + h1) := by
  obtain ⟨_, a1, a2, a3, a4, a5, a6, a7⟩ := H
  obtain ⟨_, b1, b2, b3, b4, b5, b6, b7⟩ := H1
  exact gr_mk hh (fz_l_m a2 b2) (fz_l_a (fz_l_m a1 b2) (fz_l_m a2 b1)) (fz_l_a (fz_l_m a3 b4) (fz_l_m' b3 a4 (by omega))) (fz_l_m a4 b4) (fz_m_ne ⟨_, a2⟩ ⟨_, b2⟩ (fz_low_nQ a5) (fz_low_nQ b5)) (fz_m_ne ⟨_, a4⟩ ⟨_, b4⟩ a6 b6) (@fz_r_add _ fz_ring P Q p q P1 Q1 p1 q1 a7 b7) hL e d1 d2
theorem gr_sub {P Q p q P1 Q1 p1 q1 A B : Nat → Fin 101} {h h1 : Nat} (H : gr_fr P Q p q h) (H1 : gr_fr P1 Q1 p1 q1 h1) (hh : h + h1 ≤ 12) (hL : fz_low A B) (e : fz_m A (fz_m Q Q1) = fz_m (fz_d (fz_m P Q1) (fz_m Q P1)) B) (d1 : ∀ n, fz_l (fz_d (fz_m P Q1) (fz_m Q P1)) n → fz_l A n) (d2 : ∀ n, 1 ≤ n → fz_l (fz_m Q Q1) n → fz_l B n) : gr_fr A B (fz_d (fz_m p q1) (fz_m p1 q)) (fz_m q q1) (h + h1) := by
  obtain ⟨_, a1, a2, a3, a4, a5, a6, a7⟩ := H
  obtain ⟨_, b1, b2, b3, b4, b5, b6, b7⟩ := H1
  exact gr_mk hh (fz_l_m a2 b2) (fz_l_d (fz_l_m a1 b2) (fz_l_m a2 b1)) (fz_l_d (fz_l_m a3 b4) (fz_l_m' b3 a4 (by omega))) (fz_l_m a4 b4) (fz_m_ne ⟨_, a2⟩ ⟨_, b2⟩ (fz_low_nQ a5) (fz_low_nQ b5)) (fz_m_ne ⟨_, a4⟩ ⟨_, b4⟩ a6 b6) (@fz_r_sub _ fz_ring P Q p q P1 Q1 p1 q1 a7 b7) hL e d1 d2
theorem gr_mul {P Q p q P1 Q1 p1 q1 A B : Nat → Fin 101} {h h1 : Nat} (H : gr_fr P Q p q h) (H1 : gr_fr P1 Q1 p1 q1 h1) (hh : h + h1 ≤ 12) (hL : fz_low A B) (e : fz_m A (fz_m Q Q1) = fz_m (fz_m P P1) B) (d1 : ∀ n, fz_l (fz_m P P1) n → fz_l A n) (d2 : ∀ n, 1 ≤ n → fz_l (fz_m Q Q1) n → fz_l B n) : gr_fr A B (fz_m p p1) (fz_m q q1) (h + h1) := by
  obtain ⟨_, a1, a2, a3, a4, a5, a6, a7⟩ := H
  obtain ⟨_, b1, b2, b3, b4, b5, b6, b7⟩ := H1
  exact gr_mk hh (fz_l_m a2 b2) (fz_l_m a1 b1) (fz_l_m a3 b3) (fz_l_m a4 b4) (fz_m_ne ⟨_, a2⟩ ⟨_, b2⟩ (fz_low_nQ a5) (fz_low_nQ b5)) (fz_m_ne ⟨_, a4⟩ ⟨_, b4⟩ a6 b6) (@fz_r_mul _ fz_ring P Q p q P1 Q1 p1 q1 a7 b7) hL e d1 d2
theorem gr_quo {P Q p q P1 Q1 p1 q1 A B : Nat → Fin 101} {h h1 : Nat} (H : gr_fr P Q p q h) (H1 : gr_fr P1 Q1 p1 q1 h1) (n1 : P1 ≠ fz_o 0 0) (n2 : p1 ≠ fz_o 0 0) (hh : h + h1 ≤ 12) (hL : fz_low A B) (e : fz_m A (fz_m Q P1) = fz_m (fz_m P Q1) B) (d1 : ∀ n, fz_l (fz_m P Q1) n → fz_l A n) (d2 : ∀ n, 1 ≤ n → fz_l (fz_m Q P1) n → fz_l B n) : gr_fr A B (fz_m p q1) (fz_m q p1) (h + h1) := by
  obtain ⟨_, a1, a2, a3, a4, a5, a6, a7⟩ := H
  obtain ⟨_, b1, b2, b3, b4, b5, b6, b7⟩ := H1
  exact gr_mk hh (fz_l_m a2 b1) (fz_l_m a1 b2) (fz_l_m a3 b4) (fz_l_m a4 b3) (fz_m_ne ⟨_, a2⟩ ⟨_, b1⟩ (fz_low_nQ a5) n1) (fz_m_ne ⟨_, a4⟩ ⟨_, b3⟩ a6 n2) (@fz_r_quo _ fz_ring P Q p q P1 Q1 p1 q1 a7 b7) hL e d1 d2
theorem gr_der {P Q p q A B : Nat → Fin 101} {h : Nat} (H : gr_fr P Q p q h) (hh : 2 * h ≤ 12) (hL : fz_low A B) (e : fz_m A (fz_m Q Q) = fz_m (fz_d (fz_m (fz_dv P) Q) (fz_m P (fz_dv Q))) B) (d1 : ∀ n, fz_l (fz_d (fz_m (fz_dv P) Q) (fz_m P (fz_dv Q))) n → fz_l A n) (d2 : ∀ n, 1 ≤ n → fz_l (fz_m Q Q) n → fz_l B n) : gr_fr A B (fz_d (fz_m (fz_dv p) q) (fz_m p (fz_dv q))) (fz_m q q) (2 * h) := by
  obtain ⟨_, a1, a2, a3, a4, a5, a6, a7⟩ := H
  have c1 : fz_l (fz_dv P) (h + 1) := fz_l_mono (fz_dv_l a1) (by omega)
  have c2 : fz_l (fz_dv Q) (h + 1) := fz_l_mono (fz_dv_l a2) (by omega)
  have c3 : fz_l (fz_dv p) (h + 1) := fz_l_mono (fz_dv_l a3) (by omega)
  have c4 : fz_l (fz_dv q) (h + 1) := fz_l_mono (fz_dv_l a4) (by omega)
  exact gr_mk hh (fz_l_m' a2 a2 (by omega)) (fz_l_d (fz_l_m' c1 a2 (by omega)) (fz_l_m' a1 c2 (by omega))) (fz_l_d (fz_l_m' c3 a4 (by omega)) (fz_l_m' a3 c4 (by omega))) (fz_l_m' a4 a4 (by omega)) (fz_m_ne ⟨_, a2⟩ ⟨_, a2⟩ (fz_low_nQ a5) (fz_low_nQ a5)) (fz_m_ne ⟨_, a4⟩ ⟨_, a4⟩ a6 a6) (fz_dv_eq a7) hL e d1 d2
/-- the derivative's value, for any height -/
theorem gr_slope {P Q p q A B : Nat → Fin 101} {h : Nat} (H : gr_fr P Q p q h) (hL : fz_low A B) (e : fz_m A (fz_m Q Q) = fz_m (fz_d (fz_m (fz_dv P) Q) (fz_m P (fz_dv Q))) B) : fz_m A (fz_m q q) = fz_m (fz_d (fz_m (fz_dv p) q) (fz_m p (fz_dv q))) B := by
  obtain ⟨_, a1, a2, a3, a4, a5, a6, a7⟩ := H
  have c3 : fz_p (fz_dv p) := ⟨_, fz_dv_l a3⟩
  have c4 : fz_p (fz_dv q) := ⟨_, fz_dv_l a4⟩
  exact fz_low_keep hL.1 (fz_low_pQ hL) (fz_p_m ⟨_, a2⟩ ⟨_, a2⟩) (fz_p_d (fz_p_m c3 ⟨_, a4⟩) (fz_p_m ⟨_, a3⟩ c4)) (fz_p_m ⟨_, a4⟩ ⟨_, a4⟩) (fz_m_ne ⟨_, a2⟩ ⟨_, a2⟩ (fz_low_nQ a5) (fz_low_nQ a5)) e (fz_dv_eq a7)
/-! powers -/
def fz_pw (f : Nat → Fin 101) : Nat → Nat → Fin 101
  | 0 => fz_o 0 1
  | n + 1 => fz_m (fz_pw f n) f
theorem fz_pw_l {f : Nat → Fin 101} {h : Nat} (hf : fz_l f (h + 1)) : ∀ n, fz_l (fz_pw f n) (n * h + 1) := by
  intro n
  induction n with
  | zero => exact fz_l_o (by omega)
  | succ n ih => exact fz_l_m' ih hf (by rw [Nat.succ_mul]; omega)
theorem fz_pw_co {P Q : Nat → Fin 101} (hP : fz_p P) (hQ : fz_p Q) (h : fz_co P Q) : ∀ n, fz_p (fz_pw P n) ∧ fz_co (fz_pw P n) Q := by
  intro n
  induction n with
  | zero => exact ⟨fz_p_o 0 1, fz_co_s (fz_low_1 hQ).2.1⟩
  | succ n ih => exact ⟨fz_p_m ih.1 hP, fz_co_m ih.1 hP hQ ih.2 h⟩
theorem fz_pw_mo {Q : Nat → Fin 101} {m : Nat} (h : fz_mo Q m) : ∀ n, ∃ m', fz_mo (fz_pw Q n) m' := by
  intro n
  induction n with
  | zero => exact ⟨0, rfl, fz_l_o (by omega)⟩
  | succ n ih =>
    obtain ⟨m', hm'⟩ := ih
    exact ⟨m' + m, fz_mo_m hm' h⟩
theorem fz_pw_low {P Q : Nat → Fin 101} (h : fz_low P Q) (n : Nat) : fz_low (fz_pw P n) (fz_pw Q n) := by
  have pQ := fz_low_pQ h
  obtain ⟨pP, hc, m, mo⟩ := h
  have h1 := fz_pw_co pP pQ hc n
  have h2 := fz_pw_co pQ h1.1 (fz_co_s h1.2) n
  exact ⟨h1.1, fz_co_s h2.2, fz_pw_mo mo n⟩
theorem fz_pw_ne {q : Nat → Fin 101} (pq : fz_p q) (nq : q ≠ fz_o 0 0) : ∀ n, fz_p (fz_pw q n) ∧ fz_pw q n ≠ fz_o 0 0 := by
  intro n
  induction n with
  | zero => exact ⟨fz_p_o 0 1, fz_low_nQ fz_low_01⟩
  | succ n ih => exact ⟨fz_p_m ih.1 pq, fz_m_ne ih.1 pq ih.2 nq⟩
theorem fz_pw_eq {P Q p q : Nat → Fin 101} (h : fz_m P q = fz_m p Q) : ∀ n, fz_m (fz_pw P n) (fz_pw q n) = fz_m (fz_pw p n) (fz_pw Q n) := by
  intro n
  induction n with
  | zero => rfl
  | succ n ih => exact @fz_r_mul _ fz_ring (fz_pw P n) (fz_pw Q n) (fz_pw p n) (fz_pw q n) P Q p q ih h
theorem gr_pow {P Q p q : Nat → Fin 101} {h : Nat} (H : gr_fr P Q p q h) (n : Nat) (hh : n * h ≤ 12) : gr_fr (fz_pw P n) (fz_pw Q n) (fz_pw p n) (fz_pw q n) (n * h) := by
  obtain ⟨_, a1, a2, a3, a4, a5, a6, a7⟩ := H
  exact ⟨hh, fz_pw_l a1 n, fz_pw_l a2 n, fz_pw_l a3 n, fz_pw_l a4 n, fz_pw_low a5 n, (fz_pw_ne ⟨_, a4⟩ a6 n).2, fz_pw_eq a7 n⟩
end
section
/-! apply and power, both sides (written by wip/whole/gen_x4.py) -/
section
variable {c : Int32} {sA sB hh lA lB rA rB zA zB cm rm qt : Nat → Int32}
theorem gx_109_0 {post : Int32 → SX → Prop} {x2 : Int32} {P Q P1 Q1 : Nat → Fin 101} (j : Nat) (hj : j < 6) (hP : fz_ar lA P) (hQ : fz_ar lB Q) (hP1 : fz_ar rA P1) (hQ1 : fz_ar rB Q1) (lP : fz_l P 13) (lQ : fz_l Q 13) (lP1 : fz_l P1 13) (lQ1 : fz_l Q1 13) (nQ : Q ≠ fz_o 0 0) (nQ1 : Q1 ≠ fz_o 0 0) 
    (K : ∀ tA tB yA yB t1 t2 t3 A B, fz_at tA (j * 25) A → fz_at tB (j * 25) B → (∀ m, m < j * 25 ∨ j * 25 + 25 ≤ m → tA m = sA m) → (∀ m, m < j * 25 ∨ j * 25 + 25 ≤ m → tB m = sB m) → fz_low A B → fz_m A (fz_m Q Q1) = fz_m (fz_a (fz_m P Q1) (fz_m Q P1)) B → (∀ n, fz_l (fz_a (fz_m P Q1) (fz_m Q P1)) n → fz_l A n) → (∀ n, 1 ≤ n → fz_l (fz_m Q Q1) n → fz_l B n) → post (nI (j + 1)) (nI (j + 1), tA, tB, (upd hh j x2), lA, lB, rA, rB, yA, yB, t1, t2, t3)) : wX_apply_109 post 0 x2 (nI (j + 2)) sA sB hh lA lB rA rB zA zB cm rm qt := by
  refine gx_comb_0 (post := _) hP hQ hP1 hQ1 (fz_l_mono lP (by omega)) (fz_l_mono lQ (by omega)) (fun t t' h h' => ?_)
  refine gx_low (post := _) h h' (fz_l_a (fz_l_m (m := 12) (n := 12) lP lQ1) (fz_l_m (m := 12) (n := 12) lQ lP1)) (fz_l_m (m := 12) (n := 12) lQ lQ1) (fz_m_ne ⟨_, lQ⟩ ⟨_, lQ1⟩ nQ nQ1) (fun yA yB t1 t2 t3 A B k1 k2 k3 k4 k5 k6 k7 k8 => ?_)
  refine nm_r (e' := nI j) (pk_sub (b := 2) (by omega)) ?_
  refine gx_push (post := _) j hj k1 k2 (fun tA tB m1 m2 m3 m4 => ?_)
  exact K tA tB yA yB t1 t2 t3 A B m1 m2 m3 m4 k5 k6 k7 k8
theorem gx_109_1 {post : Int32 → SX → Prop} {x2 : Int32} {P Q P1 Q1 : Nat → Fin 101} (j : Nat) (hj : j < 6) (hP : fz_ar lA P) (hQ : fz_ar lB Q) (hP1 : fz_ar rA P1) (hQ1 : fz_ar rB Q1) (lP : fz_l P 13) (lQ : fz_l Q 13) (lP1 : fz_l P1 13) (lQ1 : fz_l Q1 13) (nQ : Q ≠ fz_o 0 0) (nQ1 : Q1 ≠ fz_o 0 0) 
    (K : ∀ tA tB yA yB t1 t2 t3 A B, fz_at tA (j * 25) A → fz_at tB (j * 25) B → (∀ m, m < j * 25 ∨ j * 25 + 25 ≤ m → tA m = sA m) → (∀ m, m < j * 25 ∨ j * 25 + 25 ≤ m → tB m = sB m) → fz_low A B → fz_m A (fz_m Q Q1) = fz_m (fz_d (fz_m P Q1) (fz_m Q P1)) B → (∀ n, fz_l (fz_d (fz_m P Q1) (fz_m Q P1)) n → fz_l A n) → (∀ n, 1 ≤ n → fz_l (fz_m Q Q1) n → fz_l B n) → post (nI (j + 1)) (nI (j + 1), tA, tB, (upd hh j x2), lA, lB, rA, rB, yA, yB, t1, t2, t3)) : wX_apply_109 post 1 x2 (nI (j + 2)) sA sB hh lA lB rA rB zA zB cm rm qt := by
  refine gx_comb_1 (post := _) hP hQ hP1 hQ1 (fz_l_mono lP (by omega)) (fz_l_mono lQ (by omega)) (fun t t' h h' => ?_)
  refine gx_low (post := _) h h' (fz_l_d (fz_l_m (m := 12) (n := 12) lP lQ1) (fz_l_m (m := 12) (n := 12) lQ lP1)) (fz_l_m (m := 12) (n := 12) lQ lQ1) (fz_m_ne ⟨_, lQ⟩ ⟨_, lQ1⟩ nQ nQ1) (fun yA yB t1 t2 t3 A B k1 k2 k3 k4 k5 k6 k7 k8 => ?_)
  refine nm_r (e' := nI j) (pk_sub (b := 2) (by omega)) ?_
  refine gx_push (post := _) j hj k1 k2 (fun tA tB m1 m2 m3 m4 => ?_)
  exact K tA tB yA yB t1 t2 t3 A B m1 m2 m3 m4 k5 k6 k7 k8
theorem gx_109_2 {post : Int32 → SX → Prop} {x2 : Int32} {P Q P1 Q1 : Nat → Fin 101} (j : Nat) (hj : j < 6) (hP : fz_ar lA P) (hQ : fz_ar lB Q) (hP1 : fz_ar rA P1) (hQ1 : fz_ar rB Q1) (lP : fz_l P 13) (lQ : fz_l Q 13) (lP1 : fz_l P1 13) (lQ1 : fz_l Q1 13) (nQ : Q ≠ fz_o 0 0) (nQ1 : Q1 ≠ fz_o 0 0) 
    (K : ∀ tA tB yA yB t1 t2 t3 A B, fz_at tA (j * 25) A → fz_at tB (j * 25) B → (∀ m, m < j * 25 ∨ j * 25 + 25 ≤ m → tA m = sA m) → (∀ m, m < j * 25 ∨ j * 25 + 25 ≤ m → tB m = sB m) → fz_low A B → fz_m A (fz_m Q Q1) = fz_m (fz_m P P1) B → (∀ n, fz_l (fz_m P P1) n → fz_l A n) → (∀ n, 1 ≤ n → fz_l (fz_m Q Q1) n → fz_l B n) → post (nI (j + 1)) (nI (j + 1), tA, tB, (upd hh j x2), lA, lB, rA, rB, yA, yB, t1, t2, t3)) : wX_apply_109 post 2 x2 (nI (j + 2)) sA sB hh lA lB rA rB zA zB cm rm qt := by
  refine gx_comb_2 (post := _) hP hQ hP1 hQ1 (fz_l_mono lP (by omega)) (fz_l_mono lQ (by omega)) (fun t t' h h' => ?_)
  refine gx_low (post := _) h h' (fz_l_m (m := 12) (n := 12) lP lP1) (fz_l_m (m := 12) (n := 12) lQ lQ1) (fz_m_ne ⟨_, lQ⟩ ⟨_, lQ1⟩ nQ nQ1) (fun yA yB t1 t2 t3 A B k1 k2 k3 k4 k5 k6 k7 k8 => ?_)
  refine nm_r (e' := nI j) (pk_sub (b := 2) (by omega)) ?_
  refine gx_push (post := _) j hj k1 k2 (fun tA tB m1 m2 m3 m4 => ?_)
  exact K tA tB yA yB t1 t2 t3 A B m1 m2 m3 m4 k5 k6 k7 k8
theorem gx_109_3 {post : Int32 → SX → Prop} {x2 : Int32} {P Q P1 Q1 : Nat → Fin 101} (j : Nat) (hj : j < 6) (hP : fz_ar lA P) (hQ : fz_ar lB Q) (hP1 : fz_ar rA P1) (hQ1 : fz_ar rB Q1) (lP : fz_l P 13) (lQ : fz_l Q 13) (lP1 : fz_l P1 13) (lQ1 : fz_l Q1 13) (nQ : Q ≠ fz_o 0 0) (nP1 : P1 ≠ fz_o 0 0) 
    (K : ∀ tA tB yA yB t1 t2 t3 A B, fz_at tA (j * 25) A → fz_at tB (j * 25) B → (∀ m, m < j * 25 ∨ j * 25 + 25 ≤ m → tA m = sA m) → (∀ m, m < j * 25 ∨ j * 25 + 25 ≤ m → tB m = sB m) → fz_low A B → fz_m A (fz_m Q P1) = fz_m (fz_m P Q1) B → (∀ n, fz_l (fz_m P Q1) n → fz_l A n) → (∀ n, 1 ≤ n → fz_l (fz_m Q P1) n → fz_l B n) → post (nI (j + 1)) (nI (j + 1), tA, tB, (upd hh j x2), lA, lB, rA, rB, yA, yB, t1, t2, t3)) : wX_apply_109 post 3 x2 (nI (j + 2)) sA sB hh lA lB rA rB zA zB cm rm qt := by
  refine gx_comb_3 (post := _) hP hQ hP1 hQ1 (fz_l_mono lP (by omega)) (fz_l_mono lQ (by omega)) (fun t t' h h' => ?_)
  refine gx_low (post := _) h h' (fz_l_m (m := 12) (n := 12) lP lQ1) (fz_l_m (m := 12) (n := 12) lQ lP1) (fz_m_ne ⟨_, lQ⟩ ⟨_, lP1⟩ nQ nP1) (fun yA yB t1 t2 t3 A B k1 k2 k3 k4 k5 k6 k7 k8 => ?_)
  refine nm_r (e' := nI j) (pk_sub (b := 2) (by omega)) ?_
  refine gx_push (post := _) j hj k1 k2 (fun tA tB m1 m2 m3 m4 => ?_)
  exact K tA tB yA yB t1 t2 t3 A B m1 m2 m3 m4 k5 k6 k7 k8
theorem gx_81 {post : Int32 → SX → Prop} {x2 : Int32} {P Q : Nat → Fin 101} (j h e : Nat) (hj : j < 6) (he : e ≤ 3) (hh12 : e * h ≤ 12) (hP : fz_ar rA P) (hQ : fz_ar rB Q) (lP : fz_l P (h + 1)) (lQ : fz_l Q (h + 1))
    (K : ∀ tA tB yA yB a1 a2, fz_at tA (j * 25) (fz_pw P e) → fz_at tB (j * 25) (fz_pw Q e) → (∀ m, m < j * 25 ∨ j * 25 + 25 ≤ m → tA m = sA m) → (∀ m, m < j * 25 ∨ j * 25 + 25 ≤ m → tB m = sB m) → post (nI (j + 1)) (nI (j + 1), tA, tB, (upd hh j x2), a1, a2, rA, rB, yA, yB, cm, rm, qt)) : ∀ (n i : Nat) (lA lB zA zB : Nat → Int32), e < i + n → i ≤ e → fz_ar zA (fz_pw P i) → fz_ar zB (fz_pw Q i) → wX_power_81 post (nI e) x2 n (nI i) (nI (j + 1)) sA sB hh lA lB rA rB zA zB cm rm qt := by
  intro n
  induction n with
  | zero => intro i lA lB zA zB h1 h2; omega
  | succ n ih =>
    intro i lA lB zA zB h1 h2 hA hB
    by_cases d : i = e
    · subst d
      refine br_t (nI_le (Nat.le_refl i) (by omega)) ?_
      refine nm_r (nI_pred j) ?_
      refine gx_push (post := _) j hj hA hB (fun tA tB m1 m2 m3 m4 => ?_)
      exact K tA tB zA zB lA lB m1 m2 m3 m4
    · refine br_f (nI_ge (by omega) (by omega)) ?_
      have hi : i * h ≤ 12 := Nat.le_trans (Nat.mul_le_mul_right h h2) hh12
      refine gx_copy_zA_lA (post := _) hA (fun t1 k1 => ?_)
      refine gx_copy_zB_lB (post := _) hB (fun t2 k2 => ?_)
      refine gx_comb_2 (post := _) k1 k2 hP hQ (fz_l_mono (fz_pw_l lP i) (by omega)) (fz_l_mono (fz_pw_l lQ i) (by omega)) (fun t3 t4 k3 k4 => ?_)
      refine nm_r (nI_1 i) ?_
      exact ih (i + 1) t1 t2 t3 t4 (by omega) (by omega) k3 k4
end
section
variable {dp : Int32} {ce hy ro le : Nat → Int32}
theorem gy_205 {post : Int32 → SY → Prop} {a b : Nat → Fin 101} (j h h1 : Nat) (hj : j + 1 < 6) (e0 : hy j = nI h) (e1 : hy (j + 1) = nI h1) (ha : fz_at ce (25 * 14) a) (hb : fz_at ce (25 * 15) b)
    (K : ∀ ce', fz_at ce' (25 * (2 * j)) a → fz_at ce' (25 * (2 * j + 1)) b → (∀ s, s < 2 * j → ∀ k, k < 25 → ce' (25 * s + k) = ce (25 * s + k)) → post (nI (j + 1)) (nI (j + 1), ce', upd hy j (nI (h + h1)), ro, le)) : wY_apply_205 post (nI j) (nI (j + 1)) (nI (j + 2)) ce hy ro le := by
  refine gy_take (post := _) j (by omega) rfl ha hb (fun c1 k1 k2 k3 => ?_)
  refine ⟨vp_in_nI (by omega) (by decide), vp_in_nI (by omega) (by decide), vp_in_nI (by omega) (by decide), ?_⟩
  refine nm_r (e' := upd hy j (nI (h + h1))) (by rw [nI_clamp (by omega), nI_clamp (by omega), e0, e1, nI_add]) ?_
  refine nm_r (nI_pred (j + 1)) ?_
  exact K c1 k1 k2 (fun s hs k hk => k3 s (by omega) (by omega) k hk)
theorem gy_e0 (j : Nat) : 2 * nI j = nI (2 * j) := pk_mul 2 j
theorem gy_e1 (j : Nat) : 2 * nI j + 1 = nI (2 * j + 1) := (congrArg (· + 1) (pk_mul 2 j)).trans (nI_1 (2 * j))
theorem gy_75_0 {post : Int32 → SY → Prop} {p q p1 q1 : Nat → Fin 101} (j h h1 : Nat) (hj : j + 1 < 6) (e0 : hy j = nI h) (e1 : hy (j + 1) = nI h1) (hp : fz_at ce (25 * (2 * j)) p) (hq : fz_at ce (25 * (2 * j + 1)) q) (hp1 : fz_at ce (25 * (2 * (j + 1))) p1) (hq1 : fz_at ce (25 * (2 * (j + 1) + 1)) q1)
    (K : ∀ ce', fz_at ce' (25 * (2 * j)) (fz_a (fz_m p q1) (fz_m p1 q)) → fz_at ce' (25 * (2 * j + 1)) (fz_m q q1) → (∀ s, s < 2 * j → ∀ k, k < 25 → ce' (25 * s + k) = ce (25 * s + k)) → post (nI (j + 1)) (nI (j + 1), ce', upd hy j (nI (h + h1)), ro, le)) : wY_apply_75 post 0 (nI j) (nI (j + 1)) (nI (j + 2)) ce hy ro le := by
  refine br_f (by decide) ?_
  refine gy_mul (post := _) (2 * j) (2 * (j + 1) + 1) 14 (by omega) (by omega) (by omega) (by omega) (by omega) (gy_e0 j) (gy_e1 (j + 1)) rfl hp hq1 (fun c1 k1 k2 => ?_)
  refine gy_mul (post := _) (2 * (j + 1)) (2 * j + 1) 16 (by omega) (by omega) (by omega) (by omega) (by omega) (gy_e0 (j + 1)) (gy_e1 j) rfl (fz_fr_at k2 (by omega) hp1) (fz_fr_at k2 (by omega) hq) (fun c2 k3 k4 => ?_)
  refine br_t rfl ?_
  refine gy_add (post := _) 14 16 1 (by omega) (by omega) (by omega) rfl rfl rfl (fz_fr_at k4 (by omega) k1) k3 (fun c3 k5 k6 => ?_)
  have k5' : fz_at c3 (25 * 14) (fz_a (fz_m p q1) (fz_m p1 q)) := by
    rw [fz_m_comm (fz_o 0 1), fz_m_one] at k5
    exact k5
  refine gy_mul (post := _) (2 * j + 1) (2 * (j + 1) + 1) 15 (by omega) (by omega) (by omega) (by omega) (by omega) (gy_e1 j) (gy_e1 (j + 1)) rfl (fz_fr_at k6 (by omega) (fz_fr_at k4 (by omega) (fz_fr_at k2 (by omega) hq))) (fz_fr_at k6 (by omega) (fz_fr_at k4 (by omega) (fz_fr_at k2 (by omega) hq1))) (fun c4 k7 k8 => ?_)
  refine gy_205 j h h1 hj e0 e1 (fz_fr_at k8 (by omega) k5') k7 (fun c5 m1 m2 m3 => ?_)
  refine K c5 m1 m2 (fun s hs k hk => ?_)
  rw [m3 s hs k hk, k8 s (by omega) k hk, k6 s (by omega) k hk, k4 s (by omega) k hk, k2 s (by omega) k hk]
theorem gy_75_1 {post : Int32 → SY → Prop} {p q p1 q1 : Nat → Fin 101} (j h h1 : Nat) (hj : j + 1 < 6) (e0 : hy j = nI h) (e1 : hy (j + 1) = nI h1) (hp : fz_at ce (25 * (2 * j)) p) (hq : fz_at ce (25 * (2 * j + 1)) q) (hp1 : fz_at ce (25 * (2 * (j + 1))) p1) (hq1 : fz_at ce (25 * (2 * (j + 1) + 1)) q1)
    (K : ∀ ce', fz_at ce' (25 * (2 * j)) (fz_d (fz_m p q1) (fz_m p1 q)) → fz_at ce' (25 * (2 * j + 1)) (fz_m q q1) → (∀ s, s < 2 * j → ∀ k, k < 25 → ce' (25 * s + k) = ce (25 * s + k)) → post (nI (j + 1)) (nI (j + 1), ce', upd hy j (nI (h + h1)), ro, le)) : wY_apply_75 post 1 (nI j) (nI (j + 1)) (nI (j + 2)) ce hy ro le := by
  refine br_f (by decide) ?_
  refine gy_mul (post := _) (2 * j) (2 * (j + 1) + 1) 14 (by omega) (by omega) (by omega) (by omega) (by omega) (gy_e0 j) (gy_e1 (j + 1)) rfl hp hq1 (fun c1 k1 k2 => ?_)
  refine gy_mul (post := _) (2 * (j + 1)) (2 * j + 1) 16 (by omega) (by omega) (by omega) (by omega) (by omega) (gy_e0 (j + 1)) (gy_e1 j) rfl (fz_fr_at k2 (by omega) hp1) (fz_fr_at k2 (by omega) hq) (fun c2 k3 k4 => ?_)
  refine br_f (by decide) ?_
  refine gy_add (post := _) 14 16 100 (by omega) (by omega) (by omega) rfl rfl rfl (fz_fr_at k4 (by omega) k1) k3 (fun c3 k5 k6 => ?_)
  have k5' : fz_at c3 (25 * 14) (fz_d (fz_m p q1) (fz_m p1 q)) := by
    rw [fz_o100] at k5
    rw [show fz_d (fz_m p q1) (fz_m p1 q) = fz_a (fz_m p q1) (fz_m (fz_n (fz_o 0 1)) (fz_m p1 q)) from @fz_r_fd _ fz_ring (fz_m p q1) (fz_m p1 q)]
    exact k5
  refine gy_mul (post := _) (2 * j + 1) (2 * (j + 1) + 1) 15 (by omega) (by omega) (by omega) (by omega) (by omega) (gy_e1 j) (gy_e1 (j + 1)) rfl (fz_fr_at k6 (by omega) (fz_fr_at k4 (by omega) (fz_fr_at k2 (by omega) hq))) (fz_fr_at k6 (by omega) (fz_fr_at k4 (by omega) (fz_fr_at k2 (by omega) hq1))) (fun c4 k7 k8 => ?_)
  refine gy_205 j h h1 hj e0 e1 (fz_fr_at k8 (by omega) k5') k7 (fun c5 m1 m2 m3 => ?_)
  refine K c5 m1 m2 (fun s hs k hk => ?_)
  rw [m3 s hs k hk, k8 s (by omega) k hk, k6 s (by omega) k hk, k4 s (by omega) k hk, k2 s (by omega) k hk]
theorem gy_75_2 {post : Int32 → SY → Prop} {p q p1 q1 : Nat → Fin 101} (j h h1 : Nat) (hj : j + 1 < 6) (e0 : hy j = nI h) (e1 : hy (j + 1) = nI h1) (hp : fz_at ce (25 * (2 * j)) p) (hq : fz_at ce (25 * (2 * j + 1)) q) (hp1 : fz_at ce (25 * (2 * (j + 1))) p1) (hq1 : fz_at ce (25 * (2 * (j + 1) + 1)) q1)
    (K : ∀ ce', fz_at ce' (25 * (2 * j)) (fz_m p p1) → fz_at ce' (25 * (2 * j + 1)) (fz_m q q1) → (∀ s, s < 2 * j → ∀ k, k < 25 → ce' (25 * s + k) = ce (25 * s + k)) → post (nI (j + 1)) (nI (j + 1), ce', upd hy j (nI (h + h1)), ro, le)) : wY_apply_75 post 2 (nI j) (nI (j + 1)) (nI (j + 2)) ce hy ro le := by
  refine br_t (by decide) (br_t rfl (br_t rfl ?_))
  refine gy_mul (post := _) (2 * j) (2 * (j + 1)) 14 (by omega) (by omega) (by omega) (by omega) (by omega) (gy_e0 j) (gy_e0 (j + 1)) rfl hp hp1 (fun c1 k1 k2 => ?_)
  refine gy_mul (post := _) (2 * j + 1) (2 * (j + 1) + 1) 15 (by omega) (by omega) (by omega) (by omega) (by omega) (gy_e1 j) (gy_e1 (j + 1)) rfl (fz_fr_at k2 (by omega) hq) (fz_fr_at k2 (by omega) hq1) (fun c2 k3 k4 => ?_)
  refine gy_205 j h h1 hj e0 e1 (fz_fr_at k4 (by omega) k1) k3 (fun c5 m1 m2 m3 => ?_)
  refine K c5 m1 m2 (fun s hs k hk => ?_)
  rw [m3 s hs k hk, k4 s (by omega) k hk, k2 s (by omega) k hk]
theorem gy_75_3 {post : Int32 → SY → Prop} {p q p1 q1 : Nat → Fin 101} (j h h1 : Nat) (hj : j + 1 < 6) (e0 : hy j = nI h) (e1 : hy (j + 1) = nI h1) (hp : fz_at ce (25 * (2 * j)) p) (hq : fz_at ce (25 * (2 * j + 1)) q) (hp1 : fz_at ce (25 * (2 * (j + 1))) p1) (hq1 : fz_at ce (25 * (2 * (j + 1) + 1)) q1)
    (K : ∀ ce', fz_at ce' (25 * (2 * j)) (fz_m p q1) → fz_at ce' (25 * (2 * j + 1)) (fz_m q p1) → (∀ s, s < 2 * j → ∀ k, k < 25 → ce' (25 * s + k) = ce (25 * s + k)) → post (nI (j + 1)) (nI (j + 1), ce', upd hy j (nI (h + h1)), ro, le)) : wY_apply_75 post 3 (nI j) (nI (j + 1)) (nI (j + 2)) ce hy ro le := by
  refine br_t (by decide) (br_f (by decide) (br_f (by decide) ?_))
  refine gy_mul (post := _) (2 * j) (2 * (j + 1) + 1) 14 (by omega) (by omega) (by omega) (by omega) (by omega) (gy_e0 j) (gy_e1 (j + 1)) rfl hp hq1 (fun c1 k1 k2 => ?_)
  refine gy_mul (post := _) (2 * j + 1) (2 * (j + 1)) 15 (by omega) (by omega) (by omega) (by omega) (by omega) (gy_e1 j) (gy_e0 (j + 1)) rfl (fz_fr_at k2 (by omega) hq) (fz_fr_at k2 (by omega) hp1) (fun c2 k3 k4 => ?_)
  refine gy_205 j h h1 hj e0 e1 (fz_fr_at k4 (by omega) k1) k3 (fun c5 m1 m2 m3 => ?_)
  refine K c5 m1 m2 (fun s hs k hk => ?_)
  rw [m3 s hs k hk, k4 s (by omega) k hk, k2 s (by omega) k hk]
theorem gy_60 {post : Int32 → SY → Prop} {p q : Nat → Fin 101} (j h e : Nat) (hj : j < 6) (he : e ≤ 3) (eh : hy j = nI h) (hp : fz_at ce (25 * (2 * j)) p) (hq : fz_at ce (25 * (2 * j + 1)) q)
    (K : ∀ ce', fz_at ce' (25 * (2 * j)) (fz_pw p e) → fz_at ce' (25 * (2 * j + 1)) (fz_pw q e) → (∀ s, s < 2 * j → ∀ k, k < 25 → ce' (25 * s + k) = ce (25 * s + k)) → post dp (dp, ce', upd hy j (nI (e * h)), ro, le)) : ∀ (n i : Nat) (ce1 : Nat → Int32), e < i + n → i ≤ e → fz_at ce1 (25 * 14) (fz_pw p i) → fz_at ce1 (25 * 15) (fz_pw q i) → fz_f12 ce ce1 → wY_power_60 post (nI e) (nI j) n (nI i) dp ce1 hy ro le := by
  intro n
  induction n with
  | zero => intro i ce1 h1 h2; omega
  | succ n ih =>
    intro i ce1 h1 h2 hA hB f12
    by_cases d : i = e
    · subst d
      refine br_t (nI_le (Nat.le_refl i) (by omega)) ?_
      refine gy_take (post := _) j (by omega) rfl hA hB (fun c1 k1 k2 k3 => ?_)
      refine ⟨vp_in_nI (by omega) (by decide), vp_in_nI (by omega) (by decide), ?_⟩
      refine nm_r (e' := upd hy j (nI (i * h))) (by rw [nI_clamp (by omega), eh, pk_mul]) ?_
      exact K c1 k1 k2 (fun s hs k hk => (k3 s (by omega) (by omega) k hk).trans (f12 s (by omega) k hk))
    · refine br_f (nI_ge (by omega) (by omega)) ?_
      refine gy_mul (post := _) 14 (2 * j) 16 (by omega) (by omega) (by omega) (by omega) (by omega) rfl (gy_e0 j) rfl hA (fz_f12_at f12 (by omega) hp) (fun c1 k1 k2 => ?_)
      refine gy_copy (post := _) 16 14 (by omega) (by omega) (by omega) rfl rfl k1 (fun c2 k3 k4 => ?_)
      refine gy_mul (post := _) 15 (2 * j + 1) 16 (by omega) (by omega) (by omega) (by omega) (by omega) rfl (gy_e1 j) rfl (fz_fr_at k4 (by omega) (fz_fr_at k2 (by omega) hB)) (fz_fr_at k4 (by omega) (fz_fr_at k2 (by omega) (fz_f12_at f12 (by omega) hq))) (fun c3 k5 k6 => ?_)
      refine gy_copy (post := _) 16 15 (by omega) (by omega) (by omega) rfl rfl k5 (fun c4 k7 k8 => ?_)
      refine nm_r (nI_1 i) ?_
      refine ih (i + 1) c4 (by omega) (by omega) (fz_fr_at k8 (by omega) (fz_fr_at k6 (by omega) k3)) k7 ?_
      exact fz_f12_tr f12 (fz_f12_tr (fz_f12_fr k2 (by omega)) (fz_f12_tr (fz_f12_fr k4 (by omega)) (fz_f12_tr (fz_f12_fr k6 (by omega)) (fz_f12_fr k8 (by omega)))))
end
end
section
/-! what is owed, first part (written by wip/whole/gen_x5.py) -/
theorem gr_num (x : Int32) : x < 0 ∨ (∃ j, 101 ≤ j ∧ j < 2 ^ 31 ∧ x = nI j) ∨ ∃ a, x = fz_c a := by
  by_cases h : x < 0
  · exact Or.inl h
  · obtain ⟨j, hj, rfl⟩ := nI_of h
    by_cases c : j < 101
    · exact Or.inr (Or.inr ⟨⟨j, c⟩, rfl⟩)
    · exact Or.inr (Or.inl ⟨j, by omega, hj, rfl⟩)
theorem gx_isn_0 {post : Int32 → Prop} {x : Int32} (h : x < 0 ∨ ∃ j, 101 ≤ j ∧ j < 2 ^ 31 ∧ x = nI j) (K : post 0) : wpX_isNumber post x := by
  rcases h with h | ⟨j, h1, h2, rfl⟩
  · exact br_t h K
  · exact br_f (nI_pos h2) (br_t (nI_le (a := 101) h1 h2) K)
theorem gx_isn_1 {post : Int32 → Prop} (a : Fin 101) (K : post 1) : wpX_isNumber post (fz_c a) := br_f (fz_c_ge a) (br_f (nI_ge (b := 101) a.isLt (by decide)) K)
theorem gy_isn_0 {post : Int32 → Prop} {u : SY} {x : Int32} (h : x < 0 ∨ ∃ j, 101 ≤ j ∧ j < 2 ^ 31 ∧ x = nI j) (K : post 0) : wpY_isNumber post u x := by
  obtain ⟨dp, ce, hy, ro, le⟩ := u
  rcases h with h | ⟨j, h1, h2, rfl⟩
  · exact br_t h K
  · exact br_f (nI_pos h2) (br_t (nI_lt (a := 100) (by omega) h2) K)
theorem gy_isn_1 {post : Int32 → Prop} {u : SY} (a : Fin 101) (K : post 1) : wpY_isNumber post u (fz_c a) := by
  obtain ⟨dp, ce, hy, ro, le⟩ := u
  exact br_f (fz_c_ge a) (br_f (nI_nlt (a := 100) (by omega) (by decide)) K)
theorem gr_f_const (v : Fin 101) : gr_fr (fz_o 0 v) (fz_o 0 1) (fz_o 0 v) (fz_o 0 1) 0 :=
  ⟨by omega, fz_l_o (by omega), fz_l_o (by omega), fz_l_o (by omega), fz_l_o (by omega), fz_low_1 (fz_p_o 0 v), fz_low_nQ fz_low_01, rfl⟩
theorem gr_f_var : gr_fr (fz_o 1 1) (fz_o 0 1) (fz_o 1 1) (fz_o 0 1) 1 :=
  ⟨by omega, fz_l_o (by omega), fz_l_o (by omega), fz_l_o (by omega), fz_l_o (by omega), fz_low_1 (fz_p_o 1 1), fz_low_nQ fz_low_01, rfl⟩
theorem gr_o1 : ∀ k, k ≠ 1 → fz_o 1 1 k = fz_o 0 0 k := fun k hk => by
  rw [fz_o00]
  show (if k = 1 then (1 : Fin 101) else 0) = 0
  rw [if_neg hk]
theorem gr_ne6 {d : Nat} (h : d < 6) : ¬ nI d = 6 := by
  rw [show (6 : Int32) = nI 6 from rfl, nI_eq (by omega) (by omega)]
  omega

theorem i_vc_variable {k : Nat} {u : SX} {v : SY} (I : i_Rel k u v) (hk : k + 3 ≤ 1536) : wpX_variable (fun r u' => wpY_variable (fun r' v' => r' = r ∧ i_Rel (k + 3) u' v') v) u := by
  obtain ⟨c, sA, sB, hh, lA, lB, rA, rB, zA, zB, cm, rm, qt⟩ := u
  obtain ⟨dp, ce, hy, ro, le⟩ := v
  have I0 := I
  obtain ⟨d, hd, e1, e2, hs⟩ := I
  dsimp only at e1 e2 hs
  subst e1 e2
  by_cases h6 : d < 6
  · refine br_t (nI_lt (b := 6) h6 (by decide)) ?_
    refine gx_set_zA (post := _) 0 (fun t1 k1 => ?_)
    refine nm_e ?_
    refine gx_set_zB (post := _) 1 (fun t2 k2 => ?_)
    refine gx_push (post := _) (f := fz_o 1 1) d h6 (fz_ar_up k1 rfl gr_o1) k2 (fun tA tB m1 m2 m3 m4 => ?_)
    refine br_f (gr_ne6 h6) ?_
    refine gy_set (post := _) (2 * d) 0 (by omega) (gy_e0 d) rfl (fun c1 a1 a2 => ?_)
    refine gy_put (post := _) (2 * d) 1 1 (by omega) (by omega) (gy_e0 d) rfl (by decide) ?_
    refine gy_set (post := _) (2 * d + 1) 1 (by omega) (gy_e1 d) rfl (fun c2 a3 a4 => ?_)
    refine gy_push (post := _) d (by omega) ⟨rfl, d + 1, by omega, rfl, rfl, ?_⟩
    refine gr_new d hs gr_f_var pk_us pk_us (fun i hi => pk_un (by omega)) (fun i hi => pk_un (by omega)) m1 m2 m3 m4 (fz_fr_at a4 (by omega) (fz_at_up a1 rfl gr_o1)) a3 (fun s hs k hk => ?_)
    dsimp only
    rw [a4 s (by omega) k hk, pk_un (by omega), a2 s (by omega) k hk]
  · have d6 : d = 6 := by omega
    subst d6
    exact br_f (by decide) (br_t rfl ⟨rfl, I0⟩)
theorem i_vc_constant {k : Nat} {u : SX} {v : SY} (I : i_Rel k u v) (hk : k + 3 ≤ 1536) (v1 : Int32) : wpX_constant (fun r u' => wpY_constant (fun r' v' => r' = r ∧ i_Rel (k + 3) u' v') v v1) u v1 := by
  obtain ⟨c, sA, sB, hh, lA, lB, rA, rB, zA, zB, cm, rm, qt⟩ := u
  obtain ⟨dp, ce, hy, ro, le⟩ := v
  have I0 := I
  obtain ⟨d, hd, e1, e2, hs⟩ := I
  dsimp only at e1 e2 hs
  subst e1 e2
  rcases gr_num v1 with h | h | ⟨a, rfl⟩
  · unfold wpX_constant
    refine gx_isn_0 (post := _) (Or.inl h) ?_
    exact br_t rfl (br_t h ⟨rfl, I0⟩)
  · unfold wpX_constant
    refine gx_isn_0 (post := _) (Or.inr h) ?_
    refine br_t rfl ?_
    obtain ⟨j, h1, h2, rfl⟩ := h
    exact br_f (nI_pos h2) (br_f (nI_ge (a := 100) (by omega) h2) ⟨rfl, I0⟩)
  · unfold wpX_constant
    refine gx_isn_1 (post := _) a ?_
    refine br_f (by decide) ?_
    by_cases h6 : d < 6
    · refine br_t (nI_lt (b := 6) h6 (by decide)) ?_
      refine gx_set_zA (post := _) a (fun t1 k1 => ?_)
      refine gx_set_zB (post := _) 1 (fun t2 k2 => ?_)
      refine gx_push (post := _) d h6 k1 k2 (fun tA tB m1 m2 m3 m4 => ?_)
      refine br_f (fz_c_ge a) (br_t (nI_le (b := 100) (by omega) (by decide)) (br_f (gr_ne6 h6) ?_))
      refine gy_set (post := _) (2 * d) a (by omega) (gy_e0 d) rfl (fun c1 a1 a2 => ?_)
      refine gy_set (post := _) (2 * d + 1) 1 (by omega) (gy_e1 d) rfl (fun c2 a3 a4 => ?_)
      refine gy_push (post := _) d (by omega) ⟨rfl, d + 1, by omega, rfl, rfl, ?_⟩
      refine gr_new d hs (gr_f_const a) pk_us pk_us (fun i hi => pk_un (by omega)) (fun i hi => pk_un (by omega)) m1 m2 m3 m4 (fz_fr_at a4 (by omega) a1) a3 (fun s hs k hk => ?_)
      dsimp only
      rw [a4 s (by omega) k hk, a2 s (by omega) k hk]
    · have d6 : d = 6 := by omega
      subst d6
      exact br_f (by decide) (br_f (fz_c_ge a) (br_t (nI_le (b := 100) (by omega) (by decide)) (br_t rfl ⟨rfl, I0⟩)))
section
variable {c : Int32} {sA sB hh lA lB rA rB zA zB cm rm qt : Nat → Int32}
theorem gx_apply_go {post : Int32 → SX → Prop} {P Q P1 Q1 : Nat → Fin 101} (op m h h1 : Nat) (ho : op < 3) (hm : m + 1 < 6) (hh12 : h + h1 ≤ 12) (e0 : hh m = nI h) (e1 : hh (m + 1) = nI h1) (hP : fz_at sA (m * 25) P) (hQ : fz_at sB (m * 25) Q) (hP1 : fz_at sA ((m + 1) * 25) P1) (hQ1 : fz_at sB ((m + 1) * 25) Q1)
    (K : ∀ a1 a2 a3 a4, fz_ar a1 P → fz_ar a2 Q → fz_ar a3 P1 → fz_ar a4 Q1 → wX_apply_109 post (nI op) (nI (h + h1)) (nI (m + 2)) sA sB hh a1 a2 a3 a4 zA zB cm rm qt) : wpX_apply post (nI (m + 2), sA, sB, hh, lA, lB, rA, rB, zA, zB, cm, rm, qt) (nI op) := by
  have eA : nI (m + 2) - 2 = nI m := pk_sub (b := 2) (by omega)
  have eB : nI (m + 2) - 1 = nI (m + 1) := nI_pred (m + 1)
  refine br_f (nI_pos (by omega)) (br_t (nI_le (b := 3) (by omega) (by decide)) (br_t (nI_le (a := 2) (by omega) (by omega)) ?_))
  rw [eA, eB]
  refine ⟨vp_in_nI (by omega) (by decide), vp_in_nI (by omega) (by decide), ?_⟩
  refine nm_r (e' := nI (h + h1)) (by rw [nI_clamp (by omega), nI_clamp (by omega), e0, e1, nI_add]) ?_
  refine br_t (nI_le (b := 12) (by omega) (by decide)) ?_
  refine gx_load_lA_lB (post := _) m (by omega) hP hQ (fun a1 a2 k1 k2 => ?_)
  dsimp only
  rw [eB]
  refine gx_load_rA_rB (post := _) (m + 1) (by omega) hP1 hQ1 (fun a3 a4 k3 k4 => ?_)
  refine br_f (by rw [show (3 : Int32) = nI 3 from rfl, nI_eq (by omega) (by omega)]; omega) ?_
  exact K a1 a2 a3 a4 k1 k2 k3 k4
theorem gx_apply_3 {post : Int32 → SX → Prop} {P Q P1 Q1 : Nat → Fin 101} (m h h1 : Nat) (hm : m + 1 < 6) (hh12 : h + h1 ≤ 12) (e0 : hh m = nI h) (e1 : hh (m + 1) = nI h1) (hP : fz_at sA (m * 25) P) (hQ : fz_at sB (m * 25) Q) (hP1 : fz_at sA ((m + 1) * 25) P1) (hQ1 : fz_at sB ((m + 1) * 25) Q1) (lP1 : fz_l P1 25)
    (K0 : P1 = fz_o 0 0 → ∀ a1 a2 a3 a4, post (-4) (nI (m + 2), sA, sB, hh, a1, a2, a3, a4, zA, zB, cm, rm, qt))
    (K : P1 ≠ fz_o 0 0 → ∀ a1 a2 a3 a4, fz_ar a1 P → fz_ar a2 Q → fz_ar a3 P1 → fz_ar a4 Q1 → wX_apply_109 post 3 (nI (h + h1)) (nI (m + 2)) sA sB hh a1 a2 a3 a4 zA zB cm rm qt) : wpX_apply post (nI (m + 2), sA, sB, hh, lA, lB, rA, rB, zA, zB, cm, rm, qt) 3 := by
  have eA : nI (m + 2) - 2 = nI m := pk_sub (b := 2) (by omega)
  have eB : nI (m + 2) - 1 = nI (m + 1) := nI_pred (m + 1)
  refine br_f (by decide) (br_t (by decide) (br_t (nI_le (a := 2) (by omega) (by omega)) ?_))
  rw [eA, eB]
  refine ⟨vp_in_nI (by omega) (by decide), vp_in_nI (by omega) (by decide), ?_⟩
  refine nm_r (e' := nI (h + h1)) (by rw [nI_clamp (by omega), nI_clamp (by omega), e0, e1, nI_add]) ?_
  refine br_t (nI_le (b := 12) (by omega) (by decide)) ?_
  refine gx_load_lA_lB (post := _) m (by omega) hP hQ (fun a1 a2 k1 k2 => ?_)
  dsimp only
  rw [eB]
  refine gx_load_rA_rB (post := _) (m + 1) (by omega) hP1 hQ1 (fun a3 a4 k3 k4 => ?_)
  refine br_t rfl ?_
  refine gx_zero_rA (post := _) k3 lP1 (fun z => ?_) (fun z => ?_)
  · exact br_f (by decide) (K0 z a1 a2 a3 a4)
  · exact br_t rfl (K z a1 a2 a3 a4 k1 k2 k3 k4)
end
section
variable {dp : Int32} {ce hy ro le : Nat → Int32}
theorem gy_apply_go {post : Int32 → SY → Prop} (op m h h1 : Nat) (ho : op < 3) (hm : m + 1 < 6) (hh12 : h + h1 ≤ 12) (e0 : hy m = nI h) (e1 : hy (m + 1) = nI h1) (K : wY_apply_75 post (nI op) (nI m) (nI (m + 1)) (nI (m + 2)) ce hy ro le) : wpY_apply post (nI (m + 2), ce, hy, ro, le) (nI op) := by
  refine br_f (nI_pos (by omega)) (br_t (nI_le (b := 3) (by omega) (by decide)) (br_t (nI_le (a := 2) (by omega) (by omega)) ?_))
  refine nm_r (e' := nI m) (pk_sub (b := 2) (by omega)) ?_
  refine nm_r (e' := nI (m + 1)) (nI_pred (m + 1)) ?_
  refine ⟨vp_in_nI (by omega) (by decide), vp_in_nI (by omega) (by decide), ?_⟩
  rw [nI_clamp (by omega), nI_clamp (by omega), e0, e1, nI_add]
  refine br_t (nI_le (b := 12) (by omega) (by decide)) ?_
  exact br_f (by rw [show (3 : Int32) = nI 3 from rfl, nI_eq (by omega) (by omega)]; omega) K
theorem gy_apply_3 {post : Int32 → SY → Prop} {p1 : Nat → Fin 101} (m h h1 : Nat) (hm : m + 1 < 6) (hh12 : h + h1 ≤ 12) (e0 : hy m = nI h) (e1 : hy (m + 1) = nI h1) (hp1 : fz_at ce (25 * (2 * (m + 1))) p1) (lp1 : fz_l p1 25) (K0 : p1 = fz_o 0 0 → post (-4) (nI (m + 2), ce, hy, ro, le)) (K : p1 ≠ fz_o 0 0 → wY_apply_75 post 3 (nI m) (nI (m + 1)) (nI (m + 2)) ce hy ro le) : wpY_apply post (nI (m + 2), ce, hy, ro, le) 3 := by
  refine br_f (by decide) (br_t (by decide) (br_t (nI_le (a := 2) (by omega) (by omega)) ?_))
  refine nm_r (e' := nI m) (pk_sub (b := 2) (by omega)) ?_
  refine nm_r (e' := nI (m + 1)) (nI_pred (m + 1)) ?_
  refine ⟨vp_in_nI (by omega) (by decide), vp_in_nI (by omega) (by decide), ?_⟩
  rw [nI_clamp (by omega), nI_clamp (by omega), e0, e1, nI_add]
  refine br_t (nI_le (b := 12) (by omega) (by decide)) (br_t rfl ?_)
  refine gy_deg (post := _) (2 * (m + 1)) (by omega) (gy_e0 (m + 1)) hp1 lp1 (fun z => ?_) (fun i hi he => ?_)
  · exact br_f (by decide) (K0 z)
  · exact br_t (nI_pos' (by omega)) (K (fz_e_ne he))
end
theorem gr_apply {k : Nat} {sA sB hh lA lB rA rB zA zB cm rm qt ce hy ro le : Nat → Int32} {P Q p q P1 Q1 p1 q1 : Nat → Fin 101} {m h h1 : Nat} (I0 : i_Rel k (nI (m + 2), sA, sB, hh, lA, lB, rA, rB, zA, zB, cm, rm, qt) (nI (m + 2), ce, hy, ro, le)) (hs : ∀ i, i < m + 2 → gr_sl sA sB hh ce hy i) (F : gr_fr P Q p q h) (F1 : gr_fr P1 Q1 p1 q1 h1) (x0 : hh m = nI h) (y0 : hy m = nI h) (x1 : hh (m + 1) = nI h1) (y1 : hy (m + 1) = nI h1)
    (hP : fz_at sA (m * 25) P) (hQ : fz_at sB (m * 25) Q) (hp : fz_at ce (25 * (2 * m)) p) (hq : fz_at ce (25 * (2 * m + 1)) q) (hP1 : fz_at sA ((m + 1) * 25) P1) (hQ1 : fz_at sB ((m + 1) * 25) Q1) (hp1 : fz_at ce (25 * (2 * (m + 1))) p1) (hq1 : fz_at ce (25 * (2 * (m + 1) + 1)) q1) (hh12 : h + h1 ≤ 12) (hm : m + 1 < 6) (op : Nat) (h3 : op ≤ 3)
    (lP : fz_l P 13) (lQ : fz_l Q 13) (lp : fz_l p 13) (lq : fz_l q 13) (lP1 : fz_l P1 13) (lQ1 : fz_l Q1 13) (lp1 : fz_l p1 13) (lq1 : fz_l q1 13) (nQ : Q ≠ fz_o 0 0) (nQ1 : Q1 ≠ fz_o 0 0) :
    wpX_apply (fun r u' => wpY_apply (fun r' v' => r' = r ∧ i_Rel (k + 3) u' v') (nI (m + 2), ce, hy, ro, le) (nI op)) (nI (m + 2), sA, sB, hh, lA, lB, rA, rB, zA, zB, cm, rm, qt) (nI op) := by
  have h4 : op = 0 ∨ op = 1 ∨ op = 2 ∨ op = 3 := by omega
  rcases h4 with rfl | rfl | rfl | rfl
  · refine gx_apply_go (post := _) 0 m h h1 (by omega) (by omega) hh12 x0 x1 hP hQ hP1 hQ1 (fun a1 a2 a3 a4 k1 k2 k3 k4 => ?_)
    refine gx_109_0 m (by omega) k1 k2 k3 k4 lP lQ lP1 lQ1 nQ nQ1 (fun tA tB yA yB t1 t2 t3 A B b1 b2 b3 b4 b5 b6 b7 b8 => ?_)
    refine gy_apply_go (post := _) 0 m h h1 (by omega) (by omega) hh12 y0 y1 ?_
    refine gy_75_0 m h h1 (by omega) y0 y1 hp hq hp1 hq1 (fun c1 d1 d2 d3 => ?_)
    refine ⟨rfl, m + 1, by omega, rfl, rfl, ?_⟩
    exact gr_new m (fun i hi => hs i (by omega)) (gr_add F F1 hh12 b5 b6 b7 b8) pk_us pk_us (fun i hi => pk_un (by omega)) (fun i hi => pk_un (by omega)) b1 b2 b3 b4 d1 d2 d3
  · refine gx_apply_go (post := _) 1 m h h1 (by omega) (by omega) hh12 x0 x1 hP hQ hP1 hQ1 (fun a1 a2 a3 a4 k1 k2 k3 k4 => ?_)
    refine gx_109_1 m (by omega) k1 k2 k3 k4 lP lQ lP1 lQ1 nQ nQ1 (fun tA tB yA yB t1 t2 t3 A B b1 b2 b3 b4 b5 b6 b7 b8 => ?_)
    refine gy_apply_go (post := _) 1 m h h1 (by omega) (by omega) hh12 y0 y1 ?_
    refine gy_75_1 m h h1 (by omega) y0 y1 hp hq hp1 hq1 (fun c1 d1 d2 d3 => ?_)
    refine ⟨rfl, m + 1, by omega, rfl, rfl, ?_⟩
    exact gr_new m (fun i hi => hs i (by omega)) (gr_sub F F1 hh12 b5 b6 b7 b8) pk_us pk_us (fun i hi => pk_un (by omega)) (fun i hi => pk_un (by omega)) b1 b2 b3 b4 d1 d2 d3
  · refine gx_apply_go (post := _) 2 m h h1 (by omega) (by omega) hh12 x0 x1 hP hQ hP1 hQ1 (fun a1 a2 a3 a4 k1 k2 k3 k4 => ?_)
    refine gx_109_2 m (by omega) k1 k2 k3 k4 lP lQ lP1 lQ1 nQ nQ1 (fun tA tB yA yB t1 t2 t3 A B b1 b2 b3 b4 b5 b6 b7 b8 => ?_)
    refine gy_apply_go (post := _) 2 m h h1 (by omega) (by omega) hh12 y0 y1 ?_
    refine gy_75_2 m h h1 (by omega) y0 y1 hp hq hp1 hq1 (fun c1 d1 d2 d3 => ?_)
    refine ⟨rfl, m + 1, by omega, rfl, rfl, ?_⟩
    exact gr_new m (fun i hi => hs i (by omega)) (gr_mul F F1 hh12 b5 b6 b7 b8) pk_us pk_us (fun i hi => pk_un (by omega)) (fun i hi => pk_un (by omega)) b1 b2 b3 b4 d1 d2 d3
  · have ziff := fz_zero_iff F1.2.2.2.2.2.1.1 ⟨_, lQ1⟩ ⟨_, lp1⟩ ⟨_, lq1⟩ nQ1 F1.2.2.2.2.2.2.1 F1.2.2.2.2.2.2.2
    refine gx_apply_3 (post := _) m h h1 (by omega) hh12 x0 x1 hP hQ hP1 hQ1 (fz_l_mono lP1 (by omega)) (fun z a1 a2 a3 a4 => ?_) (fun z a1 a2 a3 a4 k1 k2 k3 k4 => ?_)
    · exact gy_apply_3 (post := _) m h h1 (by omega) hh12 y0 y1 hp1 (fz_l_mono lp1 (by omega)) (fun _ => ⟨rfl, I0⟩) (fun z' => absurd (ziff.mp z) z')
    refine gx_109_3 m (by omega) k1 k2 k3 k4 lP lQ lP1 lQ1 nQ z (fun tA tB yA yB t1 t2 t3 A B b1 b2 b3 b4 b5 b6 b7 b8 => ?_)
    refine gy_apply_3 (post := _) m h h1 (by omega) hh12 y0 y1 hp1 (fz_l_mono lp1 (by omega)) (fun z' => absurd (ziff.mpr z') z) (fun z' => ?_)
    refine gy_75_3 m h h1 (by omega) y0 y1 hp hq hp1 hq1 (fun c1 d1 d2 d3 => ?_)
    refine ⟨rfl, m + 1, by omega, rfl, rfl, ?_⟩
    exact gr_new m (fun i hi => hs i (by omega)) (gr_quo F F1 z z' hh12 b5 b6 b7 b8) pk_us pk_us (fun i hi => pk_un (by omega)) (fun i hi => pk_un (by omega)) b1 b2 b3 b4 d1 d2 d3
theorem i_vc_apply {k : Nat} {u : SX} {v : SY} (I : i_Rel k u v) (hk : k + 3 ≤ 1536) (v1 : Int32) : wpX_apply (fun r u' => wpY_apply (fun r' v' => r' = r ∧ i_Rel (k + 3) u' v') v v1) u v1 := by
  obtain ⟨c, sA, sB, hh, lA, lB, rA, rB, zA, zB, cm, rm, qt⟩ := u
  obtain ⟨dp, ce, hy, ro, le⟩ := v
  have I0 := I
  obtain ⟨d, hd, e1, e2, hs⟩ := I
  dsimp only at e1 e2 hs
  subst e1 e2
  by_cases h0 : v1 < 0
  · exact br_t h0 (br_t h0 ⟨rfl, I0⟩)
  obtain ⟨op, hop, rfl⟩ := nI_of h0
  by_cases h3 : op ≤ 3
  · have b3 : nI op ≤ (3 : Int32) := nI_le (b := 3) h3 (by decide)
    by_cases h2 : 2 ≤ d
    · obtain ⟨m, rfl⟩ : ∃ m, d = m + 2 := ⟨d - 2, by omega⟩
      obtain ⟨h, P, Q, p, q, F, x0, y0, hP, hQ, hp, hq⟩ := hs m (by omega)
      obtain ⟨h1, P1, Q1, p1, q1, F1, x1, y1, hP1, hQ1, hp1, hq1⟩ := hs (m + 1) (by omega)
      have l12 := F.1
      have l12' := F1.1
      by_cases hh12 : h + h1 ≤ 12
      · obtain ⟨lP, lQ, lp, lq⟩ := gr_fr12 (n := 13) F (by omega)
        obtain ⟨lP1, lQ1, lp1, lq1⟩ := gr_fr12 (n := 13) F1 (by omega)
        have nQ := fz_low_nQ F.2.2.2.2.2.1
        have nQ1 := fz_low_nQ F1.2.2.2.2.2.1
        exact gr_apply I0 hs F F1 x0 y0 x1 y1 hP hQ hp hq hP1 hQ1 hp1 hq1 hh12 (by omega) op h3 lP lQ lp lq lP1 lQ1 lp1 lq1 nQ nQ1
      · have eA : nI (m + 2) - 2 = nI m := pk_sub (b := 2) (by omega)
        have eB : nI (m + 2) - 1 = nI (m + 1) := nI_pred (m + 1)
        refine br_f h0 (br_t b3 (br_t (nI_le (a := 2) (by omega) (by omega)) ?_))
        rw [eA, eB]
        refine ⟨vp_in_nI (by omega) (by decide), vp_in_nI (by omega) (by decide), ?_⟩
        refine nm_r (e' := nI (h + h1)) (by rw [nI_clamp (by omega), nI_clamp (by omega), x0, x1, nI_add]) ?_
        refine br_f (nI_ge (a := 12) (by omega) (by omega)) ?_
        refine br_f h0 (br_t b3 (br_t (nI_le (a := 2) (by omega) (by omega)) ?_))
        refine nm_r (e' := nI m) eA ?_
        refine nm_r (e' := nI (m + 1)) eB ?_
        refine ⟨vp_in_nI (by omega) (by decide), vp_in_nI (by omega) (by decide), ?_⟩
        rw [nI_clamp (by omega), nI_clamp (by omega), y0, y1, nI_add]
        exact br_f (nI_ge (a := 12) (by omega) (by omega)) ⟨rfl, I0⟩
    · have n2 : ¬ (2 : Int32) ≤ nI d := nI_ge (b := 2) (by omega) (by decide)
      exact br_f h0 (br_t b3 (br_f n2 (br_f h0 (br_t b3 (br_f n2 ⟨rfl, I0⟩)))))
  · have b3 : ¬ nI op ≤ (3 : Int32) := nI_ge (a := 3) (by omega) hop
    exact br_f h0 (br_f b3 (br_f h0 (br_f b3 ⟨rfl, I0⟩)))
theorem i_vc_power {k : Nat} {u : SX} {v : SY} (I : i_Rel k u v) (hk : k + 3 ≤ 1536) (v1 : Int32) : wpX_power (fun r u' => wpY_power (fun r' v' => r' = r ∧ i_Rel (k + 3) u' v') v v1) u v1 := by
  obtain ⟨c, sA, sB, hh, lA, lB, rA, rB, zA, zB, cm, rm, qt⟩ := u
  obtain ⟨dp, ce, hy, ro, le⟩ := v
  have I0 := I
  obtain ⟨d, hd, e1, e2, hs⟩ := I
  dsimp only at e1 e2 hs
  subst e1 e2
  by_cases h0 : v1 < 0
  · exact br_t h0 (br_t h0 ⟨rfl, I0⟩)
  obtain ⟨e, he, rfl⟩ := nI_of h0
  by_cases h3 : e ≤ 3
  · have b3 : nI e ≤ (3 : Int32) := nI_le (b := 3) h3 (by decide)
    by_cases h1 : 1 ≤ d
    · obtain ⟨m, rfl⟩ : ∃ m, d = m + 1 := ⟨d - 1, by omega⟩
      obtain ⟨h, P, Q, p, q, F, x0, y0, hP, hQ, hp, hq⟩ := hs m (by omega)
      have l12 := F.1
      have eB : nI (m + 1) - 1 = nI m := nI_pred m
      have le36 : e * h ≤ 3 * 12 := Nat.mul_le_mul h3 l12
      by_cases hh12 : e * h ≤ 12
      · refine br_f h0 (br_t b3 (br_t (nI_le (a := 1) (by omega) (by omega)) ?_))
        rw [eB]
        refine ⟨vp_in_nI (by omega) (by decide), ?_⟩
        refine nm_r (e' := nI (e * h)) (by rw [nI_clamp (by omega), x0, pk_mul]) ?_
        refine br_t (nI_le (b := 12) (by omega) (by decide)) ?_
        refine gx_load_rA_rB (post := _) m (by omega) hP hQ (fun a1 a2 k1 k2 => ?_)
        refine gx_set_zA (post := _) 1 (fun a3 k3 => ?_)
        refine gx_set_zB (post := _) 1 (fun a4 k4 => ?_)
        refine ⟨4, gx_81 m h e (by omega) h3 hh12 k1 k2 F.2.1 F.2.2.1 (fun tA tB yA yB c1 c2 b1 b2 b3' b4 => ?_) 4 0 lA lB a3 a4 (by omega) (by omega) k3 k4⟩
        refine br_f h0 (br_t b3 (br_f (nI_ne0 (by omega) (by omega)) ?_))
        refine nm_r (e' := nI m) eB ?_
        refine ⟨vp_in_nI (by omega) (by decide), ?_⟩
        rw [nI_clamp (by omega), y0, pk_mul]
        refine br_t (nI_le (b := 12) (by omega) (by decide)) ?_
        refine gy_set (post := _) 14 1 (by omega) rfl rfl (fun e1 f1 f2 => ?_)
        refine gy_set (post := _) 15 1 (by omega) rfl rfl (fun e2 f3 f4 => ?_)
        refine ⟨4, gy_60 (ce := ce) m h e (by omega) h3 y0 hp hq (fun e3 g1 g2 g3 => ?_) 4 0 e2 (by omega) (by omega) (fz_fr_at f4 (by omega) f1) f3 (fz_f12_tr (fz_f12_fr f2 (by omega)) (fz_f12_fr f4 (by omega)))⟩
        refine ⟨rfl, m + 1, by omega, rfl, rfl, ?_⟩
        exact gr_new m (fun i hi => hs i (by omega)) (gr_pow F e hh12) pk_us pk_us (fun i hi => pk_un (by omega)) (fun i hi => pk_un (by omega)) b1 b2 b3' b4 g1 g2 g3
      · refine br_f h0 (br_t b3 (br_t (nI_le (a := 1) (by omega) (by omega)) ?_))
        rw [eB]
        refine ⟨vp_in_nI (by omega) (by decide), ?_⟩
        refine nm_r (e' := nI (e * h)) (by rw [nI_clamp (by omega), x0, pk_mul]) ?_
        refine br_f (nI_ge (a := 12) (by omega) (by omega)) ?_
        refine br_f h0 (br_t b3 (br_f (nI_ne0 (by omega) (by omega)) ?_))
        refine nm_r (e' := nI m) eB ?_
        refine ⟨vp_in_nI (by omega) (by decide), ?_⟩
        rw [nI_clamp (by omega), y0, pk_mul]
        exact br_f (nI_ge (a := 12) (by omega) (by omega)) ⟨rfl, I0⟩
    · have d0 : d = 0 := by omega
      subst d0
      exact br_f h0 (br_t b3 (br_f (by decide) (br_f h0 (br_t b3 (br_t rfl ⟨rfl, I0⟩)))))
  · have b3 : ¬ nI e ≤ (3 : Int32) := nI_ge (a := 3) (by omega) he
    exact br_f h0 (br_f b3 (br_f h0 (br_f b3 ⟨rfl, I0⟩)))
theorem i_vc_derive {k : Nat} {u : SX} {v : SY} (I : i_Rel k u v) (hk : k + 3 ≤ 1536) : wpX_derive (fun r u' => wpY_derive (fun r' v' => r' = r ∧ i_Rel (k + 3) u' v') v) u := by
  obtain ⟨c, sA, sB, hh, lA, lB, rA, rB, zA, zB, cm, rm, qt⟩ := u
  obtain ⟨dp, ce, hy, ro, le⟩ := v
  have I0 := I
  obtain ⟨d, hd, e1, e2, hs⟩ := I
  dsimp only at e1 e2 hs
  subst e1 e2
  by_cases h1 : 1 ≤ d
  · obtain ⟨m, rfl⟩ : ∃ m, d = m + 1 := ⟨d - 1, by omega⟩
    obtain ⟨h, P, Q, p, q, F, x0, y0, hP, hQ, hp, hq⟩ := hs m (by omega)
    have l12 := F.1
    have eB : nI (m + 1) - 1 = nI m := nI_pred m
    refine br_t (nI_le (a := 1) (by omega) (by omega)) ?_
    rw [eB]
    refine ⟨vp_in_nI (by omega) (by decide), ?_⟩
    refine nm_r (e' := nI (2 * h)) (by rw [nI_clamp (by omega), x0, gy_e0]) ?_
    by_cases hh12 : 2 * h ≤ 12
    · obtain ⟨lP, lQ, lp, lq⟩ := gr_fr12 (n := 13) F (by omega)
      refine br_t (nI_le (b := 12) (by omega) (by decide)) ?_
      refine gx_dtop (post := _) m (by omega) hP hQ lP lQ (fz_low_nQ F.2.2.2.2.2.1) (fun a1 a2 a3 a4 yA yB t1 t2 t3 A B b1 b2 b3 b4 b5 b6 b7 b8 => ?_)
      refine nm_r (e' := nI m) eB ?_
      refine gx_push (post := _) m (by omega) b1 b2 (fun tA tB m1 m2 m3 m4 => ?_)
      refine br_f (nI_ne0 (by omega) (by omega)) ?_
      refine nm_r (e' := nI m) eB ?_
      refine ⟨vp_in_nI (by omega) (by decide), ?_⟩
      rw [nI_clamp (by omega), y0, gy_e0]
      refine br_t (nI_le (b := 12) (by omega) (by decide)) ?_
      refine gy_fder (post := _) m (by omega) rfl hp hq (fz_l_mono lp (by omega)) (fz_l_mono lq (by omega)) (fun c1 d1 d2 d3 => ?_)
      refine gy_copy (post := _) 12 14 (by omega) (by omega) (by omega) rfl rfl d1 (fun c2 d4 d5 => ?_)
      refine gy_copy (post := _) 13 15 (by omega) (by omega) (by omega) rfl rfl (fz_fr_at d5 (by omega) d2) (fun c3 d6 d7 => ?_)
      refine gy_take (post := _) m (by omega) rfl (fz_fr_at d7 (by omega) d4) d6 (fun c4 d8 d9 d10 => ?_)
      refine ⟨vp_in_nI (by omega) (by decide), vp_in_nI (by omega) (by decide), ?_⟩
      refine nm_r (e' := upd hy m (nI (2 * h))) (by rw [y0, gy_e0]) ?_
      refine ⟨rfl, m + 1, by omega, rfl, rfl, ?_⟩
      refine gr_new m (fun i hi => hs i (by omega)) (gr_der F hh12 b5 b6 b7 b8) pk_us pk_us (fun i hi => pk_un (by omega)) (fun i hi => pk_un (by omega)) m1 m2 m3 m4 d8 d9 (fun s hs k hk => ?_)
      dsimp only
      rw [d10 s (by omega) (by omega) k hk, d7 s (by omega) k hk, d5 s (by omega) k hk, d3 s (by omega) k hk]
    · refine br_f (nI_ge (a := 12) (by omega) (by omega)) ?_
      refine br_f (nI_ne0 (by omega) (by omega)) ?_
      refine nm_r (e' := nI m) eB ?_
      refine ⟨vp_in_nI (by omega) (by decide), ?_⟩
      rw [nI_clamp (by omega), y0, gy_e0]
      exact br_f (nI_ge (a := 12) (by omega) (by omega)) ⟨rfl, I0⟩
  · have d0 : d = 0 := by omega
    subst d0
    exact br_f (by decide) (br_t rfl ⟨rfl, I0⟩)
end
section
/-! what is owed, second part (written by wip/whole/gen_x5.py) -/
theorem gy_em2 (m : Nat) : 2 * nI (m + 1) - 2 = nI (2 * m) := by
  rw [show (2 : Int32) = nI 2 from rfl, pk_mul, pk_sub (by omega)]
  congr 1
theorem gy_em1 (m : Nat) : 2 * nI (m + 1) - 1 = nI (2 * m + 1) := by
  rw [gy_e0, show 2 * (m + 1) = 2 * m + 1 + 1 by omega, nI_pred]
theorem gy_e2 (m : Nat) : 2 * nI m + 2 = nI (2 * (m + 1)) := by
  rw [gy_e0, show (2 : Int32) = nI 2 from rfl, nI_add]
  congr 1
theorem gy_e3 (m : Nat) : 2 * nI m + 3 = nI (2 * (m + 1) + 1) := by
  rw [gy_e0, show (3 : Int32) = nI 3 from rfl, nI_add]
  congr 1
theorem i_vc_dup {k : Nat} {u : SX} {v : SY} (I : i_Rel k u v) (hk : k + 3 ≤ 1536) : wpX_dup (fun r u' => wpY_dup (fun r' v' => r' = r ∧ i_Rel (k + 3) u' v') v) u := by
  obtain ⟨c, sA, sB, hh, lA, lB, rA, rB, zA, zB, cm, rm, qt⟩ := u
  obtain ⟨dp, ce, hy, ro, le⟩ := v
  have I0 := I
  obtain ⟨d, hd, e1, e2, hs⟩ := I
  dsimp only at e1 e2 hs
  subst e1 e2
  by_cases h1 : 1 ≤ d
  · obtain ⟨m, rfl⟩ : ∃ m, d = m + 1 := ⟨d - 1, by omega⟩
    have eB : nI (m + 1) - 1 = nI m := nI_pred m
    refine br_t (nI_le (a := 1) (by omega) (by omega)) ?_
    by_cases h6 : m + 1 < 6
    · obtain ⟨h, P, Q, p, q, F, x0, y0, hP, hQ, hp, hq⟩ := hs m (by omega)
      refine br_t (nI_lt (b := 6) h6 (by decide)) ?_
      rw [eB]
      refine gx_load_zA_zB (post := _) m (by omega) hP hQ (fun a1 a2 k1 k2 => ?_)
      dsimp only
      rw [eB]
      refine ⟨vp_in_nI (by omega) (by decide), ?_⟩
      rw [nI_clamp (by omega)]
      refine gx_push (post := _) (m + 1) h6 k1 k2 (fun tA tB m1 m2 m3 m4 => ?_)
      refine br_f (nI_ne0 (by omega) (by omega)) (br_f (gr_ne6 h6) ?_)
      refine gy_copy (post := _) (2 * m) (2 * (m + 1)) (by omega) (by omega) (by omega) (gy_em2 m) (gy_e0 (m + 1)) hp (fun c1 a3 a4 => ?_)
      refine gy_copy (post := _) (2 * m + 1) (2 * (m + 1) + 1) (by omega) (by omega) (by omega) (gy_em1 m) (gy_e1 (m + 1)) (fz_fr_at a4 (by omega) hq) (fun c2 a5 a6 => ?_)
      dsimp only
      rw [eB]
      refine ⟨vp_in_nI (by omega) (by decide), ?_⟩
      rw [nI_clamp (by omega)]
      refine gy_push (post := _) (m + 1) (by omega) ⟨rfl, m + 1 + 1, by omega, rfl, rfl, ?_⟩
      refine gr_new (m + 1) hs F (pk_us.trans x0) (pk_us.trans y0) (fun i hi => pk_un (by omega)) (fun i hi => pk_un (by omega)) m1 m2 m3 m4 (fz_fr_at a6 (by omega) a3) a5 (fun s hs k hk => ?_)
      dsimp only
      rw [a6 s (by omega) k hk, a4 s (by omega) k hk]
    · have d6 : m = 5 := by omega
      subst d6
      exact br_f (by decide) (br_f (by decide) (br_t rfl ⟨rfl, I0⟩))
  · have d0 : d = 0 := by omega
    subst d0
    exact br_f (by decide) (br_t rfl ⟨rfl, I0⟩)
theorem i_vc_drop {k : Nat} {u : SX} {v : SY} (I : i_Rel k u v) (hk : k + 3 ≤ 1536) : wpX_drop (fun r u' => wpY_drop (fun r' v' => r' = r ∧ i_Rel (k + 3) u' v') v) u := by
  obtain ⟨c, sA, sB, hh, lA, lB, rA, rB, zA, zB, cm, rm, qt⟩ := u
  obtain ⟨dp, ce, hy, ro, le⟩ := v
  have I0 := I
  obtain ⟨d, hd, e1, e2, hs⟩ := I
  dsimp only at e1 e2 hs
  subst e1 e2
  by_cases h1 : 1 ≤ d
  · obtain ⟨m, rfl⟩ : ∃ m, d = m + 1 := ⟨d - 1, by omega⟩
    have eB : nI (m + 1) - 1 = nI m := nI_pred m
    refine br_t (nI_le (a := 1) (by omega) (by omega)) ?_
    refine nm_r (e' := nI m) eB ?_
    refine br_f (nI_ne0 (by omega) (by omega)) ?_
    refine nm_r (e' := nI m) eB ?_
    exact ⟨rfl, m, by omega, rfl, rfl, fun i hi => hs i (by omega)⟩
  · have d0 : d = 0 := by omega
    subst d0
    exact br_f (by decide) (br_t rfl ⟨rfl, I0⟩)
theorem i_vc_swap {k : Nat} {u : SX} {v : SY} (I : i_Rel k u v) (hk : k + 3 ≤ 1536) : wpX_swap (fun r u' => wpY_swap (fun r' v' => r' = r ∧ i_Rel (k + 3) u' v') v) u := by
  obtain ⟨c, sA, sB, hh, lA, lB, rA, rB, zA, zB, cm, rm, qt⟩ := u
  obtain ⟨dp, ce, hy, ro, le⟩ := v
  have I0 := I
  obtain ⟨d, hd, e1, e2, hs⟩ := I
  dsimp only at e1 e2 hs
  subst e1 e2
  by_cases h2 : 2 ≤ d
  · obtain ⟨m, rfl⟩ : ∃ m, d = m + 2 := ⟨d - 2, by omega⟩
    obtain ⟨h, P, Q, p, q, F, x0, y0, hP, hQ, hp, hq⟩ := hs m (by omega)
    obtain ⟨h1, P1, Q1, p1, q1, F1, x1, y1, hP1, hQ1, hp1, hq1⟩ := hs (m + 1) (by omega)
    have eA : nI (m + 2) - 2 = nI m := pk_sub (b := 2) (by omega)
    have eB : nI (m + 2) - 1 = nI (m + 1) := nI_pred (m + 1)
    refine br_t (nI_le (a := 2) (by omega) (by omega)) ?_
    rw [eA, eB]
    refine ⟨vp_in_nI (by omega) (by decide), ?_⟩
    refine nm_r (e' := nI h) (by rw [nI_clamp (by omega), x0]) ?_
    refine ⟨vp_in_nI (by omega) (by decide), ?_⟩
    refine nm_r (e' := nI h1) (by rw [nI_clamp (by omega), x1]) ?_
    refine gx_load_lA_lB (post := _) m (by omega) hP hQ (fun a1 a2 k1 k2 => ?_)
    dsimp only
    rw [eB]
    refine gx_load_rA_rB (post := _) (m + 1) (by omega) hP1 hQ1 (fun a3 a4 k3 k4 => ?_)
    dsimp only
    rw [eA]
    refine gx_store_rA_rB (post := _) m (by omega) k3 k4 (fun tA tB m1 m2 m3 m4 => ?_)
    dsimp only
    rw [eB]
    refine gx_store_lA_lB (post := _) (m + 1) (by omega) k1 k2 (fun wA wB n1 n2 n3 n4 => ?_)
    dsimp only
    rw [eA, eB]
    refine ⟨vp_in_nI (by omega) (by decide), ?_⟩
    refine nm_r (e' := upd hh m (nI h1)) (by rw [nI_clamp (by omega)]) ?_
    refine ⟨vp_in_nI (by omega) (by decide), ?_⟩
    refine nm_r (e' := upd (upd hh m (nI h1)) (m + 1) (nI h)) (by rw [nI_clamp (by omega)]) ?_
    refine br_t (nI_le (a := 2) (by omega) (by omega)) ?_
    refine nm_r (e' := nI m) eA ?_
    refine ⟨vp_in_nI (by omega) (by decide), ?_⟩
    refine nm_r (e' := nI h) (by rw [nI_clamp (by omega), y0]) ?_
    rw [nI_1 m]
    refine ⟨vp_in_nI (by omega) (by decide), vp_in_nI (by omega) (by decide), ?_⟩
    refine nm_r (e' := upd hy m (nI h1)) (by rw [nI_clamp (by omega), nI_clamp (by omega), y1]) ?_
    refine ⟨vp_in_nI (by omega) (by decide), ?_⟩
    refine nm_r (e' := upd (upd hy m (nI h1)) (m + 1) (nI h)) (by rw [nI_clamp (by omega)]) ?_
    refine gy_copy (post := _) (2 * m) 14 (by omega) (by omega) (by omega) (gy_e0 m) rfl hp (fun c1 b1 b2 => ?_)
    refine gy_copy (post := _) (2 * m + 1) 15 (by omega) (by omega) (by omega) (gy_e1 m) rfl (fz_fr_at b2 (by omega) hq) (fun c2 b3 b4 => ?_)
    refine gy_copy (post := _) (2 * (m + 1)) (2 * m) (by omega) (by omega) (by omega) (gy_e2 m) (gy_e0 m) (fz_fr_at b4 (by omega) (fz_fr_at b2 (by omega) hp1)) (fun c3 b5 b6 => ?_)
    refine gy_copy (post := _) (2 * (m + 1) + 1) (2 * m + 1) (by omega) (by omega) (by omega) (gy_e3 m) (gy_e1 m) (fz_fr_at b6 (by omega) (fz_fr_at b4 (by omega) (fz_fr_at b2 (by omega) hq1))) (fun c4 b7 b8 => ?_)
    refine gy_take (post := _) (m + 1) (by omega) rfl (fz_fr_at b8 (by omega) (fz_fr_at b6 (by omega) (fz_fr_at b4 (by omega) b1))) (fz_fr_at b8 (by omega) (fz_fr_at b6 (by omega) b3)) (fun c5 b9 b10 b11 => ?_)
    refine ⟨rfl, m + 2, by omega, rfl, rfl, fun i hi => ?_⟩
    dsimp only
    by_cases i1 : i = m + 1
    · subst i1
      exact ⟨h, P, Q, p, q, F, pk_us, pk_us, n1, n2, b9, b10⟩
    · by_cases i0 : i = m
      · subst i0
        refine ⟨h1, P1, Q1, p1, q1, F1, (pk_un (by omega)).trans pk_us, (pk_un (by omega)).trans pk_us, fun k hk => (n3 _ (by omega)).trans (m1 k hk), fun k hk => (n4 _ (by omega)).trans (m2 k hk), ?_, ?_⟩
        · intro k hk
          rw [b11 _ (by omega) (by omega) k hk]
          exact fz_fr_at b8 (by omega) b5 k hk
        · intro k hk
          rw [b11 _ (by omega) (by omega) k hk]
          exact b7 k hk
      · refine gr_mono (hs i (by omega)) (fun k hk => (n3 _ (by omega)).trans (m3 _ (by omega))) (fun k hk => (n4 _ (by omega)).trans (m4 _ (by omega))) ((pk_un (by omega)).trans (pk_un (by omega))) ((pk_un (by omega)).trans (pk_un (by omega))) (fun k hk => ?_) (fun k hk => ?_)
        · rw [b11 _ (by omega) (by omega) k hk, b8 _ (by omega) k hk, b6 _ (by omega) k hk, b4 _ (by omega) k hk, b2 _ (by omega) k hk]
        · rw [b11 _ (by omega) (by omega) k hk, b8 _ (by omega) k hk, b6 _ (by omega) k hk, b4 _ (by omega) k hk, b2 _ (by omega) k hk]
  · have n2 : ¬ (2 : Int32) ≤ nI d := nI_ge (b := 2) (by omega) (by decide)
    exact br_f n2 (br_f n2 ⟨rfl, I0⟩)
theorem i_vc_depth {k : Nat} {u : SX} {v : SY} (I : i_Rel k u v) (hk : k + 3 ≤ 1536) : wpX_depth (fun r => wpY_depth (fun r' => r' = r ∧ i_Rel (k + 3) u v) v) u := by
  obtain ⟨c, sA, sB, hh, lA, lB, rA, rB, zA, zB, cm, rm, qt⟩ := u
  obtain ⟨dp, ce, hy, ro, le⟩ := v
  have I0 := I
  obtain ⟨d, hd, e1, e2, hs⟩ := I
  dsimp only at e1 e2 hs
  subst e1 e2
  exact ⟨rfl, I0⟩
theorem i_vc_height {k : Nat} {u : SX} {v : SY} (I : i_Rel k u v) (hk : k + 3 ≤ 1536) : wpX_height (fun r => wpY_height (fun r' => r' = r ∧ i_Rel (k + 3) u v) v) u := by
  obtain ⟨c, sA, sB, hh, lA, lB, rA, rB, zA, zB, cm, rm, qt⟩ := u
  obtain ⟨dp, ce, hy, ro, le⟩ := v
  have I0 := I
  obtain ⟨d, hd, e1, e2, hs⟩ := I
  dsimp only at e1 e2 hs
  subst e1 e2
  by_cases h1 : 1 ≤ d
  · obtain ⟨m, rfl⟩ : ∃ m, d = m + 1 := ⟨d - 1, by omega⟩
    have eB : nI (m + 1) - 1 = nI m := nI_pred m
    obtain ⟨h, P, Q, p, q, F, x0, y0, hP, hQ, hp, hq⟩ := hs m (by omega)
    refine br_t (nI_le (a := 1) (by omega) (by omega)) ?_
    rw [eB, nI_clamp (by omega)]
    refine ⟨vp_in_nI (by omega) (by decide), ?_⟩
    refine br_f (nI_ne0 (by omega) (by omega)) ?_
    rw [eB, nI_clamp (by omega)]
    exact ⟨vp_in_nI (by omega) (by decide), y0.trans x0.symm, I0⟩
  · have d0 : d = 0 := by omega
    subst d0
    exact br_f (by decide) (br_t rfl ⟨rfl, I0⟩)
theorem gy_value {post : Int32 → SY → Prop} {ce hy ro le : Nat → Int32} {P Q p q : Nat → Fin 101} {h : Nat} (m : Nat) (hm : m < 6) (a : Fin 101) (F : gr_fr P Q p q h) (hp : fz_at ce (25 * (2 * m)) p) (hq : fz_at ce (25 * (2 * m + 1)) q) (K : ∀ ce', fz_f12 ce ce' → post (fz_ans P Q a) (nI (m + 1), ce', hy, ro, le)) : wpY_value post (nI (m + 1), ce, hy, ro, le) (fz_c a) := by
  obtain ⟨lP, lQ, lp, lq⟩ := gr_fr12 (n := 25) F (by omega)
  unfold wpY_value
  refine gy_isn_1 (post := _) a ?_
  refine br_f (by decide) (br_f (nI_ne0 (by omega) (by omega)) ?_)
  refine gy_frac (post := _) (2 * m) (2 * m + 1) a (by omega) (by omega) (gy_em2 m) (gy_em1 m) rfl F.2.2.2.2.2.1 lP lQ lp lq F.2.2.2.2.2.2.1 hp hq F.2.2.2.2.2.2.2 (fun c1 k1 => ?_)
  exact K c1 (fz_f12_fr2 k1 (by omega) (by omega))
theorem i_vc_value {k : Nat} {u : SX} {v : SY} (I : i_Rel k u v) (hk : k + 3 ≤ 1536) (v1 : Int32) : wpX_value (fun r u' => wpY_value (fun r' v' => r' = r ∧ i_Rel (k + 3) u' v') v v1) u v1 := by
  obtain ⟨c, sA, sB, hh, lA, lB, rA, rB, zA, zB, cm, rm, qt⟩ := u
  obtain ⟨dp, ce, hy, ro, le⟩ := v
  have I0 := I
  obtain ⟨d, hd, e1, e2, hs⟩ := I
  dsimp only at e1 e2 hs
  subst e1 e2
  rcases gr_num v1 with h | h | ⟨a, rfl⟩
  · unfold wpX_value
    refine gx_isn_0 (post := _) (Or.inl h) ?_
    refine br_t rfl ?_
    unfold wpY_value
    refine gy_isn_0 (post := _) (Or.inl h) ?_
    exact br_t rfl ⟨rfl, I0⟩
  · unfold wpX_value
    refine gx_isn_0 (post := _) (Or.inr h) ?_
    refine br_t rfl ?_
    unfold wpY_value
    refine gy_isn_0 (post := _) (Or.inr h) ?_
    exact br_t rfl ⟨rfl, I0⟩
  · unfold wpX_value
    refine gx_isn_1 (post := _) a ?_
    refine br_f (by decide) ?_
    by_cases h1 : 1 ≤ d
    · obtain ⟨m, rfl⟩ : ∃ m, d = m + 1 := ⟨d - 1, by omega⟩
      obtain ⟨h, P, Q, p, q, F, x0, y0, hP, hQ, hp, hq⟩ := hs m (by omega)
      have eB : nI (m + 1) - 1 = nI m := nI_pred m
      refine br_t (nI_le (a := 1) (by omega) (by omega)) ?_
      rw [eB]
      refine gx_load_zA_zB (post := _) m (by omega) hP hQ (fun a1 a2 k1 k2 => ?_)
      refine gx_resat (post := _) a k1 k2 ?_
      refine gy_value (post := _) m (by omega) a F hp hq (fun c1 k3 => ?_)
      exact ⟨rfl, m + 1, hd, rfl, rfl, gr_f12 hd hs k3⟩
    · have d0 : d = 0 := by omega
      subst d0
      refine br_f (by decide) ?_
      unfold wpY_value
      refine gy_isn_1 (post := _) a ?_
      exact br_f (by decide) (br_t rfl ⟨rfl, I0⟩)
theorem i_vc_slope {k : Nat} {u : SX} {v : SY} (I : i_Rel k u v) (hk : k + 3 ≤ 1536) (v1 : Int32) : wpX_slope (fun r u' => wpY_slope (fun r' v' => r' = r ∧ i_Rel (k + 3) u' v') v v1) u v1 := by
  obtain ⟨c, sA, sB, hh, lA, lB, rA, rB, zA, zB, cm, rm, qt⟩ := u
  obtain ⟨dp, ce, hy, ro, le⟩ := v
  have I0 := I
  obtain ⟨d, hd, e1, e2, hs⟩ := I
  dsimp only at e1 e2 hs
  subst e1 e2
  rcases gr_num v1 with h | h | ⟨a, rfl⟩
  · unfold wpX_slope
    refine gx_isn_0 (post := _) (Or.inl h) ?_
    refine br_t rfl ?_
    unfold wpY_slope
    refine gy_isn_0 (post := _) (Or.inl h) ?_
    exact br_t rfl ⟨rfl, I0⟩
  · unfold wpX_slope
    refine gx_isn_0 (post := _) (Or.inr h) ?_
    refine br_t rfl ?_
    unfold wpY_slope
    refine gy_isn_0 (post := _) (Or.inr h) ?_
    exact br_t rfl ⟨rfl, I0⟩
  · unfold wpX_slope
    refine gx_isn_1 (post := _) a ?_
    refine br_f (by decide) ?_
    by_cases h1 : 1 ≤ d
    · obtain ⟨m, rfl⟩ : ∃ m, d = m + 1 := ⟨d - 1, by omega⟩
      obtain ⟨h, P, Q, p, q, F, x0, y0, hP, hQ, hp, hq⟩ := hs m (by omega)
      obtain ⟨lP, lQ, lp, lq⟩ := gr_fr12 (n := 13) F (by omega)
      have lp1 : fz_l (fz_dv p) 13 := fz_l_mono (fz_dv_l (n := 12) lp) (by omega)
      have lq1 : fz_l (fz_dv q) 13 := fz_l_mono (fz_dv_l (n := 12) lq) (by omega)
      refine br_t (nI_le (a := 1) (by omega) (by omega)) ?_
      refine gx_dtop (post := _) m (by omega) hP hQ lP lQ (fz_low_nQ F.2.2.2.2.2.1) (fun a1 a2 a3 a4 yA yB t1 t2 t3 A B b1 b2 b3 b4 b5 b6 b7 b8 => ?_)
      refine gx_resat (post := _) a b1 b2 ?_
      unfold wpY_slope
      refine gy_isn_1 (post := _) a ?_
      refine br_f (by decide) (br_f (nI_ne0 (by omega) (by omega)) ?_)
      refine gy_fder (post := _) m (by omega) (nI_pred m) hp hq (fz_l_mono lp (by omega)) (fz_l_mono lq (by omega)) (fun c1 d1 d2 d3 => ?_)
      refine gy_frac (post := _) 12 13 a (by omega) (by omega) rfl rfl rfl b5 b3 b4 (fz_l_d (fz_l_m (m := 12) (n := 12) lp1 lq) (fz_l_m (m := 12) (n := 12) lp lq1)) (fz_l_m (m := 12) (n := 12) lq lq) (fz_m_ne ⟨_, lq⟩ ⟨_, lq⟩ F.2.2.2.2.2.2.1 F.2.2.2.2.2.2.1) d1 d2 (gr_slope F b5 b6) (fun c2 d4 => ?_)
      exact ⟨rfl, m + 1, hd, rfl, rfl, gr_f12 hd hs (fz_f12_tr d3 (fz_f12_fr2 d4 (by omega) (by omega)))⟩
    · have d0 : d = 0 := by omega
      subst d0
      refine br_f (by decide) ?_
      unfold wpY_slope
      refine gy_isn_1 (post := _) a ?_
      exact br_f (by decide) (br_t rfl ⟨rfl, I0⟩)
theorem gx_same48 {post : Int32 → SX → Prop} {c : Int32} {sA sB hh lA lB rA rB zA zB cm rm qt : Nat → Int32} {P Q P1 Q1 : Nat → Fin 101} (hP : fz_ar lA P) (hQ : fz_ar lB Q) (hP1 : fz_ar rA P1) (hQ1 : fz_ar rB Q1) (lP : fz_l P 25) (lQ : fz_l Q 25) (lP1 : fz_l P1 25) (lQ1 : fz_l Q1 25) (K1 : P = P1 ∧ Q = Q1 → post 1 (c, sA, sB, hh, lA, lB, rA, rB, zA, zB, cm, rm, qt)) (K0 : ¬ (P = P1 ∧ Q = Q1) → post 0 (c, sA, sB, hh, lA, lB, rA, rB, zA, zB, cm, rm, qt)) : ∃ n, wX_same_48 post c sA sB hh lA lB rA rB zA zB cm rm qt n 0 := by
  have key : ∀ n i, 25 < i + n → i ≤ 25 → (∀ k, k < i → P k = P1 k ∧ Q k = Q1 k) → wX_same_48 post c sA sB hh lA lB rA rB zA zB cm rm qt n (nI i) := by
    intro n
    induction n with
    | zero => intro i h1 h2; omega
    | succ n ih =>
      intro i h1 h2 h3
      by_cases d : i = 25
      · subst d
        refine br_t (by decide) (K1 ⟨funext (fun k => ?_), funext (fun k => ?_)⟩)
        · by_cases e : k < 25
          · exact (h3 k e).1
          · rw [lP k (by omega), lP1 k (by omega)]
        · by_cases e : k < 25
          · exact (h3 k e).2
          · rw [lQ k (by omega), lQ1 k (by omega)]
      · have v : vp_in (nI i) 25 := vp_in_nI (by omega) (by decide)
        refine br_f (nI_ge (b := 25) (by omega) (by decide)) ⟨v, v, ?_⟩
        rw [nI_clamp (by omega), hP i (by omega), hP1 i (by omega), hQ i (by omega), hQ1 i (by omega)]
        by_cases e : P i = P1 i
        · refine br_t (by rw [e]) ⟨v, v, ?_⟩
          by_cases f : Q i = Q1 i
          · refine br_t (by rw [f]) ?_
            refine nm_r (nI_1 i) ?_
            refine ih (i + 1) (by omega) (by omega) (fun k hk => ?_)
            by_cases g : k = i
            · rw [g]
              exact ⟨e, f⟩
            · exact h3 k (by omega)
          · exact br_f (fun y => f (fz_c_inj.mp y)) (K0 (fun y => f (congrFun y.2 i)))
        · exact br_f (fun y => e (fz_c_inj.mp y)) (K0 (fun y => e (congrFun y.1 i)))
  exact ⟨26, key 26 0 (by omega) (by omega) (fun k h => by omega)⟩
theorem gy_same49 {post : Int32 → SY → Prop} {dp : Int32} {ce hy ro le : Nat → Int32} {f g : Nat → Fin 101} (hf : fz_at ce (25 * 14) f) (hg : fz_at ce (25 * 15) g) (lf : fz_l f 25) (lg : fz_l g 25) (K1 : f = g → post 1 (dp, ce, hy, ro, le)) (K0 : f ≠ g → post 0 (dp, ce, hy, ro, le)) : ∃ n, wY_same_49 post dp ce hy ro le n 0 := by
  have key : ∀ n i, 25 < i + n → i ≤ 25 → (∀ k, k < i → f k = g k) → wY_same_49 post dp ce hy ro le n (nI i) := by
    intro n
    induction n with
    | zero => intro i h1 h2; omega
    | succ n ih =>
      intro i h1 h2 h3
      by_cases d : i = 25
      · subst d
        refine br_t (by decide) (K1 (funext (fun k => ?_)))
        by_cases e : k < 25
        · exact h3 k e
        · rw [lf k (by omega), lg k (by omega)]
      · refine br_f (nI_ge (b := 25) (by omega) (by decide)) ?_
        refine gy_get (post := _) 14 i (by omega) (by omega) rfl rfl ?_
        refine gy_get (post := _) 15 i (by omega) (by omega) rfl rfl ?_
        rw [hf i (by omega), hg i (by omega)]
        by_cases e : f i = g i
        · refine br_t (by rw [e]) ?_
          refine nm_r (nI_1 i) ?_
          refine ih (i + 1) (by omega) (by omega) (fun k hk => ?_)
          by_cases h : k = i
          · rw [h]
            exact e
          · exact h3 k (by omega)
        · exact br_f (fun y => e (fz_c_inj.mp y)) (K0 (fun y => e (congrFun y i)))
  exact ⟨26, key 26 0 (by omega) (by omega) (fun k h => by omega)⟩
theorem i_vc_same {k : Nat} {u : SX} {v : SY} (I : i_Rel k u v) (hk : k + 3 ≤ 1536) : wpX_same (fun r u' => wpY_same (fun r' v' => r' = r ∧ i_Rel (k + 3) u' v') v) u := by
  obtain ⟨c, sA, sB, hh, lA, lB, rA, rB, zA, zB, cm, rm, qt⟩ := u
  obtain ⟨dp, ce, hy, ro, le⟩ := v
  have I0 := I
  obtain ⟨d, hd, e1, e2, hs⟩ := I
  dsimp only at e1 e2 hs
  subst e1 e2
  by_cases h2 : 2 ≤ d
  · obtain ⟨m, rfl⟩ : ∃ m, d = m + 2 := ⟨d - 2, by omega⟩
    obtain ⟨h, P, Q, p, q, F, x0, y0, hP, hQ, hp, hq⟩ := hs m (by omega)
    obtain ⟨h1, P1, Q1, p1, q1, F1, x1, y1, hP1, hQ1, hp1, hq1⟩ := hs (m + 1) (by omega)
    obtain ⟨lP, lQ, lp, lq⟩ := gr_fr12 (n := 13) F (by omega)
    obtain ⟨lP1, lQ1, lp1, lq1⟩ := gr_fr12 (n := 13) F1 (by omega)
    have iff := fz_same F.2.2.2.2.2.1 F1.2.2.2.2.2.1 ⟨_, lp⟩ ⟨_, lq⟩ ⟨_, lp1⟩ ⟨_, lq1⟩ F.2.2.2.2.2.2.1 F1.2.2.2.2.2.2.1 F.2.2.2.2.2.2.2 F1.2.2.2.2.2.2.2
    have eA : nI (m + 2) - 2 = nI m := pk_sub (b := 2) (by omega)
    have eB : nI (m + 2) - 1 = nI (m + 1) := nI_pred (m + 1)
    have yside : ∀ post : Int32 → SY → Prop, (fz_m p q1 = fz_m p1 q → ∀ ce', fz_f12 ce ce' → post 1 (nI (m + 2), ce', hy, ro, le)) → (fz_m p q1 ≠ fz_m p1 q → ∀ ce', fz_f12 ce ce' → post 0 (nI (m + 2), ce', hy, ro, le)) → wpY_same post (nI (m + 2), ce, hy, ro, le) := by
      intro post K1 K0
      refine br_t (nI_le (a := 2) (by omega) (by omega)) ?_
      refine nm_r (e' := nI m) eA ?_
      refine gy_mul (post := _) (2 * m) (2 * (m + 1) + 1) 14 (by omega) (by omega) (by omega) (by omega) (by omega) (gy_e0 m) (gy_e3 m) rfl hp hq1 (fun c1 b1 b2 => ?_)
      refine gy_mul (post := _) (2 * (m + 1)) (2 * m + 1) 15 (by omega) (by omega) (by omega) (by omega) (by omega) (gy_e2 m) (gy_e1 m) rfl (fz_fr_at b2 (by omega) hp1) (fz_fr_at b2 (by omega) hq) (fun c2 b3 b4 => ?_)
      have f12 := fz_f12_tr (fz_f12_fr b2 (by omega)) (fz_f12_fr b4 (by omega))
      exact gy_same49 (fz_fr_at b4 (by omega) b1) b3 (fz_l_m (m := 12) (n := 12) lp lq1) (fz_l_m (m := 12) (n := 12) lp1 lq) (fun e => K1 e c2 f12) (fun e => K0 e c2 f12)
    refine br_t (nI_le (a := 2) (by omega) (by omega)) ?_
    rw [eA]
    refine gx_load_lA_lB (post := _) m (by omega) hP hQ (fun a1 a2 k1 k2 => ?_)
    dsimp only
    rw [eB]
    refine gx_load_rA_rB (post := _) (m + 1) (by omega) hP1 hQ1 (fun a3 a4 k3 k4 => ?_)
    refine gx_same48 k1 k2 k3 k4 (fz_l_mono lP (by omega)) (fz_l_mono lQ (by omega)) (fz_l_mono lP1 (by omega)) (fz_l_mono lQ1 (by omega)) (fun e => ?_) (fun e => ?_)
    · refine yside _ (fun _ ce' f => ⟨rfl, m + 2, hd, rfl, rfl, gr_f12 hd hs f⟩) (fun e' => absurd (iff.mp e) e')
    · refine yside _ (fun e' => absurd (iff.mpr e') e) (fun _ ce' f => ⟨rfl, m + 2, hd, rfl, rfl, gr_f12 hd hs f⟩)
  · have n2 : ¬ (2 : Int32) ≤ nI d := nI_ge (b := 2) (by omega) (by decide)
    exact br_f n2 (br_f n2 ⟨rfl, I0⟩)
theorem i_vc_degreeAbove {k : Nat} {u : SX} {v : SY} (I : i_Rel k u v) (hk : k + 3 ≤ 1536) : wpX_degreeAbove (fun r u' => wpY_degreeAbove (fun r' v' => r' = r ∧ i_Rel (k + 3) u' v') v) u := by
  obtain ⟨c, sA, sB, hh, lA, lB, rA, rB, zA, zB, cm, rm, qt⟩ := u
  obtain ⟨dp, ce, hy, ro, le⟩ := v
  have I0 := I
  obtain ⟨d, hd, e1, e2, hs⟩ := I
  dsimp only at e1 e2 hs
  subst e1 e2
  by_cases h1 : 1 ≤ d
  · obtain ⟨m, rfl⟩ : ∃ m, d = m + 1 := ⟨d - 1, by omega⟩
    obtain ⟨h, P, Q, p, q, F, x0, y0, hP, hQ, hp, hq⟩ := hs m (by omega)
    obtain ⟨lP, lQ, lp, lq⟩ := gr_fr12 (n := 13) F (by omega)
    have lP25 : fz_l P 25 := fz_l_mono lP (by omega)
    have eB : nI (m + 1) - 1 = nI m := nI_pred m
    refine br_t (nI_le (a := 1) (by omega) (by omega)) ?_
    rw [eB]
    refine gx_load_zA_zB (post := _) m (by omega) hP hQ (fun a1 a2 k1 k2 => ?_)
    by_cases z : P = fz_o 0 0
    · refine gx_deg_zA (post := _) 0 (by omega) (fun k h1 h2 => by rw [k1 k h2, z, fz_o00]; rfl) (Or.inl rfl) ?_
      refine br_f (nI_ne0 (by omega) (by omega)) ?_
      refine gy_low (post := _) m (by omega) lp lq F.2.2.2.2.2.2.1 F.2.2.2.2.2.1 lQ F.2.2.2.2.2.2.2 hp hq (fun c1 ro1 le1 b1 b2 b3 => ?_)
      refine gy_deg (post := _) 20 (by omega) rfl b1 lP25 (fun _ => ?_) (fun i hi he => absurd z (fz_e_ne he))
      exact br_f (by decide) ⟨rfl, m + 1, hd, rfl, rfl, gr_f12 hd hs b3⟩
    · obtain ⟨i, hi, he⟩ := fz_e_ex 25 lP25 z
      refine gx_dege_zA (post := _) k1 hi he ?_
      refine br_f (nI_ne0 (by omega) (by omega)) ?_
      refine gy_low (post := _) m (by omega) lp lq F.2.2.2.2.2.2.1 F.2.2.2.2.2.1 lQ F.2.2.2.2.2.2.2 hp hq (fun c1 ro1 le1 b1 b2 b3 => ?_)
      refine gy_deg (post := _) 20 (by omega) rfl b1 lP25 (fun y => absurd y z) (fun i' hi' he' => ?_)
      refine br_t (nI_pos' (by omega)) ?_
      refine gy_deg (post := _) 20 (by omega) rfl b1 lP25 (fun y => absurd y z) (fun i2 hi2 he2 => ?_)
      have q1 := fz_e_lt he2 he.2
      have q2 := fz_e_lt he he2.2
      have q3 : i2 = i := by omega
      rw [q3]
      exact ⟨rfl, m + 1, hd, rfl, rfl, gr_f12 hd hs b3⟩
  · have d0 : d = 0 := by omega
    subst d0
    exact br_f (by decide) (br_t rfl ⟨rfl, I0⟩)
theorem i_vc_degreeBelow {k : Nat} {u : SX} {v : SY} (I : i_Rel k u v) (hk : k + 3 ≤ 1536) : wpX_degreeBelow (fun r u' => wpY_degreeBelow (fun r' v' => r' = r ∧ i_Rel (k + 3) u' v') v) u := by
  obtain ⟨c, sA, sB, hh, lA, lB, rA, rB, zA, zB, cm, rm, qt⟩ := u
  obtain ⟨dp, ce, hy, ro, le⟩ := v
  have I0 := I
  obtain ⟨d, hd, e1, e2, hs⟩ := I
  dsimp only at e1 e2 hs
  subst e1 e2
  by_cases h1 : 1 ≤ d
  · obtain ⟨m, rfl⟩ : ∃ m, d = m + 1 := ⟨d - 1, by omega⟩
    obtain ⟨h, P, Q, p, q, F, x0, y0, hP, hQ, hp, hq⟩ := hs m (by omega)
    obtain ⟨lP, lQ, lp, lq⟩ := gr_fr12 (n := 13) F (by omega)
    have lQ25 : fz_l Q 25 := fz_l_mono lQ (by omega)
    have eB : nI (m + 1) - 1 = nI m := nI_pred m
    have z := fz_low_nQ F.2.2.2.2.2.1
    refine br_t (nI_le (a := 1) (by omega) (by omega)) ?_
    rw [eB]
    refine gx_load_zA_zB (post := _) m (by omega) hP hQ (fun a1 a2 k1 k2 => ?_)
    · obtain ⟨i, hi, he⟩ := fz_e_ex 25 lQ25 z
      refine gx_dege_zB (post := _) k2 hi he ?_
      refine br_f (nI_ne0 (by omega) (by omega)) ?_
      refine gy_low (post := _) m (by omega) lp lq F.2.2.2.2.2.2.1 F.2.2.2.2.2.1 lQ F.2.2.2.2.2.2.2 hp hq (fun c1 ro1 le1 b1 b2 b3 => ?_)
      refine gy_deg (post := _) 21 (by omega) rfl b2 lQ25 (fun y => absurd y z) (fun i2 hi2 he2 => ?_)
      have q1 := fz_e_lt he2 he.2
      have q2 := fz_e_lt he he2.2
      have q3 : i2 = i := by omega
      rw [q3]
      exact ⟨rfl, m + 1, hd, rfl, rfl, gr_f12 hd hs b3⟩
  · have d0 : d = 0 := by omega
    subst d0
    exact br_f (by decide) (br_t rfl ⟨rfl, I0⟩)
theorem i_vc_coefficient {k : Nat} {u : SX} {v : SY} (I : i_Rel k u v) (hk : k + 3 ≤ 1536) (v1 : Int32) (v2 : Int32) : wpX_coefficient (fun r u' => wpY_coefficient (fun r' v' => r' = r ∧ i_Rel (k + 3) u' v') v v1 v2) u v1 v2 := by
  obtain ⟨c, sA, sB, hh, lA, lB, rA, rB, zA, zB, cm, rm, qt⟩ := u
  obtain ⟨dp, ce, hy, ro, le⟩ := v
  have I0 := I
  obtain ⟨d, hd, e1, e2, hs⟩ := I
  dsimp only at e1 e2 hs
  subst e1 e2
  by_cases h0 : v1 < 0
  · exact br_t h0 (br_t h0 ⟨rfl, I0⟩)
  obtain ⟨e, he, rfl⟩ := nI_of h0
  by_cases h3 : e < 25
  · have b3 : nI e < (25 : Int32) := nI_lt (b := 25) h3 (by decide)
    have b4 : nI e ≤ (24 : Int32) := nI_le (b := 24) (by omega) (by decide)
    by_cases h1 : 1 ≤ d
    · obtain ⟨m, rfl⟩ : ∃ m, d = m + 1 := ⟨d - 1, by omega⟩
      obtain ⟨h, P, Q, p, q, F, x0, y0, hP, hQ, hp, hq⟩ := hs m (by omega)
      obtain ⟨lP, lQ, lp, lq⟩ := gr_fr12 (n := 13) F (by omega)
      have eB : nI (m + 1) - 1 = nI m := nI_pred m
      refine br_f h0 (br_t b3 (br_t (nI_le (a := 1) (by omega) (by omega)) ?_))
      rw [eB]
      refine gx_load_zA_zB (post := _) m (by omega) hP hQ (fun a1 a2 k1 k2 => ?_)
      by_cases z : v2 = 0
      · refine br_t z ⟨vp_in_nI h3 (by decide), ?_⟩
        rw [nI_clamp (by omega), k1 e h3]
        refine br_f h0 (br_t b4 (br_f (nI_ne0 (by omega) (by omega)) ?_))
        refine gy_low (post := _) m (by omega) lp lq F.2.2.2.2.2.2.1 F.2.2.2.2.2.1 lQ F.2.2.2.2.2.2.2 hp hq (fun c1 ro1 le1 b1 b2 b3 => ?_)
        refine br_t z ?_
        refine gy_get (post := _) 20 e (by omega) h3 rfl rfl ?_
        exact ⟨b1 e h3, m + 1, hd, rfl, rfl, gr_f12 hd hs b3⟩
      · refine br_f z ⟨vp_in_nI h3 (by decide), ?_⟩
        rw [nI_clamp (by omega), k2 e h3]
        refine br_f h0 (br_t b4 (br_f (nI_ne0 (by omega) (by omega)) ?_))
        refine gy_low (post := _) m (by omega) lp lq F.2.2.2.2.2.2.1 F.2.2.2.2.2.1 lQ F.2.2.2.2.2.2.2 hp hq (fun c1 ro1 le1 b1 b2 b3 => ?_)
        refine br_f z ?_
        refine gy_get (post := _) 21 e (by omega) h3 rfl rfl ?_
        exact ⟨b2 e h3, m + 1, hd, rfl, rfl, gr_f12 hd hs b3⟩
    · have d0 : d = 0 := by omega
      subst d0
      exact br_f h0 (br_t b3 (br_f (by decide) (br_f h0 (br_t b4 (br_t rfl ⟨rfl, I0⟩)))))
  · have b3 : ¬ nI e < (25 : Int32) := nI_nlt (b := 25) (by omega) he
    have b4 : ¬ nI e ≤ (24 : Int32) := nI_ge (a := 24) (by omega) he
    exact br_f h0 (br_f b3 (br_f h0 (br_f b4 ⟨rfl, I0⟩)))
theorem gy_cnt {post : Int32 → SY → Prop} {ce hy ro le : Nat → Int32} {P Q p q : Nat → Fin 101} {h : Nat} (m : Nat) (hm : m < 6) (w : Int32) (F : gr_fr P Q p q h) (hp : fz_at ce (25 * (2 * m)) p) (hq : fz_at ce (25 * (2 * m + 1)) q) (K : ∀ ce', fz_f12 ce ce' → post (nI (fz_cnt P Q w 101)) (nI (m + 1), ce', hy, ro, le)) : wpY_count post (nI (m + 1), ce, hy, ro, le) w := by
  refine pk_loop (fun n i (s : Int32 × (Nat → Int32)) => wY_count_4 post w n s.1 (nI i) (nI (m + 1)) s.2 hy ro le) (fun i s => s.1 = nI (fz_cnt P Q w i) ∧ fz_f12 ce s.2) 101 0 (0, ce) (by omega) ⟨rfl, fun _ _ _ _ => rfl⟩ ?_ ?_
  · intro n s hs
    refine br_t (by decide) ?_
    rw [hs.1]
    exact K s.2 hs.2
  · intro n i s hi hs ih
    refine br_f (nI_ge (b := 101) hi (by decide)) ?_
    have e : nI i = fz_c (Fin.ofNat 101 i) := by
      show nI i = nI (i % 101)
      rw [Nat.mod_eq_of_lt hi]
    have ec : fz_cnt P Q w (i + 1) = if fz_ans P Q (Fin.ofNat 101 i) = w then fz_cnt P Q w i + 1 else fz_cnt P Q w i := rfl
    have key : ∀ x, x = nI i → wpY_value (fun r u => match u with | (f_depth, a_cells, a_heights, a_rows, a_leads) => ((r = w → ∀ x2 : Int32, x2 = s.1 + 1 → ∀ x3 : Int32, x3 = nI i + 1 → wY_count_4 post w n x2 x3 f_depth a_cells a_heights a_rows a_leads) ∧ (¬ r = w → ∀ x3 : Int32, x3 = nI i + 1 → wY_count_4 post w n s.1 x3 f_depth a_cells a_heights a_rows a_leads))) (nI (m + 1), s.2, hy, ro, le) x := by
      intro x ex
      rw [ex, e]
      refine gy_value (post := _) m hm (Fin.ofNat 101 i) F (fz_f12_at hs.2 (by omega) hp) (fz_f12_at hs.2 (by omega) hq) (fun c1 k1 => ?_)
      dsimp only
      rw [← e]
      by_cases y : fz_ans P Q (Fin.ofNat 101 i) = w
      · rw [if_pos y] at ec
        refine br_t y ?_
        refine nm_r (e' := nI (fz_cnt P Q w i + 1)) (by rw [hs.1, nI_1]) ?_
        refine nm_r (nI_1 i) ?_
        exact ih (nI (fz_cnt P Q w i + 1), c1) ⟨by rw [ec], fz_f12_tr hs.2 k1⟩
      · rw [if_neg y] at ec
        refine br_f y ?_
        refine nm_r (nI_1 i) ?_
        exact ih (_, c1) ⟨by rw [ec]; exact hs.1, fz_f12_tr hs.2 k1⟩
    exact key _ rfl
theorem i_vc_zeros {k : Nat} {u : SX} {v : SY} (I : i_Rel k u v) (hk : k + 3 ≤ 1536) : wpX_zeros (fun r u' => wpY_zeros (fun r' v' => r' = r ∧ i_Rel (k + 3) u' v') v) u := by
  obtain ⟨c, sA, sB, hh, lA, lB, rA, rB, zA, zB, cm, rm, qt⟩ := u
  obtain ⟨dp, ce, hy, ro, le⟩ := v
  have I0 := I
  obtain ⟨d, hd, e1, e2, hs⟩ := I
  dsimp only at e1 e2 hs
  subst e1 e2
  by_cases h1 : 1 ≤ d
  · obtain ⟨m, rfl⟩ : ∃ m, d = m + 1 := ⟨d - 1, by omega⟩
    obtain ⟨h, P, Q, p, q, F, x0, y0, hP, hQ, hp, hq⟩ := hs m (by omega)
    refine br_t (nI_le (a := 1) (by omega) (by omega)) ?_
    refine gx_count (post := _) m (by omega) 0 hP hQ (fun a1 a2 => ?_)
    refine br_f (nI_ne0 (by omega) (by omega)) ?_
    refine gy_cnt (post := _) m (by omega) 0 F hp hq (fun c1 k1 => ?_)
    exact ⟨rfl, m + 1, hd, rfl, rfl, gr_f12 hd hs k1⟩
  · have d0 : d = 0 := by omega
    subst d0
    exact br_f (by decide) (br_t rfl ⟨rfl, I0⟩)
theorem i_vc_poles {k : Nat} {u : SX} {v : SY} (I : i_Rel k u v) (hk : k + 3 ≤ 1536) : wpX_poles (fun r u' => wpY_poles (fun r' v' => r' = r ∧ i_Rel (k + 3) u' v') v) u := by
  obtain ⟨c, sA, sB, hh, lA, lB, rA, rB, zA, zB, cm, rm, qt⟩ := u
  obtain ⟨dp, ce, hy, ro, le⟩ := v
  have I0 := I
  obtain ⟨d, hd, e1, e2, hs⟩ := I
  dsimp only at e1 e2 hs
  subst e1 e2
  by_cases h1 : 1 ≤ d
  · obtain ⟨m, rfl⟩ : ∃ m, d = m + 1 := ⟨d - 1, by omega⟩
    obtain ⟨h, P, Q, p, q, F, x0, y0, hP, hQ, hp, hq⟩ := hs m (by omega)
    refine br_t (nI_le (a := 1) (by omega) (by omega)) ?_
    refine gx_count (post := _) m (by omega) (-4) hP hQ (fun a1 a2 => ?_)
    refine br_f (nI_ne0 (by omega) (by omega)) ?_
    refine gy_cnt (post := _) m (by omega) (-4) F hp hq (fun c1 k1 => ?_)
    exact ⟨rfl, m + 1, hd, rfl, rfl, gr_f12 hd hs k1⟩
  · have d0 : d = 0 := by omega
    subst d0
    exact br_f (by decide) (br_t rfl ⟨rfl, I0⟩)
end
