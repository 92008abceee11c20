/-! sums and polynomials over the remainders of 101; a polynomial is a function from the exponents -/
def fz_s : Nat → (Nat → Fin 101) → Fin 101
  | 0, _ => 0
  | n + 1, h => fz_s n h + h n
theorem fz_s_first (n : Nat) (h : Nat → Fin 101) : fz_s (n + 1) h = h 0 + fz_s n (fun i => h (i + 1)) := by
  induction n with
  | zero =>
    show 0 + h 0 = h 0 + 0
    grind
  | succ n ih =>
    show fz_s (n + 1) h + h (n + 1) = h 0 + (fz_s n (fun i => h (i + 1)) + h (n + 1))
    rw [ih]
    grind
theorem fz_s_congr {n : Nat} {h h' : Nat → Fin 101} (e : ∀ i, i < n → h i = h' i) : fz_s n h = fz_s n h' := by
  induction n with
  | zero => rfl
  | succ n ih =>
    show fz_s n h + h n = fz_s n h' + h' n
    rw [ih (fun i hi => e i (by omega)), e n (by omega)]
theorem fz_s_zero {n : Nat} {h : Nat → Fin 101} (e : ∀ i, i < n → h i = 0) : fz_s n h = 0 := by
  induction n with
  | zero => rfl
  | succ n ih =>
    show fz_s n h + h n = 0
    rw [ih (fun i hi => e i (by omega)), e n (by omega)]
    rfl
theorem fz_s_one {n : Nat} {h : Nat → Fin 101} (i0 : Nat) (hi : i0 < n) (e : ∀ i, i < n → i ≠ i0 → h i = 0) : fz_s n h = h i0 := by
  induction n with
  | zero => omega
  | succ n ih =>
    show fz_s n h + h n = h i0
    by_cases c : i0 = n
    · subst c
      rw [fz_s_zero (fun i hi => e i (by omega) (by omega))]
      grind
    · rw [ih (by omega) (fun i hi => e i (by omega)), e n (by omega) (fun z => c z.symm)]
      grind
theorem fz_s_add (n : Nat) (h h' : Nat → Fin 101) : fz_s n (fun i => h i + h' i) = fz_s n h + fz_s n h' := by
  induction n with
  | zero => rfl
  | succ n ih =>
    show fz_s n (fun i => h i + h' i) + (h n + h' n) = fz_s n h + h n + (fz_s n h' + h' n)
    rw [ih]
    grind
theorem fz_s_mul (n : Nat) (c : Fin 101) (h : Nat → Fin 101) : fz_s n (fun i => c * h i) = c * fz_s n h := by
  induction n with
  | zero =>
    show (0 : Fin 101) = c * 0
    grind
  | succ n ih =>
    show fz_s n (fun i => c * h i) + c * h n = c * (fz_s n h + h n)
    rw [ih]
    grind
def fz_m (f g : Nat → Fin 101) : Nat → Fin 101 := fun k => fz_s (k + 1) (fun i => f i * g (k - i))
def fz_a (f g : Nat → Fin 101) : Nat → Fin 101 := fun k => f k + g k
def fz_d (f g : Nat → Fin 101) : Nat → Fin 101 := fun k => f k - g k
def fz_n (f : Nat → Fin 101) : Nat → Fin 101 := fun k => - f k
def fz_o (s : Nat) (a : Fin 101) : Nat → Fin 101 := fun k => if k = s then a else 0
def fz_t (f : Nat → Fin 101) : Nat → Fin 101 := fun k => f (k + 1)
theorem fz_m_0 (f g : Nat → Fin 101) : fz_m f g 0 = f 0 * g 0 := by
  show 0 + f 0 * g 0 = f 0 * g 0
  grind
theorem fz_m_first (f g : Nat → Fin 101) (k : Nat) : fz_m f g (k + 1) = f 0 * g (k + 1) + fz_m (fz_t f) g k := by
  show fz_s (k + 1 + 1) (fun i => f i * g (k + 1 - i)) = _
  rw [fz_s_first]
  show f 0 * g (k + 1) + fz_s (k + 1) (fun i => f (i + 1) * g (k + 1 - (i + 1))) = _
  congr 1
  exact fz_s_congr (fun i hi => by
    show f (i + 1) * g (k + 1 - (i + 1)) = f (i + 1) * g (k - i)
    rw [Nat.add_sub_add_right])
theorem fz_m_last (f g : Nat → Fin 101) (k : Nat) : fz_m f g (k + 1) = fz_m f (fz_t g) k + f (k + 1) * g 0 := by
  show fz_s (k + 1) (fun i => f i * g (k + 1 - i)) + f (k + 1) * g (k + 1 - (k + 1)) = _
  rw [Nat.sub_self]
  congr 1
  exact fz_s_congr (fun i hi => by
    show f i * g (k + 1 - i) = f i * g (k - i + 1)
    rw [show k + 1 - i = k - i + 1 by omega])
theorem fz_m_comm_k (k : Nat) : ∀ f g : Nat → Fin 101, fz_m f g k = fz_m g f k := by
  induction k with
  | zero =>
    intro f g
    rw [fz_m_0, fz_m_0]
    grind
  | succ k ih =>
    intro f g
    rw [fz_m_first f g, fz_m_last g f, ih (fz_t f) g]
    grind
theorem fz_m_comm (f g : Nat → Fin 101) : fz_m f g = fz_m g f := funext (fun k => fz_m_comm_k k f g)
theorem fz_m_radd (f g h : Nat → Fin 101) : fz_m f (fz_a g h) = fz_a (fz_m f g) (fz_m f h) := by
  funext k
  show fz_s (k + 1) (fun i => f i * (g (k - i) + h (k - i))) = fz_s (k + 1) (fun i => f i * g (k - i)) + fz_s (k + 1) (fun i => f i * h (k - i))
  rw [← fz_s_add]
  exact fz_s_congr (fun i hi => by grind)
theorem fz_m_ladd (f g h : Nat → Fin 101) : fz_m (fz_a f g) h = fz_a (fz_m f h) (fz_m g h) := by
  rw [fz_m_comm, fz_m_radd, fz_m_comm h f, fz_m_comm h g]
theorem fz_m_mono (s : Nat) (a : Fin 101) (g : Nat → Fin 101) (k : Nat) : fz_m (fz_o s a) g k = if s ≤ k then a * g (k - s) else 0 := by
  show fz_s (k + 1) (fun i => (if i = s then a else 0) * g (k - i)) = _
  by_cases h : s ≤ k
  · rw [if_pos h, fz_s_one s (by omega) (fun i hi hn => by
      show (if i = s then a else 0) * g (k - i) = 0
      rw [if_neg hn]
      grind)]
    rw [if_pos rfl]
  · rw [if_neg h]
    exact fz_s_zero (fun i hi => by
      show (if i = s then a else 0) * g (k - i) = 0
      rw [if_neg (by omega)]
      grind)
theorem fz_m_const (a : Fin 101) (g : Nat → Fin 101) : fz_m (fz_o 0 a) g = fun k => a * g k := by
  funext k
  rw [fz_m_mono, if_pos (Nat.zero_le k), Nat.sub_zero]
theorem fz_t_m (f g : Nat → Fin 101) : fz_t (fz_m f g) = fz_a (fz_m (fz_o 0 (f 0)) (fz_t g)) (fz_m (fz_t f) g) := by
  funext k
  show fz_m f g (k + 1) = fz_m (fz_o 0 (f 0)) (fz_t g) k + fz_m (fz_t f) g k
  rw [fz_m_first, fz_m_const]
  rfl
theorem fz_m_cm (c : Fin 101) (u h : Nat → Fin 101) (k : Nat) : fz_m (fz_m (fz_o 0 c) u) h k = c * fz_m u h k := by
  rw [fz_m_const]
  show fz_s (k + 1) (fun i => c * u i * h (k - i)) = c * fz_s (k + 1) (fun i => u i * h (k - i))
  rw [← fz_s_mul]
  exact fz_s_congr (fun i hi => by grind)
theorem fz_m_assoc_k (k : Nat) : ∀ f g h : Nat → Fin 101, fz_m (fz_m f g) h k = fz_m f (fz_m g h) k := by
  induction k with
  | zero =>
    intro f g h
    rw [fz_m_0, fz_m_0, fz_m_0, fz_m_0]
    grind
  | succ k ih =>
    intro f g h
    rw [fz_m_first (fz_m f g) h, fz_m_first f (fz_m g h), fz_m_first g h, fz_t_m, fz_m_ladd, fz_m_0]
    show f 0 * g 0 * h (k + 1) + (fz_m (fz_m (fz_o 0 (f 0)) (fz_t g)) h k + fz_m (fz_m (fz_t f) g) h k) = _
    rw [fz_m_cm, ih]
    grind
theorem fz_m_assoc (f g h : Nat → Fin 101) : fz_m (fz_m f g) h = fz_m f (fz_m g h) := funext (fun k => fz_m_assoc_k k f g h)
theorem fz_m_one (f : Nat → Fin 101) : fz_m f (fz_o 0 1) = f := by
  rw [fz_m_comm, fz_m_const]
  funext k
  grind
theorem fz_o00 (k : Nat) : fz_o 0 0 k = 0 := by
  show (if k = 0 then (0 : Fin 101) else 0) = 0
  split <;> rfl
theorem fz_m_zero (f : Nat → Fin 101) : fz_m (fz_o 0 0) f = fz_o 0 0 := by
  rw [fz_m_const]
  funext k
  rw [fz_o00]
  grind
theorem fz_n_o (s : Nat) (a : Fin 101) : fz_n (fz_o s a) = fz_o s (-a) := by
  funext k
  show - (if k = s then a else 0) = if k = s then -a else 0
  split
  · rfl
  · rfl
theorem fz_o_add (s : Nat) (a b : Fin 101) : fz_a (fz_o s a) (fz_o s b) = fz_o s (a + b) := by
  funext k
  show (if k = s then a else 0) + (if k = s then b else 0) = if k = s then a + b else 0
  split
  · rfl
  · rfl
def fz_zi : Int → Fin 101
  | Int.ofNat n => Fin.ofNat 101 n
  | Int.negSucc n => - Fin.ofNat 101 (n + 1)
theorem fz_zi_neg (i : Int) : fz_zi (-i) = - fz_zi i := by
  cases i with
  | ofNat n =>
    cases n with
    | zero => rfl
    | succ n => rfl
  | negSucc n =>
    show Fin.ofNat 101 (n + 1) = - - Fin.ofNat 101 (n + 1)
    grind
theorem fz_n_m (f g : Nat → Fin 101) : fz_m (fz_n f) g = fz_n (fz_m f g) := by
  have h : fz_n f = fz_m (fz_o 0 (-1)) f := by
    rw [fz_m_const]
    funext k
    show - f k = -1 * f k
    grind
  rw [h, fz_m_assoc, fz_m_const]
  funext k
  show -1 * fz_m f g k = - fz_m f g k
  grind
/-- the ring, for ring equations -/
def fz_ring : Lean.Grind.CommRing (Nat → Fin 101) where
  add := fz_a
  mul := fz_m
  neg := fz_n
  sub := fz_d
  natCast := ⟨fun n => fz_o 0 (Fin.ofNat 101 n)⟩
  ofNat := fun n => ⟨fz_o 0 (Fin.ofNat 101 n)⟩
  nsmul := ⟨fun n f => fz_m (fz_o 0 (Fin.ofNat 101 n)) f⟩
  npow := ⟨fun f n => Nat.rec (fz_o 0 1) (fun _ r => fz_m r f) n⟩
  intCast := ⟨fun i => fz_o 0 (fz_zi i)⟩
  zsmul := ⟨fun i f => fz_m (fz_o 0 (fz_zi i)) f⟩
  add_zero := fun f => by
    show fz_a f (fz_o 0 0) = f
    funext k
    show f k + fz_o 0 0 k = f k
    rw [fz_o00]
    grind
  add_comm := fun f g => by
    show fz_a f g = fz_a g f
    funext k
    show f k + g k = g k + f k
    grind
  add_assoc := fun f g h => by
    show fz_a (fz_a f g) h = fz_a f (fz_a g h)
    funext k
    show f k + g k + h k = f k + (g k + h k)
    grind
  mul_assoc := fz_m_assoc
  mul_one := fz_m_one
  mul_comm := fz_m_comm
  one_mul := fun f => by
    show fz_m (fz_o 0 1) f = f
    rw [fz_m_comm, fz_m_one]
  left_distrib := fz_m_radd
  right_distrib := fz_m_ladd
  zero_mul := fz_m_zero
  mul_zero := fun f => by
    show fz_m f (fz_o 0 0) = fz_o 0 0
    rw [fz_m_comm, fz_m_zero]
  pow_zero := fun _ => rfl
  pow_succ := fun _ _ => rfl
  ofNat_succ := fun n => by
    show fz_o 0 (Fin.ofNat 101 (n + 1)) = fz_a (fz_o 0 (Fin.ofNat 101 n)) (fz_o 0 1)
    rw [fz_o_add]
    congr 1
    apply Fin.ext
    show (n + 1) % 101 = (n % 101 + 1) % 101
    omega
  ofNat_eq_natCast := fun _ => rfl
  nsmul_eq_natCast_mul := fun _ _ => rfl
  neg_add_cancel := fun f => by
    show fz_a (fz_n f) f = fz_o 0 0
    funext k
    rw [fz_o00]
    show - f k + f k = 0
    grind
  sub_eq_add_neg := fun f g => by
    show fz_d f g = fz_a f (fz_n g)
    funext k
    show f k - g k = f k + - g k
    grind
  neg_zsmul := fun i f => by
    show fz_m (fz_o 0 (fz_zi (-i))) f = fz_n (fz_m (fz_o 0 (fz_zi i)) f)
    rw [fz_zi_neg, ← fz_n_o, fz_n_m]
  zsmul_natCast_eq_nsmul := fun _ _ => rfl
  intCast_ofNat := fun _ => rfl
  intCast_neg := fun i => by
    show fz_o 0 (fz_zi (-i)) = fz_n (fz_o 0 (fz_zi i))
    rw [fz_zi_neg, fz_n_o]
