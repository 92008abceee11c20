/-! values, derivative, division steps, the greatest common divisor's end, the row space of the reference -/
def fz_h : Nat → (Nat → Fin 101) → Fin 101 → Fin 101
  | 0, _, _ => 0
  | n + 1, f, a => f 0 + a * fz_h n (fz_t f) a
def fz_x (a : Fin 101) : Nat → Fin 101 := fz_a (fz_o 1 1) (fz_o 0 (-a))
def fz_q (n : Nat) (f : Nat → Fin 101) (a : Fin 101) : Nat → Fin 101 := fun k => fz_h (n - 1 - k) (fun i => f (i + (k + 1))) a
theorem fz_x_m0 (a : Fin 101) (g : Nat → Fin 101) : fz_m (fz_x a) g 0 = -a * g 0 := by
  rw [fz_m_0]
  show (fz_o 1 1 0 + fz_o 0 (-a) 0) * g 0 = -a * g 0
  show ((0 : Fin 101) + -a) * g 0 = -a * g 0
  grind
theorem fz_x_ms (a : Fin 101) (g : Nat → Fin 101) (k : Nat) : fz_m (fz_x a) g (k + 1) = g k - a * g (k + 1) := by
  show fz_m (fz_a (fz_o 1 1) (fz_o 0 (-a))) g (k + 1) = _
  rw [fz_m_ladd]
  show fz_m (fz_o 1 1) g (k + 1) + fz_m (fz_o 0 (-a)) g (k + 1) = _
  rw [fz_m_mono, fz_m_const, if_pos (by omega), Nat.add_sub_cancel]
  grind
theorem fz_q_step {n : Nat} {f : Nat → Fin 101} (a : Fin 101) (h : fz_l f n) (k : Nat) : fz_q n f a k = f (k + 1) + a * fz_q n f a (k + 1) := by
  show fz_h (n - 1 - k) (fun i => f (i + (k + 1))) a = f (k + 1) + a * fz_h (n - 1 - (k + 1)) (fun i => f (i + (k + 1 + 1))) a
  by_cases c : n - 1 - k = 0
  · rw [c, show n - 1 - (k + 1) = 0 by omega, h (k + 1) (by omega)]
    show (0 : Fin 101) = 0 + a * 0
    grind
  · obtain ⟨j, hj⟩ : ∃ j, n - 1 - k = j + 1 := ⟨n - 1 - k - 1, by omega⟩
    rw [hj, show n - 1 - (k + 1) = j by omega]
    show f (0 + (k + 1)) + a * fz_h j (fun i => f (i + 1 + (k + 1))) a = _
    rw [Nat.zero_add]
    have : (fun i => f (i + 1 + (k + 1))) = (fun i => f (i + (k + 1 + 1))) := funext (fun i => by congr 1; omega)
    rw [this]
theorem fz_h_split {n : Nat} {f : Nat → Fin 101} (a : Fin 101) (h : fz_l f n) : f = fz_a (fz_m (fz_x a) (fz_q n f a)) (fz_o 0 (fz_h n f a)) := by
  funext k
  show f k = fz_m (fz_x a) (fz_q n f a) k + fz_o 0 (fz_h n f a) k
  cases k with
  | zero =>
    rw [fz_x_m0]
    show f 0 = -a * fz_h (n - 1 - 0) (fun i => f (i + (0 + 1))) a + fz_h n f a
    cases n with
    | zero =>
      rw [h 0 (by omega)]
      show (0 : Fin 101) = -a * 0 + 0
      grind
    | succ n =>
      show f 0 = -a * fz_h n (fz_t f) a + (f 0 + a * fz_h n (fz_t f) a)
      grind
  | succ k =>
    rw [fz_x_ms, fz_q_step a h k]
    show f (k + 1) = f (k + 1) + a * fz_q n f a (k + 1) - a * fz_q n f a (k + 1) + 0
    grind
theorem fz_q_l {n : Nat} (f : Nat → Fin 101) (a : Fin 101) : fz_l (fz_q n f a) (n - 1) := fun k hk => by
  show fz_h (n - 1 - k) (fun i => f (i + (k + 1))) a = 0
  rw [show n - 1 - k = 0 by omega]
  rfl
def fz_v (f : Nat → Fin 101) (a c : Fin 101) : Prop := ∃ g, fz_p g ∧ f = fz_a (fz_m (fz_x a) g) (fz_o 0 c)
theorem fz_v_h {n : Nat} {f : Nat → Fin 101} (a : Fin 101) (h : fz_l f n) : fz_v f a (fz_h n f a) := ⟨_, ⟨_, fz_q_l f a⟩, fz_h_split a h⟩
theorem fz_x_e (a : Fin 101) : fz_e (fz_x a) 1 :=
  ⟨by show fz_o 1 1 1 + fz_o 0 (-a) 1 ≠ 0; show (1 : Fin 101) + 0 ≠ 0; decide, fz_l_a (fz_l_o (by omega)) (fz_l_o (by omega))⟩
theorem fz_r_vu {R : Type} [Lean.Grind.CommRing R] {x g c g' c' : R} (h : x * g + c = x * g' + c') : x * (g - g') = c' - c := by grind
theorem fz_v_uniq {f : Nat → Fin 101} {a c c' : Fin 101} (h : fz_v f a c) (h' : fz_v f a c') : c = c' := by
  obtain ⟨g, hg, e⟩ := h
  obtain ⟨g', hg', e'⟩ := h'
  have e2 : fz_m (fz_x a) (fz_d g g') = fz_d (fz_o 0 c') (fz_o 0 c) := @fz_r_vu _ fz_ring (fz_x a) g (fz_o 0 c) g' (fz_o 0 c') (e.symm.trans e')
  have z := fz_small (fz_x_e a) (fz_p_d hg hg') (by rw [e2]; exact fz_l_d (fz_l_o (by omega)) (fz_l_o (by omega)))
  rw [z, fz_m_comm, fz_m_zero] at e2
  have e3 := fz_d0 e2.symm
  have e4 := congrFun e3 0
  exact e4.symm
theorem fz_r_va {R : Type} [Lean.Grind.CommRing R] {x g c g' c' f f' : R} (h : f = x * g + c) (h' : f' = x * g' + c') : f + f' = x * (g + g') + (c + c') := by grind
theorem fz_r_vm {R : Type} [Lean.Grind.CommRing R] {x g c g' c' f f' : R} (h : f = x * g + c) (h' : f' = x * g' + c') : f * f' = x * (g * f' + c * g') + c * c' := by grind
theorem fz_v_a {f f' : Nat → Fin 101} {a c c' : Fin 101} (h : fz_v f a c) (h' : fz_v f' a c') : fz_v (fz_a f f') a (c + c') := by
  obtain ⟨g, hg, e⟩ := h
  obtain ⟨g', hg', e'⟩ := h'
  refine ⟨_, fz_p_a hg hg', ?_⟩
  rw [← fz_o_add]
  exact @fz_r_va _ fz_ring (fz_x a) g (fz_o 0 c) g' (fz_o 0 c') f f' e e'
theorem fz_o_mul (c c' : Fin 101) : fz_m (fz_o 0 c) (fz_o 0 c') = fz_o 0 (c * c') := by
  rw [fz_m_const]
  funext k
  show c * (if k = 0 then c' else 0) = if k = 0 then c * c' else 0
  split
  · rfl
  · grind
theorem fz_v_pf {f : Nat → Fin 101} {a c : Fin 101} (h : fz_v f a c) : fz_p f := by
  obtain ⟨g, hg, e⟩ := h
  rw [e]
  exact fz_p_a (fz_p_m (fz_e_p (fz_x_e a)) hg) (fz_p_o 0 c)
theorem fz_v_m {f f' : Nat → Fin 101} {a c c' : Fin 101} (h : fz_v f a c) (h' : fz_v f' a c') : fz_v (fz_m f f') a (c * c') := by
  have hf' := fz_v_pf h'
  obtain ⟨g, hg, e⟩ := h
  obtain ⟨g', hg', e'⟩ := h'
  refine ⟨_, fz_p_a (fz_p_m hg hf') (fz_p_m (fz_p_o 0 c) hg'), ?_⟩
  rw [← fz_o_mul]
  exact @fz_r_vm _ fz_ring (fz_x a) g (fz_o 0 c) g' (fz_o 0 c') f f' e e'
theorem fz_r_v0 {R : Type} [Lean.Grind.CommRing R] (x c : R) : c = x * 0 + c := by grind
theorem fz_v_o (a c : Fin 101) : fz_v (fz_o 0 c) a c := ⟨fz_o 0 0, fz_p_o 0 0, @fz_r_v0 _ fz_ring (fz_x a) (fz_o 0 c)⟩
theorem fz_v_ex {f : Nat → Fin 101} (a : Fin 101) (h : fz_p f) : ∃ c, fz_v f a c := by
  obtain ⟨n, h⟩ := h
  exact ⟨_, fz_v_h a h⟩
/-- the value of a fraction: lowest terms against any not both 0 at a -/
theorem fz_val {P Q p q : Nat → Fin 101} {a vP vQ vp vq : Fin 101} (hc : fz_co P Q) (e : fz_m P q = fz_m p Q) (hP : fz_v P a vP) (hQ : fz_v Q a vQ) (hp : fz_v p a vp) (hq : fz_v q a vq) (hn : ¬ (vp = 0 ∧ vq = 0)) :
    (vq = 0 → vQ = 0) ∧ (vq ≠ 0 → vQ ≠ 0 ∧ vP * fz_i vQ = vp * fz_i vq) := by
  have e1 : vP * vq = vp * vQ := fz_v_uniq (e ▸ fz_v_m hP hq) (fz_v_m hp hQ)
  refine ⟨fun z => ?_, fun z => ?_⟩
  · rw [z] at e1
    have z2 : vp * vQ = 0 := by rw [← e1]; grind
    cases fz_zd z2 with
    | inl h => exact absurd ⟨h, z⟩ hn
    | inr h => exact h
  · have nQ : vQ ≠ 0 := fun y => by
      rw [y] at e1
      have z2 : vP * vq = 0 := by rw [e1]; grind
      cases fz_zd z2 with
      | inr h => exact z h
      | inl h =>
        obtain ⟨A, B, hA, hB, h1⟩ := hc
        obtain ⟨cA, hcA⟩ := fz_v_ex a hA
        obtain ⟨cB, hcB⟩ := fz_v_ex a hB
        have e2 := fz_v_uniq (fz_v_a (fz_v_m hcA hP) (fz_v_m hcB hQ)) (h1 ▸ fz_v_o a 1)
        rw [h, y] at e2
        have e3 : cA * 0 + cB * 0 = (0 : Fin 101) := by grind
        rw [e3] at e2
        exact absurd e2 (by decide)
    refine ⟨nQ, ?_⟩
    have i1 := fz_i_m vQ nQ
    have i2 := fz_i_m vq z
    have e4 : vP * fz_i vQ = vP * fz_i vQ * (vq * fz_i vq) := by rw [i2]; grind
    have e5 : vP * fz_i vQ * (vq * fz_i vq) = (vP * vq) * fz_i vQ * fz_i vq := by grind
    have e6 : vp * vQ * fz_i vQ * fz_i vq = vp * fz_i vq * (vQ * fz_i vQ) := by grind
    rw [e4, e5, e1, e6, i1]
    grind
/-! the derivative -/
def fz_dv (f : Nat → Fin 101) : Nat → Fin 101 := fun k => Fin.ofNat 101 (k + 1) * f (k + 1)
theorem fz_ofNat_add (m n : Nat) : Fin.ofNat 101 (m + n) = Fin.ofNat 101 m + Fin.ofNat 101 n := by
  apply Fin.ext
  show (m + n) % 101 = (m % 101 + n % 101) % 101
  omega
theorem fz_dv_m (f g : Nat → Fin 101) : fz_dv (fz_m f g) = fz_a (fz_m (fz_dv f) g) (fz_m f (fz_dv g)) := by
  funext k
  show Fin.ofNat 101 (k + 1) * fz_s (k + 1 + 1) (fun i => f i * g (k + 1 - i)) = fz_m (fz_dv f) g k + fz_m f (fz_dv g) k
  rw [← fz_s_mul]
  have h1 : fz_s (k + 1 + 1) (fun i => Fin.ofNat 101 (k + 1) * (f i * g (k + 1 - i))) = fz_s (k + 1 + 1) (fun i => Fin.ofNat 101 i * (f i * g (k + 1 - i)) + Fin.ofNat 101 (k + 1 - i) * (f i * g (k + 1 - i))) :=
    fz_s_congr (fun i hi => by
      show Fin.ofNat 101 (k + 1) * (f i * g (k + 1 - i)) = Fin.ofNat 101 i * (f i * g (k + 1 - i)) + Fin.ofNat 101 (k + 1 - i) * (f i * g (k + 1 - i))
      have : Fin.ofNat 101 (k + 1) = Fin.ofNat 101 i + Fin.ofNat 101 (k + 1 - i) := by
        rw [← fz_ofNat_add]
        congr 1
        omega
      rw [this]
      generalize Fin.ofNat 101 i = u
      generalize Fin.ofNat 101 (k + 1 - i) = w
      grind)
  rw [h1, fz_s_add, fz_s_first]
  have h2 : fz_s (k + 1) (fun i => Fin.ofNat 101 (i + 1) * (f (i + 1) * g (k + 1 - (i + 1)))) = fz_m (fz_dv f) g k :=
    fz_s_congr (fun i hi => by
      show Fin.ofNat 101 (i + 1) * (f (i + 1) * g (k + 1 - (i + 1))) = Fin.ofNat 101 (i + 1) * f (i + 1) * g (k - i)
      rw [Nat.add_sub_add_right]
      generalize Fin.ofNat 101 (i + 1) = u
      grind)
  have h3 : fz_s (k + 1 + 1) (fun i => Fin.ofNat 101 (k + 1 - i) * (f i * g (k + 1 - i))) = fz_m f (fz_dv g) k := by
    show fz_s (k + 1) (fun i => Fin.ofNat 101 (k + 1 - i) * (f i * g (k + 1 - i))) + Fin.ofNat 101 (k + 1 - (k + 1)) * (f (k + 1) * g (k + 1 - (k + 1))) = _
    rw [Nat.sub_self]
    have h4 : fz_s (k + 1) (fun i => Fin.ofNat 101 (k + 1 - i) * (f i * g (k + 1 - i))) = fz_m f (fz_dv g) k :=
      fz_s_congr (fun i hi => by
        show Fin.ofNat 101 (k + 1 - i) * (f i * g (k + 1 - i)) = f i * (Fin.ofNat 101 (k - i + 1) * g (k - i + 1))
        rw [show k + 1 - i = k - i + 1 by omega]
        generalize Fin.ofNat 101 (k - i + 1) = u
        grind)
    rw [h4]
    have h5 : Fin.ofNat 101 0 * (f (k + 1) * g 0) = 0 := by
      show (0 : Fin 101) * _ = 0
      grind
    rw [h5]
    grind
  rw [h2, h3]
  have h5 : Fin.ofNat 101 0 * (f 0 * g (k + 1 - 0)) = 0 := by
    show (0 : Fin 101) * _ = 0
    grind
  rw [h5]
  grind
theorem fz_dv_l {f : Nat → Fin 101} {n : Nat} (h : fz_l f (n + 1)) : fz_l (fz_dv f) n := fun k hk => by
  show Fin.ofNat 101 (k + 1) * f (k + 1) = 0
  rw [h (k + 1) (by omega)]
  grind
theorem fz_r_dv {R : Type} [Lean.Grind.CommRing R] {P Q p q P1 Q1 p1 q1 : R} (h : P * q = p * Q) (h' : P1 * q + P * q1 = p1 * Q + p * Q1) : (P1 * Q - P * Q1) * (q * q) = (p1 * q - p * q1) * (Q * Q) := by grind
theorem fz_dv_eq {P Q p q : Nat → Fin 101} (h : fz_m P q = fz_m p Q) : fz_m (fz_d (fz_m (fz_dv P) Q) (fz_m P (fz_dv Q))) (fz_m q q) = fz_m (fz_d (fz_m (fz_dv p) q) (fz_m p (fz_dv q))) (fz_m Q Q) := by
  have h' : fz_a (fz_m (fz_dv P) q) (fz_m P (fz_dv q)) = fz_a (fz_m (fz_dv p) Q) (fz_m p (fz_dv Q)) := by
    rw [← fz_dv_m, ← fz_dv_m, h]
  exact @fz_r_dv _ fz_ring P Q p q (fz_dv P) (fz_dv Q) (fz_dv p) (fz_dv q) h h'
/-! the four operations, and what lowest terms keep -/
theorem fz_r_add {R : Type} [Lean.Grind.CommRing R] {P Q p q P1 Q1 p1 q1 : R} (h : P * q = p * Q) (h1 : P1 * q1 = p1 * Q1) : (P * Q1 + Q * P1) * (q * q1) = (p * q1 + p1 * q) * (Q * Q1) := by grind
theorem fz_r_sub {R : Type} [Lean.Grind.CommRing R] {P Q p q P1 Q1 p1 q1 : R} (h : P * q = p * Q) (h1 : P1 * q1 = p1 * Q1) : (P * Q1 - Q * P1) * (q * q1) = (p * q1 - p1 * q) * (Q * Q1) := by grind
theorem fz_r_mul {R : Type} [Lean.Grind.CommRing R] {P Q p q P1 Q1 p1 q1 : R} (h : P * q = p * Q) (h1 : P1 * q1 = p1 * Q1) : (P * P1) * (q * q1) = (p * p1) * (Q * Q1) := by grind
theorem fz_r_quo {R : Type} [Lean.Grind.CommRing R] {P Q p q P1 Q1 p1 q1 : R} (h : P * q = p * Q) (h1 : P1 * q1 = p1 * Q1) : (P * Q1) * (q * p1) = (p * q1) * (Q * P1) := by grind
theorem fz_r_low {R : Type} [Lean.Grind.CommRing R] {P Q P0 Q0 p0 q0 : R} (h : P * Q0 = P0 * Q) (h1 : P0 * q0 = p0 * Q0) : Q0 * (P * q0) = Q0 * (p0 * Q) := by grind
theorem fz_low_keep {P Q P0 Q0 p0 q0 : Nat → Fin 101} (hP : fz_p P) (hQ : fz_p Q) (hQ0 : fz_p Q0) (hp : fz_p p0) (hq : fz_p q0) (n0 : Q0 ≠ fz_o 0 0) (h : fz_m P Q0 = fz_m P0 Q) (h1 : fz_m P0 q0 = fz_m p0 Q0) : fz_m P q0 = fz_m p0 Q :=
  fz_cancel hQ0 (fz_p_m hP hq) (fz_p_m hp hQ) n0 (@fz_r_low _ fz_ring P Q P0 Q0 p0 q0 h h1)
theorem fz_zero_iff {P Q p q : Nat → Fin 101} (hP : fz_p P) (hQ : fz_p Q) (hp : fz_p p) (hq : fz_p q) (nQ : Q ≠ fz_o 0 0) (nq : q ≠ fz_o 0 0) (h : fz_m P q = fz_m p Q) : P = fz_o 0 0 ↔ p = fz_o 0 0 := by
  constructor
  · intro z
    rw [z, fz_m_zero] at h
    cases fz_dom hp hQ h.symm with
    | inl h => exact h
    | inr h => exact absurd h nQ
  · intro z
    rw [z, fz_m_zero] at h
    cases fz_dom hP hq h with
    | inl h => exact h
    | inr h => exact absurd h nq
theorem fz_r_same1 {R : Type} [Lean.Grind.CommRing R] {P Q p q p1 q1 : R} (h : P * q = p * Q) (h1 : P * q1 = p1 * Q) : Q * (p * q1) = Q * (p1 * q) := by grind
theorem fz_r_same2 {R : Type} [Lean.Grind.CommRing R] {P Q p q P1 Q1 p1 q1 : R} (h : P * q = p * Q) (h1 : P1 * q1 = p1 * Q1) (e : p * q1 = p1 * q) : (q * q1) * (P * Q1) = (q * q1) * (P1 * Q) := by grind
theorem fz_same {P Q p q P1 Q1 p1 q1 : Nat → Fin 101} (hL : fz_low P Q) (hL1 : fz_low P1 Q1) (hp : fz_p p) (hq : fz_p q) (hp1 : fz_p p1) (hq1 : fz_p q1) (nq : q ≠ fz_o 0 0) (nq1 : q1 ≠ fz_o 0 0)
    (h : fz_m P q = fz_m p Q) (h1 : fz_m P1 q1 = fz_m p1 Q1) : (P = P1 ∧ Q = Q1) ↔ fz_m p q1 = fz_m p1 q := by
  constructor
  · intro ⟨e, e'⟩
    subst e e'
    exact fz_cancel (fz_low_pQ hL) (fz_p_m hp hq1) (fz_p_m hp1 hq) (fz_low_nQ hL) (@fz_r_same1 _ fz_ring P Q p q p1 q1 h h1)
  · intro e
    refine fz_uniq hL hL1 ?_
    exact fz_cancel (fz_p_m hq hq1) (fz_p_m hL.1 (fz_low_pQ hL1)) (fz_p_m hL1.1 (fz_low_pQ hL)) (fz_m_ne hq hq1 nq nq1) (@fz_r_same2 _ fz_ring P Q p q P1 Q1 p1 q1 h h1 e)
/-! a step of a division -/
theorem fz_div_step {f g : Nat → Fin 101} {s n : Nat} (hg : fz_e g n) (hf : fz_l f (s + n + 1)) : fz_l (fz_d f (fz_m (fz_o s (f (s + n) * fz_i (g n))) g)) (s + n) := fun k hk => by
  show f k - fz_m (fz_o s (f (s + n) * fz_i (g n))) g k = 0
  rw [fz_m_mono, if_pos (by omega)]
  by_cases c : k = s + n
  · subst c
    rw [Nat.add_sub_cancel_left]
    have i := fz_i_m (g n) hg.1
    have : f (s + n) * fz_i (g n) * g n = f (s + n) * (g n * fz_i (g n)) := by grind
    rw [this, i]
    grind
  · rw [hf k (by omega), hg.2 (k - s) (by omega)]
    grind
theorem fz_r_dstep {R : Type} [Lean.Grind.CommRing R] {f0 f q g m : R} (h : f0 = q * g + f) : f0 = (q + m) * g + (f - m * g) := by grind
theorem fz_div_inv {f0 f q g : Nat → Fin 101} (m : Nat → Fin 101) (h : f0 = fz_a (fz_m q g) f) : f0 = fz_a (fz_m (fz_a q m) g) (fz_d f (fz_m m g)) := @fz_r_dstep _ fz_ring f0 f q g m h
/-! Euclid -/
/-- (c, r) and (P, Q) are combinations of each other -/
def fz_eu (P Q c r : Nat → Fin 101) : Prop := ∃ a1 b1 a2 b2 d1 e1 d2 e2, fz_p a1 ∧ fz_p b1 ∧ fz_p a2 ∧ fz_p b2 ∧ fz_p d1 ∧ fz_p e1 ∧ fz_p d2 ∧ fz_p e2 ∧
  c = fz_a (fz_m a1 P) (fz_m b1 Q) ∧ r = fz_a (fz_m a2 P) (fz_m b2 Q) ∧ P = fz_a (fz_m d1 c) (fz_m e1 r) ∧ Q = fz_a (fz_m d2 c) (fz_m e2 r)
theorem fz_r_e1 {R : Type} [Lean.Grind.CommRing R] (P Q : R) : P = 1 * P + 0 * Q := by grind
theorem fz_r_e2 {R : Type} [Lean.Grind.CommRing R] (P Q : R) : Q = 0 * P + 1 * Q := by grind
theorem fz_eu_0 (P Q : Nat → Fin 101) : fz_eu P Q P Q :=
  ⟨fz_o 0 1, fz_o 0 0, fz_o 0 0, fz_o 0 1, fz_o 0 1, fz_o 0 0, fz_o 0 0, fz_o 0 1, fz_p_o _ _, fz_p_o _ _, fz_p_o _ _, fz_p_o _ _, fz_p_o _ _, fz_p_o _ _, fz_p_o _ _, fz_p_o _ _,
    @fz_r_e1 _ fz_ring P Q, @fz_r_e2 _ fz_ring P Q, @fz_r_e1 _ fz_ring P Q, @fz_r_e2 _ fz_ring P Q⟩
theorem fz_r_e3 {R : Type} [Lean.Grind.CommRing R] {P Q c r s t a1 b1 a2 b2 : R} (h : c = s * r + t) (hc : c = a1 * P + b1 * Q) (hr : r = a2 * P + b2 * Q) : t = (a1 - s * a2) * P + (b1 - s * b2) * Q := by grind
theorem fz_r_e4 {R : Type} [Lean.Grind.CommRing R] {P c r s t d1 e1 : R} (h : c = s * r + t) (hP : P = d1 * c + e1 * r) : P = (d1 * s + e1) * r + d1 * t := by grind
theorem fz_eu_s {P Q c r s t : Nat → Fin 101} (hs : fz_p s) (h : c = fz_a (fz_m s r) t) (hE : fz_eu P Q c r) : fz_eu P Q r t := by
  obtain ⟨a1, b1, a2, b2, d1, e1, d2, e2, pa1, pb1, pa2, pb2, pd1, pe1, pd2, pe2, h1, h2, h3, h4⟩ := hE
  exact ⟨a2, b2, _, _, _, d1, _, d2, pa2, pb2, fz_p_d pa1 (fz_p_m hs pa2), fz_p_d pb1 (fz_p_m hs pb2), fz_p_a (fz_p_m pd1 hs) pe1, pd1, fz_p_a (fz_p_m pd2 hs) pe2, pd2, h2,
    @fz_r_e3 _ fz_ring P Q c r s t a1 b1 a2 b2 h h1 h2, @fz_r_e4 _ fz_ring P c r s t d1 e1 h h3, @fz_r_e4 _ fz_ring Q c r s t d2 e2 h h4⟩
theorem fz_r_e5 {R : Type} [Lean.Grind.CommRing R] {P c d e : R} (h : P = d * c + e * 0) : P = d * c + 0 := by grind
theorem fz_r_e6 {R : Type} [Lean.Grind.CommRing R] {P Q g a b d1 d2 : R} (h : g = a * P + b * Q) (h1 : P = d1 * g + 0) (h2 : Q = d2 * g + 0) : g * 1 = g * (a * d1 + b * d2) := by grind
theorem fz_eu_end {P Q g : Nat → Fin 101} (hE : fz_eu P Q g (fz_o 0 0)) (nQ : Q ≠ fz_o 0 0) (pg : fz_p g) :
    g ≠ fz_o 0 0 ∧ ∃ d1 d2, fz_p d1 ∧ fz_p d2 ∧ P = fz_a (fz_m d1 g) (fz_o 0 0) ∧ Q = fz_a (fz_m d2 g) (fz_o 0 0) ∧ fz_co d1 d2 := by
  obtain ⟨a1, b1, a2, b2, d1, e1, d2, e2, pa1, pb1, pa2, pb2, pd1, pe1, pd2, pe2, h1, h2, h3, h4⟩ := hE
  have h3' : P = fz_a (fz_m d1 g) (fz_o 0 0) := @fz_r_e5 _ fz_ring P g d1 e1 h3
  have h4' : Q = fz_a (fz_m d2 g) (fz_o 0 0) := @fz_r_e5 _ fz_ring Q g d2 e2 h4
  have ng : g ≠ fz_o 0 0 := fun z => nQ (by
    rw [h4', z, fz_m_comm, fz_m_zero]
    funext k
    show fz_o 0 0 k + fz_o 0 0 k = fz_o 0 0 k
    rw [fz_o00]
    rfl)
  refine ⟨ng, d1, d2, pd1, pd2, h3', h4', a1, b1, pa1, pb1, ?_⟩
  exact (fz_cancel pg (fz_p_o 0 1) (fz_p_a (fz_p_m pa1 pd1) (fz_p_m pb1 pd2)) ng (@fz_r_e6 _ fz_ring P Q g a1 b1 d1 d2 h1 h3' h4')).symm
theorem fz_r_sc {R : Type} [Lean.Grind.CommRing R] {A B P Q u w : R} (h : A * P + B * Q = 1) (hu : w * u = 1) : (w * A) * (u * P) + (w * B) * (u * Q) = 1 := by grind
theorem fz_r_sc2 {R : Type} [Lean.Grind.CommRing R] {P0 Q0 d1 d2 g u : R} (h1 : P0 = d1 * g + 0) (h2 : Q0 = d2 * g + 0) : (u * d1) * Q0 = P0 * (u * d2) := by grind
/-- scaled by the inverse of the leading coefficient, the parts of a common divisor's end are lowest terms -/
theorem fz_scale {P0 Q0 d1 d2 g : Nat → Fin 101} {m : Nat} (p1 : fz_p d1) (hc : fz_co d1 d2) (h1 : P0 = fz_a (fz_m d1 g) (fz_o 0 0)) (h2 : Q0 = fz_a (fz_m d2 g) (fz_o 0 0)) (he : fz_e d2 m) :
    fz_low (fz_m (fz_o 0 (fz_i (d2 m))) d1) (fz_m (fz_o 0 (fz_i (d2 m))) d2) ∧ fz_m (fz_m (fz_o 0 (fz_i (d2 m))) d1) Q0 = fz_m P0 (fz_m (fz_o 0 (fz_i (d2 m))) d2) := by
  refine ⟨⟨fz_p_m (fz_p_o _ _) p1, ?_, m, ?_, ?_⟩, @fz_r_sc2 _ fz_ring P0 Q0 d1 d2 g (fz_o 0 (fz_i (d2 m))) h1 h2⟩
  · obtain ⟨A, B, hA, hB, h⟩ := hc
    refine ⟨_, _, fz_p_m (fz_p_o 0 (d2 m)) hA, fz_p_m (fz_p_o 0 (d2 m)) hB, @fz_r_sc _ fz_ring A B d1 d2 (fz_o 0 (fz_i (d2 m))) (fz_o 0 (d2 m)) h ?_⟩
    show fz_m (fz_o 0 (d2 m)) (fz_o 0 (fz_i (d2 m))) = fz_o 0 1
    rw [fz_o_mul, fz_i_m _ he.1]
  · rw [fz_m_const]
    show fz_i (d2 m) * d2 m = 1
    rw [← fz_i_m _ he.1]
    grind
  · rw [fz_m_const]
    intro k hk
    show fz_i (d2 m) * d2 k = 0
    rw [he.2 k hk]
    grind
