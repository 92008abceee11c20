/-! the reference's rows: remainders of T p by q -/
def fz_re (p q : Nat → Fin 101) (n : Nat) (T t : Nat → Fin 101) : Prop := ∃ s, fz_p s ∧ fz_m T p = fz_a (fz_m s q) t ∧ fz_l t n
theorem fz_r_resub {R : Type} [Lean.Grind.CommRing R] {T p s q t T' s' t' c : R} (h : T * p = s * q + t) (h' : T' * p = s' * q + t') : (T - c * T') * p = (s - c * s') * q + (t - c * t') := by grind
theorem fz_r_resc {R : Type} [Lean.Grind.CommRing R] {T p s q t c : R} (h : T * p = s * q + t) : (c * T) * p = (c * s) * q + (c * t) := by grind
theorem fz_cl {c : Fin 101} {t : Nat → Fin 101} {n : Nat} (h : fz_l t n) : fz_l (fz_m (fz_o 0 c) t) n := by
  rw [fz_m_const]
  intro k hk
  show c * t k = 0
  rw [h k hk]
  grind
theorem fz_re_sub {p q T t T' t' : Nat → Fin 101} {n : Nat} (c : Fin 101) (h : fz_re p q n T t) (h' : fz_re p q n T' t') : fz_re p q n (fz_d T (fz_m (fz_o 0 c) T')) (fz_d t (fz_m (fz_o 0 c) t')) := by
  obtain ⟨s, ps, e, lt⟩ := h
  obtain ⟨s', ps', e', lt'⟩ := h'
  exact ⟨_, fz_p_d ps (fz_p_m (fz_p_o 0 c) ps'), @fz_r_resub _ fz_ring T p s q t T' s' t' (fz_o 0 c) e e', fz_l_d lt (fz_cl lt')⟩
theorem fz_re_sc {p q T t : Nat → Fin 101} {n : Nat} (c : Fin 101) (h : fz_re p q n T t) : fz_re p q n (fz_m (fz_o 0 c) T) (fz_m (fz_o 0 c) t) := by
  obtain ⟨s, ps, e, lt⟩ := h
  exact ⟨_, fz_p_m (fz_p_o 0 c) ps, @fz_r_resc _ fz_ring T p s q t (fz_o 0 c) e, fz_cl lt⟩
theorem fz_re_uniq {p q T t t' : Nat → Fin 101} {n : Nat} (hq : fz_e q n) (h : fz_re p q n T t) (h' : fz_re p q n T t') : t = t' := by
  obtain ⟨s, ps, e, lt⟩ := h
  obtain ⟨s', ps', e', lt'⟩ := h'
  exact (fz_div_uniq hq ps ps' lt lt' (e.symm.trans e')).2
theorem fz_r_rex {R : Type} [Lean.Grind.CommRing R] {T p s q t x s2 t2 : R} (h : T * p = s * q + t) (h2 : x * t = s2 * q + t2) : (x * T) * p = (x * s + s2) * q + t2 := by grind
theorem fz_re_x {p q T t s2 t2 : Nat → Fin 101} {n : Nat} (x : Nat → Fin 101) (px : fz_p x) (h : fz_re p q n T t) (ps2 : fz_p s2) (h2 : fz_m x t = fz_a (fz_m s2 q) t2) (l2 : fz_l t2 n) : fz_re p q n (fz_m x T) t2 := by
  obtain ⟨s, ps, e, lt⟩ := h
  exact ⟨_, fz_p_a (fz_p_m px ps) ps2, @fz_r_rex _ fz_ring T p s q t x s2 t2 e h2, l2⟩
def fz_ri (p q : Nat → Fin 101) (n : Nat) (L R : Nat → Nat → Fin 101) (l : Nat → Nat) (row : Nat) : Prop :=
  ∀ j, j < row → fz_re p q n (R j) (L j) ∧ R j j ≠ 0 ∧ fz_l (R j) (j + 1) ∧ L j (l j) = 1 ∧ ∀ i, i < j → L j (l i) = 0
theorem fz_S {p q : Nat → Fin 101} {n : Nat} {L R : Nat → Nat → Fin 101} {l : Nat → Nat} (hq : fz_e q n) : ∀ row, fz_ri p q n L R l row → ∀ T t : Nat → Fin 101, fz_l T row → fz_re p q n T t → (∀ j, j < row → t (l j) = 0) → T = fz_o 0 0 := by
  intro row
  induction row with
  | zero => exact fun _ T t hT _ _ => fz_l_0 hT
  | succ row ih =>
    intro ri T t hT hre ht
    obtain ⟨re, nz, lR, l1, l0⟩ := ri row (by omega)
    have i := fz_i_m _ nz
    have hz := ih (fun j hj => ri j (by omega)) _ _ (fun k hk => by
      show T k - fz_m (fz_o 0 (T row * fz_i (R row row))) (R row) k = 0
      rw [fz_m_const]
      show T k - T row * fz_i (R row row) * R row k = 0
      by_cases c : k = row
      · subst c
        have : T k * fz_i (R k k) * R k k = T k * (R k k * fz_i (R k k)) := by grind
        rw [this, i]
        grind
      · rw [hT k (by omega), lR k (by omega)]
        grind) (fz_re_sub (T row * fz_i (R row row)) hre re) (fun j hj => by
      show t (l j) - fz_m (fz_o 0 (T row * fz_i (R row row))) (L row) (l j) = 0
      rw [fz_m_const]
      show t (l j) - T row * fz_i (R row row) * L row (l j) = 0
      rw [ht j (by omega), l0 j hj]
      grind)
    have eT := fz_d0 hz
    have hr2 := fz_re_sc (T row * fz_i (R row row)) re
    rw [← eT] at hr2
    have et := fz_re_uniq hq hre hr2
    have e1 := ht row (by omega)
    rw [et, fz_m_const] at e1
    have e2 : T row * fz_i (R row row) * L row (l row) = 0 := e1
    rw [l1] at e2
    have e3 : T row * fz_i (R row row) = 0 := by
      rw [← e2]
      grind
    rw [eT, e3, fz_m_zero]
theorem fz_r_kr {R : Type} [Lean.Grind.CommRing R] {P q p Q : R} (h : P * q = p * Q) : Q * p = P * q + 0 := by grind
theorem fz_re_Q {P Q p q : Nat → Fin 101} {n : Nat} (hP : fz_p P) (h : fz_m P q = fz_m p Q) : fz_re p q n Q (fz_o 0 0) := ⟨P, hP, @fz_r_kr _ fz_ring P q p Q h, fz_l_z n⟩
theorem fz_kr_a {P Q p q : Nat → Fin 101} {n row : Nat} {L R : Nat → Nat → Fin 101} {l : Nat → Nat} {R0 L0 : Nat → Fin 101} (hq : fz_e q n) (ri : fz_ri p q n L R l row) (hR : fz_mo R0 row) (re : fz_re p q n R0 L0) (h0 : ∀ j, j < row → L0 (l j) = 0)
    (hQ : fz_mo Q row) (hP : fz_p P) (h : fz_m P q = fz_m p Q) : R0 = Q ∧ L0 = fz_o 0 0 := by
  have hz := fz_S hq row ri _ _ (fun k hk => by
    show Q k - fz_m (fz_o 0 1) R0 k = 0
    rw [fz_m_const]
    show Q k - 1 * R0 k = 0
    by_cases c : k = row
    · subst c
      rw [hQ.1, hR.1]
      rfl
    · rw [hQ.2 k (by omega), hR.2 k (by omega)]
      rfl) (fz_re_sub 1 (fz_re_Q hP h) re) (fun j hj => by
    show fz_o 0 0 (l j) - fz_m (fz_o 0 1) L0 (l j) = 0
    rw [fz_m_const]
    show fz_o 0 0 (l j) - 1 * L0 (l j) = 0
    rw [fz_o00, h0 j hj]
    rfl)
  have e := fz_d0 hz
  rw [fz_m_comm, fz_m_one] at e
  refine ⟨e.symm, ?_⟩
  rw [← e] at re
  exact fz_re_uniq hq re (fz_re_Q hP h)
theorem fz_r_krb {R : Type} [Lean.Grind.CommRing R] {P q p Q r s : R} (h : P * q = p * Q) (h' : r * p = s * q + 0) : q * (P * r) = q * (s * Q) := by grind
theorem fz_kr_b {P Q p q : Nat → Fin 101} {n row m : Nat} {R0 : Nat → Fin 101} (hq : fz_e q n) (hR : fz_mo R0 row) (re : fz_re p q n R0 (fz_o 0 0)) (hQ : fz_mo Q m) (hm : row ≤ m) (hP : fz_p P) (hc : fz_co P Q) (h : fz_m P q = fz_m p Q) : R0 = Q := by
  obtain ⟨s, ps, e, _⟩ := re
  have pR : fz_p R0 := ⟨_, hR.2⟩
  have e2 := fz_cancel (fz_e_p hq) (fz_p_m hP pR) (fz_p_m ps ⟨_, hQ.2⟩) (fz_e_ne hq) (@fz_r_krb _ fz_ring P q p Q R0 s h e)
  obtain ⟨T, pT, eT⟩ := fz_dvd hc ps pR e2
  exact fz_monT hQ hR pT eT hm
theorem fz_r_krp {R : Type} [Lean.Grind.CommRing R] {P q p Q s t : R} (h : P * q = p * Q) (h' : p * Q = s * q + t) : s * q + t = P * q + 0 := by grind
theorem fz_kr_P {P Q p q s t : Nat → Fin 101} {n : Nat} (hq : fz_e q n) (hP : fz_p P) (ps : fz_p s) (lt : fz_l t n) (h : fz_m P q = fz_m p Q) (h' : fz_m p Q = fz_a (fz_m s q) t) : s = P :=
  (fz_div_uniq hq ps hP lt (fz_l_z n) (@fz_r_krp _ fz_ring P q p Q s t h h')).1
