/-! the relation -/
def gr_fr (P Q p q : Nat → Fin 101) (h : Nat) : Prop := h ≤ 12 ∧ fz_l P (h + 1) ∧ fz_l Q (h + 1) ∧ fz_l p (h + 1) ∧ fz_l q (h + 1) ∧ fz_low P Q ∧ q ≠ fz_o 0 0 ∧ fz_m P q = fz_m p Q
def gr_sl (sA sB hh ce hy : Nat → Int32) (i : Nat) : Prop := ∃ h P Q p q, gr_fr P Q p q h ∧ hh i = nI h ∧ hy i = nI h ∧ fz_at sA (i * 25) P ∧ fz_at sB (i * 25) Q ∧ fz_at ce (25 * (2 * i)) p ∧ fz_at ce (25 * (2 * i + 1)) q
/-- both stacks hold the same number of formulas of the same heights; the component's in lowest terms, the reference's any fraction that is the same -/
def i_Rel (k : Nat) (u : SX) (v : SY) : Prop := ∃ d, d ≤ 6 ∧ u.1 = nI d ∧ v.1 = nI d ∧ ∀ i, i < d → gr_sl u.2.1 u.2.2.1 u.2.2.2.1 v.2.1 v.2.2.1 i
theorem i_up {k : Nat} {u : SX} {v : SY} (h : i_Rel k u v) : i_Rel (k + 3) u v := h
theorem i_vc0 : wpX_init (fun u => wpY_init (fun v => i_Rel 0 u v)) := ⟨0, by omega, rfl, rfl, fun i h => by omega⟩
theorem gr_fr12 {P Q p q : Nat → Fin 101} {h n : Nat} (H : gr_fr P Q p q h) (hn : 13 ≤ n) : fz_l P n ∧ fz_l Q n ∧ fz_l p n ∧ fz_l q n := by
  obtain ⟨h0, h1, h2, h3, h4, _⟩ := H
  exact ⟨fz_l_mono h1 (by omega), fz_l_mono h2 (by omega), fz_l_mono h3 (by omega), fz_l_mono h4 (by omega)⟩
theorem gr_mono {sA sB hh ce hy sA' sB' hh' ce' hy' : Nat → Int32} {i : Nat} (H : gr_sl sA sB hh ce hy i) (h1 : ∀ k, k < 25 → sA' (i * 25 + k) = sA (i * 25 + k)) (h2 : ∀ k, k < 25 → sB' (i * 25 + k) = sB (i * 25 + k)) (h3 : hh' i = hh i) (h4 : hy' i = hy i)
    (h5 : ∀ k, k < 25 → ce' (25 * (2 * i) + k) = ce (25 * (2 * i) + k)) (h6 : ∀ k, k < 25 → ce' (25 * (2 * i + 1) + k) = ce (25 * (2 * i + 1) + k)) : gr_sl sA' sB' hh' ce' hy' i := by
  obtain ⟨h, P, Q, p, q, a, b, c, d, e, f, g⟩ := H
  exact ⟨h, P, Q, p, q, a, h3.trans b, h4.trans c, fun k hk => (h1 k hk).trans (d k hk), fun k hk => (h2 k hk).trans (e k hk), fun k hk => (h5 k hk).trans (f k hk), fun k hk => (h6 k hk).trans (g k hk)⟩
theorem gr_new {sA sB hh ce hy t t' hh' ce' hy' : Nat → Int32} {P Q p q : Nat → Fin 101} {h : Nat} (j : Nat) (hs : ∀ i, i < j → gr_sl sA sB hh ce hy i) (hF : gr_fr P Q p q h) (eh : hh' j = nI h) (ey : hy' j = nI h) (oh : ∀ i, i < j → hh' i = hh i) (oy : ∀ i, i < j → hy' i = hy i)
    (a1 : fz_at t (j * 25) P) (a2 : fz_at t' (j * 25) Q) (f1 : ∀ m, m < j * 25 ∨ j * 25 + 25 ≤ m → t m = sA m) (f2 : ∀ m, m < j * 25 ∨ j * 25 + 25 ≤ m → t' m = sB m) (a3 : fz_at ce' (25 * (2 * j)) p) (a4 : fz_at ce' (25 * (2 * j + 1)) q) (f3 : ∀ s, s < 2 * j → ∀ k, k < 25 → ce' (25 * s + k) = ce (25 * s + k)) :
    ∀ i, i < j + 1 → gr_sl t t' hh' ce' hy' i := by
  intro i hi
  by_cases c : i = j
  · subst c
    exact ⟨h, P, Q, p, q, hF, eh, ey, a1, a2, a3, a4⟩
  · exact gr_mono (hs i (by omega)) (fun k hk => f1 _ (by omega)) (fun k hk => f2 _ (by omega)) (oh i (by omega)) (oy i (by omega)) (fun k hk => f3 _ (by omega) k hk) (fun k hk => f3 _ (by omega) k hk)
theorem gr_f12 {sA sB hh ce hy ce' : Nat → Int32} {d : Nat} (hd : d ≤ 6) (hs : ∀ i, i < d → gr_sl sA sB hh ce hy i) (h : fz_f12 ce ce') : ∀ i, i < d → gr_sl sA sB hh ce' hy i := fun i hi =>
  gr_mono (hs i hi) (fun _ _ => rfl) (fun _ _ => rfl) rfl rfl (fun k hk => h _ (by omega) k hk) (fun k hk => h _ (by omega) k hk)
theorem gr_mk {A0 B0 a0 b0 P Q : Nat → Fin 101} {h : Nat} (hh : h ≤ 12) (lB : fz_l B0 (h + 1)) (lA : fz_l A0 (h + 1)) (la : fz_l a0 (h + 1)) (lb : fz_l b0 (h + 1)) (nB : B0 ≠ fz_o 0 0) (nb : b0 ≠ fz_o 0 0) (e : fz_m A0 b0 = fz_m a0 B0)
    (hL : fz_low P Q) (e' : fz_m P B0 = fz_m A0 Q) (h1 : ∀ n, fz_l A0 n → fz_l P n) (h2 : ∀ n, 1 ≤ n → fz_l B0 n → fz_l Q n) : gr_fr P Q a0 b0 h :=
  ⟨hh, h1 _ lA, h2 _ (by omega) lB, la, lb, hL, nb, fz_low_keep hL.1 (fz_low_pQ hL) ⟨_, lB⟩ ⟨_, la⟩ ⟨_, lb⟩ nB e' e⟩
theorem gr_add {P Q p q P1 Q1 p1 q1 A B : Nat → Fin 101} {h h1 : Nat} (H : gr_fr P Q p q h) (H1 : gr_fr P1 Q1 p1 q1 h1) (hh : h + h1 ≤ 12) (hL : fz_low A B) (e : fz_m A (fz_m Q Q1) = fz_m (fz_a (fz_m P Q1) (fz_m Q P1)) B) (d1 : ∀ n, fz_l (fz_a (fz_m P Q1) (fz_m Q P1)) n → fz_l A n) (d2 : ∀ n, 1 ≤ n → fz_l (fz_m Q Q1) n → fz_l B n) : gr_fr A B (fz_a (fz_m p q1) (fz_m p1 q)) (fz_m q q1) (h + h1) := by
  obtain ⟨_, a1, a2, a3, a4, a5, a6, a7⟩ := H
  obtain ⟨_, b1, b2, b3, b4, b5, b6, b7⟩ := H1
  exact gr_mk hh (fz_l_m a2 b2) (fz_l_a (fz_l_m a1 b2) (fz_l_m a2 b1)) (fz_l_a (fz_l_m a3 b4) (fz_l_m' b3 a4 (by omega))) (fz_l_m a4 b4) (fz_m_ne ⟨_, a2⟩ ⟨_, b2⟩ (fz_low_nQ a5) (fz_low_nQ b5)) (fz_m_ne ⟨_, a4⟩ ⟨_, b4⟩ a6 b6) (@fz_r_add _ fz_ring P Q p q P1 Q1 p1 q1 a7 b7) hL e d1 d2
theorem gr_sub {P Q p q P1 Q1 p1 q1 A B : Nat → Fin 101} {h h1 : Nat} (H : gr_fr P Q p q h) (H1 : gr_fr P1 Q1 p1 q1 h1) (hh : h + h1 ≤ 12) (hL : fz_low A B) (e : fz_m A (fz_m Q Q1) = fz_m (fz_d (fz_m P Q1) (fz_m Q P1)) B) (d1 : ∀ n, fz_l (fz_d (fz_m P Q1) (fz_m Q P1)) n → fz_l A n) (d2 : ∀ n, 1 ≤ n → fz_l (fz_m Q Q1) n → fz_l B n) : gr_fr A B (fz_d (fz_m p q1) (fz_m p1 q)) (fz_m q q1) (h + h1) := by
  obtain ⟨_, a1, a2, a3, a4, a5, a6, a7⟩ := H
  obtain ⟨_, b1, b2, b3, b4, b5, b6, b7⟩ := H1
  exact gr_mk hh (fz_l_m a2 b2) (fz_l_d (fz_l_m a1 b2) (fz_l_m a2 b1)) (fz_l_d (fz_l_m a3 b4) (fz_l_m' b3 a4 (by omega))) (fz_l_m a4 b4) (fz_m_ne ⟨_, a2⟩ ⟨_, b2⟩ (fz_low_nQ a5) (fz_low_nQ b5)) (fz_m_ne ⟨_, a4⟩ ⟨_, b4⟩ a6 b6) (@fz_r_sub _ fz_ring P Q p q P1 Q1 p1 q1 a7 b7) hL e d1 d2
theorem gr_mul {P Q p q P1 Q1 p1 q1 A B : Nat → Fin 101} {h h1 : Nat} (H : gr_fr P Q p q h) (H1 : gr_fr P1 Q1 p1 q1 h1) (hh : h + h1 ≤ 12) (hL : fz_low A B) (e : fz_m A (fz_m Q Q1) = fz_m (fz_m P P1) B) (d1 : ∀ n, fz_l (fz_m P P1) n → fz_l A n) (d2 : ∀ n, 1 ≤ n → fz_l (fz_m Q Q1) n → fz_l B n) : gr_fr A B (fz_m p p1) (fz_m q q1) (h + h1) := by
  obtain ⟨_, a1, a2, a3, a4, a5, a6, a7⟩ := H
  obtain ⟨_, b1, b2, b3, b4, b5, b6, b7⟩ := H1
  exact gr_mk hh (fz_l_m a2 b2) (fz_l_m a1 b1) (fz_l_m a3 b3) (fz_l_m a4 b4) (fz_m_ne ⟨_, a2⟩ ⟨_, b2⟩ (fz_low_nQ a5) (fz_low_nQ b5)) (fz_m_ne ⟨_, a4⟩ ⟨_, b4⟩ a6 b6) (@fz_r_mul _ fz_ring P Q p q P1 Q1 p1 q1 a7 b7) hL e d1 d2
theorem gr_quo {P Q p q P1 Q1 p1 q1 A B : Nat → Fin 101} {h h1 : Nat} (H : gr_fr P Q p q h) (H1 : gr_fr P1 Q1 p1 q1 h1) (n1 : P1 ≠ fz_o 0 0) (n2 : p1 ≠ fz_o 0 0) (hh : h + h1 ≤ 12) (hL : fz_low A B) (e : fz_m A (fz_m Q P1) = fz_m (fz_m P Q1) B) (d1 : ∀ n, fz_l (fz_m P Q1) n → fz_l A n) (d2 : ∀ n, 1 ≤ n → fz_l (fz_m Q P1) n → fz_l B n) : gr_fr A B (fz_m p q1) (fz_m q p1) (h + h1) := by
  obtain ⟨_, a1, a2, a3, a4, a5, a6, a7⟩ := H
  obtain ⟨_, b1, b2, b3, b4, b5, b6, b7⟩ := H1
  exact gr_mk hh (fz_l_m a2 b1) (fz_l_m a1 b2) (fz_l_m a3 b4) (fz_l_m a4 b3) (fz_m_ne ⟨_, a2⟩ ⟨_, b1⟩ (fz_low_nQ a5) n1) (fz_m_ne ⟨_, a4⟩ ⟨_, b3⟩ a6 n2) (@fz_r_quo _ fz_ring P Q p q P1 Q1 p1 q1 a7 b7) hL e d1 d2
theorem gr_der {P Q p q A B : Nat → Fin 101} {h : Nat} (H : gr_fr P Q p q h) (hh : 2 * h ≤ 12) (hL : fz_low A B) (e : fz_m A (fz_m Q Q) = fz_m (fz_d (fz_m (fz_dv P) Q) (fz_m P (fz_dv Q))) B) (d1 : ∀ n, fz_l (fz_d (fz_m (fz_dv P) Q) (fz_m P (fz_dv Q))) n → fz_l A n) (d2 : ∀ n, 1 ≤ n → fz_l (fz_m Q Q) n → fz_l B n) : gr_fr A B (fz_d (fz_m (fz_dv p) q) (fz_m p (fz_dv q))) (fz_m q q) (2 * h) := by
  obtain ⟨_, a1, a2, a3, a4, a5, a6, a7⟩ := H
  have c1 : fz_l (fz_dv P) (h + 1) := fz_l_mono (fz_dv_l a1) (by omega)
  have c2 : fz_l (fz_dv Q) (h + 1) := fz_l_mono (fz_dv_l a2) (by omega)
  have c3 : fz_l (fz_dv p) (h + 1) := fz_l_mono (fz_dv_l a3) (by omega)
  have c4 : fz_l (fz_dv q) (h + 1) := fz_l_mono (fz_dv_l a4) (by omega)
  exact gr_mk hh (fz_l_m' a2 a2 (by omega)) (fz_l_d (fz_l_m' c1 a2 (by omega)) (fz_l_m' a1 c2 (by omega))) (fz_l_d (fz_l_m' c3 a4 (by omega)) (fz_l_m' a3 c4 (by omega))) (fz_l_m' a4 a4 (by omega)) (fz_m_ne ⟨_, a2⟩ ⟨_, a2⟩ (fz_low_nQ a5) (fz_low_nQ a5)) (fz_m_ne ⟨_, a4⟩ ⟨_, a4⟩ a6 a6) (fz_dv_eq a7) hL e d1 d2
/-- the derivative's value, for any height -/
theorem gr_slope {P Q p q A B : Nat → Fin 101} {h : Nat} (H : gr_fr P Q p q h) (hL : fz_low A B) (e : fz_m A (fz_m Q Q) = fz_m (fz_d (fz_m (fz_dv P) Q) (fz_m P (fz_dv Q))) B) : fz_m A (fz_m q q) = fz_m (fz_d (fz_m (fz_dv p) q) (fz_m p (fz_dv q))) B := by
  obtain ⟨_, a1, a2, a3, a4, a5, a6, a7⟩ := H
  have c3 : fz_p (fz_dv p) := ⟨_, fz_dv_l a3⟩
  have c4 : fz_p (fz_dv q) := ⟨_, fz_dv_l a4⟩
  exact fz_low_keep hL.1 (fz_low_pQ hL) (fz_p_m ⟨_, a2⟩ ⟨_, a2⟩) (fz_p_d (fz_p_m c3 ⟨_, a4⟩) (fz_p_m ⟨_, a3⟩ c4)) (fz_p_m ⟨_, a4⟩ ⟨_, a4⟩) (fz_m_ne ⟨_, a2⟩ ⟨_, a2⟩ (fz_low_nQ a5) (fz_low_nQ a5)) e (fz_dv_eq a7)
/-! powers -/
def fz_pw (f : Nat → Fin 101) : Nat → Nat → Fin 101
  | 0 => fz_o 0 1
  | n + 1 => fz_m (fz_pw f n) f
theorem fz_pw_l {f : Nat → Fin 101} {h : Nat} (hf : fz_l f (h + 1)) : ∀ n, fz_l (fz_pw f n) (n * h + 1) := by
  intro n
  induction n with
  | zero => exact fz_l_o (by omega)
  | succ n ih => exact fz_l_m' ih hf (by rw [Nat.succ_mul]; omega)
theorem fz_pw_co {P Q : Nat → Fin 101} (hP : fz_p P) (hQ : fz_p Q) (h : fz_co P Q) : ∀ n, fz_p (fz_pw P n) ∧ fz_co (fz_pw P n) Q := by
  intro n
  induction n with
  | zero => exact ⟨fz_p_o 0 1, fz_co_s (fz_low_1 hQ).2.1⟩
  | succ n ih => exact ⟨fz_p_m ih.1 hP, fz_co_m ih.1 hP hQ ih.2 h⟩
theorem fz_pw_mo {Q : Nat → Fin 101} {m : Nat} (h : fz_mo Q m) : ∀ n, ∃ m', fz_mo (fz_pw Q n) m' := by
  intro n
  induction n with
  | zero => exact ⟨0, rfl, fz_l_o (by omega)⟩
  | succ n ih =>
    obtain ⟨m', hm'⟩ := ih
    exact ⟨m' + m, fz_mo_m hm' h⟩
theorem fz_pw_low {P Q : Nat → Fin 101} (h : fz_low P Q) (n : Nat) : fz_low (fz_pw P n) (fz_pw Q n) := by
  have pQ := fz_low_pQ h
  obtain ⟨pP, hc, m, mo⟩ := h
  have h1 := fz_pw_co pP pQ hc n
  have h2 := fz_pw_co pQ h1.1 (fz_co_s h1.2) n
  exact ⟨h1.1, fz_co_s h2.2, fz_pw_mo mo n⟩
theorem fz_pw_ne {q : Nat → Fin 101} (pq : fz_p q) (nq : q ≠ fz_o 0 0) : ∀ n, fz_p (fz_pw q n) ∧ fz_pw q n ≠ fz_o 0 0 := by
  intro n
  induction n with
  | zero => exact ⟨fz_p_o 0 1, fz_low_nQ fz_low_01⟩
  | succ n ih => exact ⟨fz_p_m ih.1 pq, fz_m_ne ih.1 pq ih.2 nq⟩
theorem fz_pw_eq {P Q p q : Nat → Fin 101} (h : fz_m P q = fz_m p Q) : ∀ n, fz_m (fz_pw P n) (fz_pw q n) = fz_m (fz_pw p n) (fz_pw Q n) := by
  intro n
  induction n with
  | zero => rfl
  | succ n ih => exact @fz_r_mul _ fz_ring (fz_pw P n) (fz_pw Q n) (fz_pw p n) (fz_pw q n) P Q p q ih h
theorem gr_pow {P Q p q : Nat → Fin 101} {h : Nat} (H : gr_fr P Q p q h) (n : Nat) (hh : n * h ≤ 12) : gr_fr (fz_pw P n) (fz_pw Q n) (fz_pw p n) (fz_pw q n) (n * h) := by
  obtain ⟨_, a1, a2, a3, a4, a5, a6, a7⟩ := H
  exact ⟨hh, fz_pw_l a1 n, fz_pw_l a2 n, fz_pw_l a3 n, fz_pw_l a4 n, fz_pw_low a5 n, (fz_pw_ne ⟨_, a4⟩ a6 n).2, fz_pw_eq a7 n⟩
