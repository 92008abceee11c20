/-! degrees, no zero divisors, coprime, lowest terms -/
def fz_l (f : Nat → Fin 101) (n : Nat) : Prop := ∀ k, n ≤ k → f k = 0
def fz_e (f : Nat → Fin 101) (m : Nat) : Prop := f m ≠ 0 ∧ fz_l f (m + 1)
def fz_p (f : Nat → Fin 101) : Prop := ∃ n, fz_l f n
theorem fz_l_mono {f : Nat → Fin 101} {n n' : Nat} (h : fz_l f n) (hn : n ≤ n') : fz_l f n' := fun k hk => h k (by omega)
theorem fz_l_p {f : Nat → Fin 101} {n : Nat} (h : fz_l f n) : fz_p f := ⟨n, h⟩
theorem fz_l_a {f g : Nat → Fin 101} {n : Nat} (hf : fz_l f n) (hg : fz_l g n) : fz_l (fz_a f g) n := fun k hk => by
  show f k + g k = 0
  rw [hf k hk, hg k hk]
  rfl
theorem fz_l_d {f g : Nat → Fin 101} {n : Nat} (hf : fz_l f n) (hg : fz_l g n) : fz_l (fz_d f g) n := fun k hk => by
  show f k - g k = 0
  rw [hf k hk, hg k hk]
  rfl
theorem fz_l_o {s n : Nat} {a : Fin 101} (h : s < n) : fz_l (fz_o s a) n := fun k hk => by
  show (if k = s then a else 0) = 0
  rw [if_neg (by omega)]
theorem fz_l_z (n : Nat) : fz_l (fz_o 0 0) n := fun k _ => fz_o00 k
theorem fz_l_0 {f : Nat → Fin 101} (h : fz_l f 0) : f = fz_o 0 0 := funext (fun k => by rw [h k (Nat.zero_le k), fz_o00])
theorem fz_l_1 {f : Nat → Fin 101} (h : fz_l f 1) : f = fz_o 0 (f 0) := funext (fun k => by
  show f k = if k = 0 then f 0 else 0
  by_cases c : k = 0
  · rw [if_pos c, c]
  · rw [if_neg c]
    exact h k (by omega))
theorem fz_l_m {f g : Nat → Fin 101} {m n : Nat} (hf : fz_l f (m + 1)) (hg : fz_l g (n + 1)) : fz_l (fz_m f g) (m + n + 1) := fun k hk =>
  fz_s_zero (fun i hi => by
    show f i * g (k - i) = 0
    by_cases c : m + 1 ≤ i
    · rw [hf i c]
      grind
    · rw [hg (k - i) (by omega)]
      grind)
theorem fz_m_top {f g : Nat → Fin 101} {m n : Nat} (hf : fz_l f (m + 1)) (hg : fz_l g (n + 1)) : fz_m f g (m + n) = f m * g n := by
  show fz_s (m + n + 1) (fun i => f i * g (m + n - i)) = _
  rw [fz_s_one m (by omega) (fun i hi hn => by
    show f i * g (m + n - i) = 0
    by_cases c : m + 1 ≤ i
    · rw [hf i c]
      grind
    · rw [hg (m + n - i) (by omega)]
      grind)]
  rw [Nat.add_sub_cancel_left]
theorem fz_l_m' {f g : Nat → Fin 101} {m n r : Nat} (hf : fz_l f (m + 1)) (hg : fz_l g (n + 1)) (h : m + n < r) : fz_l (fz_m f g) r := fz_l_mono (fz_l_m hf hg) (by omega)
theorem fz_p_a {f g : Nat → Fin 101} (hf : fz_p f) (hg : fz_p g) : fz_p (fz_a f g) := by
  obtain ⟨m, hf⟩ := hf
  obtain ⟨n, hg⟩ := hg
  exact ⟨m + n, fz_l_a (fz_l_mono hf (by omega)) (fz_l_mono hg (by omega))⟩
theorem fz_p_d {f g : Nat → Fin 101} (hf : fz_p f) (hg : fz_p g) : fz_p (fz_d f g) := by
  obtain ⟨m, hf⟩ := hf
  obtain ⟨n, hg⟩ := hg
  exact ⟨m + n, fz_l_d (fz_l_mono hf (by omega)) (fz_l_mono hg (by omega))⟩
theorem fz_p_m {f g : Nat → Fin 101} (hf : fz_p f) (hg : fz_p g) : fz_p (fz_m f g) := by
  obtain ⟨m, hf⟩ := hf
  obtain ⟨n, hg⟩ := hg
  exact ⟨_, fz_l_m (fz_l_mono hf (by omega)) (fz_l_mono hg (Nat.le_succ n)) (m := m) (n := n)⟩
theorem fz_p_o (s : Nat) (a : Fin 101) : fz_p (fz_o s a) := ⟨s + 1, fz_l_o (by omega)⟩
def fz_i (a : Fin 101) : Fin 101 := Fin.ofNat 101 (a.val ^ 99)
theorem fz_i_m : ∀ a : Fin 101, a ≠ 0 → a * fz_i a = 1 := by decide +kernel
theorem fz_i_1 : fz_i 1 = 1 := by decide +kernel
theorem fz_zd {a b : Fin 101} (h : a * b = 0) : a = 0 ∨ b = 0 := by
  by_cases c : a = 0
  · exact Or.inl c
  · refine Or.inr ?_
    have e := fz_i_m a c
    have : b = (a * fz_i a) * b := by rw [e]; grind
    rw [this]
    have : a * fz_i a * b = fz_i a * (a * b) := by grind
    rw [this, h]
    grind
theorem fz_nz {a b : Fin 101} (ha : a ≠ 0) (hb : b ≠ 0) : a * b ≠ 0 := fun h => by
  cases fz_zd h with
  | inl h => exact ha h
  | inr h => exact hb h
theorem fz_i_u {a b : Fin 101} (h : a * b = 1) : b = fz_i a := by
  have ha : a ≠ 0 := fun z => by
    rw [z] at h
    have : (0 : Fin 101) * b = 0 := by grind
    rw [this] at h
    exact absurd h (by decide)
  have e := fz_i_m a ha
  have : b = b * (a * fz_i a) := by rw [e]; grind
  rw [this]
  have : b * (a * fz_i a) = (a * b) * fz_i a := by grind
  rw [this, h]
  grind
theorem fz_i_nz {a : Fin 101} (h : a ≠ 0) : fz_i a ≠ 0 := fun z => by
  have e := fz_i_m a h
  rw [z] at e
  have : a * (0 : Fin 101) = 0 := by grind
  rw [this] at e
  exact absurd e (by decide)
theorem fz_e_m {f g : Nat → Fin 101} {m n : Nat} (hf : fz_e f m) (hg : fz_e g n) : fz_e (fz_m f g) (m + n) :=
  ⟨by rw [fz_m_top hf.2 hg.2]; exact fz_nz hf.1 hg.1, fz_l_m hf.2 hg.2⟩
theorem fz_e_ex {f : Nat → Fin 101} : ∀ n : Nat, fz_l f n → f ≠ fz_o 0 0 → ∃ m, m < n ∧ fz_e f m := by
  intro n
  induction n with
  | zero => exact fun h hn => absurd (fz_l_0 h) hn
  | succ n ih =>
    intro h hn
    by_cases c : f n = 0
    · obtain ⟨m, hm, he⟩ := ih (fun k hk => by
        by_cases e : k = n
        · rw [e]
          exact c
        · exact h k (by omega)) hn
      exact ⟨m, by omega, he⟩
    · exact ⟨n, by omega, c, h⟩
theorem fz_e_exp {f : Nat → Fin 101} (h : fz_p f) (hn : f ≠ fz_o 0 0) : ∃ m, fz_e f m := by
  obtain ⟨n, h⟩ := h
  obtain ⟨m, _, he⟩ := fz_e_ex n h hn
  exact ⟨m, he⟩
theorem fz_e_ne {f : Nat → Fin 101} {m : Nat} (h : fz_e f m) : f ≠ fz_o 0 0 := fun z => h.1 (by rw [z, fz_o00])
theorem fz_e_lt {f : Nat → Fin 101} {m n : Nat} (h : fz_e f m) (hl : fz_l f n) : m < n := by
  by_cases c : m < n
  · exact c
  · exact absurd (hl m (by omega)) h.1
theorem fz_e_p {f : Nat → Fin 101} {m : Nat} (h : fz_e f m) : fz_p f := ⟨m + 1, h.2⟩
theorem fz_dom {f g : Nat → Fin 101} (hf : fz_p f) (hg : fz_p g) (h : fz_m f g = fz_o 0 0) : f = fz_o 0 0 ∨ g = fz_o 0 0 := by
  by_cases c : f = fz_o 0 0
  · exact Or.inl c
  · by_cases d : g = fz_o 0 0
    · exact Or.inr d
    · obtain ⟨m, hm⟩ := fz_e_exp hf c
      obtain ⟨n, hn⟩ := fz_e_exp hg d
      exact absurd h (fz_e_ne (fz_e_m hm hn))
theorem fz_m_ne {f g : Nat → Fin 101} (hf : fz_p f) (hg : fz_p g) (nf : f ≠ fz_o 0 0) (ng : g ≠ fz_o 0 0) : fz_m f g ≠ fz_o 0 0 := fun h => by
  cases fz_dom hf hg h with
  | inl h => exact nf h
  | inr h => exact ng h
theorem fz_r_sub0 {R : Type} [Lean.Grind.CommRing R] {a b : R} (h : a - b = 0) : a = b := by grind
theorem fz_r_dist {R : Type} [Lean.Grind.CommRing R] {a b c : R} (h : a * b = a * c) : a * (b - c) = 0 := by grind
theorem fz_d0 {f g : Nat → Fin 101} (h : fz_d f g = fz_o 0 0) : f = g := @fz_r_sub0 _ fz_ring f g h
theorem fz_cancel {f g h : Nat → Fin 101} (hf : fz_p f) (hg : fz_p g) (hh : fz_p h) (nf : f ≠ fz_o 0 0) (e : fz_m f g = fz_m f h) : g = h := by
  cases fz_dom hf (fz_p_d hg hh) (@fz_r_dist _ fz_ring f g h e) with
  | inl z => exact absurd z nf
  | inr z => exact fz_d0 z
theorem fz_small {g T : Nat → Fin 101} {n : Nat} (hg : fz_e g n) (hT : fz_p T) (h : fz_l (fz_m g T) n) : T = fz_o 0 0 := by
  by_cases c : T = fz_o 0 0
  · exact c
  · obtain ⟨m, hm⟩ := fz_e_exp hT c
    have := fz_e_lt (fz_e_m hg hm) h
    omega
theorem fz_dvd_l {d g : Nat → Fin 101} {n j : Nat} (hd : fz_p d) (hg : fz_e g j) (h : fz_l (fz_m d g) n) : fz_l d n := by
  by_cases c : d = fz_o 0 0
  · rw [c]
    exact fz_l_z n
  · obtain ⟨m, hm⟩ := fz_e_exp hd c
    have := fz_e_lt (fz_e_m hm hg) h
    exact fz_l_mono hm.2 (by omega)
theorem fz_r_div {R : Type} [Lean.Grind.CommRing R] {s g t s' t' : R} (h : s * g + t = s' * g + t') : g * (s - s') = t' - t := by grind
theorem fz_r_add0 {R : Type} [Lean.Grind.CommRing R] {s g t t' : R} (h : s * g + t = s * g + t') : t = t' := by grind
theorem fz_div_uniq {g s t s' t' : Nat → Fin 101} {n : Nat} (hg : fz_e g n) (hs : fz_p s) (hs' : fz_p s') (ht : fz_l t n) (ht' : fz_l t' n) (h : fz_a (fz_m s g) t = fz_a (fz_m s' g) t') : s = s' ∧ t = t' := by
  have e : fz_m g (fz_d s s') = fz_d t' t := @fz_r_div _ fz_ring s g t s' t' h
  have z := fz_small hg (fz_p_d hs hs') (by rw [e]; exact fz_l_d ht' ht)
  have z' := fz_d0 z
  subst z'
  exact ⟨rfl, @fz_r_add0 _ fz_ring s g t t' h⟩
def fz_co (P Q : Nat → Fin 101) : Prop := ∃ A B, fz_p A ∧ fz_p B ∧ fz_a (fz_m A P) (fz_m B Q) = fz_o 0 1
def fz_mo (Q : Nat → Fin 101) (m : Nat) : Prop := Q m = 1 ∧ fz_l Q (m + 1)
theorem fz_mo_e {Q : Nat → Fin 101} {m : Nat} (h : fz_mo Q m) : fz_e Q m := ⟨by rw [h.1]; decide, h.2⟩
def fz_low (P Q : Nat → Fin 101) : Prop := fz_p P ∧ fz_co P Q ∧ ∃ m, fz_mo Q m
theorem fz_low_pQ {P Q : Nat → Fin 101} (h : fz_low P Q) : fz_p Q := by
  obtain ⟨_, _, m, h⟩ := h
  exact ⟨m + 1, h.2⟩
theorem fz_low_nQ {P Q : Nat → Fin 101} (h : fz_low P Q) : Q ≠ fz_o 0 0 := by
  obtain ⟨_, _, m, h⟩ := h
  exact fz_e_ne (fz_mo_e h)
theorem fz_r_dvd {R : Type} [Lean.Grind.CommRing R] {A B P Q p q : R} (h : A * P + B * Q = 1) (e : P * q = p * Q) : q = Q * (A * p + B * q) := by grind
theorem fz_dvd {P Q p q : Nat → Fin 101} (h : fz_co P Q) (hp : fz_p p) (hq : fz_p q) (e : fz_m P q = fz_m p Q) : ∃ T, fz_p T ∧ q = fz_m Q T := by
  obtain ⟨A, B, hA, hB, h⟩ := h
  exact ⟨_, fz_p_a (fz_p_m hA hp) (fz_p_m hB hq), @fz_r_dvd _ fz_ring A B P Q p q h e⟩
theorem fz_monT {Q R T : Nat → Fin 101} {m m' : Nat} (hQ : fz_mo Q m) (hR : fz_mo R m') (hT : fz_p T) (e : R = fz_m Q T) (h : m' ≤ m) : R = Q := by
  have nT : T ≠ fz_o 0 0 := fun z => by
    rw [z, fz_m_comm, fz_m_zero] at e
    exact fz_e_ne (fz_mo_e hR) e
  obtain ⟨i, hi⟩ := fz_e_exp hT nT
  have hm := fz_e_m (fz_mo_e hQ) hi
  rw [← e] at hm
  have h1 := fz_e_lt hm hR.2
  have i0 : i = 0 := by omega
  subst i0
  have eT := fz_l_1 hi.2
  have h2 : R m = Q m * T 0 := by
    rw [e]
    exact fz_m_top hQ.2 hi.2
  have h3 : m' = m := by omega
  rw [h3] at hR
  rw [hR.1, hQ.1] at h2
  have h4 : T 0 = 1 := by
    rw [h2]
    grind
  rw [h4] at eT
  rw [e, eT, fz_m_one]
theorem fz_uniq {P Q P' Q' : Nat → Fin 101} (h : fz_low P Q) (h' : fz_low P' Q') (e : fz_m P Q' = fz_m P' Q) : P = P' ∧ Q = Q' := by
  obtain ⟨m, hm⟩ := h.2.2
  obtain ⟨m', hm'⟩ := h'.2.2
  have eQ : Q = Q' := by
    by_cases c : m' ≤ m
    · obtain ⟨T, hT, eT⟩ := fz_dvd h.2.1 h'.1 (fz_low_pQ h') e
      exact (fz_monT hm hm' hT eT c).symm
    · obtain ⟨T, hT, eT⟩ := fz_dvd h'.2.1 h.1 (fz_low_pQ h) e.symm
      exact fz_monT hm' hm hT eT (by omega)
  subst eQ
  refine ⟨?_, rfl⟩
  rw [fz_m_comm P, fz_m_comm P'] at e
  exact fz_cancel (fz_low_pQ h) h.1 h'.1 (fz_low_nQ h) e
theorem fz_r_co {R : Type} [Lean.Grind.CommRing R] {A B P Q A' B' P' : R} (h : A * P + B * Q = 1) (h' : A' * P' + B' * Q = 1) : (A * A') * (P * P') + (A * P * B' + B * A' * P' + B * B' * Q) * Q = 1 := by grind
theorem fz_co_m {P P' Q : Nat → Fin 101} (hP : fz_p P) (hP' : fz_p P') (hQ : fz_p Q) (h : fz_co P Q) (h' : fz_co P' Q) : fz_co (fz_m P P') Q := by
  obtain ⟨A, B, hA, hB, h⟩ := h
  obtain ⟨A', B', hA', hB', h'⟩ := h'
  exact ⟨_, _, fz_p_m hA hA', fz_p_a (fz_p_a (fz_p_m (fz_p_m hA hP) hB') (fz_p_m (fz_p_m hB hA') hP')) (fz_p_m (fz_p_m hB hB') hQ), @fz_r_co _ fz_ring A B P Q A' B' P' h h'⟩
theorem fz_r_swap {R : Type} [Lean.Grind.CommRing R] {A B P Q : R} (h : A * P + B * Q = 1) : B * Q + A * P = 1 := by grind
theorem fz_co_s {P Q : Nat → Fin 101} (h : fz_co P Q) : fz_co Q P := by
  obtain ⟨A, B, hA, hB, h⟩ := h
  exact ⟨B, A, hB, hA, @fz_r_swap _ fz_ring A B P Q h⟩
theorem fz_mo_m {Q Q' : Nat → Fin 101} {m m' : Nat} (h : fz_mo Q m) (h' : fz_mo Q' m') : fz_mo (fz_m Q Q') (m + m') :=
  ⟨by rw [fz_m_top h.2 h'.2, h.1, h'.1]; rfl, fz_l_m h.2 h'.2⟩
theorem fz_low_01 : fz_low (fz_o 0 0) (fz_o 0 1) :=
  ⟨fz_p_o 0 0, ⟨fz_o 0 0, fz_o 0 1, fz_p_o 0 0, fz_p_o 0 1, by
    rw [fz_m_zero, fz_m_one]
    funext k
    show fz_o 0 0 k + fz_o 0 1 k = fz_o 0 1 k
    rw [fz_o00]
    grind⟩, 0, rfl, fz_l_o (by omega)⟩
theorem fz_r_co1 {R : Type} [Lean.Grind.CommRing R] (P : R) : 0 * P + 1 * 1 = (1 : R) := by grind
theorem fz_low_1 {P : Nat → Fin 101} (h : fz_p P) : fz_low P (fz_o 0 1) :=
  ⟨h, ⟨fz_o 0 0, fz_o 0 1, fz_p_o 0 0, fz_p_o 0 1, @fz_r_co1 _ fz_ring P⟩, 0, rfl, fz_l_o (by omega)⟩
