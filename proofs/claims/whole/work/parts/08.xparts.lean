/-! the component's larger own methods (written by wip/whole/gen_x3.py) -/
theorem fz_r_n1 {R : Type} [Lean.Grind.CommRing R] (p q : R) : 0 + (1 * p) * q = p * q := by grind
theorem fz_a0m (p q : Nat → Fin 101) : fz_a (fz_o 0 0) (fz_m (fz_m (fz_o 0 1) p) q) = fz_m p q := @fz_r_n1 _ fz_ring p q
theorem fz_r_n2 {R : Type} [Lean.Grind.CommRing R] (f p q : R) : f + (1 * p) * q = f + p * q := by grind
theorem fz_a1m (f p q : Nat → Fin 101) : fz_a f (fz_m (fz_m (fz_o 0 1) p) q) = fz_a f (fz_m p q) := @fz_r_n2 _ fz_ring f p q
theorem fz_r_n3 {R : Type} [Lean.Grind.CommRing R] (f p q : R) : f + ((-1) * p) * q = f - p * q := by grind
theorem fz_o100 : fz_o 0 100 = fz_n (fz_o 0 1) := by
  rw [fz_n_o]
  rfl
theorem fz_a100m (f p q : Nat → Fin 101) : fz_a f (fz_m (fz_m (fz_o 0 100) p) q) = fz_d f (fz_m p q) := by
  rw [fz_o100]
  exact @fz_r_n3 _ fz_ring f p q
theorem fz_r_a0 {R : Type} [Lean.Grind.CommRing R] (f : R) : f + 0 = f := by grind
theorem fz_a_z (f : Nat → Fin 101) : fz_a f (fz_o 0 0) = f := @fz_r_a0 _ fz_ring f
section
variable {c : Int32} {sA sB hh lA lB rA rB zA zB cm rm qt : Nat → Int32}
theorem gx_push {post : Int32 → SX → Prop} {f g : Nat → Fin 101} {p0 : Int32} (d : Nat) (hd : d < 6) (hf : fz_ar zA f) (hg : fz_ar zB g) (K : ∀ t t', fz_at t (d * 25) f → fz_at t' (d * 25) g → (∀ m, m < d * 25 ∨ d * 25 + 25 ≤ m → t m = sA m) → (∀ m, m < d * 25 ∨ d * 25 + 25 ≤ m → t' m = sB m) → post (nI (d + 1)) (nI (d + 1), t, t', (upd hh d p0), lA, lB, rA, rB, zA, zB, cm, rm, qt)) : wpX_pushResult post (nI d, sA, sB, hh, lA, lB, rA, rB, zA, zB, cm, rm, qt) p0 := by
  refine gx_store_zA_zB (post := _) d hd hf hg (fun t t' h1 h2 h3 h4 => ?_)
  refine ⟨vp_in_nI hd (by decide), ?_⟩
  refine nm_r (e' := upd hh d p0) (by rw [nI_clamp (by omega)]) ?_
  refine nm_r (nI_1 d) ?_
  exact K t t' h1 h2 h3 h4
theorem gx_comb_2 {post : SX → Prop} {P Q P' Q' : Nat → Fin 101} (hP : fz_ar lA P) (hQ : fz_ar lB Q) (hP' : fz_ar rA P') (hQ' : fz_ar rB Q') (lP : fz_l P 25) (lQ : fz_l Q 25) (K : ∀ t t', fz_ar t (fz_m P P') → fz_ar t' (fz_m Q Q') → post (c, sA, sB, hh, lA, lB, rA, rB, t, t', cm, rm, qt)) : wpX_combine post (c, sA, sB, hh, lA, lB, rA, rB, zA, zB, cm, rm, qt) 2 := by
  refine gx_set_zA (post := _) (0 : Fin 101) (fun t ht => ?_)
  refine gx_set_zB (post := _) (0 : Fin 101) (fun t' ht' => ?_)
  refine br_t rfl ?_
  refine gx_ap_zA_lA_rA (post := _) (1 : Fin 101) ht hP hP' lP (fun t1 h1 => ?_)
  refine gx_ap_zB_lB_rB (post := _) (1 : Fin 101) ht' hQ hQ' lQ (fun t2 h2 => ?_)
  rw [fz_a0m] at h1 h2
  exact K t1 t2 h1 h2
theorem gx_comb_3 {post : SX → Prop} {P Q P' Q' : Nat → Fin 101} (hP : fz_ar lA P) (hQ : fz_ar lB Q) (hP' : fz_ar rA P') (hQ' : fz_ar rB Q') (lP : fz_l P 25) (lQ : fz_l Q 25) (K : ∀ t t', fz_ar t (fz_m P Q') → fz_ar t' (fz_m Q P') → post (c, sA, sB, hh, lA, lB, rA, rB, t, t', cm, rm, qt)) : wpX_combine post (c, sA, sB, hh, lA, lB, rA, rB, zA, zB, cm, rm, qt) 3 := by
  refine gx_set_zA (post := _) (0 : Fin 101) (fun t ht => ?_)
  refine gx_set_zB (post := _) (0 : Fin 101) (fun t' ht' => ?_)
  refine br_f (by decide) (br_t rfl ?_)
  refine gx_ap_zA_lA_rB (post := _) (1 : Fin 101) ht hP hQ' lP (fun t1 h1 => ?_)
  refine gx_ap_zB_lB_rA (post := _) (1 : Fin 101) ht' hQ hP' lQ (fun t2 h2 => ?_)
  rw [fz_a0m] at h1 h2
  exact K t1 t2 h1 h2
theorem gx_comb_1 {post : SX → Prop} {P Q P' Q' : Nat → Fin 101} (hP : fz_ar lA P) (hQ : fz_ar lB Q) (hP' : fz_ar rA P') (hQ' : fz_ar rB Q') (lP : fz_l P 25) (lQ : fz_l Q 25) (K : ∀ t t', fz_ar t (fz_d (fz_m P Q') (fz_m Q P')) → fz_ar t' (fz_m Q Q') → post (c, sA, sB, hh, lA, lB, rA, rB, t, t', cm, rm, qt)) : wpX_combine post (c, sA, sB, hh, lA, lB, rA, rB, zA, zB, cm, rm, qt) 1 := by
  refine gx_set_zA (post := _) (0 : Fin 101) (fun t ht => ?_)
  refine gx_set_zB (post := _) (0 : Fin 101) (fun t' ht' => ?_)
  refine br_f (by decide) (br_f (by decide) (br_t rfl ?_))
  refine gx_ap_zA_lA_rB (post := _) (1 : Fin 101) ht hP hQ' lP (fun t1 h1 => ?_)
  refine gx_ap_zA_lB_rA (post := _) (100 : Fin 101) h1 hQ hP' lQ (fun t2 h2 => ?_)
  refine gx_ap_zB_lB_rB (post := _) (1 : Fin 101) ht' hQ hQ' lQ (fun t3 h3 => ?_)
  rw [fz_a0m] at h2 h3
  rw [fz_a100m] at h2
  exact K t2 t3 h2 h3
theorem gx_comb_0 {post : SX → Prop} {P Q P' Q' : Nat → Fin 101} (hP : fz_ar lA P) (hQ : fz_ar lB Q) (hP' : fz_ar rA P') (hQ' : fz_ar rB Q') (lP : fz_l P 25) (lQ : fz_l Q 25) (K : ∀ t t', fz_ar t (fz_a (fz_m P Q') (fz_m Q P')) → fz_ar t' (fz_m Q Q') → post (c, sA, sB, hh, lA, lB, rA, rB, t, t', cm, rm, qt)) : wpX_combine post (c, sA, sB, hh, lA, lB, rA, rB, zA, zB, cm, rm, qt) 0 := by
  refine gx_set_zA (post := _) (0 : Fin 101) (fun t ht => ?_)
  refine gx_set_zB (post := _) (0 : Fin 101) (fun t' ht' => ?_)
  refine br_f (by decide) (br_f (by decide) (br_f (by decide) ?_))
  refine gx_ap_zA_lA_rB (post := _) (1 : Fin 101) ht hP hQ' lP (fun t1 h1 => ?_)
  refine gx_ap_zA_lB_rA (post := _) (1 : Fin 101) h1 hQ hP' lQ (fun t2 h2 => ?_)
  refine gx_ap_zB_lB_rB (post := _) (1 : Fin 101) ht' hQ hQ' lQ (fun t3 h3 => ?_)
  rw [fz_a0m] at h2 h3
  rw [fz_a1m] at h2
  exact K t2 t3 h2 h3
theorem gx_gcd_l {post : SX → Prop} {P Q : Nat → Fin 101} (K : ∀ t t' t'' g, fz_ar t g → fz_l g 25 → fz_eu P Q g (fz_o 0 0) → post (c, sA, sB, hh, lA, lB, rA, rB, zA, zB, t, t', t'')) : ∀ (n j : Nat) (cm rm qt : Nat → Int32) (g r : Nat → Fin 101), fz_ar cm g → fz_ar rm r → fz_l g 25 → fz_l r (25 - j) → j ≤ 25 → 26 ≤ j + n → fz_eu P Q g r → wX_findCommonDivisor_24 post n (nI j) c sA sB hh lA lB rA rB zA zB cm rm qt := by
  intro n
  induction n with
  | zero => intro j cm rm qt g r _ _ _ _ h1 h2; omega
  | succ n ih =>
    intro j cm rm qt g r hg hr lg lr h1 h2 hE
    refine br_f (nI_ge (b := 50) (by omega) (by decide)) ?_
    refine gx_zero_rm (post := _) hr (fz_l_mono lr (by omega)) (fun z => ?_) (fun z => ?_)
    · refine br_f (by decide) ?_
      rw [z] at hE
      exact K _ _ _ g hg lg hE
    · refine br_t rfl ?_
      obtain ⟨d, hd, he⟩ := fz_e_ex _ lr z
      refine gx_div_cm_rm (post := _) d (by omega) hg lg hr he (fun t t' s r' k1 k2 k3 k4 k5 => ?_)
      refine gx_exch (post := _) k1 hr (fun u u' k6 k7 => ?_)
      refine nm_r (nI_1 j) ?_
      exact ih (j + 1) u u' t' r r' k6 k7 (fz_l_mono lr (by omega)) (fz_l_mono k4 (by omega)) (by omega) (by omega) (fz_eu_s ⟨_, k3⟩ k5 hE)
theorem gx_gcd {post : SX → Prop} {P Q : Nat → Fin 101} (hP : fz_ar zA P) (hQ : fz_ar zB Q) (lP : fz_l P 25) (lQ : fz_l Q 25) (K : ∀ t t' t'' g, fz_ar t g → fz_l g 25 → fz_eu P Q g (fz_o 0 0) → post (c, sA, sB, hh, lA, lB, rA, rB, zA, zB, t, t', t'')) : wpX_findCommonDivisor post (c, sA, sB, hh, lA, lB, rA, rB, zA, zB, cm, rm, qt) := by
  refine gx_copy_zA_cm (post := _) hP (fun t ht => ?_)
  refine gx_copy_zB_rm (post := _) hQ (fun t' ht' => ?_)
  exact ⟨26, gx_gcd_l K 26 0 t t' qt P Q ht ht' lP lQ (by omega) (by omega) (fz_eu_0 P Q)⟩
theorem gx_low {post : SX → Prop} {P0 Q0 : Nat → Fin 101} (hP : fz_ar zA P0) (hQ : fz_ar zB Q0) (lP : fz_l P0 25) (lQ : fz_l Q0 25) (nQ : Q0 ≠ fz_o 0 0)
    (K : ∀ tA tB t1 t2 t3 P Q, fz_ar tA P → fz_ar tB Q → fz_l P 25 → fz_l Q 25 → fz_low P Q → fz_m P Q0 = fz_m P0 Q → (∀ n, fz_l P0 n → fz_l P n) → (∀ n, 1 ≤ n → fz_l Q0 n → fz_l Q n) → post (c, sA, sB, hh, lA, lB, rA, rB, tA, tB, t1, t2, t3)) : wpX_lowerResult post (c, sA, sB, hh, lA, lB, rA, rB, zA, zB, cm, rm, qt) := by
  unfold wpX_lowerResult
  refine gx_zero_zA (post := _) hP lP (fun z => ?_) (fun z => ?_)
  · refine br_f (by decide) ?_
    refine gx_set_zB (post := _) (1 : Fin 101) (fun t ht => ?_)
    rw [z] at hP
    refine K zA t cm rm qt _ _ hP ht (fz_l_z 25) (fz_l_o (by omega)) fz_low_01 ?_ (fun n _ => fz_l_z n) (fun n hn _ => fz_l_o (by omega))
    rw [z, fz_m_zero, fz_m_zero]
  · refine br_t rfl ?_
    refine gx_gcd (post := _) hP hQ lP lQ (fun t1 t2 t3 g hg lg hE => ?_)
    obtain ⟨ng, d1, d2, pd1, pd2, e1, e2, hc⟩ := fz_eu_end hE nQ ⟨_, lg⟩
    obtain ⟨j, hj, he⟩ := fz_e_ex 25 lg ng
    refine gx_div_zA_cm (post := _) j hj hP lP hg he (fun u1 u2 s1 r1 k1 k2 k3 k4 k5 => ?_)
    have q1 := (fz_div_uniq he ⟨_, k3⟩ pd1 k4 (fz_l_z j) (k5.symm.trans e1)).1
    subst q1
    refine gx_copy_qt_zA (post := _) k2 (fun u3 k6 => ?_)
    refine gx_div_zB_cm (post := _) j hj hQ lQ hg he (fun w1 w2 s2 r2 m1 m2 m3 m4 m5 => ?_)
    have q2 := (fz_div_uniq he ⟨_, m3⟩ pd2 m4 (fz_l_z j) (m5.symm.trans e2)).1
    subst q2
    refine gx_copy_qt_zB (post := _) m2 (fun w3 m6 => ?_)
    have n2 : s2 ≠ fz_o 0 0 := fun y => nQ (by rw [e2, y, fz_m_zero, fz_a_z])
    obtain ⟨m, hm, hme⟩ := fz_e_ex 25 m3 n2
    refine gx_dege_zB (post := _) m6 hm hme ?_
    refine ⟨vp_in_nI hm (by decide), ?_⟩
    refine nm_r (e' := fz_c (s2 m)) (by rw [nI_clamp (by omega)]; exact m6 m hm) ?_
    refine gx_inv (s2 m) hme.1 ?_
    refine gx_scale_zA (post := _) (fz_i (s2 m)) k6 (fun v1 n3 => ?_)
    refine gx_scale_zB (post := _) (fz_i (s2 m)) m6 (fun v2 n4 => ?_)
    have hs := fz_scale ⟨_, k3⟩ hc e1 e2 hme
    refine K v1 v2 t1 t2 w2 _ _ n3 n4 (fz_cl k3) (fz_cl m3) hs.1 hs.2 (fun n hn => ?_) (fun n _ hn => ?_)
    · rw [e1, fz_a_z] at hn
      exact fz_cl (fz_dvd_l pd1 he hn)
    · rw [e2, fz_a_z] at hn
      exact fz_cl (fz_dvd_l pd2 he hn)
theorem gx_dtop {post : SX → Prop} {P Q : Nat → Fin 101} (d : Nat) (hd : d < 6) (hP : fz_at sA (d * 25) P) (hQ : fz_at sB (d * 25) Q) (lP : fz_l P 13) (lQ : fz_l Q 13) (nQ : Q ≠ fz_o 0 0)
    (K : ∀ a1 a2 a3 a4 tA tB t1 t2 t3 P' Q', fz_ar tA P' → fz_ar tB Q' → fz_l P' 25 → fz_l Q' 25 → fz_low P' Q' → fz_m P' (fz_m Q Q) = fz_m (fz_d (fz_m (fz_dv P) Q) (fz_m P (fz_dv Q))) Q' → (∀ n, fz_l (fz_d (fz_m (fz_dv P) Q) (fz_m P (fz_dv Q))) n → fz_l P' n) → (∀ n, 1 ≤ n → fz_l (fz_m Q Q) n → fz_l Q' n) → post (nI (d + 1), sA, sB, hh, a1, a2, a3, a4, tA, tB, t1, t2, t3)) : wpX_deriveTopIntoResult post (nI (d + 1), sA, sB, hh, lA, lB, rA, rB, zA, zB, cm, rm, qt) := by
  have lP' : fz_l P 25 := fz_l_mono lP (by omega)
  have lQ' : fz_l Q 25 := fz_l_mono lQ (by omega)
  have l1 : fz_l (fz_dv P) 13 := fz_l_mono (fz_dv_l (n := 12) lP) (by omega)
  have l2 : fz_l (fz_dv Q) 13 := fz_l_mono (fz_dv_l (n := 12) lQ) (by omega)
  unfold wpX_deriveTopIntoResult
  dsimp only
  rw [nI_pred d]
  refine gx_load_lA_lB (post := _) d hd hP hQ (fun a1 a2 h1 h2 => ?_)
  refine gx_dv_lA (post := _) h1 lP' (fun a3 h3 => ?_)
  refine gx_dv_lB (post := _) h2 lQ' (fun a4 h4 => ?_)
  refine gx_set_zA (post := _) (0 : Fin 101) (fun b1 k1 => ?_)
  refine gx_set_zB (post := _) (0 : Fin 101) (fun b2 k2 => ?_)
  refine gx_ap_zA_rA_lB (post := _) (1 : Fin 101) k1 h3 h2 (fz_l_mono l1 (by omega)) (fun b3 k3 => ?_)
  refine gx_ap_zA_lA_rB (post := _) (100 : Fin 101) k3 h1 h4 lP' (fun b4 k4 => ?_)
  refine gx_ap_zB_lB_lB (post := _) (1 : Fin 101) k2 h2 h2 lQ' (fun b5 k5 => ?_)
  rw [fz_a100m, fz_a0m] at k4
  rw [fz_a0m] at k5
  refine gx_low (post := _) k4 k5 (fz_l_d (fz_l_m (m := 12) (n := 12) l1 lQ) (fz_l_m (m := 12) (n := 12) lP l2)) (fz_l_m (m := 12) (n := 12) lQ lQ) (fz_m_ne ⟨_, lQ⟩ ⟨_, lQ⟩ nQ nQ) (fun tA tB t1 t2 t3 P' Q' m1 m2 m3 m4 m5 m6 m7 m8 => ?_)
  exact K a1 a2 a3 a4 tA tB t1 t2 t3 P' Q' m1 m2 m3 m4 m5 m6 m7 m8
end
def fz_ans (P Q : Nat → Fin 101) (a : Fin 101) : Int32 := if fz_h 25 Q a = 0 then -4 else fz_c (fz_h 25 P a * fz_i (fz_h 25 Q a))
def fz_cnt (P Q : Nat → Fin 101) (w : Int32) : Nat → Nat
  | 0 => 0
  | n + 1 => if fz_ans P Q (Fin.ofNat 101 n) = w then fz_cnt P Q w n + 1 else fz_cnt P Q w n
theorem fz_cnt_le (P Q : Nat → Fin 101) (w : Int32) : ∀ n, fz_cnt P Q w n ≤ n := by
  intro n
  induction n with
  | zero => exact Nat.le_refl 0
  | succ n ih =>
    show (if fz_ans P Q (Fin.ofNat 101 n) = w then fz_cnt P Q w n + 1 else fz_cnt P Q w n) ≤ n + 1
    split <;> omega
section
variable {c : Int32} {sA sB hh lA lB rA rB zA zB cm rm qt : Nat → Int32}
theorem gx_resat {post : Int32 → Prop} {P Q : Nat → Fin 101} (a : Fin 101) (hP : fz_ar zA P) (hQ : fz_ar zB Q) (K : post (fz_ans P Q a)) : wpX_resultAt post (c, sA, sB, hh, lA, lB, rA, rB, zA, zB, cm, rm, qt) (fz_c a) := by
  refine gx_at_zB (post := _) a hQ ?_
  by_cases z : fz_h 25 Q a = 0
  · refine br_t (fz_c_z.mpr z) ?_
    rw [fz_ans, if_pos z] at K
    exact K
  · refine br_f (fun y => z (fz_c_z.mp y)) ?_
    refine gx_at_zA (post := _) a hP ?_
    refine gx_inv _ z ?_
    refine ⟨fz_nz101, ?_⟩
    rw [fz_rem_m]
    rw [fz_ans, if_neg z] at K
    exact K
theorem gx_count {post : Int32 → SX → Prop} {P Q : Nat → Fin 101} (d : Nat) (hd : d < 6) (w : Int32) (hP : fz_at sA (d * 25) P) (hQ : fz_at sB (d * 25) Q) (K : ∀ t t', post (nI (fz_cnt P Q w 101)) (nI (d + 1), sA, sB, hh, lA, lB, rA, rB, t, t', cm, rm, qt)) : wpX_countTopAnswers post (nI (d + 1), sA, sB, hh, lA, lB, rA, rB, zA, zB, cm, rm, qt) w := by
  unfold wpX_countTopAnswers
  dsimp only
  rw [nI_pred d]
  refine gx_load_zA_zB (post := _) d hd hP hQ (fun t t' h h' => ?_)
  refine pk_loop (fun n i (s : Int32) => wX_countTopAnswers_22 post w (nI (d + 1)) sA sB hh lA lB rA rB t t' cm rm qt n s (nI i)) (fun i s => s = nI (fz_cnt P Q w i)) 101 0 0 (by omega) rfl ?_ ?_
  · intro n s hs
    refine br_t (by decide) ?_
    rw [hs]
    exact K t t'
  · intro n i s hi hs ih
    refine br_f (nI_ge (b := 101) hi (by decide)) ?_
    have e : nI i = fz_c (Fin.ofNat 101 i) := by
      show nI i = nI (i % 101)
      rw [Nat.mod_eq_of_lt hi]
    have ec : fz_cnt P Q w (i + 1) = if fz_ans P Q (Fin.ofNat 101 i) = w then fz_cnt P Q w i + 1 else fz_cnt P Q w i := rfl
    have key : ∀ x, x = nI i → wpX_resultAt (fun r_16 => ((r_16 = w → ∀ x2 : Int32, x2 = s + 1 → ∀ x3 : Int32, x3 = nI i + 1 → wX_countTopAnswers_22 post w (nI (d + 1)) sA sB hh lA lB rA rB t t' cm rm qt n x2 x3) ∧ (¬ r_16 = w → ∀ x3 : Int32, x3 = nI i + 1 → wX_countTopAnswers_22 post w (nI (d + 1)) sA sB hh lA lB rA rB t t' cm rm qt n s x3))) (nI (d + 1), sA, sB, hh, lA, lB, rA, rB, t, t', cm, rm, qt) x := by
      intro x ex
      rw [ex, e]
      refine gx_resat (post := _) (Fin.ofNat 101 i) h h' ?_
      rw [← e]
      by_cases y : fz_ans P Q (Fin.ofNat 101 i) = w
      · rw [if_pos y] at ec
        refine br_t y ?_
        refine nm_r (e' := nI (fz_cnt P Q w i + 1)) (by rw [hs, nI_1]) ?_
        refine nm_r (nI_1 i) ?_
        exact ih _ (by rw [ec])
      · rw [if_neg y] at ec
        refine br_f y ?_
        refine nm_r (nI_1 i) ?_
        exact ih _ (by rw [ec]; exact hs)
    exact key _ rfl
end
