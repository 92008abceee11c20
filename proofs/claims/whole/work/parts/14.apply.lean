/-! apply and power, both sides (written by wip/whole/gen_x4.py) -/
section
variable {c : Int32} {sA sB hh lA lB rA rB zA zB cm rm qt : Nat → Int32}
theorem gx_109_0 {post : Int32 → SX → Prop} {x2 : Int32} {P Q P1 Q1 : Nat → Fin 101} (j : Nat) (hj : j < 6) (hP : fz_ar lA P) (hQ : fz_ar lB Q) (hP1 : fz_ar rA P1) (hQ1 : fz_ar rB Q1) (lP : fz_l P 13) (lQ : fz_l Q 13) (lP1 : fz_l P1 13) (lQ1 : fz_l Q1 13) (nQ : Q ≠ fz_o 0 0) (nQ1 : Q1 ≠ fz_o 0 0) 
    (K : ∀ tA tB yA yB t1 t2 t3 A B, fz_at tA (j * 25) A → fz_at tB (j * 25) B → (∀ m, m < j * 25 ∨ j * 25 + 25 ≤ m → tA m = sA m) → (∀ m, m < j * 25 ∨ j * 25 + 25 ≤ m → tB m = sB m) → fz_low A B → fz_m A (fz_m Q Q1) = fz_m (fz_a (fz_m P Q1) (fz_m Q P1)) B → (∀ n, fz_l (fz_a (fz_m P Q1) (fz_m Q P1)) n → fz_l A n) → (∀ n, 1 ≤ n → fz_l (fz_m Q Q1) n → fz_l B n) → post (nI (j + 1)) (nI (j + 1), tA, tB, (upd hh j x2), lA, lB, rA, rB, yA, yB, t1, t2, t3)) : wX_apply_109 post 0 x2 (nI (j + 2)) sA sB hh lA lB rA rB zA zB cm rm qt := by
  refine gx_comb_0 (post := _) hP hQ hP1 hQ1 (fz_l_mono lP (by omega)) (fz_l_mono lQ (by omega)) (fun t t' h h' => ?_)
  refine gx_low (post := _) h h' (fz_l_a (fz_l_m (m := 12) (n := 12) lP lQ1) (fz_l_m (m := 12) (n := 12) lQ lP1)) (fz_l_m (m := 12) (n := 12) lQ lQ1) (fz_m_ne ⟨_, lQ⟩ ⟨_, lQ1⟩ nQ nQ1) (fun yA yB t1 t2 t3 A B k1 k2 k3 k4 k5 k6 k7 k8 => ?_)
  refine nm_r (e' := nI j) (pk_sub (b := 2) (by omega)) ?_
  refine gx_push (post := _) j hj k1 k2 (fun tA tB m1 m2 m3 m4 => ?_)
  exact K tA tB yA yB t1 t2 t3 A B m1 m2 m3 m4 k5 k6 k7 k8
theorem gx_109_1 {post : Int32 → SX → Prop} {x2 : Int32} {P Q P1 Q1 : Nat → Fin 101} (j : Nat) (hj : j < 6) (hP : fz_ar lA P) (hQ : fz_ar lB Q) (hP1 : fz_ar rA P1) (hQ1 : fz_ar rB Q1) (lP : fz_l P 13) (lQ : fz_l Q 13) (lP1 : fz_l P1 13) (lQ1 : fz_l Q1 13) (nQ : Q ≠ fz_o 0 0) (nQ1 : Q1 ≠ fz_o 0 0) 
    (K : ∀ tA tB yA yB t1 t2 t3 A B, fz_at tA (j * 25) A → fz_at tB (j * 25) B → (∀ m, m < j * 25 ∨ j * 25 + 25 ≤ m → tA m = sA m) → (∀ m, m < j * 25 ∨ j * 25 + 25 ≤ m → tB m = sB m) → fz_low A B → fz_m A (fz_m Q Q1) = fz_m (fz_d (fz_m P Q1) (fz_m Q P1)) B → (∀ n, fz_l (fz_d (fz_m P Q1) (fz_m Q P1)) n → fz_l A n) → (∀ n, 1 ≤ n → fz_l (fz_m Q Q1) n → fz_l B n) → post (nI (j + 1)) (nI (j + 1), tA, tB, (upd hh j x2), lA, lB, rA, rB, yA, yB, t1, t2, t3)) : wX_apply_109 post 1 x2 (nI (j + 2)) sA sB hh lA lB rA rB zA zB cm rm qt := by
  refine gx_comb_1 (post := _) hP hQ hP1 hQ1 (fz_l_mono lP (by omega)) (fz_l_mono lQ (by omega)) (fun t t' h h' => ?_)
  refine gx_low (post := _) h h' (fz_l_d (fz_l_m (m := 12) (n := 12) lP lQ1) (fz_l_m (m := 12) (n := 12) lQ lP1)) (fz_l_m (m := 12) (n := 12) lQ lQ1) (fz_m_ne ⟨_, lQ⟩ ⟨_, lQ1⟩ nQ nQ1) (fun yA yB t1 t2 t3 A B k1 k2 k3 k4 k5 k6 k7 k8 => ?_)
  refine nm_r (e' := nI j) (pk_sub (b := 2) (by omega)) ?_
  refine gx_push (post := _) j hj k1 k2 (fun tA tB m1 m2 m3 m4 => ?_)
  exact K tA tB yA yB t1 t2 t3 A B m1 m2 m3 m4 k5 k6 k7 k8
theorem gx_109_2 {post : Int32 → SX → Prop} {x2 : Int32} {P Q P1 Q1 : Nat → Fin 101} (j : Nat) (hj : j < 6) (hP : fz_ar lA P) (hQ : fz_ar lB Q) (hP1 : fz_ar rA P1) (hQ1 : fz_ar rB Q1) (lP : fz_l P 13) (lQ : fz_l Q 13) (lP1 : fz_l P1 13) (lQ1 : fz_l Q1 13) (nQ : Q ≠ fz_o 0 0) (nQ1 : Q1 ≠ fz_o 0 0) 
    (K : ∀ tA tB yA yB t1 t2 t3 A B, fz_at tA (j * 25) A → fz_at tB (j * 25) B → (∀ m, m < j * 25 ∨ j * 25 + 25 ≤ m → tA m = sA m) → (∀ m, m < j * 25 ∨ j * 25 + 25 ≤ m → tB m = sB m) → fz_low A B → fz_m A (fz_m Q Q1) = fz_m (fz_m P P1) B → (∀ n, fz_l (fz_m P P1) n → fz_l A n) → (∀ n, 1 ≤ n → fz_l (fz_m Q Q1) n → fz_l B n) → post (nI (j + 1)) (nI (j + 1), tA, tB, (upd hh j x2), lA, lB, rA, rB, yA, yB, t1, t2, t3)) : wX_apply_109 post 2 x2 (nI (j + 2)) sA sB hh lA lB rA rB zA zB cm rm qt := by
  refine gx_comb_2 (post := _) hP hQ hP1 hQ1 (fz_l_mono lP (by omega)) (fz_l_mono lQ (by omega)) (fun t t' h h' => ?_)
  refine gx_low (post := _) h h' (fz_l_m (m := 12) (n := 12) lP lP1) (fz_l_m (m := 12) (n := 12) lQ lQ1) (fz_m_ne ⟨_, lQ⟩ ⟨_, lQ1⟩ nQ nQ1) (fun yA yB t1 t2 t3 A B k1 k2 k3 k4 k5 k6 k7 k8 => ?_)
  refine nm_r (e' := nI j) (pk_sub (b := 2) (by omega)) ?_
  refine gx_push (post := _) j hj k1 k2 (fun tA tB m1 m2 m3 m4 => ?_)
  exact K tA tB yA yB t1 t2 t3 A B m1 m2 m3 m4 k5 k6 k7 k8
theorem gx_109_3 {post : Int32 → SX → Prop} {x2 : Int32} {P Q P1 Q1 : Nat → Fin 101} (j : Nat) (hj : j < 6) (hP : fz_ar lA P) (hQ : fz_ar lB Q) (hP1 : fz_ar rA P1) (hQ1 : fz_ar rB Q1) (lP : fz_l P 13) (lQ : fz_l Q 13) (lP1 : fz_l P1 13) (lQ1 : fz_l Q1 13) (nQ : Q ≠ fz_o 0 0) (nP1 : P1 ≠ fz_o 0 0) 
    (K : ∀ tA tB yA yB t1 t2 t3 A B, fz_at tA (j * 25) A → fz_at tB (j * 25) B → (∀ m, m < j * 25 ∨ j * 25 + 25 ≤ m → tA m = sA m) → (∀ m, m < j * 25 ∨ j * 25 + 25 ≤ m → tB m = sB m) → fz_low A B → fz_m A (fz_m Q P1) = fz_m (fz_m P Q1) B → (∀ n, fz_l (fz_m P Q1) n → fz_l A n) → (∀ n, 1 ≤ n → fz_l (fz_m Q P1) n → fz_l B n) → post (nI (j + 1)) (nI (j + 1), tA, tB, (upd hh j x2), lA, lB, rA, rB, yA, yB, t1, t2, t3)) : wX_apply_109 post 3 x2 (nI (j + 2)) sA sB hh lA lB rA rB zA zB cm rm qt := by
  refine gx_comb_3 (post := _) hP hQ hP1 hQ1 (fz_l_mono lP (by omega)) (fz_l_mono lQ (by omega)) (fun t t' h h' => ?_)
  refine gx_low (post := _) h h' (fz_l_m (m := 12) (n := 12) lP lQ1) (fz_l_m (m := 12) (n := 12) lQ lP1) (fz_m_ne ⟨_, lQ⟩ ⟨_, lP1⟩ nQ nP1) (fun yA yB t1 t2 t3 A B k1 k2 k3 k4 k5 k6 k7 k8 => ?_)
  refine nm_r (e' := nI j) (pk_sub (b := 2) (by omega)) ?_
  refine gx_push (post := _) j hj k1 k2 (fun tA tB m1 m2 m3 m4 => ?_)
  exact K tA tB yA yB t1 t2 t3 A B m1 m2 m3 m4 k5 k6 k7 k8
theorem gx_81 {post : Int32 → SX → Prop} {x2 : Int32} {P Q : Nat → Fin 101} (j h e : Nat) (hj : j < 6) (he : e ≤ 3) (hh12 : e * h ≤ 12) (hP : fz_ar rA P) (hQ : fz_ar rB Q) (lP : fz_l P (h + 1)) (lQ : fz_l Q (h + 1))
    (K : ∀ tA tB yA yB a1 a2, fz_at tA (j * 25) (fz_pw P e) → fz_at tB (j * 25) (fz_pw Q e) → (∀ m, m < j * 25 ∨ j * 25 + 25 ≤ m → tA m = sA m) → (∀ m, m < j * 25 ∨ j * 25 + 25 ≤ m → tB m = sB m) → post (nI (j + 1)) (nI (j + 1), tA, tB, (upd hh j x2), a1, a2, rA, rB, yA, yB, cm, rm, qt)) : ∀ (n i : Nat) (lA lB zA zB : Nat → Int32), e < i + n → i ≤ e → fz_ar zA (fz_pw P i) → fz_ar zB (fz_pw Q i) → wX_power_81 post (nI e) x2 n (nI i) (nI (j + 1)) sA sB hh lA lB rA rB zA zB cm rm qt := by
  intro n
  induction n with
  | zero => intro i lA lB zA zB h1 h2; omega
  | succ n ih =>
    intro i lA lB zA zB h1 h2 hA hB
    by_cases d : i = e
    · subst d
      refine br_t (nI_le (Nat.le_refl i) (by omega)) ?_
      refine nm_r (nI_pred j) ?_
      refine gx_push (post := _) j hj hA hB (fun tA tB m1 m2 m3 m4 => ?_)
      exact K tA tB zA zB lA lB m1 m2 m3 m4
    · refine br_f (nI_ge (by omega) (by omega)) ?_
      have hi : i * h ≤ 12 := Nat.le_trans (Nat.mul_le_mul_right h h2) hh12
      refine gx_copy_zA_lA (post := _) hA (fun t1 k1 => ?_)
      refine gx_copy_zB_lB (post := _) hB (fun t2 k2 => ?_)
      refine gx_comb_2 (post := _) k1 k2 hP hQ (fz_l_mono (fz_pw_l lP i) (by omega)) (fz_l_mono (fz_pw_l lQ i) (by omega)) (fun t3 t4 k3 k4 => ?_)
      refine nm_r (nI_1 i) ?_
      exact ih (i + 1) t1 t2 t3 t4 (by omega) (by omega) k3 k4
end
section
variable {dp : Int32} {ce hy ro le : Nat → Int32}
theorem gy_205 {post : Int32 → SY → Prop} {a b : Nat → Fin 101} (j h h1 : Nat) (hj : j + 1 < 6) (e0 : hy j = nI h) (e1 : hy (j + 1) = nI h1) (ha : fz_at ce (25 * 14) a) (hb : fz_at ce (25 * 15) b)
    (K : ∀ ce', fz_at ce' (25 * (2 * j)) a → fz_at ce' (25 * (2 * j + 1)) b → (∀ s, s < 2 * j → ∀ k, k < 25 → ce' (25 * s + k) = ce (25 * s + k)) → post (nI (j + 1)) (nI (j + 1), ce', upd hy j (nI (h + h1)), ro, le)) : wY_apply_205 post (nI j) (nI (j + 1)) (nI (j + 2)) ce hy ro le := by
  refine gy_take (post := _) j (by omega) rfl ha hb (fun c1 k1 k2 k3 => ?_)
  refine ⟨vp_in_nI (by omega) (by decide), vp_in_nI (by omega) (by decide), vp_in_nI (by omega) (by decide), ?_⟩
  refine nm_r (e' := upd hy j (nI (h + h1))) (by rw [nI_clamp (by omega), nI_clamp (by omega), e0, e1, nI_add]) ?_
  refine nm_r (nI_pred (j + 1)) ?_
  exact K c1 k1 k2 (fun s hs k hk => k3 s (by omega) (by omega) k hk)
theorem gy_e0 (j : Nat) : 2 * nI j = nI (2 * j) := pk_mul 2 j
theorem gy_e1 (j : Nat) : 2 * nI j + 1 = nI (2 * j + 1) := (congrArg (· + 1) (pk_mul 2 j)).trans (nI_1 (2 * j))
theorem gy_75_0 {post : Int32 → SY → Prop} {p q p1 q1 : Nat → Fin 101} (j h h1 : Nat) (hj : j + 1 < 6) (e0 : hy j = nI h) (e1 : hy (j + 1) = nI h1) (hp : fz_at ce (25 * (2 * j)) p) (hq : fz_at ce (25 * (2 * j + 1)) q) (hp1 : fz_at ce (25 * (2 * (j + 1))) p1) (hq1 : fz_at ce (25 * (2 * (j + 1) + 1)) q1)
    (K : ∀ ce', fz_at ce' (25 * (2 * j)) (fz_a (fz_m p q1) (fz_m p1 q)) → fz_at ce' (25 * (2 * j + 1)) (fz_m q q1) → (∀ s, s < 2 * j → ∀ k, k < 25 → ce' (25 * s + k) = ce (25 * s + k)) → post (nI (j + 1)) (nI (j + 1), ce', upd hy j (nI (h + h1)), ro, le)) : wY_apply_75 post 0 (nI j) (nI (j + 1)) (nI (j + 2)) ce hy ro le := by
  refine br_f (by decide) ?_
  refine gy_mul (post := _) (2 * j) (2 * (j + 1) + 1) 14 (by omega) (by omega) (by omega) (by omega) (by omega) (gy_e0 j) (gy_e1 (j + 1)) rfl hp hq1 (fun c1 k1 k2 => ?_)
  refine gy_mul (post := _) (2 * (j + 1)) (2 * j + 1) 16 (by omega) (by omega) (by omega) (by omega) (by omega) (gy_e0 (j + 1)) (gy_e1 j) rfl (fz_fr_at k2 (by omega) hp1) (fz_fr_at k2 (by omega) hq) (fun c2 k3 k4 => ?_)
  refine br_t rfl ?_
  refine gy_add (post := _) 14 16 1 (by omega) (by omega) (by omega) rfl rfl rfl (fz_fr_at k4 (by omega) k1) k3 (fun c3 k5 k6 => ?_)
  have k5' : fz_at c3 (25 * 14) (fz_a (fz_m p q1) (fz_m p1 q)) := by
    rw [fz_m_comm (fz_o 0 1), fz_m_one] at k5
    exact k5
  refine gy_mul (post := _) (2 * j + 1) (2 * (j + 1) + 1) 15 (by omega) (by omega) (by omega) (by omega) (by omega) (gy_e1 j) (gy_e1 (j + 1)) rfl (fz_fr_at k6 (by omega) (fz_fr_at k4 (by omega) (fz_fr_at k2 (by omega) hq))) (fz_fr_at k6 (by omega) (fz_fr_at k4 (by omega) (fz_fr_at k2 (by omega) hq1))) (fun c4 k7 k8 => ?_)
  refine gy_205 j h h1 hj e0 e1 (fz_fr_at k8 (by omega) k5') k7 (fun c5 m1 m2 m3 => ?_)
  refine K c5 m1 m2 (fun s hs k hk => ?_)
  rw [m3 s hs k hk, k8 s (by omega) k hk, k6 s (by omega) k hk, k4 s (by omega) k hk, k2 s (by omega) k hk]
theorem gy_75_1 {post : Int32 → SY → Prop} {p q p1 q1 : Nat → Fin 101} (j h h1 : Nat) (hj : j + 1 < 6) (e0 : hy j = nI h) (e1 : hy (j + 1) = nI h1) (hp : fz_at ce (25 * (2 * j)) p) (hq : fz_at ce (25 * (2 * j + 1)) q) (hp1 : fz_at ce (25 * (2 * (j + 1))) p1) (hq1 : fz_at ce (25 * (2 * (j + 1) + 1)) q1)
    (K : ∀ ce', fz_at ce' (25 * (2 * j)) (fz_d (fz_m p q1) (fz_m p1 q)) → fz_at ce' (25 * (2 * j + 1)) (fz_m q q1) → (∀ s, s < 2 * j → ∀ k, k < 25 → ce' (25 * s + k) = ce (25 * s + k)) → post (nI (j + 1)) (nI (j + 1), ce', upd hy j (nI (h + h1)), ro, le)) : wY_apply_75 post 1 (nI j) (nI (j + 1)) (nI (j + 2)) ce hy ro le := by
  refine br_f (by decide) ?_
  refine gy_mul (post := _) (2 * j) (2 * (j + 1) + 1) 14 (by omega) (by omega) (by omega) (by omega) (by omega) (gy_e0 j) (gy_e1 (j + 1)) rfl hp hq1 (fun c1 k1 k2 => ?_)
  refine gy_mul (post := _) (2 * (j + 1)) (2 * j + 1) 16 (by omega) (by omega) (by omega) (by omega) (by omega) (gy_e0 (j + 1)) (gy_e1 j) rfl (fz_fr_at k2 (by omega) hp1) (fz_fr_at k2 (by omega) hq) (fun c2 k3 k4 => ?_)
  refine br_f (by decide) ?_
  refine gy_add (post := _) 14 16 100 (by omega) (by omega) (by omega) rfl rfl rfl (fz_fr_at k4 (by omega) k1) k3 (fun c3 k5 k6 => ?_)
  have k5' : fz_at c3 (25 * 14) (fz_d (fz_m p q1) (fz_m p1 q)) := by
    rw [fz_o100] at k5
    rw [show fz_d (fz_m p q1) (fz_m p1 q) = fz_a (fz_m p q1) (fz_m (fz_n (fz_o 0 1)) (fz_m p1 q)) from @fz_r_fd _ fz_ring (fz_m p q1) (fz_m p1 q)]
    exact k5
  refine gy_mul (post := _) (2 * j + 1) (2 * (j + 1) + 1) 15 (by omega) (by omega) (by omega) (by omega) (by omega) (gy_e1 j) (gy_e1 (j + 1)) rfl (fz_fr_at k6 (by omega) (fz_fr_at k4 (by omega) (fz_fr_at k2 (by omega) hq))) (fz_fr_at k6 (by omega) (fz_fr_at k4 (by omega) (fz_fr_at k2 (by omega) hq1))) (fun c4 k7 k8 => ?_)
  refine gy_205 j h h1 hj e0 e1 (fz_fr_at k8 (by omega) k5') k7 (fun c5 m1 m2 m3 => ?_)
  refine K c5 m1 m2 (fun s hs k hk => ?_)
  rw [m3 s hs k hk, k8 s (by omega) k hk, k6 s (by omega) k hk, k4 s (by omega) k hk, k2 s (by omega) k hk]
theorem gy_75_2 {post : Int32 → SY → Prop} {p q p1 q1 : Nat → Fin 101} (j h h1 : Nat) (hj : j + 1 < 6) (e0 : hy j = nI h) (e1 : hy (j + 1) = nI h1) (hp : fz_at ce (25 * (2 * j)) p) (hq : fz_at ce (25 * (2 * j + 1)) q) (hp1 : fz_at ce (25 * (2 * (j + 1))) p1) (hq1 : fz_at ce (25 * (2 * (j + 1) + 1)) q1)
    (K : ∀ ce', fz_at ce' (25 * (2 * j)) (fz_m p p1) → fz_at ce' (25 * (2 * j + 1)) (fz_m q q1) → (∀ s, s < 2 * j → ∀ k, k < 25 → ce' (25 * s + k) = ce (25 * s + k)) → post (nI (j + 1)) (nI (j + 1), ce', upd hy j (nI (h + h1)), ro, le)) : wY_apply_75 post 2 (nI j) (nI (j + 1)) (nI (j + 2)) ce hy ro le := by
  refine br_t (by decide) (br_t rfl (br_t rfl ?_))
  refine gy_mul (post := _) (2 * j) (2 * (j + 1)) 14 (by omega) (by omega) (by omega) (by omega) (by omega) (gy_e0 j) (gy_e0 (j + 1)) rfl hp hp1 (fun c1 k1 k2 => ?_)
  refine gy_mul (post := _) (2 * j + 1) (2 * (j + 1) + 1) 15 (by omega) (by omega) (by omega) (by omega) (by omega) (gy_e1 j) (gy_e1 (j + 1)) rfl (fz_fr_at k2 (by omega) hq) (fz_fr_at k2 (by omega) hq1) (fun c2 k3 k4 => ?_)
  refine gy_205 j h h1 hj e0 e1 (fz_fr_at k4 (by omega) k1) k3 (fun c5 m1 m2 m3 => ?_)
  refine K c5 m1 m2 (fun s hs k hk => ?_)
  rw [m3 s hs k hk, k4 s (by omega) k hk, k2 s (by omega) k hk]
theorem gy_75_3 {post : Int32 → SY → Prop} {p q p1 q1 : Nat → Fin 101} (j h h1 : Nat) (hj : j + 1 < 6) (e0 : hy j = nI h) (e1 : hy (j + 1) = nI h1) (hp : fz_at ce (25 * (2 * j)) p) (hq : fz_at ce (25 * (2 * j + 1)) q) (hp1 : fz_at ce (25 * (2 * (j + 1))) p1) (hq1 : fz_at ce (25 * (2 * (j + 1) + 1)) q1)
    (K : ∀ ce', fz_at ce' (25 * (2 * j)) (fz_m p q1) → fz_at ce' (25 * (2 * j + 1)) (fz_m q p1) → (∀ s, s < 2 * j → ∀ k, k < 25 → ce' (25 * s + k) = ce (25 * s + k)) → post (nI (j + 1)) (nI (j + 1), ce', upd hy j (nI (h + h1)), ro, le)) : wY_apply_75 post 3 (nI j) (nI (j + 1)) (nI (j + 2)) ce hy ro le := by
  refine br_t (by decide) (br_f (by decide) (br_f (by decide) ?_))
  refine gy_mul (post := _) (2 * j) (2 * (j + 1) + 1) 14 (by omega) (by omega) (by omega) (by omega) (by omega) (gy_e0 j) (gy_e1 (j + 1)) rfl hp hq1 (fun c1 k1 k2 => ?_)
  refine gy_mul (post := _) (2 * j + 1) (2 * (j + 1)) 15 (by omega) (by omega) (by omega) (by omega) (by omega) (gy_e1 j) (gy_e0 (j + 1)) rfl (fz_fr_at k2 (by omega) hq) (fz_fr_at k2 (by omega) hp1) (fun c2 k3 k4 => ?_)
  refine gy_205 j h h1 hj e0 e1 (fz_fr_at k4 (by omega) k1) k3 (fun c5 m1 m2 m3 => ?_)
  refine K c5 m1 m2 (fun s hs k hk => ?_)
  rw [m3 s hs k hk, k4 s (by omega) k hk, k2 s (by omega) k hk]
theorem gy_60 {post : Int32 → SY → Prop} {p q : Nat → Fin 101} (j h e : Nat) (hj : j < 6) (he : e ≤ 3) (eh : hy j = nI h) (hp : fz_at ce (25 * (2 * j)) p) (hq : fz_at ce (25 * (2 * j + 1)) q)
    (K : ∀ ce', fz_at ce' (25 * (2 * j)) (fz_pw p e) → fz_at ce' (25 * (2 * j + 1)) (fz_pw q e) → (∀ s, s < 2 * j → ∀ k, k < 25 → ce' (25 * s + k) = ce (25 * s + k)) → post dp (dp, ce', upd hy j (nI (e * h)), ro, le)) : ∀ (n i : Nat) (ce1 : Nat → Int32), e < i + n → i ≤ e → fz_at ce1 (25 * 14) (fz_pw p i) → fz_at ce1 (25 * 15) (fz_pw q i) → fz_f12 ce ce1 → wY_power_60 post (nI e) (nI j) n (nI i) dp ce1 hy ro le := by
  intro n
  induction n with
  | zero => intro i ce1 h1 h2; omega
  | succ n ih =>
    intro i ce1 h1 h2 hA hB f12
    by_cases d : i = e
    · subst d
      refine br_t (nI_le (Nat.le_refl i) (by omega)) ?_
      refine gy_take (post := _) j (by omega) rfl hA hB (fun c1 k1 k2 k3 => ?_)
      refine ⟨vp_in_nI (by omega) (by decide), vp_in_nI (by omega) (by decide), ?_⟩
      refine nm_r (e' := upd hy j (nI (i * h))) (by rw [nI_clamp (by omega), eh, pk_mul]) ?_
      exact K c1 k1 k2 (fun s hs k hk => (k3 s (by omega) (by omega) k hk).trans (f12 s (by omega) k hk))
    · refine br_f (nI_ge (by omega) (by omega)) ?_
      refine gy_mul (post := _) 14 (2 * j) 16 (by omega) (by omega) (by omega) (by omega) (by omega) rfl (gy_e0 j) rfl hA (fz_f12_at f12 (by omega) hp) (fun c1 k1 k2 => ?_)
      refine gy_copy (post := _) 16 14 (by omega) (by omega) (by omega) rfl rfl k1 (fun c2 k3 k4 => ?_)
      refine gy_mul (post := _) 15 (2 * j + 1) 16 (by omega) (by omega) (by omega) (by omega) (by omega) rfl (gy_e1 j) rfl (fz_fr_at k4 (by omega) (fz_fr_at k2 (by omega) hB)) (fz_fr_at k4 (by omega) (fz_fr_at k2 (by omega) (fz_f12_at f12 (by omega) hq))) (fun c3 k5 k6 => ?_)
      refine gy_copy (post := _) 16 15 (by omega) (by omega) (by omega) rfl rfl k5 (fun c4 k7 k8 => ?_)
      refine nm_r (nI_1 i) ?_
      refine ih (i + 1) c4 (by omega) (by omega) (fz_fr_at k8 (by omega) (fz_fr_at k6 (by omega) k3)) k7 ?_
      exact fz_f12_tr f12 (fz_f12_tr (fz_f12_fr k2 (by omega)) (fz_f12_tr (fz_f12_fr k4 (by omega)) (fz_f12_tr (fz_f12_fr k6 (by omega)) (fz_f12_fr k8 (by omega)))))
end
