/-! what is owed, first part (written by wip/whole/gen_x5.py) -/
theorem gr_num (x : Int32) : x < 0 ∨ (∃ j, 101 ≤ j ∧ j < 2 ^ 31 ∧ x = nI j) ∨ ∃ a, x = fz_c a := by
  by_cases h : x < 0
  · exact Or.inl h
  · obtain ⟨j, hj, rfl⟩ := nI_of h
    by_cases c : j < 101
    · exact Or.inr (Or.inr ⟨⟨j, c⟩, rfl⟩)
    · exact Or.inr (Or.inl ⟨j, by omega, hj, rfl⟩)
theorem gx_isn_0 {post : Int32 → Prop} {x : Int32} (h : x < 0 ∨ ∃ j, 101 ≤ j ∧ j < 2 ^ 31 ∧ x = nI j) (K : post 0) : wpX_isNumber post x := by
  rcases h with h | ⟨j, h1, h2, rfl⟩
  · exact br_t h K
  · exact br_f (nI_pos h2) (br_t (nI_le (a := 101) h1 h2) K)
theorem gx_isn_1 {post : Int32 → Prop} (a : Fin 101) (K : post 1) : wpX_isNumber post (fz_c a) := br_f (fz_c_ge a) (br_f (nI_ge (b := 101) a.isLt (by decide)) K)
theorem gy_isn_0 {post : Int32 → Prop} {u : SY} {x : Int32} (h : x < 0 ∨ ∃ j, 101 ≤ j ∧ j < 2 ^ 31 ∧ x = nI j) (K : post 0) : wpY_isNumber post u x := by
  obtain ⟨dp, ce, hy, ro, le⟩ := u
  rcases h with h | ⟨j, h1, h2, rfl⟩
  · exact br_t h K
  · exact br_f (nI_pos h2) (br_t (nI_lt (a := 100) (by omega) h2) K)
theorem gy_isn_1 {post : Int32 → Prop} {u : SY} (a : Fin 101) (K : post 1) : wpY_isNumber post u (fz_c a) := by
  obtain ⟨dp, ce, hy, ro, le⟩ := u
  exact br_f (fz_c_ge a) (br_f (nI_nlt (a := 100) (by omega) (by decide)) K)
theorem gr_f_const (v : Fin 101) : gr_fr (fz_o 0 v) (fz_o 0 1) (fz_o 0 v) (fz_o 0 1) 0 :=
  ⟨by omega, fz_l_o (by omega), fz_l_o (by omega), fz_l_o (by omega), fz_l_o (by omega), fz_low_1 (fz_p_o 0 v), fz_low_nQ fz_low_01, rfl⟩
theorem gr_f_var : gr_fr (fz_o 1 1) (fz_o 0 1) (fz_o 1 1) (fz_o 0 1) 1 :=
  ⟨by omega, fz_l_o (by omega), fz_l_o (by omega), fz_l_o (by omega), fz_l_o (by omega), fz_low_1 (fz_p_o 1 1), fz_low_nQ fz_low_01, rfl⟩
theorem gr_o1 : ∀ k, k ≠ 1 → fz_o 1 1 k = fz_o 0 0 k := fun k hk => by
  rw [fz_o00]
  show (if k = 1 then (1 : Fin 101) else 0) = 0
  rw [if_neg hk]
theorem gr_ne6 {d : Nat} (h : d < 6) : ¬ nI d = 6 := by
  rw [show (6 : Int32) = nI 6 from rfl, nI_eq (by omega) (by omega)]
  omega

theorem i_vc_variable {k : Nat} {u : SX} {v : SY} (I : i_Rel k u v) (hk : k + 3 ≤ 1536) : wpX_variable (fun r u' => wpY_variable (fun r' v' => r' = r ∧ i_Rel (k + 3) u' v') v) u := by
  obtain ⟨c, sA, sB, hh, lA, lB, rA, rB, zA, zB, cm, rm, qt⟩ := u
  obtain ⟨dp, ce, hy, ro, le⟩ := v
  have I0 := I
  obtain ⟨d, hd, e1, e2, hs⟩ := I
  dsimp only at e1 e2 hs
  subst e1 e2
  by_cases h6 : d < 6
  · refine br_t (nI_lt (b := 6) h6 (by decide)) ?_
    refine gx_set_zA (post := _) 0 (fun t1 k1 => ?_)
    refine nm_e ?_
    refine gx_set_zB (post := _) 1 (fun t2 k2 => ?_)
    refine gx_push (post := _) (f := fz_o 1 1) d h6 (fz_ar_up k1 rfl gr_o1) k2 (fun tA tB m1 m2 m3 m4 => ?_)
    refine br_f (gr_ne6 h6) ?_
    refine gy_set (post := _) (2 * d) 0 (by omega) (gy_e0 d) rfl (fun c1 a1 a2 => ?_)
    refine gy_put (post := _) (2 * d) 1 1 (by omega) (by omega) (gy_e0 d) rfl (by decide) ?_
    refine gy_set (post := _) (2 * d + 1) 1 (by omega) (gy_e1 d) rfl (fun c2 a3 a4 => ?_)
    refine gy_push (post := _) d (by omega) ⟨rfl, d + 1, by omega, rfl, rfl, ?_⟩
    refine gr_new d hs gr_f_var pk_us pk_us (fun i hi => pk_un (by omega)) (fun i hi => pk_un (by omega)) m1 m2 m3 m4 (fz_fr_at a4 (by omega) (fz_at_up a1 rfl gr_o1)) a3 (fun s hs k hk => ?_)
    dsimp only
    rw [a4 s (by omega) k hk, pk_un (by omega), a2 s (by omega) k hk]
  · have d6 : d = 6 := by omega
    subst d6
    exact br_f (by decide) (br_t rfl ⟨rfl, I0⟩)
theorem i_vc_constant {k : Nat} {u : SX} {v : SY} (I : i_Rel k u v) (hk : k + 3 ≤ 1536) (v1 : Int32) : wpX_constant (fun r u' => wpY_constant (fun r' v' => r' = r ∧ i_Rel (k + 3) u' v') v v1) u v1 := by
  obtain ⟨c, sA, sB, hh, lA, lB, rA, rB, zA, zB, cm, rm, qt⟩ := u
  obtain ⟨dp, ce, hy, ro, le⟩ := v
  have I0 := I
  obtain ⟨d, hd, e1, e2, hs⟩ := I
  dsimp only at e1 e2 hs
  subst e1 e2
  rcases gr_num v1 with h | h | ⟨a, rfl⟩
  · unfold wpX_constant
    refine gx_isn_0 (post := _) (Or.inl h) ?_
    exact br_t rfl (br_t h ⟨rfl, I0⟩)
  · unfold wpX_constant
    refine gx_isn_0 (post := _) (Or.inr h) ?_
    refine br_t rfl ?_
    obtain ⟨j, h1, h2, rfl⟩ := h
    exact br_f (nI_pos h2) (br_f (nI_ge (a := 100) (by omega) h2) ⟨rfl, I0⟩)
  · unfold wpX_constant
    refine gx_isn_1 (post := _) a ?_
    refine br_f (by decide) ?_
    by_cases h6 : d < 6
    · refine br_t (nI_lt (b := 6) h6 (by decide)) ?_
      refine gx_set_zA (post := _) a (fun t1 k1 => ?_)
      refine gx_set_zB (post := _) 1 (fun t2 k2 => ?_)
      refine gx_push (post := _) d h6 k1 k2 (fun tA tB m1 m2 m3 m4 => ?_)
      refine br_f (fz_c_ge a) (br_t (nI_le (b := 100) (by omega) (by decide)) (br_f (gr_ne6 h6) ?_))
      refine gy_set (post := _) (2 * d) a (by omega) (gy_e0 d) rfl (fun c1 a1 a2 => ?_)
      refine gy_set (post := _) (2 * d + 1) 1 (by omega) (gy_e1 d) rfl (fun c2 a3 a4 => ?_)
      refine gy_push (post := _) d (by omega) ⟨rfl, d + 1, by omega, rfl, rfl, ?_⟩
      refine gr_new d hs (gr_f_const a) pk_us pk_us (fun i hi => pk_un (by omega)) (fun i hi => pk_un (by omega)) m1 m2 m3 m4 (fz_fr_at a4 (by omega) a1) a3 (fun s hs k hk => ?_)
      dsimp only
      rw [a4 s (by omega) k hk, a2 s (by omega) k hk]
    · have d6 : d = 6 := by omega
      subst d6
      exact br_f (by decide) (br_f (fz_c_ge a) (br_t (nI_le (b := 100) (by omega) (by decide)) (br_t rfl ⟨rfl, I0⟩)))
section
variable {c : Int32} {sA sB hh lA lB rA rB zA zB cm rm qt : Nat → Int32}
theorem gx_apply_go {post : Int32 → SX → Prop} {P Q P1 Q1 : Nat → Fin 101} (op m h h1 : Nat) (ho : op < 3) (hm : m + 1 < 6) (hh12 : h + h1 ≤ 12) (e0 : hh m = nI h) (e1 : hh (m + 1) = nI h1) (hP : fz_at sA (m * 25) P) (hQ : fz_at sB (m * 25) Q) (hP1 : fz_at sA ((m + 1) * 25) P1) (hQ1 : fz_at sB ((m + 1) * 25) Q1)
    (K : ∀ a1 a2 a3 a4, fz_ar a1 P → fz_ar a2 Q → fz_ar a3 P1 → fz_ar a4 Q1 → wX_apply_109 post (nI op) (nI (h + h1)) (nI (m + 2)) sA sB hh a1 a2 a3 a4 zA zB cm rm qt) : wpX_apply post (nI (m + 2), sA, sB, hh, lA, lB, rA, rB, zA, zB, cm, rm, qt) (nI op) := by
  have eA : nI (m + 2) - 2 = nI m := pk_sub (b := 2) (by omega)
  have eB : nI (m + 2) - 1 = nI (m + 1) := nI_pred (m + 1)
  refine br_f (nI_pos (by omega)) (br_t (nI_le (b := 3) (by omega) (by decide)) (br_t (nI_le (a := 2) (by omega) (by omega)) ?_))
  rw [eA, eB]
  refine ⟨vp_in_nI (by omega) (by decide), vp_in_nI (by omega) (by decide), ?_⟩
  refine nm_r (e' := nI (h + h1)) (by rw [nI_clamp (by omega), nI_clamp (by omega), e0, e1, nI_add]) ?_
  refine br_t (nI_le (b := 12) (by omega) (by decide)) ?_
  refine gx_load_lA_lB (post := _) m (by omega) hP hQ (fun a1 a2 k1 k2 => ?_)
  dsimp only
  rw [eB]
  refine gx_load_rA_rB (post := _) (m + 1) (by omega) hP1 hQ1 (fun a3 a4 k3 k4 => ?_)
  refine br_f (by rw [show (3 : Int32) = nI 3 from rfl, nI_eq (by omega) (by omega)]; omega) ?_
  exact K a1 a2 a3 a4 k1 k2 k3 k4
theorem gx_apply_3 {post : Int32 → SX → Prop} {P Q P1 Q1 : Nat → Fin 101} (m h h1 : Nat) (hm : m + 1 < 6) (hh12 : h + h1 ≤ 12) (e0 : hh m = nI h) (e1 : hh (m + 1) = nI h1) (hP : fz_at sA (m * 25) P) (hQ : fz_at sB (m * 25) Q) (hP1 : fz_at sA ((m + 1) * 25) P1) (hQ1 : fz_at sB ((m + 1) * 25) Q1) (lP1 : fz_l P1 25)
    (K0 : P1 = fz_o 0 0 → ∀ a1 a2 a3 a4, post (-4) (nI (m + 2), sA, sB, hh, a1, a2, a3, a4, zA, zB, cm, rm, qt))
    (K : P1 ≠ fz_o 0 0 → ∀ a1 a2 a3 a4, fz_ar a1 P → fz_ar a2 Q → fz_ar a3 P1 → fz_ar a4 Q1 → wX_apply_109 post 3 (nI (h + h1)) (nI (m + 2)) sA sB hh a1 a2 a3 a4 zA zB cm rm qt) : wpX_apply post (nI (m + 2), sA, sB, hh, lA, lB, rA, rB, zA, zB, cm, rm, qt) 3 := by
  have eA : nI (m + 2) - 2 = nI m := pk_sub (b := 2) (by omega)
  have eB : nI (m + 2) - 1 = nI (m + 1) := nI_pred (m + 1)
  refine br_f (by decide) (br_t (by decide) (br_t (nI_le (a := 2) (by omega) (by omega)) ?_))
  rw [eA, eB]
  refine ⟨vp_in_nI (by omega) (by decide), vp_in_nI (by omega) (by decide), ?_⟩
  refine nm_r (e' := nI (h + h1)) (by rw [nI_clamp (by omega), nI_clamp (by omega), e0, e1, nI_add]) ?_
  refine br_t (nI_le (b := 12) (by omega) (by decide)) ?_
  refine gx_load_lA_lB (post := _) m (by omega) hP hQ (fun a1 a2 k1 k2 => ?_)
  dsimp only
  rw [eB]
  refine gx_load_rA_rB (post := _) (m + 1) (by omega) hP1 hQ1 (fun a3 a4 k3 k4 => ?_)
  refine br_t rfl ?_
  refine gx_zero_rA (post := _) k3 lP1 (fun z => ?_) (fun z => ?_)
  · exact br_f (by decide) (K0 z a1 a2 a3 a4)
  · exact br_t rfl (K z a1 a2 a3 a4 k1 k2 k3 k4)
end
section
variable {dp : Int32} {ce hy ro le : Nat → Int32}
theorem gy_apply_go {post : Int32 → SY → Prop} (op m h h1 : Nat) (ho : op < 3) (hm : m + 1 < 6) (hh12 : h + h1 ≤ 12) (e0 : hy m = nI h) (e1 : hy (m + 1) = nI h1) (K : wY_apply_75 post (nI op) (nI m) (nI (m + 1)) (nI (m + 2)) ce hy ro le) : wpY_apply post (nI (m + 2), ce, hy, ro, le) (nI op) := by
  refine br_f (nI_pos (by omega)) (br_t (nI_le (b := 3) (by omega) (by decide)) (br_t (nI_le (a := 2) (by omega) (by omega)) ?_))
  refine nm_r (e' := nI m) (pk_sub (b := 2) (by omega)) ?_
  refine nm_r (e' := nI (m + 1)) (nI_pred (m + 1)) ?_
  refine ⟨vp_in_nI (by omega) (by decide), vp_in_nI (by omega) (by decide), ?_⟩
  rw [nI_clamp (by omega), nI_clamp (by omega), e0, e1, nI_add]
  refine br_t (nI_le (b := 12) (by omega) (by decide)) ?_
  exact br_f (by rw [show (3 : Int32) = nI 3 from rfl, nI_eq (by omega) (by omega)]; omega) K
theorem gy_apply_3 {post : Int32 → SY → Prop} {p1 : Nat → Fin 101} (m h h1 : Nat) (hm : m + 1 < 6) (hh12 : h + h1 ≤ 12) (e0 : hy m = nI h) (e1 : hy (m + 1) = nI h1) (hp1 : fz_at ce (25 * (2 * (m + 1))) p1) (lp1 : fz_l p1 25) (K0 : p1 = fz_o 0 0 → post (-4) (nI (m + 2), ce, hy, ro, le)) (K : p1 ≠ fz_o 0 0 → wY_apply_75 post 3 (nI m) (nI (m + 1)) (nI (m + 2)) ce hy ro le) : wpY_apply post (nI (m + 2), ce, hy, ro, le) 3 := by
  refine br_f (by decide) (br_t (by decide) (br_t (nI_le (a := 2) (by omega) (by omega)) ?_))
  refine nm_r (e' := nI m) (pk_sub (b := 2) (by omega)) ?_
  refine nm_r (e' := nI (m + 1)) (nI_pred (m + 1)) ?_
  refine ⟨vp_in_nI (by omega) (by decide), vp_in_nI (by omega) (by decide), ?_⟩
  rw [nI_clamp (by omega), nI_clamp (by omega), e0, e1, nI_add]
  refine br_t (nI_le (b := 12) (by omega) (by decide)) (br_t rfl ?_)
  refine gy_deg (post := _) (2 * (m + 1)) (by omega) (gy_e0 (m + 1)) hp1 lp1 (fun z => ?_) (fun i hi he => ?_)
  · exact br_f (by decide) (K0 z)
  · exact br_t (nI_pos' (by omega)) (K (fz_e_ne he))
end
theorem gr_apply {k : Nat} {sA sB hh lA lB rA rB zA zB cm rm qt ce hy ro le : Nat → Int32} {P Q p q P1 Q1 p1 q1 : Nat → Fin 101} {m h h1 : Nat} (I0 : i_Rel k (nI (m + 2), sA, sB, hh, lA, lB, rA, rB, zA, zB, cm, rm, qt) (nI (m + 2), ce, hy, ro, le)) (hs : ∀ i, i < m + 2 → gr_sl sA sB hh ce hy i) (F : gr_fr P Q p q h) (F1 : gr_fr P1 Q1 p1 q1 h1) (x0 : hh m = nI h) (y0 : hy m = nI h) (x1 : hh (m + 1) = nI h1) (y1 : hy (m + 1) = nI h1)
    (hP : fz_at sA (m * 25) P) (hQ : fz_at sB (m * 25) Q) (hp : fz_at ce (25 * (2 * m)) p) (hq : fz_at ce (25 * (2 * m + 1)) q) (hP1 : fz_at sA ((m + 1) * 25) P1) (hQ1 : fz_at sB ((m + 1) * 25) Q1) (hp1 : fz_at ce (25 * (2 * (m + 1))) p1) (hq1 : fz_at ce (25 * (2 * (m + 1) + 1)) q1) (hh12 : h + h1 ≤ 12) (hm : m + 1 < 6) (op : Nat) (h3 : op ≤ 3)
    (lP : fz_l P 13) (lQ : fz_l Q 13) (lp : fz_l p 13) (lq : fz_l q 13) (lP1 : fz_l P1 13) (lQ1 : fz_l Q1 13) (lp1 : fz_l p1 13) (lq1 : fz_l q1 13) (nQ : Q ≠ fz_o 0 0) (nQ1 : Q1 ≠ fz_o 0 0) :
    wpX_apply (fun r u' => wpY_apply (fun r' v' => r' = r ∧ i_Rel (k + 3) u' v') (nI (m + 2), ce, hy, ro, le) (nI op)) (nI (m + 2), sA, sB, hh, lA, lB, rA, rB, zA, zB, cm, rm, qt) (nI op) := by
  have h4 : op = 0 ∨ op = 1 ∨ op = 2 ∨ op = 3 := by omega
  rcases h4 with rfl | rfl | rfl | rfl
  · refine gx_apply_go (post := _) 0 m h h1 (by omega) (by omega) hh12 x0 x1 hP hQ hP1 hQ1 (fun a1 a2 a3 a4 k1 k2 k3 k4 => ?_)
    refine gx_109_0 m (by omega) k1 k2 k3 k4 lP lQ lP1 lQ1 nQ nQ1 (fun tA tB yA yB t1 t2 t3 A B b1 b2 b3 b4 b5 b6 b7 b8 => ?_)
    refine gy_apply_go (post := _) 0 m h h1 (by omega) (by omega) hh12 y0 y1 ?_
    refine gy_75_0 m h h1 (by omega) y0 y1 hp hq hp1 hq1 (fun c1 d1 d2 d3 => ?_)
    refine ⟨rfl, m + 1, by omega, rfl, rfl, ?_⟩
    exact gr_new m (fun i hi => hs i (by omega)) (gr_add F F1 hh12 b5 b6 b7 b8) pk_us pk_us (fun i hi => pk_un (by omega)) (fun i hi => pk_un (by omega)) b1 b2 b3 b4 d1 d2 d3
  · refine gx_apply_go (post := _) 1 m h h1 (by omega) (by omega) hh12 x0 x1 hP hQ hP1 hQ1 (fun a1 a2 a3 a4 k1 k2 k3 k4 => ?_)
    refine gx_109_1 m (by omega) k1 k2 k3 k4 lP lQ lP1 lQ1 nQ nQ1 (fun tA tB yA yB t1 t2 t3 A B b1 b2 b3 b4 b5 b6 b7 b8 => ?_)
    refine gy_apply_go (post := _) 1 m h h1 (by omega) (by omega) hh12 y0 y1 ?_
    refine gy_75_1 m h h1 (by omega) y0 y1 hp hq hp1 hq1 (fun c1 d1 d2 d3 => ?_)
    refine ⟨rfl, m + 1, by omega, rfl, rfl, ?_⟩
    exact gr_new m (fun i hi => hs i (by omega)) (gr_sub F F1 hh12 b5 b6 b7 b8) pk_us pk_us (fun i hi => pk_un (by omega)) (fun i hi => pk_un (by omega)) b1 b2 b3 b4 d1 d2 d3
  · refine gx_apply_go (post := _) 2 m h h1 (by omega) (by omega) hh12 x0 x1 hP hQ hP1 hQ1 (fun a1 a2 a3 a4 k1 k2 k3 k4 => ?_)
    refine gx_109_2 m (by omega) k1 k2 k3 k4 lP lQ lP1 lQ1 nQ nQ1 (fun tA tB yA yB t1 t2 t3 A B b1 b2 b3 b4 b5 b6 b7 b8 => ?_)
    refine gy_apply_go (post := _) 2 m h h1 (by omega) (by omega) hh12 y0 y1 ?_
    refine gy_75_2 m h h1 (by omega) y0 y1 hp hq hp1 hq1 (fun c1 d1 d2 d3 => ?_)
    refine ⟨rfl, m + 1, by omega, rfl, rfl, ?_⟩
    exact gr_new m (fun i hi => hs i (by omega)) (gr_mul F F1 hh12 b5 b6 b7 b8) pk_us pk_us (fun i hi => pk_un (by omega)) (fun i hi => pk_un (by omega)) b1 b2 b3 b4 d1 d2 d3
  · have ziff := fz_zero_iff F1.2.2.2.2.2.1.1 ⟨_, lQ1⟩ ⟨_, lp1⟩ ⟨_, lq1⟩ nQ1 F1.2.2.2.2.2.2.1 F1.2.2.2.2.2.2.2
    refine gx_apply_3 (post := _) m h h1 (by omega) hh12 x0 x1 hP hQ hP1 hQ1 (fz_l_mono lP1 (by omega)) (fun z a1 a2 a3 a4 => ?_) (fun z a1 a2 a3 a4 k1 k2 k3 k4 => ?_)
    · exact gy_apply_3 (post := _) m h h1 (by omega) hh12 y0 y1 hp1 (fz_l_mono lp1 (by omega)) (fun _ => ⟨rfl, I0⟩) (fun z' => absurd (ziff.mp z) z')
    refine gx_109_3 m (by omega) k1 k2 k3 k4 lP lQ lP1 lQ1 nQ z (fun tA tB yA yB t1 t2 t3 A B b1 b2 b3 b4 b5 b6 b7 b8 => ?_)
    refine gy_apply_3 (post := _) m h h1 (by omega) hh12 y0 y1 hp1 (fz_l_mono lp1 (by omega)) (fun z' => absurd (ziff.mpr z') z) (fun z' => ?_)
    refine gy_75_3 m h h1 (by omega) y0 y1 hp hq hp1 hq1 (fun c1 d1 d2 d3 => ?_)
    refine ⟨rfl, m + 1, by omega, rfl, rfl, ?_⟩
    exact gr_new m (fun i hi => hs i (by omega)) (gr_quo F F1 z z' hh12 b5 b6 b7 b8) pk_us pk_us (fun i hi => pk_un (by omega)) (fun i hi => pk_un (by omega)) b1 b2 b3 b4 d1 d2 d3
theorem i_vc_apply {k : Nat} {u : SX} {v : SY} (I : i_Rel k u v) (hk : k + 3 ≤ 1536) (v1 : Int32) : wpX_apply (fun r u' => wpY_apply (fun r' v' => r' = r ∧ i_Rel (k + 3) u' v') v v1) u v1 := by
  obtain ⟨c, sA, sB, hh, lA, lB, rA, rB, zA, zB, cm, rm, qt⟩ := u
  obtain ⟨dp, ce, hy, ro, le⟩ := v
  have I0 := I
  obtain ⟨d, hd, e1, e2, hs⟩ := I
  dsimp only at e1 e2 hs
  subst e1 e2
  by_cases h0 : v1 < 0
  · exact br_t h0 (br_t h0 ⟨rfl, I0⟩)
  obtain ⟨op, hop, rfl⟩ := nI_of h0
  by_cases h3 : op ≤ 3
  · have b3 : nI op ≤ (3 : Int32) := nI_le (b := 3) h3 (by decide)
    by_cases h2 : 2 ≤ d
    · obtain ⟨m, rfl⟩ : ∃ m, d = m + 2 := ⟨d - 2, by omega⟩
      obtain ⟨h, P, Q, p, q, F, x0, y0, hP, hQ, hp, hq⟩ := hs m (by omega)
      obtain ⟨h1, P1, Q1, p1, q1, F1, x1, y1, hP1, hQ1, hp1, hq1⟩ := hs (m + 1) (by omega)
      have l12 := F.1
      have l12' := F1.1
      by_cases hh12 : h + h1 ≤ 12
      · obtain ⟨lP, lQ, lp, lq⟩ := gr_fr12 (n := 13) F (by omega)
        obtain ⟨lP1, lQ1, lp1, lq1⟩ := gr_fr12 (n := 13) F1 (by omega)
        have nQ := fz_low_nQ F.2.2.2.2.2.1
        have nQ1 := fz_low_nQ F1.2.2.2.2.2.1
        exact gr_apply I0 hs F F1 x0 y0 x1 y1 hP hQ hp hq hP1 hQ1 hp1 hq1 hh12 (by omega) op h3 lP lQ lp lq lP1 lQ1 lp1 lq1 nQ nQ1
      · have eA : nI (m + 2) - 2 = nI m := pk_sub (b := 2) (by omega)
        have eB : nI (m + 2) - 1 = nI (m + 1) := nI_pred (m + 1)
        refine br_f h0 (br_t b3 (br_t (nI_le (a := 2) (by omega) (by omega)) ?_))
        rw [eA, eB]
        refine ⟨vp_in_nI (by omega) (by decide), vp_in_nI (by omega) (by decide), ?_⟩
        refine nm_r (e' := nI (h + h1)) (by rw [nI_clamp (by omega), nI_clamp (by omega), x0, x1, nI_add]) ?_
        refine br_f (nI_ge (a := 12) (by omega) (by omega)) ?_
        refine br_f h0 (br_t b3 (br_t (nI_le (a := 2) (by omega) (by omega)) ?_))
        refine nm_r (e' := nI m) eA ?_
        refine nm_r (e' := nI (m + 1)) eB ?_
        refine ⟨vp_in_nI (by omega) (by decide), vp_in_nI (by omega) (by decide), ?_⟩
        rw [nI_clamp (by omega), nI_clamp (by omega), y0, y1, nI_add]
        exact br_f (nI_ge (a := 12) (by omega) (by omega)) ⟨rfl, I0⟩
    · have n2 : ¬ (2 : Int32) ≤ nI d := nI_ge (b := 2) (by omega) (by decide)
      exact br_f h0 (br_t b3 (br_f n2 (br_f h0 (br_t b3 (br_f n2 ⟨rfl, I0⟩)))))
  · have b3 : ¬ nI op ≤ (3 : Int32) := nI_ge (a := 3) (by omega) hop
    exact br_f h0 (br_f b3 (br_f h0 (br_f b3 ⟨rfl, I0⟩)))
theorem i_vc_power {k : Nat} {u : SX} {v : SY} (I : i_Rel k u v) (hk : k + 3 ≤ 1536) (v1 : Int32) : wpX_power (fun r u' => wpY_power (fun r' v' => r' = r ∧ i_Rel (k + 3) u' v') v v1) u v1 := by
  obtain ⟨c, sA, sB, hh, lA, lB, rA, rB, zA, zB, cm, rm, qt⟩ := u
  obtain ⟨dp, ce, hy, ro, le⟩ := v
  have I0 := I
  obtain ⟨d, hd, e1, e2, hs⟩ := I
  dsimp only at e1 e2 hs
  subst e1 e2
  by_cases h0 : v1 < 0
  · exact br_t h0 (br_t h0 ⟨rfl, I0⟩)
  obtain ⟨e, he, rfl⟩ := nI_of h0
  by_cases h3 : e ≤ 3
  · have b3 : nI e ≤ (3 : Int32) := nI_le (b := 3) h3 (by decide)
    by_cases h1 : 1 ≤ d
    · obtain ⟨m, rfl⟩ : ∃ m, d = m + 1 := ⟨d - 1, by omega⟩
      obtain ⟨h, P, Q, p, q, F, x0, y0, hP, hQ, hp, hq⟩ := hs m (by omega)
      have l12 := F.1
      have eB : nI (m + 1) - 1 = nI m := nI_pred m
      have le36 : e * h ≤ 3 * 12 := Nat.mul_le_mul h3 l12
      by_cases hh12 : e * h ≤ 12
      · refine br_f h0 (br_t b3 (br_t (nI_le (a := 1) (by omega) (by omega)) ?_))
        rw [eB]
        refine ⟨vp_in_nI (by omega) (by decide), ?_⟩
        refine nm_r (e' := nI (e * h)) (by rw [nI_clamp (by omega), x0, pk_mul]) ?_
        refine br_t (nI_le (b := 12) (by omega) (by decide)) ?_
        refine gx_load_rA_rB (post := _) m (by omega) hP hQ (fun a1 a2 k1 k2 => ?_)
        refine gx_set_zA (post := _) 1 (fun a3 k3 => ?_)
        refine gx_set_zB (post := _) 1 (fun a4 k4 => ?_)
        refine ⟨4, gx_81 m h e (by omega) h3 hh12 k1 k2 F.2.1 F.2.2.1 (fun tA tB yA yB c1 c2 b1 b2 b3' b4 => ?_) 4 0 lA lB a3 a4 (by omega) (by omega) k3 k4⟩
        refine br_f h0 (br_t b3 (br_f (nI_ne0 (by omega) (by omega)) ?_))
        refine nm_r (e' := nI m) eB ?_
        refine ⟨vp_in_nI (by omega) (by decide), ?_⟩
        rw [nI_clamp (by omega), y0, pk_mul]
        refine br_t (nI_le (b := 12) (by omega) (by decide)) ?_
        refine gy_set (post := _) 14 1 (by omega) rfl rfl (fun e1 f1 f2 => ?_)
        refine gy_set (post := _) 15 1 (by omega) rfl rfl (fun e2 f3 f4 => ?_)
        refine ⟨4, gy_60 (ce := ce) m h e (by omega) h3 y0 hp hq (fun e3 g1 g2 g3 => ?_) 4 0 e2 (by omega) (by omega) (fz_fr_at f4 (by omega) f1) f3 (fz_f12_tr (fz_f12_fr f2 (by omega)) (fz_f12_fr f4 (by omega)))⟩
        refine ⟨rfl, m + 1, by omega, rfl, rfl, ?_⟩
        exact gr_new m (fun i hi => hs i (by omega)) (gr_pow F e hh12) pk_us pk_us (fun i hi => pk_un (by omega)) (fun i hi => pk_un (by omega)) b1 b2 b3' b4 g1 g2 g3
      · refine br_f h0 (br_t b3 (br_t (nI_le (a := 1) (by omega) (by omega)) ?_))
        rw [eB]
        refine ⟨vp_in_nI (by omega) (by decide), ?_⟩
        refine nm_r (e' := nI (e * h)) (by rw [nI_clamp (by omega), x0, pk_mul]) ?_
        refine br_f (nI_ge (a := 12) (by omega) (by omega)) ?_
        refine br_f h0 (br_t b3 (br_f (nI_ne0 (by omega) (by omega)) ?_))
        refine nm_r (e' := nI m) eB ?_
        refine ⟨vp_in_nI (by omega) (by decide), ?_⟩
        rw [nI_clamp (by omega), y0, pk_mul]
        exact br_f (nI_ge (a := 12) (by omega) (by omega)) ⟨rfl, I0⟩
    · have d0 : d = 0 := by omega
      subst d0
      exact br_f h0 (br_t b3 (br_f (by decide) (br_f h0 (br_t b3 (br_t rfl ⟨rfl, I0⟩)))))
  · have b3 : ¬ nI e ≤ (3 : Int32) := nI_ge (a := 3) (by omega) he
    exact br_f h0 (br_f b3 (br_f h0 (br_f b3 ⟨rfl, I0⟩)))
theorem i_vc_derive {k : Nat} {u : SX} {v : SY} (I : i_Rel k u v) (hk : k + 3 ≤ 1536) : wpX_derive (fun r u' => wpY_derive (fun r' v' => r' = r ∧ i_Rel (k + 3) u' v') v) u := by
  obtain ⟨c, sA, sB, hh, lA, lB, rA, rB, zA, zB, cm, rm, qt⟩ := u
  obtain ⟨dp, ce, hy, ro, le⟩ := v
  have I0 := I
  obtain ⟨d, hd, e1, e2, hs⟩ := I
  dsimp only at e1 e2 hs
  subst e1 e2
  by_cases h1 : 1 ≤ d
  · obtain ⟨m, rfl⟩ : ∃ m, d = m + 1 := ⟨d - 1, by omega⟩
    obtain ⟨h, P, Q, p, q, F, x0, y0, hP, hQ, hp, hq⟩ := hs m (by omega)
    have l12 := F.1
    have eB : nI (m + 1) - 1 = nI m := nI_pred m
    refine br_t (nI_le (a := 1) (by omega) (by omega)) ?_
    rw [eB]
    refine ⟨vp_in_nI (by omega) (by decide), ?_⟩
    refine nm_r (e' := nI (2 * h)) (by rw [nI_clamp (by omega), x0, gy_e0]) ?_
    by_cases hh12 : 2 * h ≤ 12
    · obtain ⟨lP, lQ, lp, lq⟩ := gr_fr12 (n := 13) F (by omega)
      refine br_t (nI_le (b := 12) (by omega) (by decide)) ?_
      refine gx_dtop (post := _) m (by omega) hP hQ lP lQ (fz_low_nQ F.2.2.2.2.2.1) (fun a1 a2 a3 a4 yA yB t1 t2 t3 A B b1 b2 b3 b4 b5 b6 b7 b8 => ?_)
      refine nm_r (e' := nI m) eB ?_
      refine gx_push (post := _) m (by omega) b1 b2 (fun tA tB m1 m2 m3 m4 => ?_)
      refine br_f (nI_ne0 (by omega) (by omega)) ?_
      refine nm_r (e' := nI m) eB ?_
      refine ⟨vp_in_nI (by omega) (by decide), ?_⟩
      rw [nI_clamp (by omega), y0, gy_e0]
      refine br_t (nI_le (b := 12) (by omega) (by decide)) ?_
      refine gy_fder (post := _) m (by omega) rfl hp hq (fz_l_mono lp (by omega)) (fz_l_mono lq (by omega)) (fun c1 d1 d2 d3 => ?_)
      refine gy_copy (post := _) 12 14 (by omega) (by omega) (by omega) rfl rfl d1 (fun c2 d4 d5 => ?_)
      refine gy_copy (post := _) 13 15 (by omega) (by omega) (by omega) rfl rfl (fz_fr_at d5 (by omega) d2) (fun c3 d6 d7 => ?_)
      refine gy_take (post := _) m (by omega) rfl (fz_fr_at d7 (by omega) d4) d6 (fun c4 d8 d9 d10 => ?_)
      refine ⟨vp_in_nI (by omega) (by decide), vp_in_nI (by omega) (by decide), ?_⟩
      refine nm_r (e' := upd hy m (nI (2 * h))) (by rw [y0, gy_e0]) ?_
      refine ⟨rfl, m + 1, by omega, rfl, rfl, ?_⟩
      refine gr_new m (fun i hi => hs i (by omega)) (gr_der F hh12 b5 b6 b7 b8) pk_us pk_us (fun i hi => pk_un (by omega)) (fun i hi => pk_un (by omega)) m1 m2 m3 m4 d8 d9 (fun s hs k hk => ?_)
      dsimp only
      rw [d10 s (by omega) (by omega) k hk, d7 s (by omega) k hk, d5 s (by omega) k hk, d3 s (by omega) k hk]
    · refine br_f (nI_ge (a := 12) (by omega) (by omega)) ?_
      refine br_f (nI_ne0 (by omega) (by omega)) ?_
      refine nm_r (e' := nI m) eB ?_
      refine ⟨vp_in_nI (by omega) (by decide), ?_⟩
      rw [nI_clamp (by omega), y0, gy_e0]
      exact br_f (nI_ge (a := 12) (by omega) (by omega)) ⟨rfl, I0⟩
  · have d0 : d = 0 := by omega
    subst d0
    exact br_f (by decide) (br_t rfl ⟨rfl, I0⟩)
