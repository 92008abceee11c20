/-! what is owed, second part (written by wip/whole/gen_x5.py) -/
theorem gy_em2 (m : Nat) : 2 * nI (m + 1) - 2 = nI (2 * m) := by
  rw [show (2 : Int32) = nI 2 from rfl, pk_mul, pk_sub (by omega)]
  congr 1
theorem gy_em1 (m : Nat) : 2 * nI (m + 1) - 1 = nI (2 * m + 1) := by
  rw [gy_e0, show 2 * (m + 1) = 2 * m + 1 + 1 by omega, nI_pred]
theorem gy_e2 (m : Nat) : 2 * nI m + 2 = nI (2 * (m + 1)) := by
  rw [gy_e0, show (2 : Int32) = nI 2 from rfl, nI_add]
  congr 1
theorem gy_e3 (m : Nat) : 2 * nI m + 3 = nI (2 * (m + 1) + 1) := by
  rw [gy_e0, show (3 : Int32) = nI 3 from rfl, nI_add]
  congr 1
theorem i_vc_dup {k : Nat} {u : SX} {v : SY} (I : i_Rel k u v) (hk : k + 3 ≤ 1536) : wpX_dup (fun r u' => wpY_dup (fun r' v' => r' = r ∧ i_Rel (k + 3) u' v') v) u := by
  obtain ⟨c, sA, sB, hh, lA, lB, rA, rB, zA, zB, cm, rm, qt⟩ := u
  obtain ⟨dp, ce, hy, ro, le⟩ := v
  have I0 := I
  obtain ⟨d, hd, e1, e2, hs⟩ := I
  dsimp only at e1 e2 hs
  subst e1 e2
  by_cases h1 : 1 ≤ d
  · obtain ⟨m, rfl⟩ : ∃ m, d = m + 1 := ⟨d - 1, by omega⟩
    have eB : nI (m + 1) - 1 = nI m := nI_pred m
    refine br_t (nI_le (a := 1) (by omega) (by omega)) ?_
    by_cases h6 : m + 1 < 6
    · obtain ⟨h, P, Q, p, q, F, x0, y0, hP, hQ, hp, hq⟩ := hs m (by omega)
      refine br_t (nI_lt (b := 6) h6 (by decide)) ?_
      rw [eB]
      refine gx_load_zA_zB (post := _) m (by omega) hP hQ (fun a1 a2 k1 k2 => ?_)
      dsimp only
      rw [eB]
      refine ⟨vp_in_nI (by omega) (by decide), ?_⟩
      rw [nI_clamp (by omega)]
      refine gx_push (post := _) (m + 1) h6 k1 k2 (fun tA tB m1 m2 m3 m4 => ?_)
      refine br_f (nI_ne0 (by omega) (by omega)) (br_f (gr_ne6 h6) ?_)
      refine gy_copy (post := _) (2 * m) (2 * (m + 1)) (by omega) (by omega) (by omega) (gy_em2 m) (gy_e0 (m + 1)) hp (fun c1 a3 a4 => ?_)
      refine gy_copy (post := _) (2 * m + 1) (2 * (m + 1) + 1) (by omega) (by omega) (by omega) (gy_em1 m) (gy_e1 (m + 1)) (fz_fr_at a4 (by omega) hq) (fun c2 a5 a6 => ?_)
      dsimp only
      rw [eB]
      refine ⟨vp_in_nI (by omega) (by decide), ?_⟩
      rw [nI_clamp (by omega)]
      refine gy_push (post := _) (m + 1) (by omega) ⟨rfl, m + 1 + 1, by omega, rfl, rfl, ?_⟩
      refine gr_new (m + 1) hs F (pk_us.trans x0) (pk_us.trans y0) (fun i hi => pk_un (by omega)) (fun i hi => pk_un (by omega)) m1 m2 m3 m4 (fz_fr_at a6 (by omega) a3) a5 (fun s hs k hk => ?_)
      dsimp only
      rw [a6 s (by omega) k hk, a4 s (by omega) k hk]
    · have d6 : m = 5 := by omega
      subst d6
      exact br_f (by decide) (br_f (by decide) (br_t rfl ⟨rfl, I0⟩))
  · have d0 : d = 0 := by omega
    subst d0
    exact br_f (by decide) (br_t rfl ⟨rfl, I0⟩)
theorem i_vc_drop {k : Nat} {u : SX} {v : SY} (I : i_Rel k u v) (hk : k + 3 ≤ 1536) : wpX_drop (fun r u' => wpY_drop (fun r' v' => r' = r ∧ i_Rel (k + 3) u' v') v) u := by
  obtain ⟨c, sA, sB, hh, lA, lB, rA, rB, zA, zB, cm, rm, qt⟩ := u
  obtain ⟨dp, ce, hy, ro, le⟩ := v
  have I0 := I
  obtain ⟨d, hd, e1, e2, hs⟩ := I
  dsimp only at e1 e2 hs
  subst e1 e2
  by_cases h1 : 1 ≤ d
  · obtain ⟨m, rfl⟩ : ∃ m, d = m + 1 := ⟨d - 1, by omega⟩
    have eB : nI (m + 1) - 1 = nI m := nI_pred m
    refine br_t (nI_le (a := 1) (by omega) (by omega)) ?_
    refine nm_r (e' := nI m) eB ?_
    refine br_f (nI_ne0 (by omega) (by omega)) ?_
    refine nm_r (e' := nI m) eB ?_
    exact ⟨rfl, m, by omega, rfl, rfl, fun i hi => hs i (by omega)⟩
  · have d0 : d = 0 := by omega
    subst d0
    exact br_f (by decide) (br_t rfl ⟨rfl, I0⟩)
theorem i_vc_swap {k : Nat} {u : SX} {v : SY} (I : i_Rel k u v) (hk : k + 3 ≤ 1536) : wpX_swap (fun r u' => wpY_swap (fun r' v' => r' = r ∧ i_Rel (k + 3) u' v') v) u := by
  obtain ⟨c, sA, sB, hh, lA, lB, rA, rB, zA, zB, cm, rm, qt⟩ := u
  obtain ⟨dp, ce, hy, ro, le⟩ := v
  have I0 := I
  obtain ⟨d, hd, e1, e2, hs⟩ := I
  dsimp only at e1 e2 hs
  subst e1 e2
  by_cases h2 : 2 ≤ d
  · obtain ⟨m, rfl⟩ : ∃ m, d = m + 2 := ⟨d - 2, by omega⟩
    obtain ⟨h, P, Q, p, q, F, x0, y0, hP, hQ, hp, hq⟩ := hs m (by omega)
    obtain ⟨h1, P1, Q1, p1, q1, F1, x1, y1, hP1, hQ1, hp1, hq1⟩ := hs (m + 1) (by omega)
    have eA : nI (m + 2) - 2 = nI m := pk_sub (b := 2) (by omega)
    have eB : nI (m + 2) - 1 = nI (m + 1) := nI_pred (m + 1)
    refine br_t (nI_le (a := 2) (by omega) (by omega)) ?_
    rw [eA, eB]
    refine ⟨vp_in_nI (by omega) (by decide), ?_⟩
    refine nm_r (e' := nI h) (by rw [nI_clamp (by omega), x0]) ?_
    refine ⟨vp_in_nI (by omega) (by decide), ?_⟩
    refine nm_r (e' := nI h1) (by rw [nI_clamp (by omega), x1]) ?_
    refine gx_load_lA_lB (post := _) m (by omega) hP hQ (fun a1 a2 k1 k2 => ?_)
    dsimp only
    rw [eB]
    refine gx_load_rA_rB (post := _) (m + 1) (by omega) hP1 hQ1 (fun a3 a4 k3 k4 => ?_)
    dsimp only
    rw [eA]
    refine gx_store_rA_rB (post := _) m (by omega) k3 k4 (fun tA tB m1 m2 m3 m4 => ?_)
    dsimp only
    rw [eB]
    refine gx_store_lA_lB (post := _) (m + 1) (by omega) k1 k2 (fun wA wB n1 n2 n3 n4 => ?_)
    dsimp only
    rw [eA, eB]
    refine ⟨vp_in_nI (by omega) (by decide), ?_⟩
    refine nm_r (e' := upd hh m (nI h1)) (by rw [nI_clamp (by omega)]) ?_
    refine ⟨vp_in_nI (by omega) (by decide), ?_⟩
    refine nm_r (e' := upd (upd hh m (nI h1)) (m + 1) (nI h)) (by rw [nI_clamp (by omega)]) ?_
    refine br_t (nI_le (a := 2) (by omega) (by omega)) ?_
    refine nm_r (e' := nI m) eA ?_
    refine ⟨vp_in_nI (by omega) (by decide), ?_⟩
    refine nm_r (e' := nI h) (by rw [nI_clamp (by omega), y0]) ?_
    rw [nI_1 m]
    refine ⟨vp_in_nI (by omega) (by decide), vp_in_nI (by omega) (by decide), ?_⟩
    refine nm_r (e' := upd hy m (nI h1)) (by rw [nI_clamp (by omega), nI_clamp (by omega), y1]) ?_
    refine ⟨vp_in_nI (by omega) (by decide), ?_⟩
    refine nm_r (e' := upd (upd hy m (nI h1)) (m + 1) (nI h)) (by rw [nI_clamp (by omega)]) ?_
    refine gy_copy (post := _) (2 * m) 14 (by omega) (by omega) (by omega) (gy_e0 m) rfl hp (fun c1 b1 b2 => ?_)
    refine gy_copy (post := _) (2 * m + 1) 15 (by omega) (by omega) (by omega) (gy_e1 m) rfl (fz_fr_at b2 (by omega) hq) (fun c2 b3 b4 => ?_)
    refine gy_copy (post := _) (2 * (m + 1)) (2 * m) (by omega) (by omega) (by omega) (gy_e2 m) (gy_e0 m) (fz_fr_at b4 (by omega) (fz_fr_at b2 (by omega) hp1)) (fun c3 b5 b6 => ?_)
    refine gy_copy (post := _) (2 * (m + 1) + 1) (2 * m + 1) (by omega) (by omega) (by omega) (gy_e3 m) (gy_e1 m) (fz_fr_at b6 (by omega) (fz_fr_at b4 (by omega) (fz_fr_at b2 (by omega) hq1))) (fun c4 b7 b8 => ?_)
    refine gy_take (post := _) (m + 1) (by omega) rfl (fz_fr_at b8 (by omega) (fz_fr_at b6 (by omega) (fz_fr_at b4 (by omega) b1))) (fz_fr_at b8 (by omega) (fz_fr_at b6 (by omega) b3)) (fun c5 b9 b10 b11 => ?_)
    refine ⟨rfl, m + 2, by omega, rfl, rfl, fun i hi => ?_⟩
    dsimp only
    by_cases i1 : i = m + 1
    · subst i1
      exact ⟨h, P, Q, p, q, F, pk_us, pk_us, n1, n2, b9, b10⟩
    · by_cases i0 : i = m
      · subst i0
        refine ⟨h1, P1, Q1, p1, q1, F1, (pk_un (by omega)).trans pk_us, (pk_un (by omega)).trans pk_us, fun k hk => (n3 _ (by omega)).trans (m1 k hk), fun k hk => (n4 _ (by omega)).trans (m2 k hk), ?_, ?_⟩
        · intro k hk
          rw [b11 _ (by omega) (by omega) k hk]
          exact fz_fr_at b8 (by omega) b5 k hk
        · intro k hk
          rw [b11 _ (by omega) (by omega) k hk]
          exact b7 k hk
      · refine gr_mono (hs i (by omega)) (fun k hk => (n3 _ (by omega)).trans (m3 _ (by omega))) (fun k hk => (n4 _ (by omega)).trans (m4 _ (by omega))) ((pk_un (by omega)).trans (pk_un (by omega))) ((pk_un (by omega)).trans (pk_un (by omega))) (fun k hk => ?_) (fun k hk => ?_)
        · rw [b11 _ (by omega) (by omega) k hk, b8 _ (by omega) k hk, b6 _ (by omega) k hk, b4 _ (by omega) k hk, b2 _ (by omega) k hk]
        · rw [b11 _ (by omega) (by omega) k hk, b8 _ (by omega) k hk, b6 _ (by omega) k hk, b4 _ (by omega) k hk, b2 _ (by omega) k hk]
  · have n2 : ¬ (2 : Int32) ≤ nI d := nI_ge (b := 2) (by omega) (by decide)
    exact br_f n2 (br_f n2 ⟨rfl, I0⟩)
theorem i_vc_depth {k : Nat} {u : SX} {v : SY} (I : i_Rel k u v) (hk : k + 3 ≤ 1536) : wpX_depth (fun r => wpY_depth (fun r' => r' = r ∧ i_Rel (k + 3) u v) v) u := by
  obtain ⟨c, sA, sB, hh, lA, lB, rA, rB, zA, zB, cm, rm, qt⟩ := u
  obtain ⟨dp, ce, hy, ro, le⟩ := v
  have I0 := I
  obtain ⟨d, hd, e1, e2, hs⟩ := I
  dsimp only at e1 e2 hs
  subst e1 e2
  exact ⟨rfl, I0⟩
theorem i_vc_height {k : Nat} {u : SX} {v : SY} (I : i_Rel k u v) (hk : k + 3 ≤ 1536) : wpX_height (fun r => wpY_height (fun r' => r' = r ∧ i_Rel (k + 3) u v) v) u := by
  obtain ⟨c, sA, sB, hh, lA, lB, rA, rB, zA, zB, cm, rm, qt⟩ := u
  obtain ⟨dp, ce, hy, ro, le⟩ := v
  have I0 := I
  obtain ⟨d, hd, e1, e2, hs⟩ := I
  dsimp only at e1 e2 hs
  subst e1 e2
  by_cases h1 : 1 ≤ d
  · obtain ⟨m, rfl⟩ : ∃ m, d = m + 1 := ⟨d - 1, by omega⟩
    have eB : nI (m + 1) - 1 = nI m := nI_pred m
    obtain ⟨h, P, Q, p, q, F, x0, y0, hP, hQ, hp, hq⟩ := hs m (by omega)
    refine br_t (nI_le (a := 1) (by omega) (by omega)) ?_
    rw [eB, nI_clamp (by omega)]
    refine ⟨vp_in_nI (by omega) (by decide), ?_⟩
    refine br_f (nI_ne0 (by omega) (by omega)) ?_
    rw [eB, nI_clamp (by omega)]
    exact ⟨vp_in_nI (by omega) (by decide), y0.trans x0.symm, I0⟩
  · have d0 : d = 0 := by omega
    subst d0
    exact br_f (by decide) (br_t rfl ⟨rfl, I0⟩)
theorem gy_value {post : Int32 → SY → Prop} {ce hy ro le : Nat → Int32} {P Q p q : Nat → Fin 101} {h : Nat} (m : Nat) (hm : m < 6) (a : Fin 101) (F : gr_fr P Q p q h) (hp : fz_at ce (25 * (2 * m)) p) (hq : fz_at ce (25 * (2 * m + 1)) q) (K : ∀ ce', fz_f12 ce ce' → post (fz_ans P Q a) (nI (m + 1), ce', hy, ro, le)) : wpY_value post (nI (m + 1), ce, hy, ro, le) (fz_c a) := by
  obtain ⟨lP, lQ, lp, lq⟩ := gr_fr12 (n := 25) F (by omega)
  unfold wpY_value
  refine gy_isn_1 (post := _) a ?_
  refine br_f (by decide) (br_f (nI_ne0 (by omega) (by omega)) ?_)
  refine gy_frac (post := _) (2 * m) (2 * m + 1) a (by omega) (by omega) (gy_em2 m) (gy_em1 m) rfl F.2.2.2.2.2.1 lP lQ lp lq F.2.2.2.2.2.2.1 hp hq F.2.2.2.2.2.2.2 (fun c1 k1 => ?_)
  exact K c1 (fz_f12_fr2 k1 (by omega) (by omega))
theorem i_vc_value {k : Nat} {u : SX} {v : SY} (I : i_Rel k u v) (hk : k + 3 ≤ 1536) (v1 : Int32) : wpX_value (fun r u' => wpY_value (fun r' v' => r' = r ∧ i_Rel (k + 3) u' v') v v1) u v1 := by
  obtain ⟨c, sA, sB, hh, lA, lB, rA, rB, zA, zB, cm, rm, qt⟩ := u
  obtain ⟨dp, ce, hy, ro, le⟩ := v
  have I0 := I
  obtain ⟨d, hd, e1, e2, hs⟩ := I
  dsimp only at e1 e2 hs
  subst e1 e2
  rcases gr_num v1 with h | h | ⟨a, rfl⟩
  · unfold wpX_value
    refine gx_isn_0 (post := _) (Or.inl h) ?_
    refine br_t rfl ?_
    unfold wpY_value
    refine gy_isn_0 (post := _) (Or.inl h) ?_
    exact br_t rfl ⟨rfl, I0⟩
  · unfold wpX_value
    refine gx_isn_0 (post := _) (Or.inr h) ?_
    refine br_t rfl ?_
    unfold wpY_value
    refine gy_isn_0 (post := _) (Or.inr h) ?_
    exact br_t rfl ⟨rfl, I0⟩
  · unfold wpX_value
    refine gx_isn_1 (post := _) a ?_
    refine br_f (by decide) ?_
    by_cases h1 : 1 ≤ d
    · obtain ⟨m, rfl⟩ : ∃ m, d = m + 1 := ⟨d - 1, by omega⟩
      obtain ⟨h, P, Q, p, q, F, x0, y0, hP, hQ, hp, hq⟩ := hs m (by omega)
      have eB : nI (m + 1) - 1 = nI m := nI_pred m
      refine br_t (nI_le (a := 1) (by omega) (by omega)) ?_
      rw [eB]
      refine gx_load_zA_zB (post := _) m (by omega) hP hQ (fun a1 a2 k1 k2 => ?_)
      refine gx_resat (post := _) a k1 k2 ?_
      refine gy_value (post := _) m (by omega) a F hp hq (fun c1 k3 => ?_)
      exact ⟨rfl, m + 1, hd, rfl, rfl, gr_f12 hd hs k3⟩
    · have d0 : d = 0 := by omega
      subst d0
      refine br_f (by decide) ?_
      unfold wpY_value
      refine gy_isn_1 (post := _) a ?_
      exact br_f (by decide) (br_t rfl ⟨rfl, I0⟩)
theorem i_vc_slope {k : Nat} {u : SX} {v : SY} (I : i_Rel k u v) (hk : k + 3 ≤ 1536) (v1 : Int32) : wpX_slope (fun r u' => wpY_slope (fun r' v' => r' = r ∧ i_Rel (k + 3) u' v') v v1) u v1 := by
  obtain ⟨c, sA, sB, hh, lA, lB, rA, rB, zA, zB, cm, rm, qt⟩ := u
  obtain ⟨dp, ce, hy, ro, le⟩ := v
  have I0 := I
  obtain ⟨d, hd, e1, e2, hs⟩ := I
  dsimp only at e1 e2 hs
  subst e1 e2
  rcases gr_num v1 with h | h | ⟨a, rfl⟩
  · unfold wpX_slope
    refine gx_isn_0 (post := _) (Or.inl h) ?_
    refine br_t rfl ?_
    unfold wpY_slope
    refine gy_isn_0 (post := _) (Or.inl h) ?_
    exact br_t rfl ⟨rfl, I0⟩
  · unfold wpX_slope
    refine gx_isn_0 (post := _) (Or.inr h) ?_
    refine br_t rfl ?_
    unfold wpY_slope
    refine gy_isn_0 (post := _) (Or.inr h) ?_
    exact br_t rfl ⟨rfl, I0⟩
  · unfold wpX_slope
    refine gx_isn_1 (post := _) a ?_
    refine br_f (by decide) ?_
    by_cases h1 : 1 ≤ d
    · obtain ⟨m, rfl⟩ : ∃ m, d = m + 1 := ⟨d - 1, by omega⟩
      obtain ⟨h, P, Q, p, q, F, x0, y0, hP, hQ, hp, hq⟩ := hs m (by omega)
      obtain ⟨lP, lQ, lp, lq⟩ := gr_fr12 (n := 13) F (by omega)
      have lp1 : fz_l (fz_dv p) 13 := fz_l_mono (fz_dv_l (n := 12) lp) (by omega)
      have lq1 : fz_l (fz_dv q) 13 := fz_l_mono (fz_dv_l (n := 12) lq) (by omega)
      refine br_t (nI_le (a := 1) (by omega) (by omega)) ?_
      refine gx_dtop (post := _) m (by omega) hP hQ lP lQ (fz_low_nQ F.2.2.2.2.2.1) (fun a1 a2 a3 a4 yA yB t1 t2 t3 A B b1 b2 b3 b4 b5 b6 b7 b8 => ?_)
      refine gx_resat (post := _) a b1 b2 ?_
      unfold wpY_slope
      refine gy_isn_1 (post := _) a ?_
      refine br_f (by decide) (br_f (nI_ne0 (by omega) (by omega)) ?_)
      refine gy_fder (post := _) m (by omega) (nI_pred m) hp hq (fz_l_mono lp (by omega)) (fz_l_mono lq (by omega)) (fun c1 d1 d2 d3 => ?_)
      refine gy_frac (post := _) 12 13 a (by omega) (by omega) rfl rfl rfl b5 b3 b4 (fz_l_d (fz_l_m (m := 12) (n := 12) lp1 lq) (fz_l_m (m := 12) (n := 12) lp lq1)) (fz_l_m (m := 12) (n := 12) lq lq) (fz_m_ne ⟨_, lq⟩ ⟨_, lq⟩ F.2.2.2.2.2.2.1 F.2.2.2.2.2.2.1) d1 d2 (gr_slope F b5 b6) (fun c2 d4 => ?_)
      exact ⟨rfl, m + 1, hd, rfl, rfl, gr_f12 hd hs (fz_f12_tr d3 (fz_f12_fr2 d4 (by omega) (by omega)))⟩
    · have d0 : d = 0 := by omega
      subst d0
      refine br_f (by decide) ?_
      unfold wpY_slope
      refine gy_isn_1 (post := _) a ?_
      exact br_f (by decide) (br_t rfl ⟨rfl, I0⟩)
theorem gx_same48 {post : Int32 → SX → Prop} {c : Int32} {sA sB hh lA lB rA rB zA zB cm rm qt : Nat → Int32} {P Q P1 Q1 : Nat → Fin 101} (hP : fz_ar lA P) (hQ : fz_ar lB Q) (hP1 : fz_ar rA P1) (hQ1 : fz_ar rB Q1) (lP : fz_l P 25) (lQ : fz_l Q 25) (lP1 : fz_l P1 25) (lQ1 : fz_l Q1 25) (K1 : P = P1 ∧ Q = Q1 → post 1 (c, sA, sB, hh, lA, lB, rA, rB, zA, zB, cm, rm, qt)) (K0 : ¬ (P = P1 ∧ Q = Q1) → post 0 (c, sA, sB, hh, lA, lB, rA, rB, zA, zB, cm, rm, qt)) : ∃ n, wX_same_48 post c sA sB hh lA lB rA rB zA zB cm rm qt n 0 := by
  have key : ∀ n i, 25 < i + n → i ≤ 25 → (∀ k, k < i → P k = P1 k ∧ Q k = Q1 k) → wX_same_48 post c sA sB hh lA lB rA rB zA zB cm rm qt n (nI i) := by
    intro n
    induction n with
    | zero => intro i h1 h2; omega
    | succ n ih =>
      intro i h1 h2 h3
      by_cases d : i = 25
      · subst d
        refine br_t (by decide) (K1 ⟨funext (fun k => ?_), funext (fun k => ?_)⟩)
        · by_cases e : k < 25
          · exact (h3 k e).1
          · rw [lP k (by omega), lP1 k (by omega)]
        · by_cases e : k < 25
          · exact (h3 k e).2
          · rw [lQ k (by omega), lQ1 k (by omega)]
      · have v : vp_in (nI i) 25 := vp_in_nI (by omega) (by decide)
        refine br_f (nI_ge (b := 25) (by omega) (by decide)) ⟨v, v, ?_⟩
        rw [nI_clamp (by omega), hP i (by omega), hP1 i (by omega), hQ i (by omega), hQ1 i (by omega)]
        by_cases e : P i = P1 i
        · refine br_t (by rw [e]) ⟨v, v, ?_⟩
          by_cases f : Q i = Q1 i
          · refine br_t (by rw [f]) ?_
            refine nm_r (nI_1 i) ?_
            refine ih (i + 1) (by omega) (by omega) (fun k hk => ?_)
            by_cases g : k = i
            · rw [g]
              exact ⟨e, f⟩
            · exact h3 k (by omega)
          · exact br_f (fun y => f (fz_c_inj.mp y)) (K0 (fun y => f (congrFun y.2 i)))
        · exact br_f (fun y => e (fz_c_inj.mp y)) (K0 (fun y => e (congrFun y.1 i)))
  exact ⟨26, key 26 0 (by omega) (by omega) (fun k h => by omega)⟩
theorem gy_same49 {post : Int32 → SY → Prop} {dp : Int32} {ce hy ro le : Nat → Int32} {f g : Nat → Fin 101} (hf : fz_at ce (25 * 14) f) (hg : fz_at ce (25 * 15) g) (lf : fz_l f 25) (lg : fz_l g 25) (K1 : f = g → post 1 (dp, ce, hy, ro, le)) (K0 : f ≠ g → post 0 (dp, ce, hy, ro, le)) : ∃ n, wY_same_49 post dp ce hy ro le n 0 := by
  have key : ∀ n i, 25 < i + n → i ≤ 25 → (∀ k, k < i → f k = g k) → wY_same_49 post dp ce hy ro le n (nI i) := by
    intro n
    induction n with
    | zero => intro i h1 h2; omega
    | succ n ih =>
      intro i h1 h2 h3
      by_cases d : i = 25
      · subst d
        refine br_t (by decide) (K1 (funext (fun k => ?_)))
        by_cases e : k < 25
        · exact h3 k e
        · rw [lf k (by omega), lg k (by omega)]
      · refine br_f (nI_ge (b := 25) (by omega) (by decide)) ?_
        refine gy_get (post := _) 14 i (by omega) (by omega) rfl rfl ?_
        refine gy_get (post := _) 15 i (by omega) (by omega) rfl rfl ?_
        rw [hf i (by omega), hg i (by omega)]
        by_cases e : f i = g i
        · refine br_t (by rw [e]) ?_
          refine nm_r (nI_1 i) ?_
          refine ih (i + 1) (by omega) (by omega) (fun k hk => ?_)
          by_cases h : k = i
          · rw [h]
            exact e
          · exact h3 k (by omega)
        · exact br_f (fun y => e (fz_c_inj.mp y)) (K0 (fun y => e (congrFun y i)))
  exact ⟨26, key 26 0 (by omega) (by omega) (fun k h => by omega)⟩
theorem i_vc_same {k : Nat} {u : SX} {v : SY} (I : i_Rel k u v) (hk : k + 3 ≤ 1536) : wpX_same (fun r u' => wpY_same (fun r' v' => r' = r ∧ i_Rel (k + 3) u' v') v) u := by
  obtain ⟨c, sA, sB, hh, lA, lB, rA, rB, zA, zB, cm, rm, qt⟩ := u
  obtain ⟨dp, ce, hy, ro, le⟩ := v
  have I0 := I
  obtain ⟨d, hd, e1, e2, hs⟩ := I
  dsimp only at e1 e2 hs
  subst e1 e2
  by_cases h2 : 2 ≤ d
  · obtain ⟨m, rfl⟩ : ∃ m, d = m + 2 := ⟨d - 2, by omega⟩
    obtain ⟨h, P, Q, p, q, F, x0, y0, hP, hQ, hp, hq⟩ := hs m (by omega)
    obtain ⟨h1, P1, Q1, p1, q1, F1, x1, y1, hP1, hQ1, hp1, hq1⟩ := hs (m + 1) (by omega)
    obtain ⟨lP, lQ, lp, lq⟩ := gr_fr12 (n := 13) F (by omega)
    obtain ⟨lP1, lQ1, lp1, lq1⟩ := gr_fr12 (n := 13) F1 (by omega)
    have iff := fz_same F.2.2.2.2.2.1 F1.2.2.2.2.2.1 ⟨_, lp⟩ ⟨_, lq⟩ ⟨_, lp1⟩ ⟨_, lq1⟩ F.2.2.2.2.2.2.1 F1.2.2.2.2.2.2.1 F.2.2.2.2.2.2.2 F1.2.2.2.2.2.2.2
    have eA : nI (m + 2) - 2 = nI m := pk_sub (b := 2) (by omega)
    have eB : nI (m + 2) - 1 = nI (m + 1) := nI_pred (m + 1)
    have yside : ∀ post : Int32 → SY → Prop, (fz_m p q1 = fz_m p1 q → ∀ ce', fz_f12 ce ce' → post 1 (nI (m + 2), ce', hy, ro, le)) → (fz_m p q1 ≠ fz_m p1 q → ∀ ce', fz_f12 ce ce' → post 0 (nI (m + 2), ce', hy, ro, le)) → wpY_same post (nI (m + 2), ce, hy, ro, le) := by
      intro post K1 K0
      refine br_t (nI_le (a := 2) (by omega) (by omega)) ?_
      refine nm_r (e' := nI m) eA ?_
      refine gy_mul (post := _) (2 * m) (2 * (m + 1) + 1) 14 (by omega) (by omega) (by omega) (by omega) (by omega) (gy_e0 m) (gy_e3 m) rfl hp hq1 (fun c1 b1 b2 => ?_)
      refine gy_mul (post := _) (2 * (m + 1)) (2 * m + 1) 15 (by omega) (by omega) (by omega) (by omega) (by omega) (gy_e2 m) (gy_e1 m) rfl (fz_fr_at b2 (by omega) hp1) (fz_fr_at b2 (by omega) hq) (fun c2 b3 b4 => ?_)
      have f12 := fz_f12_tr (fz_f12_fr b2 (by omega)) (fz_f12_fr b4 (by omega))
      exact gy_same49 (fz_fr_at b4 (by omega) b1) b3 (fz_l_m (m := 12) (n := 12) lp lq1) (fz_l_m (m := 12) (n := 12) lp1 lq) (fun e => K1 e c2 f12) (fun e => K0 e c2 f12)
    refine br_t (nI_le (a := 2) (by omega) (by omega)) ?_
    rw [eA]
    refine gx_load_lA_lB (post := _) m (by omega) hP hQ (fun a1 a2 k1 k2 => ?_)
    dsimp only
    rw [eB]
    refine gx_load_rA_rB (post := _) (m + 1) (by omega) hP1 hQ1 (fun a3 a4 k3 k4 => ?_)
    refine gx_same48 k1 k2 k3 k4 (fz_l_mono lP (by omega)) (fz_l_mono lQ (by omega)) (fz_l_mono lP1 (by omega)) (fz_l_mono lQ1 (by omega)) (fun e => ?_) (fun e => ?_)
    · refine yside _ (fun _ ce' f => ⟨rfl, m + 2, hd, rfl, rfl, gr_f12 hd hs f⟩) (fun e' => absurd (iff.mp e) e')
    · refine yside _ (fun e' => absurd (iff.mpr e') e) (fun _ ce' f => ⟨rfl, m + 2, hd, rfl, rfl, gr_f12 hd hs f⟩)
  · have n2 : ¬ (2 : Int32) ≤ nI d := nI_ge (b := 2) (by omega) (by decide)
    exact br_f n2 (br_f n2 ⟨rfl, I0⟩)
theorem i_vc_degreeAbove {k : Nat} {u : SX} {v : SY} (I : i_Rel k u v) (hk : k + 3 ≤ 1536) : wpX_degreeAbove (fun r u' => wpY_degreeAbove (fun r' v' => r' = r ∧ i_Rel (k + 3) u' v') v) u := by
  obtain ⟨c, sA, sB, hh, lA, lB, rA, rB, zA, zB, cm, rm, qt⟩ := u
  obtain ⟨dp, ce, hy, ro, le⟩ := v
  have I0 := I
  obtain ⟨d, hd, e1, e2, hs⟩ := I
  dsimp only at e1 e2 hs
  subst e1 e2
  by_cases h1 : 1 ≤ d
  · obtain ⟨m, rfl⟩ : ∃ m, d = m + 1 := ⟨d - 1, by omega⟩
    obtain ⟨h, P, Q, p, q, F, x0, y0, hP, hQ, hp, hq⟩ := hs m (by omega)
    obtain ⟨lP, lQ, lp, lq⟩ := gr_fr12 (n := 13) F (by omega)
    have lP25 : fz_l P 25 := fz_l_mono lP (by omega)
    have eB : nI (m + 1) - 1 = nI m := nI_pred m
    refine br_t (nI_le (a := 1) (by omega) (by omega)) ?_
    rw [eB]
    refine gx_load_zA_zB (post := _) m (by omega) hP hQ (fun a1 a2 k1 k2 => ?_)
    by_cases z : P = fz_o 0 0
    · refine gx_deg_zA (post := _) 0 (by omega) (fun k h1 h2 => by rw [k1 k h2, z, fz_o00]; rfl) (Or.inl rfl) ?_
      refine br_f (nI_ne0 (by omega) (by omega)) ?_
      refine gy_low (post := _) m (by omega) lp lq F.2.2.2.2.2.2.1 F.2.2.2.2.2.1 lQ F.2.2.2.2.2.2.2 hp hq (fun c1 ro1 le1 b1 b2 b3 => ?_)
      refine gy_deg (post := _) 20 (by omega) rfl b1 lP25 (fun _ => ?_) (fun i hi he => absurd z (fz_e_ne he))
      exact br_f (by decide) ⟨rfl, m + 1, hd, rfl, rfl, gr_f12 hd hs b3⟩
    · obtain ⟨i, hi, he⟩ := fz_e_ex 25 lP25 z
      refine gx_dege_zA (post := _) k1 hi he ?_
      refine br_f (nI_ne0 (by omega) (by omega)) ?_
      refine gy_low (post := _) m (by omega) lp lq F.2.2.2.2.2.2.1 F.2.2.2.2.2.1 lQ F.2.2.2.2.2.2.2 hp hq (fun c1 ro1 le1 b1 b2 b3 => ?_)
      refine gy_deg (post := _) 20 (by omega) rfl b1 lP25 (fun y => absurd y z) (fun i' hi' he' => ?_)
      refine br_t (nI_pos' (by omega)) ?_
      refine gy_deg (post := _) 20 (by omega) rfl b1 lP25 (fun y => absurd y z) (fun i2 hi2 he2 => ?_)
      have q1 := fz_e_lt he2 he.2
      have q2 := fz_e_lt he he2.2
      have q3 : i2 = i := by omega
      rw [q3]
      exact ⟨rfl, m + 1, hd, rfl, rfl, gr_f12 hd hs b3⟩
  · have d0 : d = 0 := by omega
    subst d0
    exact br_f (by decide) (br_t rfl ⟨rfl, I0⟩)
theorem i_vc_degreeBelow {k : Nat} {u : SX} {v : SY} (I : i_Rel k u v) (hk : k + 3 ≤ 1536) : wpX_degreeBelow (fun r u' => wpY_degreeBelow (fun r' v' => r' = r ∧ i_Rel (k + 3) u' v') v) u := by
  obtain ⟨c, sA, sB, hh, lA, lB, rA, rB, zA, zB, cm, rm, qt⟩ := u
  obtain ⟨dp, ce, hy, ro, le⟩ := v
  have I0 := I
  obtain ⟨d, hd, e1, e2, hs⟩ := I
  dsimp only at e1 e2 hs
  subst e1 e2
  by_cases h1 : 1 ≤ d
  · obtain ⟨m, rfl⟩ : ∃ m, d = m + 1 := ⟨d - 1, by omega⟩
    obtain ⟨h, P, Q, p, q, F, x0, y0, hP, hQ, hp, hq⟩ := hs m (by omega)
    obtain ⟨lP, lQ, lp, lq⟩ := gr_fr12 (n := 13) F (by omega)
    have lQ25 : fz_l Q 25 := fz_l_mono lQ (by omega)
    have eB : nI (m + 1) - 1 = nI m := nI_pred m
    have z := fz_low_nQ F.2.2.2.2.2.1
    refine br_t (nI_le (a := 1) (by omega) (by omega)) ?_
    rw [eB]
    refine gx_load_zA_zB (post := _) m (by omega) hP hQ (fun a1 a2 k1 k2 => ?_)
    · obtain ⟨i, hi, he⟩ := fz_e_ex 25 lQ25 z
      refine gx_dege_zB (post := _) k2 hi he ?_
      refine br_f (nI_ne0 (by omega) (by omega)) ?_
      refine gy_low (post := _) m (by omega) lp lq F.2.2.2.2.2.2.1 F.2.2.2.2.2.1 lQ F.2.2.2.2.2.2.2 hp hq (fun c1 ro1 le1 b1 b2 b3 => ?_)
      refine gy_deg (post := _) 21 (by omega) rfl b2 lQ25 (fun y => absurd y z) (fun i2 hi2 he2 => ?_)
      have q1 := fz_e_lt he2 he.2
      have q2 := fz_e_lt he he2.2
      have q3 : i2 = i := by omega
      rw [q3]
      exact ⟨rfl, m + 1, hd, rfl, rfl, gr_f12 hd hs b3⟩
  · have d0 : d = 0 := by omega
    subst d0
    exact br_f (by decide) (br_t rfl ⟨rfl, I0⟩)
theorem i_vc_coefficient {k : Nat} {u : SX} {v : SY} (I : i_Rel k u v) (hk : k + 3 ≤ 1536) (v1 : Int32) (v2 : Int32) : wpX_coefficient (fun r u' => wpY_coefficient (fun r' v' => r' = r ∧ i_Rel (k + 3) u' v') v v1 v2) u v1 v2 := by
  obtain ⟨c, sA, sB, hh, lA, lB, rA, rB, zA, zB, cm, rm, qt⟩ := u
  obtain ⟨dp, ce, hy, ro, le⟩ := v
  have I0 := I
  obtain ⟨d, hd, e1, e2, hs⟩ := I
  dsimp only at e1 e2 hs
  subst e1 e2
  by_cases h0 : v1 < 0
  · exact br_t h0 (br_t h0 ⟨rfl, I0⟩)
  obtain ⟨e, he, rfl⟩ := nI_of h0
  by_cases h3 : e < 25
  · have b3 : nI e < (25 : Int32) := nI_lt (b := 25) h3 (by decide)
    have b4 : nI e ≤ (24 : Int32) := nI_le (b := 24) (by omega) (by decide)
    by_cases h1 : 1 ≤ d
    · obtain ⟨m, rfl⟩ : ∃ m, d = m + 1 := ⟨d - 1, by omega⟩
      obtain ⟨h, P, Q, p, q, F, x0, y0, hP, hQ, hp, hq⟩ := hs m (by omega)
      obtain ⟨lP, lQ, lp, lq⟩ := gr_fr12 (n := 13) F (by omega)
      have eB : nI (m + 1) - 1 = nI m := nI_pred m
      refine br_f h0 (br_t b3 (br_t (nI_le (a := 1) (by omega) (by omega)) ?_))
      rw [eB]
      refine gx_load_zA_zB (post := _) m (by omega) hP hQ (fun a1 a2 k1 k2 => ?_)
      by_cases z : v2 = 0
      · refine br_t z ⟨vp_in_nI h3 (by decide), ?_⟩
        rw [nI_clamp (by omega), k1 e h3]
        refine br_f h0 (br_t b4 (br_f (nI_ne0 (by omega) (by omega)) ?_))
        refine gy_low (post := _) m (by omega) lp lq F.2.2.2.2.2.2.1 F.2.2.2.2.2.1 lQ F.2.2.2.2.2.2.2 hp hq (fun c1 ro1 le1 b1 b2 b3 => ?_)
        refine br_t z ?_
        refine gy_get (post := _) 20 e (by omega) h3 rfl rfl ?_
        exact ⟨b1 e h3, m + 1, hd, rfl, rfl, gr_f12 hd hs b3⟩
      · refine br_f z ⟨vp_in_nI h3 (by decide), ?_⟩
        rw [nI_clamp (by omega), k2 e h3]
        refine br_f h0 (br_t b4 (br_f (nI_ne0 (by omega) (by omega)) ?_))
        refine gy_low (post := _) m (by omega) lp lq F.2.2.2.2.2.2.1 F.2.2.2.2.2.1 lQ F.2.2.2.2.2.2.2 hp hq (fun c1 ro1 le1 b1 b2 b3 => ?_)
        refine br_f z ?_
        refine gy_get (post := _) 21 e (by omega) h3 rfl rfl ?_
        exact ⟨b2 e h3, m + 1, hd, rfl, rfl, gr_f12 hd hs b3⟩
    · have d0 : d = 0 := by omega
      subst d0
      exact br_f h0 (br_t b3 (br_f (by decide) (br_f h0 (br_t b4 (br_t rfl ⟨rfl, I0⟩)))))
  · have b3 : ¬ nI e < (25 : Int32) := nI_nlt (b := 25) (by omega) he
    have b4 : ¬ nI e ≤ (24 : Int32) := nI_ge (a := 24) (by omega) he
    exact br_f h0 (br_f b3 (br_f h0 (br_f b4 ⟨rfl, I0⟩)))
theorem gy_cnt {post : Int32 → SY → Prop} {ce hy ro le : Nat → Int32} {P Q p q : Nat → Fin 101} {h : Nat} (m : Nat) (hm : m < 6) (w : Int32) (F : gr_fr P Q p q h) (hp : fz_at ce (25 * (2 * m)) p) (hq : fz_at ce (25 * (2 * m + 1)) q) (K : ∀ ce', fz_f12 ce ce' → post (nI (fz_cnt P Q w 101)) (nI (m + 1), ce', hy, ro, le)) : wpY_count post (nI (m + 1), ce, hy, ro, le) w := by
  refine pk_loop (fun n i (s : Int32 × (Nat → Int32)) => wY_count_4 post w n s.1 (nI i) (nI (m + 1)) s.2 hy ro le) (fun i s => s.1 = nI (fz_cnt P Q w i) ∧ fz_f12 ce s.2) 101 0 (0, ce) (by omega) ⟨rfl, fun _ _ _ _ => rfl⟩ ?_ ?_
  · intro n s hs
    refine br_t (by decide) ?_
    rw [hs.1]
    exact K s.2 hs.2
  · intro n i s hi hs ih
    refine br_f (nI_ge (b := 101) hi (by decide)) ?_
    have e : nI i = fz_c (Fin.ofNat 101 i) := by
      show nI i = nI (i % 101)
      rw [Nat.mod_eq_of_lt hi]
    have ec : fz_cnt P Q w (i + 1) = if fz_ans P Q (Fin.ofNat 101 i) = w then fz_cnt P Q w i + 1 else fz_cnt P Q w i := rfl
    have key : ∀ x, x = nI i → wpY_value (fun r u => match u with | (f_depth, a_cells, a_heights, a_rows, a_leads) => ((r = w → ∀ x2 : Int32, x2 = s.1 + 1 → ∀ x3 : Int32, x3 = nI i + 1 → wY_count_4 post w n x2 x3 f_depth a_cells a_heights a_rows a_leads) ∧ (¬ r = w → ∀ x3 : Int32, x3 = nI i + 1 → wY_count_4 post w n s.1 x3 f_depth a_cells a_heights a_rows a_leads))) (nI (m + 1), s.2, hy, ro, le) x := by
      intro x ex
      rw [ex, e]
      refine gy_value (post := _) m hm (Fin.ofNat 101 i) F (fz_f12_at hs.2 (by omega) hp) (fz_f12_at hs.2 (by omega) hq) (fun c1 k1 => ?_)
      dsimp only
      rw [← e]
      by_cases y : fz_ans P Q (Fin.ofNat 101 i) = w
      · rw [if_pos y] at ec
        refine br_t y ?_
        refine nm_r (e' := nI (fz_cnt P Q w i + 1)) (by rw [hs.1, nI_1]) ?_
        refine nm_r (nI_1 i) ?_
        exact ih (nI (fz_cnt P Q w i + 1), c1) ⟨by rw [ec], fz_f12_tr hs.2 k1⟩
      · rw [if_neg y] at ec
        refine br_f y ?_
        refine nm_r (nI_1 i) ?_
        exact ih (_, c1) ⟨by rw [ec]; exact hs.1, fz_f12_tr hs.2 k1⟩
    exact key _ rfl
theorem i_vc_zeros {k : Nat} {u : SX} {v : SY} (I : i_Rel k u v) (hk : k + 3 ≤ 1536) : wpX_zeros (fun r u' => wpY_zeros (fun r' v' => r' = r ∧ i_Rel (k + 3) u' v') v) u := by
  obtain ⟨c, sA, sB, hh, lA, lB, rA, rB, zA, zB, cm, rm, qt⟩ := u
  obtain ⟨dp, ce, hy, ro, le⟩ := v
  have I0 := I
  obtain ⟨d, hd, e1, e2, hs⟩ := I
  dsimp only at e1 e2 hs
  subst e1 e2
  by_cases h1 : 1 ≤ d
  · obtain ⟨m, rfl⟩ : ∃ m, d = m + 1 := ⟨d - 1, by omega⟩
    obtain ⟨h, P, Q, p, q, F, x0, y0, hP, hQ, hp, hq⟩ := hs m (by omega)
    refine br_t (nI_le (a := 1) (by omega) (by omega)) ?_
    refine gx_count (post := _) m (by omega) 0 hP hQ (fun a1 a2 => ?_)
    refine br_f (nI_ne0 (by omega) (by omega)) ?_
    refine gy_cnt (post := _) m (by omega) 0 F hp hq (fun c1 k1 => ?_)
    exact ⟨rfl, m + 1, hd, rfl, rfl, gr_f12 hd hs k1⟩
  · have d0 : d = 0 := by omega
    subst d0
    exact br_f (by decide) (br_t rfl ⟨rfl, I0⟩)
theorem i_vc_poles {k : Nat} {u : SX} {v : SY} (I : i_Rel k u v) (hk : k + 3 ≤ 1536) : wpX_poles (fun r u' => wpY_poles (fun r' v' => r' = r ∧ i_Rel (k + 3) u' v') v) u := by
  obtain ⟨c, sA, sB, hh, lA, lB, rA, rB, zA, zB, cm, rm, qt⟩ := u
  obtain ⟨dp, ce, hy, ro, le⟩ := v
  have I0 := I
  obtain ⟨d, hd, e1, e2, hs⟩ := I
  dsimp only at e1 e2 hs
  subst e1 e2
  by_cases h1 : 1 ≤ d
  · obtain ⟨m, rfl⟩ : ∃ m, d = m + 1 := ⟨d - 1, by omega⟩
    obtain ⟨h, P, Q, p, q, F, x0, y0, hP, hQ, hp, hq⟩ := hs m (by omega)
    refine br_t (nI_le (a := 1) (by omega) (by omega)) ?_
    refine gx_count (post := _) m (by omega) (-4) hP hQ (fun a1 a2 => ?_)
    refine br_f (nI_ne0 (by omega) (by omega)) ?_
    refine gy_cnt (post := _) m (by omega) (-4) F hp hq (fun c1 k1 => ?_)
    exact ⟨rfl, m + 1, hd, rfl, rfl, gr_f12 hd hs k1⟩
  · have d0 : d = 0 := by omega
    subst d0
    exact br_f (by decide) (br_t rfl ⟨rfl, I0⟩)
