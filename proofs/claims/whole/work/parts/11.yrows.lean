/-! the reference's rows: startRow, clearLead, settle -/
def fz_jn (L R : Nat → Fin 101) : Nat → Fin 101 := fun k => if k < 13 then L k else R (k - 13)
def fz_rw (ro : Nat → Int32) (j : Nat) (L R : Nat → Fin 101) : Prop := ∀ k, k < 26 → ro (26 * j + k) = fz_c (fz_jn L R k)
def fz_rf (ro ro' : Nat → Int32) (r : Nat) : Prop := ∀ j, j ≠ r → ∀ k, k < 26 → ro' (26 * j + k) = ro (26 * j + k)
theorem fz_rf_rfl (ro : Nat → Int32) (r : Nat) : fz_rf ro ro r := fun _ _ _ _ => rfl
theorem fz_rf_up {ro ro' : Nat → Int32} {r k : Nat} {v : Int32} (h : fz_rf ro ro' r) (hk : k < 26) : fz_rf ro (upd ro' (26 * r + k) v) r := fun s hs j hj => by
  rw [pk_un (by omega)]
  exact h s hs j hj
theorem fz_rf_rw {ro ro' : Nat → Int32} {r j : Nat} {L R : Nat → Fin 101} (h : fz_rf ro ro' r) (hj : j ≠ r) (hw : fz_rw ro j L R) : fz_rw ro' j L R := fun k hk => by
  rw [h j hj k hk]
  exact hw k hk
theorem fz_rf_tr {ro ro' ro'' : Nat → Int32} {r : Nat} (h : fz_rf ro ro' r) (h' : fz_rf ro' ro'' r) : fz_rf ro ro'' r := fun j hj k hk => (h' j hj k hk).trans (h j hj k hk)
theorem fz_rw_L {ro : Nat → Int32} {j : Nat} {L R : Nat → Fin 101} (h : fz_rw ro j L R) {k : Nat} (hk : k < 13) : ro (26 * j + k) = fz_c (L k) := by
  rw [h k (by omega)]
  show fz_c (if k < 13 then L k else R (k - 13)) = _
  rw [if_pos hk]
theorem fz_rw_R {ro : Nat → Int32} {j : Nat} {L R : Nat → Fin 101} (h : fz_rw ro j L R) {k : Nat} (hk : k < 13) : ro (26 * j + 13 + k) = fz_c (R k) := by
  rw [show 26 * j + 13 + k = 26 * j + (13 + k) by omega, h (13 + k) (by omega)]
  show fz_c (if 13 + k < 13 then L (13 + k) else R (13 + k - 13)) = _
  rw [if_neg (by omega), Nat.add_sub_cancel_left]
theorem fz_rw_mk {ro : Nat → Int32} {j : Nat} {L R : Nat → Fin 101} (h : ∀ k, k < 13 → ro (26 * j + k) = fz_c (L k)) (h' : ∀ k, k < 13 → ro (26 * j + 13 + k) = fz_c (R k)) : fz_rw ro j L R := fun k hk => by
  show _ = fz_c (if k < 13 then L k else R (k - 13))
  by_cases c : k < 13
  · rw [if_pos c]
    exact h k c
  · rw [if_neg c, ← h' (k - 13) (by omega)]
    congr 1
    omega
theorem fz_jn_sub (L R L' R' : Nat → Fin 101) (c : Fin 101) (k : Nat) : fz_jn (fz_d L (fz_m (fz_o 0 c) L')) (fz_d R (fz_m (fz_o 0 c) R')) k = fz_jn L R k - c * fz_jn L' R' k := by
  rw [fz_m_const, fz_m_const]
  show (if k < 13 then L k - c * L' k else R (k - 13) - c * R' (k - 13)) = (if k < 13 then L k else R (k - 13)) - c * (if k < 13 then L' k else R' (k - 13))
  split <;> rfl
theorem fz_jn_sc (L R : Nat → Fin 101) (c : Fin 101) (k : Nat) : fz_jn (fz_m (fz_o 0 c) L) (fz_m (fz_o 0 c) R) k = fz_jn L R k * c := by
  rw [fz_m_const, fz_m_const]
  show (if k < 13 then c * L k else c * R (k - 13)) = (if k < 13 then L k else R (k - 13)) * c
  split <;> grind
theorem fz_iy (s k : Nat) : 26 * nI s + nI k = nI (26 * s + k) := by
  rw [show (26 : Int32) = nI 26 from rfl, pk_mul, nI_add]
theorem fz_iz (s k : Nat) : 26 * nI s + 13 + nI k = nI (26 * s + 13 + k) := by
  rw [show (26 : Int32) = nI 26 from rfl, show (13 : Int32) = nI 13 from rfl, pk_mul, nI_add, nI_add]
section
variable {dp : Int32} {ce hy ro le : Nat → Int32}
theorem gy_start {post : SY → Prop} {x : Int32} {M : Nat → Fin 101} (row : Nat) (hr : row < 13) (ex : x = nI row) (hM : fz_at ce (25 * 16) M) (K : ∀ ro', fz_rw ro' row M (fz_o row 1) → fz_rf ro ro' row → post (dp, ce, hy, ro', le)) : wpY_startRow post (dp, ce, hy, ro, le) x := by
  subst ex
  refine pk_loop (fun n i t => wY_startRow_2 post (nI row) dp n (nI i) ce hy t le) (fun i t => (∀ k, k < i → t (26 * row + k) = fz_c (M k)) ∧ (∀ k, k < i → t (26 * row + 13 + k) = fz_c (fz_o row 1 k)) ∧ fz_rf ro t row) 13 0 ro (by omega) ⟨fun k h => by omega, fun k h => by omega, fz_rf_rfl ro row⟩ ?_ ?_
  · intro n t h
    exact br_t (by decide) (K t (fz_rw_mk h.1 h.2.1) h.2.2)
  · intro n i t hi h ih
    refine br_f (nI_ge (b := 13) hi (by decide)) ?_
    refine gy_get (post := _) 16 i (by omega) (by omega) rfl rfl ?_
    rw [hM i (by omega)]
    refine ⟨by rw [fz_iy]; exact vp_in_nI (by omega) (by decide), ?_⟩
    refine nm_r (e' := upd t (26 * row + i) (fz_c (M i))) (by rw [fz_iy, nI_clamp (by omega)]) ?_
    have fin : ∀ v, v = fz_c (fz_o row 1 i) → wY_startRow_2 post (nI row) dp n (nI (i + 1)) ce hy (upd (upd t (26 * row + i) (fz_c (M i))) (26 * row + 13 + i) v) le := by
      intro v hv
      refine ih _ ⟨fun k hk => ?_, fun k hk => ?_, ?_⟩
      · rw [pk_un (by omega)]
        exact fz_upo h.1 rfl k hk
      · refine fz_upo (fun k hk => ?_) hv k hk
        rw [pk_un (by omega)]
        exact h.2.1 k hk
      · rw [show 26 * row + 13 + i = 26 * row + (13 + i) by omega]
        exact fz_rf_up (fz_rf_up h.2.2 (by omega)) (by omega)
    by_cases d : i = row
    · refine br_t (by rw [d]) ⟨by rw [fz_iz]; exact vp_in_nI (by omega) (by decide), ?_⟩
      refine nm_r (e' := upd (upd t (26 * row + i) (fz_c (M i))) (26 * row + 13 + i) 1) (by rw [fz_iz, nI_clamp (by omega)]) ?_
      refine nm_r (nI_1 i) ?_
      refine fin 1 ?_
      show 1 = fz_c (if i = row then 1 else 0)
      rw [if_pos d]
      rfl
    · refine br_f (by rw [nI_eq (by omega) (by omega)]; exact d) ⟨by rw [fz_iz]; exact vp_in_nI (by omega) (by decide), ?_⟩
      refine nm_r (e' := upd (upd t (26 * row + i) (fz_c (M i))) (26 * row + 13 + i) 0) (by rw [fz_iz, nI_clamp (by omega)]) ?_
      refine nm_r (nI_1 i) ?_
      refine fin 0 ?_
      show 0 = fz_c (if i = row then 1 else 0)
      rw [if_neg d]
      rfl
theorem gy_clear {post : SY → Prop} {L R L' R' : Nat → Fin 101} (row b l : Nat) (hr : row < 13) (hb : b < 13) (hn : b ≠ row) (hl : l < 13) (el : le b = nI l) (hw : fz_rw ro row L R) (hw' : fz_rw ro b L' R') (K : ∀ ro', fz_rw ro' row (fz_d L (fz_m (fz_o 0 (L l)) L')) (fz_d R (fz_m (fz_o 0 (L l)) R')) → fz_rf ro ro' row → post (dp, ce, hy, ro', le)) : wpY_clearLead post (dp, ce, hy, ro, le) (nI row) (nI b) := by
  refine ⟨vp_in_nI hb (by decide), ?_⟩
  rw [nI_clamp (by omega), el, fz_iy]
  refine ⟨vp_in_nI (by omega) (by decide), ?_⟩
  refine nm_r (e' := fz_c (L l)) (by rw [nI_clamp (by omega)]; exact fz_rw_L hw hl) ?_
  refine pk_loop (fun n i t => wY_clearLead_20 post (nI row) (nI b) (fz_c (L l)) dp n (nI i) ce hy t le) (fun i t => (∀ k, k < i → t (26 * row + k) = fz_c (fz_jn (fz_d L (fz_m (fz_o 0 (L l)) L')) (fz_d R (fz_m (fz_o 0 (L l)) R')) k)) ∧ (∀ k, i ≤ k → k < 26 → t (26 * row + k) = fz_c (fz_jn L R k)) ∧ fz_rf ro t row) 26 0 ro (by omega) ⟨fun k h => by omega, fun k _ h => hw k h, fz_rf_rfl ro row⟩ ?_ ?_
  · intro n t h
    exact br_t (by decide) (K t h.1 h.2.2)
  · intro n i t hi h ih
    refine br_f (nI_ge (b := 26) hi (by decide)) ?_
    rw [fz_iy, fz_iy]
    refine ⟨vp_in_nI (by omega) (by decide), vp_in_nI (by omega) (by decide), fz_nz101, vp_in_nI (by omega) (by decide), ?_⟩
    refine nm_r (e' := upd t (26 * row + i) (fz_c (fz_jn L R i - L l * fz_jn L' R' i))) (by rw [nI_clamp (by omega), nI_clamp (by omega), h.2.1 i (by omega) hi, fz_rf_rw h.2.2 hn hw' i hi, fz_rem_ms]) ?_
    refine nm_r (nI_1 i) ?_
    exact ih _ ⟨fz_upo h.1 (by rw [fz_jn_sub]), fun k h1 h2 => by rw [pk_un (by omega)]; exact h.2.1 k (by omega) h2, fz_rf_up h.2.2 hi⟩
theorem gy_scale {post : Int32 → SY → Prop} {L R : Nat → Fin 101} (row : Nat) (u : Fin 101) (hr : row < 13) (hw : fz_rw ro row L R) (K : ∀ ro', fz_rw ro' row (fz_m (fz_o 0 u) L) (fz_m (fz_o 0 u) R) → fz_rf ro ro' row → post 1 (dp, ce, hy, ro', le)) : ∃ n, wY_settle_89 post (nI row) (fz_c u) dp n 0 ce hy ro le := by
  refine pk_loop (fun n i t => wY_settle_89 post (nI row) (fz_c u) dp n (nI i) ce hy t le) (fun i t => (∀ k, k < i → t (26 * row + k) = fz_c (fz_jn (fz_m (fz_o 0 u) L) (fz_m (fz_o 0 u) R) k)) ∧ (∀ k, i ≤ k → k < 26 → t (26 * row + k) = fz_c (fz_jn L R k)) ∧ fz_rf ro t row) 26 0 ro (by omega) ⟨fun k h => by omega, fun k _ h => hw k h, fz_rf_rfl ro row⟩ ?_ ?_
  · intro n t h
    exact br_t (by decide) (K t h.1 h.2.2)
  · intro n i t hi h ih
    refine br_f (nI_ge (b := 26) hi (by decide)) ?_
    rw [fz_iy]
    refine ⟨vp_in_nI (by omega) (by decide), fz_nz101, vp_in_nI (by omega) (by decide), ?_⟩
    refine nm_r (e' := upd t (26 * row + i) (fz_c (fz_jn L R i * u))) (by rw [nI_clamp (by omega), h.2.1 i (by omega) hi, fz_rem_m]) ?_
    refine nm_r (nI_1 i) ?_
    exact ih _ ⟨fz_upo h.1 (by rw [fz_jn_sc]), fun k h1 h2 => by rw [pk_un (by omega)]; exact h.2.1 k (by omega) h2, fz_rf_up h.2.2 hi⟩
theorem gy_settle25 {post : Int32 → SY → Prop} {L R : Nat → Fin 101} (row : Nat) (hr : row < 13) (hw : fz_rw ro row L R) (lL : fz_l L 13) (K0 : L = fz_o 0 0 → post 0 (dp, ce, hy, ro, le))
    (K1 : ∀ ld ro', ld < 13 → L ld ≠ 0 → fz_rw ro' row (fz_m (fz_o 0 (fz_i (L ld))) L) (fz_m (fz_o 0 (fz_i (L ld))) R) → fz_rf ro ro' row → post 1 (dp, ce, hy, ro', upd le row (nI ld))) : ∃ n, wY_settle_25 post (nI row) dp ce hy ro le n 13 12 := by
  have key := pk_loopD (fun n j (x : Int32) => wY_settle_25 post (nI row) dp ce hy ro le n x (fz_d1 j)) (fun j x => j ≤ 13 ∧ ((x = nI 13 ∧ ∀ k, j ≤ k → k < 13 → L k = 0) ∨ ∃ m, m < 13 ∧ x = nI m ∧ L m ≠ 0)) (fun n x h => by
    refine br_t (by decide) ?_
    rcases h.2 with ⟨e, h⟩ | ⟨m, hm, e, hn⟩
    · refine br_t e ?_
      refine K0 (fz_l_0 (fun k _ => ?_))
      by_cases d : k < 13
      · exact h k (by omega) d
      · exact lL k (by omega)
    · rw [e]
      refine br_f (by rw [show (13 : Int32) = nI 13 from rfl, nI_eq (by omega) (by omega)]; omega) ⟨vp_in_nI hr (by decide), ?_⟩
      refine nm_r (e' := upd le row (nI m)) (by rw [nI_clamp (by omega)]) ?_
      refine ⟨by rw [fz_iy]; exact vp_in_nI (by omega) (by decide), ?_⟩
      refine gy_inv (post := _) (L m) hn (by rw [fz_iy, nI_clamp (by omega)]; exact fz_rw_L hw hm) ?_
      exact gy_scale row _ hr hw (fun ro' h1 h2 => K1 m ro' hm hn h1 h2)) (fun n j x h ih => by
    refine br_f (nI_pos (by omega)) ?_
    rw [show 26 * nI row + fz_d1 (j + 1) = nI (26 * row + j) from fz_iy row j]
    refine ⟨vp_in_nI (by omega) (by decide), ?_⟩
    rw [nI_clamp (by omega), fz_rw_L hw (by omega)]
    by_cases z : L j = 0
    · refine br_t (fz_c_z.mpr z) ?_
      refine nm_r (fz_d1_s j) ?_
      refine ih _ ⟨by omega, ?_⟩
      rcases h.2 with ⟨e, h⟩ | ⟨m, hm, e, hn⟩
      · refine Or.inl ⟨e, fun k k1 k2 => ?_⟩
        by_cases d : k = j
        · rw [d]; exact z
        · exact h k (by omega) k2
      · exact Or.inr ⟨m, hm, e, hn⟩
    · refine br_f (fun y => z (fz_c_z.mp y)) ?_
      refine nm_r (fz_d1_s j) ?_
      exact ih _ ⟨by omega, Or.inr ⟨j, by omega, rfl, z⟩⟩)
  exact ⟨14, key 13 13 ⟨by omega, Or.inl ⟨rfl, fun k h1 h2 => by omega⟩⟩⟩
theorem gy_settle {post : Int32 → SY → Prop} {p q L R : Nat → Fin 101} {n : Nat} {LL RR : Nat → Nat → Fin 101} {l : Nat → Nat} (row : Nat) (hr : row < 13) (hn : n ≤ 12) (ri : fz_ri p q n LL RR l row) (hrw : ∀ j, j < row → fz_rw ro j (LL j) (RR j)) (hle : ∀ j, j < row → le j = nI (l j) ∧ l j < 13) (hw : fz_rw ro row L R) (re : fz_re p q n R L) (mo : fz_mo R row)
    (K0 : ∀ ro' L' R', fz_rw ro' row L' R' → fz_rf ro ro' row → fz_re p q n R' L' → fz_mo R' row → L' = fz_o 0 0 → post 0 (dp, ce, hy, ro', le))
    (K1 : ∀ ro' L' R' ld, fz_re p q n R' L' → fz_mo R' row → (∀ j, j < row → L' (l j) = 0) → ld < 13 → L' ld ≠ 0 → fz_rw ro' row (fz_m (fz_o 0 (fz_i (L' ld))) L') (fz_m (fz_o 0 (fz_i (L' ld))) R') → fz_rf ro ro' row → post 1 (dp, ce, hy, ro', upd le row (nI ld))) : wpY_settle post (dp, ce, hy, ro, le) (nI row) := by
  refine pk_loop (fun n b t => wY_settle_2 post (nI row) n (nI b) dp ce hy t le) (fun b t => ∃ L' R', fz_rw t row L' R' ∧ fz_rf ro t row ∧ fz_re p q n R' L' ∧ fz_mo R' row ∧ ∀ j, j < b → L' (l j) = 0) row 0 ro (by omega) ⟨L, R, hw, fz_rf_rfl ro row, re, mo, fun j h => by omega⟩ ?_ ?_
  · intro nn t h
    obtain ⟨L', R', h1, h2, h3, h4, h5⟩ := h
    refine br_t (nI_le (Nat.le_refl row) (by omega)) ?_
    have lL : fz_l L' 13 := by
      obtain ⟨s, _, _, lt⟩ := h3
      exact fz_l_mono lt (by omega)
    refine gy_settle25 row hr h1 lL (fun z => K0 t L' R' h1 h2 h3 h4 z) (fun ld ro' k1 k2 k3 k4 => ?_)
    exact K1 ro' L' R' ld h3 h4 h5 k1 k2 k3 (fz_rf_tr h2 k4)
  · intro nn b t hb h ih
    obtain ⟨L', R', h1, h2, h3, h4, h5⟩ := h
    obtain ⟨r1, r2, r3, r4, r5⟩ := ri b hb
    refine br_f (nI_ge hb (by omega)) ?_
    refine gy_clear (post := _) row b (l b) hr (by omega) (by omega) (hle b hb).2 (hle b hb).1 h1 (fz_rf_rw h2 (by omega) (hrw b hb)) (fun ro' k1 k2 => ?_)
    refine nm_r (nI_1 b) ?_
    refine ih ro' ⟨_, _, k1, fz_rf_tr h2 k2, fz_re_sub _ h3 r1, ⟨?_, fun k hk => ?_⟩, fun j hj => ?_⟩
    · rw [fz_m_const]
      show R' row - L' (l b) * RR b row = 1
      rw [h4.1, r3 row (by omega)]
      grind
    · rw [fz_m_const]
      show R' k - L' (l b) * RR b k = 0
      rw [h4.2 k hk, r3 k (by omega)]
      grind
    · rw [fz_m_const]
      show L' (l j) - L' (l b) * LL b (l j) = 0
      by_cases d : j = b
      · rw [d, r4]
        grind
      · rw [h5 j (by omega), r5 j (by omega)]
        grind
end
