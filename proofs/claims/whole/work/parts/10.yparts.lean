/-! the reference's fractionAt, reduce, findDerivative -/
theorem fz_h_o (a c : Fin 101) : fz_h 25 (fz_o 0 c) a = c := fz_v_uniq (fz_v_h a (fz_l_o (by omega))) (fz_v_o a c)
theorem fz_ans_0 {P Q : Nat → Fin 101} (a : Fin 101) (h : fz_low P Q) (z : P = fz_o 0 0) : fz_ans P Q a = 0 := by
  have e := (fz_uniq h fz_low_01 (by rw [z, fz_m_zero, fz_m_zero])).2
  rw [fz_ans, z, e, fz_h_o, fz_h_o, if_neg (by decide)]
  have : (0 : Fin 101) * fz_i 1 = 0 := by grind
  rw [this]
  rfl
theorem fz_q_m {f : Nat → Fin 101} {a : Fin 101} (h : fz_l f 25) (z : fz_h 25 f a = 0) : f = fz_m (fz_x a) (fz_q 25 f a) := by
  have e := fz_h_split a h
  rw [z, fz_a_z] at e
  exact e
theorem fz_q_p (f : Nat → Fin 101) (a : Fin 101) : fz_p (fz_q 25 f a) := ⟨_, fz_q_l f a⟩
theorem fz_r_xc {R : Type} [Lean.Grind.CommRing R] {P Q x f g f' g' : R} (h : P * g' = f' * Q) (hf : f' = x * f) (hg : g' = x * g) : x * (P * g) = x * (f * Q) := by grind
theorem fz_d1_lt {d : Nat} (h : d < 2 ^ 31) : fz_d1 d < nI d := by
  cases d with
  | zero => decide
  | succ d => exact nI_lt (by omega) h
def fz_rdi (f g : Nat → Fin 101) (j d : Nat) (sc : Fin 101) (i : Nat) : Nat → Fin 101 := fun k => if j + d < k + i ∧ j ≤ k ∧ k ≤ j + d then f k - sc * g (k - j) else f k
theorem fz_rdi_0 (f g : Nat → Fin 101) (j d : Nat) (sc : Fin 101) : fz_rdi f g j d sc 0 = f := funext (fun k => if_neg (by omega))
theorem fz_rdi_at (f g : Nat → Fin 101) (j d : Nat) (sc : Fin 101) {i : Nat} (hi : i ≤ d) : fz_rdi f g j d sc i (j + d - i) = f (j + d - i) := if_neg (by omega)
theorem fz_rdi_s (f g : Nat → Fin 101) (j d : Nat) (sc : Fin 101) {i : Nat} (hi : i ≤ d) : fz_rdi f g j d sc (i + 1) (j + d - i) = f (j + d - i) - sc * g (d - i) := by
  show (if j + d < j + d - i + (i + 1) ∧ j ≤ j + d - i ∧ j + d - i ≤ j + d then f (j + d - i) - sc * g (j + d - i - j) else f (j + d - i)) = _
  rw [if_pos (by omega), show j + d - i - j = d - i by omega]
theorem fz_rdi_o (f g : Nat → Fin 101) (j d : Nat) (sc : Fin 101) {i : Nat} (hi : i ≤ d) : ∀ k, k ≠ j + d - i → fz_rdi f g j d sc (i + 1) k = fz_rdi f g j d sc i k := fun k hk => by
  show (if j + d < k + (i + 1) ∧ j ≤ k ∧ k ≤ j + d then f k - sc * g (k - j) else f k) = (if j + d < k + i ∧ j ≤ k ∧ k ≤ j + d then f k - sc * g (k - j) else f k)
  by_cases c : j + d < k + i ∧ j ≤ k ∧ k ≤ j + d
  · rw [if_pos c, if_pos (by omega)]
  · rw [if_neg c, if_neg (by omega)]
theorem fz_rdi_e {f g : Nat → Fin 101} {j d : Nat} {sc : Fin 101} (lg : fz_l g (d + 1)) : fz_rdi f g j d sc (d + 1) = fz_d f (fz_m (fz_o j sc) g) := by
  funext k
  show (if j + d < k + (d + 1) ∧ j ≤ k ∧ k ≤ j + d then f k - sc * g (k - j) else f k) = f k - fz_m (fz_o j sc) g k
  rw [fz_m_mono]
  by_cases c : j ≤ k
  · rw [if_pos c]
    by_cases e : k ≤ j + d
    · rw [if_pos (by omega)]
    · rw [if_neg (by omega), lg (k - j) (by omega)]
      grind
  · rw [if_neg (by omega), if_neg c]
    grind
def fz_fr2 (ce ce' : Nat → Int32) (r r' : Nat) : Prop := ∀ s, s ≠ r → s ≠ r' → ∀ k, k < 25 → ce' (25 * s + k) = ce (25 * s + k)
theorem fz_fr2_at {ce ce' : Nat → Int32} {r r' s : Nat} {f : Nat → Fin 101} (h : fz_fr2 ce ce' r r') (hs : s ≠ r) (hs' : s ≠ r') (hf : fz_at ce (25 * s) f) : fz_at ce' (25 * s) f := fun k hk => by
  rw [h s hs hs' k hk]
  exact hf k hk
theorem fz_r_fd {R : Type} [Lean.Grind.CommRing R] (a b : R) : a - b = a + (-1) * b := by grind
section
variable {dp : Int32} {ce hy ro le : Nat → Int32}
theorem gy_fr61 {post : Int32 → SY → Prop} {P Q f g : Nat → Fin 101} (a : Fin 101) (hc : fz_co P Q) (lP : fz_l P 25) (lQ : fz_l Q 25) (lf : fz_l f 25) (lg : fz_l g 25) (hf : fz_at ce (25 * 18) f) (hg : fz_at ce (25 * 19) g) (e : fz_m P g = fz_m f Q) (hn : ¬ (fz_h 25 f a = 0 ∧ fz_h 25 g a = 0))
    (K : post (fz_ans P Q a) (dp, ce, hy, ro, le)) : wY_fractionAt_61 post (fz_c a) dp ce hy ro le := by
  have hv := fz_val hc e (fz_v_h a lP) (fz_v_h a lQ) (fz_v_h a lf) (fz_v_h a lg) hn
  refine gy_val (post := _) 19 a (by omega) rfl rfl hg ?_
  by_cases z : fz_h 25 g a = 0
  · refine br_t (fz_c_z.mpr z) ?_
    rw [fz_ans, if_pos (hv.1 z)] at K
    exact K
  · refine br_f (fun y => z (fz_c_z.mp y)) ?_
    refine gy_val (post := _) 18 a (by omega) rfl rfl hf ?_
    refine gy_inv (post := _) _ z rfl ?_
    refine ⟨fz_nz101, ?_⟩
    rw [fz_rem_m, ← (hv.2 z).2]
    rw [fz_ans, if_neg (hv.2 z).1] at K
    exact K
theorem gy_fr24 {post : Int32 → SY → Prop} {P Q : Nat → Fin 101} (a : Fin 101) (hL : fz_low P Q) (lP : fz_l P 25) (lQ : fz_l Q 25) (K : ∀ ce', fz_fr2 ce ce' 18 19 → post (fz_ans P Q a) (dp, ce', hy, ro, le)) : ∀ (n m : Nat) (ce1 : Nat → Int32) (f g : Nat → Fin 101), m < n → m < 25 → fz_e f m → fz_l g 25 → g ≠ fz_o 0 0 → fz_at ce1 (25 * 18) f → fz_at ce1 (25 * 19) g → fz_m P g = fz_m f Q → fz_fr2 ce ce1 18 19 → wY_fractionAt_24 post (fz_c a) n dp ce1 hy ro le := by
  intro n
  induction n with
  | zero => intro m ce1 f g h; omega
  | succ n ih =>
    intro m ce1 f g hmn hm hf lg ng h18 h19 e fr
    have lf : fz_l f 25 := fz_l_mono hf.2 (by omega)
    refine gy_val (post := _) 18 a (by omega) rfl rfl h18 ?_
    by_cases z : fz_h 25 f a = 0
    · refine br_t (fz_c_z.mpr z) ?_
      refine gy_val (post := _) 19 a (by omega) rfl rfl h19 ?_
      by_cases z' : fz_h 25 g a = 0
      · refine br_t (fz_c_z.mpr z') ?_
        refine gy_dout (post := _) 18 a (by omega) rfl rfl h18 (fun c1 k1 k2 => ?_)
        refine gy_dout (post := _) 19 a (by omega) rfl rfl (fz_fr_at k2 (by omega) h19) (fun c2 k3 k4 => ?_)
        have ef := fz_q_m lf z
        have eg := fz_q_m lg z'
        have nf' : fz_q 25 f a ≠ fz_o 0 0 := fun y => fz_e_ne hf (by rw [ef, y, fz_m_comm, fz_m_zero])
        have ng' : fz_q 25 g a ≠ fz_o 0 0 := fun y => ng (by rw [eg, y, fz_m_comm, fz_m_zero])
        obtain ⟨i, hi⟩ := fz_e_exp (fz_q_p f a) nf'
        have hx := fz_e_m (fz_x_e a) hi
        rw [← ef] at hx
        have d1 := fz_e_lt hx hf.2
        refine ih i c2 (fz_q 25 f a) (fz_q 25 g a) (by omega) (by omega) hi (fz_l_mono (fz_q_l g a) (by omega)) ng' (fz_fr_at k4 (by omega) k1) k3 ?_ ?_
        · exact fz_cancel (fz_e_p (fz_x_e a)) (fz_p_m hL.1 (fz_q_p g a)) (fz_p_m (fz_q_p f a) ⟨_, lQ⟩) (fz_e_ne (fz_x_e a)) (@fz_r_xc _ fz_ring P Q (fz_x a) (fz_q 25 f a) (fz_q 25 g a) f g e ef eg)
        · intro s n1 n2 k hk
          rw [k4 s n2 k hk, k2 s n1 k hk]
          exact fr s n1 n2 k hk
      · refine br_f (fun y => z' (fz_c_z.mp y)) ?_
        exact gy_fr61 a hL.2.1 lP lQ lf lg h18 h19 e (fun y => z' y.2) (K ce1 fr)
    · refine br_f (fun y => z (fz_c_z.mp y)) ?_
      exact gy_fr61 a hL.2.1 lP lQ lf lg h18 h19 e (fun y => z y.1) (K ce1 fr)
theorem gy_frac {post : Int32 → SY → Prop} {p q x : Int32} {P Q f g : Nat → Fin 101} (s r : Nat) (a : Fin 101) (hs : s < 18) (hr : r < 18) (ep : p = nI s) (eq : q = nI r) (ex : x = fz_c a) (hL : fz_low P Q) (lP : fz_l P 25) (lQ : fz_l Q 25) (lf : fz_l f 25) (lg : fz_l g 25) (ng : g ≠ fz_o 0 0) (hf : fz_at ce (25 * s) f) (hg : fz_at ce (25 * r) g) (e : fz_m P g = fz_m f Q)
    (K : ∀ ce', fz_fr2 ce ce' 18 19 → post (fz_ans P Q a) (dp, ce', hy, ro, le)) : wpY_fractionAt post (dp, ce, hy, ro, le) p q x := by
  subst ex
  unfold wpY_fractionAt
  refine gy_deg (post := _) s (by omega) ep hf lf (fun z => ?_) (fun m hm he => ?_)
  · refine br_f (by decide) ?_
    have zP := (fz_zero_iff hL.1 (fz_low_pQ hL) ⟨_, lf⟩ ⟨_, lg⟩ (fz_low_nQ hL) ng e).mpr z
    have k := K ce (fun _ _ _ _ _ => rfl)
    rw [fz_ans_0 a hL zP] at k
    exact k
  · refine br_t (nI_pos' (by omega)) ?_
    refine gy_copy (post := _) s 18 (by omega) (by omega) (by omega) ep rfl hf (fun c1 k1 k2 => ?_)
    refine gy_copy (post := _) r 19 (by omega) (by omega) (by omega) eq rfl (fz_fr_at k2 (by omega) hg) (fun c2 k3 k4 => ?_)
    refine ⟨26, gy_fr24 (ce := ce) a hL lP lQ K 26 m c2 f g (by omega) hm he lg ng (fz_fr_at k4 (by omega) k1) k3 e ?_⟩
    intro t n1 n2 k hk
    rw [k4 t n2 k hk, k2 t n1 k hk]
theorem gy_redi {post : SY → Prop} {J30 : Int32 → Int32 → (Nat → Int32) → (Nat → Int32) → (Nat → Int32) → (Nat → Int32) → Prop} {x3 x5 : Int32} {f g : Nat → Fin 101} (p q d j : Nat) (sc : Fin 101) (hp : p < 22) (hq : q < 22) (hn : q ≠ p) (hj : j + d < 25) (hf : fz_at ce (25 * p) f) (hg : fz_at ce (25 * q) g) (lg : fz_l g (d + 1))
    (K : ∀ ce', fz_at ce' (25 * p) (fz_d f (fz_m (fz_o j sc) g)) → fz_fr ce ce' p → J30 (fz_d1 (j + d)) dp ce' hy ro le) : ∃ n, wY_reduce_67 post J30 (nI p) (nI q) x3 (nI d) x5 (nI (j + d)) (fz_c sc) n 0 dp ce hy ro le := by
  refine pk_loop (fun n i t => wY_reduce_67 post J30 (nI p) (nI q) x3 (nI d) x5 (nI (j + d)) (fz_c sc) n (nI i) dp t hy ro le) (fun i t => fz_at t (25 * p) (fz_rdi f g j d sc i) ∧ fz_fr ce t p) (d + 1) 0 ce (by omega) ⟨by rw [fz_rdi_0]; exact hf, fz_fr_rfl ce p⟩ ?_ ?_
  · intro n t h
    refine br_t (nI_lt (by omega) (by omega)) ?_
    refine nm_r (fz_d1_s (j + d)) ?_
    refine K t ?_ h.2
    rw [← fz_rdi_e lg]
    exact h.1
  · intro n i t hi h ih
    refine br_f (nI_nlt (by omega) (by omega)) ?_
    refine gy_get (post := _) p (j + d - i) hp (by omega) rfl (pk_sub (by omega)) ?_
    refine gy_get (post := _) q (d - i) hq (by omega) rfl (pk_sub (by omega)) ?_
    rw [h.1 (j + d - i) (by omega), fz_rdi_at _ _ _ _ _ (by omega), fz_fr_at h.2 hn hg (d - i) (by omega)]
    refine gy_put (post := _) p (j + d - i) (f (j + d - i) - sc * g (d - i)) hp (by omega) rfl (pk_sub (by omega)) (fz_rem_ms _ _ _) ?_
    refine nm_r (nI_1 i) ?_
    exact ih _ ⟨fz_at_up h.1 (by rw [fz_rdi_s _ _ _ _ _ (by omega)]) (fz_rdi_o f g j d sc (by omega)), fz_fr_up h.2 (by omega)⟩
theorem gy_red {post : SY → Prop} {xp xq xr : Int32} {f g : Nat → Fin 101} (p q r d : Nat) (hp : p < 22) (hq : q < 22) (hr : r < 22) (n1 : q ≠ p) (n2 : r ≠ p) (n3 : q ≠ r) (ep : xp = nI p) (eq : xq = nI q) (er : xr = nI r) (hd : d < 25) (hf : fz_at ce (25 * p) f) (lf : fz_l f 25) (hg : fz_at ce (25 * q) g) (he : fz_e g d)
    (K : ∀ ce' s t, fz_at ce' (25 * p) t → fz_at ce' (25 * r) s → fz_l s 25 → fz_l t d → f = fz_a (fz_m s g) t → fz_fr2 ce ce' p r → post (dp, ce', hy, ro, le)) : wpY_reduce post (dp, ce, hy, ro, le) xp xq xr := by
  subst ep eq er
  unfold wpY_reduce
  refine gy_deg (post := _) q hq rfl hg (fz_l_mono he.2 (by omega)) (fun z => absurd z (fz_e_ne he)) (fun m hm hme => ?_)
  have em : m = d := by
    have a := fz_e_lt hme he.2
    have b := fz_e_lt he hme.2
    omega
  subst em
  refine gy_get (post := _) q m hq hm rfl rfl ?_
  rw [hg m hm]
  refine gy_inv (post := _) (g m) he.1 rfl ?_
  refine gy_set (post := _) r 0 hr rfl rfl (fun c1 k1 k2 => ?_)
  have key := pk_loopD (fun n j (t : Nat → Int32) => wY_reduce_30 post (nI p) (nI q) (nI r) (nI m) (fz_c (fz_i (g m))) n (fz_d1 (j + m)) dp t hy ro le)
    (fun j t => ∃ Q u, fz_at t (25 * p) u ∧ fz_at t (25 * r) Q ∧ fz_l Q 25 ∧ (∀ k, k < j → Q k = 0) ∧ fz_l u (j + m) ∧ f = fz_a (fz_m Q g) u ∧ j + m ≤ 25 ∧ fz_fr2 ce t p r) (fun n t h => by
    obtain ⟨Q, u, h1, h2, h3, h4, h5, h6, h7, h8⟩ := h
    rw [Nat.zero_add] at h5
    refine br_t (by rw [Nat.zero_add]; exact fz_d1_lt (by omega)) ?_
    exact K t Q u h1 h2 h3 h5 h6 h8) (fun n j t h ih => by
    obtain ⟨Q, u, h1, h2, h3, h4, h5, h6, h7, h8⟩ := h
    have e6 : fz_d1 (j + 1 + m) = nI (j + m) := by
      rw [show j + 1 + m = j + m + 1 by omega]
      rfl
    rw [e6]
    refine br_f (nI_nlt (by omega) (by omega)) ?_
    refine gy_get (post := _) p (j + m) hp (by omega) rfl rfl ?_
    refine ⟨fz_nz101, ?_⟩
    refine nm_r (e' := fz_c (u (j + m) * fz_i (g m))) (by rw [h1 (j + m) (by omega), fz_rem_m]) ?_
    refine gy_put (post := _) r j (u (j + m) * fz_i (g m)) hr (by omega) rfl ((pk_sub (by omega)).trans (congrArg nI (by omega))) (fz_rem_1 _) ?_
    have fr1 : fz_fr t (upd t (25 * r + j) (fz_c (u (j + m) * fz_i (g m)))) r := fz_fr_up (fz_fr_rfl t r) (by omega)
    refine gy_redi p q m j _ hp hq n1 (by omega) (fz_fr_at fr1 (fun y => n2 y.symm) h1) (fz_fr_at fr1 n3 (fz_fr2_at h8 n1 n3 hg)) he.2 (fun c2 m1 m2 => ?_)
    refine ih c2 ⟨fz_a Q (fz_o j (u (j + m) * fz_i (g m))), _, m1, ?_, ?_, ?_, ?_, fz_div_inv _ h6, by omega, ?_⟩
    · refine fz_fr_at m2 n2 (fz_at_up h2 ?_ ?_)
      · show _ = fz_c (Q j + (if j = j then u (j + m) * fz_i (g m) else 0))
        rw [if_pos rfl, h4 j (by omega)]
        congr 1
        grind
      · intro k hk
        show Q k + (if k = j then u (j + m) * fz_i (g m) else 0) = Q k
        rw [if_neg hk]
        grind
    · exact fz_l_a h3 (fz_l_o (by omega))
    · intro k hk
      show Q k + (if k = j then u (j + m) * fz_i (g m) else 0) = 0
      rw [if_neg (by omega), h4 k (by omega)]
      rfl
    · exact fz_div_step he (by rw [show j + m + 1 = j + 1 + m by omega]; exact h5)
    · intro s a1 a2 k hk
      rw [m2 s a1 k hk, fr1 s a2 k hk]
      exact h8 s a1 a2 k hk)
  have e24 : (24 : Int32) = fz_d1 (25 - m + m) := by
    rw [Nat.sub_add_cancel (by omega)]
    rfl
  show ∃ n30 : Nat, wY_reduce_30 post (nI p) (nI q) (nI r) (nI m) (fz_c (fz_i (g m))) n30 24 dp c1 hy ro le
  rw [e24]
  exact ⟨_, key (25 - m) c1 ⟨fz_o 0 0, f, fz_fr_at k2 (fun y => n2 y.symm) hf, k1, fz_l_z 25, fun k _ => fz_o00 k, by rw [Nat.sub_add_cancel (by omega)]; exact lf, @fz_r_div0 _ fz_ring f g, by omega, fun s _ a2 k hk => k2 s a2 k hk⟩⟩
theorem gy_fder {post : SY → Prop} {x : Int32} {p q : Nat → Fin 101} (i : Nat) (hi : i < 6) (ex : x = nI i) (hp : fz_at ce (25 * (2 * i)) p) (hq : fz_at ce (25 * (2 * i + 1)) q) (lp : fz_l p 25) (lq : fz_l q 25)
    (K : ∀ ce', fz_at ce' (25 * 12) (fz_d (fz_m (fz_dv p) q) (fz_m p (fz_dv q))) → fz_at ce' (25 * 13) (fz_m q q) → (∀ s, s < 12 → ∀ k, k < 25 → ce' (25 * s + k) = ce (25 * s + k)) → post (dp, ce', hy, ro, le)) : wpY_findDerivative post (dp, ce, hy, ro, le) x := by
  subst ex
  have e0 : 2 * nI i = nI (2 * i) := pk_mul 2 i
  have e1 : 2 * nI i + 1 = nI (2 * i + 1) := (congrArg (· + 1) (pk_mul 2 i)).trans (nI_1 (2 * i))
  refine gy_set (post := _) 16 0 (by omega) rfl rfl (fun c1 a1 a2 => ?_)
  refine gy_set (post := _) 17 0 (by omega) rfl rfl (fun c2 a3 a4 => ?_)
  refine pk_loop (fun n j t => wY_findDerivative_16 post (nI i) n (nI j) dp t hy ro le) (fun j t => 1 ≤ j ∧ (∀ k, k + 1 < j → t (25 * 16 + k) = fz_c (fz_dv p k)) ∧ (∀ k, j ≤ k + 1 → k < 25 → t (25 * 16 + k) = 0) ∧ (∀ k, k + 1 < j → t (25 * 17 + k) = fz_c (fz_dv q k)) ∧ (∀ k, j ≤ k + 1 → k < 25 → t (25 * 17 + k) = 0) ∧ fz_fr2 ce t 16 17) 25 1 c2 (by omega) ⟨by omega, fun k h => by omega, fun k _ h => ?_, fun k h => by omega, fun k _ h => ?_, fun s b1 b2 k hk => ?_⟩ ?_ ?_
  · rw [fz_fr_at a4 (by omega) a1 k h, fz_o00]
    rfl
  · rw [a3 k h, fz_o00]
    rfl
  · rw [a4 s b2 k hk, a2 s b1 k hk]
  · intro n t h
    obtain ⟨_, h2, h3, h4, h5, h6⟩ := h
    have b16 : fz_at t (25 * 16) (fz_dv p) := fun k hk => by
      by_cases d : k = 24
      · subst d
        rw [h3 24 (by omega) hk, fz_dv_l (n := 24) lp 24 (by omega)]
        rfl
      · exact h2 k (by omega)
    have b17 : fz_at t (25 * 17) (fz_dv q) := fun k hk => by
      by_cases d : k = 24
      · subst d
        rw [h5 24 (by omega) hk, fz_dv_l (n := 24) lq 24 (by omega)]
        rfl
      · exact h4 k (by omega)
    have bp := fz_fr2_at h6 (s := 2 * i) (by omega) (by omega) hp
    have bq := fz_fr2_at h6 (s := 2 * i + 1) (by omega) (by omega) hq
    refine br_t (by decide) ?_
    refine gy_mul (post := _) 16 (2 * i + 1) 12 (by omega) (by omega) (by omega) (by omega) (by omega) rfl e1 rfl b16 bq (fun d1 m1 m2 => ?_)
    refine gy_mul (post := _) (2 * i) 17 18 (by omega) (by omega) (by omega) (by omega) (by omega) e0 rfl rfl (fz_fr_at m2 (by omega) bp) (fz_fr_at m2 (by omega) b17) (fun d2 m3 m4 => ?_)
    refine gy_add (post := _) 12 18 100 (by omega) (by omega) (by omega) rfl rfl rfl (fz_fr_at m4 (by omega) m1) m3 (fun d3 m5 m6 => ?_)
    have bq3 := fz_fr_at m6 (s := 2 * i + 1) (by omega) (fz_fr_at m4 (by omega) (fz_fr_at m2 (by omega) bq))
    refine gy_mul (post := _) (2 * i + 1) (2 * i + 1) 13 (by omega) (by omega) (by omega) (by omega) (by omega) e1 e1 rfl bq3 bq3 (fun d4 m7 m8 => ?_)
    rw [fz_o100] at m5
    have m5' : fz_at d3 (25 * 12) (fz_d (fz_m (fz_dv p) q) (fz_m p (fz_dv q))) := by
      rw [show fz_d (fz_m (fz_dv p) q) (fz_m p (fz_dv q)) = fz_a (fz_m (fz_dv p) q) (fz_m (fz_n (fz_o 0 1)) (fz_m p (fz_dv q))) from @fz_r_fd _ fz_ring (fz_m (fz_dv p) q) (fz_m p (fz_dv q))]
      exact m5
    refine K d4 (fz_fr_at m8 (by omega) m5') m7 (fun s hs k hk => ?_)
    rw [m8 s (by omega) k hk, m6 s (by omega) k hk, m4 s (by omega) k hk, m2 s (by omega) k hk]
    exact h6 s (by omega) (by omega) k hk
  · intro n j t hj h ih
    obtain ⟨h1, h2, h3, h4, h5, h6⟩ := h
    obtain ⟨j, rfl⟩ : ∃ j', j = j' + 1 := ⟨j - 1, by omega⟩
    refine br_f (nI_ge (b := 25) hj (by decide)) ?_
    refine gy_get (post := _) (2 * i) (j + 1) (by omega) hj e0 rfl ?_
    rw [fz_fr2_at h6 (s := 2 * i) (by omega) (by omega) hp (j + 1) hj]
    refine gy_put (post := _) 16 j (fz_dv p j) (by omega) (by omega) rfl (nI_pred j) (fz_rem_k (by omega) _) ?_
    refine gy_get (post := _) (2 * i + 1) (j + 1) (by omega) hj e1 rfl ?_
    rw [pk_un (by omega), fz_fr2_at h6 (s := 2 * i + 1) (by omega) (by omega) hq (j + 1) hj]
    refine gy_put (post := _) 17 j (fz_dv q j) (by omega) (by omega) rfl (nI_pred j) (fz_rem_k (by omega) _) ?_
    refine nm_r (nI_1 (j + 1)) ?_
    refine ih _ ⟨by omega, fun k hk => ?_, fun k k1 k2 => ?_, fun k hk => ?_, fun k k1 k2 => ?_, fun s b1 b2 k hk => ?_⟩
    · rw [pk_un (by omega)]
      by_cases d : k = j
      · subst d
        rw [pk_us]
      · rw [pk_un (by omega)]
        exact h2 k (by omega)
    · rw [pk_un (by omega), pk_un (by omega)]
      exact h3 k (by omega) k2
    · by_cases d : k = j
      · subst d
        rw [pk_us]
      · rw [pk_un (by omega), pk_un (by omega)]
        exact h4 k (by omega)
    · rw [pk_un (by omega), pk_un (by omega)]
      exact h5 k (by omega) k2
    · rw [pk_un (by omega), pk_un (by omega)]
      exact h6 s b1 b2 k hk
end
