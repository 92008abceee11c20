/-! the reference's loops over its cells -/
def fz_fr (ce ce' : Nat → Int32) (r : Nat) : Prop := ∀ s, s ≠ r → ∀ k, k < 25 → ce' (25 * s + k) = ce (25 * s + k)
theorem fz_fr_at {ce ce' : Nat → Int32} {r s : Nat} {f : Nat → Fin 101} (h : fz_fr ce ce' r) (hs : s ≠ r) (hf : fz_at ce (25 * s) f) : fz_at ce' (25 * s) f := fun k hk => by
  rw [h s hs k hk]
  exact hf k hk
theorem fz_fr_rfl (ce : Nat → Int32) (r : Nat) : fz_fr ce ce r := fun _ _ _ _ => rfl
theorem fz_fr_up {ce ce' : Nat → Int32} {r k : Nat} {v : Int32} (h : fz_fr ce ce' r) (hk : k < 25) : fz_fr ce (upd ce' (25 * r + k) v) r := fun s hs j hj => by
  rw [pk_un (by omega)]
  exact h s hs j hj
theorem fz_at_up {s : Nat → Int32} {F F' : Nat → Fin 101} {o m : Nat} {v : Int32} (h : fz_at s o F) (hv : v = fz_c (F' m)) (e : ∀ k, k ≠ m → F' k = F k) : fz_at (upd s (o + m) v) o F' := fun k hk => by
  by_cases d : k = m
  · subst d
    rw [pk_us, hv]
  · rw [pk_un (by omega), e k d]
    exact h k hk
theorem fz_ix (s k : Nat) : 25 * nI s + nI k = nI (25 * s + k) := by
  rw [show (25 : Int32) = nI 25 from rfl, pk_mul, nI_add]
section
variable {dp : Int32} {ce hy ro le : Nat → Int32}
theorem gy_get {post : Int32 → Prop} {p k0 : Int32} (s k : Nat) (hs : s < 22) (hk : k < 25) (ep : p = nI s) (ek : k0 = nI k) (K : post (ce (25 * s + k))) : wpY_get post (dp, ce, hy, ro, le) p k0 := by
  subst ep ek
  show vp_in (25 * nI s + nI k) 550 ∧ post (ce (25 * nI s + nI k).toNatClampNeg)
  rw [fz_ix, nI_clamp (by omega)]
  exact ⟨vp_in_nI (by omega) (by decide), K⟩
theorem gy_put {post : SY → Prop} {p k0 x : Int32} (s k : Nat) (v : Fin 101) (hs : s < 22) (hk : k < 25) (ep : p = nI s) (ek : k0 = nI k) (hv : x - x / 101 * 101 = fz_c v) (K : post (dp, upd ce (25 * s + k) (fz_c v), hy, ro, le)) : wpY_put post (dp, ce, hy, ro, le) p k0 x := by
  subst ep ek
  refine ⟨fz_nz101, ?_⟩
  rw [fz_ix, nI_clamp (by omega), hv]
  exact ⟨vp_in_nI (by omega) (by decide), nm_e K⟩
theorem gy_set {post : SY → Prop} {p x : Int32} (s : Nat) (v : Fin 101) (hs : s < 22) (ep : p = nI s) (ex : x = fz_c v) (K : ∀ ce', fz_at ce' (25 * s) (fz_o 0 v) → fz_fr ce ce' s → post (dp, ce', hy, ro, le)) : wpY_setConstant post (dp, ce, hy, ro, le) p x := by
  subst ep ex
  refine pk_loop (fun n i t => wY_setConstant_2 post (nI s) (fz_c v) n (nI i) dp t hy ro le) (fun i t => (∀ k, k < i → t (25 * s + k) = fz_c (fz_o 0 v k)) ∧ fz_fr ce t s) 25 0 ce (by omega) ⟨fun k h => by omega, fz_fr_rfl ce s⟩ ?_ ?_
  · intro n t h
    exact br_t (by decide) (K t h.1 h.2)
  · intro n i t hi h ih
    refine br_f (nI_ge (b := 25) hi (by decide)) ?_
    by_cases d : i = 0
    · refine br_t (by rw [d]; rfl) ?_
      refine gy_put (post := _) s i v hs hi rfl rfl (fz_rem_1 v) ?_
      refine nm_r (nI_1 i) ?_
      exact ih _ ⟨fz_upo h.1 (by rw [d]; rfl), fz_fr_up h.2 hi⟩
    · refine br_f (nI_ne0 (by omega) (by omega)) ?_
      refine gy_put (post := _) s i 0 hs hi rfl rfl (by decide) ?_
      refine nm_r (nI_1 i) ?_
      exact ih _ ⟨fz_upo h.1 (by show fz_c 0 = fz_c (if i = 0 then v else 0); rw [if_neg d]), fz_fr_up h.2 hi⟩
theorem gy_copy {post : SY → Prop} {p q : Int32} {f : Nat → Fin 101} (s r : Nat) (hs : s < 22) (hr : r < 22) (hn : s ≠ r) (ep : p = nI s) (eq : q = nI r) (hf : fz_at ce (25 * s) f) (K : ∀ ce', fz_at ce' (25 * r) f → fz_fr ce ce' r → post (dp, ce', hy, ro, le)) : wpY_copy post (dp, ce, hy, ro, le) p q := by
  subst ep eq
  refine pk_loop (fun n i t => wY_copy_2 post (nI s) (nI r) dp n (nI i) t hy ro le) (fun i t => (∀ k, k < i → t (25 * r + k) = fz_c (f k)) ∧ fz_fr ce t r) 25 0 ce (by omega) ⟨fun k h => by omega, fz_fr_rfl ce r⟩ ?_ ?_
  · intro n t h
    exact br_t (by decide) (K t h.1 h.2)
  · intro n i t hi h ih
    refine br_f (nI_ge (b := 25) hi (by decide)) ?_
    rw [fz_ix, fz_ix]
    refine ⟨vp_in_nI (by omega) (by decide), vp_in_nI (by omega) (by decide), ?_⟩
    refine nm_r (e' := upd t (25 * r + i) (fz_c (f i))) (by rw [nI_clamp (by omega), nI_clamp (by omega), h.2 s hn i hi, hf i hi]) ?_
    refine nm_r (nI_1 i) ?_
    exact ih _ ⟨fz_upo h.1 rfl, fz_fr_up h.2 hi⟩
theorem gy_deg {post : Int32 → Prop} {p : Int32} {f : Nat → Fin 101} (s : Nat) (hs : s < 22) (ep : p = nI s) (hf : fz_at ce (25 * s) f) (lf : fz_l f 25) (K0 : f = fz_o 0 0 → post (-1)) (K1 : ∀ m, m < 25 → fz_e f m → post (nI m)) : wpY_degree post (dp, ce, hy, ro, le) p := by
  subst ep
  refine pk_loop (fun n i x => wY_degree_4 post (nI s) dp ce hy ro le n x (nI i)) (fun i x => (x = -1 ∧ ∀ k, k < i → f k = 0) ∨ ∃ m, m < i ∧ x = nI m ∧ f m ≠ 0 ∧ ∀ k, m < k → k < i → f k = 0) 25 0 (-1) (by omega) (Or.inl ⟨rfl, fun k h => by omega⟩) ?_ ?_
  · intro n x h
    refine br_t (by decide) ?_
    rcases h with ⟨e, h⟩ | ⟨m, hm, e, hn, h⟩
    · rw [e]
      refine K0 (fz_l_0 (fun k _ => ?_))
      by_cases d : k < 25
      · exact h k d
      · exact lf k (by omega)
    · rw [e]
      refine K1 m hm ⟨hn, fun k hk => ?_⟩
      by_cases d : k < 25
      · exact h k (by omega) d
      · exact lf k (by omega)
  · intro n i x hi h ih
    refine br_f (nI_ge (b := 25) hi (by decide)) ?_
    refine gy_get (post := _) s i hs hi rfl rfl ?_
    rw [hf i hi]
    by_cases z : f i = 0
    · refine br_t (fz_c_z.mpr z) ?_
      refine nm_r (nI_1 i) ?_
      refine ih _ ?_
      rcases h with ⟨e, h⟩ | ⟨m, hm, e, hn, h⟩
      · exact Or.inl ⟨e, fun k hk => by
          by_cases d : k = i
          · rw [d]; exact z
          · exact h k (by omega)⟩
      · exact Or.inr ⟨m, by omega, e, hn, fun k h1 h2 => by
          by_cases d : k = i
          · rw [d]; exact z
          · exact h k h1 (by omega)⟩
    · refine br_f (fun y => z (fz_c_z.mp y)) ?_
      refine nm_r (nI_1 i) ?_
      exact ih _ (Or.inr ⟨i, by omega, rfl, z, fun k h1 h2 => by omega⟩)
theorem gy_muli {post : SY → Prop} {J3 : Int32 → Int32 → (Nat → Int32) → (Nat → Int32) → (Nat → Int32) → (Nat → Int32) → Prop} {f g : Nat → Fin 101} (s s' r i : Nat) (hs : s < 22) (hs' : s' < 22) (hr : r < 22) (hi : i < 25) (hf : fz_at ce (25 * s) f) (hg : fz_at ce (25 * s') g) (K : J3 (nI (i + 1)) dp (upd ce (25 * r + i) (fz_c (fz_m f g i))) hy ro le) : ∃ n, wY_multiply_16 post J3 (nI s) (nI s') (nI r) (nI i) dp ce hy ro le n 0 0 := by
  refine pk_loop (fun n j x => wY_multiply_16 post J3 (nI s) (nI s') (nI r) (nI i) dp ce hy ro le n x (nI j)) (fun j x => ∃ N, x = nI N ∧ N ≤ j * 10000 ∧ Fin.ofNat 101 N = fz_s j (fun k => f k * g (i - k))) (i + 1) 0 0 (by omega) ⟨0, rfl, by omega, rfl⟩ ?_ ?_
  · intro n x h
    obtain ⟨N, e, hN, h⟩ := h
    refine br_t (nI_lt (by omega) (by omega)) ?_
    refine gy_put (post := _) r i (fz_m f g i) hr hi rfl rfl ?_ ?_
    · rw [e, fz_rem (by omega), h]
      rfl
    · exact nm_r (nI_1 i) K
  · intro n j x hj h ih
    obtain ⟨N, e, hN, h⟩ := h
    refine br_f (nI_nlt (by omega) (by omega)) ?_
    refine gy_get (post := _) s j hs (by omega) rfl rfl ?_
    refine gy_get (post := _) s' (i - j) hs' (by omega) rfl (pk_sub (by omega)) ?_
    rw [hf j (by omega), hg (i - j) (by omega)]
    refine nm_r (e' := nI (N + (f j).val * (g (i - j)).val)) ?_ ?_
    · rw [e, ← nI_add, ← pk_mul]
      rfl
    · refine nm_r (nI_1 j) ?_
      have hm := fz_mul_lt (f j) (g (i - j))
      refine ih _ ⟨_, rfl, by omega, ?_⟩
      rw [fz_ofNat_add, fz_of_mul, fz_of_val, fz_of_val, h]
      rfl
theorem gy_mul {post : SY → Prop} {p p' q : Int32} {f g : Nat → Fin 101} (s s' r : Nat) (hs : s < 22) (hs' : s' < 22) (hr : r < 22) (h1 : s ≠ r) (h2 : s' ≠ r) (ep : p = nI s) (ep' : p' = nI s') (eq : q = nI r) (hf : fz_at ce (25 * s) f) (hg : fz_at ce (25 * s') g) (K : ∀ ce', fz_at ce' (25 * r) (fz_m f g) → fz_fr ce ce' r → post (dp, ce', hy, ro, le)) : wpY_multiply post (dp, ce, hy, ro, le) p p' q := by
  subst ep ep' eq
  refine pk_loop (fun n i t => wY_multiply_3 post (nI s) (nI s') (nI r) n (nI i) dp t hy ro le) (fun i t => (∀ k, k < i → t (25 * r + k) = fz_c (fz_m f g k)) ∧ fz_fr ce t r) 25 0 ce (by omega) ⟨fun k h => by omega, fz_fr_rfl ce r⟩ ?_ ?_
  · intro n t h
    exact br_t (by decide) (K t h.1 h.2)
  · intro n i t hi h ih
    refine br_f (nI_ge (b := 25) hi (by decide)) ?_
    refine gy_muli s s' r i hs hs' hr hi (fz_fr_at h.2 h1 hf) (fz_fr_at h.2 h2 hg) ?_
    exact ih _ ⟨fz_upo h.1 rfl, fz_fr_up h.2 hi⟩
theorem gy_add {post : SY → Prop} {p q x : Int32} {f g : Nat → Fin 101} (s r : Nat) (u : Fin 101) (hs : s < 22) (hr : r < 22) (hn : r ≠ s) (ep : p = nI s) (eq : q = nI r) (ex : x = fz_c u) (hf : fz_at ce (25 * s) f) (hg : fz_at ce (25 * r) g) (K : ∀ ce', fz_at ce' (25 * s) (fz_a f (fz_m (fz_o 0 u) g)) → fz_fr ce ce' s → post (dp, ce', hy, ro, le)) : wpY_addMultiple post (dp, ce, hy, ro, le) p q x := by
  subst ep eq ex
  refine pk_loop (fun n i t => wY_addMultiple_3 post (nI s) (nI r) (fz_c u) n (nI i) dp t hy ro le) (fun i t => (∀ k, k < i → t (25 * s + k) = fz_c (fz_a f (fz_m (fz_o 0 u) g) k)) ∧ (∀ k, i ≤ k → k < 25 → t (25 * s + k) = fz_c (f k)) ∧ fz_fr ce t s) 25 0 ce (by omega) ⟨fun k h => by omega, fun k _ h => hf k h, fz_fr_rfl ce s⟩ ?_ ?_
  · intro n t h
    exact br_t (by decide) (K t h.1 h.2.2)
  · intro n i t hi h ih
    refine br_f (nI_ge (b := 25) hi (by decide)) ?_
    refine gy_get (post := _) s i hs hi rfl rfl ?_
    refine gy_get (post := _) r i hr hi rfl rfl ?_
    rw [h.2.1 i (by omega) hi, fz_fr_at h.2.2 hn hg i hi]
    refine gy_put (post := _) s i (fz_a f (fz_m (fz_o 0 u) g) i) hs hi rfl rfl ?_ ?_
    · rw [fz_rem_ma, fz_m_const]
      rfl
    · refine nm_r (nI_1 i) ?_
      exact ih _ ⟨fz_upo h.1 rfl, fun k h1 h2 => by rw [pk_un (by omega)]; exact h.2.1 k (by omega) h2, fz_fr_up h.2.2 hi⟩
theorem gy_inv {post : Int32 → Prop} {x : Int32} (a : Fin 101) (h : a ≠ 0) (ex : x = fz_c a) (K : post (fz_c (fz_i a))) : wpY_inverse post (dp, ce, hy, ro, le) x := by
  subst ex
  have key : ∀ n j, (fz_i a).val < j + n → j ≤ (fz_i a).val → wY_inverse_2 post (fz_c a) dp ce hy ro le n (nI j) := by
    intro n
    induction n with
    | zero => intro j h1 h2; omega
    | succ n ih =>
      intro j h1 h2
      have hi := (fz_i a).isLt
      refine br_f (nI_ge (b := 101) (by omega) (by decide)) ⟨fz_nz101, ?_⟩
      have e : nI j = fz_c (Fin.ofNat 101 j) := by
        show nI j = nI (j % 101)
        rw [Nat.mod_eq_of_lt (by omega)]
      rw [e, fz_rem_m]
      by_cases d : j = (fz_i a).val
      · rw [d, fz_of_val]
        refine br_t ?_ K
        rw [fz_i_m a h]
        rfl
      · refine br_f ?_ ?_
        · rw [← fz_c_1, fz_c_inj]
          intro y
          have y2 := congrArg Fin.val (fz_i_u y)
          rw [show (Fin.ofNat 101 j).val = j from Nat.mod_eq_of_lt (by omega)] at y2
          exact d y2
        · rw [← e]
          refine nm_r (nI_1 j) ?_
          exact ih (j + 1) (by omega) (by omega)
  refine ⟨101, ?_⟩
  have h0 : (fz_i a).val ≠ 0 := fun z => fz_i_nz h (Fin.ext z)
  have hi := (fz_i a).isLt
  exact key 101 1 (by omega) (by omega)
theorem gy_push {post : Int32 → SY → Prop} {x : Int32} (d : Nat) (hd : d < 7) (K : post (nI (d + 1)) (nI (d + 1), ce, upd hy d x, ro, le)) : wpY_push post (nI d, ce, hy, ro, le) x := by
  refine ⟨vp_in_nI hd (by decide), ?_⟩
  refine nm_r (e' := upd hy d x) (by rw [nI_clamp (by omega)]) ?_
  exact nm_r (nI_1 d) K
theorem gy_take {post : SY → Prop} {p : Int32} {f g : Nat → Fin 101} (i : Nat) (hi : i < 6) (ep : p = nI i) (hf : fz_at ce (25 * 14) f) (hg : fz_at ce (25 * 15) g) (K : ∀ ce', fz_at ce' (25 * (2 * i)) f → fz_at ce' (25 * (2 * i + 1)) g → (∀ s, s ≠ 2 * i → s ≠ 2 * i + 1 → ∀ k, k < 25 → ce' (25 * s + k) = ce (25 * s + k)) → post (dp, ce', hy, ro, le)) : wpY_take post (dp, ce, hy, ro, le) p := by
  subst ep
  refine gy_copy (post := _) 14 (2 * i) (by omega) (by omega) (by omega) rfl (pk_mul 2 i) hf (fun c1 h1 h2 => ?_)
  refine gy_copy (post := _) 15 (2 * i + 1) (by omega) (by omega) (by omega) rfl ((congrArg (· + 1) (pk_mul 2 i)).trans (nI_1 (2 * i))) (fz_fr_at h2 (by omega) hg) (fun c2 h3 h4 => ?_)
  exact K c2 (fz_fr_at h4 (by omega) h1) h3 (fun s n1 n2 k hk => (h4 s n2 k hk).trans (h2 s n1 k hk))
theorem gy_val {post : Int32 → Prop} {p x : Int32} {f : Nat → Fin 101} (s : Nat) (a : Fin 101) (hs : s < 22) (ep : p = nI s) (ex : x = fz_c a) (hf : fz_at ce (25 * s) f) (K : post (fz_c (fz_h 25 f a))) : wpY_valueOf post (dp, ce, hy, ro, le) p x := by
  subst ep ex
  have key := pk_loopD (fun n j (x : Int32) => wY_valueOf_6 post (nI s) (fz_c a) dp ce hy ro le n x (fz_d1 j)) (fun j x => j ≤ 25 ∧ x = fz_c (fz_h (25 - j) (fun i => f (i + j)) a)) (fun n x h => by
    refine br_t (by decide) ?_
    rw [h.2]
    exact K) (fun n j x h ih => by
    refine br_f (nI_pos (by omega)) ?_
    refine gy_get (post := _) s j hs (by omega) rfl rfl ?_
    refine ⟨fz_nz101, ?_⟩
    refine nm_r (e' := fz_c (fz_h (25 - j) (fun i => f (i + j)) a)) ?_ ?_
    · rw [h.2, hf j (by omega), fz_rem_h]
      congr 1
      rw [show 25 - j = 25 - (j + 1) + 1 by omega]
      show _ = f (0 + j) + a * fz_h (25 - (j + 1)) (fun i => f (i + 1 + j)) a
      rw [Nat.zero_add, show (fun i => f (i + 1 + j)) = (fun i => f (i + (j + 1))) from funext (fun i => by congr 1; omega)]
      grind
    · refine nm_r (fz_d1_s j) ?_
      exact ih _ ⟨by omega, rfl⟩)
  exact ⟨26, key 25 0 ⟨by omega, rfl⟩⟩
theorem gy_dout {post : SY → Prop} {p x : Int32} {f : Nat → Fin 101} (s : Nat) (a : Fin 101) (hs : s < 22) (ep : p = nI s) (ex : x = fz_c a) (hf : fz_at ce (25 * s) f) (K : ∀ ce', fz_at ce' (25 * s) (fz_q 25 f a) → fz_fr ce ce' s → post (dp, ce', hy, ro, le)) : wpY_divideOut post (dp, ce, hy, ro, le) p x := by
  subst ep ex
  have key := pk_loopD (fun n j (y : Int32 × (Nat → Int32)) => wY_divideOut_6 post (nI s) (fz_c a) n y.1 (fz_d1 j) dp y.2 hy ro le) (fun j y => j ≤ 25 ∧ y.1 = fz_c (fz_h (25 - j) (fun i => f (i + j)) a) ∧ (∀ k, k < j → y.2 (25 * s + k) = fz_c (f k)) ∧ (∀ k, j ≤ k → k < 25 → y.2 (25 * s + k) = fz_c (fz_q 25 f a k)) ∧ fz_fr ce y.2 s) (fun n y h => by
    refine br_t (by decide) ?_
    exact K _ (fun k hk => h.2.2.2.1 k (by omega) hk) h.2.2.2.2) (fun n j y h ih => by
    obtain ⟨h1, h2, h3, h4, h5⟩ := h
    refine br_f (nI_pos (by omega)) ?_
    refine gy_get (post := _) s j hs (by omega) rfl rfl ?_
    refine gy_put (post := _) s j (fz_h (25 - (j + 1)) (fun i => f (i + (j + 1))) a) hs (by omega) rfl rfl (by rw [h2]; exact fz_rem_1 _) ?_
    refine ⟨fz_nz101, ?_⟩
    refine nm_r (e' := fz_c (fz_h (25 - j) (fun i => f (i + j)) a)) ?_ ?_
    · rw [h2, h3 j (by omega), fz_rem_h]
      congr 1
      rw [show 25 - j = 25 - (j + 1) + 1 by omega]
      show _ = f (0 + j) + a * fz_h (25 - (j + 1)) (fun i => f (i + 1 + j)) a
      rw [Nat.zero_add, show (fun i => f (i + 1 + j)) = (fun i => f (i + (j + 1))) from funext (fun i => by congr 1; omega)]
      grind
    · refine nm_r (fz_d1_s j) ?_
      refine ih (_, _) ⟨by omega, rfl, fun k hk => ?_, fun k k1 k2 => ?_, fz_fr_up h5 (by omega)⟩
      · exact (pk_un (by omega)).trans (h3 k (by omega))
      · by_cases d : k = j
        · subst d
          refine pk_us.trans ?_
          congr 1
          show _ = fz_h (25 - 1 - k) (fun i => f (i + (k + 1))) a
          rw [show 25 - (k + 1) = 25 - 1 - k by omega]
        · exact (pk_un (by omega)).trans (h4 k (by omega) k2))
  exact ⟨26, key 25 (0, ce) ⟨by omega, rfl, fun k hk => hf k hk, fun k h1 h2 => by omega, fz_fr_rfl ce s⟩⟩
end
