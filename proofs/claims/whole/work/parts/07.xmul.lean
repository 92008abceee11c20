/-! addProduct and divide, a lemma for each print (written by wip/whole/gen_x2.py) -/
theorem fz_ar_up {s : Nat → Int32} {F F' : Nat → Fin 101} {m : Nat} {v : Int32} (h : fz_ar s F) (hv : v = fz_c (F' m)) (e : ∀ k, k ≠ m → F' k = F k) : fz_ar (upd s m v) F' := fun k hk => by
  by_cases d : k = m
  · subst d
    rw [pk_us, hv]
  · rw [pk_un d, e k d]
    exact h k hk
def fz_api (f g : Nat → Fin 101) (i : Nat) (sc : Fin 101) (j : Nat) : Nat → Fin 101 := fun k => if i ≤ k ∧ k < i + j then f k + sc * g (k - i) else f k
theorem fz_api_0 (f g : Nat → Fin 101) (i : Nat) (sc : Fin 101) : fz_api f g i sc 0 = f := funext (fun k => if_neg (by omega))
theorem fz_api_at (f g : Nat → Fin 101) (i : Nat) (sc : Fin 101) (j : Nat) : fz_api f g i sc j (i + j) = f (i + j) := if_neg (by omega)
theorem fz_api_s (f g : Nat → Fin 101) (i : Nat) (sc : Fin 101) (j : Nat) : fz_api f g i sc (j + 1) (i + j) = f (i + j) + sc * g j := by
  show (if i ≤ i + j ∧ i + j < i + (j + 1) then f (i + j) + sc * g (i + j - i) else f (i + j)) = _
  rw [if_pos (by omega), Nat.add_sub_cancel_left]
theorem fz_api_o (f g : Nat → Fin 101) (i : Nat) (sc : Fin 101) (j : Nat) : ∀ k, k ≠ i + j → fz_api f g i sc (j + 1) k = fz_api f g i sc j k := fun k hk => by
  show (if i ≤ k ∧ k < i + (j + 1) then f k + sc * g (k - i) else f k) = (if i ≤ k ∧ k < i + j then f k + sc * g (k - i) else f k)
  by_cases d : i ≤ k ∧ k < i + j
  · rw [if_pos d, if_pos (by omega)]
  · rw [if_neg d, if_neg (by omega)]
theorem fz_api_e {s : Nat → Int32} {f g : Nat → Fin 101} {i e : Nat} {sc : Fin 101} (h : fz_ar s (fz_api f g i sc e)) (hg : fz_l g e ∨ 25 ≤ i + e) : fz_ar s (fz_a f (fz_m (fz_o i sc) g)) := fun k hk => by
  rw [h k hk]
  congr 1
  show (if i ≤ k ∧ k < i + e then f k + sc * g (k - i) else f k) = f k + fz_m (fz_o i sc) g k
  rw [fz_m_mono]
  by_cases d : i ≤ k ∧ k < i + e
  · rw [if_pos d, if_pos d.1]
  · rw [if_neg d]
    by_cases c : i ≤ k
    · rw [if_pos c]
      cases hg with
      | inl hg =>
        rw [hg (k - i) (by omega)]
        grind
      | inr hg => exact absurd ⟨c, by omega⟩ d
    · rw [if_neg c]
      grind
theorem fz_r_neg {R : Type} [Lean.Grind.CommRing R] (r m g : R) : r + (-m) * g = r - m * g := by grind
theorem fz_a_neg (r g : Nat → Fin 101) (i : Nat) (sc : Fin 101) : fz_a r (fz_m (fz_o i (-sc)) g) = fz_d r (fz_m (fz_o i sc) g) := by
  rw [← fz_n_o]
  exact @fz_r_neg _ fz_ring r (fz_o i sc) g
section
variable {c : Int32} {sA sB hh lA lB rA rB zA zB cm rm qt : Nat → Int32}
theorem gx_api_zA_lA_rB {post : SX → Prop} {J3 : Int32 → (Nat → Int32) → (Nat → Int32) → (Nat → Int32) → (Nat → Int32) → (Nat → Int32) → (Nat → Int32) → (Nat → Int32) → (Nat → Int32) → (Nat → Int32) → (Nat → Int32) → (Nat → Int32) → (Nat → Int32) → Prop} {x3 : Int32} {f g : Nat → Fin 101} (i : Nat) (hi : i < 25) (sc : Fin 101) (hf : fz_ar zA f) (hg : fz_ar rB g)
    (K : ∀ t, fz_ar t (fz_a f (fz_m (fz_o i sc) g)) → J3 (nI (i + 1)) sA sB hh lA lB rA rB t zB cm rm qt) : ∃ n, wX_addProduct__resultAbove_leftAbove_rightBelow_24 post J3 x3 (nI i) (fz_c sc) c n 0 sA sB hh lA lB rA rB zA zB cm rm qt := by
  refine pk_loop (fun n j s => wX_addProduct__resultAbove_leftAbove_rightBelow_24 post J3 x3 (nI i) (fz_c sc) c n (nI j) sA sB hh lA lB rA rB s zB cm rm qt) (fun j s => fz_ar s (fz_api f g i sc j)) (25 - i) 0 zA (by omega) (by rw [fz_api_0]; exact hf) ?_ ?_
  · intro n s h
    refine br_t ?_ ?_
    · rw [nI_add, show i + (25 - i) = 25 by omega]
      decide
    · refine nm_r (nI_1 i) ?_
      exact K _ (fz_api_e h (Or.inr (by omega)))
  · intro n j s hj h ih
    refine br_f ?_ ?_
    · rw [nI_add]
      exact nI_ge (b := 25) (by omega) (by decide)
    · rw [nI_add]
      refine ⟨vp_in_nI (by omega) (by decide), vp_in_nI (by omega) (by decide), fz_nz101, vp_in_nI (by omega) (by decide), ?_⟩
      refine nm_r (e' := upd s (i + j) (fz_c (f (i + j) + sc * g j))) (by rw [nI_clamp (by omega), nI_clamp (by omega), h (i + j) (by omega), fz_api_at, hg j (by omega), fz_rem_ma]) ?_
      refine nm_r (nI_1 j) ?_
      exact ih _ (fz_ar_up h (by rw [fz_api_s]) (fz_api_o f g i sc j))
theorem gx_ap_zA_lA_rB {post : SX → Prop} {f p q : Nat → Fin 101} (u : Fin 101) (hf : fz_ar zA f) (hp : fz_ar lA p) (hq : fz_ar rB q) (lp : fz_l p 25)
    (K : ∀ t, fz_ar t (fz_a f (fz_m (fz_m (fz_o 0 u) p) q)) → post (c, sA, sB, hh, lA, lB, rA, rB, t, zB, cm, rm, qt)) : wpX_addProduct__resultAbove_leftAbove_rightBelow post (c, sA, sB, hh, lA, lB, rA, rB, zA, zB, cm, rm, qt) (fz_c u) := by
  refine pk_loop (fun n i s => wX_addProduct__resultAbove_leftAbove_rightBelow_3 post (fz_c u) c n (nI i) sA sB hh lA lB rA rB s zB cm rm qt) (fun i s => fz_ar s (fz_a f (fz_m (fz_tr i (fz_m (fz_o 0 u) p)) q))) 25 0 zA (by omega) (by rw [fz_tr_add0]; exact hf) ?_ ?_
  · intro n s h
    rw [fz_tr_e (fz_cl lp)] at h
    exact br_t (by decide) (K _ h)
  · intro n i s hi h ih
    refine br_f (nI_ge (b := 25) hi (by decide)) ⟨vp_in_nI hi (by decide), fz_nz101, ?_⟩
    refine nm_r (e' := fz_c (fz_m (fz_o 0 u) p i)) (by rw [nI_clamp (by omega), hp i hi, fz_rem_m, fz_m_const]; congr 1; grind) ?_
    refine gx_api_zA_lA_rB i hi _ h hq (fun t ht => ?_)
    rw [← fz_tr_add] at ht
    exact ih t ht
theorem gx_api_zA_lB_rA {post : SX → Prop} {J3 : Int32 → (Nat → Int32) → (Nat → Int32) → (Nat → Int32) → (Nat → Int32) → (Nat → Int32) → (Nat → Int32) → (Nat → Int32) → (Nat → Int32) → (Nat → Int32) → (Nat → Int32) → (Nat → Int32) → (Nat → Int32) → Prop} {x3 : Int32} {f g : Nat → Fin 101} (i : Nat) (hi : i < 25) (sc : Fin 101) (hf : fz_ar zA f) (hg : fz_ar rA g)
    (K : ∀ t, fz_ar t (fz_a f (fz_m (fz_o i sc) g)) → J3 (nI (i + 1)) sA sB hh lA lB rA rB t zB cm rm qt) : ∃ n, wX_addProduct__resultAbove_leftBelow_rightAbove_24 post J3 x3 (nI i) (fz_c sc) c n 0 sA sB hh lA lB rA rB zA zB cm rm qt := by
  refine pk_loop (fun n j s => wX_addProduct__resultAbove_leftBelow_rightAbove_24 post J3 x3 (nI i) (fz_c sc) c n (nI j) sA sB hh lA lB rA rB s zB cm rm qt) (fun j s => fz_ar s (fz_api f g i sc j)) (25 - i) 0 zA (by omega) (by rw [fz_api_0]; exact hf) ?_ ?_
  · intro n s h
    refine br_t ?_ ?_
    · rw [nI_add, show i + (25 - i) = 25 by omega]
      decide
    · refine nm_r (nI_1 i) ?_
      exact K _ (fz_api_e h (Or.inr (by omega)))
  · intro n j s hj h ih
    refine br_f ?_ ?_
    · rw [nI_add]
      exact nI_ge (b := 25) (by omega) (by decide)
    · rw [nI_add]
      refine ⟨vp_in_nI (by omega) (by decide), vp_in_nI (by omega) (by decide), fz_nz101, vp_in_nI (by omega) (by decide), ?_⟩
      refine nm_r (e' := upd s (i + j) (fz_c (f (i + j) + sc * g j))) (by rw [nI_clamp (by omega), nI_clamp (by omega), h (i + j) (by omega), fz_api_at, hg j (by omega), fz_rem_ma]) ?_
      refine nm_r (nI_1 j) ?_
      exact ih _ (fz_ar_up h (by rw [fz_api_s]) (fz_api_o f g i sc j))
theorem gx_ap_zA_lB_rA {post : SX → Prop} {f p q : Nat → Fin 101} (u : Fin 101) (hf : fz_ar zA f) (hp : fz_ar lB p) (hq : fz_ar rA q) (lp : fz_l p 25)
    (K : ∀ t, fz_ar t (fz_a f (fz_m (fz_m (fz_o 0 u) p) q)) → post (c, sA, sB, hh, lA, lB, rA, rB, t, zB, cm, rm, qt)) : wpX_addProduct__resultAbove_leftBelow_rightAbove post (c, sA, sB, hh, lA, lB, rA, rB, zA, zB, cm, rm, qt) (fz_c u) := by
  refine pk_loop (fun n i s => wX_addProduct__resultAbove_leftBelow_rightAbove_3 post (fz_c u) c n (nI i) sA sB hh lA lB rA rB s zB cm rm qt) (fun i s => fz_ar s (fz_a f (fz_m (fz_tr i (fz_m (fz_o 0 u) p)) q))) 25 0 zA (by omega) (by rw [fz_tr_add0]; exact hf) ?_ ?_
  · intro n s h
    rw [fz_tr_e (fz_cl lp)] at h
    exact br_t (by decide) (K _ h)
  · intro n i s hi h ih
    refine br_f (nI_ge (b := 25) hi (by decide)) ⟨vp_in_nI hi (by decide), fz_nz101, ?_⟩
    refine nm_r (e' := fz_c (fz_m (fz_o 0 u) p i)) (by rw [nI_clamp (by omega), hp i hi, fz_rem_m, fz_m_const]; congr 1; grind) ?_
    refine gx_api_zA_lB_rA i hi _ h hq (fun t ht => ?_)
    rw [← fz_tr_add] at ht
    exact ih t ht
theorem gx_api_zB_lB_rB {post : SX → Prop} {J3 : Int32 → (Nat → Int32) → (Nat → Int32) → (Nat → Int32) → (Nat → Int32) → (Nat → Int32) → (Nat → Int32) → (Nat → Int32) → (Nat → Int32) → (Nat → Int32) → (Nat → Int32) → (Nat → Int32) → (Nat → Int32) → Prop} {x3 : Int32} {f g : Nat → Fin 101} (i : Nat) (hi : i < 25) (sc : Fin 101) (hf : fz_ar zB f) (hg : fz_ar rB g)
    (K : ∀ t, fz_ar t (fz_a f (fz_m (fz_o i sc) g)) → J3 (nI (i + 1)) sA sB hh lA lB rA rB zA t cm rm qt) : ∃ n, wX_addProduct__resultBelow_leftBelow_rightBelow_24 post J3 x3 (nI i) (fz_c sc) c n 0 sA sB hh lA lB rA rB zA zB cm rm qt := by
  refine pk_loop (fun n j s => wX_addProduct__resultBelow_leftBelow_rightBelow_24 post J3 x3 (nI i) (fz_c sc) c n (nI j) sA sB hh lA lB rA rB zA s cm rm qt) (fun j s => fz_ar s (fz_api f g i sc j)) (25 - i) 0 zB (by omega) (by rw [fz_api_0]; exact hf) ?_ ?_
  · intro n s h
    refine br_t ?_ ?_
    · rw [nI_add, show i + (25 - i) = 25 by omega]
      decide
    · refine nm_r (nI_1 i) ?_
      exact K _ (fz_api_e h (Or.inr (by omega)))
  · intro n j s hj h ih
    refine br_f ?_ ?_
    · rw [nI_add]
      exact nI_ge (b := 25) (by omega) (by decide)
    · rw [nI_add]
      refine ⟨vp_in_nI (by omega) (by decide), vp_in_nI (by omega) (by decide), fz_nz101, vp_in_nI (by omega) (by decide), ?_⟩
      refine nm_r (e' := upd s (i + j) (fz_c (f (i + j) + sc * g j))) (by rw [nI_clamp (by omega), nI_clamp (by omega), h (i + j) (by omega), fz_api_at, hg j (by omega), fz_rem_ma]) ?_
      refine nm_r (nI_1 j) ?_
      exact ih _ (fz_ar_up h (by rw [fz_api_s]) (fz_api_o f g i sc j))
theorem gx_ap_zB_lB_rB {post : SX → Prop} {f p q : Nat → Fin 101} (u : Fin 101) (hf : fz_ar zB f) (hp : fz_ar lB p) (hq : fz_ar rB q) (lp : fz_l p 25)
    (K : ∀ t, fz_ar t (fz_a f (fz_m (fz_m (fz_o 0 u) p) q)) → post (c, sA, sB, hh, lA, lB, rA, rB, zA, t, cm, rm, qt)) : wpX_addProduct__resultBelow_leftBelow_rightBelow post (c, sA, sB, hh, lA, lB, rA, rB, zA, zB, cm, rm, qt) (fz_c u) := by
  refine pk_loop (fun n i s => wX_addProduct__resultBelow_leftBelow_rightBelow_3 post (fz_c u) c n (nI i) sA sB hh lA lB rA rB zA s cm rm qt) (fun i s => fz_ar s (fz_a f (fz_m (fz_tr i (fz_m (fz_o 0 u) p)) q))) 25 0 zB (by omega) (by rw [fz_tr_add0]; exact hf) ?_ ?_
  · intro n s h
    rw [fz_tr_e (fz_cl lp)] at h
    exact br_t (by decide) (K _ h)
  · intro n i s hi h ih
    refine br_f (nI_ge (b := 25) hi (by decide)) ⟨vp_in_nI hi (by decide), fz_nz101, ?_⟩
    refine nm_r (e' := fz_c (fz_m (fz_o 0 u) p i)) (by rw [nI_clamp (by omega), hp i hi, fz_rem_m, fz_m_const]; congr 1; grind) ?_
    refine gx_api_zB_lB_rB i hi _ h hq (fun t ht => ?_)
    rw [← fz_tr_add] at ht
    exact ih t ht
theorem gx_api_zB_lB_rA {post : SX → Prop} {J3 : Int32 → (Nat → Int32) → (Nat → Int32) → (Nat → Int32) → (Nat → Int32) → (Nat → Int32) → (Nat → Int32) → (Nat → Int32) → (Nat → Int32) → (Nat → Int32) → (Nat → Int32) → (Nat → Int32) → (Nat → Int32) → Prop} {x3 : Int32} {f g : Nat → Fin 101} (i : Nat) (hi : i < 25) (sc : Fin 101) (hf : fz_ar zB f) (hg : fz_ar rA g)
    (K : ∀ t, fz_ar t (fz_a f (fz_m (fz_o i sc) g)) → J3 (nI (i + 1)) sA sB hh lA lB rA rB zA t cm rm qt) : ∃ n, wX_addProduct__resultBelow_leftBelow_rightAbove_24 post J3 x3 (nI i) (fz_c sc) c n 0 sA sB hh lA lB rA rB zA zB cm rm qt := by
  refine pk_loop (fun n j s => wX_addProduct__resultBelow_leftBelow_rightAbove_24 post J3 x3 (nI i) (fz_c sc) c n (nI j) sA sB hh lA lB rA rB zA s cm rm qt) (fun j s => fz_ar s (fz_api f g i sc j)) (25 - i) 0 zB (by omega) (by rw [fz_api_0]; exact hf) ?_ ?_
  · intro n s h
    refine br_t ?_ ?_
    · rw [nI_add, show i + (25 - i) = 25 by omega]
      decide
    · refine nm_r (nI_1 i) ?_
      exact K _ (fz_api_e h (Or.inr (by omega)))
  · intro n j s hj h ih
    refine br_f ?_ ?_
    · rw [nI_add]
      exact nI_ge (b := 25) (by omega) (by decide)
    · rw [nI_add]
      refine ⟨vp_in_nI (by omega) (by decide), vp_in_nI (by omega) (by decide), fz_nz101, vp_in_nI (by omega) (by decide), ?_⟩
      refine nm_r (e' := upd s (i + j) (fz_c (f (i + j) + sc * g j))) (by rw [nI_clamp (by omega), nI_clamp (by omega), h (i + j) (by omega), fz_api_at, hg j (by omega), fz_rem_ma]) ?_
      refine nm_r (nI_1 j) ?_
      exact ih _ (fz_ar_up h (by rw [fz_api_s]) (fz_api_o f g i sc j))
theorem gx_ap_zB_lB_rA {post : SX → Prop} {f p q : Nat → Fin 101} (u : Fin 101) (hf : fz_ar zB f) (hp : fz_ar lB p) (hq : fz_ar rA q) (lp : fz_l p 25)
    (K : ∀ t, fz_ar t (fz_a f (fz_m (fz_m (fz_o 0 u) p) q)) → post (c, sA, sB, hh, lA, lB, rA, rB, zA, t, cm, rm, qt)) : wpX_addProduct__resultBelow_leftBelow_rightAbove post (c, sA, sB, hh, lA, lB, rA, rB, zA, zB, cm, rm, qt) (fz_c u) := by
  refine pk_loop (fun n i s => wX_addProduct__resultBelow_leftBelow_rightAbove_3 post (fz_c u) c n (nI i) sA sB hh lA lB rA rB zA s cm rm qt) (fun i s => fz_ar s (fz_a f (fz_m (fz_tr i (fz_m (fz_o 0 u) p)) q))) 25 0 zB (by omega) (by rw [fz_tr_add0]; exact hf) ?_ ?_
  · intro n s h
    rw [fz_tr_e (fz_cl lp)] at h
    exact br_t (by decide) (K _ h)
  · intro n i s hi h ih
    refine br_f (nI_ge (b := 25) hi (by decide)) ⟨vp_in_nI hi (by decide), fz_nz101, ?_⟩
    refine nm_r (e' := fz_c (fz_m (fz_o 0 u) p i)) (by rw [nI_clamp (by omega), hp i hi, fz_rem_m, fz_m_const]; congr 1; grind) ?_
    refine gx_api_zB_lB_rA i hi _ h hq (fun t ht => ?_)
    rw [← fz_tr_add] at ht
    exact ih t ht
theorem gx_api_zA_lA_rA {post : SX → Prop} {J3 : Int32 → (Nat → Int32) → (Nat → Int32) → (Nat → Int32) → (Nat → Int32) → (Nat → Int32) → (Nat → Int32) → (Nat → Int32) → (Nat → Int32) → (Nat → Int32) → (Nat → Int32) → (Nat → Int32) → (Nat → Int32) → Prop} {x3 : Int32} {f g : Nat → Fin 101} (i : Nat) (hi : i < 25) (sc : Fin 101) (hf : fz_ar zA f) (hg : fz_ar rA g)
    (K : ∀ t, fz_ar t (fz_a f (fz_m (fz_o i sc) g)) → J3 (nI (i + 1)) sA sB hh lA lB rA rB t zB cm rm qt) : ∃ n, wX_addProduct__resultAbove_leftAbove_rightAbove_24 post J3 x3 (nI i) (fz_c sc) c n 0 sA sB hh lA lB rA rB zA zB cm rm qt := by
  refine pk_loop (fun n j s => wX_addProduct__resultAbove_leftAbove_rightAbove_24 post J3 x3 (nI i) (fz_c sc) c n (nI j) sA sB hh lA lB rA rB s zB cm rm qt) (fun j s => fz_ar s (fz_api f g i sc j)) (25 - i) 0 zA (by omega) (by rw [fz_api_0]; exact hf) ?_ ?_
  · intro n s h
    refine br_t ?_ ?_
    · rw [nI_add, show i + (25 - i) = 25 by omega]
      decide
    · refine nm_r (nI_1 i) ?_
      exact K _ (fz_api_e h (Or.inr (by omega)))
  · intro n j s hj h ih
    refine br_f ?_ ?_
    · rw [nI_add]
      exact nI_ge (b := 25) (by omega) (by decide)
    · rw [nI_add]
      refine ⟨vp_in_nI (by omega) (by decide), vp_in_nI (by omega) (by decide), fz_nz101, vp_in_nI (by omega) (by decide), ?_⟩
      refine nm_r (e' := upd s (i + j) (fz_c (f (i + j) + sc * g j))) (by rw [nI_clamp (by omega), nI_clamp (by omega), h (i + j) (by omega), fz_api_at, hg j (by omega), fz_rem_ma]) ?_
      refine nm_r (nI_1 j) ?_
      exact ih _ (fz_ar_up h (by rw [fz_api_s]) (fz_api_o f g i sc j))
theorem gx_ap_zA_lA_rA {post : SX → Prop} {f p q : Nat → Fin 101} (u : Fin 101) (hf : fz_ar zA f) (hp : fz_ar lA p) (hq : fz_ar rA q) (lp : fz_l p 25)
    (K : ∀ t, fz_ar t (fz_a f (fz_m (fz_m (fz_o 0 u) p) q)) → post (c, sA, sB, hh, lA, lB, rA, rB, t, zB, cm, rm, qt)) : wpX_addProduct__resultAbove_leftAbove_rightAbove post (c, sA, sB, hh, lA, lB, rA, rB, zA, zB, cm, rm, qt) (fz_c u) := by
  refine pk_loop (fun n i s => wX_addProduct__resultAbove_leftAbove_rightAbove_3 post (fz_c u) c n (nI i) sA sB hh lA lB rA rB s zB cm rm qt) (fun i s => fz_ar s (fz_a f (fz_m (fz_tr i (fz_m (fz_o 0 u) p)) q))) 25 0 zA (by omega) (by rw [fz_tr_add0]; exact hf) ?_ ?_
  · intro n s h
    rw [fz_tr_e (fz_cl lp)] at h
    exact br_t (by decide) (K _ h)
  · intro n i s hi h ih
    refine br_f (nI_ge (b := 25) hi (by decide)) ⟨vp_in_nI hi (by decide), fz_nz101, ?_⟩
    refine nm_r (e' := fz_c (fz_m (fz_o 0 u) p i)) (by rw [nI_clamp (by omega), hp i hi, fz_rem_m, fz_m_const]; congr 1; grind) ?_
    refine gx_api_zA_lA_rA i hi _ h hq (fun t ht => ?_)
    rw [← fz_tr_add] at ht
    exact ih t ht
theorem gx_api_zA_rA_lB {post : SX → Prop} {J3 : Int32 → (Nat → Int32) → (Nat → Int32) → (Nat → Int32) → (Nat → Int32) → (Nat → Int32) → (Nat → Int32) → (Nat → Int32) → (Nat → Int32) → (Nat → Int32) → (Nat → Int32) → (Nat → Int32) → (Nat → Int32) → Prop} {x3 : Int32} {f g : Nat → Fin 101} (i : Nat) (hi : i < 25) (sc : Fin 101) (hf : fz_ar zA f) (hg : fz_ar lB g)
    (K : ∀ t, fz_ar t (fz_a f (fz_m (fz_o i sc) g)) → J3 (nI (i + 1)) sA sB hh lA lB rA rB t zB cm rm qt) : ∃ n, wX_addProduct__resultAbove_rightAbove_leftBelow_24 post J3 x3 (nI i) (fz_c sc) c n 0 sA sB hh lA lB rA rB zA zB cm rm qt := by
  refine pk_loop (fun n j s => wX_addProduct__resultAbove_rightAbove_leftBelow_24 post J3 x3 (nI i) (fz_c sc) c n (nI j) sA sB hh lA lB rA rB s zB cm rm qt) (fun j s => fz_ar s (fz_api f g i sc j)) (25 - i) 0 zA (by omega) (by rw [fz_api_0]; exact hf) ?_ ?_
  · intro n s h
    refine br_t ?_ ?_
    · rw [nI_add, show i + (25 - i) = 25 by omega]
      decide
    · refine nm_r (nI_1 i) ?_
      exact K _ (fz_api_e h (Or.inr (by omega)))
  · intro n j s hj h ih
    refine br_f ?_ ?_
    · rw [nI_add]
      exact nI_ge (b := 25) (by omega) (by decide)
    · rw [nI_add]
      refine ⟨vp_in_nI (by omega) (by decide), vp_in_nI (by omega) (by decide), fz_nz101, vp_in_nI (by omega) (by decide), ?_⟩
      refine nm_r (e' := upd s (i + j) (fz_c (f (i + j) + sc * g j))) (by rw [nI_clamp (by omega), nI_clamp (by omega), h (i + j) (by omega), fz_api_at, hg j (by omega), fz_rem_ma]) ?_
      refine nm_r (nI_1 j) ?_
      exact ih _ (fz_ar_up h (by rw [fz_api_s]) (fz_api_o f g i sc j))
theorem gx_ap_zA_rA_lB {post : SX → Prop} {f p q : Nat → Fin 101} (u : Fin 101) (hf : fz_ar zA f) (hp : fz_ar rA p) (hq : fz_ar lB q) (lp : fz_l p 25)
    (K : ∀ t, fz_ar t (fz_a f (fz_m (fz_m (fz_o 0 u) p) q)) → post (c, sA, sB, hh, lA, lB, rA, rB, t, zB, cm, rm, qt)) : wpX_addProduct__resultAbove_rightAbove_leftBelow post (c, sA, sB, hh, lA, lB, rA, rB, zA, zB, cm, rm, qt) (fz_c u) := by
  refine pk_loop (fun n i s => wX_addProduct__resultAbove_rightAbove_leftBelow_3 post (fz_c u) c n (nI i) sA sB hh lA lB rA rB s zB cm rm qt) (fun i s => fz_ar s (fz_a f (fz_m (fz_tr i (fz_m (fz_o 0 u) p)) q))) 25 0 zA (by omega) (by rw [fz_tr_add0]; exact hf) ?_ ?_
  · intro n s h
    rw [fz_tr_e (fz_cl lp)] at h
    exact br_t (by decide) (K _ h)
  · intro n i s hi h ih
    refine br_f (nI_ge (b := 25) hi (by decide)) ⟨vp_in_nI hi (by decide), fz_nz101, ?_⟩
    refine nm_r (e' := fz_c (fz_m (fz_o 0 u) p i)) (by rw [nI_clamp (by omega), hp i hi, fz_rem_m, fz_m_const]; congr 1; grind) ?_
    refine gx_api_zA_rA_lB i hi _ h hq (fun t ht => ?_)
    rw [← fz_tr_add] at ht
    exact ih t ht
theorem gx_api_zB_lB_lB {post : SX → Prop} {J3 : Int32 → (Nat → Int32) → (Nat → Int32) → (Nat → Int32) → (Nat → Int32) → (Nat → Int32) → (Nat → Int32) → (Nat → Int32) → (Nat → Int32) → (Nat → Int32) → (Nat → Int32) → (Nat → Int32) → (Nat → Int32) → Prop} {x3 : Int32} {f g : Nat → Fin 101} (i : Nat) (hi : i < 25) (sc : Fin 101) (hf : fz_ar zB f) (hg : fz_ar lB g)
    (K : ∀ t, fz_ar t (fz_a f (fz_m (fz_o i sc) g)) → J3 (nI (i + 1)) sA sB hh lA lB rA rB zA t cm rm qt) : ∃ n, wX_addProduct__resultBelow_leftBelow_leftBelow_24 post J3 x3 (nI i) (fz_c sc) c n 0 sA sB hh lA lB rA rB zA zB cm rm qt := by
  refine pk_loop (fun n j s => wX_addProduct__resultBelow_leftBelow_leftBelow_24 post J3 x3 (nI i) (fz_c sc) c n (nI j) sA sB hh lA lB rA rB zA s cm rm qt) (fun j s => fz_ar s (fz_api f g i sc j)) (25 - i) 0 zB (by omega) (by rw [fz_api_0]; exact hf) ?_ ?_
  · intro n s h
    refine br_t ?_ ?_
    · rw [nI_add, show i + (25 - i) = 25 by omega]
      decide
    · refine nm_r (nI_1 i) ?_
      exact K _ (fz_api_e h (Or.inr (by omega)))
  · intro n j s hj h ih
    refine br_f ?_ ?_
    · rw [nI_add]
      exact nI_ge (b := 25) (by omega) (by decide)
    · rw [nI_add]
      refine ⟨vp_in_nI (by omega) (by decide), vp_in_nI (by omega) (by decide), fz_nz101, vp_in_nI (by omega) (by decide), ?_⟩
      refine nm_r (e' := upd s (i + j) (fz_c (f (i + j) + sc * g j))) (by rw [nI_clamp (by omega), nI_clamp (by omega), h (i + j) (by omega), fz_api_at, hg j (by omega), fz_rem_ma]) ?_
      refine nm_r (nI_1 j) ?_
      exact ih _ (fz_ar_up h (by rw [fz_api_s]) (fz_api_o f g i sc j))
theorem gx_ap_zB_lB_lB {post : SX → Prop} {f p q : Nat → Fin 101} (u : Fin 101) (hf : fz_ar zB f) (hp : fz_ar lB p) (hq : fz_ar lB q) (lp : fz_l p 25)
    (K : ∀ t, fz_ar t (fz_a f (fz_m (fz_m (fz_o 0 u) p) q)) → post (c, sA, sB, hh, lA, lB, rA, rB, zA, t, cm, rm, qt)) : wpX_addProduct__resultBelow_leftBelow_leftBelow post (c, sA, sB, hh, lA, lB, rA, rB, zA, zB, cm, rm, qt) (fz_c u) := by
  refine pk_loop (fun n i s => wX_addProduct__resultBelow_leftBelow_leftBelow_3 post (fz_c u) c n (nI i) sA sB hh lA lB rA rB zA s cm rm qt) (fun i s => fz_ar s (fz_a f (fz_m (fz_tr i (fz_m (fz_o 0 u) p)) q))) 25 0 zB (by omega) (by rw [fz_tr_add0]; exact hf) ?_ ?_
  · intro n s h
    rw [fz_tr_e (fz_cl lp)] at h
    exact br_t (by decide) (K _ h)
  · intro n i s hi h ih
    refine br_f (nI_ge (b := 25) hi (by decide)) ⟨vp_in_nI hi (by decide), fz_nz101, ?_⟩
    refine nm_r (e' := fz_c (fz_m (fz_o 0 u) p i)) (by rw [nI_clamp (by omega), hp i hi, fz_rem_m, fz_m_const]; congr 1; grind) ?_
    refine gx_api_zB_lB_lB i hi _ h hq (fun t ht => ?_)
    rw [← fz_tr_add] at ht
    exact ih t ht
theorem fz_r_div0 {R : Type} [Lean.Grind.CommRing R] (f g : R) : f = 0 * g + f := by grind
theorem gx_divi_cm_rm {post : SX → Prop} {J27 : Int32 → (Nat → Int32) → (Nat → Int32) → (Nat → Int32) → (Nat → Int32) → (Nat → Int32) → (Nat → Int32) → (Nat → Int32) → (Nat → Int32) → (Nat → Int32) → (Nat → Int32) → (Nat → Int32) → (Nat → Int32) → Prop} {x4 : Int32} {r g : Nat → Fin 101} (d j : Nat) (hj : j + d < 25) (fc : Fin 101) (hr : fz_ar cm r) (hg : fz_ar rm g) (lg : fz_l g (d + 1))
    (K : ∀ t, fz_ar t (fz_d r (fz_m (fz_o j fc) g)) → J27 (fz_d1 j) sA sB hh lA lB rA rB zA zB t rm qt) : ∃ n, wX_divide__common_remainder_58 post J27 (nI d) x4 (nI j) (fz_c fc) c n 0 sA sB hh lA lB rA rB zA zB cm rm qt := by
  refine pk_loop (fun n k s => wX_divide__common_remainder_58 post J27 (nI d) x4 (nI j) (fz_c fc) c n (nI k) sA sB hh lA lB rA rB zA zB s rm qt) (fun k s => fz_ar s (fz_api r g j (-fc) k)) (d + 1) 0 cm (by omega) (by rw [fz_api_0]; exact hr) ?_ ?_
  · intro n s h
    refine br_t (nI_lt (by omega) (by omega)) ?_
    refine nm_r (fz_d1_s j) ?_
    have h2 := fz_api_e h (Or.inl lg)
    rw [fz_a_neg] at h2
    exact K _ h2
  · intro n k s hk h ih
    refine br_f (nI_nlt (by omega) (by omega)) ?_
    rw [nI_add]
    refine ⟨vp_in_nI (by omega) (by decide), vp_in_nI (by omega) (by decide), ?_⟩
    refine nm_r (e' := fz_c (r (j + k)) + (101 - fz_c fc) * fz_c (g k)) (by rw [nI_clamp (by omega), nI_clamp (by omega), h (j + k) (by omega), fz_api_at, hg k (by omega)]) ?_
    refine ⟨fz_nz101, vp_in_nI (by omega) (by decide), ?_⟩
    refine nm_r (e' := upd s (j + k) (fz_c (r (j + k) - fc * g k))) (by rw [nI_clamp (by omega), fz_rem_ms]) ?_
    refine nm_r (nI_1 k) ?_
    exact ih _ (fz_ar_up h (by rw [fz_api_s]; congr 1; grind) (fz_api_o r g j (-fc) k))
theorem gx_div_cm_rm {post : SX → Prop} {f g : Nat → Fin 101} (d : Nat) (hd : d < 25) (hf : fz_ar cm f) (lf : fz_l f 25) (hg : fz_ar rm g) (he : fz_e g d)
    (K : ∀ t t' s r, fz_ar t r → fz_ar t' s → fz_l s 25 → fz_l r d → f = fz_a (fz_m s g) r → post (c, sA, sB, hh, lA, lB, rA, rB, zA, zB, t, rm, t')) : wpX_divide__common_remainder post (c, sA, sB, hh, lA, lB, rA, rB, zA, zB, cm, rm, qt) := by
  refine gx_set_qt (post := _) (0 : Fin 101) (fun q0 hq0 => ?_)
  refine gx_dege_rm (post := _) hg hd he ?_
  refine ⟨vp_in_nI hd (by decide), ?_⟩
  rw [nI_clamp (by omega), hg d hd]
  refine gx_inv (g d) he.1 ?_
  refine nm_r (e' := fz_d1 (25 - d)) ?_ ?_
  · rw [show 25 - d = (24 - d) + 1 by omega]
    exact pk_sub (a := 24) (by omega)
  · have key := pk_loopD (fun n j (s : (Nat → Int32) × (Nat → Int32)) => wX_divide__common_remainder_27 post (nI d) (fz_c (fz_i (g d))) c n (fz_d1 j) sA sB hh lA lB rA rB zA zB s.1 rm s.2)
      (fun j s => ∃ Q r, fz_ar s.1 r ∧ fz_ar s.2 Q ∧ fz_l Q 25 ∧ (∀ k, k < j → Q k = 0) ∧ fz_l r (j + d) ∧ f = fz_a (fz_m Q g) r ∧ j + d ≤ 25) (fun n s h => by
      obtain ⟨Q, r, h1, h2, h3, h4, h5, h6, h7⟩ := h
      rw [Nat.zero_add] at h5
      exact br_t (by decide) (K _ _ Q r h1 h2 h3 h5 h6)) (fun n j s h ih => by
      obtain ⟨Q, r, h1, h2, h3, h4, h5, h6, h7⟩ := h
      refine br_f (nI_pos (by omega)) ?_
      rw [show fz_d1 (j + 1) + nI d = nI (j + d) from nI_add j d]
      refine ⟨vp_in_nI (by omega) (by decide), fz_nz101, ?_⟩
      refine nm_r (e' := fz_c (r (j + d) * fz_i (g d))) (by rw [nI_clamp (by omega), h1 (j + d) (by omega), fz_rem_m]) ?_
      refine ⟨vp_in_nI (by omega) (by decide), ?_⟩
      refine nm_r (e' := upd s.2 j (fz_c (r (j + d) * fz_i (g d)))) (by rw [show fz_d1 (j + 1) = nI j from rfl, nI_clamp (by omega)]) ?_
      refine gx_divi_cm_rm d j (by omega) _ h1 hg he.2 (fun t ht => ?_)
      refine ih (t, upd s.2 j (fz_c (r (j + d) * fz_i (g d)))) ⟨fz_a Q (fz_o j (r (j + d) * fz_i (g d))), _, ht, ?_, ?_, ?_, ?_, fz_div_inv _ h6, by omega⟩
      · refine fz_ar_up h2 ?_ ?_
        · show _ = fz_c (Q j + (if j = j then r (j + d) * fz_i (g d) else 0))
          rw [if_pos rfl, h4 j (by omega)]
          congr 1
          grind
        · intro k hk
          show Q k + (if k = j then r (j + d) * fz_i (g d) else 0) = Q k
          rw [if_neg hk]
          grind
      · exact fz_l_a h3 (fz_l_o (by omega))
      · intro k hk
        show Q k + (if k = j then r (j + d) * fz_i (g d) else 0) = 0
        rw [if_neg (by omega), h4 k (by omega)]
        rfl
      · exact fz_div_step he (by rw [show j + d + 1 = j + 1 + d by omega]; exact h5))
    exact ⟨_, key (25 - d) (cm, q0) ⟨fz_o 0 0, f, hf, hq0, fz_l_z 25, fun k _ => fz_o00 k, by rw [Nat.sub_add_cancel (by omega)]; exact lf, @fz_r_div0 _ fz_ring f g, by omega⟩⟩
theorem gx_divi_zA_cm {post : SX → Prop} {J27 : Int32 → (Nat → Int32) → (Nat → Int32) → (Nat → Int32) → (Nat → Int32) → (Nat → Int32) → (Nat → Int32) → (Nat → Int32) → (Nat → Int32) → (Nat → Int32) → (Nat → Int32) → (Nat → Int32) → (Nat → Int32) → Prop} {x4 : Int32} {r g : Nat → Fin 101} (d j : Nat) (hj : j + d < 25) (fc : Fin 101) (hr : fz_ar zA r) (hg : fz_ar cm g) (lg : fz_l g (d + 1))
    (K : ∀ t, fz_ar t (fz_d r (fz_m (fz_o j fc) g)) → J27 (fz_d1 j) sA sB hh lA lB rA rB t zB cm rm qt) : ∃ n, wX_divide__resultAbove_common_58 post J27 (nI d) x4 (nI j) (fz_c fc) c n 0 sA sB hh lA lB rA rB zA zB cm rm qt := by
  refine pk_loop (fun n k s => wX_divide__resultAbove_common_58 post J27 (nI d) x4 (nI j) (fz_c fc) c n (nI k) sA sB hh lA lB rA rB s zB cm rm qt) (fun k s => fz_ar s (fz_api r g j (-fc) k)) (d + 1) 0 zA (by omega) (by rw [fz_api_0]; exact hr) ?_ ?_
  · intro n s h
    refine br_t (nI_lt (by omega) (by omega)) ?_
    refine nm_r (fz_d1_s j) ?_
    have h2 := fz_api_e h (Or.inl lg)
    rw [fz_a_neg] at h2
    exact K _ h2
  · intro n k s hk h ih
    refine br_f (nI_nlt (by omega) (by omega)) ?_
    rw [nI_add]
    refine ⟨vp_in_nI (by omega) (by decide), vp_in_nI (by omega) (by decide), ?_⟩
    refine nm_r (e' := fz_c (r (j + k)) + (101 - fz_c fc) * fz_c (g k)) (by rw [nI_clamp (by omega), nI_clamp (by omega), h (j + k) (by omega), fz_api_at, hg k (by omega)]) ?_
    refine ⟨fz_nz101, vp_in_nI (by omega) (by decide), ?_⟩
    refine nm_r (e' := upd s (j + k) (fz_c (r (j + k) - fc * g k))) (by rw [nI_clamp (by omega), fz_rem_ms]) ?_
    refine nm_r (nI_1 k) ?_
    exact ih _ (fz_ar_up h (by rw [fz_api_s]; congr 1; grind) (fz_api_o r g j (-fc) k))
theorem gx_div_zA_cm {post : SX → Prop} {f g : Nat → Fin 101} (d : Nat) (hd : d < 25) (hf : fz_ar zA f) (lf : fz_l f 25) (hg : fz_ar cm g) (he : fz_e g d)
    (K : ∀ t t' s r, fz_ar t r → fz_ar t' s → fz_l s 25 → fz_l r d → f = fz_a (fz_m s g) r → post (c, sA, sB, hh, lA, lB, rA, rB, t, zB, cm, rm, t')) : wpX_divide__resultAbove_common post (c, sA, sB, hh, lA, lB, rA, rB, zA, zB, cm, rm, qt) := by
  refine gx_set_qt (post := _) (0 : Fin 101) (fun q0 hq0 => ?_)
  refine gx_dege_cm (post := _) hg hd he ?_
  refine ⟨vp_in_nI hd (by decide), ?_⟩
  rw [nI_clamp (by omega), hg d hd]
  refine gx_inv (g d) he.1 ?_
  refine nm_r (e' := fz_d1 (25 - d)) ?_ ?_
  · rw [show 25 - d = (24 - d) + 1 by omega]
    exact pk_sub (a := 24) (by omega)
  · have key := pk_loopD (fun n j (s : (Nat → Int32) × (Nat → Int32)) => wX_divide__resultAbove_common_27 post (nI d) (fz_c (fz_i (g d))) c n (fz_d1 j) sA sB hh lA lB rA rB s.1 zB cm rm s.2)
      (fun j s => ∃ Q r, fz_ar s.1 r ∧ fz_ar s.2 Q ∧ fz_l Q 25 ∧ (∀ k, k < j → Q k = 0) ∧ fz_l r (j + d) ∧ f = fz_a (fz_m Q g) r ∧ j + d ≤ 25) (fun n s h => by
      obtain ⟨Q, r, h1, h2, h3, h4, h5, h6, h7⟩ := h
      rw [Nat.zero_add] at h5
      exact br_t (by decide) (K _ _ Q r h1 h2 h3 h5 h6)) (fun n j s h ih => by
      obtain ⟨Q, r, h1, h2, h3, h4, h5, h6, h7⟩ := h
      refine br_f (nI_pos (by omega)) ?_
      rw [show fz_d1 (j + 1) + nI d = nI (j + d) from nI_add j d]
      refine ⟨vp_in_nI (by omega) (by decide), fz_nz101, ?_⟩
      refine nm_r (e' := fz_c (r (j + d) * fz_i (g d))) (by rw [nI_clamp (by omega), h1 (j + d) (by omega), fz_rem_m]) ?_
      refine ⟨vp_in_nI (by omega) (by decide), ?_⟩
      refine nm_r (e' := upd s.2 j (fz_c (r (j + d) * fz_i (g d)))) (by rw [show fz_d1 (j + 1) = nI j from rfl, nI_clamp (by omega)]) ?_
      refine gx_divi_zA_cm d j (by omega) _ h1 hg he.2 (fun t ht => ?_)
      refine ih (t, upd s.2 j (fz_c (r (j + d) * fz_i (g d)))) ⟨fz_a Q (fz_o j (r (j + d) * fz_i (g d))), _, ht, ?_, ?_, ?_, ?_, fz_div_inv _ h6, by omega⟩
      · refine fz_ar_up h2 ?_ ?_
        · show _ = fz_c (Q j + (if j = j then r (j + d) * fz_i (g d) else 0))
          rw [if_pos rfl, h4 j (by omega)]
          congr 1
          grind
        · intro k hk
          show Q k + (if k = j then r (j + d) * fz_i (g d) else 0) = Q k
          rw [if_neg hk]
          grind
      · exact fz_l_a h3 (fz_l_o (by omega))
      · intro k hk
        show Q k + (if k = j then r (j + d) * fz_i (g d) else 0) = 0
        rw [if_neg (by omega), h4 k (by omega)]
        rfl
      · exact fz_div_step he (by rw [show j + d + 1 = j + 1 + d by omega]; exact h5))
    exact ⟨_, key (25 - d) (zA, q0) ⟨fz_o 0 0, f, hf, hq0, fz_l_z 25, fun k _ => fz_o00 k, by rw [Nat.sub_add_cancel (by omega)]; exact lf, @fz_r_div0 _ fz_ring f g, by omega⟩⟩
theorem gx_divi_zB_cm {post : SX → Prop} {J27 : Int32 → (Nat → Int32) → (Nat → Int32) → (Nat → Int32) → (Nat → Int32) → (Nat → Int32) → (Nat → Int32) → (Nat → Int32) → (Nat → Int32) → (Nat → Int32) → (Nat → Int32) → (Nat → Int32) → (Nat → Int32) → Prop} {x4 : Int32} {r g : Nat → Fin 101} (d j : Nat) (hj : j + d < 25) (fc : Fin 101) (hr : fz_ar zB r) (hg : fz_ar cm g) (lg : fz_l g (d + 1))
    (K : ∀ t, fz_ar t (fz_d r (fz_m (fz_o j fc) g)) → J27 (fz_d1 j) sA sB hh lA lB rA rB zA t cm rm qt) : ∃ n, wX_divide__resultBelow_common_58 post J27 (nI d) x4 (nI j) (fz_c fc) c n 0 sA sB hh lA lB rA rB zA zB cm rm qt := by
  refine pk_loop (fun n k s => wX_divide__resultBelow_common_58 post J27 (nI d) x4 (nI j) (fz_c fc) c n (nI k) sA sB hh lA lB rA rB zA s cm rm qt) (fun k s => fz_ar s (fz_api r g j (-fc) k)) (d + 1) 0 zB (by omega) (by rw [fz_api_0]; exact hr) ?_ ?_
  · intro n s h
    refine br_t (nI_lt (by omega) (by omega)) ?_
    refine nm_r (fz_d1_s j) ?_
    have h2 := fz_api_e h (Or.inl lg)
    rw [fz_a_neg] at h2
    exact K _ h2
  · intro n k s hk h ih
    refine br_f (nI_nlt (by omega) (by omega)) ?_
    rw [nI_add]
    refine ⟨vp_in_nI (by omega) (by decide), vp_in_nI (by omega) (by decide), ?_⟩
    refine nm_r (e' := fz_c (r (j + k)) + (101 - fz_c fc) * fz_c (g k)) (by rw [nI_clamp (by omega), nI_clamp (by omega), h (j + k) (by omega), fz_api_at, hg k (by omega)]) ?_
    refine ⟨fz_nz101, vp_in_nI (by omega) (by decide), ?_⟩
    refine nm_r (e' := upd s (j + k) (fz_c (r (j + k) - fc * g k))) (by rw [nI_clamp (by omega), fz_rem_ms]) ?_
    refine nm_r (nI_1 k) ?_
    exact ih _ (fz_ar_up h (by rw [fz_api_s]; congr 1; grind) (fz_api_o r g j (-fc) k))
theorem gx_div_zB_cm {post : SX → Prop} {f g : Nat → Fin 101} (d : Nat) (hd : d < 25) (hf : fz_ar zB f) (lf : fz_l f 25) (hg : fz_ar cm g) (he : fz_e g d)
    (K : ∀ t t' s r, fz_ar t r → fz_ar t' s → fz_l s 25 → fz_l r d → f = fz_a (fz_m s g) r → post (c, sA, sB, hh, lA, lB, rA, rB, zA, t, cm, rm, t')) : wpX_divide__resultBelow_common post (c, sA, sB, hh, lA, lB, rA, rB, zA, zB, cm, rm, qt) := by
  refine gx_set_qt (post := _) (0 : Fin 101) (fun q0 hq0 => ?_)
  refine gx_dege_cm (post := _) hg hd he ?_
  refine ⟨vp_in_nI hd (by decide), ?_⟩
  rw [nI_clamp (by omega), hg d hd]
  refine gx_inv (g d) he.1 ?_
  refine nm_r (e' := fz_d1 (25 - d)) ?_ ?_
  · rw [show 25 - d = (24 - d) + 1 by omega]
    exact pk_sub (a := 24) (by omega)
  · have key := pk_loopD (fun n j (s : (Nat → Int32) × (Nat → Int32)) => wX_divide__resultBelow_common_27 post (nI d) (fz_c (fz_i (g d))) c n (fz_d1 j) sA sB hh lA lB rA rB zA s.1 cm rm s.2)
      (fun j s => ∃ Q r, fz_ar s.1 r ∧ fz_ar s.2 Q ∧ fz_l Q 25 ∧ (∀ k, k < j → Q k = 0) ∧ fz_l r (j + d) ∧ f = fz_a (fz_m Q g) r ∧ j + d ≤ 25) (fun n s h => by
      obtain ⟨Q, r, h1, h2, h3, h4, h5, h6, h7⟩ := h
      rw [Nat.zero_add] at h5
      exact br_t (by decide) (K _ _ Q r h1 h2 h3 h5 h6)) (fun n j s h ih => by
      obtain ⟨Q, r, h1, h2, h3, h4, h5, h6, h7⟩ := h
      refine br_f (nI_pos (by omega)) ?_
      rw [show fz_d1 (j + 1) + nI d = nI (j + d) from nI_add j d]
      refine ⟨vp_in_nI (by omega) (by decide), fz_nz101, ?_⟩
      refine nm_r (e' := fz_c (r (j + d) * fz_i (g d))) (by rw [nI_clamp (by omega), h1 (j + d) (by omega), fz_rem_m]) ?_
      refine ⟨vp_in_nI (by omega) (by decide), ?_⟩
      refine nm_r (e' := upd s.2 j (fz_c (r (j + d) * fz_i (g d)))) (by rw [show fz_d1 (j + 1) = nI j from rfl, nI_clamp (by omega)]) ?_
      refine gx_divi_zB_cm d j (by omega) _ h1 hg he.2 (fun t ht => ?_)
      refine ih (t, upd s.2 j (fz_c (r (j + d) * fz_i (g d)))) ⟨fz_a Q (fz_o j (r (j + d) * fz_i (g d))), _, ht, ?_, ?_, ?_, ?_, fz_div_inv _ h6, by omega⟩
      · refine fz_ar_up h2 ?_ ?_
        · show _ = fz_c (Q j + (if j = j then r (j + d) * fz_i (g d) else 0))
          rw [if_pos rfl, h4 j (by omega)]
          congr 1
          grind
        · intro k hk
          show Q k + (if k = j then r (j + d) * fz_i (g d) else 0) = Q k
          rw [if_neg hk]
          grind
      · exact fz_l_a h3 (fz_l_o (by omega))
      · intro k hk
        show Q k + (if k = j then r (j + d) * fz_i (g d) else 0) = 0
        rw [if_neg (by omega), h4 k (by omega)]
        rfl
      · exact fz_div_step he (by rw [show j + d + 1 = j + 1 + d by omega]; exact h5))
    exact ⟨_, key (25 - d) (zB, q0) ⟨fz_o 0 0, f, hf, hq0, fz_l_z 25, fun k _ => fz_o00 k, by rw [Nat.sub_add_cancel (by omega)]; exact lf, @fz_r_div0 _ fz_ring f g, by omega⟩⟩
end
