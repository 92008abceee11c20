/-! the component's own loops, a lemma for each print (written by wip/whole/gen_x.py) -/
section
variable {c : Int32} {sA sB hh lA lB rA rB zA zB cm rm qt : Nat → Int32}
theorem gx_set_zA {post : SX → Prop} (v : Fin 101) (K : ∀ t, fz_ar t (fz_o 0 v) → post (c, sA, sB, hh, lA, lB, rA, rB, t, zB, cm, rm, qt)) : wpX_setToNumber__resultAbove post (c, sA, sB, hh, lA, lB, rA, rB, zA, zB, cm, rm, qt) (fz_c v) := by
  refine pk_loop (fun n i s => wX_setToNumber__resultAbove_2 post (fz_c v) c n (nI i) sA sB hh lA lB rA rB s zB cm rm qt) (fun i s => ∀ k, 1 ≤ k → k < i → s k = 0) 25 1 zA (by omega) (fun k h1 h2 => by omega) ?_ ?_
  · intro n s h
    refine br_t (by decide) ?_
    refine nm_e ?_
    refine K _ (fun k hk => ?_)
    by_cases d : k = 0
    · subst d
      rw [pk_us]
      rfl
    · rw [pk_un d, h k (by omega) hk]
      show 0 = fz_c (if k = 0 then v else 0)
      rw [if_neg d]
      rfl
  · intro n i s hi h ih
    refine br_f (nI_ge (b := 25) hi (by decide)) ⟨vp_in_nI hi (by decide), ?_⟩
    refine nm_r (e' := upd s i 0) (by rw [nI_clamp (by omega)]) ?_
    refine nm_r (nI_1 i) ?_
    refine ih _ (fun k h1 h2 => ?_)
    by_cases d : k = i
    · subst d
      rw [pk_us]
    · rw [pk_un d]
      exact h k h1 (by omega)
theorem gx_set_zB {post : SX → Prop} (v : Fin 101) (K : ∀ t, fz_ar t (fz_o 0 v) → post (c, sA, sB, hh, lA, lB, rA, rB, zA, t, cm, rm, qt)) : wpX_setToNumber__resultBelow post (c, sA, sB, hh, lA, lB, rA, rB, zA, zB, cm, rm, qt) (fz_c v) := by
  refine pk_loop (fun n i s => wX_setToNumber__resultBelow_2 post (fz_c v) c n (nI i) sA sB hh lA lB rA rB zA s cm rm qt) (fun i s => ∀ k, 1 ≤ k → k < i → s k = 0) 25 1 zB (by omega) (fun k h1 h2 => by omega) ?_ ?_
  · intro n s h
    refine br_t (by decide) ?_
    refine nm_e ?_
    refine K _ (fun k hk => ?_)
    by_cases d : k = 0
    · subst d
      rw [pk_us]
      rfl
    · rw [pk_un d, h k (by omega) hk]
      show 0 = fz_c (if k = 0 then v else 0)
      rw [if_neg d]
      rfl
  · intro n i s hi h ih
    refine br_f (nI_ge (b := 25) hi (by decide)) ⟨vp_in_nI hi (by decide), ?_⟩
    refine nm_r (e' := upd s i 0) (by rw [nI_clamp (by omega)]) ?_
    refine nm_r (nI_1 i) ?_
    refine ih _ (fun k h1 h2 => ?_)
    by_cases d : k = i
    · subst d
      rw [pk_us]
    · rw [pk_un d]
      exact h k h1 (by omega)
theorem gx_set_qt {post : SX → Prop} (v : Fin 101) (K : ∀ t, fz_ar t (fz_o 0 v) → post (c, sA, sB, hh, lA, lB, rA, rB, zA, zB, cm, rm, t)) : wpX_setToNumber__quotient post (c, sA, sB, hh, lA, lB, rA, rB, zA, zB, cm, rm, qt) (fz_c v) := by
  refine pk_loop (fun n i s => wX_setToNumber__quotient_2 post (fz_c v) c n (nI i) sA sB hh lA lB rA rB zA zB cm rm s) (fun i s => ∀ k, 1 ≤ k → k < i → s k = 0) 25 1 qt (by omega) (fun k h1 h2 => by omega) ?_ ?_
  · intro n s h
    refine br_t (by decide) ?_
    refine nm_e ?_
    refine K _ (fun k hk => ?_)
    by_cases d : k = 0
    · subst d
      rw [pk_us]
      rfl
    · rw [pk_un d, h k (by omega) hk]
      show 0 = fz_c (if k = 0 then v else 0)
      rw [if_neg d]
      rfl
  · intro n i s hi h ih
    refine br_f (nI_ge (b := 25) hi (by decide)) ⟨vp_in_nI hi (by decide), ?_⟩
    refine nm_r (e' := upd s i 0) (by rw [nI_clamp (by omega)]) ?_
    refine nm_r (nI_1 i) ?_
    refine ih _ (fun k h1 h2 => ?_)
    by_cases d : k = i
    · subst d
      rw [pk_us]
    · rw [pk_un d]
      exact h k h1 (by omega)
theorem gx_copy_zA_cm {post : SX → Prop} {f : Nat → Fin 101} (hf : fz_ar zA f) (K : ∀ t, fz_ar t f → post (c, sA, sB, hh, lA, lB, rA, rB, zA, zB, t, rm, qt)) : wpX_copy__resultAbove_common post (c, sA, sB, hh, lA, lB, rA, rB, zA, zB, cm, rm, qt) := by
  refine pk_loop (fun n i s => wX_copy__resultAbove_common_2 post c n (nI i) sA sB hh lA lB rA rB zA zB s rm qt) (fun i s => ∀ k, k < i → s k = fz_c (f k)) 25 0 cm (by omega) (fun k h => by omega) ?_ ?_
  · intro n s h
    exact br_t (by decide) (K _ h)
  · intro n i s hi h ih
    refine br_f (nI_ge (b := 25) hi (by decide)) ⟨vp_in_nI hi (by decide), vp_in_nI hi (by decide), ?_⟩
    refine nm_r (e' := upd s i (zA i)) (by rw [nI_clamp (by omega)]) ?_
    refine nm_r (nI_1 i) ?_
    exact ih _ (fz_up h (hf i hi))
theorem gx_copy_zB_rm {post : SX → Prop} {f : Nat → Fin 101} (hf : fz_ar zB f) (K : ∀ t, fz_ar t f → post (c, sA, sB, hh, lA, lB, rA, rB, zA, zB, cm, t, qt)) : wpX_copy__resultBelow_remainder post (c, sA, sB, hh, lA, lB, rA, rB, zA, zB, cm, rm, qt) := by
  refine pk_loop (fun n i s => wX_copy__resultBelow_remainder_2 post c n (nI i) sA sB hh lA lB rA rB zA zB cm s qt) (fun i s => ∀ k, k < i → s k = fz_c (f k)) 25 0 rm (by omega) (fun k h => by omega) ?_ ?_
  · intro n s h
    exact br_t (by decide) (K _ h)
  · intro n i s hi h ih
    refine br_f (nI_ge (b := 25) hi (by decide)) ⟨vp_in_nI hi (by decide), vp_in_nI hi (by decide), ?_⟩
    refine nm_r (e' := upd s i (zB i)) (by rw [nI_clamp (by omega)]) ?_
    refine nm_r (nI_1 i) ?_
    exact ih _ (fz_up h (hf i hi))
theorem gx_copy_qt_zA {post : SX → Prop} {f : Nat → Fin 101} (hf : fz_ar qt f) (K : ∀ t, fz_ar t f → post (c, sA, sB, hh, lA, lB, rA, rB, t, zB, cm, rm, qt)) : wpX_copy__quotient_resultAbove post (c, sA, sB, hh, lA, lB, rA, rB, zA, zB, cm, rm, qt) := by
  refine pk_loop (fun n i s => wX_copy__quotient_resultAbove_2 post c n (nI i) sA sB hh lA lB rA rB s zB cm rm qt) (fun i s => ∀ k, k < i → s k = fz_c (f k)) 25 0 zA (by omega) (fun k h => by omega) ?_ ?_
  · intro n s h
    exact br_t (by decide) (K _ h)
  · intro n i s hi h ih
    refine br_f (nI_ge (b := 25) hi (by decide)) ⟨vp_in_nI hi (by decide), vp_in_nI hi (by decide), ?_⟩
    refine nm_r (e' := upd s i (qt i)) (by rw [nI_clamp (by omega)]) ?_
    refine nm_r (nI_1 i) ?_
    exact ih _ (fz_up h (hf i hi))
theorem gx_copy_qt_zB {post : SX → Prop} {f : Nat → Fin 101} (hf : fz_ar qt f) (K : ∀ t, fz_ar t f → post (c, sA, sB, hh, lA, lB, rA, rB, zA, t, cm, rm, qt)) : wpX_copy__quotient_resultBelow post (c, sA, sB, hh, lA, lB, rA, rB, zA, zB, cm, rm, qt) := by
  refine pk_loop (fun n i s => wX_copy__quotient_resultBelow_2 post c n (nI i) sA sB hh lA lB rA rB zA s cm rm qt) (fun i s => ∀ k, k < i → s k = fz_c (f k)) 25 0 zB (by omega) (fun k h => by omega) ?_ ?_
  · intro n s h
    exact br_t (by decide) (K _ h)
  · intro n i s hi h ih
    refine br_f (nI_ge (b := 25) hi (by decide)) ⟨vp_in_nI hi (by decide), vp_in_nI hi (by decide), ?_⟩
    refine nm_r (e' := upd s i (qt i)) (by rw [nI_clamp (by omega)]) ?_
    refine nm_r (nI_1 i) ?_
    exact ih _ (fz_up h (hf i hi))
theorem gx_copy_zA_lA {post : SX → Prop} {f : Nat → Fin 101} (hf : fz_ar zA f) (K : ∀ t, fz_ar t f → post (c, sA, sB, hh, t, lB, rA, rB, zA, zB, cm, rm, qt)) : wpX_copy__resultAbove_leftAbove post (c, sA, sB, hh, lA, lB, rA, rB, zA, zB, cm, rm, qt) := by
  refine pk_loop (fun n i s => wX_copy__resultAbove_leftAbove_2 post c n (nI i) sA sB hh s lB rA rB zA zB cm rm qt) (fun i s => ∀ k, k < i → s k = fz_c (f k)) 25 0 lA (by omega) (fun k h => by omega) ?_ ?_
  · intro n s h
    exact br_t (by decide) (K _ h)
  · intro n i s hi h ih
    refine br_f (nI_ge (b := 25) hi (by decide)) ⟨vp_in_nI hi (by decide), vp_in_nI hi (by decide), ?_⟩
    refine nm_r (e' := upd s i (zA i)) (by rw [nI_clamp (by omega)]) ?_
    refine nm_r (nI_1 i) ?_
    exact ih _ (fz_up h (hf i hi))
theorem gx_copy_zB_lB {post : SX → Prop} {f : Nat → Fin 101} (hf : fz_ar zB f) (K : ∀ t, fz_ar t f → post (c, sA, sB, hh, lA, t, rA, rB, zA, zB, cm, rm, qt)) : wpX_copy__resultBelow_leftBelow post (c, sA, sB, hh, lA, lB, rA, rB, zA, zB, cm, rm, qt) := by
  refine pk_loop (fun n i s => wX_copy__resultBelow_leftBelow_2 post c n (nI i) sA sB hh lA s rA rB zA zB cm rm qt) (fun i s => ∀ k, k < i → s k = fz_c (f k)) 25 0 lB (by omega) (fun k h => by omega) ?_ ?_
  · intro n s h
    exact br_t (by decide) (K _ h)
  · intro n i s hi h ih
    refine br_f (nI_ge (b := 25) hi (by decide)) ⟨vp_in_nI hi (by decide), vp_in_nI hi (by decide), ?_⟩
    refine nm_r (e' := upd s i (zB i)) (by rw [nI_clamp (by omega)]) ?_
    refine nm_r (nI_1 i) ?_
    exact ih _ (fz_up h (hf i hi))
theorem gx_load_lA_lB {post : SX → Prop} {f g : Nat → Fin 101} (j : Nat) (hj : j < 6) (hf : fz_at sA (j * 25) f) (hg : fz_at sB (j * 25) g) (K : ∀ t t', fz_ar t f → fz_ar t' g → post (c, sA, sB, hh, t, t', rA, rB, zA, zB, cm, rm, qt)) : wpX_loadFraction__leftAbove_leftBelow post (c, sA, sB, hh, lA, lB, rA, rB, zA, zB, cm, rm, qt) (nI j) := by
  refine nm_r (e' := nI (j * 25)) (pk_mul j 25) ?_
  refine pk_loop (fun n i (s : (Nat → Int32) × (Nat → Int32)) => wX_loadFraction__leftAbove_leftBelow_9 post (nI (j * 25)) c n (nI i) sA sB hh s.1 s.2 rA rB zA zB cm rm qt) (fun i s => (∀ k, k < i → s.1 k = fz_c (f k)) ∧ ∀ k, k < i → s.2 k = fz_c (g k)) 25 0 (lA, lB) (by omega) ⟨fun k h => by omega, fun k h => by omega⟩ ?_ ?_
  · intro n s h
    exact br_t (by decide) (K _ _ h.1 h.2)
  · intro n i s hi h ih
    refine br_f (nI_ge (b := 25) hi (by decide)) ?_
    rw [nI_add]
    refine ⟨vp_in_nI (by omega) (by decide), vp_in_nI hi (by decide), ?_⟩
    refine nm_r (e' := upd s.1 i (sA (j * 25 + i))) (by rw [nI_clamp (by omega), nI_clamp (by omega)]) ?_
    refine ⟨vp_in_nI (by omega) (by decide), vp_in_nI hi (by decide), ?_⟩
    refine nm_r (e' := upd s.2 i (sB (j * 25 + i))) (by rw [nI_clamp (by omega), nI_clamp (by omega)]) ?_
    refine nm_r (nI_1 i) ?_
    exact ih (_, _) ⟨fz_up h.1 (hf i hi), fz_up h.2 (hg i hi)⟩
theorem gx_load_rA_rB {post : SX → Prop} {f g : Nat → Fin 101} (j : Nat) (hj : j < 6) (hf : fz_at sA (j * 25) f) (hg : fz_at sB (j * 25) g) (K : ∀ t t', fz_ar t f → fz_ar t' g → post (c, sA, sB, hh, lA, lB, t, t', zA, zB, cm, rm, qt)) : wpX_loadFraction__rightAbove_rightBelow post (c, sA, sB, hh, lA, lB, rA, rB, zA, zB, cm, rm, qt) (nI j) := by
  refine nm_r (e' := nI (j * 25)) (pk_mul j 25) ?_
  refine pk_loop (fun n i (s : (Nat → Int32) × (Nat → Int32)) => wX_loadFraction__rightAbove_rightBelow_9 post (nI (j * 25)) c n (nI i) sA sB hh lA lB s.1 s.2 zA zB cm rm qt) (fun i s => (∀ k, k < i → s.1 k = fz_c (f k)) ∧ ∀ k, k < i → s.2 k = fz_c (g k)) 25 0 (rA, rB) (by omega) ⟨fun k h => by omega, fun k h => by omega⟩ ?_ ?_
  · intro n s h
    exact br_t (by decide) (K _ _ h.1 h.2)
  · intro n i s hi h ih
    refine br_f (nI_ge (b := 25) hi (by decide)) ?_
    rw [nI_add]
    refine ⟨vp_in_nI (by omega) (by decide), vp_in_nI hi (by decide), ?_⟩
    refine nm_r (e' := upd s.1 i (sA (j * 25 + i))) (by rw [nI_clamp (by omega), nI_clamp (by omega)]) ?_
    refine ⟨vp_in_nI (by omega) (by decide), vp_in_nI hi (by decide), ?_⟩
    refine nm_r (e' := upd s.2 i (sB (j * 25 + i))) (by rw [nI_clamp (by omega), nI_clamp (by omega)]) ?_
    refine nm_r (nI_1 i) ?_
    exact ih (_, _) ⟨fz_up h.1 (hf i hi), fz_up h.2 (hg i hi)⟩
theorem gx_load_zA_zB {post : SX → Prop} {f g : Nat → Fin 101} (j : Nat) (hj : j < 6) (hf : fz_at sA (j * 25) f) (hg : fz_at sB (j * 25) g) (K : ∀ t t', fz_ar t f → fz_ar t' g → post (c, sA, sB, hh, lA, lB, rA, rB, t, t', cm, rm, qt)) : wpX_loadFraction__resultAbove_resultBelow post (c, sA, sB, hh, lA, lB, rA, rB, zA, zB, cm, rm, qt) (nI j) := by
  refine nm_r (e' := nI (j * 25)) (pk_mul j 25) ?_
  refine pk_loop (fun n i (s : (Nat → Int32) × (Nat → Int32)) => wX_loadFraction__resultAbove_resultBelow_9 post (nI (j * 25)) c n (nI i) sA sB hh lA lB rA rB s.1 s.2 cm rm qt) (fun i s => (∀ k, k < i → s.1 k = fz_c (f k)) ∧ ∀ k, k < i → s.2 k = fz_c (g k)) 25 0 (zA, zB) (by omega) ⟨fun k h => by omega, fun k h => by omega⟩ ?_ ?_
  · intro n s h
    exact br_t (by decide) (K _ _ h.1 h.2)
  · intro n i s hi h ih
    refine br_f (nI_ge (b := 25) hi (by decide)) ?_
    rw [nI_add]
    refine ⟨vp_in_nI (by omega) (by decide), vp_in_nI hi (by decide), ?_⟩
    refine nm_r (e' := upd s.1 i (sA (j * 25 + i))) (by rw [nI_clamp (by omega), nI_clamp (by omega)]) ?_
    refine ⟨vp_in_nI (by omega) (by decide), vp_in_nI hi (by decide), ?_⟩
    refine nm_r (e' := upd s.2 i (sB (j * 25 + i))) (by rw [nI_clamp (by omega), nI_clamp (by omega)]) ?_
    refine nm_r (nI_1 i) ?_
    exact ih (_, _) ⟨fz_up h.1 (hf i hi), fz_up h.2 (hg i hi)⟩
theorem gx_store_zA_zB {post : SX → Prop} {f g : Nat → Fin 101} (j : Nat) (hj : j < 6) (hf : fz_ar zA f) (hg : fz_ar zB g) (K : ∀ t t', fz_at t (j * 25) f → fz_at t' (j * 25) g → (∀ m, m < j * 25 ∨ j * 25 + 25 ≤ m → t m = sA m) → (∀ m, m < j * 25 ∨ j * 25 + 25 ≤ m → t' m = sB m) → post (c, t, t', hh, lA, lB, rA, rB, zA, zB, cm, rm, qt)) : wpX_storeFraction__resultAbove_resultBelow post (c, sA, sB, hh, lA, lB, rA, rB, zA, zB, cm, rm, qt) (nI j) := by
  refine nm_r (e' := nI (j * 25)) (pk_mul j 25) ?_
  refine pk_loop (fun n i (s : (Nat → Int32) × (Nat → Int32)) => wX_storeFraction__resultAbove_resultBelow_9 post (nI (j * 25)) c n (nI i) s.1 s.2 hh lA lB rA rB zA zB cm rm qt) (fun i s => (∀ k, k < i → s.1 (j * 25 + k) = fz_c (f k)) ∧ (∀ k, k < i → s.2 (j * 25 + k) = fz_c (g k)) ∧ (∀ m, m < j * 25 ∨ j * 25 + 25 ≤ m → s.1 m = sA m) ∧ (∀ m, m < j * 25 ∨ j * 25 + 25 ≤ m → s.2 m = sB m)) 25 0 (sA, sB) (by omega) ⟨fun k h => by omega, fun k h => by omega, fun _ _ => rfl, fun _ _ => rfl⟩ ?_ ?_
  · intro n s h
    exact br_t (by decide) (K _ _ h.1 h.2.1 h.2.2.1 h.2.2.2)
  · intro n i s hi h ih
    refine br_f (nI_ge (b := 25) hi (by decide)) ?_
    rw [nI_add]
    refine ⟨vp_in_nI hi (by decide), vp_in_nI (by omega) (by decide), ?_⟩
    refine nm_r (e' := upd s.1 (j * 25 + i) (zA i)) (by rw [nI_clamp (by omega), nI_clamp (by omega)]) ?_
    refine ⟨vp_in_nI hi (by decide), vp_in_nI (by omega) (by decide), ?_⟩
    refine nm_r (e' := upd s.2 (j * 25 + i) (zB i)) (by rw [nI_clamp (by omega), nI_clamp (by omega)]) ?_
    refine nm_r (nI_1 i) ?_
    exact ih (_, _) ⟨fz_upo h.1 (hf i hi), fz_upo h.2.1 (hg i hi), fun m hm => (pk_un (by omega)).trans (h.2.2.1 m hm), fun m hm => (pk_un (by omega)).trans (h.2.2.2 m hm)⟩
theorem gx_store_rA_rB {post : SX → Prop} {f g : Nat → Fin 101} (j : Nat) (hj : j < 6) (hf : fz_ar rA f) (hg : fz_ar rB g) (K : ∀ t t', fz_at t (j * 25) f → fz_at t' (j * 25) g → (∀ m, m < j * 25 ∨ j * 25 + 25 ≤ m → t m = sA m) → (∀ m, m < j * 25 ∨ j * 25 + 25 ≤ m → t' m = sB m) → post (c, t, t', hh, lA, lB, rA, rB, zA, zB, cm, rm, qt)) : wpX_storeFraction__rightAbove_rightBelow post (c, sA, sB, hh, lA, lB, rA, rB, zA, zB, cm, rm, qt) (nI j) := by
  refine nm_r (e' := nI (j * 25)) (pk_mul j 25) ?_
  refine pk_loop (fun n i (s : (Nat → Int32) × (Nat → Int32)) => wX_storeFraction__rightAbove_rightBelow_9 post (nI (j * 25)) c n (nI i) s.1 s.2 hh lA lB rA rB zA zB cm rm qt) (fun i s => (∀ k, k < i → s.1 (j * 25 + k) = fz_c (f k)) ∧ (∀ k, k < i → s.2 (j * 25 + k) = fz_c (g k)) ∧ (∀ m, m < j * 25 ∨ j * 25 + 25 ≤ m → s.1 m = sA m) ∧ (∀ m, m < j * 25 ∨ j * 25 + 25 ≤ m → s.2 m = sB m)) 25 0 (sA, sB) (by omega) ⟨fun k h => by omega, fun k h => by omega, fun _ _ => rfl, fun _ _ => rfl⟩ ?_ ?_
  · intro n s h
    exact br_t (by decide) (K _ _ h.1 h.2.1 h.2.2.1 h.2.2.2)
  · intro n i s hi h ih
    refine br_f (nI_ge (b := 25) hi (by decide)) ?_
    rw [nI_add]
    refine ⟨vp_in_nI hi (by decide), vp_in_nI (by omega) (by decide), ?_⟩
    refine nm_r (e' := upd s.1 (j * 25 + i) (rA i)) (by rw [nI_clamp (by omega), nI_clamp (by omega)]) ?_
    refine ⟨vp_in_nI hi (by decide), vp_in_nI (by omega) (by decide), ?_⟩
    refine nm_r (e' := upd s.2 (j * 25 + i) (rB i)) (by rw [nI_clamp (by omega), nI_clamp (by omega)]) ?_
    refine nm_r (nI_1 i) ?_
    exact ih (_, _) ⟨fz_upo h.1 (hf i hi), fz_upo h.2.1 (hg i hi), fun m hm => (pk_un (by omega)).trans (h.2.2.1 m hm), fun m hm => (pk_un (by omega)).trans (h.2.2.2 m hm)⟩
theorem gx_store_lA_lB {post : SX → Prop} {f g : Nat → Fin 101} (j : Nat) (hj : j < 6) (hf : fz_ar lA f) (hg : fz_ar lB g) (K : ∀ t t', fz_at t (j * 25) f → fz_at t' (j * 25) g → (∀ m, m < j * 25 ∨ j * 25 + 25 ≤ m → t m = sA m) → (∀ m, m < j * 25 ∨ j * 25 + 25 ≤ m → t' m = sB m) → post (c, t, t', hh, lA, lB, rA, rB, zA, zB, cm, rm, qt)) : wpX_storeFraction__leftAbove_leftBelow post (c, sA, sB, hh, lA, lB, rA, rB, zA, zB, cm, rm, qt) (nI j) := by
  refine nm_r (e' := nI (j * 25)) (pk_mul j 25) ?_
  refine pk_loop (fun n i (s : (Nat → Int32) × (Nat → Int32)) => wX_storeFraction__leftAbove_leftBelow_9 post (nI (j * 25)) c n (nI i) s.1 s.2 hh lA lB rA rB zA zB cm rm qt) (fun i s => (∀ k, k < i → s.1 (j * 25 + k) = fz_c (f k)) ∧ (∀ k, k < i → s.2 (j * 25 + k) = fz_c (g k)) ∧ (∀ m, m < j * 25 ∨ j * 25 + 25 ≤ m → s.1 m = sA m) ∧ (∀ m, m < j * 25 ∨ j * 25 + 25 ≤ m → s.2 m = sB m)) 25 0 (sA, sB) (by omega) ⟨fun k h => by omega, fun k h => by omega, fun _ _ => rfl, fun _ _ => rfl⟩ ?_ ?_
  · intro n s h
    exact br_t (by decide) (K _ _ h.1 h.2.1 h.2.2.1 h.2.2.2)
  · intro n i s hi h ih
    refine br_f (nI_ge (b := 25) hi (by decide)) ?_
    rw [nI_add]
    refine ⟨vp_in_nI hi (by decide), vp_in_nI (by omega) (by decide), ?_⟩
    refine nm_r (e' := upd s.1 (j * 25 + i) (lA i)) (by rw [nI_clamp (by omega), nI_clamp (by omega)]) ?_
    refine ⟨vp_in_nI hi (by decide), vp_in_nI (by omega) (by decide), ?_⟩
    refine nm_r (e' := upd s.2 (j * 25 + i) (lB i)) (by rw [nI_clamp (by omega), nI_clamp (by omega)]) ?_
    refine nm_r (nI_1 i) ?_
    exact ih (_, _) ⟨fz_upo h.1 (hf i hi), fz_upo h.2.1 (hg i hi), fun m hm => (pk_un (by omega)).trans (h.2.2.1 m hm), fun m hm => (pk_un (by omega)).trans (h.2.2.2 m hm)⟩
theorem gx_deg_rm {post : Int32 → Prop} (m : Nat) (hm : m < 25) (hz : ∀ k, m < k → k < 25 → rm k = 0) (h : m = 0 ∨ rm m ≠ 0) (K : post (nI m)) : wpX_degree__remainder post (c, sA, sB, hh, lA, lB, rA, rB, zA, zB, cm, rm, qt) := by
  have key : ∀ n j, j < m + n → m ≤ j → j < 25 → wX_degree__remainder_3 post c sA sB hh lA lB rA rB zA zB cm rm qt n (nI j) := by
    intro n
    induction n with
    | zero => intro j h1 h2; omega
    | succ n ih =>
      intro j h1 h2 h3
      by_cases d : j = 0
      · subst d
        have m0 : m = 0 := by omega
        subst m0
        exact br_t (by decide) K
      · refine br_f (nI_nle (by omega) (by omega)) ⟨vp_in_nI h3 (by decide), ?_⟩
        rw [nI_clamp (by omega)]
        by_cases e : j = m
        · subst e
          cases h with
          | inl h => exact absurd h d
          | inr h => exact br_f h K
        · refine br_t (hz j (by omega) h3) ?_
          obtain ⟨i, rfl⟩ : ∃ i, j = i + 1 := ⟨j - 1, by omega⟩
          refine nm_r (pk_m1 i) ?_
          exact ih i (by omega) (by omega) (by omega)
  exact ⟨25, key 25 24 (by omega) (by omega) (by omega)⟩
theorem gx_deg_zA {post : Int32 → Prop} (m : Nat) (hm : m < 25) (hz : ∀ k, m < k → k < 25 → zA k = 0) (h : m = 0 ∨ zA m ≠ 0) (K : post (nI m)) : wpX_degree__resultAbove post (c, sA, sB, hh, lA, lB, rA, rB, zA, zB, cm, rm, qt) := by
  have key : ∀ n j, j < m + n → m ≤ j → j < 25 → wX_degree__resultAbove_3 post c sA sB hh lA lB rA rB zA zB cm rm qt n (nI j) := by
    intro n
    induction n with
    | zero => intro j h1 h2; omega
    | succ n ih =>
      intro j h1 h2 h3
      by_cases d : j = 0
      · subst d
        have m0 : m = 0 := by omega
        subst m0
        exact br_t (by decide) K
      · refine br_f (nI_nle (by omega) (by omega)) ⟨vp_in_nI h3 (by decide), ?_⟩
        rw [nI_clamp (by omega)]
        by_cases e : j = m
        · subst e
          cases h with
          | inl h => exact absurd h d
          | inr h => exact br_f h K
        · refine br_t (hz j (by omega) h3) ?_
          obtain ⟨i, rfl⟩ : ∃ i, j = i + 1 := ⟨j - 1, by omega⟩
          refine nm_r (pk_m1 i) ?_
          exact ih i (by omega) (by omega) (by omega)
  exact ⟨25, key 25 24 (by omega) (by omega) (by omega)⟩
theorem gx_deg_cm {post : Int32 → Prop} (m : Nat) (hm : m < 25) (hz : ∀ k, m < k → k < 25 → cm k = 0) (h : m = 0 ∨ cm m ≠ 0) (K : post (nI m)) : wpX_degree__common post (c, sA, sB, hh, lA, lB, rA, rB, zA, zB, cm, rm, qt) := by
  have key : ∀ n j, j < m + n → m ≤ j → j < 25 → wX_degree__common_3 post c sA sB hh lA lB rA rB zA zB cm rm qt n (nI j) := by
    intro n
    induction n with
    | zero => intro j h1 h2; omega
    | succ n ih =>
      intro j h1 h2 h3
      by_cases d : j = 0
      · subst d
        have m0 : m = 0 := by omega
        subst m0
        exact br_t (by decide) K
      · refine br_f (nI_nle (by omega) (by omega)) ⟨vp_in_nI h3 (by decide), ?_⟩
        rw [nI_clamp (by omega)]
        by_cases e : j = m
        · subst e
          cases h with
          | inl h => exact absurd h d
          | inr h => exact br_f h K
        · refine br_t (hz j (by omega) h3) ?_
          obtain ⟨i, rfl⟩ : ∃ i, j = i + 1 := ⟨j - 1, by omega⟩
          refine nm_r (pk_m1 i) ?_
          exact ih i (by omega) (by omega) (by omega)
  exact ⟨25, key 25 24 (by omega) (by omega) (by omega)⟩
theorem gx_deg_zB {post : Int32 → Prop} (m : Nat) (hm : m < 25) (hz : ∀ k, m < k → k < 25 → zB k = 0) (h : m = 0 ∨ zB m ≠ 0) (K : post (nI m)) : wpX_degree__resultBelow post (c, sA, sB, hh, lA, lB, rA, rB, zA, zB, cm, rm, qt) := by
  have key : ∀ n j, j < m + n → m ≤ j → j < 25 → wX_degree__resultBelow_3 post c sA sB hh lA lB rA rB zA zB cm rm qt n (nI j) := by
    intro n
    induction n with
    | zero => intro j h1 h2; omega
    | succ n ih =>
      intro j h1 h2 h3
      by_cases d : j = 0
      · subst d
        have m0 : m = 0 := by omega
        subst m0
        exact br_t (by decide) K
      · refine br_f (nI_nle (by omega) (by omega)) ⟨vp_in_nI h3 (by decide), ?_⟩
        rw [nI_clamp (by omega)]
        by_cases e : j = m
        · subst e
          cases h with
          | inl h => exact absurd h d
          | inr h => exact br_f h K
        · refine br_t (hz j (by omega) h3) ?_
          obtain ⟨i, rfl⟩ : ∃ i, j = i + 1 := ⟨j - 1, by omega⟩
          refine nm_r (pk_m1 i) ?_
          exact ih i (by omega) (by omega) (by omega)
  exact ⟨25, key 25 24 (by omega) (by omega) (by omega)⟩
theorem gx_deg_rA {post : Int32 → Prop} (m : Nat) (hm : m < 25) (hz : ∀ k, m < k → k < 25 → rA k = 0) (h : m = 0 ∨ rA m ≠ 0) (K : post (nI m)) : wpX_degree__rightAbove post (c, sA, sB, hh, lA, lB, rA, rB, zA, zB, cm, rm, qt) := by
  have key : ∀ n j, j < m + n → m ≤ j → j < 25 → wX_degree__rightAbove_3 post c sA sB hh lA lB rA rB zA zB cm rm qt n (nI j) := by
    intro n
    induction n with
    | zero => intro j h1 h2; omega
    | succ n ih =>
      intro j h1 h2 h3
      by_cases d : j = 0
      · subst d
        have m0 : m = 0 := by omega
        subst m0
        exact br_t (by decide) K
      · refine br_f (nI_nle (by omega) (by omega)) ⟨vp_in_nI h3 (by decide), ?_⟩
        rw [nI_clamp (by omega)]
        by_cases e : j = m
        · subst e
          cases h with
          | inl h => exact absurd h d
          | inr h => exact br_f h K
        · refine br_t (hz j (by omega) h3) ?_
          obtain ⟨i, rfl⟩ : ∃ i, j = i + 1 := ⟨j - 1, by omega⟩
          refine nm_r (pk_m1 i) ?_
          exact ih i (by omega) (by omega) (by omega)
  exact ⟨25, key 25 24 (by omega) (by omega) (by omega)⟩
theorem gx_zero_rm {post : Int32 → Prop} {f : Nat → Fin 101} (hf : fz_ar rm f) (lf : fz_l f 25) (K1 : f = fz_o 0 0 → post 1) (K0 : f ≠ fz_o 0 0 → post 0) : wpX_isZero__remainder post (c, sA, sB, hh, lA, lB, rA, rB, zA, zB, cm, rm, qt) := by
  by_cases z : f = fz_o 0 0
  · refine gx_deg_rm (post := _) 0 (by omega) (fun k h1 h2 => by rw [hf k h2, z, fz_o00]; rfl) (Or.inl rfl) ?_
    exact br_t rfl (br_t (by rw [hf 0 (by omega), z, fz_o00]; rfl) (K1 z))
  · obtain ⟨m, hm, he⟩ := fz_e_ex 25 lf z
    refine gx_deg_rm (post := _) m hm (fun k h1 h2 => by rw [hf k h2, he.2 k h1]; rfl) (Or.inr (by rw [hf m hm]; exact fun y => he.1 (fz_c_z.mp y))) ?_
    by_cases d : m = 0
    · subst d
      exact br_t rfl (br_f (by rw [hf 0 hm]; exact fun y => he.1 (fz_c_z.mp y)) (K0 z))
    · exact br_f (nI_ne0 (by omega) (by omega)) (K0 z)
theorem gx_zero_zA {post : Int32 → Prop} {f : Nat → Fin 101} (hf : fz_ar zA f) (lf : fz_l f 25) (K1 : f = fz_o 0 0 → post 1) (K0 : f ≠ fz_o 0 0 → post 0) : wpX_isZero__resultAbove post (c, sA, sB, hh, lA, lB, rA, rB, zA, zB, cm, rm, qt) := by
  by_cases z : f = fz_o 0 0
  · refine gx_deg_zA (post := _) 0 (by omega) (fun k h1 h2 => by rw [hf k h2, z, fz_o00]; rfl) (Or.inl rfl) ?_
    exact br_t rfl (br_t (by rw [hf 0 (by omega), z, fz_o00]; rfl) (K1 z))
  · obtain ⟨m, hm, he⟩ := fz_e_ex 25 lf z
    refine gx_deg_zA (post := _) m hm (fun k h1 h2 => by rw [hf k h2, he.2 k h1]; rfl) (Or.inr (by rw [hf m hm]; exact fun y => he.1 (fz_c_z.mp y))) ?_
    by_cases d : m = 0
    · subst d
      exact br_t rfl (br_f (by rw [hf 0 hm]; exact fun y => he.1 (fz_c_z.mp y)) (K0 z))
    · exact br_f (nI_ne0 (by omega) (by omega)) (K0 z)
theorem gx_zero_rA {post : Int32 → Prop} {f : Nat → Fin 101} (hf : fz_ar rA f) (lf : fz_l f 25) (K1 : f = fz_o 0 0 → post 1) (K0 : f ≠ fz_o 0 0 → post 0) : wpX_isZero__rightAbove post (c, sA, sB, hh, lA, lB, rA, rB, zA, zB, cm, rm, qt) := by
  by_cases z : f = fz_o 0 0
  · refine gx_deg_rA (post := _) 0 (by omega) (fun k h1 h2 => by rw [hf k h2, z, fz_o00]; rfl) (Or.inl rfl) ?_
    exact br_t rfl (br_t (by rw [hf 0 (by omega), z, fz_o00]; rfl) (K1 z))
  · obtain ⟨m, hm, he⟩ := fz_e_ex 25 lf z
    refine gx_deg_rA (post := _) m hm (fun k h1 h2 => by rw [hf k h2, he.2 k h1]; rfl) (Or.inr (by rw [hf m hm]; exact fun y => he.1 (fz_c_z.mp y))) ?_
    by_cases d : m = 0
    · subst d
      exact br_t rfl (br_f (by rw [hf 0 hm]; exact fun y => he.1 (fz_c_z.mp y)) (K0 z))
    · exact br_f (nI_ne0 (by omega) (by omega)) (K0 z)
theorem gx_dege_rm {post : Int32 → Prop} {f : Nat → Fin 101} {m : Nat} (hf : fz_ar rm f) (hm : m < 25) (he : fz_e f m) (K : post (nI m)) : wpX_degree__remainder post (c, sA, sB, hh, lA, lB, rA, rB, zA, zB, cm, rm, qt) :=
  gx_deg_rm m hm (fun k h1 h2 => by rw [hf k h2, he.2 k h1]; rfl) (Or.inr (by rw [hf m hm]; exact fun y => he.1 (fz_c_z.mp y))) K
theorem gx_dege_zA {post : Int32 → Prop} {f : Nat → Fin 101} {m : Nat} (hf : fz_ar zA f) (hm : m < 25) (he : fz_e f m) (K : post (nI m)) : wpX_degree__resultAbove post (c, sA, sB, hh, lA, lB, rA, rB, zA, zB, cm, rm, qt) :=
  gx_deg_zA m hm (fun k h1 h2 => by rw [hf k h2, he.2 k h1]; rfl) (Or.inr (by rw [hf m hm]; exact fun y => he.1 (fz_c_z.mp y))) K
theorem gx_dege_cm {post : Int32 → Prop} {f : Nat → Fin 101} {m : Nat} (hf : fz_ar cm f) (hm : m < 25) (he : fz_e f m) (K : post (nI m)) : wpX_degree__common post (c, sA, sB, hh, lA, lB, rA, rB, zA, zB, cm, rm, qt) :=
  gx_deg_cm m hm (fun k h1 h2 => by rw [hf k h2, he.2 k h1]; rfl) (Or.inr (by rw [hf m hm]; exact fun y => he.1 (fz_c_z.mp y))) K
theorem gx_dege_zB {post : Int32 → Prop} {f : Nat → Fin 101} {m : Nat} (hf : fz_ar zB f) (hm : m < 25) (he : fz_e f m) (K : post (nI m)) : wpX_degree__resultBelow post (c, sA, sB, hh, lA, lB, rA, rB, zA, zB, cm, rm, qt) :=
  gx_deg_zB m hm (fun k h1 h2 => by rw [hf k h2, he.2 k h1]; rfl) (Or.inr (by rw [hf m hm]; exact fun y => he.1 (fz_c_z.mp y))) K
theorem gx_dege_rA {post : Int32 → Prop} {f : Nat → Fin 101} {m : Nat} (hf : fz_ar rA f) (hm : m < 25) (he : fz_e f m) (K : post (nI m)) : wpX_degree__rightAbove post (c, sA, sB, hh, lA, lB, rA, rB, zA, zB, cm, rm, qt) :=
  gx_deg_rA m hm (fun k h1 h2 => by rw [hf k h2, he.2 k h1]; rfl) (Or.inr (by rw [hf m hm]; exact fun y => he.1 (fz_c_z.mp y))) K
theorem gx_inv {post : Int32 → Prop} (a : Fin 101) (h : a ≠ 0) (K : post (fz_c (fz_i a))) : wpX_inverse post (fz_c a) := by
  have key : ∀ n j, (fz_i a).val < j + n → j ≤ (fz_i a).val → wX_inverse_2 post (fz_c a) n (nI j) := by
    intro n
    induction n with
    | zero => intro j h1 h2; omega
    | succ n ih =>
      intro j h1 h2
      have hi := (fz_i a).isLt
      refine br_f (nI_ge (b := 101) (by omega) (by decide)) ⟨fz_nz101, ?_⟩
      have e : nI j = fz_c (Fin.ofNat 101 j) := by
        show nI j = nI (j % 101)
        rw [Nat.mod_eq_of_lt (by omega)]
      rw [e, fz_rem_m]
      by_cases d : j = (fz_i a).val
      · rw [d, fz_of_val]
        refine br_t ?_ K
        rw [fz_i_m a h]
        rfl
      · refine br_f ?_ ?_
        · rw [← fz_c_1, fz_c_inj]
          intro y
          have y2 := congrArg Fin.val (fz_i_u y)
          rw [show (Fin.ofNat 101 j).val = j from Nat.mod_eq_of_lt (by omega)] at y2
          exact d y2
        · rw [← e]
          refine nm_r (nI_1 j) ?_
          exact ih (j + 1) (by omega) (by omega)
  refine ⟨101, ?_⟩
  have h0 : (fz_i a).val ≠ 0 := fun z => fz_i_nz h (Fin.ext z)
  have hi := (fz_i a).isLt
  exact key 101 1 (by omega) (by omega)
theorem gx_scale_zA {post : SX → Prop} {f : Nat → Fin 101} (u : Fin 101) (hf : fz_ar zA f) (K : ∀ t, fz_ar t (fz_m (fz_o 0 u) f) → post (c, sA, sB, hh, lA, lB, rA, rB, t, zB, cm, rm, qt)) : wpX_multiplyByNumber__resultAbove post (c, sA, sB, hh, lA, lB, rA, rB, zA, zB, cm, rm, qt) (fz_c u) := by
  refine pk_loop (fun n i s => wX_multiplyByNumber__resultAbove_2 post (fz_c u) c n (nI i) sA sB hh lA lB rA rB s zB cm rm qt) (fun i s => (∀ k, k < i → s k = fz_c (fz_m (fz_o 0 u) f k)) ∧ ∀ k, i ≤ k → k < 25 → s k = fz_c (f k)) 25 0 zA (by omega) ⟨fun k h => by omega, fun k _ h => hf k h⟩ ?_ ?_
  · intro n s h
    exact br_t (by decide) (K _ h.1)
  · intro n i s hi h ih
    refine br_f (nI_ge (b := 25) hi (by decide)) ⟨vp_in_nI hi (by decide), fz_nz101, vp_in_nI hi (by decide), ?_⟩
    refine nm_r (e' := upd s i (fz_c (fz_m (fz_o 0 u) f i))) (by rw [nI_clamp (by omega), h.2 i (by omega) hi, fz_rem_m, fz_m_const]; congr 2; grind) ?_
    refine nm_r (nI_1 i) ?_
    exact ih _ ⟨fz_up h.1 rfl, fun k h1 h2 => by rw [pk_un (by omega)]; exact h.2 k (by omega) h2⟩
theorem gx_scale_zB {post : SX → Prop} {f : Nat → Fin 101} (u : Fin 101) (hf : fz_ar zB f) (K : ∀ t, fz_ar t (fz_m (fz_o 0 u) f) → post (c, sA, sB, hh, lA, lB, rA, rB, zA, t, cm, rm, qt)) : wpX_multiplyByNumber__resultBelow post (c, sA, sB, hh, lA, lB, rA, rB, zA, zB, cm, rm, qt) (fz_c u) := by
  refine pk_loop (fun n i s => wX_multiplyByNumber__resultBelow_2 post (fz_c u) c n (nI i) sA sB hh lA lB rA rB zA s cm rm qt) (fun i s => (∀ k, k < i → s k = fz_c (fz_m (fz_o 0 u) f k)) ∧ ∀ k, i ≤ k → k < 25 → s k = fz_c (f k)) 25 0 zB (by omega) ⟨fun k h => by omega, fun k _ h => hf k h⟩ ?_ ?_
  · intro n s h
    exact br_t (by decide) (K _ h.1)
  · intro n i s hi h ih
    refine br_f (nI_ge (b := 25) hi (by decide)) ⟨vp_in_nI hi (by decide), fz_nz101, vp_in_nI hi (by decide), ?_⟩
    refine nm_r (e' := upd s i (fz_c (fz_m (fz_o 0 u) f i))) (by rw [nI_clamp (by omega), h.2 i (by omega) hi, fz_rem_m, fz_m_const]; congr 2; grind) ?_
    refine nm_r (nI_1 i) ?_
    exact ih _ ⟨fz_up h.1 rfl, fun k h1 h2 => by rw [pk_un (by omega)]; exact h.2 k (by omega) h2⟩
theorem gx_dv_lA {post : SX → Prop} {f : Nat → Fin 101} (hf : fz_ar lA f) (lf : fz_l f 25) (K : ∀ t, fz_ar t (fz_dv f) → post (c, sA, sB, hh, lA, lB, t, rB, zA, zB, cm, rm, qt)) : wpX_derivePolynomial__leftAbove_rightAbove post (c, sA, sB, hh, lA, lB, rA, rB, zA, zB, cm, rm, qt) := by
  refine pk_loop (fun n i s => wX_derivePolynomial__leftAbove_rightAbove_2 post c n (nI i) sA sB hh lA lB s rB zA zB cm rm qt) (fun i s => 1 ≤ i ∧ ∀ k, k + 1 < i → s k = fz_c (fz_dv f k)) 25 1 rA (by omega) ⟨by omega, fun k h => by omega⟩ ?_ ?_
  · intro n s h
    refine br_t (by decide) ?_
    refine nm_e ?_
    refine K _ (fun k hk => ?_)
    by_cases d : k = 24
    · subst d
      rw [pk_us, fz_dv_l (n := 24) lf 24 (by omega)]
      rfl
    · rw [pk_un d]
      exact h.2 k (by omega)
  · intro n i s hi h ih
    obtain ⟨j, rfl⟩ : ∃ j, i = j + 1 := ⟨i - 1, by omega⟩
    refine br_f (nI_ge (b := 25) hi (by decide)) ⟨vp_in_nI hi (by decide), fz_nz101, ?_⟩
    rw [nI_pred j]
    refine ⟨vp_in_nI (by omega) (by decide), ?_⟩
    refine nm_r (e' := upd s j (fz_c (fz_dv f j))) (by rw [nI_clamp (by omega), nI_clamp (by omega), hf (j + 1) hi, fz_rem_k (by omega)]; rfl) ?_
    refine nm_r (nI_1 (j + 1)) ?_
    refine ih _ ⟨by omega, fun k hk => ?_⟩
    by_cases d : k = j
    · subst d
      rw [pk_us]
    · rw [pk_un d]
      exact h.2 k (by omega)
theorem gx_dv_lB {post : SX → Prop} {f : Nat → Fin 101} (hf : fz_ar lB f) (lf : fz_l f 25) (K : ∀ t, fz_ar t (fz_dv f) → post (c, sA, sB, hh, lA, lB, rA, t, zA, zB, cm, rm, qt)) : wpX_derivePolynomial__leftBelow_rightBelow post (c, sA, sB, hh, lA, lB, rA, rB, zA, zB, cm, rm, qt) := by
  refine pk_loop (fun n i s => wX_derivePolynomial__leftBelow_rightBelow_2 post c n (nI i) sA sB hh lA lB rA s zA zB cm rm qt) (fun i s => 1 ≤ i ∧ ∀ k, k + 1 < i → s k = fz_c (fz_dv f k)) 25 1 rB (by omega) ⟨by omega, fun k h => by omega⟩ ?_ ?_
  · intro n s h
    refine br_t (by decide) ?_
    refine nm_e ?_
    refine K _ (fun k hk => ?_)
    by_cases d : k = 24
    · subst d
      rw [pk_us, fz_dv_l (n := 24) lf 24 (by omega)]
      rfl
    · rw [pk_un d]
      exact h.2 k (by omega)
  · intro n i s hi h ih
    obtain ⟨j, rfl⟩ : ∃ j, i = j + 1 := ⟨i - 1, by omega⟩
    refine br_f (nI_ge (b := 25) hi (by decide)) ⟨vp_in_nI hi (by decide), fz_nz101, ?_⟩
    rw [nI_pred j]
    refine ⟨vp_in_nI (by omega) (by decide), ?_⟩
    refine nm_r (e' := upd s j (fz_c (fz_dv f j))) (by rw [nI_clamp (by omega), nI_clamp (by omega), hf (j + 1) hi, fz_rem_k (by omega)]; rfl) ?_
    refine nm_r (nI_1 (j + 1)) ?_
    refine ih _ ⟨by omega, fun k hk => ?_⟩
    by_cases d : k = j
    · subst d
      rw [pk_us]
    · rw [pk_un d]
      exact h.2 k (by omega)
theorem gx_at_zB {post : Int32 → Prop} {f : Nat → Fin 101} (a : Fin 101) (hf : fz_ar zB f) (K : post (fz_c (fz_h 25 f a))) : wpX_polynomialAt__resultBelow post (c, sA, sB, hh, lA, lB, rA, rB, zA, zB, cm, rm, qt) (fz_c a) := by
  have key := pk_loopD (fun n j (s : Int32) => wX_polynomialAt__resultBelow_5 post (fz_c a) c sA sB hh lA lB rA rB zA zB cm rm qt n s (fz_d1 j)) (fun j s => j ≤ 25 ∧ s = fz_c (fz_h (25 - j) (fun i => f (i + j)) a)) (fun n s h => by
    refine br_t (by decide) ?_
    rw [h.2]
    exact K) (fun n j s h ih => by
    refine br_f (nI_pos (by omega)) ⟨vp_in_nI (by omega) (by decide), fz_nz101, ?_⟩
    refine nm_r (e' := fz_c (fz_h (25 - j) (fun i => f (i + j)) a)) ?_ ?_
    · rw [show fz_d1 (j + 1) = nI j from rfl, nI_clamp (by omega), h.2, hf j (by omega), fz_rem_h]
      congr 1
      rw [show 25 - j = 25 - (j + 1) + 1 by omega]
      show _ = f (0 + j) + a * fz_h (25 - (j + 1)) (fun i => f (i + 1 + j)) a
      rw [Nat.zero_add, show (fun i => f (i + 1 + j)) = (fun i => f (i + (j + 1))) from funext (fun i => by congr 1; omega)]
      grind
    · refine nm_r (fz_d1_s j) ?_
      exact ih _ ⟨by omega, rfl⟩)
  exact ⟨26, key 25 0 ⟨by omega, rfl⟩⟩
theorem gx_at_zA {post : Int32 → Prop} {f : Nat → Fin 101} (a : Fin 101) (hf : fz_ar zA f) (K : post (fz_c (fz_h 25 f a))) : wpX_polynomialAt__resultAbove post (c, sA, sB, hh, lA, lB, rA, rB, zA, zB, cm, rm, qt) (fz_c a) := by
  have key := pk_loopD (fun n j (s : Int32) => wX_polynomialAt__resultAbove_5 post (fz_c a) c sA sB hh lA lB rA rB zA zB cm rm qt n s (fz_d1 j)) (fun j s => j ≤ 25 ∧ s = fz_c (fz_h (25 - j) (fun i => f (i + j)) a)) (fun n s h => by
    refine br_t (by decide) ?_
    rw [h.2]
    exact K) (fun n j s h ih => by
    refine br_f (nI_pos (by omega)) ⟨vp_in_nI (by omega) (by decide), fz_nz101, ?_⟩
    refine nm_r (e' := fz_c (fz_h (25 - j) (fun i => f (i + j)) a)) ?_ ?_
    · rw [show fz_d1 (j + 1) = nI j from rfl, nI_clamp (by omega), h.2, hf j (by omega), fz_rem_h]
      congr 1
      rw [show 25 - j = 25 - (j + 1) + 1 by omega]
      show _ = f (0 + j) + a * fz_h (25 - (j + 1)) (fun i => f (i + 1 + j)) a
      rw [Nat.zero_add, show (fun i => f (i + 1 + j)) = (fun i => f (i + (j + 1))) from funext (fun i => by congr 1; omega)]
      grind
    · refine nm_r (fz_d1_s j) ?_
      exact ih _ ⟨by omega, rfl⟩)
  exact ⟨26, key 25 0 ⟨by omega, rfl⟩⟩
theorem gx_exch {post : SX → Prop} {f g : Nat → Fin 101} (hf : fz_ar cm f) (hg : fz_ar rm g) (K : ∀ t t', fz_ar t g → fz_ar t' f → post (c, sA, sB, hh, lA, lB, rA, rB, zA, zB, t, t', qt)) : wpX_exchange__common_remainder post (c, sA, sB, hh, lA, lB, rA, rB, zA, zB, cm, rm, qt) := by
  refine pk_loop (fun n i (s : (Nat → Int32) × (Nat → Int32)) => wX_exchange__common_remainder_2 post c n (nI i) sA sB hh lA lB rA rB zA zB s.1 s.2 qt) (fun i s => (∀ k, k < i → s.1 k = fz_c (g k)) ∧ (∀ k, k < i → s.2 k = fz_c (f k)) ∧ (∀ k, i ≤ k → k < 25 → s.1 k = fz_c (f k)) ∧ (∀ k, i ≤ k → k < 25 → s.2 k = fz_c (g k))) 25 0 (cm, rm) (by omega) ⟨fun k h => by omega, fun k h => by omega, fun k _ h => hf k h, fun k _ h => hg k h⟩ ?_ ?_
  · intro n s h
    exact br_t (by decide) (K _ _ h.1 h.2.1)
  · intro n i s hi h ih
    have v := vp_in_nI (n := i) (N := 25) hi (by decide)
    refine br_f (nI_ge (b := 25) hi (by decide)) ⟨v, ?_⟩
    refine nm_r (e' := fz_c (f i)) (by rw [nI_clamp (by omega)]; exact h.2.2.1 i (by omega) hi) ?_
    refine ⟨v, v, ?_⟩
    refine nm_r (e' := upd s.1 i (fz_c (g i))) (by rw [nI_clamp (by omega)]; rw [h.2.2.2 i (by omega) hi]) ?_
    refine ⟨v, ?_⟩
    refine nm_r (e' := upd s.2 i (fz_c (f i))) (by rw [nI_clamp (by omega)]) ?_
    refine nm_r (nI_1 i) ?_
    exact ih (upd s.1 i (fz_c (g i)), upd s.2 i (fz_c (f i))) ⟨fz_up h.1 rfl, fz_up h.2.1 rfl, fun k h1 h2 => (pk_un (by omega)).trans (h.2.2.1 k (by omega) h2), fun k h1 h2 => (pk_un (by omega)).trans (h.2.2.2 k (by omega) h2)⟩
end
