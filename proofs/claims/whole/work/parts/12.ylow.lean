/-! the reference's findLowest -/
theorem fz_o1m (row : Nat) : fz_m (fz_o 1 1) (fz_o row 1) = fz_o (row + 1) 1 := by
  funext k
  rw [fz_m_mono]
  show (if 1 ≤ k then 1 * (if k - 1 = row then (1 : Fin 101) else 0) else 0) = if k = row + 1 then 1 else 0
  by_cases c : k = row + 1
  · rw [if_pos (by omega), if_pos (by omega), if_pos c]
    rfl
  · rw [if_neg c]
    by_cases d : 1 ≤ k
    · rw [if_pos d, if_neg (by omega)]
      rfl
    · rw [if_neg d]
theorem fz_o1_at (M : Nat → Fin 101) (k : Nat) : fz_m (fz_o 1 1) M k = if 1 ≤ k then M (k - 1) else 0 := by
  rw [fz_m_mono]
  split
  · grind
  · rfl
theorem fz_mo_o (row : Nat) : fz_mo (fz_o row 1) row := ⟨by show (if row = row then (1 : Fin 101) else 0) = 1; rw [if_pos rfl], fz_l_o (by omega)⟩
def fz_f12 (ce ce' : Nat → Int32) : Prop := ∀ s, s < 12 → ∀ k, k < 25 → ce' (25 * s + k) = ce (25 * s + k)
theorem fz_f12_at {ce ce' : Nat → Int32} {s : Nat} {f : Nat → Fin 101} (h : fz_f12 ce ce') (hs : s < 12) (hf : fz_at ce (25 * s) f) : fz_at ce' (25 * s) f := fun k hk => by
  rw [h s hs k hk]
  exact hf k hk
theorem fz_f12_tr {a b c : Nat → Int32} (h : fz_f12 a b) (h' : fz_f12 b c) : fz_f12 a c := fun s hs k hk => (h' s hs k hk).trans (h s hs k hk)
theorem fz_f12_fr {a b : Nat → Int32} {r : Nat} (h : fz_fr a b r) (hr : 12 ≤ r) : fz_f12 a b := fun s hs k hk => h s (by omega) k hk
theorem fz_f12_fr2 {a b : Nat → Int32} {r r' : Nat} (h : fz_fr2 a b r r') (hr : 12 ≤ r) (hr' : 12 ≤ r') : fz_f12 a b := fun s hs k hk => h s (by omega) (by omega) k hk
section
variable {dp : Int32} {ce hy ro le : Nat → Int32}
theorem gy_51 {post : SY → Prop} {J36 : Int32 → Int32 → (Nat → Int32) → (Nat → Int32) → (Nat → Int32) → (Nat → Int32) → Prop} {x1 : Int32} {M q : Nat → Fin 101} (sq n row : Nat) (hsq : sq < 12) (hn : n < 25) (hr : row < 13) (hM : fz_at ce (25 * 16) M) (lM : fz_l M 24) (hq : fz_at ce (25 * sq) q) (he : fz_e q n)
    (K : ∀ ce' ro' s M', fz_at ce' (25 * 16) M' → fz_p s → fz_m (fz_o 1 1) M = fz_a (fz_m s q) M' → fz_l M' n → fz_rw ro' row M' (fz_o row 1) → fz_rf ro ro' row → fz_f12 ce ce' → J36 (nI row) dp ce' hy ro' le) : ∃ n, wY_findLowest_51 post J36 x1 (nI sq) (nI row) n 24 dp ce hy ro le := by
  have key := pk_loopD (fun n j t => wY_findLowest_51 post J36 x1 (nI sq) (nI row) n (nI j) dp t hy ro le) (fun j t => j ≤ 24 ∧ (∀ k, k ≤ j → t (25 * 16 + k) = fz_c (M k)) ∧ (∀ k, j < k → k < 25 → t (25 * 16 + k) = fz_c (M (k - 1))) ∧ fz_fr ce t 16) (fun nn t h => by
    obtain ⟨h1, h2, h3, h4⟩ := h
    refine br_t (by decide) ?_
    refine gy_put (post := _) 16 0 0 (by omega) (by omega) rfl rfl (by decide) ?_
    have h5 : fz_at (upd t (25 * 16 + 0) (fz_c 0)) (25 * 16) (fz_m (fz_o 1 1) M) := fun k hk => by
      rw [fz_o1_at]
      by_cases d : k = 0
      · subst d
        rw [pk_us]
        rfl
      · rw [pk_un (by omega), if_pos (by omega)]
        exact h3 k (by omega) hk
    have h6 : fz_fr ce (upd t (25 * 16 + 0) (fz_c 0)) 16 := fz_fr_up h4 (by omega)
    refine gy_red (post := _) 16 sq 17 n (by omega) (by omega) (by omega) (by omega) (by omega) (by omega) rfl rfl rfl hn h5 (fz_l_m' (m := 1) (n := 23) (fz_l_o (by omega)) lM (by omega)) (fz_fr_at h6 (by omega) hq) he (fun c2 s M' m1 m2 m3 m4 m5 m6 => ?_)
    refine gy_start (post := _) row hr rfl m1 (fun ro' m7 m8 => ?_)
    exact K c2 ro' s M' m1 ⟨_, m3⟩ m5 m4 m7 m8 (fz_f12_tr (fz_f12_fr h6 (by omega)) (fz_f12_fr2 m6 (by omega) (by omega)))) (fun nn j t h ih => by
    obtain ⟨h1, h2, h3, h4⟩ := h
    refine br_f (nI_nle (by omega) (by omega)) ?_
    refine gy_get (post := _) 16 j (by omega) (by omega) rfl (nI_pred j) ?_
    rw [h2 j (by omega)]
    refine gy_put (post := _) 16 (j + 1) (M j) (by omega) (by omega) rfl rfl (fz_rem_1 _) ?_
    refine nm_r (pk_m1 j) ?_
    refine ih _ ⟨by omega, fun k hk => ?_, fun k k1 k2 => ?_, fz_fr_up h4 (by omega)⟩
    · rw [pk_un (by omega)]
      exact h2 k (by omega)
    · by_cases d : k = j + 1
      · subst d
        rw [pk_us, Nat.add_sub_cancel]
      · rw [pk_un (by omega)]
        exact h3 k (by omega) k2)
  exact ⟨_, key 24 ce ⟨by omega, fun k hk => hM k (by omega), fun k k1 k2 => by omega, fz_fr_rfl ce 16⟩⟩
theorem gy_135 {post : SY → Prop} {P Q p q L : Nat → Fin 101} (sp sq n row : Nat) (hsp : sp < 12) (hsq : sq < 12) (hn : n < 25) (hr : row < 13) (hw : fz_rw ro row L Q) (mo : fz_mo Q row) (h21 : fz_at ce (25 * 21) (fz_o 0 0)) (hp : fz_at ce (25 * sp) p) (hq : fz_at ce (25 * sq) q) (lp : fz_l p 13) (he : fz_e q n) (pP : fz_p P) (e : fz_m P q = fz_m p Q)
    (K : ∀ ce', fz_at ce' (25 * 20) P → fz_at ce' (25 * 21) Q → fz_f12 ce ce' → post (dp, ce', hy, ro, le)) : ∃ n, wY_findLowest_135 post (nI sp) (nI sq) (nI row) (fz_c (fz_i 1)) n 0 dp ce hy ro le := by
  have lQ : fz_l Q 13 := fz_l_mono mo.2 (by omega)
  refine pk_loop (fun n i t => wY_findLowest_135 post (nI sp) (nI sq) (nI row) (fz_c (fz_i 1)) n (nI i) dp t hy ro le) (fun i t => fz_at t (25 * 21) (fz_tr i Q) ∧ fz_fr ce t 21) (row + 1) 0 ce (by omega) ⟨by rw [fz_tr_0]; exact h21, fz_fr_rfl ce 21⟩ ?_ ?_
  · intro nn t h
    obtain ⟨h1, h2⟩ := h
    rw [fz_tr_e mo.2] at h1
    refine br_t (nI_lt (by omega) (by omega)) ?_
    refine gy_mul (post := _) sp 21 18 (by omega) (by omega) (by omega) (by omega) (by omega) rfl rfl rfl (fz_fr_at h2 (by omega) hp) h1 (fun c1 m1 m2 => ?_)
    refine gy_red (post := _) 18 sq 20 n (by omega) (by omega) (by omega) (by omega) (by omega) (by omega) rfl rfl rfl hn m1 (fz_l_m' (m := 12) (n := 12) lp lQ (by omega)) (fz_fr_at m2 (by omega) (fz_fr_at h2 (by omega) hq)) he (fun c2 s t2 k1 k2 k3 k4 k5 k6 => ?_)
    have es : s = P := fz_kr_P he pP ⟨_, k3⟩ k4 e k5
    subst es
    exact K c2 k2 (fz_fr2_at k6 (by omega) (by omega) (fz_fr_at m2 (by omega) h1)) (fz_f12_tr (fz_f12_fr h2 (by omega)) (fz_f12_tr (fz_f12_fr m2 (by omega)) (fz_f12_fr2 k6 (by omega) (by omega))))
  · intro nn i t hi h ih
    obtain ⟨h1, h2⟩ := h
    refine br_f (nI_nlt (by omega) (by omega)) ⟨by rw [fz_iz]; exact vp_in_nI (by omega) (by decide), ?_⟩
    refine gy_put (post := _) 21 i (Q i) (by omega) (by omega) rfl rfl ?_ ?_
    · rw [fz_iz, nI_clamp (by omega), fz_rw_R hw (by omega), fz_rem_m, fz_i_1]
      congr 1
      grind
    · refine nm_r (nI_1 i) ?_
      refine ih _ ⟨fz_at_up h1 ?_ ?_, fz_fr_up h2 (by omega)⟩
      · show _ = fz_c (if i < i + 1 then Q i else 0)
        rw [if_pos (by omega)]
      · intro k hk
        show (if k < i + 1 then Q k else 0) = (if k < i then Q k else 0)
        by_cases d : k < i
        · rw [if_pos d, if_pos (by omega)]
        · rw [if_neg d, if_neg (by omega)]
def fz_FI (p q : Nat → Fin 101) (n row : Nat) (ce ro le : Nat → Int32) : Prop := ∃ LL RR l M, fz_ri p q n LL RR l row ∧ (∀ j, j < row → fz_rw ro j (LL j) (RR j)) ∧ (∀ j, j < row → le j = nI (l j) ∧ l j < 13) ∧ fz_at ce (25 * 16) M ∧ fz_l M n ∧ fz_rw ro row M (fz_o row 1) ∧ fz_re p q n (fz_o row 1) M
theorem gy_36 {post : SY → Prop} {P Q p q : Nat → Fin 101} (sp sq n m : Nat) (hsp : sp < 12) (hsq : sq < 12) (hn : n ≤ 12) (hm : m ≤ 12) (lp : fz_l p 13) (he : fz_e q n) (pP : fz_p P) (hc : fz_co P Q) (mo : fz_mo Q m) (e : fz_m P q = fz_m p Q) (hp : fz_at ce (25 * sp) p) (hq : fz_at ce (25 * sq) q)
    (K : ∀ ce' ro' le', fz_at ce' (25 * 20) P → fz_at ce' (25 * 21) Q → fz_f12 ce ce' → post (dp, ce', hy, ro', le')) : ∀ (nf row : Nat) (ce1 ro1 le1 : Nat → Int32), m < row + nf → row ≤ m → fz_f12 ce ce1 → fz_FI p q n row ce1 ro1 le1 → wY_findLowest_36 post (nI sp) (nI sq) nf (nI row) dp ce1 hy ro1 le1 := by
  intro nf
  induction nf with
  | zero => intro row ce1 ro1 le1 h1 h2; omega
  | succ nf ih =>
    intro row ce1 ro1 le1 h1 h2 f12 hF
    obtain ⟨LL, RR, l, M, ri, hrw, hle, h16, lM, hw, re⟩ := hF
    refine gy_settle (post := _) row (by omega) hn ri hrw hle hw re (fz_mo_o row) (fun ro' L' R' k1 k2 k3 k4 k5 => ?_) (fun ro' L' R' ld k3 k4 k5 k6 k7 k1 k2 => ?_)
    · rw [k5] at k3
      have eR : R' = Q := fz_kr_b he k4 k3 mo h2 pP hc e
      subst eR
      refine br_t rfl ⟨by rw [fz_iz]; exact vp_in_nI (by omega) (by decide), ?_⟩
      refine gy_inv (post := _) 1 (by decide) (by rw [fz_iz, nI_clamp (by omega), fz_rw_R k1 (by omega), k4.1]) ?_
      refine gy_set (post := _) 21 0 (by omega) rfl rfl (fun c1 a1 a2 => ?_)
      exact gy_135 sp sq n row hsp hsq (by omega) (by omega) k1 k4 a1 (fz_fr_at a2 (by omega) (fz_f12_at f12 hsp hp)) (fz_fr_at a2 (by omega) (fz_f12_at f12 hsq hq)) lp he pP e (fun c2 b1 b2 b3 => K c2 _ _ b1 b2 (fz_f12_tr f12 (fz_f12_tr (fz_f12_fr a2 (by omega)) b3)))
    · have hne : row ≠ m := fun y => by
        rw [← y] at mo
        have z := (fz_kr_a he ri k4 k3 k5 mo pP e).2
        exact k7 (by rw [z, fz_o00])
      refine br_f (by decide) ?_
      refine nm_r (nI_1 row) ?_
      refine gy_51 sq n (row + 1) hsq (by omega) (by omega) h16 (fz_l_mono lM (by omega)) (fz_f12_at f12 hsq hq) he (fun c2 ro2 s M' a1 a2 a3 a4 a5 a6 a7 => ?_)
      refine ih (row + 1) c2 ro2 (upd le1 row (nI ld)) (by omega) (by omega) (fz_f12_tr f12 a7) ⟨fun j => if j = row then fz_m (fz_o 0 (fz_i (L' ld))) L' else LL j, fun j => if j = row then fz_m (fz_o 0 (fz_i (L' ld))) R' else RR j, fun j => if j = row then ld else l j, M', ?_, ?_, ?_, a1, a4, a5, ?_⟩
      · intro j hj
        by_cases d : j = row
        · subst d
          dsimp only
          rw [if_pos rfl, if_pos rfl, if_pos rfl]
          refine ⟨fz_re_sc _ k3, ?_, fz_cl k4.2, ?_, fun i hi => ?_⟩
          · rw [fz_m_const]
            show fz_i (L' ld) * R' j ≠ 0
            exact fz_nz (fz_i_nz k7) (by rw [k4.1]; decide)
          · rw [fz_m_const]
            show fz_i (L' ld) * L' ld = 1
            rw [← fz_i_m _ k7]
            grind
          · rw [if_neg (by omega), fz_m_const]
            show fz_i (L' ld) * L' (l i) = 0
            rw [k5 i hi]
            grind
        · dsimp only
          rw [if_neg d, if_neg d, if_neg d]
          obtain ⟨r1, r2, r3, r4, r5⟩ := ri j (by omega)
          refine ⟨r1, r2, r3, r4, fun i hi => ?_⟩
          rw [if_neg (by omega)]
          exact r5 i hi
      · intro j hj
        by_cases d : j = row
        · subst d
          dsimp only
          rw [if_pos rfl, if_pos rfl]
          exact fz_rf_rw a6 (by omega) k1
        · dsimp only
          rw [if_neg d, if_neg d]
          exact fz_rf_rw a6 (by omega) (fz_rf_rw k2 d (hrw j (by omega)))
      · intro j hj
        by_cases d : j = row
        · subst d
          dsimp only
          rw [if_pos rfl, pk_us]
          exact ⟨rfl, k6⟩
        · dsimp only
          rw [if_neg d, pk_un d]
          exact hle j (by omega)
      · have := fz_re_x (fz_o 1 1) (fz_p_o 1 1) re a2 a3 a4
        rw [fz_o1m] at this
        exact this
theorem gy_low {post : SY → Prop} {P Q p q : Nat → Fin 101} (d : Nat) (hd : d < 6) (lp : fz_l p 13) (lq : fz_l q 13) (nq : q ≠ fz_o 0 0) (hL : fz_low P Q) (lQ : fz_l Q 13) (e : fz_m P q = fz_m p Q) (hp : fz_at ce (25 * (2 * d)) p) (hq : fz_at ce (25 * (2 * d + 1)) q)
    (K : ∀ ce' ro' le', fz_at ce' (25 * 20) P → fz_at ce' (25 * 21) Q → fz_f12 ce ce' → post (nI (d + 1), ce', hy, ro', le')) : wpY_findLowest post (nI (d + 1), ce, hy, ro, le) := by
  obtain ⟨n, hn, he⟩ := fz_e_ex 13 lq nq
  obtain ⟨pP, hc, m, mo⟩ := hL
  have hm := fz_e_lt (fz_mo_e mo) lQ
  have e1 : 2 * nI (d + 1) - 2 = nI (2 * d) := by
    rw [show (2 : Int32) = nI 2 from rfl, pk_mul, pk_sub (by omega)]
    congr 1
  refine nm_r (e' := nI (2 * d)) e1 ?_
  refine nm_r (e' := nI (2 * d + 1)) (nI_1 (2 * d)) ?_
  refine gy_copy (post := _) (2 * d) 16 (by omega) (by omega) (by omega) rfl rfl hp (fun c1 a1 a2 => ?_)
  refine gy_red (post := _) 16 (2 * d + 1) 17 n (by omega) (by omega) (by omega) (by omega) (by omega) (by omega) rfl rfl rfl (by omega) a1 (fz_l_mono lp (by omega)) (fz_fr_at a2 (by omega) hq) he (fun c2 s M k1 k2 k3 k4 k5 k6 => ?_)
  refine gy_start (post := _) 0 (by omega) rfl k1 (fun ro' m7 m8 => ?_)
  refine ⟨13, gy_36 (ce := ce) (2 * d) (2 * d + 1) n m (by omega) (by omega) (by omega) (by omega) lp he pP hc mo e hp hq K 13 0 c2 ro' le (by omega) (by omega) (fz_f12_tr (fz_f12_fr a2 (by omega)) (fz_f12_fr2 k6 (by omega) (by omega))) ⟨fun _ => fz_o 0 0, fun _ => fz_o 0 0, fun _ => 0, M, fun j h => by omega, fun j h => by omega, fun j h => by omega, k1, k4, m7, s, ⟨_, k3⟩, ?_, k4⟩⟩
  rw [fz_m_comm, fz_m_one]
  exact k5
end
