/-! the reference's rename and moves -/
theorem ym_rl_l {post : Int32 → SY → Prop} {c k : Nat} {K L A B P W : Nat → Int32} {m : Int32} (hc : c ≤ 28) (hk : k < c) (hn : rd_nest K c) (hA : ∀ q, q < c → A q = K q) (hB : ∀ q, q < c → B q = L q) (hP : ∀ q, q < c → P q = nI q) (hW : ∀ q, q < c → W q = rd_wa K L q)
    (ht : rd_lr K L k m c → post 1 (nI c, K, L, A, rd_acc c (rd_rn K L k m) B, P, W)) (hf : ¬ rd_lr K L k m c → post 0 (nI c, K, L, A, rd_acc c (rd_rn K L k m) B, P, W)) : ∀ e p, p + e = c → wY_renamed_6 post (nI k) m (nI c) (e + 1) (nI p) K L A (rd_acc p (rd_rn K L k m) B) P W := by
  intro e
  induction e with
  | zero =>
    intro p h
    have e : p = c := by omega
    subst e
    have e : rd_lg K L A (rd_acc p (rd_rn K L k m) B) (fun q => q) p ↔ rd_lr K L k m p := rd_lg_cg hA (fun q hq => rd_acc_lt hq) (fun q hq => rfl)
    exact br_t (nI_le (Nat.le_refl _) (by omega)) (ym_lg (o := fun q => q) (K0 := K) (L0 := L) hc (rd_nest_cg hA (Nat.le_refl _) hn) hP (fun q hq => hq) hW (fun z => ⟨rfl, ht (e.mp z)⟩) (fun z => ⟨rfl, hf (fun y => z (e.mpr y))⟩))
  | succ e ih =>
    intro p h
    have hi : vp_in (nI p) 28 := rd_in (by omega)
    have hpc : p < c := by omega
    have IH := ih (p + 1) (by omega)
    refine br_f (nI_ge hpc (by omega)) ?_
    rw [nI_clamp (show p < 2 ^ 31 by omega), hW p hpc]
    by_cases hpk : p = k
    · exact br_t (by rw [hpk]) ⟨hi, nm_r (rd_acc_s (rd_rn_t (rd_rb_i.mpr (Or.inl hpk))).symm) (nm_r (nI_1 p) IH)⟩
    · refine br_f (fun z => hpk ((nI_eq (by omega) (by omega)).mp z)) ⟨hi, ?_⟩
      by_cases hw : rd_wa K L p = nI k
      · exact br_t hw ⟨hi, nm_r (rd_acc_s (rd_rn_t (rd_rb_i.mpr (Or.inr hw))).symm) (nm_r (nI_1 p) IH)⟩
      · have hr : ¬ rd_rb K L k p = true := fun z => (rd_rb_i.mp z).elim hpk hw
        exact br_f hw ⟨hi, hi, nm_r (rd_acc_s (by rw [rd_acc_ge (Nat.lt_irrefl p), hB p hpc, rd_rn_f hr])) (nm_r (nI_1 p) IH)⟩
theorem ym_rl {post : Int32 → SY → Prop} {c k : Nat} {K L A B P W : Nat → Int32} {m : Int32} (hc : c ≤ 28) (hk : k < c) (hn : rd_nest K c)
    (ht : rd_lr K L k m c → ∀ A B P W : Nat → Int32, (∀ q, q < c → A q = K q) → (∀ q, q < c → B q = rd_rn K L k m q) → post 1 (nI c, K, L, A, B, P, W)) (hf : ¬ rd_lr K L k m c → ∀ A B P W : Nat → Int32, post 0 (nI c, K, L, A, B, P, W)) : wpY_renamed post (nI c, K, L, A, B, P, W) (nI k) m := by
  unfold wpY_renamed
  dsimp only
  refine ym_ba hc hn (fun A B P W hb => ?_)
  dsimp only
  obtain ⟨hA, hB, hP, hW⟩ := hb
  have hA' : ∀ q, q < c → A q = K q := fun q hq => hA q (by omega)
  have h := ym_rl_l (post := post) (m := m) hc hk hn hA' (fun q hq => hB q (by omega)) (fun q hq => hP q (by omega)) hW (fun z => ht z A _ P W hA' (fun q hq => rd_acc_lt hq)) (fun z => hf z A _ P W) c 0 (by omega)
  rw [rd_acc_0] at h
  exact ⟨c + 1, h⟩
/-- the token of k stands at t, those of t .. p - 1 one place higher -/
def rd_mq (k t p : Nat) (K A : Nat → Int32) : Nat → Int32 := fun q => if q = t then K k else if t < q ∧ q ≤ p then K (q - 1) else A q
theorem rd_mq_0 (k t : Nat) (K A : Nat → Int32) : upd A t (K k) = rd_mq k t t K A := by
  funext q
  by_cases e : q = t
  · rw [e, pk_us, rd_mq, if_pos rfl]
  · rw [pk_un e, rd_mq, if_neg e, if_neg (by omega)]
theorem rd_mq_s {k t p : Nat} {K A : Nat → Int32} (h : t ≤ p) : upd (rd_mq k t p K A) (p + 1) (K p) = rd_mq k t (p + 1) K A := by
  funext q
  by_cases e : q = p + 1
  · rw [e, pk_us, rd_mq, if_neg (by omega), if_pos (by omega), Nat.add_sub_cancel]
  · rw [pk_un e, rd_mq, rd_mq]
    by_cases e1 : q = t
    · rw [if_pos e1, if_pos e1]
    · rw [if_neg e1, if_neg e1]
      by_cases e2 : t < q ∧ q ≤ p
      · rw [if_pos e2, if_pos (by omega)]
      · rw [if_neg e2, if_neg (by omega)]
theorem rd_mq_e {k t c : Nat} {K A : Nat → Int32} (hA : ∀ q, q < c → A q = K q) : ∀ q, q < c → rd_mq k t k K A q = K (rd_mo k t q) := by
  intro q hq
  rw [rd_mq, rd_mo]
  by_cases e1 : q = t
  · rw [if_pos e1, if_pos e1]
  · rw [if_neg e1, if_neg e1]
    by_cases e2 : t < q ∧ q ≤ k
    · rw [if_pos e2, if_pos e2]
    · rw [if_neg e2, if_neg e2, hA q hq]
theorem rd_sw_e {k c : Nat} {K A : Nat → Int32} (hA : ∀ q, q < c → A q = K q) : ∀ q, q < c → upd (upd A (k + 1) (K k)) k (K (k + 1)) q = K (rd_mo (k + 1) k q) := by
  intro q hq
  by_cases e1 : q = k
  · rw [e1, pk_us, rd_mo, if_pos rfl]
  · rw [pk_un e1, rd_mo, if_neg e1]
    by_cases e2 : q = k + 1
    · rw [e2, pk_us, if_pos (by omega), Nat.add_sub_cancel]
    · rw [pk_un e2, if_neg (by omega), hA q hq]
theorem ym_ml {post : Int32 → Prop} {c f t : Nat} {K L A B P W : Nat → Int32} (hc : c ≤ 28) (H : rd_ok K c) (htf : t ≤ f) (hfc : f < c) (h2 : K f = 2 ∨ K f = 3) (hT : ∀ q, q < c → A q = K (rd_mo f t q)) (hS : ∀ q, q < c → B q = L (rd_mo f t q)) (hO : ∀ q, q < c → P q = nI (rd_mo f t q)) (hW : ∀ q, q < c → W q = rd_wa K L q) (ht : rd_lm K L f t c → post 1) (hf : ¬ rd_lm K L f t c → post 0) : wpY_legal post (nI c, K, L, A, B, P, W) := by
  have e : rd_lg K L A B (rd_mo f t) c ↔ rd_lm K L f t c := rd_lg_cg hT hS (fun p hp => rfl)
  exact ym_lg (o := rd_mo f t) (K0 := K) (L0 := L) hc (rd_ok_mv H htf hfc h2 hT).1 hO (fun q hq => rd_mo_lt hfc hq) hW (fun z => ht (e.mp z)) (fun z => hf (fun y => z (e.mpr y)))
theorem ym_mo_l {post : Int32 → SY → Prop} {c k t : Nat} {K L A B P W : Nat → Int32} (hc : c ≤ 28) (H : rd_ok K c) (hkc : k < c) (h2 : K k = 2) (hA : ∀ q, q < c → A q = K q) (hB : ∀ q, q < c → B q = L q) (hP : ∀ q, q < c → P q = nI q) (hW : ∀ q, q < c → W q = rd_wa K L q)
    (ht : rd_lm K L k t c → ∀ A B P W : Nat → Int32, (∀ q, q < c → A q = K (rd_mo k t q)) → (∀ q, q < c → B q = L (rd_mo k t q)) → post (nI t) (nI c, rd_acc c A K, rd_acc c B L, A, B, P, W)) (hf : ¬ rd_lm K L k t c → ∀ A B P W : Nat → Int32, post (-3) (nI c, K, L, A, B, P, W)) : ∀ e p, p + e = k → t ≤ p → wY_moveOut_36 post (nI k) (nI t) (e + 1) (nI p) (nI c) K L (rd_mq k t p K A) (rd_mq k t p L B) (rd_mq k t p nI P) W := by
  intro e
  induction e with
  | zero =>
    intro p h htp
    have e : p = k := by omega
    subst e
    exact br_t (nI_le (Nat.le_refl _) (by omega)) (ym_ml hc H htp hkc (Or.inl h2) (rd_mq_e hA) (rd_mq_e hB) (rd_mq_e hP) hW (fun z => br_f (by decide) (ym_ac hc (ht z _ _ _ _ (rd_mq_e hA) (rd_mq_e hB)))) (fun z => br_t rfl (hf z _ _ _ _)))
  | succ e ih =>
    intro p h htp
    refine br_f (nI_ge (by omega) (by omega)) ?_
    rw [nI_1 p]
    refine ym_pl (by omega) (by omega) ?_
    dsimp only
    rw [rd_mq_s htp, rd_mq_s htp, rd_mq_s htp]
    exact nm_e (ih (p + 1) (by omega) (by omega))
theorem ym_mo {post : Int32 → SY → Prop} {c : Nat} {K L A B P W : Nat → Int32} {x : Int32} (hc : c ≤ 28) (H : rd_ok K c)
    (hN : (∀ k t, k < c → x = nI k → K k = 2 → ¬ rd_ar K k 0 = some t) → ∀ A B P W : Nat → Int32, post (-1) (nI c, K, L, A, B, P, W))
    (ht : ∀ k t, k < c → x = nI k → K k = 2 → rd_ar K k 0 = some t → rd_lm K L k t c → ∀ A B P W : Nat → Int32, (∀ q, q < c → A q = K (rd_mo k t q)) → (∀ q, q < c → B q = L (rd_mo k t q)) → post (nI t) (nI c, rd_acc c A K, rd_acc c B L, A, B, P, W))
    (hf : ∀ k t, k < c → x = nI k → K k = 2 → rd_ar K k 0 = some t → ¬ rd_lm K L k t c → ∀ A B P W : Nat → Int32, post (-3) (nI c, K, L, A, B, P, W)) : wpY_moveOut post (nI c, K, L, A, B, P, W) x := by
  unfold wpY_moveOut
  dsimp only
  refine ym_ba hc H.1 (fun A B P W hb => ?_)
  dsimp only
  obtain ⟨hA, hB, hP, hW⟩ := hb
  refine ym_decl hc (fun k hk e h2 => ?_) (fun h => ?_)
  · subst e
    refine br_f (by decide) (ym_ar (by omega) ?_)
    rw [rd_ar_cg k 0 (fun q hq => hA q (by omega))]
    cases e : rd_ar K k 0 with
    | none =>
      refine br_f (show ¬ (0 : Int32) ≤ -1 by decide) (hN (fun k' t hk' ek _ ea => ?_) A B P W)
      rw [nI_eq (by omega) (by omega)] at ek
      rw [← ek, e] at ea
      cases ea
    | some t =>
      have htk := rd_ar_lt e
      refine br_t (nI_pos' (n := t) (by omega)) (ym_pl (k := k) (p := t) (by omega) (by omega) ?_)
      dsimp only
      rw [rd_mq_0, rd_mq_0, rd_mq_0]
      exact ⟨k - t + 1, ym_mo_l hc H hk h2 (fun q hq => hA q (by omega)) (fun q hq => hB q (by omega)) (fun q hq => hP q (by omega)) hW (ht k t hk rfl h2 e) (hf k t hk rfl h2 e) (k - t) t (by omega) (Nat.le_refl t)⟩
  · exact br_t rfl (br_f (show ¬ (0 : Int32) ≤ -1 by decide) (hN (fun k t hk e h2 _ => h k hk e h2) A B P W))
theorem ym_co_l {post : Int32 → SY → Prop} {c k t : Nat} {K L A B P W : Nat → Int32} (hc : c ≤ 28) (H : rd_ok K c) (hkc : k < c) (h2 : K k = 2) (hA : ∀ q, q < c → A q = K q) (hB : ∀ q, q < c → B q = L q) (hP : ∀ q, q < c → P q = nI q) (hW : ∀ q, q < c → W q = rd_wa K L q)
    (ht : rd_lm K L k t c → ∀ A B P W : Nat → Int32, post 1 (nI c, K, L, A, B, P, W)) (hf : ¬ rd_lm K L k t c → ∀ A B P W : Nat → Int32, post 0 (nI c, K, L, A, B, P, W)) : ∀ e p, p + e = k → t ≤ p → wY_canMoveOut_36 post (nI k) (e + 1) (nI p) (nI c) K L (rd_mq k t p K A) (rd_mq k t p L B) (rd_mq k t p nI P) W := by
  intro e
  induction e with
  | zero =>
    intro p h htp
    have e : p = k := by omega
    subst e
    exact br_t (nI_le (Nat.le_refl _) (by omega)) (ym_ml hc H htp hkc (Or.inl h2) (rd_mq_e hA) (rd_mq_e hB) (rd_mq_e hP) hW (fun z => ⟨rfl, ht z _ _ _ _⟩) (fun z => ⟨rfl, hf z _ _ _ _⟩))
  | succ e ih =>
    intro p h htp
    refine br_f (nI_ge (by omega) (by omega)) ?_
    rw [nI_1 p]
    refine ym_pl (by omega) (by omega) ?_
    dsimp only
    rw [rd_mq_s htp, rd_mq_s htp, rd_mq_s htp]
    exact nm_e (ih (p + 1) (by omega) (by omega))
theorem ym_co {post : Int32 → SY → Prop} {c : Nat} {K L A B P W : Nat → Int32} {x : Int32} (hc : c ≤ 28) (H : rd_ok K c)
    (hN : (∀ k t, k < c → x = nI k → K k = 2 → ¬ rd_ar K k 0 = some t) → ∀ A B P W : Nat → Int32, post 0 (nI c, K, L, A, B, P, W))
    (ht : ∀ k t, k < c → x = nI k → K k = 2 → rd_ar K k 0 = some t → rd_lm K L k t c → ∀ A B P W : Nat → Int32, post 1 (nI c, K, L, A, B, P, W))
    (hf : ∀ k t, k < c → x = nI k → K k = 2 → rd_ar K k 0 = some t → ¬ rd_lm K L k t c → ∀ A B P W : Nat → Int32, post 0 (nI c, K, L, A, B, P, W)) : wpY_canMoveOut post (nI c, K, L, A, B, P, W) x := by
  unfold wpY_canMoveOut
  dsimp only
  refine ym_ba hc H.1 (fun A B P W hb => ?_)
  dsimp only
  obtain ⟨hA, hB, hP, hW⟩ := hb
  refine ym_decl hc (fun k hk e h2 => ?_) (fun h => ?_)
  · subst e
    refine br_f (by decide) (ym_ar (by omega) ?_)
    rw [rd_ar_cg k 0 (fun q hq => hA q (by omega))]
    cases e : rd_ar K k 0 with
    | none =>
      refine br_f (show ¬ (0 : Int32) ≤ -1 by decide) (hN (fun k' t hk' ek _ ea => ?_) A B P W)
      rw [nI_eq (by omega) (by omega)] at ek
      rw [← ek, e] at ea
      cases ea
    | some t =>
      have htk := rd_ar_lt e
      refine br_t (nI_pos' (n := t) (by omega)) (ym_pl (k := k) (p := t) (by omega) (by omega) ?_)
      dsimp only
      rw [rd_mq_0, rd_mq_0, rd_mq_0]
      exact ⟨k - t + 1, ym_co_l hc H hk h2 (fun q hq => hA q (by omega)) (fun q hq => hB q (by omega)) (fun q hq => hP q (by omega)) hW (ht k t hk rfl h2 e) (hf k t hk rfl h2 e) (k - t) t (by omega) (Nat.le_refl t)⟩
  · exact br_t rfl (br_f (show ¬ (0 : Int32) ≤ -1 by decide) (hN (fun k t hk e h2 _ => h k hk e h2) A B P W))
/-- the component's move out, tried -/
theorem xm_mo {post : Int32 → SX → Prop} {c : Nat} {K L T S O : Nat → Int32} {x : Int32} (hc : c ≤ 28)
    (hN : (∀ k t, k < c → x = nI k → K k = 2 → ¬ rd_ar K k 0 = some t) → post (-1) (nI c, K, L, T, S, O))
    (ht : ∀ k t, k < c → x = nI k → K k = 2 → rd_ar K k 0 = some t → rd_lm K L k t c → ∀ T S O : Nat → Int32, (∀ q, q < c → T q = K (rd_mo k t q)) → (∀ q, q < c → S q = L (rd_mo k t q)) → post (nI t) (nI c, K, L, T, S, O))
    (hf : ∀ k t, k < c → x = nI k → K k = 2 → rd_ar K k 0 = some t → ¬ rd_lm K L k t c → ∀ T S O : Nat → Int32, post (-3) (nI c, K, L, T, S, O)) : wpX_tryMoveOut post (nI c, K, L, T, S, O) x := by
  unfold wpX_tryMoveOut
  dsimp only
  refine xm_kind hc (fun k hk e h2 => ?_) (fun h => ?_)
  · subst e
    refine br_f (by decide) (xm_oa (by omega) ?_)
    cases e : rd_ar K k 0 with
    | none =>
      refine br_t rfl (hN (fun k' t hk' ek _ ea => ?_))
      rw [nI_eq (by omega) (by omega)] at ek
      rw [← ek, e] at ea
      cases ea
    | some t =>
      have htk := rd_ar_lt e
      refine br_f (rd_nm1 (q := t) (by omega)) (xm_mb (f := k) (t := t) hc hk (by omega) (fun T S O hT hS hO => ?_))
      dsimp only
      exact xm_ml hc hk hT hS hO (fun z => br_f (by decide) (ht k t hk rfl h2 e z T S O hT hS)) (fun z => br_t rfl (hf k t hk rfl h2 e z T S O))
  · exact br_t rfl (hN (fun k t hk e h2 _ => h k hk e h2))
