/-! the component's trial: rename, move, legality -/
theorem xm_rn_l {post : Int32 → SX → Prop} {c k : Nat} {K L T S O : Nat → Int32} {m : Int32} (hc : c ≤ 28) (hk : k < c) (hS : ∀ p, p < c → S p = L p) (hp : post (rd_ct (rd_cb K L k m) c) (nI c, K, L, T, rd_acc c (rd_rn K L k m) S, O)) : ∀ e p, p + e = c → wX_tryRename_20 post m (rd_ms (rd_ux K L (nI k)) c ||| ((1 : Int32) <<< (nI k &&& 31))) (nI c) (e + 1) (rd_ct (rd_cb K L k m) p) (nI p) K L T (rd_acc p (rd_rn K L k m) S) O := by
  intro e
  induction e with
  | zero =>
    intro p h
    have e : p = c := by omega
    subst e
    exact br_t (nI_le (Nat.le_refl _) (by omega)) hp
  | succ e ih =>
    intro p h
    have hi : vp_in (nI p) 28 := rd_in (by omega)
    have IH := ih (p + 1) (by omega)
    have hb : ((rd_ms (rd_ux K L (nI k)) c ||| ((1 : Int32) <<< (nI k &&& 31))) &&& ((1 : Int32) <<< (nI p &&& 31)) = 0) ↔ ¬ rd_rb K L k p = true := by
      rw [rd_tst (by omega) (by omega) (by omega), rd_rb_i, rd_ux_k (by omega)]
      constructor
      · intro z y
        exact z (y.elim Or.inr (fun w => Or.inl ⟨by omega, w⟩))
      · intro z y
        exact z (y.elim (fun w => Or.inr w.2) Or.inl)
    refine br_f (nI_ge (by omega) (by omega)) ?_
    by_cases hr : rd_rb K L k p = true
    · refine br_f (fun z => hb.mp z hr) ⟨hi, ?_⟩
      rw [nI_clamp (by omega)]
      by_cases hm : L p = m
      · rw [rd_ct_f (fun z => (rd_cb_i.mp z).2 hm), ← rd_acc_k (by rw [rd_rn_t hr, hS p (by omega), hm])] at IH
        exact br_t hm (nm_r (nI_1 p) IH)
      · exact br_f hm ⟨hi, nm_r (rd_acc_s (rd_rn_t hr).symm) (nm_r (rd_ct_t (rd_cb_i.mpr ⟨hr, hm⟩)).symm (nm_r (nI_1 p) IH))⟩
    · rw [rd_ct_f (fun z => hr (rd_cb_i.mp z).1), ← rd_acc_k (by rw [rd_rn_f hr, hS p (by omega)])] at IH
      exact br_t (hb.mpr hr) (nm_r (nI_1 p) IH)
theorem xm_rn {post : Int32 → SX → Prop} {c k : Nat} {K L T S O : Nat → Int32} {m : Int32} (hc : c ≤ 28) (hk : k < c) (hp : post (rd_ct (rd_cb K L k m) c) (nI c, K, L, rd_acc c K T, rd_acc c (rd_rn K L k m) S, rd_acc c nI O)) : wpX_tryRename post (nI c, K, L, T, S, O) (nI k) m := by
  unfold wpX_tryRename
  dsimp only
  refine xm_cp hc ?_
  dsimp only
  refine xm_ub hc ?_
  refine nm_e ⟨c + 1, ?_⟩
  have h := xm_rn_l (T := rd_acc c K T) (S := rd_acc c L S) (O := rd_acc c nI O) (m := m) (post := post) hc hk (fun p hp => rd_acc_lt hp) (by rw [rd_acc2]; exact hp) c 0 (by omega)
  rw [rd_acc_0] at h
  exact h
/-- the places above p up to f hold what stood one below -/
def rd_mk (f p : Nat) (K A : Nat → Int32) : Nat → Int32 := fun q => if p < q ∧ q ≤ f then K (q - 1) else A q
theorem rd_mk_0 (f : Nat) (K A : Nat → Int32) : rd_mk f f K A = A := funext (fun q => if_neg (by omega))
theorem rd_mk_s {f r : Nat} {K A : Nat → Int32} (h : r + 1 ≤ f) : upd (rd_mk f (r + 1) K A) (r + 1) (K r) = rd_mk f r K A := by
  funext q
  by_cases e : q = r + 1
  · subst e
    rw [pk_us, rd_mk, if_pos (by omega), Nat.add_sub_cancel]
  · rw [pk_un e, rd_mk, rd_mk]
    by_cases e2 : r < q ∧ q ≤ f
    · rw [if_pos (by omega), if_pos e2]
    · rw [if_neg (by omega), if_neg e2]
theorem rd_mk_e {f t c : Nat} {K A : Nat → Int32} (hA : ∀ q, q < c → A q = K q) : ∀ q, q < c → upd (rd_mk f t K A) t (K f) q = K (rd_mo f t q) := by
  intro q hq
  by_cases e : q = t
  · rw [e, pk_us, rd_mo, if_pos rfl]
  · rw [pk_un e, rd_mk, rd_mo, if_neg e]
    by_cases e2 : t < q ∧ q ≤ f
    · rw [if_pos e2, if_pos e2]
    · rw [if_neg e2, if_neg e2, hA q hq]
theorem xm_mb_l {post : SX → Prop} {c f t : Nat} {K L T S O : Nat → Int32} (hc : c ≤ 28) (hf : f < c) (hT : ∀ q, q < c → T q = K q) (hS : ∀ q, q < c → S q = L q) (hO : ∀ q, q < c → O q = nI q)
    (hp : ∀ T' S' O' : Nat → Int32, (∀ q, q < c → T' q = K (rd_mo f t q)) → (∀ q, q < c → S' q = L (rd_mo f t q)) → (∀ q, q < c → O' q = nI (rd_mo f t q)) → post (nI c, K, L, T', S', O')) : ∀ d p, t + d = p → p ≤ f → wX_tryMoveBack_6 post (nI f) (nI t) (nI c) (d + 1) (nI p) K L (rd_mk f p K T) (rd_mk f p L S) (rd_mk f p nI O) := by
  intro d
  induction d with
  | zero =>
    intro p h hpf
    have e : p = t := by omega
    subst e
    have h1 : vp_in (nI f) 28 := rd_in (by omega)
    have h2 : vp_in (nI p) 28 := rd_in (by omega)
    refine br_t (nI_le (Nat.le_refl _) (by omega)) ⟨h1, h2, ?_⟩
    rw [nI_clamp (show f < 2 ^ 31 by omega), nI_clamp (show p < 2 ^ 31 by omega)]
    exact nm_e ⟨h1, h2, nm_e ⟨h2, nm_e (hp _ _ _ (rd_mk_e hT) (rd_mk_e hS) (rd_mk_e hO))⟩⟩
  | succ d ih =>
    intro p h hpf
    obtain ⟨r, hr⟩ : ∃ r, p = r + 1 := ⟨p - 1, by omega⟩
    subst hr
    have h1 : vp_in (nI r) 28 := rd_in (by omega)
    have h2 : vp_in (nI (r + 1)) 28 := rd_in (by omega)
    refine br_f (nI_ge (by omega) (by omega)) ?_
    rw [nI_pred, nI_clamp (show r < 2 ^ 31 by omega), nI_clamp (show r + 1 < 2 ^ 31 by omega)]
    exact ⟨h1, h2, nm_r (rd_mk_s hpf) ⟨h1, h2, nm_r (rd_mk_s hpf) ⟨h2, nm_r (rd_mk_s hpf) (nm_r (pk_m1 r) (ih r (by omega) (by omega)))⟩⟩⟩
theorem xm_mb {post : SX → Prop} {c f t : Nat} {K L T S O : Nat → Int32} (hc : c ≤ 28) (hf : f < c) (htf : t ≤ f)
    (hp : ∀ T' S' O' : Nat → Int32, (∀ q, q < c → T' q = K (rd_mo f t q)) → (∀ q, q < c → S' q = L (rd_mo f t q)) → (∀ q, q < c → O' q = nI (rd_mo f t q)) → post (nI c, K, L, T', S', O')) : wpX_tryMoveBack post (nI c, K, L, T, S, O) (nI f) (nI t) := by
  unfold wpX_tryMoveBack
  dsimp only
  refine xm_cp hc ?_
  dsimp only
  have h := xm_mb_l (T := rd_acc c K T) (S := rd_acc c L S) (O := rd_acc c nI O) hc hf (fun q hq => rd_acc_lt hq) (fun q hq => rd_acc_lt hq) (fun q hq => rd_acc_lt hq) hp (f - t) f (by omega) (Nat.le_refl f)
  rw [rd_mk_0, rd_mk_0, rd_mk_0] at h
  exact ⟨f - t + 1, h⟩
theorem xm_bb {post : Int32 → Prop} {c p : Nat} {K L T S O : Nat → Int32} {o : Nat → Nat} (hc : c ≤ 28) (hpc : p < c) (hO : ∀ q, q < c → O q = nI (o q)) (ho : ∀ q, q < c → o q < c) (ht : rd_om o (rd_ds T S (S p) p 0) = rd_op (rd_ds K L (L (o p)) (o p) 0) → post 1) (hf : ¬ rd_om o (rd_ds T S (S p) p 0) = rd_op (rd_ds K L (L (o p)) (o p) 0) → post 0) : wpX_isBoundAsBefore post (nI c, K, L, T, S, O) (nI p) := by
  have hi : vp_in (nI p) 28 := rd_in (by omega)
  have hop := ho p hpc
  unfold wpX_isBoundAsBefore
  dsimp only
  rw [nI_clamp (show p < 2 ^ 31 by omega), hO p hpc]
  refine ⟨hi, nm_e ⟨rd_in (by omega), ?_⟩⟩
  rw [nI_clamp (show o p < 2 ^ 31 by omega)]
  refine xm_ds (by omega) ⟨hi, xm_dt (by omega) ?_⟩
  cases e : rd_ds T S (S p) p 0 with
  | none =>
    rw [e] at ht hf
    exact br_t rfl (br_c (fun z => ht z.symm) (fun z => hf (fun y => z y.symm)))
  | some q =>
    rw [e] at ht hf
    have hq := (rd_ds_some e).1
    have ht' : nI (o q) = rd_op (rd_ds K L (L (o p)) (o p) 0) → post 1 := ht
    have hf' : ¬ nI (o q) = rd_op (rd_ds K L (L (o p)) (o p) 0) → post 0 := hf
    rw [← hO q (by omega)] at ht' hf'
    refine br_f (rd_nm1 (q := q) (by omega)) ⟨rd_in (p := q) (by omega), ?_⟩
    have hcl : (rd_op (some q)).toNatClampNeg = q := nI_clamp (n := q) (by omega)
    rw [hcl]
    exact br_c ht' hf'
theorem xm_tl_l {post : Int32 → Prop} {c : Nat} {K L T S O : Nat → Int32} {o : Nat → Nat} (hc : c ≤ 28) (hO : ∀ q, q < c → O q = nI (o q)) (ho : ∀ q, q < c → o q < c) (hT : ∀ q, q < c → T q = K (o q)) (ht : rd_lg K L T S o c → post 1) (hf : ¬ rd_lg K L T S o c → post 0) : ∀ e p, p + e = c → (∀ q, q < p → T q = 3 → rd_om o (rd_ds T S (S q) q 0) = rd_wa K L (o q)) → wX_isTrialLegal_2 post (nI c) K L T S O (e + 1) (nI p) := by
  intro e
  induction e with
  | zero =>
    intro p h H
    have e : p = c := by omega
    subst e
    exact br_t (nI_le (Nat.le_refl _) (by omega)) (ht H)
  | succ e ih =>
    intro p h H
    have hi : vp_in (nI p) 28 := rd_in (by omega)
    have hpc : p < c := by omega
    refine br_f (nI_ge hpc (by omega)) ⟨hi, ?_⟩
    rw [nI_clamp (show p < 2 ^ 31 by omega)]
    by_cases h3 : T p = 3
    · have hw : rd_wa K L (o p) = rd_op (rd_ds K L (L (o p)) (o p) 0) := rd_wa_3 (by rw [← hT p hpc]; exact h3)
      refine br_t h3 (xm_bb hc hpc hO ho (fun he => ?_) (fun he => ?_))
      · refine br_f (by decide) (nm_r (nI_1 p) (ih (p + 1) (by omega) (fun q hq hq3 => ?_)))
        by_cases e2 : q = p
        · rw [e2, hw]; exact he
        · exact H q (by omega) hq3
      · exact br_t rfl (hf (fun G => he (by rw [← hw]; exact G p hpc h3)))
    · refine br_f h3 (nm_r (nI_1 p) (ih (p + 1) (by omega) (fun q hq hq3 => ?_)))
      by_cases e2 : q = p
      · rw [e2] at hq3; exact absurd hq3 h3
      · exact H q (by omega) hq3
theorem xm_tl {post : Int32 → Prop} {c : Nat} {K L T S O : Nat → Int32} {o : Nat → Nat} (hc : c ≤ 28) (hO : ∀ q, q < c → O q = nI (o q)) (ho : ∀ q, q < c → o q < c) (hT : ∀ q, q < c → T q = K (o q)) (ht : rd_lg K L T S o c → post 1) (hf : ¬ rd_lg K L T S o c → post 0) : wpX_isTrialLegal post (nI c, K, L, T, S, O) :=
  ⟨c + 1, xm_tl_l hc hO ho hT ht hf c 0 (by omega) (fun q hq => absurd hq (Nat.not_lt_zero q))⟩
/-- the legality of a rename, of a move: pure -/
def rd_lr (K L : Nat → Int32) (k : Nat) (m : Int32) (c : Nat) : Prop := rd_lg K L K (rd_rn K L k m) (fun p => p) c
def rd_lm (K L : Nat → Int32) (f t : Nat) (c : Nat) : Prop := rd_lg K L (fun p => K (rd_mo f t p)) (fun p => L (rd_mo f t p)) (rd_mo f t) c
/-- a rename tried, then asked -/
theorem xm_rl {post : Int32 → Prop} {c k : Nat} {K L T S O : Nat → Int32} {m : Int32} (hc : c ≤ 28) (ht : rd_lr K L k m c → post 1) (hf : ¬ rd_lr K L k m c → post 0) : wpX_isTrialLegal post (nI c, K, L, rd_acc c K T, rd_acc c (rd_rn K L k m) S, rd_acc c nI O) := by
  have e : rd_lg K L (rd_acc c K T) (rd_acc c (rd_rn K L k m) S) (fun p => p) c ↔ rd_lr K L k m c := rd_lg_cg (fun p hp => rd_acc_lt hp) (fun p hp => rd_acc_lt hp) (fun p hp => rfl)
  exact xm_tl (o := fun p => p) hc (fun q hq => rd_acc_lt hq) (fun q hq => hq) (fun q hq => rd_acc_lt hq) (fun z => ht (e.mp z)) (fun z => hf (fun y => z (e.mpr y)))
theorem xm_ml {post : Int32 → Prop} {c f t : Nat} {K L T S O : Nat → Int32} (hc : c ≤ 28) (hfc : f < c) (hT : ∀ q, q < c → T q = K (rd_mo f t q)) (hS : ∀ q, q < c → S q = L (rd_mo f t q)) (hO : ∀ q, q < c → O q = nI (rd_mo f t q)) (ht : rd_lm K L f t c → post 1) (hf : ¬ rd_lm K L f t c → post 0) : wpX_isTrialLegal post (nI c, K, L, T, S, O) := by
  have e : rd_lg K L T S (rd_mo f t) c ↔ rd_lm K L f t c := rd_lg_cg hT hS (fun p hp => rfl)
  exact xm_tl (o := rd_mo f t) hc hO (fun q hq => rd_mo_lt hfc hq) hT (fun z => ht (e.mp z)) (fun z => hf (fun y => z (e.mpr y)))
