/-! the component's private methods, each against the pure picture -/
theorem rd_ix {P Q : Prop} {c : Nat} {x : Int32} (hc : c ≤ 28) (ht : ∀ j, j < c → x = nI j → Q) (hf : (∀ j, j < c → ¬ x = nI j) → P) : (x < 0 → P) ∧ (¬ x < 0 → ((nI c ≤ x → P) ∧ (¬ nI c ≤ x → Q))) := by
  rcases pk_ix x (n := c) (by omega) with h | h | ⟨j, hj, rfl⟩
  · exact br_t h (hf (fun j hj e => by rw [e] at h; exact absurd h (nI_pos (by omega))))
  · refine br_f (Int32.not_lt.mpr (Int32.le_trans (nI_pos' (by omega)) h)) (br_t h (hf ?_))
    intro j hj e
    rw [e] at h
    exact absurd h (nI_ge hj (by omega))
  · exact br_f (nI_pos (by omega)) (br_f (nI_ge hj (by omega)) (ht j hj rfl))
theorem rd_in {p : Nat} (h : p < 28) : vp_in (nI p) 28 := vp_in_nI h (by omega)
theorem rd_c8 : nI 8 = 8 := by decide +kernel
theorem xm_has {post : Int32 → Prop} {x : Int32} (ht : x = 2 ∨ x = 3 → post 1) (hf : ¬ x = 2 → ¬ x = 3 → post 0) : wpX_hasLabel post x :=
  br_c (fun h => ht (Or.inl h)) (fun h2 => br_c (fun h => ht (Or.inr h)) (fun h3 => hf h2 h3))
theorem xm_name {post : Int32 → Prop} {x : Int32} (ht : ¬ x < 0 → ¬ 8 ≤ x → post 1) (hf : x < 0 ∨ 8 ≤ x → post 0) : wpX_isName post x :=
  br_c (fun h => hf (Or.inl h)) (fun h => br_c (fun g => hf (Or.inr g)) (fun g => ht h g))
theorem xm_token {post : Int32 → Prop} {x n : Int32} (ht : (x = 0 ∨ x = 1 ∨ ((x = 2 ∨ x = 3) ∧ ¬ n < 0 ∧ ¬ 8 ≤ n)) → post 1) (hf : ¬ x = 0 → ¬ x = 1 → ((¬ x = 2 ∧ ¬ x = 3) ∨ n < 0 ∨ 8 ≤ n) → post 0) : wpX_isToken post x n := by
  refine br_c (fun h => ht (Or.inl h)) (fun h0 => br_c (fun h => ht (Or.inr (Or.inl h))) (fun h1 => xm_has (fun h => ?_) (fun h2 h3 => ?_)))
  · refine br_f (by decide) (xm_name (fun a b => ?_) (fun a => ?_))
    · exact br_f (by decide) (ht (Or.inr (Or.inr ⟨h, a, b⟩)))
    · exact br_t rfl (hf h0 h1 (Or.inr a))
  · exact br_t rfl (hf h0 h1 (Or.inl ⟨h2, h3⟩))
theorem xm_place {post : Int32 → Prop} {c : Nat} {K L T S O : Nat → Int32} {x : Int32} (hc : c ≤ 28) (ht : ∀ j, j < c → x = nI j → post 1) (hf : (∀ j, j < c → ¬ x = nI j) → post 0) : wpX_isPlace post (nI c, K, L, T, S, O) x := rd_ix hc ht hf
theorem xm_kind {post : Int32 → Prop} {c : Nat} {K L T S O : Nat → Int32} {x y : Int32} (hc : c ≤ 28) (ht : ∀ j, j < c → x = nI j → K j = y → post 1) (hf : (∀ j, j < c → x = nI j → ¬ K j = y) → post 0) : wpX_isKindAt post (nI c, K, L, T, S, O) x y := by
  unfold wpX_isKindAt
  dsimp only
  refine xm_place hc (fun j hj e => ?_) (fun h => ?_)
  · subst e
    refine br_f (by decide) ⟨rd_in (by omega), ?_⟩
    rw [nI_clamp (by omega)]
    refine br_c (fun h => ht j hj rfl h) (fun h => hf (fun i hi e => ?_))
    rw [nI_eq (by omega) (by omega)] at e
    rw [← e]
    exact h
  · exact br_t rfl (hf (fun j hj e => absurd e (h j hj)))
theorem xm_lab {post : Int32 → Prop} {c : Nat} {K L T S O : Nat → Int32} {x : Int32} (hc : c ≤ 28) (ht : ∀ j, j < c → x = nI j → (K j = 2 ∨ K j = 3) → post 1) (hf : (∀ j, j < c → x = nI j → ¬ (K j = 2 ∨ K j = 3)) → post 0) : wpX_isLabelledAt post (nI c, K, L, T, S, O) x := by
  unfold wpX_isLabelledAt
  dsimp only
  refine xm_place hc (fun j hj e => ?_) (fun h => ?_)
  · subst e
    refine br_f (by decide) ⟨rd_in (by omega), ?_⟩
    rw [nI_clamp (by omega)]
    refine xm_has (fun h => ?_) (fun h2 h3 => ?_)
    · exact br_f (by decide) (ht j hj rfl h)
    · refine br_t rfl (hf (fun i hi e => ?_))
      rw [nI_eq (by omega) (by omega)] at e
      rw [← e]
      exact fun z => z.elim h2 h3
  · exact br_t rfl (hf (fun j hj e => absurd e (h j hj)))
theorem xm_oc_l {post : Int32 → Prop} {c m : Nat} {K L T S O : Nat → Int32} (hm : m ≤ 28) (hp : post (rd_oc K m)) : ∀ d p, p + d = m → wX_openCount_4 post (nI m) (nI c) K L T S O (d + 1) (rd_oc K p) (nI p) := by
  intro d
  induction d with
  | zero =>
    intro p h
    have e : p = m := by omega
    subst e
    exact br_t (nI_le (Nat.le_refl _) (by omega)) hp
  | succ d ih =>
    intro p h
    refine br_f (nI_ge (by omega) (by omega)) ⟨rd_in (by omega), ?_⟩
    rw [nI_clamp (by omega)]
    have IH := ih (p + 1) (by omega)
    by_cases h0 : K p = 0
    · exact br_t h0 (nm_r (rd_oc_0 h0).symm (nm_r (nI_1 p) IH))
    · by_cases h1 : K p = 1
      · exact br_f h0 ⟨rd_in (by omega), br_t h1 (nm_r (rd_oc_1 h1).symm (nm_r (nI_1 p) IH))⟩
      · rw [rd_oc_2 h0 h1] at IH
        exact br_f h0 ⟨rd_in (by omega), br_f h1 (nm_r (nI_1 p) IH)⟩
theorem xm_oc {post : Int32 → Prop} {c m : Nat} {K L T S O : Nat → Int32} (hm : m ≤ 28) (hp : post (rd_oc K m)) : wpX_openCount post (nI c, K, L, T, S, O) (nI m) :=
  ⟨m + 1, xm_oc_l hm hp m 0 (by omega)⟩
theorem xm_ds_51 {post : Int32 → Prop} {J : Int32 → Int32 → Prop} {c p q : Nat} {K L T S O : Nat → Int32} {n : Int32} (hp : p < 28) (hq : q ≤ 28) (hit : K p = 2 → q = 0 → L p = n → post (nI p)) (go : ¬ (K p = 2 ∧ q = 0 ∧ L p = n) → J (nI q) (rd_pr p)) : wX_declarationOf__kinds_labels_51 post J n (nI q) (nI p) (nI c) K L T S O := by
  have hi : vp_in (nI p) 28 := rd_in hp
  refine ⟨hi, ?_⟩
  rw [nI_clamp (by omega)]
  by_cases h2 : K p = 2
  · refine br_t h2 ?_
    by_cases h3 : q = 0
    · refine br_t (by rw [h3]; exact nI_0) ⟨hi, ?_⟩
      exact br_c (fun h4 => hit h2 h3 h4) (fun h4 => nm_e (go (fun z => h4 z.2.2)))
    · exact br_f (nI_ne0 (by omega) (by omega)) (nm_e (go (fun z => h3 z.2.1)))
  · exact br_f h2 (nm_e (go (fun z => h2 z.1)))
theorem xm_ds_l {post : Int32 → Prop} {c : Nat} {K L T S O : Nat → Int32} {n : Int32} : ∀ p q, q + p ≤ 28 → post (rd_op (rd_ds K L n p q)) → wX_declarationOf__kinds_labels_8 post n (nI c) K L T S O (p + 1) (nI q) (rd_pr p) := by
  intro p
  induction p with
  | zero =>
    intro q _ hp
    rw [rd_ds_z] at hp
    exact br_t ((rd_pr_lt0 (by omega)).mpr rfl) hp
  | succ p ih =>
    intro q hq hp
    have hi : vp_in (nI p) 28 := rd_in (by omega)
    rw [rd_pr_s]
    refine br_f (nI_pos (by omega)) ⟨hi, ?_⟩
    rw [nI_clamp (by omega)]
    by_cases h1 : K p = 1
    · rw [rd_ds_1 h1] at hp
      exact br_t h1 (nm_r (nI_1 q) (nm_e (ih (q + 1) (by omega) hp)))
    · refine br_f h1 ⟨hi, ?_⟩
      by_cases h0 : K p = 0
      · rw [rd_ds_0 h0] at hp
        refine br_t h0 ?_
        cases q with
        | zero =>
          refine br_t (by rw [nI_0]; exact Int32.le_refl 0) (xm_ds_51 (by omega) (by omega) (fun h2 => ?_) (fun _ => ih 0 (by omega) hp))
          rw [h0] at h2
          exact absurd h2 (by decide)
        | succ q =>
          exact br_f (nI_nle (by omega) (by omega)) (nm_r (nI_pred q) (nm_e (ih q (by omega) hp)))
      · refine br_f h0 (xm_ds_51 (by omega) (by omega) (fun h2 h3 h4 => ?_) (fun h => ?_))
        · subst h3
          rw [rd_ds_h h2 h4] at hp
          exact hp
        · rw [rd_ds_n h0 h1 h] at hp
          exact ih q (by omega) hp
theorem xm_ds {post : Int32 → Prop} {c p : Nat} {K L T S O : Nat → Int32} {n : Int32} (hp28 : p ≤ 28) (hp : post (rd_op (rd_ds K L n p 0))) : wpX_declarationOf__kinds_labels post (nI c, K, L, T, S, O) (nI p) n :=
  nm_r (rd_pr_m p) ⟨p + 1, xm_ds_l p 0 (by omega) hp⟩
theorem xm_dt_51 {post : Int32 → Prop} {J : Int32 → Int32 → Prop} {c p q : Nat} {K L T S O : Nat → Int32} {n : Int32} (hp : p < 28) (hq : q ≤ 28) (hit : T p = 2 → q = 0 → S p = n → post (nI p)) (go : ¬ (T p = 2 ∧ q = 0 ∧ S p = n) → J (nI q) (rd_pr p)) : wX_declarationOf__trialKinds_trialLabels_51 post J n (nI q) (nI p) (nI c) K L T S O := by
  have hi : vp_in (nI p) 28 := rd_in hp
  refine ⟨hi, ?_⟩
  rw [nI_clamp (by omega)]
  by_cases h2 : T p = 2
  · refine br_t h2 ?_
    by_cases h3 : q = 0
    · refine br_t (by rw [h3]; exact nI_0) ⟨hi, ?_⟩
      exact br_c (fun h4 => hit h2 h3 h4) (fun h4 => nm_e (go (fun z => h4 z.2.2)))
    · exact br_f (nI_ne0 (by omega) (by omega)) (nm_e (go (fun z => h3 z.2.1)))
  · exact br_f h2 (nm_e (go (fun z => h2 z.1)))
theorem xm_dt_l {post : Int32 → Prop} {c : Nat} {K L T S O : Nat → Int32} {n : Int32} : ∀ p q, q + p ≤ 28 → post (rd_op (rd_ds T S n p q)) → wX_declarationOf__trialKinds_trialLabels_8 post n (nI c) K L T S O (p + 1) (nI q) (rd_pr p) := by
  intro p
  induction p with
  | zero =>
    intro q _ hp
    rw [rd_ds_z] at hp
    exact br_t ((rd_pr_lt0 (by omega)).mpr rfl) hp
  | succ p ih =>
    intro q hq hp
    have hi : vp_in (nI p) 28 := rd_in (by omega)
    rw [rd_pr_s]
    refine br_f (nI_pos (by omega)) ⟨hi, ?_⟩
    rw [nI_clamp (by omega)]
    by_cases h1 : T p = 1
    · rw [rd_ds_1 h1] at hp
      exact br_t h1 (nm_r (nI_1 q) (nm_e (ih (q + 1) (by omega) hp)))
    · refine br_f h1 ⟨hi, ?_⟩
      by_cases h0 : T p = 0
      · rw [rd_ds_0 h0] at hp
        refine br_t h0 ?_
        cases q with
        | zero =>
          refine br_t (by rw [nI_0]; exact Int32.le_refl 0) (xm_dt_51 (by omega) (by omega) (fun h2 => ?_) (fun _ => ih 0 (by omega) hp))
          rw [h0] at h2
          exact absurd h2 (by decide)
        | succ q =>
          exact br_f (nI_nle (by omega) (by omega)) (nm_r (nI_pred q) (nm_e (ih q (by omega) hp)))
      · refine br_f h0 (xm_dt_51 (by omega) (by omega) (fun h2 h3 h4 => ?_) (fun h => ?_))
        · subst h3
          rw [rd_ds_h h2 h4] at hp
          exact hp
        · rw [rd_ds_n h0 h1 h] at hp
          exact ih q (by omega) hp
theorem xm_dt {post : Int32 → Prop} {c p : Nat} {K L T S O : Nat → Int32} {n : Int32} (hp28 : p ≤ 28) (hp : post (rd_op (rd_ds T S n p 0))) : wpX_declarationOf__trialKinds_trialLabels post (nI c, K, L, T, S, O) (nI p) n :=
  nm_r (rd_pr_m p) ⟨p + 1, xm_dt_l p 0 (by omega) hp⟩
theorem xm_oa_l {post : Int32 → Prop} {c : Nat} {K L T S O : Nat → Int32} : ∀ p q, q + p ≤ 28 → post (rd_op (rd_ar K p q)) → wX_openingAround_6 post (nI c) K L T S O (p + 1) (nI q) (rd_pr p) := by
  intro p
  induction p with
  | zero =>
    intro q _ hp
    rw [rd_ar_z] at hp
    exact br_t ((rd_pr_lt0 (by omega)).mpr rfl) hp
  | succ p ih =>
    intro q hq hp
    have hi : vp_in (nI p) 28 := rd_in (by omega)
    rw [rd_pr_s]
    refine br_f (nI_pos (by omega)) ⟨hi, ?_⟩
    rw [nI_clamp (by omega)]
    by_cases h1 : K p = 1
    · rw [rd_ar_1 h1] at hp
      exact br_t h1 (nm_r (nI_1 q) (nm_e (ih (q + 1) (by omega) hp)))
    · refine br_f h1 ⟨hi, ?_⟩
      by_cases h0 : K p = 0
      · refine br_t h0 ?_
        cases q with
        | zero =>
          rw [rd_ar_0 h0] at hp
          exact br_t nI_0 hp
        | succ q =>
          rw [rd_ar_0s h0] at hp
          refine br_f (nI_ne0 (by omega) (by omega)) ⟨hi, ?_⟩
          rw [nI_clamp (by omega)]
          exact br_t h0 (nm_r (nI_pred q) (nm_e (ih q (by omega) hp)))
      · rw [rd_ar_2 h0 h1] at hp
        refine br_f h0 ⟨hi, ?_⟩
        rw [nI_clamp (by omega)]
        exact br_f h0 (nm_e (ih q (by omega) hp))
theorem xm_oa {post : Int32 → Prop} {c p : Nat} {K L T S O : Nat → Int32} (hp28 : p ≤ 28) (hp : post (rd_op (rd_ar K p 0))) : wpX_openingAround post (nI c, K, L, T, S, O) (nI p) :=
  nm_r (rd_pr_m p) ⟨p + 1, xm_oa_l p 0 (by omega) hp⟩
theorem xm_ub_l {post : Int32 → Prop} {c : Nat} {K L T S O : Nat → Int32} {d : Int32} (hc : c ≤ 28) (hp : post (rd_ms (rd_ux K L d) c)) : ∀ e p, p + e = c → wX_usesBoundTo_4 post d (nI c) K L T S O (e + 1) (rd_ms (rd_ux K L d) p) (nI p) := by
  intro e
  induction e with
  | zero =>
    intro p h
    have e : p = c := by omega
    subst e
    exact br_t (nI_le (Nat.le_refl _) (by omega)) hp
  | succ e ih =>
    intro p h
    have hi : vp_in (nI p) 28 := rd_in (by omega)
    refine br_f (nI_ge (by omega) (by omega)) ⟨hi, ?_⟩
    rw [nI_clamp (by omega)]
    have IH := ih (p + 1) (by omega)
    by_cases h3 : K p = 3
    · refine br_t h3 ⟨hi, xm_ds (by omega) ?_⟩
      by_cases hd : rd_op (rd_ds K L (L p) p 0) = d
      · exact br_t hd (nm_r (rd_ms_t (rd_ux_i.mpr ⟨h3, hd⟩)).symm (nm_r (nI_1 p) IH))
      · rw [rd_ms_f (fun z => hd (rd_ux_i.mp z).2)] at IH
        exact br_f hd (nm_r (nI_1 p) IH)
    · rw [rd_ms_f (fun z => h3 (rd_ux_i.mp z).1)] at IH
      exact br_f h3 (nm_r (nI_1 p) IH)
theorem xm_ub {post : Int32 → Prop} {c : Nat} {K L T S O : Nat → Int32} {d : Int32} (hc : c ≤ 28) (hp : post (rd_ms (rd_ux K L d) c)) : wpX_usesBoundTo post (nI c, K, L, T, S, O) d :=
  ⟨c + 1, xm_ub_l hc hp c 0 (by omega)⟩
theorem xm_cp_l {post : SX → Prop} {c : Nat} {K L T S O : Nat → Int32} (hc : c ≤ 28) (hp : post (nI c, K, L, rd_acc c K T, rd_acc c L S, rd_acc c nI O)) : ∀ e p, p + e = c → wX_copyToTrial_2 post (nI c) (e + 1) (nI p) K L (rd_acc p K T) (rd_acc p L S) (rd_acc p nI O) := by
  intro e
  induction e with
  | zero =>
    intro p h
    have e : p = c := by omega
    subst e
    exact br_t (nI_le (Nat.le_refl _) (by omega)) hp
  | succ e ih =>
    intro p h
    have hi : vp_in (nI p) 28 := rd_in (by omega)
    refine br_f (nI_ge (by omega) (by omega)) ⟨hi, hi, ?_⟩
    rw [nI_clamp (by omega)]
    exact nm_r (rd_acc_s rfl) ⟨hi, hi, nm_r (rd_acc_s rfl) ⟨hi, nm_r (rd_acc_s rfl) (nm_r (nI_1 p) (ih (p + 1) (by omega)))⟩⟩
theorem xm_cp {post : SX → Prop} {c : Nat} {K L T S O : Nat → Int32} (hc : c ≤ 28) (hp : post (nI c, K, L, rd_acc c K T, rd_acc c L S, rd_acc c nI O)) : wpX_copyToTrial post (nI c, K, L, T, S, O) := by
  have h := xm_cp_l hc hp c 0 (by omega)
  rw [rd_acc_0, rd_acc_0, rd_acc_0] at h
  exact ⟨c + 1, h⟩
theorem xm_kp_l {post : SX → Prop} {c : Nat} {K L T S O : Nat → Int32} (hc : c ≤ 28) (hp : post (nI c, rd_acc c T K, rd_acc c S L, T, S, O)) : ∀ e p, p + e = c → wX_keepTrial_2 post (nI c) (e + 1) (nI p) (rd_acc p T K) (rd_acc p S L) T S O := by
  intro e
  induction e with
  | zero =>
    intro p h
    have e : p = c := by omega
    subst e
    exact br_t (nI_le (Nat.le_refl _) (by omega)) hp
  | succ e ih =>
    intro p h
    have hi : vp_in (nI p) 28 := rd_in (by omega)
    refine br_f (nI_ge (by omega) (by omega)) ⟨hi, hi, ?_⟩
    rw [nI_clamp (by omega)]
    exact nm_r (rd_acc_s rfl) ⟨hi, hi, nm_r (rd_acc_s rfl) (nm_r (nI_1 p) (ih (p + 1) (by omega)))⟩
theorem xm_kp {post : SX → Prop} {c : Nat} {K L T S O : Nat → Int32} (hc : c ≤ 28) (hp : post (nI c, rd_acc c T K, rd_acc c S L, T, S, O)) : wpX_keepTrial post (nI c, K, L, T, S, O) := by
  have h := xm_kp_l hc hp c 0 (by omega)
  rw [rd_acc_0, rd_acc_0] at h
  exact ⟨c + 1, h⟩
