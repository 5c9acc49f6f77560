/-! the reference's private methods, each against the pure picture -/
theorem ym_is {post : Int32 → Prop} {c : Nat} {K L A B P W : Nat → Int32} {x : Int32} (hc : c ≤ 28) (ht : ∀ j, j < c → x = nI j → post 1) (hf : (∀ j, j < c → ¬ x = nI j) → post 0) : wpY_is post (nI c, K, L, A, B, P, W) x := rd_ix hc ht hf
theorem ym_decl {post : Int32 → Prop} {c : Nat} {K L A B P W : Nat → Int32} {x : Int32} (hc : c ≤ 28) (ht : ∀ j, j < c → x = nI j → K j = 2 → post 1) (hf : (∀ j, j < c → x = nI j → ¬ K j = 2) → post 0) : wpY_declares post (nI c, K, L, A, B, P, W) x := by
  unfold wpY_declares
  dsimp only
  refine ym_is hc (fun j hj e => ?_) (fun h => ?_)
  · subst e
    refine br_f (by decide) ⟨rd_in (by omega), ?_⟩
    rw [nI_clamp (by omega)]
    refine br_c (fun h => ht j hj rfl h) (fun h => hf (fun i hi e => ?_))
    rw [nI_eq (by omega) (by omega)] at e
    rw [← e]
    exact h
  · exact br_t rfl (hf (fun j hj e => absurd e (h j hj)))
theorem ym_cp_l {post : SY → Prop} {c : Nat} {K L A B P W : Nat → Int32} (hp : post (nI c, K, L, rd_acc 28 K A, rd_acc 28 L B, rd_acc 28 nI P, W)) : ∀ e p, p + e = 28 → wY_copy_2 post (nI c) (e + 1) (nI p) K L (rd_acc p K A) (rd_acc p L B) (rd_acc p nI P) W := by
  intro e
  induction e with
  | zero =>
    intro p h
    have e : p = 28 := by omega
    subst e
    exact br_t (nI_le (a := 28) (b := 28) (Nat.le_refl _) (by omega)) hp
  | succ e ih =>
    intro p h
    have hi : vp_in (nI p) 28 := rd_in (by omega)
    refine br_f (nI_ge (a := p) (b := 28) (by omega) (by omega)) ⟨hi, hi, ?_⟩
    rw [nI_clamp (by omega)]
    exact nm_r (rd_acc_s rfl) ⟨hi, hi, nm_r (rd_acc_s rfl) ⟨hi, nm_r (rd_acc_s rfl) (nm_r (nI_1 p) (ih (p + 1) (by omega)))⟩⟩
theorem ym_cp {post : SY → Prop} {c : Nat} {K L A B P W : Nat → Int32} (hp : post (nI c, K, L, rd_acc 28 K A, rd_acc 28 L B, rd_acc 28 nI P, W)) : wpY_copy post (nI c, K, L, A, B, P, W) := by
  have h := ym_cp_l hp 28 0 (by omega)
  rw [rd_acc_0, rd_acc_0, rd_acc_0] at h
  exact ⟨29, h⟩
theorem ym_25 {post : Int32 → Prop} {J : Int32 → Int32 → Prop} {c p q : Nat} {K L A B P W : Nat → Int32} (hp : p < 28) (hq : q ≤ 28) (g1 : A p = 1 → J (nI (q + 1)) (rd_pr p)) (g0 : A p = 0 → J (nI q - 1) (rd_pr p)) (g2 : ¬ A p = 1 → ¬ A p = 0 → J (nI q) (rd_pr p)) : wY_around_25 post J (nI q) (nI p) (nI c) K L A B P W := by
  have hi : vp_in (nI p) 28 := rd_in hp
  refine ⟨hi, ?_⟩
  rw [nI_clamp (by omega)]
  by_cases h1 : A p = 1
  · exact br_t h1 (nm_r (nI_1 q) (nm_e (g1 h1)))
  · refine br_f h1 ⟨hi, ?_⟩
    by_cases h0 : A p = 0
    · exact br_t h0 (nm_e (nm_e (g0 h0)))
    · exact br_f h0 (nm_e (g2 h1 h0))
theorem ym_ar_l {post : Int32 → Prop} {c : Nat} {K L A B P W : Nat → Int32} : ∀ p q, q + p ≤ 28 → post (rd_op (rd_ar A p q)) → wY_around_6 post (nI c) K L A B P W (p + 1) (nI q) (rd_pr p) := by
  intro p
  induction p with
  | zero =>
    intro q _ hp
    rw [rd_ar_z] at hp
    exact br_t ((rd_pr_lt0 (by omega)).mpr rfl) hp
  | succ p ih =>
    intro q hq hp
    have hi : vp_in (nI p) 28 := rd_in (by omega)
    rw [rd_pr_s]
    refine br_f (nI_pos (by omega)) ⟨hi, ?_⟩
    rw [nI_clamp (by omega)]
    by_cases h0 : A p = 0
    · refine br_t h0 ?_
      cases q with
      | zero =>
        rw [rd_ar_0 h0] at hp
        exact br_t nI_0 hp
      | succ q =>
        rw [rd_ar_0s h0] at hp
        refine br_f (nI_ne0 (by omega) (by omega)) (ym_25 (by omega) (by omega) (fun h => ?_) (fun h => ?_) (fun _ h => absurd h0 h))
        · rw [h0] at h; exact absurd h (by decide)
        · rw [nI_pred]; exact ih q (by omega) hp
    · refine br_f h0 (ym_25 (by omega) (by omega) (fun h => ?_) (fun h => absurd h h0) (fun h1 _ => ?_))
      · rw [rd_ar_1 h] at hp; exact ih (q + 1) (by omega) hp
      · rw [rd_ar_2 h0 h1] at hp; exact ih q (by omega) hp
theorem ym_ar {post : Int32 → Prop} {c p : Nat} {K L A B P W : Nat → Int32} (hp28 : p ≤ 28) (hp : post (rd_op (rd_ar A p 0))) : wpY_around post (nI c, K, L, A, B, P, W) (nI p) :=
  nm_r (rd_pr_m p) ⟨p + 1, ym_ar_l p 0 (by omega) hp⟩
theorem ym_la_l {post : Int32 → Prop} {c : Nat} {K L A B P W : Nat → Int32} {n : Int32} {b : Option Nat} (hb : rd_lo b ≤ 28) : ∀ p, p ≤ 28 → post (rd_op (rd_la A B n b p)) → wY_last_5 post (rd_op b) n (nI c) K L A B P W (p + 1) (rd_pr p) := by
  have hbb : ∀ q, b = some q → q < 2 ^ 31 := fun q hq => by
    rw [hq] at hb
    have : q + 1 ≤ 28 := hb
    omega
  intro p
  induction p with
  | zero =>
    intro _ hp
    rw [rd_la] at hp
    exact br_t (by rw [rd_op_pr, rd_pr_le (by omega) (by omega)]; omega) hp
  | succ p ih =>
    intro h28 hp
    have hi : vp_in (nI p) 28 := rd_in (by omega)
    have hle : nI p ≤ rd_op b ↔ p + 1 ≤ rd_lo b := by rw [← rd_pr_s, rd_op_pr, rd_pr_le (by omega) (by omega)]
    rw [rd_pr_s]
    by_cases hl : p < rd_lo b
    · rw [rd_la_end hl] at hp
      exact br_t (hle.mpr hl) hp
    · have hl' : rd_lo b ≤ p := by omega
      refine br_f (fun z => hl (hle.mp z)) ⟨hi, ?_⟩
      rw [nI_clamp (by omega)]
      by_cases h2 : A p = 2
      · refine br_t h2 ⟨hi, ?_⟩
        by_cases h3 : B p = n
        · refine br_t h3 (ym_ar (by omega) ?_)
          by_cases h4 : rd_ar A p 0 = b
          · rw [rd_la_hit hl' ⟨h2, h3, h4⟩] at hp
            exact br_t (by rw [h4]) hp
          · rw [rd_la_skip hl' (fun z => h4 z.2.2)] at hp
            exact br_f (fun z => h4 ((rd_op_inj (rd_ar_b (by omega)) hbb).mp z)) (nm_e (ih (by omega) hp))
        · rw [rd_la_skip hl' (fun z => h3 z.2.1)] at hp
          exact br_f h3 (nm_e (ih (by omega) hp))
      · rw [rd_la_skip hl' (fun z => h2 z.1)] at hp
        exact br_f h2 (nm_e (ih (by omega) hp))
theorem ym_la {post : Int32 → Prop} {c u : Nat} {K L A B P W : Nat → Int32} {n : Int32} {b : Option Nat} (hb : rd_lo b ≤ 28) (hu : u ≤ 28) (hp : post (rd_op (rd_la A B n b u))) : wpY_last post (nI c, K, L, A, B, P, W) (rd_op b) (nI u) n :=
  nm_r (rd_pr_m u) ⟨u + 1, ym_la_l hb u hu hp⟩
theorem ym_bi_l {post : Int32 → Prop} {c u : Nat} {K L A B P W : Nat → Int32} {n : Int32} (hu : u ≤ 28) : ∀ f l b, f + l = 29 → rd_lo b ≤ 28 → post (rd_op (rd_bi A B n u f b)) → wY_bind_9 post (nI u) n (nI c) K L A B P W (f + 1) (rd_op b) (nI l) := by
  intro f
  induction f with
  | zero =>
    intro l b h _ hp
    rw [rd_bi] at hp
    exact br_t (nI_lt (a := 28) (b := l) (by omega) (by omega)) hp
  | succ f ih =>
    intro l b h hb hp
    refine br_f (nI_nlt (a := 28) (b := l) (by omega) (by omega)) (ym_la hb hu ?_)
    rw [rd_bi] at hp
    cases e : rd_la A B n b u with
    | some q =>
      rw [e] at hp
      have hq := rd_la_lt e
      exact br_t (nI_pos' (n := q) (by omega)) hp
    | none =>
      rw [e] at hp
      refine br_f (show ¬ (0 : Int32) ≤ -1 by decide) ?_
      cases b with
      | none => exact br_f (show ¬ (0 : Int32) ≤ -1 by decide) hp
      | some r =>
        have hr : r + 1 ≤ 28 := hb
        exact br_t (nI_pos' (n := r) (by omega)) (ym_ar (p := r) (by omega) (nm_r (nI_1 l) (ih (l + 1) (rd_ar A r 0) (by omega) (Nat.le_trans rd_ar_lo (by omega)) hp)))
theorem ym_bi {post : Int32 → Prop} {c u : Nat} {K L A B P W : Nat → Int32} {n : Int32} (hu : u ≤ 28) (hn : rd_nest A u) (hp : post (rd_op (rd_ds A B n u 0))) : wpY_bind post (nI c, K, L, A, B, P, W) (nI u) n := by
  unfold wpY_bind
  dsimp only
  refine ym_ar hu ⟨30, ?_⟩
  refine ym_bi_l hu 29 0 (rd_ar A u 0) (by omega) (Nat.le_trans rd_ar_lo hu) ?_
  rw [rd_bind hn (by omega)]
  exact hp
theorem rd_nest_cg {K A : Nat → Int32} {c p : Nat} (h : ∀ q, q < c → A q = K q) (hp : p ≤ c) (hn : rd_nest K c) : rd_nest A p := fun r hr => by
  rw [rd_dep_cg r (fun q hq => h q (by omega))]
  exact hn r (by omega)
theorem ym_ba_l {post : SY → Prop} {c : Nat} {K L A B P W : Nat → Int32} (hc : c ≤ 28) (hn : rd_nest K c) (hA : ∀ q, q < c → A q = K q) (hB : ∀ q, q < c → B q = L q) (hp : post (nI c, K, L, A, B, P, rd_acc c (rd_wa K L) W)) : ∀ e p, p + e = c → wY_bindAll_6 post (nI c) (e + 1) (nI p) K L A B P (rd_acc p (rd_wa K L) W) := by
  intro e
  induction e with
  | zero =>
    intro p h
    have e : p = c := by omega
    subst e
    exact br_t (nI_le (Nat.le_refl _) (by omega)) hp
  | succ e ih =>
    intro p h
    have hi : vp_in (nI p) 28 := rd_in (by omega)
    have hpc : p < c := by omega
    refine br_f (nI_ge hpc (by omega)) ⟨hi, ?_⟩
    rw [nI_clamp (show p < 2 ^ 31 by omega), hA p hpc, hB p hpc]
    have IH := ih (p + 1) (by omega)
    by_cases h3 : K p = 3
    · refine br_t h3 ⟨hi, ym_bi (by omega) (rd_nest_cg hA (by omega) hn) ⟨hi, nm_r (rd_acc_s ?_) (nm_r (nI_1 p) IH)⟩⟩
      rw [rd_wa_3 h3, rd_ds_cg p 0 (fun q hq => hA q (by omega)) (fun q hq => hB q (by omega))]
    · exact br_f h3 ⟨hi, nm_r (rd_acc_s (rd_wa_n h3).symm) (nm_r (nI_1 p) IH)⟩
/-- after bindAll: the copies are the program's, was is rd_wa -/
def rd_bd (K L : Nat → Int32) (c : Nat) (A B P W : Nat → Int32) : Prop := (∀ q, q < 28 → A q = K q) ∧ (∀ q, q < 28 → B q = L q) ∧ (∀ q, q < 28 → P q = nI q) ∧ (∀ q, q < c → W q = rd_wa K L q)
theorem ym_ba {post : SY → Prop} {c : Nat} {K L A B P W : Nat → Int32} (hc : c ≤ 28) (hn : rd_nest K c) (hp : ∀ A B P W : Nat → Int32, rd_bd K L c A B P W → post (nI c, K, L, A, B, P, W)) : wpY_bindAll post (nI c, K, L, A, B, P, W) := by
  unfold wpY_bindAll
  dsimp only
  refine ym_cp ?_
  dsimp only
  have h := ym_ba_l (A := rd_acc 28 K A) (B := rd_acc 28 L B) (P := rd_acc 28 nI P) (W := W) hc hn (fun q hq => rd_acc_lt (by omega)) (fun q hq => rd_acc_lt (by omega)) (hp _ _ _ _ ⟨fun q hq => rd_acc_lt hq, fun q hq => rd_acc_lt hq, fun q hq => rd_acc_lt hq, fun q hq => rd_acc_lt hq⟩) c 0 (by omega)
  rw [rd_acc_0 (rd_wa K L)] at h
  exact ⟨c + 1, h⟩
theorem ym_lg_0 {post : Int32 → Prop} {c : Nat} {K L A B P W : Nat → Int32} (hc : c ≤ 28) (hn : rd_nest A c) (hp : post 0) : ∀ e p, p + e = c → wY_legal_4 post (nI c) K L A B P W (e + 1) 0 (nI p) := by
  intro e
  induction e with
  | zero =>
    intro p h
    exact br_t (nI_le (by omega) (by omega)) ⟨rfl, hp⟩
  | succ e ih =>
    intro p h
    have hi : vp_in (nI p) 28 := rd_in (by omega)
    refine br_f (nI_ge (by omega) (by omega)) ⟨hi, ?_⟩
    rw [nI_clamp (show p < 2 ^ 31 by omega)]
    have IH := ih (p + 1) (by omega)
    by_cases h3 : A p = 3
    · exact br_t h3 ⟨hi, ym_bi (by omega) (rd_nest_le hn (by omega)) (br_t rfl (nm_r (nI_1 p) IH))⟩
    · exact br_f h3 (nm_r (nI_1 p) IH)
theorem ym_63 {post : Int32 → Prop} {J : Int32 → Int32 → Prop} {c p : Nat} {K L A B P W : Nat → Int32} {x y : Int32} (g1 : y = x → J 1 (nI (p + 1))) (g0 : ¬ y = x → J 0 (nI (p + 1))) : wY_legal_63 post J (nI p) x y (nI c) K L A B P W :=
  br_c (fun h => nm_r (nI_1 p) (g1 h)) (fun h => nm_r (nI_1 p) (g0 h))
theorem ym_lg_1 {post : Int32 → Prop} {c : Nat} {K L K0 L0 A B P W : Nat → Int32} {o : Nat → Nat} (hc : c ≤ 28) (hn : rd_nest A c) (hP : ∀ q, q < c → P q = nI (o q)) (ho : ∀ q, q < c → o q < c) (hW : ∀ q, q < c → W q = rd_wa K0 L0 q) (ht : rd_lg K0 L0 A B o c → post 1) (hf : ¬ rd_lg K0 L0 A B o c → post 0) : ∀ e p, p + e = c → (∀ q, q < p → A q = 3 → rd_om o (rd_ds A B (B q) q 0) = rd_wa K0 L0 (o q)) → wY_legal_4 post (nI c) K L A B P W (e + 1) 1 (nI p) := by
  intro e
  induction e with
  | zero =>
    intro p h H
    have e : p = c := by omega
    subst e
    exact br_t (nI_le (Nat.le_refl _) (by omega)) ⟨rfl, ht H⟩
  | succ e ih =>
    intro p h H
    have hi : vp_in (nI p) 28 := rd_in (by omega)
    have hpc : p < c := by omega
    have hop := ho p hpc
    refine br_f (nI_ge hpc (by omega)) ⟨hi, ?_⟩
    rw [nI_clamp (show p < 2 ^ 31 by omega)]
    by_cases h3 : A p = 3
    · have g1 : rd_wa K0 L0 (o p) = rd_om o (rd_ds A B (B p) p 0) → wY_legal_4 post (nI c) K L A B P W (e + 1) 1 (nI (p + 1)) := fun he => ih (p + 1) (by omega) (fun q hq hq3 => by
        by_cases e2 : q = p
        · rw [e2]; exact he.symm
        · exact H q (by omega) hq3)
      have g0 : ¬ rd_wa K0 L0 (o p) = rd_om o (rd_ds A B (B p) p 0) → wY_legal_4 post (nI c) K L A B P W (e + 1) 0 (nI (p + 1)) := fun he => ym_lg_0 hc hn (hf (fun G => he (G p hpc h3).symm)) e (p + 1) (by omega)
      refine br_t h3 ⟨hi, ym_bi (by omega) (rd_nest_le hn (by omega)) (br_f (by decide) ⟨hi, ?_⟩)⟩
      rw [hP p hpc, nI_clamp (show o p < 2 ^ 31 by omega), hW (o p) hop]
      refine ⟨rd_in (by omega), ?_⟩
      cases ed : rd_ds A B (B p) p 0 with
      | none =>
        rw [ed] at g1 g0
        exact br_f (show ¬ (0 : Int32) ≤ -1 by decide) (ym_63 g1 g0)
      | some q =>
        rw [ed] at g1 g0
        have hq := (rd_ds_some ed).1
        refine br_t (nI_pos' (n := q) (by omega)) ⟨rd_in (p := q) (by omega), ?_⟩
        have hcl : (rd_op (some q)).toNatClampNeg = q := nI_clamp (n := q) (by omega)
        rw [hcl, hP q (by omega)]
        exact ym_63 g1 g0
    · refine br_f h3 (nm_r (nI_1 p) (ih (p + 1) (by omega) (fun q hq hq3 => ?_)))
      by_cases e2 : q = p
      · rw [e2] at hq3; exact absurd hq3 h3
      · exact H q (by omega) hq3
theorem ym_lg {post : Int32 → Prop} {c : Nat} {K L K0 L0 A B P W : Nat → Int32} {o : Nat → Nat} (hc : c ≤ 28) (hn : rd_nest A c) (hP : ∀ q, q < c → P q = nI (o q)) (ho : ∀ q, q < c → o q < c) (hW : ∀ q, q < c → W q = rd_wa K0 L0 q) (ht : rd_lg K0 L0 A B o c → post 1) (hf : ¬ rd_lg K0 L0 A B o c → post 0) : wpY_legal post (nI c, K, L, A, B, P, W) :=
  ⟨c + 1, ym_lg_1 hc hn hP ho hW ht hf c 0 (by omega) (fun q hq => absurd hq (Nat.not_lt_zero q))⟩
theorem ym_ac_l {post : SY → Prop} {c : Nat} {K L A B P W : Nat → Int32} (hc : c ≤ 28) (hp : post (nI c, rd_acc c A K, rd_acc c B L, A, B, P, W)) : ∀ e p, p + e = c → wY_accept_2 post (nI c) (e + 1) (nI p) (rd_acc p A K) (rd_acc p B L) A B P W := by
  intro e
  induction e with
  | zero =>
    intro p h
    have e : p = c := by omega
    subst e
    exact br_t (nI_le (Nat.le_refl _) (by omega)) hp
  | succ e ih =>
    intro p h
    have hi : vp_in (nI p) 28 := rd_in (by omega)
    refine br_f (nI_ge (by omega) (by omega)) ⟨hi, hi, ?_⟩
    rw [nI_clamp (by omega)]
    exact nm_r (rd_acc_s rfl) ⟨hi, hi, nm_r (rd_acc_s rfl) (nm_r (nI_1 p) (ih (p + 1) (by omega)))⟩
theorem ym_ac {post : SY → Prop} {c : Nat} {K L A B P W : Nat → Int32} (hc : c ≤ 28) (hp : post (nI c, rd_acc c A K, rd_acc c B L, A, B, P, W)) : wpY_accept post (nI c, K, L, A, B, P, W) := by
  have h := ym_ac_l hc hp c 0 (by omega)
  rw [rd_acc_0, rd_acc_0] at h
  exact ⟨c + 1, h⟩
theorem ym_op_l {post : Int32 → Prop} {c : Nat} {K L A B P W : Nat → Int32} (hm : c ≤ 28) (hp : post (rd_oc K c)) : ∀ d p, p + d = c → wY_open_4 post (nI c) K L A B P W (d + 1) (rd_oc K p) (nI p) := by
  intro d
  induction d with
  | zero =>
    intro p h
    have e : p = c := by omega
    subst e
    exact br_t (nI_le (Nat.le_refl _) (by omega)) hp
  | succ d ih =>
    intro p h
    refine br_f (nI_ge (by omega) (by omega)) ⟨rd_in (by omega), ?_⟩
    rw [nI_clamp (by omega)]
    have IH := ih (p + 1) (by omega)
    by_cases h0 : K p = 0
    · exact br_t h0 (nm_r (rd_oc_0 h0).symm (nm_r (nI_1 p) IH))
    · by_cases h1 : K p = 1
      · exact br_f h0 ⟨rd_in (by omega), br_t h1 (nm_r (rd_oc_1 h1).symm (nm_r (nI_1 p) IH))⟩
      · rw [rd_oc_2 h0 h1] at IH
        exact br_f h0 ⟨rd_in (by omega), br_f h1 (nm_r (nI_1 p) IH)⟩
theorem ym_op {post : Int32 → Prop} {c : Nat} {K L A B P W : Nat → Int32} (hc : c ≤ 28) (hp : post (rd_oc K c)) : wpY_open post (nI c, K, L, A, B, P, W) :=
  ⟨c + 1, ym_op_l hc hp c 0 (by omega)⟩
theorem ym_pl {post : SY → Prop} {c k p : Nat} {K L A B P W : Nat → Int32} (hk : k < 28) (hp28 : p < 28) (hp : post (nI c, K, L, upd A p (K k), upd B p (L k), upd P p (nI k), W)) : wpY_place post (nI c, K, L, A, B, P, W) (nI k) (nI p) := by
  have h1 : vp_in (nI k) 28 := rd_in hk
  have h2 : vp_in (nI p) 28 := rd_in hp28
  unfold wpY_place
  dsimp only
  rw [nI_clamp (show k < 2 ^ 31 by omega), nI_clamp (show p < 2 ^ 31 by omega)]
  exact ⟨h1, h2, nm_e ⟨h1, h2, nm_e ⟨h2, nm_e hp⟩⟩⟩
