/-! the relation, and what is owed -/
/-- the two programs are the same, and well formed; scratch arrays are free -/
def i_Rel (k : Nat) (u : SX) (v : SY) : Prop := ∃ (c : Nat) (K L T S O A B P W : Nat → Int32), c ≤ 28 ∧ rd_ok K c ∧ u = (nI c, K, L, T, S, O) ∧ v = (nI c, K, L, A, B, P, W)
theorem rd_rel {k c : Nat} {K L T S O A B P W : Nat → Int32} (hc : c ≤ 28) (H : rd_ok K c) : i_Rel k (nI c, K, L, T, S, O) (nI c, K, L, A, B, P, W) := ⟨c, K, L, T, S, O, A, B, P, W, hc, H, rfl, rfl⟩
theorem i_up {k : Nat} {u : SX} {v : SY} (h : i_Rel k u v) : i_Rel (k + 3) u v := h
theorem i_vc0 : wpX_init (fun u => wpY_init (fun v => i_Rel 0 u v)) := rd_rel (k := 0) (c := 0) (by omega) (rd_ok_z _)
theorem i_vc_add {k : Nat} {u : SX} {v : SY} (I : i_Rel k u v) (hk : k + 3 ≤ 1536) (v1 : Int32) (v2 : Int32) : wpX_add (fun r u' => wpY_add (fun r' v' => r' = r ∧ i_Rel (k + 3) u' v') v v1 v2) u v1 v2 := by
  obtain ⟨c, K, L, T, S, O, A, B, P, W, hc, H, rfl, rfl⟩ := I
  refine xm_add hc (fun g => ?_) (fun g h => ?_) (fun g h => ?_)
  · exact ym_add hc (fun _ => ⟨rfl, rd_rel hc H⟩) (fun z => absurd z g) (fun z => absurd z g)
  · exact ym_add hc (fun z => absurd g z) (fun _ _ => ⟨rfl, rd_rel hc H⟩) (fun _ z => absurd z h)
  · refine ym_add hc (fun z => absurd g z) (fun _ z => absurd h z) (fun _ _ => ⟨rfl, rd_rel (by omega) (rd_ok_add H ?_ ?_)⟩)
    · rcases g with g | g | g
      · exact Or.inl g
      · exact Or.inr (Or.inl g.1)
      · exact Or.inr (Or.inr g.1)
    · intro e
      rcases g with g | g | g
      · rw [e] at g; exact absurd g (by decide)
      · exact g.2
      · rw [e] at g; exact absurd g.1 (by decide)
theorem i_vc_drop {k : Nat} {u : SX} {v : SY} (I : i_Rel k u v) (hk : k + 3 ≤ 1536) : wpX_drop (fun r u' => wpY_drop (fun r' v' => r' = r ∧ i_Rel (k + 3) u' v') v) u := by
  obtain ⟨c, K, L, T, S, O, A, B, P, W, hc, H, rfl, rfl⟩ := I
  cases c with
  | zero => exact br_t nI_0 (br_t nI_0 ⟨rfl, rd_rel hc H⟩)
  | succ c =>
    have h0 : ¬ nI (c + 1) = 0 := nI_ne0 (by omega) (by omega)
    exact br_f h0 (nm_r (nI_pred c) (br_f h0 (nm_r (nI_pred c) ⟨rfl, rd_rel (by omega) (rd_ok_drop H)⟩)))
theorem i_vc_length {k : Nat} {u : SX} {v : SY} (I : i_Rel k u v) (hk : k + 3 ≤ 1536) : wpX_length (fun r => wpY_length (fun r' => r' = r ∧ i_Rel (k + 3) u v) v) u := by
  obtain ⟨c, K, L, T, S, O, A, B, P, W, hc, H, rfl, rfl⟩ := I
  exact ⟨rfl, rd_rel hc H⟩
theorem i_vc_token {k : Nat} {u : SX} {v : SY} (I : i_Rel k u v) (hk : k + 3 ≤ 1536) (v1 : Int32) : wpX_token (fun r => wpY_token (fun r' => r' = r ∧ i_Rel (k + 3) u v) v v1) u v1 := by
  obtain ⟨c, K, L, T, S, O, A, B, P, W, hc, H, rfl, rfl⟩ := I
  unfold wpX_token wpY_token
  dsimp only
  refine xm_place hc (fun j hj e => ?_) (fun h => ?_)
  · have hi : vp_in v1 28 := by rw [e]; exact rd_in (by omega)
    refine br_f (by decide) ⟨hi, hi, ?_⟩
    exact ym_is hc (fun _ _ _ => br_f (by decide) ⟨hi, hi, rfl, rd_rel hc H⟩) (fun h => absurd e (h j hj))
  · refine br_t rfl ?_
    exact ym_is hc (fun j hj e => absurd e (h j hj)) (fun _ => br_t rfl ⟨rfl, rd_rel hc H⟩)
theorem i_vc_bound {k : Nat} {u : SX} {v : SY} (I : i_Rel k u v) (hk : k + 3 ≤ 1536) (v1 : Int32) : wpX_bound (fun r => wpY_bound (fun r' v' => r' = r ∧ i_Rel (k + 3) u v') v v1) u v1 := by
  obtain ⟨c, K, L, T, S, O, A, B, P, W, hc, H, rfl, rfl⟩ := I
  unfold wpX_bound
  dsimp only
  refine xm_kind hc (fun j hj e h3 => ?_) (fun h => ?_)
  · subst e
    refine br_f (by decide) ⟨rd_in (by omega), ?_⟩
    rw [nI_clamp (by omega)]
    refine xm_ds (by omega) (ym_bound hc H.1 (fun i hi e A B P W => ?_) (fun h => absurd rfl (h j hj)))
    rw [nI_eq (by omega) (by omega)] at e
    subst e
    exact ⟨rd_wa_3 h3, rd_rel hc H⟩
  · exact br_t rfl (ym_bound hc H.1 (fun i hi e A B P W => ⟨rd_wa_n (h i hi e), rd_rel hc H⟩) (fun _ A B P W => ⟨rfl, rd_rel hc H⟩))
theorem i_vc_uses {k : Nat} {u : SX} {v : SY} (I : i_Rel k u v) (hk : k + 3 ≤ 1536) (v1 : Int32) : wpX_uses (fun r => wpY_uses (fun r' v' => r' = r ∧ i_Rel (k + 3) u v') v v1) u v1 := by
  obtain ⟨c, K, L, T, S, O, A, B, P, W, hc, H, rfl, rfl⟩ := I
  unfold wpX_uses
  dsimp only
  refine xm_kind hc (fun j hj e h2 => ?_) (fun h => ?_)
  · subst e
    refine br_f (by decide) (xm_ub hc (ym_uses hc H.1 (fun i hi e A B P W => ?_) (fun h => absurd rfl (h j hj))))
    rw [nI_eq (by omega) (by omega)] at e
    subst e
    exact ⟨rfl, rd_rel hc H⟩
  · refine br_t rfl (ym_uses hc H.1 (fun i hi e A B P W => ⟨?_, rd_rel hc H⟩) (fun _ A B P W => ⟨rfl, rd_rel hc H⟩))
    have e0 : rd_ms (rd_ux K L (nI i)) c = rd_ms (fun _ => false) c := rd_ms_cg c (fun p hp => Bool.eq_false_iff.mpr (fun z => h i hi e (rd_ux_2 (by omega) (by omega) z)))
    rw [e0]
    have h0 : ∀ d, rd_ms (fun _ => false) d = 0 := by
      intro d
      induction d with
      | zero => rfl
      | succ d ih => rw [rd_ms_f (by decide), ih]
    exact h0 c
theorem i_vc_free {k : Nat} {u : SX} {v : SY} (I : i_Rel k u v) (hk : k + 3 ≤ 1536) : wpX_free (fun r => wpY_free (fun r' v' => r' = r ∧ i_Rel (k + 3) u v') v) u := by
  obtain ⟨c, K, L, T, S, O, A, B, P, W, hc, H, rfl, rfl⟩ := I
  unfold wpX_free
  dsimp only
  exact xm_ub hc (ym_free hc H.1 (fun A B P W => ⟨rfl, rd_rel hc H⟩))
theorem i_vc_unused {k : Nat} {u : SX} {v : SY} (I : i_Rel k u v) (hk : k + 3 ≤ 1536) : wpX_unused (fun r => wpY_unused (fun r' v' => r' = r ∧ i_Rel (k + 3) u v') v) u := by
  obtain ⟨c, K, L, T, S, O, A, B, P, W, hc, H, rfl, rfl⟩ := I
  exact ⟨c + 1, xm_un_l hc ⟨c + 1, ym_un_l hc H.1 (fun A B P W => ⟨rfl, rd_rel hc H⟩) c 0 (by omega) A B P W⟩ c 0 (by omega)⟩
theorem i_vc_names {k : Nat} {u : SX} {v : SY} (I : i_Rel k u v) (hk : k + 3 ≤ 1536) (v1 : Int32) : wpX_names (fun r u' => wpY_names (fun r' v' => r' = r ∧ i_Rel (k + 3) u' v') v v1) u v1 := by
  obtain ⟨c, K, L, T, S, O, A, B, P, W, hc, H, rfl, rfl⟩ := I
  unfold wpX_names
  dsimp only
  refine xm_kind hc (fun j hj e h2 => ?_) (fun h => ?_)
  · subst e
    refine br_f (by decide) ⟨9, xm_nm_l hc hj (fun T S O => ?_) 8 0 (by omega) T S O⟩
    exact ⟨9, ym_nm_l hc H.1 hj h2 (fun A B P W => ⟨rfl, rd_rel hc H⟩) 8 0 (by omega) A B P W⟩
  · refine br_t rfl ⟨1, br_f (show ¬ (8 : Int32) ≤ 0 by decide) (ym_decl hc (fun i hi e h2 => absurd h2 (h i hi e)) (fun _ => br_t rfl ⟨rfl, rd_rel hc H⟩))⟩
theorem i_vc_rename {k : Nat} {u : SX} {v : SY} (I : i_Rel k u v) (hk : k + 3 ≤ 1536) (v1 : Int32) (v2 : Int32) : wpX_rename (fun r u' => wpY_rename (fun r' v' => r' = r ∧ i_Rel (k + 3) u' v') v v1 v2) u v1 v2 := by
  obtain ⟨c, K, L, T, S, O, A, B, P, W, hc, H, rfl, rfl⟩ := I
  unfold wpX_rename wpY_rename
  dsimp only
  refine xm_kind hc (fun j hj e h2 => ?_) (fun h => ?_)
  · subst e
    refine br_f (by decide) (xm_name (fun h0 h8 => ?_) (fun hb => ?_))
    · refine br_f (by decide) (xm_rn hc hj ?_)
      dsimp only
      refine xm_rl hc (fun z => ?_) (fun z => ?_)
      · refine br_f (by decide) (xm_kp hc ?_)
        dsimp only
        refine ym_decl hc (fun _ _ _ _ => br_f (by decide) (br_f h0 (br_t ((rd_78 v2).mpr h8) (ym_rl hc hj H.1 (fun _ A B P W hA hB => ?_) (fun y => absurd z y))))) (fun h => absurd h2 (h j hj rfl))
        refine br_f (by decide) ⟨c + 1, ym_rc_l hc hB ⟨rfl, ?_⟩ c 0 (by omega)⟩
        rw [rd_acc_id (T := rd_acc c K T) (fun p hp => rd_acc_lt hp), rd_acc_id hA, rd_acc_cg (T := rd_acc c (rd_rn K L j v2) S) (T' := rd_rn K L j v2) (fun p hp => rd_acc_lt hp), rd_acc_cg hB]
        exact rd_rel hc H
      · refine br_t rfl ?_
        exact ym_decl hc (fun _ _ _ _ => br_f (by decide) (br_f h0 (br_t ((rd_78 v2).mpr h8) (ym_rl hc hj H.1 (fun y => absurd y z) (fun _ A B P W => br_t rfl ⟨rfl, rd_rel hc H⟩))))) (fun h => absurd h2 (h j hj rfl))
    · refine br_t rfl (ym_decl hc (fun _ _ _ _ => br_f (by decide) ?_) (fun h => absurd h2 (h j hj rfl)))
      by_cases h0 : v2 < 0
      · exact br_t h0 ⟨rfl, rd_rel hc H⟩
      · have h8 : (8 : Int32) ≤ v2 := hb.elim (fun z => absurd z h0) id
        exact br_f h0 (br_f (fun z => (rd_78 v2).mp z h8) ⟨rfl, rd_rel hc H⟩)
  · exact br_t rfl (ym_decl hc (fun i hi e h2 => absurd h2 (h i hi e)) (fun _ => br_t rfl ⟨rfl, rd_rel hc H⟩))
theorem i_vc_swap {k : Nat} {u : SX} {v : SY} (I : i_Rel k u v) (hk : k + 3 ≤ 1536) (v1 : Int32) : wpX_swap (fun r u' => wpY_swap (fun r' v' => r' = r ∧ i_Rel (k + 3) u' v') v v1) u v1 := by
  obtain ⟨c, K, L, T, S, O, A, B, P, W, hc, H, rfl, rfl⟩ := I
  unfold wpX_swap wpY_swap
  dsimp only
  have lab : ∀ j, j < c → (K j = 2 ∨ K j = 3) → ¬ K j < 2 := by
    intro j hj h
    rcases h with h | h <;> (rw [h]; decide)
  have nlab : ∀ j, j < c → ¬ (K j = 2 ∨ K j = 3) → K j < 2 := by
    intro j hj h
    rcases H.2 j hj with e | e | e | e
    · rw [e]; decide
    · rw [e]; decide
    · exact absurd (Or.inl e) h
    · exact absurd (Or.inr e) h
  refine xm_lab hc (fun j hj e hl => ?_) (fun h => ?_)
  · subst e
    rw [nI_1 j]
    have hi : vp_in (nI j) 28 := rd_in (by omega)
    have hcj : (nI j).toNatClampNeg = j := nI_clamp (by omega)
    refine br_f (by decide) (xm_lab hc (fun i hi1 e hl1 => ?_) (fun h => ?_))
    · rw [nI_eq (by omega) (by omega)] at e
      subst e
      have hi2 : vp_in (nI (j + 1)) 28 := rd_in (by omega)
      have hcj2 : (nI (j + 1)).toNatClampNeg = j + 1 := nI_clamp (by omega)
      have h2' : (2 : Int32) ≤ K (j + 1) := Int32.not_lt.mp (lab (j + 1) hi1 hl1)
      refine br_f (by decide) (xm_mb (f := j + 1) (t := j) hc hi1 (by omega) (fun T S O hT hS hO => ?_))
      dsimp only
      rw [hcj, hcj2]
      refine xm_ml hc hi1 hT hS hO (fun z => ?_) (fun z => ?_)
      · refine br_f (by decide) (xm_kp hc ?_)
        dsimp only
        refine ym_is hc (fun _ _ _ => br_f (by decide) (ym_is hc (fun _ _ _ => br_f (by decide) ⟨hi, br_f (lab j hj hl) ⟨hi2, br_t h2' (ym_ba hc H.1 (fun A B P W hb => ?_))⟩⟩) (fun h => absurd rfl (h (j + 1) hi1)))) (fun h => absurd rfl (h j hj))
        dsimp only
        obtain ⟨hA, hB, hP, hW⟩ := hb
        refine ym_pl (k := j) (p := j + 1) (by omega) (by omega) ?_
        dsimp only
        refine ym_pl (k := j + 1) (p := j) (by omega) (by omega) ?_
        dsimp only
        have hA' := rd_sw_e (k := j) (c := c) (K := K) (A := A) (fun q hq => hA q (by omega))
        have hB' := rd_sw_e (k := j) (c := c) (K := L) (A := B) (fun q hq => hB q (by omega))
        have hP' := rd_sw_e (k := j) (c := c) (K := nI) (A := P) (fun q hq => hP q (by omega))
        refine ym_ml hc H (by omega) hi1 hl1 hA' hB' hP' hW (fun _ => br_f (by decide) (ym_ac hc ⟨rfl, ?_⟩)) (fun y => absurd z y)
        rw [rd_acc_cg hT, rd_acc_cg hS, rd_acc_cg hA', rd_acc_cg hB']
        exact rd_rel hc (rd_ok_mv H (by omega) hi1 hl1 (fun q hq => rd_acc_lt hq))
      · refine br_t rfl ?_
        refine ym_is hc (fun _ _ _ => br_f (by decide) (ym_is hc (fun _ _ _ => br_f (by decide) ⟨hi, br_f (lab j hj hl) ⟨hi2, br_t h2' (ym_ba hc H.1 (fun A B P W hb => ?_))⟩⟩) (fun h => absurd rfl (h (j + 1) hi1)))) (fun h => absurd rfl (h j hj))
        dsimp only
        obtain ⟨hA, hB, hP, hW⟩ := hb
        refine ym_pl (k := j) (p := j + 1) (by omega) (by omega) ?_
        dsimp only
        refine ym_pl (k := j + 1) (p := j) (by omega) (by omega) ?_
        dsimp only
        have hA' := rd_sw_e (k := j) (c := c) (K := K) (A := A) (fun q hq => hA q (by omega))
        have hB' := rd_sw_e (k := j) (c := c) (K := L) (A := B) (fun q hq => hB q (by omega))
        have hP' := rd_sw_e (k := j) (c := c) (K := nI) (A := P) (fun q hq => hP q (by omega))
        exact ym_ml hc H (by omega) hi1 hl1 hA' hB' hP' hW (fun y => absurd y z) (fun _ => br_t rfl ⟨rfl, rd_rel hc H⟩)
    · rw [hcj]
      refine br_t rfl (ym_is hc (fun _ _ _ => br_f (by decide) (ym_is hc (fun i hi1 e => br_f (by decide) ⟨hi, br_f (lab j hj hl) ?_⟩) (fun _ => br_t rfl ⟨rfl, rd_rel hc H⟩))) (fun h => absurd rfl (h j hj)))
      have hn := nlab i hi1 (h i hi1 e)
      rw [e]
      refine ⟨rd_in (by omega), ?_⟩
      rw [nI_clamp (by omega)]
      exact br_f (Int32.not_le.mpr hn) ⟨rfl, rd_rel hc H⟩
  · refine br_t rfl (ym_is hc (fun j hj e => ?_) (fun _ => br_t rfl ⟨rfl, rd_rel hc H⟩))
    have hn := nlab j hj (h j hj e)
    subst e
    have hi : vp_in (nI j) 28 := rd_in (by omega)
    refine br_f (by decide) (ym_is hc (fun i hi1 e => br_f (by decide) ⟨hi, ?_⟩) (fun _ => br_t rfl ⟨rfl, rd_rel hc H⟩))
    rw [nI_clamp (n := j) (by omega)]
    exact br_t hn ⟨rfl, rd_rel hc H⟩
theorem i_vc_moveOut {k : Nat} {u : SX} {v : SY} (I : i_Rel k u v) (hk : k + 3 ≤ 1536) (v1 : Int32) : wpX_moveOut (fun r u' => wpY_moveOut (fun r' v' => r' = r ∧ i_Rel (k + 3) u' v') v v1) u v1 := by
  obtain ⟨c, K, L, T, S, O, A, B, P, W, hc, H, rfl, rfl⟩ := I
  unfold wpX_moveOut
  dsimp only
  refine xm_mo hc (fun h => ?_) (fun j t hj e h2 ea z T S O hT hS => ?_) (fun j t hj e h2 ea z T S O => ?_)
  · exact br_t (by decide) (ym_mo hc H (fun _ A B P W => ⟨rfl, rd_rel hc H⟩) (fun j t hj e h2 ea => absurd ea (h j t hj e h2)) (fun j t hj e h2 ea => absurd ea (h j t hj e h2)))
  · have htj := rd_ar_lt ea
    refine br_f (nI_pos (by omega)) (xm_kp hc ?_)
    dsimp only
    refine ym_mo hc H (fun h => absurd ea (h j t hj e h2)) (fun j' t' hj' e' h2' ea' z' A B P W hA hB => ?_) (fun j' t' hj' e' h2' ea' z' A B P W => ?_)
    · rw [e, nI_eq (by omega) (by omega)] at e'
      subst e'
      rw [ea] at ea'
      cases ea'
      refine ⟨rfl, ?_⟩
      rw [rd_acc_cg hT, rd_acc_cg hS, rd_acc_cg hA, rd_acc_cg hB]
      exact rd_rel hc (rd_ok_mv H (by omega) hj (Or.inl h2) (fun q hq => rd_acc_lt hq))
    · rw [e, nI_eq (by omega) (by omega)] at e'
      subst e'
      rw [ea] at ea'
      cases ea'
      exact absurd z z'
  · refine br_t (by decide) (ym_mo hc H (fun h => absurd ea (h j t hj e h2)) (fun j' t' hj' e' h2' ea' z' => ?_) (fun j' t' hj' e' h2' ea' z' A B P W => ⟨rfl, rd_rel hc H⟩))
    rw [e, nI_eq (by omega) (by omega)] at e'
    subst e'
    rw [ea] at ea'
    cases ea'
    exact absurd z' z
theorem i_vc_canMoveOut {k : Nat} {u : SX} {v : SY} (I : i_Rel k u v) (hk : k + 3 ≤ 1536) (v1 : Int32) : wpX_canMoveOut (fun r u' => wpY_canMoveOut (fun r' v' => r' = r ∧ i_Rel (k + 3) u' v') v v1) u v1 := by
  obtain ⟨c, K, L, T, S, O, A, B, P, W, hc, H, rfl, rfl⟩ := I
  unfold wpX_canMoveOut
  dsimp only
  refine xm_mo hc (fun h => ?_) (fun j t hj e h2 ea z T S O hT hS => ?_) (fun j t hj e h2 ea z T S O => ?_)
  · exact br_t (by decide) (ym_co hc H (fun _ A B P W => ⟨rfl, rd_rel hc H⟩) (fun j t hj e h2 ea => absurd ea (h j t hj e h2)) (fun j t hj e h2 ea => absurd ea (h j t hj e h2)))
  · have htj := rd_ar_lt ea
    refine br_f (nI_pos (by omega)) (ym_co hc H (fun h => absurd ea (h j t hj e h2)) (fun j' t' hj' e' h2' ea' z' A B P W => ⟨rfl, rd_rel hc H⟩) (fun j' t' hj' e' h2' ea' z' => ?_))
    rw [e, nI_eq (by omega) (by omega)] at e'
    subst e'
    rw [ea] at ea'
    cases ea'
    exact absurd z z'
  · refine br_t (by decide) (ym_co hc H (fun h => absurd ea (h j t hj e h2)) (fun j' t' hj' e' h2' ea' z' => ?_) (fun j' t' hj' e' h2' ea' z' A B P W => ⟨rfl, rd_rel hc H⟩))
    rw [e, nI_eq (by omega) (by omega)] at e'
    subst e'
    rw [ea] at ea'
    cases ea'
    exact absurd z' z
theorem i_vc_depth {k : Nat} {u : SX} {v : SY} (I : i_Rel k u v) (hk : k + 3 ≤ 1536) (v1 : Int32) : wpX_depth (fun r => wpY_depth (fun r' v' => r' = r ∧ i_Rel (k + 3) u v') v v1) u v1 := by
  obtain ⟨c, K, L, T, S, O, A, B, P, W, hc, H, rfl, rfl⟩ := I
  unfold wpX_depth wpY_depth
  dsimp only
  refine xm_place hc (fun j hj e => ?_) (fun h => ?_)
  · subst e
    refine br_f (by decide) (xm_oc (by omega) (ym_is hc (fun i hi e => br_f (by decide) (ym_cp ?_)) (fun h => absurd rfl (h j hj))))
    dsimp only
    have hA : ∀ q, q < c → rd_acc 28 K A q = K q := fun q hq => rd_acc_lt (by omega)
    refine ym_ar (by omega) ?_
    rw [rd_ar_cg j 0 (fun q hq => hA q (by omega))]
    have hd := H.1 j (by omega)
    exact ⟨(rd_dep K j).toNat + 1, ym_dp_l hc hj H.1 hA ⟨rfl, rd_rel hc H⟩ (rd_dep K j).toNat 0 (by omega)⟩
  · exact br_t rfl (ym_is hc (fun j hj e => absurd e (h j hj)) (fun _ => br_t rfl ⟨rfl, rd_rel hc H⟩))
theorem i_vc_visible {k : Nat} {u : SX} {v : SY} (I : i_Rel k u v) (hk : k + 3 ≤ 1536) (v1 : Int32) : wpX_visible (fun r => wpY_visible (fun r' v' => r' = r ∧ i_Rel (k + 3) u v') v v1) u v1 := by
  obtain ⟨c, K, L, T, S, O, A, B, P, W, hc, H, rfl, rfl⟩ := I
  unfold wpX_visible wpY_visible
  dsimp only
  refine xm_place hc (fun j hj e => ?_) (fun h => ?_)
  · subst e
    refine br_f (by decide) ⟨9, xm_vi_l (by omega) (ym_cp ?_) 8 0 (by omega)⟩
    dsimp only
    exact ⟨9, ym_vi_l hc hj H.1 (fun q hq => rd_acc_lt (by omega)) (fun q hq => rd_acc_lt (by omega)) ⟨rfl, rd_rel hc H⟩ 8 0 (by omega)⟩
  · refine br_t rfl (ym_cp ?_)
    dsimp only
    exact ⟨1, br_f (show ¬ (8 : Int32) ≤ 0 by decide) (ym_is hc (fun j hj e => absurd e (h j hj)) (fun _ => br_t rfl ⟨rfl, rd_rel hc H⟩))⟩
