/-! the public methods of both sides -/
/-- add: which tokens are taken, and the name that is kept -/
def rd_gd (K : Nat → Int32) (c : Nat) (x n : Int32) : Prop := x = 0 ∨ (x = 1 ∧ ¬ rd_oc K c = 0) ∨ ((x = 2 ∨ x = 3) ∧ ¬ n < 0 ∧ ¬ 8 ≤ n)
def rd_lb (x n : Int32) : Int32 := if x = 2 ∨ x = 3 then n else 0
theorem rd_78 (x : Int32) : x ≤ 7 ↔ ¬ 8 ≤ x := by
  rw [Int32.le_iff_toInt_le, Int32.le_iff_toInt_le, show (7 : Int32).toInt = 7 from by decide, show (8 : Int32).toInt = 8 from by decide]
  omega
theorem xm_28 {post : Int32 → SX → Prop} {c : Nat} {K L T S O : Nat → Int32} {x n : Int32} (hc : c ≤ 28) (hF : ¬ c < 28 → post (-2) (nI c, K, L, T, S, O)) (hG : c < 28 → post (nI c) (nI (c + 1), upd K c x, upd L c (rd_lb x n), T, S, O)) : wX_add_28 post x n (nI c) K L T S O := by
  refine pk_lt c 28 (fun h => ⟨rd_in h, ?_⟩) (fun h => hF (by omega))
  rw [nI_clamp (by omega)]
  have hG' := hG h
  unfold rd_lb at hG'
  refine nm_e (xm_has (fun hl => ?_) (fun h2 h3 => ?_))
  · rw [if_pos hl] at hG'
    refine br_f (by decide) ⟨rd_in h, ?_⟩
    rw [nI_clamp (by omega)]
    exact nm_e (nm_r (nI_1 c) hG')
  · rw [if_neg (fun z => z.elim h2 h3)] at hG'
    refine br_t rfl ⟨rd_in h, ?_⟩
    rw [nI_clamp (by omega)]
    exact nm_e (nm_r (nI_1 c) hG')
theorem xm_add {post : Int32 → SX → Prop} {c : Nat} {K L T S O : Nat → Int32} {x n : Int32} (hc : c ≤ 28) (hN : ¬ rd_gd K c x n → post (-1) (nI c, K, L, T, S, O)) (hF : rd_gd K c x n → ¬ c < 28 → post (-2) (nI c, K, L, T, S, O)) (hG : rd_gd K c x n → c < 28 → post (nI c) (nI (c + 1), upd K c x, upd L c (rd_lb x n), T, S, O)) : wpX_add post (nI c, K, L, T, S, O) x n := by
  unfold wpX_add
  dsimp only
  refine xm_token (fun h => br_f (by decide) ?_) (fun h0 h1 h => br_t rfl (hN (fun g => ?_)))
  · by_cases h1 : x = 1
    · refine br_t h1 (xm_oc hc (br_c (fun z => hN (fun g => ?_)) (fun z => ?_)))
      · rcases g with g | g | g
        · rw [h1] at g; exact absurd g (by decide)
        · exact g.2 z
        · rw [h1] at g; exact absurd g.1 (by decide)
      · have g : rd_gd K c x n := Or.inr (Or.inl ⟨h1, z⟩)
        exact xm_28 hc (hF g) (hG g)
    · have g : rd_gd K c x n := by
        rcases h with h | h | h
        · exact Or.inl h
        · exact absurd h h1
        · exact Or.inr (Or.inr h)
      exact br_f h1 (xm_28 hc (hF g) (hG g))
  · rcases g with g | g | g
    · exact h0 g
    · exact h1 g.1
    · rcases h with h | h | h
      · exact g.1.elim h.1 h.2
      · exact g.2.1 h
      · exact g.2.2 h
theorem ym_53 {post : Int32 → SY → Prop} {c : Nat} {K L A B P W : Nat → Int32} {x n z : Int32} (hz : (z = 0 ∧ ¬ (x = 2 ∨ x = 3)) ∨ (z = 1 ∧ (x = 2 ∨ x = 3))) (hc : c ≤ 28) (hF : ¬ c < 28 → post (-2) (nI c, K, L, A, B, P, W)) (hG : c < 28 → post (nI c) (nI (c + 1), upd K c x, upd L c (rd_lb x n), A, B, P, W)) : wY_add_53 post x n z (nI c) K L A B P W := by
  refine pk_lt c 28 (fun h => ⟨rd_in h, ?_⟩) (fun h => hF (by omega))
  rw [nI_clamp (by omega)]
  have hG' := hG h
  unfold rd_lb at hG'
  refine nm_e ?_
  rcases hz with ⟨hz, hl⟩ | ⟨hz, hl⟩
  · rw [if_neg hl] at hG'
    refine br_t hz ⟨rd_in h, ?_⟩
    rw [nI_clamp (by omega)]
    refine nm_e (nm_r (nI_1 c) ?_)
    rw [nI_pred]
    exact hG'
  · rw [if_pos hl] at hG'
    refine br_f (by rw [hz]; decide) ⟨rd_in h, ?_⟩
    rw [nI_clamp (by omega)]
    refine nm_e (nm_r (nI_1 c) ?_)
    rw [nI_pred]
    exact hG'
theorem ym_15 {post : Int32 → SY → Prop} {c : Nat} {K L A B P W : Nat → Int32} {x n z : Int32} (hz : (z = 0 ∧ ¬ (x = 2 ∨ x = 3)) ∨ (z = 1 ∧ (x = 2 ∨ x = 3))) (hc : c ≤ 28) (hN : ¬ rd_gd K c x n → post (-1) (nI c, K, L, A, B, P, W)) (hF : rd_gd K c x n → ¬ c < 28 → post (-2) (nI c, K, L, A, B, P, W)) (hG : rd_gd K c x n → c < 28 → post (nI c) (nI (c + 1), upd K c x, upd L c (rd_lb x n), A, B, P, W)) : wY_add_15 post x n z (nI c) K L A B P W := by
  have hbad : ∀ {y : Prop}, (rd_gd K c x n → x = 0 ∨ x = 1 ∨ x = 2 ∨ x = 3) := by
    intro _ g
    rcases g with g | g | g
    · exact Or.inl g
    · exact Or.inr (Or.inl g.1)
    · exact Or.inr (Or.inr g.1)
  refine br_c (fun h => hN (fun g => ?_)) (fun h => br_c (fun h3 => hN (fun g => ?_)) (fun h3 => ?_))
  · rcases hbad (y := True) g with e | e | e | e <;> (rw [e] at h; exact absurd h (by decide))
  · rcases hbad (y := True) g with e | e | e | e <;> (rw [e] at h3; exact absurd h3 (by decide))
  · have h37 : ∀ (g1 : x = 1 → ¬ rd_oc K c = 0), wY_add_37 post x n z (nI c) K L A B P W := by
      intro g1
      rcases hz with ⟨hz0, hl⟩ | ⟨hz1, hl⟩
      · have g : rd_gd K c x n := by
          obtain ⟨j, hj, e⟩ := nI_of2 (M := 3) (n := 3) (by decide) h (Int32.not_lt.mp h3)
          rcases (show j = 0 ∨ j = 1 ∨ j = 2 ∨ j = 3 by omega) with r | r | r | r
          · exact Or.inl (by rw [e, r]; rfl)
          · have e1 : x = 1 := by rw [e, r]; rfl
            exact Or.inr (Or.inl ⟨e1, g1 e1⟩)
          · exact absurd (Or.inl (by rw [e, r]; rfl)) hl
          · exact absurd (Or.inr (by rw [e, r]; rfl)) hl
        exact br_t hz0 (ym_53 (Or.inl ⟨hz0, hl⟩) hc (hF g) (hG g))
      · have hx0 : ¬ x = 0 := fun e => by
          rw [e] at hl; exact absurd hl (by decide)
        have hx1 : ¬ x = 1 := fun e => by
          rw [e] at hl; exact absurd hl (by decide)
        refine br_f (by rw [hz1]; decide) (br_c (fun hn => hN (fun g => ?_)) (fun hn => br_c (fun h7 => ?_) (fun h7 => hN (fun g => ?_))))
        · rcases g with g | g | g
          · exact hx0 g
          · exact hx1 g.1
          · exact g.2.1 hn
        · have g : rd_gd K c x n := Or.inr (Or.inr ⟨hl, hn, (rd_78 n).mp h7⟩)
          exact ym_53 (Or.inr ⟨hz1, hl⟩) hc (hF g) (hG g)
        · rcases g with g | g | g
          · exact hx0 g
          · exact hx1 g.1
          · exact h7 ((rd_78 n).mpr g.2.2)
    by_cases h1 : x = 1
    · refine br_t h1 (ym_op hc (br_c (fun zz => hN (fun g => ?_)) (fun zz => h37 (fun _ => zz))))
      rcases g with g | g | g
      · rw [h1] at g; exact absurd g (by decide)
      · exact g.2 zz
      · rw [h1] at g; exact absurd g.1 (by decide)
    · exact br_f h1 (h37 (fun e => absurd e h1))
theorem ym_add {post : Int32 → SY → Prop} {c : Nat} {K L A B P W : Nat → Int32} {x n : Int32} (hc : c ≤ 28) (hN : ¬ rd_gd K c x n → post (-1) (nI c, K, L, A, B, P, W)) (hF : rd_gd K c x n → ¬ c < 28 → post (-2) (nI c, K, L, A, B, P, W)) (hG : rd_gd K c x n → c < 28 → post (nI c) (nI (c + 1), upd K c x, upd L c (rd_lb x n), A, B, P, W)) : wpY_add post (nI c, K, L, A, B, P, W) x n :=
  br_c (fun h => ym_15 (Or.inr ⟨rfl, Or.inl h⟩) hc hN hF hG) (fun h2 => br_c (fun h => ym_15 (Or.inr ⟨rfl, Or.inr h⟩) hc hN hF hG) (fun h3 => ym_15 (Or.inl ⟨rfl, fun z => z.elim h2 h3⟩) hc hN hF hG))
theorem ym_bound {post : Int32 → SY → Prop} {c : Nat} {K L A B P W : Nat → Int32} {x : Int32} (hc : c ≤ 28) (hn : rd_nest K c) (ht : ∀ j, j < c → x = nI j → ∀ A B P W : Nat → Int32, post (rd_wa K L j) (nI c, K, L, A, B, P, W)) (hf : (∀ j, j < c → ¬ x = nI j) → ∀ A B P W : Nat → Int32, post (-1) (nI c, K, L, A, B, P, W)) : wpY_bound post (nI c, K, L, A, B, P, W) x := by
  unfold wpY_bound
  dsimp only
  refine ym_ba hc hn (fun A B P W hb => ?_)
  dsimp only
  refine ym_is hc (fun j hj e => ?_) (fun h => br_t rfl (hf h A B P W))
  subst e
  refine br_f (by decide) ⟨rd_in (by omega), ?_⟩
  rw [nI_clamp (by omega), hb.2.2.2 j hj]
  exact ht j hj rfl A B P W
theorem ym_uses_l {post : Int32 → SY → Prop} {c k : Nat} {K L A B P W : Nat → Int32} (hc : c ≤ 28) (hk : k < c) (hW : ∀ q, q < c → W q = rd_wa K L q) (hp : post (rd_ms (rd_ux K L (nI k)) c) (nI c, K, L, A, B, P, W)) : ∀ e p, p + e = c → wY_uses_8 post (nI k) (nI c) K L A B P W (e + 1) (rd_ms (rd_ux K L (nI k)) p) (nI p) := by
  intro e
  induction e with
  | zero =>
    intro p h
    have e : p = c := by omega
    subst e
    exact br_t (nI_le (Nat.le_refl _) (by omega)) hp
  | succ e ih =>
    intro p h
    have hpc : p < c := by omega
    have IH := ih (p + 1) (by omega)
    refine br_f (nI_ge hpc (by omega)) (ym_is hc (fun j hj e => br_f (by decide) ⟨rd_in (by omega), ?_⟩) (fun h => absurd rfl (h k hk)))
    rw [nI_clamp (show p < 2 ^ 31 by omega), hW p hpc]
    by_cases hw : rd_wa K L p = nI k
    · exact br_t hw (nm_r (rd_ms_t ((rd_ux_k (by omega)).mpr hw)).symm (nm_r (nI_1 p) IH))
    · rw [rd_ms_f (fun z => hw ((rd_ux_k (by omega)).mp z))] at IH
      exact br_f hw (nm_r (nI_1 p) IH)
theorem ym_uses {post : Int32 → SY → Prop} {c : Nat} {K L A B P W : Nat → Int32} {x : Int32} (hc : c ≤ 28) (hn : rd_nest K c) (ht : ∀ j, j < c → x = nI j → ∀ A B P W : Nat → Int32, post (rd_ms (rd_ux K L (nI j)) c) (nI c, K, L, A, B, P, W)) (hf : (∀ j, j < c → ¬ x = nI j) → ∀ A B P W : Nat → Int32, post 0 (nI c, K, L, A, B, P, W)) : wpY_uses post (nI c, K, L, A, B, P, W) x := by
  unfold wpY_uses
  dsimp only
  refine ym_ba hc hn (fun A B P W hb => ?_)
  dsimp only
  by_cases hx : ∃ j, j < c ∧ x = nI j
  · obtain ⟨j, hj, e⟩ := hx
    subst e
    exact ⟨c + 1, ym_uses_l hc hj hb.2.2.2 (ht j hj rfl A B P W) c 0 (by omega)⟩
  · have hx' : ∀ j, j < c → ¬ x = nI j := fun j hj e => hx ⟨j, hj, e⟩
    refine ⟨1, br_c (fun _ => hf hx' A B P W) (fun _ => ?_)⟩
    exact ym_is hc (fun j hj e => absurd e (hx' j hj)) (fun _ => br_t rfl (hf hx' A B P W))
theorem ym_free_l {post : Int32 → SY → Prop} {c : Nat} {K L A B P W : Nat → Int32} (hc : c ≤ 28) (hW : ∀ q, q < c → W q = rd_wa K L q) (hp : post (rd_ms (rd_ux K L (-1)) c) (nI c, K, L, A, B, P, W)) : ∀ e p, p + e = c → wY_free_8 post (nI c) K L A B P W (e + 1) (rd_ms (rd_ux K L (-1)) p) (nI p) := by
  intro e
  induction e with
  | zero =>
    intro p h
    have e : p = c := by omega
    subst e
    exact br_t (nI_le (Nat.le_refl _) (by omega)) hp
  | succ e ih =>
    intro p h
    have hpc : p < c := by omega
    have hi : vp_in (nI p) 28 := rd_in (by omega)
    have IH := ih (p + 1) (by omega)
    refine br_f (nI_ge hpc (by omega)) ⟨hi, ?_⟩
    rw [nI_clamp (show p < 2 ^ 31 by omega), hW p hpc]
    by_cases h3 : K p = 3
    · refine br_t h3 ⟨hi, ?_⟩
      by_cases hw : rd_wa K L p < 0
      · exact br_f (Int32.not_le.mpr hw) (nm_r (rd_ms_t ((rd_ux_f (by omega)).mpr ⟨h3, hw⟩)).symm (nm_r (nI_1 p) IH))
      · rw [rd_ms_f (fun z => hw ((rd_ux_f (by omega)).mp z).2)] at IH
        exact br_t (Int32.not_lt.mp hw) (nm_r (nI_1 p) IH)
    · rw [rd_ms_f (fun z => h3 ((rd_ux_f (by omega)).mp z).1)] at IH
      exact br_f h3 (nm_r (nI_1 p) IH)
theorem ym_free {post : Int32 → SY → Prop} {c : Nat} {K L A B P W : Nat → Int32} (hc : c ≤ 28) (hn : rd_nest K c) (hp : ∀ A B P W : Nat → Int32, post (rd_ms (rd_ux K L (-1)) c) (nI c, K, L, A, B, P, W)) : wpY_free post (nI c, K, L, A, B, P, W) := by
  unfold wpY_free
  dsimp only
  refine ym_ba hc hn (fun A B P W hb => ?_)
  dsimp only
  exact ⟨c + 1, ym_free_l hc hb.2.2.2 (hp A B P W) c 0 (by omega)⟩
/-- the declarations to which no use is bound -/
def rd_un (K L : Nat → Int32) (c p : Nat) : Bool := decide (K p = 2 ∧ rd_ms (rd_ux K L (nI p)) c = 0)
theorem rd_un_i {K L : Nat → Int32} {c p : Nat} : rd_un K L c p = true ↔ (K p = 2 ∧ rd_ms (rd_ux K L (nI p)) c = 0) := by
  unfold rd_un
  exact decide_eq_true_iff
theorem xm_un_l {post : Int32 → Prop} {c : Nat} {K L T S O : Nat → Int32} (hc : c ≤ 28) (hp : post (rd_ms (rd_un K L c) c)) : ∀ e p, p + e = c → wX_unused_4 post (nI c) K L T S O (e + 1) (rd_ms (rd_un K L c) p) (nI p) := by
  intro e
  induction e with
  | zero =>
    intro p h
    have e : p = c := by omega
    subst e
    exact br_t (nI_le (Nat.le_refl _) (by omega)) hp
  | succ e ih =>
    intro p h
    have hi : vp_in (nI p) 28 := rd_in (by omega)
    refine br_f (nI_ge (by omega) (by omega)) ⟨hi, ?_⟩
    rw [nI_clamp (by omega)]
    have IH := ih (p + 1) (by omega)
    by_cases h2 : K p = 2
    · refine br_t h2 (xm_ub hc ?_)
      by_cases hd : rd_ms (rd_ux K L (nI p)) c = 0
      · exact br_t hd (nm_r (rd_ms_t (rd_un_i.mpr ⟨h2, hd⟩)).symm (nm_r (nI_1 p) IH))
      · rw [rd_ms_f (fun z => hd (rd_un_i.mp z).2)] at IH
        exact br_f hd (nm_r (nI_1 p) IH)
    · rw [rd_ms_f (fun z => h2 (rd_un_i.mp z).1)] at IH
      exact br_f h2 (nm_r (nI_1 p) IH)
theorem ym_un_l {post : Int32 → SY → Prop} {c : Nat} {K L : Nat → Int32} (hc : c ≤ 28) (hn : rd_nest K c) (hp : ∀ A B P W : Nat → Int32, post (rd_ms (rd_un K L c) c) (nI c, K, L, A, B, P, W)) : ∀ e p, p + e = c → ∀ A B P W : Nat → Int32, wY_unused_4 post (e + 1) (rd_ms (rd_un K L c) p) (nI p) (nI c) K L A B P W := by
  intro e
  induction e with
  | zero =>
    intro p h A B P W
    have e : p = c := by omega
    subst e
    exact br_t (nI_le (Nat.le_refl _) (by omega)) (hp A B P W)
  | succ e ih =>
    intro p h A B P W
    have hi : vp_in (nI p) 28 := rd_in (by omega)
    have hpc : p < c := by omega
    refine br_f (nI_ge hpc (by omega)) ⟨hi, ?_⟩
    rw [nI_clamp (show p < 2 ^ 31 by omega)]
    have IH := ih (p + 1) (by omega)
    by_cases h2 : K p = 2
    · refine br_t h2 (ym_uses hc hn (fun j hj e A B P W => ?_) (fun h => absurd rfl (h p hpc)))
      rw [nI_eq (by omega) (by omega)] at e
      subst e
      dsimp only
      have IH := IH A B P W
      by_cases hd : rd_ms (rd_ux K L (nI p)) c = 0
      · exact br_t hd (nm_r (rd_ms_t (rd_un_i.mpr ⟨h2, hd⟩)).symm (nm_r (nI_1 p) IH))
      · rw [rd_ms_f (fun z => hd (rd_un_i.mp z).2)] at IH
        exact br_f hd (nm_r (nI_1 p) IH)
    · have IH := IH A B P W
      rw [rd_ms_f (fun z => h2 (rd_un_i.mp z).1)] at IH
      exact br_f h2 (nm_r (nI_1 p) IH)
/-- the names to which the declaration at k may be renamed -/
noncomputable def rd_nb (K L : Nat → Int32) (k c m : Nat) : Bool := @decide (rd_lr K L k (nI m) c) (Classical.propDecidable _)
theorem rd_nb_i {K L : Nat → Int32} {k c m : Nat} : rd_nb K L k c m = true ↔ rd_lr K L k (nI m) c := by
  unfold rd_nb
  exact @decide_eq_true_iff _ (Classical.propDecidable _)
theorem xm_nm_l {post : Int32 → SX → Prop} {c k : Nat} {K L : Nat → Int32} (hc : c ≤ 28) (hk : k < c) (hp : ∀ T S O : Nat → Int32, post (rd_ms (rd_nb K L k c) 8) (nI c, K, L, T, S, O)) : ∀ e p, p + e = 8 → ∀ T S O : Nat → Int32, wX_names_15 post (nI k) (e + 1) (rd_ms (rd_nb K L k c) p) (nI p) (nI c) K L T S O := by
  intro e
  induction e with
  | zero =>
    intro p h T S O
    have e : p = 8 := by omega
    subst e
    exact br_t (nI_le (a := 8) (b := 8) (Nat.le_refl _) (by omega)) (hp T S O)
  | succ e ih =>
    intro p h T S O
    refine br_f (nI_ge (a := p) (b := 8) (by omega) (by omega)) (xm_rn hc hk ?_)
    dsimp only
    have IH := ih (p + 1) (by omega) (rd_acc c K T) (rd_acc c (rd_rn K L k (nI p)) S) (rd_acc c nI O)
    refine xm_rl hc (fun z => ?_) (fun z => ?_)
    · exact br_f (by decide) (nm_r (rd_ms_t (rd_nb_i.mpr z)).symm (nm_r (nI_1 p) IH))
    · rw [rd_ms_f (fun y => z (rd_nb_i.mp y))] at IH
      exact br_t rfl (nm_r (nI_1 p) IH)
theorem ym_nm_l {post : Int32 → SY → Prop} {c k : Nat} {K L : Nat → Int32} (hc : c ≤ 28) (hn : rd_nest K c) (hk : k < c) (h2 : K k = 2) (hp : ∀ A B P W : Nat → Int32, post (rd_ms (rd_nb K L k c) 8) (nI c, K, L, A, B, P, W)) : ∀ e p, p + e = 8 → ∀ A B P W : Nat → Int32, wY_names_4 post (nI k) (e + 1) (rd_ms (rd_nb K L k c) p) (nI p) (nI c) K L A B P W := by
  intro e
  induction e with
  | zero =>
    intro p h A B P W
    have e : p = 8 := by omega
    subst e
    exact br_t (nI_le (a := 8) (b := 8) (Nat.le_refl _) (by omega)) (hp A B P W)
  | succ e ih =>
    intro p h A B P W
    refine br_f (nI_ge (a := p) (b := 8) (by omega) (by omega)) (ym_decl hc (fun j hj ej _ => br_f (by decide) ?_) (fun h => absurd h2 (h k hk rfl)))
    refine ym_rl hc hk hn (fun z A B P W _ _ => ?_) (fun z A B P W => ?_)
    · exact br_f (by decide) (nm_r (rd_ms_t (rd_nb_i.mpr z)).symm (nm_r (nI_1 p) (ih (p + 1) (by omega) A B P W)))
    · have IH := ih (p + 1) (by omega) A B P W
      rw [rd_ms_f (fun y => z (rd_nb_i.mp y))] at IH
      exact br_t rfl (nm_r (nI_1 p) IH)
theorem ym_rc_l {post : Int32 → SY → Prop} {c k : Nat} {K L A B P W : Nat → Int32} {m : Int32} (hc : c ≤ 28) (hB : ∀ q, q < c → B q = rd_rn K L k m q) (hp : post (rd_ct (rd_cb K L k m) c) (nI c, rd_acc c A K, rd_acc c B L, A, B, P, W)) : ∀ e p, p + e = c → wY_rename_37 post (nI c) K L A B P W (e + 1) (rd_ct (rd_cb K L k m) p) (nI p) := by
  intro e
  induction e with
  | zero =>
    intro p h
    have e : p = c := by omega
    subst e
    exact br_t (nI_le (Nat.le_refl _) (by omega)) (ym_ac hc hp)
  | succ e ih =>
    intro p h
    have hi : vp_in (nI p) 28 := rd_in (by omega)
    have hpc : p < c := by omega
    have IH := ih (p + 1) (by omega)
    refine br_f (nI_ge hpc (by omega)) ⟨hi, hi, ?_⟩
    rw [nI_clamp (show p < 2 ^ 31 by omega), hB p hpc]
    by_cases h1 : rd_rn K L k m p = L p
    · rw [rd_ct_f (fun z => rd_cb_n.mp z h1)] at IH
      exact br_t h1 (nm_r (nI_1 p) IH)
    · exact br_f h1 (nm_r (rd_ct_t (rd_cb_n.mpr h1)).symm (nm_r (nI_1 p) IH))
/-- the names visible at k -/
def rd_vb (K L : Nat → Int32) (k n : Nat) : Bool := decide (¬ rd_ds K L (nI n) k 0 = none)
theorem rd_vb_i {K L : Nat → Int32} {k n : Nat} : rd_vb K L k n = true ↔ ¬ rd_ds K L (nI n) k 0 = none := by
  unfold rd_vb
  exact decide_eq_true_iff
theorem xm_vi_l {post : Int32 → Prop} {c k : Nat} {K L T S O : Nat → Int32} (hk : k < 28) (hp : post (rd_ms (rd_vb K L k) 8)) : ∀ e p, p + e = 8 → wX_visible_14 post (nI k) (nI c) K L T S O (e + 1) (rd_ms (rd_vb K L k) p) (nI p) := by
  intro e
  induction e with
  | zero =>
    intro p h
    have e : p = 8 := by omega
    subst e
    exact br_t (nI_le (a := 8) (b := 8) (Nat.le_refl _) (by omega)) hp
  | succ e ih =>
    intro p h
    have IH := ih (p + 1) (by omega)
    refine br_f (nI_ge (a := p) (b := 8) (by omega) (by omega)) (xm_ds (by omega) ?_)
    by_cases hd : rd_ds K L (nI p) k 0 = none
    · rw [rd_ms_f (fun z => rd_vb_i.mp z hd)] at IH
      exact br_t ((rd_op_m1 (rd_ds_b (by omega))).mpr hd) (nm_r (nI_1 p) IH)
    · exact br_f (fun z => hd ((rd_op_m1 (rd_ds_b (by omega))).mp z)) (nm_r (rd_ms_t (rd_vb_i.mpr hd)).symm (nm_r (nI_1 p) IH))
theorem ym_vi_l {post : Int32 → SY → Prop} {c k : Nat} {K L A B P W : Nat → Int32} (hc : c ≤ 28) (hk : k < c) (hn : rd_nest K c) (hA : ∀ q, q < c → A q = K q) (hB : ∀ q, q < c → B q = L q) (hp : post (rd_ms (rd_vb K L k) 8) (nI c, K, L, A, B, P, W)) : ∀ e p, p + e = 8 → wY_visible_8 post (nI k) (nI c) K L A B P W (e + 1) (rd_ms (rd_vb K L k) p) (nI p) := by
  intro e
  induction e with
  | zero =>
    intro p h
    have e : p = 8 := by omega
    subst e
    exact br_t (nI_le (a := 8) (b := 8) (Nat.le_refl _) (by omega)) hp
  | succ e ih =>
    intro p h
    have IH := ih (p + 1) (by omega)
    refine br_f (nI_ge (a := p) (b := 8) (by omega) (by omega)) (ym_is hc (fun j hj ej => br_f (by decide) (ym_bi (by omega) (rd_nest_cg hA (by omega) hn) ?_)) (fun h => absurd rfl (h k hk)))
    rw [rd_ds_cg k 0 (fun q hq => hA q (by omega)) (fun q hq => hB q (by omega))]
    by_cases hd : rd_ds K L (nI p) k 0 = none
    · rw [rd_ms_f (fun z => rd_vb_i.mp z hd)] at IH
      exact br_t ((rd_op_lt0 (rd_ds_b (by omega))).mpr hd) (nm_r (nI_1 p) IH)
    · exact br_f (fun z => hd ((rd_op_lt0 (rd_ds_b (by omega))).mp z)) (nm_r (rd_ms_t (rd_vb_i.mpr hd)).symm (nm_r (nI_1 p) IH))
theorem ym_dp_l {post : Int32 → SY → Prop} {c k : Nat} {K L A B P W : Nat → Int32} (hc : c ≤ 28) (hk : k < c) (hn : rd_nest K c) (hA : ∀ q, q < c → A q = K q) (hp : post (rd_oc K k) (nI c, K, L, A, B, P, W)) : ∀ e i : Nat, (i : Int) + e = rd_dep K k → wY_depth_22 post (nI c) K L A B P W (e + 1) (nI i) (rd_op (rd_ar K k i)) := by
  have hnk : rd_nest K k := rd_nest_le hn (by omega)
  have hdk := rd_dep_le (K := K) k
  intro e
  induction e with
  | zero =>
    intro i h
    have e1 : rd_ar K k i = none := (rd_ar_none hnk i).mpr (by omega)
    rw [e1]
    rw [rd_oc_dep hnk, show (rd_dep K k).toNat = i by omega] at hp
    exact br_t (show (-1 : Int32) < 0 by decide) hp
  | succ e ih =>
    intro i h
    cases e1 : rd_ar K k i with
    | none =>
      have := (rd_ar_none hnk i).mp e1
      omega
    | some b =>
      have hb := rd_ar_lt e1
      have IH := ih (i + 1) (by omega)
      rw [rd_ar_ch, e1] at IH
      refine br_f (nI_pos (n := b) (by omega)) (br_f (nI_ge (a := i) (b := 28) (by omega) (by omega)) (nm_r (nI_1 i) (ym_ar (p := b) (by omega) ?_)))
      rw [rd_ar_cg b 0 (fun q hq => hA q (by omega))]
      exact IH
