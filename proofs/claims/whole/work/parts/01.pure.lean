/-! the pure picture: blocks, the search outwards for a declaration, and that both searches find the same one -/
/-- what a token does to the number of blocks -/
def rd_w (x : Int32) : Int := if x = 0 then 1 else if x = 1 then -1 else 0
theorem rd_w0 {x : Int32} (h : x = 0) : rd_w x = 1 := by rw [rd_w, if_pos h]
theorem rd_w1 {x : Int32} (h : x = 1) : rd_w x = -1 := by rw [rd_w, if_neg (by rw [h]; decide), if_pos h]
theorem rd_w2 {x : Int32} (h0 : ¬ x = 0) (h1 : ¬ x = 1) : rd_w x = 0 := by rw [rd_w, if_neg h0, if_neg h1]
/-- the number of blocks begun and not ended before place p -/
def rd_dep (K : Nat → Int32) : Nat → Int
  | 0 => 0
  | p + 1 => rd_dep K p + rd_w (K p)
def rd_nest (K : Nat → Int32) (c : Nat) : Prop := ∀ p, p ≤ c → 0 ≤ rd_dep K p
theorem rd_nest_le {K : Nat → Int32} {c d : Nat} (h : rd_nest K c) (hd : d ≤ c) : rd_nest K d := fun p hp => h p (Nat.le_trans hp hd)
theorem rd_dep_le {K : Nat → Int32} : ∀ p : Nat, rd_dep K p ≤ p := by
  intro p
  induction p with
  | zero => exact Int.le_refl 0
  | succ p ih =>
    have hd : rd_dep K (p + 1) = rd_dep K p + rd_w (K p) := rfl
    have hw : rd_w (K p) ≤ 1 := by
      unfold rd_w
      split
      · omega
      · split <;> omega
    omega
theorem rd_dep_cg {K K' : Nat → Int32} : ∀ p : Nat, (∀ q, q < p → K q = K' q) → rd_dep K p = rd_dep K' p := by
  intro p
  induction p with
  | zero => intro _; rfl
  | succ p ih =>
    intro h
    show rd_dep K p + rd_w (K p) = rd_dep K' p + rd_w (K' p)
    rw [ih (fun q hq => h q (by omega)), h p (Nat.lt_succ_self p)]
/-- where the block around place p begins, c blocks further out -/
def rd_ar (K : Nat → Int32) : Nat → Nat → Option Nat
  | 0, _ => none
  | p + 1, c => if K p = 0 then (if c = 0 then some p else rd_ar K p (c - 1)) else if K p = 1 then rd_ar K p (c + 1) else rd_ar K p c
theorem rd_ar_0 {K : Nat → Int32} {p : Nat} (h : K p = 0) : rd_ar K (p + 1) 0 = some p := by
  rw [rd_ar, if_pos h, if_pos rfl]
theorem rd_ar_0s {K : Nat → Int32} {p c : Nat} (h : K p = 0) : rd_ar K (p + 1) (c + 1) = rd_ar K p c := by
  rw [rd_ar, if_pos h, if_neg (Nat.succ_ne_zero c), Nat.add_sub_cancel]
theorem rd_ar_1 {K : Nat → Int32} {p c : Nat} (h : K p = 1) : rd_ar K (p + 1) c = rd_ar K p (c + 1) := by
  rw [rd_ar, if_neg (by rw [h]; decide), if_pos h]
theorem rd_ar_2 {K : Nat → Int32} {p c : Nat} (h0 : ¬ K p = 0) (h1 : ¬ K p = 1) : rd_ar K (p + 1) c = rd_ar K p c := by
  rw [rd_ar, if_neg h0, if_neg h1]
theorem rd_ar_z {K : Nat → Int32} {c : Nat} : rd_ar K 0 c = none := by rw [rd_ar]
theorem rd_ar_lt {K : Nat → Int32} : ∀ {p c b : Nat}, rd_ar K p c = some b → b < p := by
  intro p
  induction p with
  | zero => intro c b h; rw [rd_ar_z] at h; cases h
  | succ p ih =>
    intro c b h
    rw [rd_ar] at h
    split at h
    · split at h
      · cases h; omega
      · have := ih h; omega
    · split at h
      · have := ih h; omega
      · have := ih h; omega
theorem rd_ar_op {K : Nat → Int32} : ∀ {p c b : Nat}, rd_ar K p c = some b → K b = 0 := by
  intro p
  induction p with
  | zero => intro c b h; rw [rd_ar_z] at h; cases h
  | succ p ih =>
    intro c b h
    rw [rd_ar] at h
    split at h
    · rename_i h0
      split at h
      · cases h; exact h0
      · exact ih h
    · split at h
      · exact ih h
      · exact ih h
theorem rd_ar_cg {K K' : Nat → Int32} : ∀ (p c : Nat), (∀ q, q < p → K q = K' q) → rd_ar K p c = rd_ar K' p c := by
  intro p
  induction p with
  | zero => intro c _; rw [rd_ar_z, rd_ar_z]
  | succ p ih =>
    intro c h
    have h' : ∀ q, q < p → K q = K' q := fun q hq => h q (by omega)
    rw [rd_ar, rd_ar, h p (Nat.lt_succ_self p), ih (c - 1) h', ih (c + 1) h', ih c h']
theorem rd_ar_ch {K : Nat → Int32} : ∀ (p c : Nat), rd_ar K p (c + 1) = (rd_ar K p c).bind (fun b => rd_ar K b 0) := by
  intro p
  induction p with
  | zero => intro c; rw [rd_ar_z, rd_ar_z] <;> rfl
  | succ p ih =>
    intro c
    by_cases h0 : K p = 0
    · cases c with
      | zero => rw [rd_ar_0s h0, rd_ar_0 h0] <;> rfl
      | succ c => rw [rd_ar_0s h0, rd_ar_0s h0]; exact ih c
    · by_cases h1 : K p = 1
      · rw [rd_ar_1 h1, rd_ar_1 h1]; exact ih (c + 1)
      · rw [rd_ar_2 h0 h1, rd_ar_2 h0 h1]; exact ih c
theorem rd_ar_none {K : Nat → Int32} : ∀ {p : Nat}, rd_nest K p → ∀ c : Nat, rd_ar K p c = none ↔ rd_dep K p ≤ c := by
  intro p
  induction p with
  | zero => exact fun _ c => ⟨fun _ => (by omega : (0 : Int) ≤ (c : Int)), fun _ => rd_ar_z⟩
  | succ p ih =>
    intro hn c
    have hn' : rd_nest K p := rd_nest_le hn (Nat.le_succ p)
    have hp := hn' p (Nat.le_refl p)
    have hd : rd_dep K (p + 1) = rd_dep K p + rd_w (K p) := rfl
    by_cases h0 : K p = 0
    · rw [rd_w0 h0] at hd
      cases c with
      | zero =>
        rw [rd_ar_0 h0]
        constructor
        · intro z; cases z
        · intro z; omega
      | succ c => rw [rd_ar_0s h0, ih hn' c]; omega
    · by_cases h1 : K p = 1
      · rw [rd_w1 h1] at hd
        rw [rd_ar_1 h1, ih hn' (c + 1)]; omega
      · rw [rd_w2 h0 h1] at hd
        rw [rd_ar_2 h0 h1, ih hn' c]; omega
theorem rd_ar_dep {K : Nat → Int32} : ∀ {p c b : Nat}, rd_ar K p c = some b → rd_dep K p = rd_dep K b + 1 + c := by
  intro p
  induction p with
  | zero => intro c b h; rw [rd_ar_z] at h; cases h
  | succ p ih =>
    intro c b h
    have hd : rd_dep K (p + 1) = rd_dep K p + rd_w (K p) := rfl
    by_cases h0 : K p = 0
    · rw [rd_w0 h0] at hd
      cases c with
      | zero => rw [rd_ar_0 h0] at h; cases h; omega
      | succ c => rw [rd_ar_0s h0] at h; have := ih h; omega
    · by_cases h1 : K p = 1
      · rw [rd_w1 h1] at hd
        rw [rd_ar_1 h1] at h; have := ih h; omega
      · rw [rd_w2 h0 h1] at hd
        rw [rd_ar_2 h0 h1] at h; have := ih h; omega
theorem rd_ar_thru {K : Nat → Int32} : ∀ {u c b : Nat}, rd_ar K u c = some b → ∀ p, b < p → p ≤ u → ∃ c', rd_ar K p c' = some b := by
  intro u
  induction u with
  | zero => intro c b h; rw [rd_ar_z] at h; cases h
  | succ u ih =>
    intro c b h p hb hp
    by_cases e : p = u + 1
    · subst e; exact ⟨c, h⟩
    · have hp' : p ≤ u := by omega
      rw [rd_ar] at h
      split at h
      · split at h
        · cases h; omega
        · exact ih h p hb hp'
      · split at h
        · exact ih h p hb hp'
        · exact ih h p hb hp'
theorem rd_ar_ge {K : Nat → Int32} {p : Nat} : ∀ {c b : Nat}, rd_ar K p c = some b → ∃ q, rd_ar K p 0 = some q ∧ b ≤ q ∧ (0 < c → b < q) := by
  intro c
  induction c with
  | zero => intro b h; exact ⟨b, h, Nat.le_refl b, fun z => absurd z (Nat.lt_irrefl 0)⟩
  | succ c ih =>
    intro b h
    rw [rd_ar_ch] at h
    cases e : rd_ar K p c with
    | none =>
      rw [e] at h
      have h2 : (none : Option Nat) = some b := h
      cases h2
    | some r =>
      rw [e] at h
      have h2 : rd_ar K r 0 = some b := h
      have hl := rd_ar_lt h2
      obtain ⟨q, hq, hb, _⟩ := ih e
      exact ⟨q, hq, by omega, fun _ => by omega⟩
theorem rd_ar_sh {K : Nat → Int32} {p b : Nat} (e : rd_ar K p 0 = some b) : ∀ c, rd_ar K b c = rd_ar K p (c + 1) := by
  intro c
  induction c with
  | zero =>
    have h := rd_ar_ch (K := K) p 0
    rw [e] at h
    exact h.symm
  | succ c ih => rw [rd_ar_ch b c, rd_ar_ch p (c + 1), ih]
/-- the scan backwards for a declaration of n, past c closed blocks -/
def rd_ds (K L : Nat → Int32) (n : Int32) : Nat → Nat → Option Nat
  | 0, _ => none
  | p + 1, c => if K p = 1 then rd_ds K L n p (c + 1) else if K p = 0 then rd_ds K L n p (c - 1) else if K p = 2 ∧ c = 0 ∧ L p = n then some p else rd_ds K L n p c
theorem rd_ds_z {K L : Nat → Int32} {n : Int32} {c : Nat} : rd_ds K L n 0 c = none := by rw [rd_ds]
theorem rd_ds_1 {K L : Nat → Int32} {n : Int32} {p c : Nat} (h : K p = 1) : rd_ds K L n (p + 1) c = rd_ds K L n p (c + 1) := by
  rw [rd_ds, if_pos h]
theorem rd_ds_0 {K L : Nat → Int32} {n : Int32} {p c : Nat} (h : K p = 0) : rd_ds K L n (p + 1) c = rd_ds K L n p (c - 1) := by
  rw [rd_ds, if_neg (by rw [h]; decide), if_pos h]
theorem rd_ds_h {K L : Nat → Int32} {n : Int32} {p : Nat} (h : K p = 2) (hl : L p = n) : rd_ds K L n (p + 1) 0 = some p := by
  rw [rd_ds, if_neg (by rw [h]; decide), if_neg (by rw [h]; decide), if_pos ⟨h, rfl, hl⟩]
theorem rd_ds_n {K L : Nat → Int32} {n : Int32} {p c : Nat} (h0 : ¬ K p = 0) (h1 : ¬ K p = 1) (hh : ¬ (K p = 2 ∧ c = 0 ∧ L p = n)) : rd_ds K L n (p + 1) c = rd_ds K L n p c := by
  rw [rd_ds, if_neg h1, if_neg h0, if_neg hh]
theorem rd_ds_some {K L : Nat → Int32} {n : Int32} : ∀ {p c q : Nat}, rd_ds K L n p c = some q → q < p ∧ K q = 2 ∧ L q = n := by
  intro p
  induction p with
  | zero => intro c q h; rw [rd_ds_z] at h; cases h
  | succ p ih =>
    intro c q h
    rw [rd_ds] at h
    split at h
    · obtain ⟨a, b⟩ := ih h; exact ⟨by omega, b⟩
    · split at h
      · obtain ⟨a, b⟩ := ih h; exact ⟨by omega, b⟩
      · split at h
        · rename_i hh
          cases h
          exact ⟨Nat.lt_succ_self _, hh.1, hh.2.2⟩
        · obtain ⟨a, b⟩ := ih h; exact ⟨by omega, b⟩
theorem rd_ds_cg {K K' L L' : Nat → Int32} {n : Int32} : ∀ (p c : Nat), (∀ q, q < p → K q = K' q) → (∀ q, q < p → L q = L' q) → rd_ds K L n p c = rd_ds K' L' n p c := by
  intro p
  induction p with
  | zero => intro c _ _; rw [rd_ds_z, rd_ds_z]
  | succ p ih =>
    intro c h g
    have h' : ∀ q, q < p → K q = K' q := fun q hq => h q (by omega)
    have g' : ∀ q, q < p → L q = L' q := fun q hq => g q (by omega)
    rw [rd_ds, rd_ds, h p (Nat.lt_succ_self p), g p (Nat.lt_succ_self p), ih (c - 1) h' g', ih (c + 1) h' g', ih c h' g']
/-- the least place that lies behind the beginning of the block -/
def rd_lo : Option Nat → Nat
  | none => 0
  | some q => q + 1
theorem rd_ar_lo {K : Nat → Int32} {p c : Nat} : rd_lo (rd_ar K p c) ≤ p := by
  cases e : rd_ar K p c with
  | none => exact Nat.zero_le p
  | some b => exact rd_ar_lt e
/-- the last declaration of n directly in block b before place p -/
def rd_la (K L : Nat → Int32) (n : Int32) (b : Option Nat) : Nat → Option Nat
  | 0 => none
  | p + 1 => if p < rd_lo b then none else if K p = 2 ∧ L p = n ∧ rd_ar K p 0 = b then some p else rd_la K L n b p
theorem rd_la_skip {K L : Nat → Int32} {n : Int32} {b : Option Nat} {p : Nat} (h : rd_lo b ≤ p) (hc : ¬ (K p = 2 ∧ L p = n ∧ rd_ar K p 0 = b)) : rd_la K L n b (p + 1) = rd_la K L n b p := by
  rw [rd_la, if_neg (Nat.not_lt.mpr h), if_neg hc]
theorem rd_la_hit {K L : Nat → Int32} {n : Int32} {b : Option Nat} {p : Nat} (h : rd_lo b ≤ p) (hc : K p = 2 ∧ L p = n ∧ rd_ar K p 0 = b) : rd_la K L n b (p + 1) = some p := by
  rw [rd_la, if_neg (Nat.not_lt.mpr h), if_pos hc]
theorem rd_la_end {K L : Nat → Int32} {n : Int32} {b : Option Nat} {p : Nat} (h : p < rd_lo b) : rd_la K L n b (p + 1) = none := by
  rw [rd_la, if_pos h]
theorem rd_la_lt {K L : Nat → Int32} {n : Int32} {b : Option Nat} : ∀ {p q : Nat}, rd_la K L n b p = some q → q < p := by
  intro p
  induction p with
  | zero => intro q h; rw [rd_la] at h; cases h
  | succ p ih =>
    intro q h
    rw [rd_la] at h
    split at h
    · cases h
    · split at h
      · cases h; omega
      · have := ih h; omega
/-- the search outwards, block by block, with fuel -/
def rd_bi (K L : Nat → Int32) (n : Int32) (u : Nat) : Nat → Option Nat → Option Nat
  | 0, _ => none
  | f + 1, b => (rd_la K L n b u).or (b.bind (fun q => rd_bi K L n u f (rd_ar K q 0)))
def rd_st (K L : Nat → Int32) (n : Int32) (b : Option Nat) (p : Nat) : Option Nat := (rd_la K L n b p).or (b.bind (fun q => rd_ds K L n q 0))
theorem rd_st_e {K L : Nat → Int32} {n : Int32} {b : Option Nat} {p r : Nat} (h : rd_la K L n b p = rd_la K L n b r) : rd_st K L n b p = rd_st K L n b r := by
  rw [rd_st, rd_st, h]
theorem rd_ds_st {K L : Nat → Int32} {n : Int32} : ∀ {p : Nat}, rd_nest K p → ∀ c : Nat, (c : Int) ≤ rd_dep K p → rd_ds K L n p c = rd_st K L n (rd_ar K p c) p := by
  intro p
  induction p with
  | zero => intro _ c _; rw [rd_ds_z, rd_ar_z, rd_st, rd_la] <;> rfl
  | succ p ih =>
    intro hn c hc
    have hn' : rd_nest K p := rd_nest_le hn (Nat.le_succ p)
    have hd : rd_dep K (p + 1) = rd_dep K p + rd_w (K p) := rfl
    by_cases h1 : K p = 1
    · rw [rd_w1 h1] at hd
      rw [rd_ds_1 h1, rd_ar_1 h1, ih hn' (c + 1) (by omega)]
      exact (rd_st_e (rd_la_skip rd_ar_lo (fun z => by rw [h1] at z; exact absurd z.1 (by decide)))).symm
    · by_cases h0 : K p = 0
      · rw [rd_w0 h0] at hd
        cases c with
        | zero =>
          rw [rd_ds_0 h0, rd_ar_0 h0, rd_st, rd_la_end (b := some p) (Nat.lt_succ_self p)] <;> rfl
        | succ c =>
          rw [rd_ds_0 h0, rd_ar_0s h0, Nat.add_sub_cancel, ih hn' c (by omega)]
          exact (rd_st_e (rd_la_skip rd_ar_lo (fun z => by rw [h0] at z; exact absurd z.1 (by decide)))).symm
      · rw [rd_w2 h0 h1] at hd
        rw [rd_ar_2 h0 h1]
        by_cases hh : K p = 2 ∧ c = 0 ∧ L p = n
        · obtain ⟨h2, rfl, hl⟩ := hh
          rw [rd_ds_h h2 hl, rd_st, rd_la_hit (K := K) (L := L) (n := n) (b := rd_ar K p 0) (p := p) rd_ar_lo ⟨h2, hl, rfl⟩] <;> rfl
        · rw [rd_ds_n h0 h1 hh, ih hn' c (by omega)]
          refine (rd_st_e (rd_la_skip rd_ar_lo (fun z => hh ⟨z.1, ?_, z.2.1⟩))).symm
          apply Nat.eq_zero_of_not_pos
          intro hpos
          cases e : rd_ar K p c with
          | none =>
            have e0 : rd_ar K p 0 = none := z.2.2.trans e
            have := (rd_ar_none hn' 0).mp e0
            omega
          | some r =>
            obtain ⟨q, hq, _, hlt⟩ := rd_ar_ge e
            have := hlt hpos
            rw [z.2.2, e] at hq
            cases hq
            omega
theorem rd_la_up {K L : Nat → Int32} {n : Int32} {b : Option Nat} {p : Nat} (hl : rd_lo b ≤ p) : ∀ u, p ≤ u → (∀ q, p ≤ q → q < u → K q = 2 → rd_ar K q 0 ≠ b) → rd_la K L n b u = rd_la K L n b p := by
  intro u
  induction u with
  | zero =>
    intro h _
    have e : p = 0 := by omega
    rw [e]
  | succ u ih =>
    intro h H
    by_cases e : p = u + 1
    · rw [e]
    · have hu : p ≤ u := by omega
      rw [rd_la_skip (Nat.le_trans hl hu) (fun z => H u hu (Nat.lt_succ_self u) z.1 z.2.2)]
      exact ih hu (fun q h1 h2 => H q h1 (by omega))
theorem rd_main {K L : Nat → Int32} {n : Int32} {u : Nat} (hn : rd_nest K u) : ∀ f p, p < f → p ≤ u → (∀ q, p ≤ q → q < u → K q = 2 → ∀ c, rd_ar K q 0 ≠ rd_ar K p c) → rd_bi K L n u f (rd_ar K p 0) = rd_ds K L n p 0 := by
  intro f
  induction f with
  | zero => intro p h; exact absurd h (Nat.not_lt_zero p)
  | succ f ih =>
    intro p hf hp H
    have hn' : rd_nest K p := rd_nest_le hn hp
    have hp0 := hn' p (Nat.le_refl p)
    rw [rd_ds_st hn' 0 (by omega), rd_bi, rd_st, rd_la_up (K := K) (L := L) (n := n) (b := rd_ar K p 0) (p := p) rd_ar_lo u hp (fun q h1 h2 h3 => H q h1 h2 h3 0)]
    cases e : rd_ar K p 0 with
    | none => exact rfl
    | some b =>
      have hb := rd_ar_lt e
      have ho := rd_ar_op e
      have IH := ih b (by omega) (by omega) (fun q h1 h2 h3 c => by
        by_cases hq : p ≤ q
        · rw [rd_ar_sh e c]
          exact H q hq h2 h3 (c + 1)
        · have hbq : b ≠ q := fun z => by
            rw [← z, ho] at h3
            exact absurd h3 (by decide)
          obtain ⟨c', hc'⟩ := rd_ar_thru e q (by omega) (by omega)
          obtain ⟨r, hr, hbr, _⟩ := rd_ar_ge hc'
          intro z
          rw [hr] at z
          have := rd_ar_lt z.symm
          omega)
      show Option.or _ (rd_bi K L n u f (rd_ar K b 0)) = Option.or _ (rd_ds K L n b 0)
      rw [IH]
theorem rd_bind {K L : Nat → Int32} {n : Int32} {u : Nat} (hn : rd_nest K u) (hu : u < 29) : rd_bi K L n u 29 (rd_ar K u 0) = rd_ds K L n u 0 :=
  rd_main hn 29 u hu (Nat.le_refl u) (fun q h1 h2 => absurd h2 (by omega))
