section
/-! the pure picture: blocks, the search outwards for a declaration, and that both searches find the same one -/
/-- what a token does to the number of blocks -/
def rd_w (x : Int32) : Int := if x = 0 then 1 else if x = 1 then -1 else 0
theorem rd_w0 {x : Int32} (h : x = 0) : rd_w x = 1 := by rw [rd_w, if_pos h]
theorem rd_w1 {x : Int32} (h : x = 1) : rd_w x = -1 := by rw [rd_w, if_neg (by rw [h]; decide), if_pos h]
theorem rd_w2 {x : Int32} (h0 : ¬ x = 0) (h1 : ¬ x = 1) : rd_w x = 0 := by rw [rd_w, if_neg h0, if_neg h1]
/-- the number of blocks begun and not ended before place p -/
def rd_dep (K : Nat → Int32) : Nat → Int
  | 0 => 0
  | p + 1 => rd_dep K p + rd_w (K p)
def rd_nest (K : Nat → Int32) (c : Nat) : Prop := ∀ p, p ≤ c → 0 ≤ rd_dep K p
theorem rd_nest_le {K : Nat → Int32} {c d : Nat} (h : rd_nest K c) (hd : d ≤ c) : rd_nest K d := fun p hp => h p (Nat.le_trans hp hd)
theorem rd_dep_le {K : Nat → Int32} : ∀ p : Nat, rd_dep K p ≤ p := by
  intro p
  induction p with
  | zero => exact Int.le_refl 0
  | succ p ih =>
    have hd : rd_dep K (p + 1) = rd_dep K p + rd_w (K p) := rfl
    have hw : rd_w (K p) ≤ 1 := by
      unfold rd_w
      split
      · omega
      · split <;> omega
    omega
theorem rd_dep_cg {K K' : Nat → Int32} : ∀ p : Nat, (∀ q, q < p → K q = K' q) → rd_dep K p = rd_dep K' p := by
  intro p
  induction p with
  | zero => intro _; rfl
  | succ p ih =>
    intro h
    show rd_dep K p + rd_w (K p) = rd_dep K' p + rd_w (K' p)
    rw [ih (fun q hq => h q (by omega)), h p (Nat.lt_succ_self p)]
/-- where the block around place p begins, c blocks further out -/
def rd_ar (K : Nat → Int32) : Nat → Nat → Option Nat
  | 0, _ => none
  | p + 1, c => if K p = 0 then (if c = 0 then some p else rd_ar K p (c - 1)) else if K p = 1 then rd_ar K p (c + 1) else rd_ar K p c
theorem rd_ar_0 {K : Nat → Int32} {p : Nat} (h : K p = 0) : rd_ar K (p + 1) 0 = some p := by
  rw [rd_ar, if_pos h, if_pos rfl]
theorem rd_ar_0s {K : Nat → Int32} {p c : Nat} (h : K p = 0) : rd_ar K (p + 1) (c + 1) = rd_ar K p c := by
  rw [rd_ar, if_pos h, if_neg (Nat.succ_ne_zero c), Nat.add_sub_cancel]
theorem rd_ar_1 {K : Nat → Int32} {p c : Nat} (h : K p = 1) : rd_ar K (p + 1) c = rd_ar K p (c + 1) := by
  rw [rd_ar, if_neg (by rw [h]; decide), if_pos h]
theorem rd_ar_2 {K : Nat → Int32} {p c : Nat} (h0 : ¬ K p = 0) (h1 : ¬ K p = 1) : rd_ar K (p + 1) c = rd_ar K p c := by
  rw [rd_ar, if_neg h0, if_neg h1]
theorem rd_ar_z {K : Nat → Int32} {c : Nat} : rd_ar K 0 c = none := by rw [rd_ar]
theorem rd_ar_lt {K : Nat → Int32} : ∀ {p c b : Nat}, rd_ar K p c = some b → b < p := by
  intro p
  induction p with
  | zero => intro c b h; rw [rd_ar_z] at h; cases h
  | succ p ih =>
    intro c b h
    rw [rd_ar] at h
    split at h
    · split at h
      · cases h; omega
      · have := ih h; omega
    · split at h
      · have := ih h; omega
      · have := ih h; omega
theorem rd_ar_op {K : Nat → Int32} : ∀ {p c b : Nat}, rd_ar K p c = some b → K b = 0 := by
  intro p
  induction p with
  | zero => intro c b h; rw [rd_ar_z] at h; cases h
  | succ p ih =>
    intro c b h
    rw [rd_ar] at h
    split at h
    · rename_i h0
      split at h
      · cases h; exact h0
      · exact ih h
    · split at h
      · exact ih h
      · exact ih h
theorem rd_ar_cg {K K' : Nat → Int32} : ∀ (p c : Nat), (∀ q, q < p → K q = K' q) → rd_ar K p c = rd_ar K' p c := by
  intro p
  induction p with
  | zero => intro c _; rw [rd_ar_z, rd_ar_z]
  | succ p ih =>
    intro c h
    have h' : ∀ q, q < p → K q = K' q := fun q hq => h q (by omega)
    rw [rd_ar, rd_ar, h p (Nat.lt_succ_self p), ih (c - 1) h', ih (c + 1) h', ih c h']
theorem rd_ar_ch {K : Nat → Int32} : ∀ (p c : Nat), rd_ar K p (c + 1) = (rd_ar K p c).bind (fun b => rd_ar K b 0) := by
  intro p
  induction p with
  | zero => intro c; rw [rd_ar_z, rd_ar_z] <;> rfl
  | succ p ih =>
    intro c
    by_cases h0 : K p = 0
    · cases c with
      | zero => rw [rd_ar_0s h0, rd_ar_0 h0] <;> rfl
      | succ c => rw [rd_ar_0s h0, rd_ar_0s h0]; exact ih c
    · by_cases h1 : K p = 1
      · rw [rd_ar_1 h1, rd_ar_1 h1]; exact ih (c + 1)
      · rw [rd_ar_2 h0 h1, rd_ar_2 h0 h1]; exact ih c
theorem rd_ar_none {K : Nat → Int32} : ∀ {p : Nat}, rd_nest K p → ∀ c : Nat, rd_ar K p c = none ↔ rd_dep K p ≤ c := by
  intro p
  induction p with
  | zero => exact fun _ c => ⟨fun _ => (by omega : (0 : Int) ≤ (c : Int)), fun _ => rd_ar_z⟩
  | succ p ih =>
    intro hn c
    have hn' : rd_nest K p := rd_nest_le hn (Nat.le_succ p)
    have hp := hn' p (Nat.le_refl p)
    have hd : rd_dep K (p + 1) = rd_dep K p + rd_w (K p) := rfl
    by_cases h0 : K p = 0
    · rw [rd_w0 h0] at hd
      cases c with
      | zero =>
        rw [rd_ar_0 h0]
        constructor
        · intro z; cases z
        · intro z; omega
      | succ c => rw [rd_ar_0s h0, ih hn' c]; omega
    · by_cases h1 : K p = 1
      · rw [rd_w1 h1] at hd
        rw [rd_ar_1 h1, ih hn' (c + 1)]; omega
      · rw [rd_w2 h0 h1] at hd
        rw [rd_ar_2 h0 h1, ih hn' c]; omega
theorem rd_ar_dep {K : Nat → Int32} : ∀ {p c b : Nat}, rd_ar K p c = some b → rd_dep K p = rd_dep K b + 1 + c := by
  intro p
  induction p with
  | zero => intro c b h; rw [rd_ar_z] at h; cases h
  | succ p ih =>
    intro c b h
    have hd : rd_dep K (p + 1) = rd_dep K p + rd_w (K p) := rfl
    by_cases h0 : K p = 0
    · rw [rd_w0 h0] at hd
      cases c with
      | zero => rw [rd_ar_0 h0] at h; cases h; omega
      | succ c => rw [rd_ar_0s h0] at h; have := ih h; omega
    · by_cases h1 : K p = 1
      · rw [rd_w1 h1] at hd
        rw [rd_ar_1 h1] at h; have := ih h; omega
      · rw [rd_w2 h0 h1] at hd
        rw [rd_ar_2 h0 h1] at h; have := ih h; omega
theorem rd_ar_thru {K : Nat → Int32} : ∀ {u c b : Nat}, rd_ar K u c = some b → ∀ p, b < p → p ≤ u → ∃ c', rd_ar K p c' = some b := by
  intro u
  induction u with
  | zero => intro c b h; rw [rd_ar_z] at h; cases h
  | succ u ih =>
    intro c b h p hb hp
    by_cases e : p = u + 1
    · subst e; exact ⟨c, h⟩
    · have hp' : p ≤ u := by omega
      rw [rd_ar] at h
      split at h
      · split at h
        · cases h; omega
        · exact ih h p hb hp'
      · split at h
        · exact ih h p hb hp'
        · exact ih h p hb hp'
theorem rd_ar_ge {K : Nat → Int32} {p : Nat} : ∀ {c b : Nat}, rd_ar K p c = some b → ∃ q, rd_ar K p 0 = some q ∧ b ≤ q ∧ (0 < c → b < q) := by
  intro c
  induction c with
  | zero => intro b h; exact ⟨b, h, Nat.le_refl b, fun z => absurd z (Nat.lt_irrefl 0)⟩
  | succ c ih =>
    intro b h
    rw [rd_ar_ch] at h
    cases e : rd_ar K p c with
    | none =>
      rw [e] at h
      have h2 : (none : Option Nat) = some b := h
      cases h2
    | some r =>
      rw [e] at h
      have h2 : rd_ar K r 0 = some b := h
      have hl := rd_ar_lt h2
      obtain ⟨q, hq, hb, _⟩ := ih e
      exact ⟨q, hq, by omega, fun _ => by omega⟩
theorem rd_ar_sh {K : Nat → Int32} {p b : Nat} (e : rd_ar K p 0 = some b) : ∀ c, rd_ar K b c = rd_ar K p (c + 1) := by
  intro c
  induction c with
  | zero =>
    have h := rd_ar_ch (K := K) p 0
    rw [e] at h
    exact h.symm
  | succ c ih => rw [rd_ar_ch b c, rd_ar_ch p (c + 1), ih]
/-- the scan backwards for a declaration of n, past c closed blocks -/
def rd_ds (K L : Nat → Int32) (n : Int32) : Nat → Nat → Option Nat
  | 0, _ => none
  | p + 1, c => if K p = 1 then rd_ds K L n p (c + 1) else if K p = 0 then rd_ds K L n p (c - 1) else if K p = 2 ∧ c = 0 ∧ L p = n then some p else rd_ds K L n p c
theorem rd_ds_z {K L : Nat → Int32} {n : Int32} {c : Nat} : rd_ds K L n 0 c = none := by rw [rd_ds]
theorem rd_ds_1 {K L : Nat → Int32} {n : Int32} {p c : Nat} (h : K p = 1) : rd_ds K L n (p + 1) c = rd_ds K L n p (c + 1) := by
  rw [rd_ds, if_pos h]
theorem rd_ds_0 {K L : Nat → Int32} {n : Int32} {p c : Nat} (h : K p = 0) : rd_ds K L n (p + 1) c = rd_ds K L n p (c - 1) := by
  rw [rd_ds, if_neg (by rw [h]; decide), if_pos h]
theorem rd_ds_h {K L : Nat → Int32} {n : Int32} {p : Nat} (h : K p = 2) (hl : L p = n) : rd_ds K L n (p + 1) 0 = some p := by
  rw [rd_ds, if_neg (by rw [h]; decide), if_neg (by rw [h]; decide), if_pos ⟨h, rfl, hl⟩]
theorem rd_ds_n {K L : Nat → Int32} {n : Int32} {p c : Nat} (h0 : ¬ K p = 0) (h1 : ¬ K p = 1) (hh : ¬ (K p = 2 ∧ c = 0 ∧ L p = n)) : rd_ds K L n (p + 1) c = rd_ds K L n p c := by
  rw [rd_ds, if_neg h1, if_neg h0, if_neg hh]
theorem rd_ds_some {K L : Nat → Int32} {n : Int32} : ∀ {p c q : Nat}, rd_ds K L n p c = some q → q < p ∧ K q = 2 ∧ L q = n := by
  intro p
  induction p with
  | zero => intro c q h; rw [rd_ds_z] at h; cases h
  | succ p ih =>
    intro c q h
    rw [rd_ds] at h
    split at h
    · obtain ⟨a, b⟩ := ih h; exact ⟨by omega, b⟩
    · split at h
      · obtain ⟨a, b⟩ := ih h; exact ⟨by omega, b⟩
      · split at h
        · rename_i hh
          cases h
          exact ⟨Nat.lt_succ_self _, hh.1, hh.2.2⟩
        · obtain ⟨a, b⟩ := ih h; exact ⟨by omega, b⟩
theorem rd_ds_cg {K K' L L' : Nat → Int32} {n : Int32} : ∀ (p c : Nat), (∀ q, q < p → K q = K' q) → (∀ q, q < p → L q = L' q) → rd_ds K L n p c = rd_ds K' L' n p c := by
  intro p
  induction p with
  | zero => intro c _ _; rw [rd_ds_z, rd_ds_z]
  | succ p ih =>
    intro c h g
    have h' : ∀ q, q < p → K q = K' q := fun q hq => h q (by omega)
    have g' : ∀ q, q < p → L q = L' q := fun q hq => g q (by omega)
    rw [rd_ds, rd_ds, h p (Nat.lt_succ_self p), g p (Nat.lt_succ_self p), ih (c - 1) h' g', ih (c + 1) h' g', ih c h' g']
/-- the least place that lies behind the beginning of the block -/
def rd_lo : Option Nat → Nat
  | none => 0
  | some q => q + 1
theorem rd_ar_lo {K : Nat → Int32} {p c : Nat} : rd_lo (rd_ar K p c) ≤ p := by
  cases e : rd_ar K p c with
  | none => exact Nat.zero_le p
  | some b => exact rd_ar_lt e
/-- the last declaration of n directly in block b before place p -/
def rd_la (K L : Nat → Int32) (n : Int32) (b : Option Nat) : Nat → Option Nat
  | 0 => none
  | p + 1 => if p < rd_lo b then none else if K p = 2 ∧ L p = n ∧ rd_ar K p 0 = b then some p else rd_la K L n b p
theorem rd_la_skip {K L : Nat → Int32} {n : Int32} {b : Option Nat} {p : Nat} (h : rd_lo b ≤ p) (hc : ¬ (K p = 2 ∧ L p = n ∧ rd_ar K p 0 = b)) : rd_la K L n b (p + 1) = rd_la K L n b p := by
  rw [rd_la, if_neg (Nat.not_lt.mpr h), if_neg hc]
theorem rd_la_hit {K L : Nat → Int32} {n : Int32} {b : Option Nat} {p : Nat} (h : rd_lo b ≤ p) (hc : K p = 2 ∧ L p = n ∧ rd_ar K p 0 = b) : rd_la K L n b (p + 1) = some p := by
  rw [rd_la, if_neg (Nat.not_lt.mpr h), if_pos hc]
theorem rd_la_end {K L : Nat → Int32} {n : Int32} {b : Option Nat} {p : Nat} (h : p < rd_lo b) : rd_la K L n b (p + 1) = none := by
  rw [rd_la, if_pos h]
theorem rd_la_lt {K L : Nat → Int32} {n : Int32} {b : Option Nat} : ∀ {p q : Nat}, rd_la K L n b p = some q → q < p := by
  intro p
  induction p with
  | zero => intro q h; rw [rd_la] at h; cases h
  | succ p ih =>
    intro q h
    rw [rd_la] at h
    split at h
    · cases h
    · split at h
      · cases h; omega
      · have := ih h; omega
/-- the search outwards, block by block, with fuel -/
def rd_bi (K L : Nat → Int32) (n : Int32) (u : Nat) : Nat → Option Nat → Option Nat
  | 0, _ => none
  | f + 1, b => (rd_la K L n b u).or (b.bind (fun q => rd_bi K L n u f (rd_ar K q 0)))
def rd_st (K L : Nat → Int32) (n : Int32) (b : Option Nat) (p : Nat) : Option Nat := (rd_la K L n b p).or (b.bind (fun q => rd_ds K L n q 0))
theorem rd_st_e {K L : Nat → Int32} {n : Int32} {b : Option Nat} {p r : Nat} (h : rd_la K L n b p = rd_la K L n b r) : rd_st K L n b p = rd_st K L n b r := by
  rw [rd_st, rd_st, h]
theorem rd_ds_st {K L : Nat → Int32} {n : Int32} : ∀ {p : Nat}, rd_nest K p → ∀ c : Nat, (c : Int) ≤ rd_dep K p → rd_ds K L n p c = rd_st K L n (rd_ar K p c) p := by
  intro p
  induction p with
  | zero => intro _ c _; rw [rd_ds_z, rd_ar_z, rd_st, rd_la] <;> rfl
  | succ p ih =>
    intro hn c hc
    have hn' : rd_nest K p := rd_nest_le hn (Nat.le_succ p)
    have hd : rd_dep K (p + 1) = rd_dep K p + rd_w (K p) := rfl
    by_cases h1 : K p = 1
    · rw [rd_w1 h1] at hd
      rw [rd_ds_1 h1, rd_ar_1 h1, ih hn' (c + 1) (by omega)]
      exact (rd_st_e (rd_la_skip rd_ar_lo (fun z => by rw [h1] at z; exact absurd z.1 (by decide)))).symm
    · by_cases h0 : K p = 0
      · rw [rd_w0 h0] at hd
        cases c with
        | zero =>
          rw [rd_ds_0 h0, rd_ar_0 h0, rd_st, rd_la_end (b := some p) (Nat.lt_succ_self p)] <;> rfl
        | succ c =>
          rw [rd_ds_0 h0, rd_ar_0s h0, Nat.add_sub_cancel, ih hn' c (by omega)]
          exact (rd_st_e (rd_la_skip rd_ar_lo (fun z => by rw [h0] at z; exact absurd z.1 (by decide)))).symm
      · rw [rd_w2 h0 h1] at hd
        rw [rd_ar_2 h0 h1]
        by_cases hh : K p = 2 ∧ c = 0 ∧ L p = n
        · obtain ⟨h2, rfl, hl⟩ := hh
          rw [rd_ds_h h2 hl, rd_st, rd_la_hit (K := K) (L := L) (n := n) (b := rd_ar K p 0) (p := p) rd_ar_lo ⟨h2, hl, rfl⟩] <;> rfl
        · rw [rd_ds_n h0 h1 hh, ih hn' c (by omega)]
          refine (rd_st_e (rd_la_skip rd_ar_lo (fun z => hh ⟨z.1, ?_, z.2.1⟩))).symm
          apply Nat.eq_zero_of_not_pos
          intro hpos
          cases e : rd_ar K p c with
          | none =>
            have e0 : rd_ar K p 0 = none := z.2.2.trans e
            have := (rd_ar_none hn' 0).mp e0
            omega
          | some r =>
            obtain ⟨q, hq, _, hlt⟩ := rd_ar_ge e
            have := hlt hpos
            rw [z.2.2, e] at hq
            cases hq
            omega
theorem rd_la_up {K L : Nat → Int32} {n : Int32} {b : Option Nat} {p : Nat} (hl : rd_lo b ≤ p) : ∀ u, p ≤ u → (∀ q, p ≤ q → q < u → K q = 2 → rd_ar K q 0 ≠ b) → rd_la K L n b u = rd_la K L n b p := by
  intro u
  induction u with
  | zero =>
    intro h _
    have e : p = 0 := by omega
    rw [e]
  | succ u ih =>
    intro h H
    by_cases e : p = u + 1
    · rw [e]
    · have hu : p ≤ u := by omega
      rw [rd_la_skip (Nat.le_trans hl hu) (fun z => H u hu (Nat.lt_succ_self u) z.1 z.2.2)]
      exact ih hu (fun q h1 h2 => H q h1 (by omega))
theorem rd_main {K L : Nat → Int32} {n : Int32} {u : Nat} (hn : rd_nest K u) : ∀ f p, p < f → p ≤ u → (∀ q, p ≤ q → q < u → K q = 2 → ∀ c, rd_ar K q 0 ≠ rd_ar K p c) → rd_bi K L n u f (rd_ar K p 0) = rd_ds K L n p 0 := by
  intro f
  induction f with
  | zero => intro p h; exact absurd h (Nat.not_lt_zero p)
  | succ f ih =>
    intro p hf hp H
    have hn' : rd_nest K p := rd_nest_le hn hp
    have hp0 := hn' p (Nat.le_refl p)
    rw [rd_ds_st hn' 0 (by omega), rd_bi, rd_st, rd_la_up (K := K) (L := L) (n := n) (b := rd_ar K p 0) (p := p) rd_ar_lo u hp (fun q h1 h2 h3 => H q h1 h2 h3 0)]
    cases e : rd_ar K p 0 with
    | none => exact rfl
    | some b =>
      have hb := rd_ar_lt e
      have ho := rd_ar_op e
      have IH := ih b (by omega) (by omega) (fun q h1 h2 h3 c => by
        by_cases hq : p ≤ q
        · rw [rd_ar_sh e c]
          exact H q hq h2 h3 (c + 1)
        · have hbq : b ≠ q := fun z => by
            rw [← z, ho] at h3
            exact absurd h3 (by decide)
          obtain ⟨c', hc'⟩ := rd_ar_thru e q (by omega) (by omega)
          obtain ⟨r, hr, hbr, _⟩ := rd_ar_ge hc'
          intro z
          rw [hr] at z
          have := rd_ar_lt z.symm
          omega)
      show Option.or _ (rd_bi K L n u f (rd_ar K b 0)) = Option.or _ (rd_ds K L n b 0)
      rw [IH]
theorem rd_bind {K L : Nat → Int32} {n : Int32} {u : Nat} (hn : rd_nest K u) (hu : u < 29) : rd_bi K L n u 29 (rd_ar K u 0) = rd_ds K L n u 0 :=
  rd_main hn 29 u hu (Nat.le_refl u) (fun q h1 h2 => absurd h2 (by omega))
end
section
/-! rows taken from kit/rows: stores, numbers, branches, bits -/
theorem pk_us {f : Nat → Int32} {k : Nat} {x : Int32} : upd f k x k = x := if_pos rfl
theorem pk_un {f : Nat → Int32} {k j : Nat} {x : Int32} (h : j ≠ k) : upd f k x j = f j := if_neg h
theorem pk_sub {a b : Nat} (h : b ≤ a) : nI a - nI b = nI (a - b) := by
  obtain ⟨c, rfl⟩ : ∃ c, a = c + b := ⟨a - b, by omega⟩
  rw [← nI_add, Int32.add_sub_cancel, Nat.add_sub_cancel]
theorem pk_m1 (n : Nat) : nI (n + 1) + (-1) = nI n := by
  rw [← nI_1, Int32.add_assoc, show (1 : Int32) + (-1) = 0 from rfl, Int32.add_zero]
theorem pk_ix (x : Int32) {n : Nat} (hn : n < 2 ^ 31) : x < 0 ∨ nI n ≤ x ∨ ∃ j : Nat, j < n ∧ x = nI j := by
  by_cases h : x < 0
  · exact Or.inl h
  · obtain ⟨j, hj, rfl⟩ := nI_of h
    by_cases h2 : j < n
    · exact Or.inr (Or.inr ⟨j, h2, rfl⟩)
    · exact Or.inr (Or.inl (nI_le (by omega) hj))
theorem pk_le {x y : Int32} {A B : Prop} (a b : Nat) (f : a ≤ b → A) (g : b < a → B) (hx : x = nI a := by rfl) (hy : y = nI b := by rfl) (ha : a < 2 ^ 31 := by omega) (hb : b < 2 ^ 31 := by omega) : (x ≤ y → A) ∧ (¬ x ≤ y → B) := by
  subst hx hy
  rw [nI_leI ha hb]
  exact ⟨f, fun z => g (by omega)⟩
theorem pk_lt {x y : Int32} {A B : Prop} (a b : Nat) (f : a < b → A) (g : b ≤ a → B) (hx : x = nI a := by rfl) (hy : y = nI b := by rfl) (ha : a < 2 ^ 31 := by omega) (hb : b < 2 ^ 31 := by omega) : (x < y → A) ∧ (¬ x < y → B) := by
  subst hx hy
  rw [nI_ltI ha hb]
  exact ⟨f, fun z => g (by omega)⟩
theorem pk_eq {x y : Int32} {A B : Prop} (a b : Nat) (f : a = b → A) (g : a ≠ b → B) (hx : x = nI a := by rfl) (hy : y = nI b := by rfl) (ha : a < 2 ^ 31 := by omega) (hb : b < 2 ^ 31 := by omega) : (x = y → A) ∧ (¬ x = y → B) := by
  subst hx hy
  rw [nI_eq ha hb]
  exact ⟨f, g⟩
theorem pk_in {x : Int32} (n N : Nat) (h : n < N) (hx : x = nI n := by rfl) (hN : N < 2 ^ 31 := by omega) : vp_in x N := by
  subst hx
  exact vp_in_nI h hN
theorem pk_cl {x : Int32} (n : Nat) (hx : x = nI n := by rfl) (h : n < 2 ^ 31 := by omega) : x.toNatClampNeg = n := by
  subst hx
  exact nI_clamp h
theorem ek_if {c d A B : Prop} (e : c ↔ d) (f : d → A) (g : ¬ d → B) : (c → A) ∧ (¬ c → B) :=
  ⟨fun z => f (e.mp z), fun z => g (fun y => z (e.mpr y))⟩
theorem ek_v {α : Sort _} {P : α → Prop} {a b : α} (e : a = b) (h : P b) : P a := e ▸ h
def bt (x : Int32) (i : Nat) : Bool := x.toBitVec.getLsbD i
theorem b_or (x y : Int32) (i : Nat) : bt (x ||| y) i = (bt x i || bt y i) := by unfold bt; rw [Int32.toBitVec_or, BitVec.getLsbD_or]
theorem b_and (x y : Int32) (i : Nat) : bt (x &&& y) i = (bt x i && bt y i) := by unfold bt; rw [Int32.toBitVec_and, BitVec.getLsbD_and]
theorem b_0 (i : Nat) : bt 0 i = false := BitVec.getLsbD_zero
theorem nf_sh : ∀ l, l < 32 → ((1 : Int32) <<< (nI l &&& 31)).toBitVec = BitVec.twoPow 32 l := by decide +kernel
theorem nf_tp : ∀ l, l < 32 → BitVec.twoPow 32 l ≠ 0#32 := by decide +kernel
/-! answers, masks, counts, and the changed program -/
def rd_op : Option Nat → Int32
  | none => -1
  | some q => nI q
theorem rd_nm1 {q : Nat} (h : q < 2 ^ 31) : ¬ nI q = -1 := fun z => absurd (nI_pos' h) (by rw [z]; decide)
theorem rd_op_m1 {o : Option Nat} (h : ∀ q, o = some q → q < 2 ^ 31) : rd_op o = -1 ↔ o = none := by
  cases o with
  | none => exact ⟨fun _ => rfl, fun _ => rfl⟩
  | some q => exact ⟨fun z => absurd z (rd_nm1 (h q rfl)), fun z => nomatch z⟩
theorem rd_op_lt0 {o : Option Nat} (h : ∀ q, o = some q → q < 2 ^ 31) : rd_op o < 0 ↔ o = none := by
  cases o with
  | none => exact ⟨fun _ => rfl, fun _ => (by decide : (-1 : Int32) < 0)⟩
  | some q => exact ⟨fun z => absurd z (nI_pos (h q rfl)), fun z => nomatch z⟩
theorem rd_op_k {o : Option Nat} (h : ∀ q, o = some q → q < 2 ^ 31) {k : Nat} (hk : k < 2 ^ 31) : rd_op o = nI k ↔ o = some k := by
  cases o with
  | none => exact ⟨fun z => absurd z.symm (rd_nm1 hk), fun z => nomatch z⟩
  | some q =>
    show nI q = nI k ↔ _
    rw [nI_eq (h q rfl) hk]
    exact ⟨fun z => by rw [z], fun z => Option.some.inj z⟩
theorem rd_op_inj {o o' : Option Nat} (h : ∀ q, o = some q → q < 2 ^ 31) (h' : ∀ q, o' = some q → q < 2 ^ 31) : rd_op o = rd_op o' ↔ o = o' := by
  cases o' with
  | none => exact rd_op_m1 h
  | some k => exact rd_op_k h (h' k rfl)
/-- the number before p -/
def rd_pr (p : Nat) : Int32 := nI p + (-1)
theorem rd_pr_s (p : Nat) : rd_pr (p + 1) = nI p := pk_m1 p
theorem rd_pr_0 : rd_pr 0 = -1 := by decide +kernel
theorem rd_pr_d (p : Nat) : rd_pr (p + 1) + (-1) = rd_pr p := congrArg (fun x : Int32 => x + (-1)) (rd_pr_s p)
theorem rd_pr_m (p : Nat) : nI p - 1 = rd_pr p := Int32.sub_eq_add_neg _ _
theorem rd_op_pr (b : Option Nat) : rd_op b = rd_pr (rd_lo b) := by
  cases b with
  | none => exact rd_pr_0.symm
  | some q => exact (rd_pr_s q).symm
theorem rd_pr_i {p : Nat} (h : p < 2 ^ 31) : (rd_pr p).toInt = (p : Int) - 1 := by
  cases p with
  | zero => rw [rd_pr_0]; decide
  | succ p => rw [rd_pr_s, nI_toInt (by omega)]; omega
theorem rd_pr_le {a b : Nat} (ha : a < 2 ^ 31) (hb : b < 2 ^ 31) : rd_pr a ≤ rd_pr b ↔ a ≤ b := by
  rw [Int32.le_iff_toInt_le, rd_pr_i ha, rd_pr_i hb]; omega
theorem rd_pr_lt0 {p : Nat} (h : p < 2 ^ 31) : rd_pr p < 0 ↔ p = 0 := by
  rw [Int32.lt_iff_toInt_lt, rd_pr_i h, show (0 : Int32).toInt = 0 from by decide]; omega
/-- the mask of the places below c at which P holds -/
def rd_ms (P : Nat → Bool) : Nat → Int32
  | 0 => 0
  | j + 1 => if P j = true then rd_ms P j ||| ((1 : Int32) <<< (nI j &&& 31)) else rd_ms P j
theorem rd_ms_t {P : Nat → Bool} {j : Nat} (h : P j = true) : rd_ms P (j + 1) = rd_ms P j ||| ((1 : Int32) <<< (nI j &&& 31)) := if_pos h
theorem rd_ms_f {P : Nat → Bool} {j : Nat} (h : ¬ P j = true) : rd_ms P (j + 1) = rd_ms P j := if_neg h
theorem rd_ms_cg {P Q : Nat → Bool} : ∀ c, (∀ j, j < c → P j = Q j) → rd_ms P c = rd_ms Q c := by
  intro c
  induction c with
  | zero => intro _; rfl
  | succ c ih =>
    intro h
    rw [rd_ms, rd_ms, ih (fun j hj => h j (by omega)), h c (Nat.lt_succ_self c)]
theorem rd_bt1 {j : Nat} (hj : j < 32) (i : Nat) : bt ((1 : Int32) <<< (nI j &&& 31)) i = decide (i = j) := by
  unfold bt
  rw [nf_sh j hj, BitVec.getLsbD_twoPow, decide_eq_true hj, Bool.true_and]
  exact decide_eq_decide.mpr ⟨Eq.symm, Eq.symm⟩
theorem rd_ms_bt {P : Nat → Bool} : ∀ c, c ≤ 32 → ∀ i, bt (rd_ms P c) i = (decide (i < c) && P i) := by
  intro c
  induction c with
  | zero => intro _ i; rw [rd_ms, b_0, decide_eq_false (Nat.not_lt_zero i), Bool.false_and]
  | succ c ih =>
    intro hc i
    have IH := ih (by omega) i
    by_cases e : i = c
    · subst e
      rw [decide_eq_false (Nat.lt_irrefl i), Bool.false_and] at IH
      rw [decide_eq_true (Nat.lt_succ_self i), Bool.true_and]
      by_cases h : P i = true
      · rw [rd_ms_t h, b_or, IH, rd_bt1 (by omega), decide_eq_true (show i = i from rfl), h, Bool.false_or]
      · rw [rd_ms_f h, IH]
        exact (Bool.eq_false_iff.mpr h).symm
    · have e2 : decide (i < c + 1) = decide (i < c) := decide_eq_decide.mpr ⟨fun _ => by omega, fun _ => by omega⟩
      rw [e2]
      by_cases h : P c = true
      · rw [rd_ms_t h, b_or, IH, rd_bt1 (by omega), decide_eq_false e, Bool.or_false]
      · rw [rd_ms_f h, IH]
theorem rd_and0 (x : Int32) {p : Nat} (hp : p < 32) : x &&& ((1 : Int32) <<< (nI p &&& 31)) = 0 ↔ bt x p = false := by
  rw [← Int32.toBitVec_inj, Int32.toBitVec_and, nf_sh p hp, BitVec.and_twoPow]
  show _ = 0#32 ↔ x.toBitVec.getLsbD p = false
  cases hb : x.toBitVec.getLsbD p
  · exact ⟨fun _ => rfl, fun _ => by simp⟩
  · exact ⟨fun z => absurd ((if_pos rfl).symm.trans z) (nf_tp p hp), fun z => nomatch z⟩
theorem rd_tst {P : Nat → Bool} {c k p : Nat} (hc : c ≤ 32) (hk : k < 32) (hp : p < 32) : (rd_ms P c ||| ((1 : Int32) <<< (nI k &&& 31))) &&& ((1 : Int32) <<< (nI p &&& 31)) = 0 ↔ ¬ ((p < c ∧ P p = true) ∨ p = k) := by
  have key : ∀ a b d : Bool, ((a && b) || d) = false ↔ ¬ ((a = true ∧ b = true) ∨ d = true) := by decide
  rw [rd_and0 _ hp, b_or, rd_ms_bt c hc, rd_bt1 hk, key, decide_eq_true_iff, decide_eq_true_iff]
/-- the number of places below c at which P holds -/
def rd_ct (P : Nat → Bool) : Nat → Int32
  | 0 => 0
  | j + 1 => if P j = true then rd_ct P j + 1 else rd_ct P j
theorem rd_ct_t {P : Nat → Bool} {j : Nat} (h : P j = true) : rd_ct P (j + 1) = rd_ct P j + 1 := if_pos h
theorem rd_ct_f {P : Nat → Bool} {j : Nat} (h : ¬ P j = true) : rd_ct P (j + 1) = rd_ct P j := if_neg h
/-- the count of open blocks as both sides keep it -/
def rd_oc (K : Nat → Int32) : Nat → Int32
  | 0 => 0
  | p + 1 => if K p = 0 then rd_oc K p + 1 else if K p = 1 then rd_oc K p - 1 else rd_oc K p
theorem rd_oc_0 {K : Nat → Int32} {p : Nat} (h : K p = 0) : rd_oc K (p + 1) = rd_oc K p + 1 := if_pos h
theorem rd_oc_1 {K : Nat → Int32} {p : Nat} (h : K p = 1) : rd_oc K (p + 1) = rd_oc K p - 1 := by
  rw [rd_oc, if_neg (by rw [h]; decide), if_pos h]
theorem rd_oc_2 {K : Nat → Int32} {p : Nat} (h0 : ¬ K p = 0) (h1 : ¬ K p = 1) : rd_oc K (p + 1) = rd_oc K p := by
  rw [rd_oc, if_neg h0, if_neg h1]
theorem rd_oc_dep {K : Nat → Int32} : ∀ {p : Nat}, rd_nest K p → rd_oc K p = nI (rd_dep K p).toNat := by
  intro p
  induction p with
  | zero => intro _; exact nI_0.symm
  | succ p ih =>
    intro hn
    have hn' : rd_nest K p := rd_nest_le hn (Nat.le_succ p)
    have h1 := hn' p (Nat.le_refl p)
    have h2 := hn (p + 1) (Nat.le_refl _)
    have hd : rd_dep K (p + 1) = rd_dep K p + rd_w (K p) := rfl
    by_cases h0 : K p = 0
    · rw [rd_w0 h0] at hd
      rw [rd_oc_0 h0, ih hn', nI_1]
      exact congrArg nI (by omega)
    · by_cases e1 : K p = 1
      · rw [rd_w1 e1] at hd
        obtain ⟨m, hm⟩ : ∃ m : Nat, (rd_dep K p).toNat = m + 1 := ⟨(rd_dep K p).toNat - 1, by omega⟩
        rw [rd_oc_1 e1, ih hn', hm, nI_pred]
        exact congrArg nI (by omega)
      · rw [rd_w2 h0 e1] at hd
        rw [rd_oc_2 h0 e1, ih hn']
        exact congrArg nI (by omega)
/-- a well formed program of c tokens -/
def rd_ok (K : Nat → Int32) (c : Nat) : Prop := rd_nest K c ∧ ∀ p, p < c → K p = 0 ∨ K p = 1 ∨ K p = 2 ∨ K p = 3
theorem rd_ok_cg {K K' : Nat → Int32} {c : Nat} (h : ∀ p, p < c → K p = K' p) (H : rd_ok K c) : rd_ok K' c :=
  ⟨fun p hp => by rw [← rd_dep_cg p (fun q hq => h q (by omega))]; exact H.1 p hp, fun p hp => by rw [← h p hp]; exact H.2 p hp⟩
theorem rd_ok_z (K : Nat → Int32) : rd_ok K 0 := by
  refine ⟨fun p hp => ?_, fun p hp => absurd hp (Nat.not_lt_zero p)⟩
  have e : p = 0 := by omega
  rw [e]
  exact Int.le_refl 0
theorem rd_ok_drop {K : Nat → Int32} {c : Nat} (H : rd_ok K (c + 1)) : rd_ok K c :=
  ⟨rd_nest_le H.1 (Nat.le_succ c), fun p hp => H.2 p (by omega)⟩
theorem rd_ok_add {K : Nat → Int32} {c : Nat} {x : Int32} (H : rd_ok K c) (hx : x = 0 ∨ x = 1 ∨ x = 2 ∨ x = 3) (h1 : x = 1 → ¬ rd_oc K c = 0) : rd_ok (upd K c x) (c + 1) := by
  have hcg : ∀ p, p ≤ c → rd_dep (upd K c x) p = rd_dep K p := fun p hp => rd_dep_cg p (fun q hq => pk_un (by omega))
  refine ⟨fun p hp => ?_, fun p hp => ?_⟩
  · by_cases e : p = c + 1
    · subst e
      show 0 ≤ rd_dep (upd K c x) c + rd_w (upd K c x c)
      rw [hcg c (Nat.le_refl c), pk_us]
      have hc := H.1 c (Nat.le_refl c)
      rcases hx with e | e | e | e
      · rw [rd_w0 e]; omega
      · rw [rd_w1 e]
        have h2 := h1 e
        rw [rd_oc_dep H.1] at h2
        have h3 : rd_dep K c ≠ 0 := fun z => h2 ((congrArg (fun d : Int => nI d.toNat) z).trans nI_0)
        omega
      · rw [rd_w2 (by rw [e]; decide) (by rw [e]; decide)]; omega
      · rw [rd_w2 (by rw [e]; decide) (by rw [e]; decide)]; omega
    · rw [hcg p (by omega)]
      exact H.1 p (by omega)
  · by_cases e : p = c
    · rw [e, pk_us]; exact hx
    · rw [pk_un e]; exact H.2 p (by omega)
/-- the place from which the token at p comes, when the token at f moves back to t -/
def rd_mo (f t p : Nat) : Nat := if p = t then f else if t < p ∧ p ≤ f then p - 1 else p
theorem rd_mo_lt {f t p c : Nat} (hf : f < c) (hp : p < c) : rd_mo f t p < c := by
  unfold rd_mo
  split
  · exact hf
  · split <;> omega
theorem rd_dep_mv {K K' : Nat → Int32} {f t c : Nat} (htf : t ≤ f) (hw : rd_w (K f) = 0) (hk : ∀ q, q < c → K' q = K (rd_mo f t q)) : ∀ p, p ≤ c → rd_dep K' p = rd_dep K (if t < p ∧ p ≤ f then p - 1 else p) := by
  intro p
  induction p with
  | zero => intro _; rw [if_neg (by omega)] <;> rfl
  | succ p ih =>
    intro hp
    have IH := ih (by omega)
    show rd_dep K' p + rd_w (K' p) = _
    rw [IH, hk p (by omega)]
    by_cases e1 : p = t
    · subst e1
      rw [if_neg (by omega), rd_mo, if_pos rfl, hw, Int.add_zero]
      by_cases e2 : p < f
      · rw [if_pos (by omega), Nat.add_sub_cancel]
      · have e3 : f = p := by omega
        rw [if_neg (by omega)]
        show _ = rd_dep K p + rd_w (K p)
        rw [← e3, hw, Int.add_zero]
    · by_cases e2 : t < p ∧ p ≤ f
      · rw [if_pos e2, rd_mo, if_neg e1, if_pos e2]
        have e4 : rd_dep K (p - 1) + rd_w (K (p - 1)) = rd_dep K p := by
          obtain ⟨r, hr⟩ : ∃ r, p = r + 1 := ⟨p - 1, by omega⟩
          rw [hr, Nat.add_sub_cancel] <;> rfl
        rw [e4]
        by_cases e5 : p + 1 ≤ f
        · rw [if_pos (by omega), Nat.add_sub_cancel]
        · have e3 : f = p := by omega
          rw [if_neg (by omega)]
          show _ = rd_dep K p + rd_w (K p)
          rw [← e3, hw, Int.add_zero]
      · rw [if_neg e2, rd_mo, if_neg e1, if_neg e2, if_neg (by omega)] <;> rfl
theorem rd_ok_mv {K K' : Nat → Int32} {f t c : Nat} (H : rd_ok K c) (htf : t ≤ f) (hf : f < c) (h2 : K f = 2 ∨ K f = 3) (hk : ∀ q, q < c → K' q = K (rd_mo f t q)) : rd_ok K' c := by
  have hw : rd_w (K f) = 0 := by
    rcases h2 with e | e
    · exact rd_w2 (by rw [e]; decide) (by rw [e]; decide)
    · exact rd_w2 (by rw [e]; decide) (by rw [e]; decide)
  refine ⟨fun p hp => ?_, fun p hp => ?_⟩
  · rw [rd_dep_mv htf hw hk p hp]
    apply H.1
    split <;> omega
  · rw [hk p hp]
    exact H.2 _ (rd_mo_lt hf hp)
/-- an array whose places below i are written -/
def rd_acc (i : Nat) (T A : Nat → Int32) : Nat → Int32 := fun p => if p < i then T p else A p
theorem rd_acc_0 (T A : Nat → Int32) : rd_acc 0 T A = A := funext (fun p => if_neg (Nat.not_lt_zero p))
theorem rd_acc_lt {i p : Nat} {T A : Nat → Int32} (h : p < i) : rd_acc i T A p = T p := if_pos h
theorem rd_acc_ge {i p : Nat} {T A : Nat → Int32} (h : ¬ p < i) : rd_acc i T A p = A p := if_neg h
theorem rd_acc_s {i : Nat} {T A : Nat → Int32} {x : Int32} (h : x = T i) : upd (rd_acc i T A) i x = rd_acc (i + 1) T A := by
  funext p
  by_cases e : p = i
  · rw [e, pk_us, rd_acc_lt (Nat.lt_succ_self i), h]
  · rw [pk_un e]
    by_cases e2 : p < i
    · rw [rd_acc_lt e2, rd_acc_lt (by omega)]
    · rw [rd_acc_ge e2, rd_acc_ge (by omega)]
theorem rd_acc_k {i : Nat} {T A : Nat → Int32} (h : T i = A i) : rd_acc i T A = rd_acc (i + 1) T A := by
  funext p
  by_cases e : p = i
  · rw [e, rd_acc_lt (Nat.lt_succ_self i), rd_acc_ge (Nat.lt_irrefl i), h]
  · by_cases e2 : p < i
    · rw [rd_acc_lt e2, rd_acc_lt (by omega)]
    · rw [rd_acc_ge e2, rd_acc_ge (by omega)]
theorem rd_acc_cg {c : Nat} {T T' A : Nat → Int32} (h : ∀ p, p < c → T p = T' p) : rd_acc c T A = rd_acc c T' A := by
  funext p
  by_cases e : p < c
  · rw [rd_acc_lt e, rd_acc_lt e, h p e]
  · rw [rd_acc_ge e, rd_acc_ge e]
theorem rd_acc_id {c : Nat} {T A : Nat → Int32} (h : ∀ p, p < c → T p = A p) : rd_acc c T A = A := by
  funext p
  by_cases e : p < c
  · rw [rd_acc_lt e, h p e]
  · rw [rd_acc_ge e]
/-- to what the token at p is bound, as the reference keeps it -/
def rd_wa (K L : Nat → Int32) (p : Nat) : Int32 := if K p = 3 then rd_op (rd_ds K L (L p) p 0) else -1
theorem rd_wa_3 {K L : Nat → Int32} {p : Nat} (h : K p = 3) : rd_wa K L p = rd_op (rd_ds K L (L p) p 0) := if_pos h
theorem rd_wa_n {K L : Nat → Int32} {p : Nat} (h : ¬ K p = 3) : rd_wa K L p = -1 := if_neg h
theorem rd_wa_cg {K K' L L' : Nat → Int32} {p : Nat} (h : ∀ q, q < p + 1 → K q = K' q) (g : ∀ q, q < p + 1 → L q = L' q) : rd_wa K L p = rd_wa K' L' p := by
  rw [rd_wa, rd_wa, h p (Nat.lt_succ_self p), g p (Nat.lt_succ_self p), rd_ds_cg p 0 (fun q hq => h q (by omega)) (fun q hq => g q (by omega))]
theorem rd_ds_b {K L : Nat → Int32} {n : Int32} {p c : Nat} (hp : p < 2 ^ 31) : ∀ q, rd_ds K L n p c = some q → q < 2 ^ 31 := fun _ h => Nat.lt_trans (rd_ds_some h).1 hp
theorem rd_ar_b {K : Nat → Int32} {p c : Nat} (hp : p < 2 ^ 31) : ∀ q, rd_ar K p c = some q → q < 2 ^ 31 := fun _ h => Nat.lt_trans (rd_ar_lt h) hp
theorem rd_la_b {K L : Nat → Int32} {n : Int32} {b : Option Nat} {p : Nat} (hp : p < 2 ^ 31) : ∀ q, rd_la K L n b p = some q → q < 2 ^ 31 := fun _ h => Nat.lt_trans (rd_la_lt h) hp
/-- the uses bound to d -/
def rd_ux (K L : Nat → Int32) (d : Int32) (p : Nat) : Bool := decide (K p = 3 ∧ rd_op (rd_ds K L (L p) p 0) = d)
theorem rd_ux_i {K L : Nat → Int32} {d : Int32} {p : Nat} : rd_ux K L d p = true ↔ (K p = 3 ∧ rd_op (rd_ds K L (L p) p 0) = d) := by
  unfold rd_ux
  exact decide_eq_true_iff
theorem rd_ux_k {K L : Nat → Int32} {k p : Nat} (hk : k < 2 ^ 31) : rd_ux K L (nI k) p = true ↔ rd_wa K L p = nI k := by
  rw [rd_ux_i]
  by_cases h : K p = 3
  · rw [rd_wa_3 h]; exact ⟨fun z => z.2, fun z => ⟨h, z⟩⟩
  · rw [rd_wa_n h]; exact ⟨fun z => absurd z.1 h, fun z => absurd z.symm (rd_nm1 hk)⟩
theorem rd_ux_f {K L : Nat → Int32} {p : Nat} (hp : p < 2 ^ 31) : rd_ux K L (-1) p = true ↔ (K p = 3 ∧ rd_wa K L p < 0) := by
  rw [rd_ux_i]
  by_cases h : K p = 3
  · rw [rd_wa_3 h, rd_op_m1 (rd_ds_b hp), rd_op_lt0 (rd_ds_b hp)]
  · exact ⟨fun z => absurd z.1 h, fun z => absurd z.1 h⟩
theorem rd_ux_2 {K L : Nat → Int32} {k p : Nat} (hk : k < 2 ^ 31) (hp : p < 2 ^ 31) (h : rd_ux K L (nI k) p = true) : K k = 2 := by
  have h2 := (rd_ux_i.mp h).2
  rw [rd_op_k (rd_ds_b hp) hk] at h2
  exact (rd_ds_some h2).2.1
/-- the names after a rename of the declaration at k to m -/
def rd_rb (K L : Nat → Int32) (k p : Nat) : Bool := decide (p = k ∨ rd_wa K L p = nI k)
theorem rd_rb_i {K L : Nat → Int32} {k p : Nat} : rd_rb K L k p = true ↔ (p = k ∨ rd_wa K L p = nI k) := by
  unfold rd_rb
  exact decide_eq_true_iff
def rd_rn (K L : Nat → Int32) (k : Nat) (m : Int32) : Nat → Int32 := fun p => if rd_rb K L k p = true then m else L p
theorem rd_rn_t {K L : Nat → Int32} {k p : Nat} {m : Int32} (h : rd_rb K L k p = true) : rd_rn K L k m p = m := if_pos h
theorem rd_rn_f {K L : Nat → Int32} {k p : Nat} {m : Int32} (h : ¬ rd_rb K L k p = true) : rd_rn K L k m p = L p := if_neg h
def rd_cb (K L : Nat → Int32) (k : Nat) (m : Int32) (p : Nat) : Bool := decide (rd_rn K L k m p ≠ L p)
theorem rd_cb_i {K L : Nat → Int32} {k p : Nat} {m : Int32} : rd_cb K L k m p = true ↔ (rd_rb K L k p = true ∧ L p ≠ m) := by
  unfold rd_cb
  rw [decide_eq_true_iff]
  by_cases h : rd_rb K L k p = true
  · rw [rd_rn_t h]; exact ⟨fun z => ⟨h, fun y => z y.symm⟩, fun z y => z.2 y.symm⟩
  · rw [rd_rn_f h]; exact ⟨fun z => absurd rfl z, fun z => absurd z.1 h⟩
theorem rd_cb_n {K L : Nat → Int32} {k p : Nat} {m : Int32} : rd_cb K L k m p = true ↔ rd_rn K L k m p ≠ L p := by
  unfold rd_cb
  exact decide_eq_true_iff
/-- the place before the change of what a use is bound to after it -/
def rd_om (O : Nat → Nat) : Option Nat → Int32
  | none => -1
  | some q => nI (O q)
/-- the change is legal -/
def rd_lg (K L K' L' : Nat → Int32) (O : Nat → Nat) (c : Nat) : Prop := ∀ p, p < c → K' p = 3 → rd_om O (rd_ds K' L' (L' p) p 0) = rd_wa K L (O p)
theorem rd_om_cg {O O' : Nat → Nat} {o : Option Nat} {p : Nat} (h : ∀ q, q < p → O q = O' q) (ho : ∀ q, o = some q → q < p) : rd_om O o = rd_om O' o := by
  cases o with
  | none => rfl
  | some q => exact congrArg nI (h q (ho q rfl))
theorem rd_lg_cg {K L T1 T2 K' L' : Nat → Int32} {o o' : Nat → Nat} {c : Nat} (h1 : ∀ p, p < c → T1 p = K' p) (h2 : ∀ p, p < c → T2 p = L' p) (h3 : ∀ p, p < c → o p = o' p) : rd_lg K L T1 T2 o c ↔ rd_lg K L K' L' o' c := by
  have key : ∀ p, p < c → (rd_om o (rd_ds T1 T2 (T2 p) p 0) = rd_wa K L (o p) ↔ rd_om o' (rd_ds K' L' (L' p) p 0) = rd_wa K L (o' p)) := by
    intro p hp
    rw [h2 p hp, h3 p hp, rd_ds_cg p 0 (fun q hq => h1 q (by omega)) (fun q hq => h2 q (by omega)), rd_om_cg (p := p) (fun q hq => h3 q (by omega)) (fun q hq => (rd_ds_some hq).1)]
  exact ⟨fun H p hp h => (key p hp).mp (H p hp (by rw [h1 p hp]; exact h)), fun H p hp h => (key p hp).mpr (H p hp (by rw [← h1 p hp]; exact h))⟩
theorem rd_acc2 {c : Nat} {A B C : Nat → Int32} : rd_acc c A (rd_acc c B C) = rd_acc c A C := by
  funext p
  by_cases e : p < c
  · rw [rd_acc_lt e, rd_acc_lt e]
  · rw [rd_acc_ge e, rd_acc_ge e, rd_acc_ge e]
end
section
/-! the component's private methods, each against the pure picture -/
theorem rd_ix {P Q : Prop} {c : Nat} {x : Int32} (hc : c ≤ 28) (ht : ∀ j, j < c → x = nI j → Q) (hf : (∀ j, j < c → ¬ x = nI j) → P) : (x < 0 → P) ∧ (¬ x < 0 → ((nI c ≤ x → P) ∧ (¬ nI c ≤ x → Q))) := by
  rcases pk_ix x (n := c) (by omega) with h | h | ⟨j, hj, rfl⟩
  · exact br_t h (hf (fun j hj e => by rw [e] at h; exact absurd h (nI_pos (by omega))))
  · refine br_f (Int32.not_lt.mpr (Int32.le_trans (nI_pos' (by omega)) h)) (br_t h (hf ?_))
    intro j hj e
    rw [e] at h
    exact absurd h (nI_ge hj (by omega))
  · exact br_f (nI_pos (by omega)) (br_f (nI_ge hj (by omega)) (ht j hj rfl))
theorem rd_in {p : Nat} (h : p < 28) : vp_in (nI p) 28 := vp_in_nI h (by omega)
theorem rd_c8 : nI 8 = 8 := by decide +kernel
theorem xm_has {post : Int32 → Prop} {x : Int32} (ht : x = 2 ∨ x = 3 → post 1) (hf : ¬ x = 2 → ¬ x = 3 → post 0) : wpX_hasLabel post x :=
  br_c (fun h => ht (Or.inl h)) (fun h2 => br_c (fun h => ht (Or.inr h)) (fun h3 => hf h2 h3))
theorem xm_name {post : Int32 → Prop} {x : Int32} (ht : ¬ x < 0 → ¬ 8 ≤ x → post 1) (hf : x < 0 ∨ 8 ≤ x → post 0) : wpX_isName post x :=
  br_c (fun h => hf (Or.inl h)) (fun h => br_c (fun g => hf (Or.inr g)) (fun g => ht h g))
theorem xm_token {post : Int32 → Prop} {x n : Int32} (ht : (x = 0 ∨ x = 1 ∨ ((x = 2 ∨ x = 3) ∧ ¬ n < 0 ∧ ¬ 8 ≤ n)) → post 1) (hf : ¬ x = 0 → ¬ x = 1 → ((¬ x = 2 ∧ ¬ x = 3) ∨ n < 0 ∨ 8 ≤ n) → post 0) : wpX_isToken post x n := by
  refine br_c (fun h => ht (Or.inl h)) (fun h0 => br_c (fun h => ht (Or.inr (Or.inl h))) (fun h1 => xm_has (fun h => ?_) (fun h2 h3 => ?_)))
  · refine br_f (by decide) (xm_name (fun a b => ?_) (fun a => ?_))
    · exact br_f (by decide) (ht (Or.inr (Or.inr ⟨h, a, b⟩)))
    · exact br_t rfl (hf h0 h1 (Or.inr a))
  · exact br_t rfl (hf h0 h1 (Or.inl ⟨h2, h3⟩))
theorem xm_place {post : Int32 → Prop} {c : Nat} {K L T S O : Nat → Int32} {x : Int32} (hc : c ≤ 28) (ht : ∀ j, j < c → x = nI j → post 1) (hf : (∀ j, j < c → ¬ x = nI j) → post 0) : wpX_isPlace post (nI c, K, L, T, S, O) x := rd_ix hc ht hf
theorem xm_kind {post : Int32 → Prop} {c : Nat} {K L T S O : Nat → Int32} {x y : Int32} (hc : c ≤ 28) (ht : ∀ j, j < c → x = nI j → K j = y → post 1) (hf : (∀ j, j < c → x = nI j → ¬ K j = y) → post 0) : wpX_isKindAt post (nI c, K, L, T, S, O) x y := by
  unfold wpX_isKindAt
  dsimp only
  refine xm_place hc (fun j hj e => ?_) (fun h => ?_)
  · subst e
    refine br_f (by decide) ⟨rd_in (by omega), ?_⟩
    rw [nI_clamp (by omega)]
    refine br_c (fun h => ht j hj rfl h) (fun h => hf (fun i hi e => ?_))
    rw [nI_eq (by omega) (by omega)] at e
    rw [← e]
    exact h
  · exact br_t rfl (hf (fun j hj e => absurd e (h j hj)))
theorem xm_lab {post : Int32 → Prop} {c : Nat} {K L T S O : Nat → Int32} {x : Int32} (hc : c ≤ 28) (ht : ∀ j, j < c → x = nI j → (K j = 2 ∨ K j = 3) → post 1) (hf : (∀ j, j < c → x = nI j → ¬ (K j = 2 ∨ K j = 3)) → post 0) : wpX_isLabelledAt post (nI c, K, L, T, S, O) x := by
  unfold wpX_isLabelledAt
  dsimp only
  refine xm_place hc (fun j hj e => ?_) (fun h => ?_)
  · subst e
    refine br_f (by decide) ⟨rd_in (by omega), ?_⟩
    rw [nI_clamp (by omega)]
    refine xm_has (fun h => ?_) (fun h2 h3 => ?_)
    · exact br_f (by decide) (ht j hj rfl h)
    · refine br_t rfl (hf (fun i hi e => ?_))
      rw [nI_eq (by omega) (by omega)] at e
      rw [← e]
      exact fun z => z.elim h2 h3
  · exact br_t rfl (hf (fun j hj e => absurd e (h j hj)))
theorem xm_oc_l {post : Int32 → Prop} {c m : Nat} {K L T S O : Nat → Int32} (hm : m ≤ 28) (hp : post (rd_oc K m)) : ∀ d p, p + d = m → wX_openCount_4 post (nI m) (nI c) K L T S O (d + 1) (rd_oc K p) (nI p) := by
  intro d
  induction d with
  | zero =>
    intro p h
    have e : p = m := by omega
    subst e
    exact br_t (nI_le (Nat.le_refl _) (by omega)) hp
  | succ d ih =>
    intro p h
    refine br_f (nI_ge (by omega) (by omega)) ⟨rd_in (by omega), ?_⟩
    rw [nI_clamp (by omega)]
    have IH := ih (p + 1) (by omega)
    by_cases h0 : K p = 0
    · exact br_t h0 (nm_r (rd_oc_0 h0).symm (nm_r (nI_1 p) IH))
    · by_cases h1 : K p = 1
      · exact br_f h0 ⟨rd_in (by omega), br_t h1 (nm_r (rd_oc_1 h1).symm (nm_r (nI_1 p) IH))⟩
      · rw [rd_oc_2 h0 h1] at IH
        exact br_f h0 ⟨rd_in (by omega), br_f h1 (nm_r (nI_1 p) IH)⟩
theorem xm_oc {post : Int32 → Prop} {c m : Nat} {K L T S O : Nat → Int32} (hm : m ≤ 28) (hp : post (rd_oc K m)) : wpX_openCount post (nI c, K, L, T, S, O) (nI m) :=
  ⟨m + 1, xm_oc_l hm hp m 0 (by omega)⟩
theorem xm_ds_51 {post : Int32 → Prop} {J : Int32 → Int32 → Prop} {c p q : Nat} {K L T S O : Nat → Int32} {n : Int32} (hp : p < 28) (hq : q ≤ 28) (hit : K p = 2 → q = 0 → L p = n → post (nI p)) (go : ¬ (K p = 2 ∧ q = 0 ∧ L p = n) → J (nI q) (rd_pr p)) : wX_declarationOf__kinds_labels_51 post J n (nI q) (nI p) (nI c) K L T S O := by
  have hi : vp_in (nI p) 28 := rd_in hp
  refine ⟨hi, ?_⟩
  rw [nI_clamp (by omega)]
  by_cases h2 : K p = 2
  · refine br_t h2 ?_
    by_cases h3 : q = 0
    · refine br_t (by rw [h3]; exact nI_0) ⟨hi, ?_⟩
      exact br_c (fun h4 => hit h2 h3 h4) (fun h4 => nm_e (go (fun z => h4 z.2.2)))
    · exact br_f (nI_ne0 (by omega) (by omega)) (nm_e (go (fun z => h3 z.2.1)))
  · exact br_f h2 (nm_e (go (fun z => h2 z.1)))
theorem xm_ds_l {post : Int32 → Prop} {c : Nat} {K L T S O : Nat → Int32} {n : Int32} : ∀ p q, q + p ≤ 28 → post (rd_op (rd_ds K L n p q)) → wX_declarationOf__kinds_labels_8 post n (nI c) K L T S O (p + 1) (nI q) (rd_pr p) := by
  intro p
  induction p with
  | zero =>
    intro q _ hp
    rw [rd_ds_z] at hp
    exact br_t ((rd_pr_lt0 (by omega)).mpr rfl) hp
  | succ p ih =>
    intro q hq hp
    have hi : vp_in (nI p) 28 := rd_in (by omega)
    rw [rd_pr_s]
    refine br_f (nI_pos (by omega)) ⟨hi, ?_⟩
    rw [nI_clamp (by omega)]
    by_cases h1 : K p = 1
    · rw [rd_ds_1 h1] at hp
      exact br_t h1 (nm_r (nI_1 q) (nm_e (ih (q + 1) (by omega) hp)))
    · refine br_f h1 ⟨hi, ?_⟩
      by_cases h0 : K p = 0
      · rw [rd_ds_0 h0] at hp
        refine br_t h0 ?_
        cases q with
        | zero =>
          refine br_t (by rw [nI_0]; exact Int32.le_refl 0) (xm_ds_51 (by omega) (by omega) (fun h2 => ?_) (fun _ => ih 0 (by omega) hp))
          rw [h0] at h2
          exact absurd h2 (by decide)
        | succ q =>
          exact br_f (nI_nle (by omega) (by omega)) (nm_r (nI_pred q) (nm_e (ih q (by omega) hp)))
      · refine br_f h0 (xm_ds_51 (by omega) (by omega) (fun h2 h3 h4 => ?_) (fun h => ?_))
        · subst h3
          rw [rd_ds_h h2 h4] at hp
          exact hp
        · rw [rd_ds_n h0 h1 h] at hp
          exact ih q (by omega) hp
theorem xm_ds {post : Int32 → Prop} {c p : Nat} {K L T S O : Nat → Int32} {n : Int32} (hp28 : p ≤ 28) (hp : post (rd_op (rd_ds K L n p 0))) : wpX_declarationOf__kinds_labels post (nI c, K, L, T, S, O) (nI p) n :=
  nm_r (rd_pr_m p) ⟨p + 1, xm_ds_l p 0 (by omega) hp⟩
theorem xm_dt_51 {post : Int32 → Prop} {J : Int32 → Int32 → Prop} {c p q : Nat} {K L T S O : Nat → Int32} {n : Int32} (hp : p < 28) (hq : q ≤ 28) (hit : T p = 2 → q = 0 → S p = n → post (nI p)) (go : ¬ (T p = 2 ∧ q = 0 ∧ S p = n) → J (nI q) (rd_pr p)) : wX_declarationOf__trialKinds_trialLabels_51 post J n (nI q) (nI p) (nI c) K L T S O := by
  have hi : vp_in (nI p) 28 := rd_in hp
  refine ⟨hi, ?_⟩
  rw [nI_clamp (by omega)]
  by_cases h2 : T p = 2
  · refine br_t h2 ?_
    by_cases h3 : q = 0
    · refine br_t (by rw [h3]; exact nI_0) ⟨hi, ?_⟩
      exact br_c (fun h4 => hit h2 h3 h4) (fun h4 => nm_e (go (fun z => h4 z.2.2)))
    · exact br_f (nI_ne0 (by omega) (by omega)) (nm_e (go (fun z => h3 z.2.1)))
  · exact br_f h2 (nm_e (go (fun z => h2 z.1)))
theorem xm_dt_l {post : Int32 → Prop} {c : Nat} {K L T S O : Nat → Int32} {n : Int32} : ∀ p q, q + p ≤ 28 → post (rd_op (rd_ds T S n p q)) → wX_declarationOf__trialKinds_trialLabels_8 post n (nI c) K L T S O (p + 1) (nI q) (rd_pr p) := by
  intro p
  induction p with
  | zero =>
    intro q _ hp
    rw [rd_ds_z] at hp
    exact br_t ((rd_pr_lt0 (by omega)).mpr rfl) hp
  | succ p ih =>
    intro q hq hp
    have hi : vp_in (nI p) 28 := rd_in (by omega)
    rw [rd_pr_s]
    refine br_f (nI_pos (by omega)) ⟨hi, ?_⟩
    rw [nI_clamp (by omega)]
    by_cases h1 : T p = 1
    · rw [rd_ds_1 h1] at hp
      exact br_t h1 (nm_r (nI_1 q) (nm_e (ih (q + 1) (by omega) hp)))
    · refine br_f h1 ⟨hi, ?_⟩
      by_cases h0 : T p = 0
      · rw [rd_ds_0 h0] at hp
        refine br_t h0 ?_
        cases q with
        | zero =>
          refine br_t (by rw [nI_0]; exact Int32.le_refl 0) (xm_dt_51 (by omega) (by omega) (fun h2 => ?_) (fun _ => ih 0 (by omega) hp))
          rw [h0] at h2
          exact absurd h2 (by decide)
        | succ q =>
          exact br_f (nI_nle (by omega) (by omega)) (nm_r (nI_pred q) (nm_e (ih q (by omega) hp)))
      · refine br_f h0 (xm_dt_51 (by omega) (by omega) (fun h2 h3 h4 => ?_) (fun h => ?_))
        · subst h3
          rw [rd_ds_h h2 h4] at hp
          exact hp
        · rw [rd_ds_n h0 h1 h] at hp
          exact ih q (by omega) hp
theorem xm_dt {post : Int32 → Prop} {c p : Nat} {K L T S O : Nat → Int32} {n : Int32} (hp28 : p ≤ 28) (hp : post (rd_op (rd_ds T S n p 0))) : wpX_declarationOf__trialKinds_trialLabels post (nI c, K, L, T, S, O) (nI p) n :=
  nm_r (rd_pr_m p) ⟨p + 1, xm_dt_l p 0 (by omega) hp⟩
theorem xm_oa_l {post : Int32 → Prop} {c : Nat} {K L T S O : Nat → Int32} : ∀ p q, q + p ≤ 28 → post (rd_op (rd_ar K p q)) → wX_openingAround_6 post (nI c) K L T S O (p + 1) (nI q) (rd_pr p) := by
  intro p
  induction p with
  | zero =>
    intro q _ hp
    rw [rd_ar_z] at hp
    exact br_t ((rd_pr_lt0 (by omega)).mpr rfl) hp
  | succ p ih =>
    intro q hq hp
    have hi : vp_in (nI p) 28 := rd_in (by omega)
    rw [rd_pr_s]
    refine br_f (nI_pos (by omega)) ⟨hi, ?_⟩
    rw [nI_clamp (by omega)]
    by_cases h1 : K p = 1
    · rw [rd_ar_1 h1] at hp
      exact br_t h1 (nm_r (nI_1 q) (nm_e (ih (q + 1) (by omega) hp)))
    · refine br_f h1 ⟨hi, ?_⟩
      by_cases h0 : K p = 0
      · refine br_t h0 ?_
        cases q with
        | zero =>
          rw [rd_ar_0 h0] at hp
          exact br_t nI_0 hp
        | succ q =>
          rw [rd_ar_0s h0] at hp
          refine br_f (nI_ne0 (by omega) (by omega)) ⟨hi, ?_⟩
          rw [nI_clamp (by omega)]
          exact br_t h0 (nm_r (nI_pred q) (nm_e (ih q (by omega) hp)))
      · rw [rd_ar_2 h0 h1] at hp
        refine br_f h0 ⟨hi, ?_⟩
        rw [nI_clamp (by omega)]
        exact br_f h0 (nm_e (ih q (by omega) hp))
theorem xm_oa {post : Int32 → Prop} {c p : Nat} {K L T S O : Nat → Int32} (hp28 : p ≤ 28) (hp : post (rd_op (rd_ar K p 0))) : wpX_openingAround post (nI c, K, L, T, S, O) (nI p) :=
  nm_r (rd_pr_m p) ⟨p + 1, xm_oa_l p 0 (by omega) hp⟩
theorem xm_ub_l {post : Int32 → Prop} {c : Nat} {K L T S O : Nat → Int32} {d : Int32} (hc : c ≤ 28) (hp : post (rd_ms (rd_ux K L d) c)) : ∀ e p, p + e = c → wX_usesBoundTo_4 post d (nI c) K L T S O (e + 1) (rd_ms (rd_ux K L d) p) (nI p) := by
  intro e
  induction e with
  | zero =>
    intro p h
    have e : p = c := by omega
    subst e
    exact br_t (nI_le (Nat.le_refl _) (by omega)) hp
  | succ e ih =>
    intro p h
    have hi : vp_in (nI p) 28 := rd_in (by omega)
    refine br_f (nI_ge (by omega) (by omega)) ⟨hi, ?_⟩
    rw [nI_clamp (by omega)]
    have IH := ih (p + 1) (by omega)
    by_cases h3 : K p = 3
    · refine br_t h3 ⟨hi, xm_ds (by omega) ?_⟩
      by_cases hd : rd_op (rd_ds K L (L p) p 0) = d
      · exact br_t hd (nm_r (rd_ms_t (rd_ux_i.mpr ⟨h3, hd⟩)).symm (nm_r (nI_1 p) IH))
      · rw [rd_ms_f (fun z => hd (rd_ux_i.mp z).2)] at IH
        exact br_f hd (nm_r (nI_1 p) IH)
    · rw [rd_ms_f (fun z => h3 (rd_ux_i.mp z).1)] at IH
      exact br_f h3 (nm_r (nI_1 p) IH)
theorem xm_ub {post : Int32 → Prop} {c : Nat} {K L T S O : Nat → Int32} {d : Int32} (hc : c ≤ 28) (hp : post (rd_ms (rd_ux K L d) c)) : wpX_usesBoundTo post (nI c, K, L, T, S, O) d :=
  ⟨c + 1, xm_ub_l hc hp c 0 (by omega)⟩
theorem xm_cp_l {post : SX → Prop} {c : Nat} {K L T S O : Nat → Int32} (hc : c ≤ 28) (hp : post (nI c, K, L, rd_acc c K T, rd_acc c L S, rd_acc c nI O)) : ∀ e p, p + e = c → wX_copyToTrial_2 post (nI c) (e + 1) (nI p) K L (rd_acc p K T) (rd_acc p L S) (rd_acc p nI O) := by
  intro e
  induction e with
  | zero =>
    intro p h
    have e : p = c := by omega
    subst e
    exact br_t (nI_le (Nat.le_refl _) (by omega)) hp
  | succ e ih =>
    intro p h
    have hi : vp_in (nI p) 28 := rd_in (by omega)
    refine br_f (nI_ge (by omega) (by omega)) ⟨hi, hi, ?_⟩
    rw [nI_clamp (by omega)]
    exact nm_r (rd_acc_s rfl) ⟨hi, hi, nm_r (rd_acc_s rfl) ⟨hi, nm_r (rd_acc_s rfl) (nm_r (nI_1 p) (ih (p + 1) (by omega)))⟩⟩
theorem xm_cp {post : SX → Prop} {c : Nat} {K L T S O : Nat → Int32} (hc : c ≤ 28) (hp : post (nI c, K, L, rd_acc c K T, rd_acc c L S, rd_acc c nI O)) : wpX_copyToTrial post (nI c, K, L, T, S, O) := by
  have h := xm_cp_l hc hp c 0 (by omega)
  rw [rd_acc_0, rd_acc_0, rd_acc_0] at h
  exact ⟨c + 1, h⟩
theorem xm_kp_l {post : SX → Prop} {c : Nat} {K L T S O : Nat → Int32} (hc : c ≤ 28) (hp : post (nI c, rd_acc c T K, rd_acc c S L, T, S, O)) : ∀ e p, p + e = c → wX_keepTrial_2 post (nI c) (e + 1) (nI p) (rd_acc p T K) (rd_acc p S L) T S O := by
  intro e
  induction e with
  | zero =>
    intro p h
    have e : p = c := by omega
    subst e
    exact br_t (nI_le (Nat.le_refl _) (by omega)) hp
  | succ e ih =>
    intro p h
    have hi : vp_in (nI p) 28 := rd_in (by omega)
    refine br_f (nI_ge (by omega) (by omega)) ⟨hi, hi, ?_⟩
    rw [nI_clamp (by omega)]
    exact nm_r (rd_acc_s rfl) ⟨hi, hi, nm_r (rd_acc_s rfl) (nm_r (nI_1 p) (ih (p + 1) (by omega)))⟩
theorem xm_kp {post : SX → Prop} {c : Nat} {K L T S O : Nat → Int32} (hc : c ≤ 28) (hp : post (nI c, rd_acc c T K, rd_acc c S L, T, S, O)) : wpX_keepTrial post (nI c, K, L, T, S, O) := by
  have h := xm_kp_l hc hp c 0 (by omega)
  rw [rd_acc_0, rd_acc_0] at h
  exact ⟨c + 1, h⟩
end
section
/-! the component's trial: rename, move, legality -/
theorem xm_rn_l {post : Int32 → SX → Prop} {c k : Nat} {K L T S O : Nat → Int32} {m : Int32} (hc : c ≤ 28) (hk : k < c) (hS : ∀ p, p < c → S p = L p) (hp : post (rd_ct (rd_cb K L k m) c) (nI c, K, L, T, rd_acc c (rd_rn K L k m) S, O)) : ∀ e p, p + e = c → wX_tryRename_20 post m (rd_ms (rd_ux K L (nI k)) c ||| ((1 : Int32) <<< (nI k &&& 31))) (nI c) (e + 1) (rd_ct (rd_cb K L k m) p) (nI p) K L T (rd_acc p (rd_rn K L k m) S) O := by
  intro e
  induction e with
  | zero =>
    intro p h
    have e : p = c := by omega
    subst e
    exact br_t (nI_le (Nat.le_refl _) (by omega)) hp
  | succ e ih =>
    intro p h
    have hi : vp_in (nI p) 28 := rd_in (by omega)
    have IH := ih (p + 1) (by omega)
    have hb : ((rd_ms (rd_ux K L (nI k)) c ||| ((1 : Int32) <<< (nI k &&& 31))) &&& ((1 : Int32) <<< (nI p &&& 31)) = 0) ↔ ¬ rd_rb K L k p = true := by
      rw [rd_tst (by omega) (by omega) (by omega), rd_rb_i, rd_ux_k (by omega)]
      constructor
      · intro z y
        exact z (y.elim Or.inr (fun w => Or.inl ⟨by omega, w⟩))
      · intro z y
        exact z (y.elim (fun w => Or.inr w.2) Or.inl)
    refine br_f (nI_ge (by omega) (by omega)) ?_
    by_cases hr : rd_rb K L k p = true
    · refine br_f (fun z => hb.mp z hr) ⟨hi, ?_⟩
      rw [nI_clamp (by omega)]
      by_cases hm : L p = m
      · rw [rd_ct_f (fun z => (rd_cb_i.mp z).2 hm), ← rd_acc_k (by rw [rd_rn_t hr, hS p (by omega), hm])] at IH
        exact br_t hm (nm_r (nI_1 p) IH)
      · exact br_f hm ⟨hi, nm_r (rd_acc_s (rd_rn_t hr).symm) (nm_r (rd_ct_t (rd_cb_i.mpr ⟨hr, hm⟩)).symm (nm_r (nI_1 p) IH))⟩
    · rw [rd_ct_f (fun z => hr (rd_cb_i.mp z).1), ← rd_acc_k (by rw [rd_rn_f hr, hS p (by omega)])] at IH
      exact br_t (hb.mpr hr) (nm_r (nI_1 p) IH)
theorem xm_rn {post : Int32 → SX → Prop} {c k : Nat} {K L T S O : Nat → Int32} {m : Int32} (hc : c ≤ 28) (hk : k < c) (hp : post (rd_ct (rd_cb K L k m) c) (nI c, K, L, rd_acc c K T, rd_acc c (rd_rn K L k m) S, rd_acc c nI O)) : wpX_tryRename post (nI c, K, L, T, S, O) (nI k) m := by
  unfold wpX_tryRename
  dsimp only
  refine xm_cp hc ?_
  dsimp only
  refine xm_ub hc ?_
  refine nm_e ⟨c + 1, ?_⟩
  have h := xm_rn_l (T := rd_acc c K T) (S := rd_acc c L S) (O := rd_acc c nI O) (m := m) (post := post) hc hk (fun p hp => rd_acc_lt hp) (by rw [rd_acc2]; exact hp) c 0 (by omega)
  rw [rd_acc_0] at h
  exact h
/-- the places above p up to f hold what stood one below -/
def rd_mk (f p : Nat) (K A : Nat → Int32) : Nat → Int32 := fun q => if p < q ∧ q ≤ f then K (q - 1) else A q
theorem rd_mk_0 (f : Nat) (K A : Nat → Int32) : rd_mk f f K A = A := funext (fun q => if_neg (by omega))
theorem rd_mk_s {f r : Nat} {K A : Nat → Int32} (h : r + 1 ≤ f) : upd (rd_mk f (r + 1) K A) (r + 1) (K r) = rd_mk f r K A := by
  funext q
  by_cases e : q = r + 1
  · subst e
    rw [pk_us, rd_mk, if_pos (by omega), Nat.add_sub_cancel]
  · rw [pk_un e, rd_mk, rd_mk]
    by_cases e2 : r < q ∧ q ≤ f
    · rw [if_pos (by omega), if_pos e2]
    · rw [if_neg (by omega), if_neg e2]
theorem rd_mk_e {f t c : Nat} {K A : Nat → Int32} (hA : ∀ q, q < c → A q = K q) : ∀ q, q < c → upd (rd_mk f t K A) t (K f) q = K (rd_mo f t q) := by
  intro q hq
  by_cases e : q = t
  · rw [e, pk_us, rd_mo, if_pos rfl]
  · rw [pk_un e, rd_mk, rd_mo, if_neg e]
    by_cases e2 : t < q ∧ q ≤ f
    · rw [if_pos e2, if_pos e2]
    · rw [if_neg e2, if_neg e2, hA q hq]
theorem xm_mb_l {post : SX → Prop} {c f t : Nat} {K L T S O : Nat → Int32} (hc : c ≤ 28) (hf : f < c) (hT : ∀ q, q < c → T q = K q) (hS : ∀ q, q < c → S q = L q) (hO : ∀ q, q < c → O q = nI q)
    (hp : ∀ T' S' O' : Nat → Int32, (∀ q, q < c → T' q = K (rd_mo f t q)) → (∀ q, q < c → S' q = L (rd_mo f t q)) → (∀ q, q < c → O' q = nI (rd_mo f t q)) → post (nI c, K, L, T', S', O')) : ∀ d p, t + d = p → p ≤ f → wX_tryMoveBack_6 post (nI f) (nI t) (nI c) (d + 1) (nI p) K L (rd_mk f p K T) (rd_mk f p L S) (rd_mk f p nI O) := by
  intro d
  induction d with
  | zero =>
    intro p h hpf
    have e : p = t := by omega
    subst e
    have h1 : vp_in (nI f) 28 := rd_in (by omega)
    have h2 : vp_in (nI p) 28 := rd_in (by omega)
    refine br_t (nI_le (Nat.le_refl _) (by omega)) ⟨h1, h2, ?_⟩
    rw [nI_clamp (show f < 2 ^ 31 by omega), nI_clamp (show p < 2 ^ 31 by omega)]
    exact nm_e ⟨h1, h2, nm_e ⟨h2, nm_e (hp _ _ _ (rd_mk_e hT) (rd_mk_e hS) (rd_mk_e hO))⟩⟩
  | succ d ih =>
    intro p h hpf
    obtain ⟨r, hr⟩ : ∃ r, p = r + 1 := ⟨p - 1, by omega⟩
    subst hr
    have h1 : vp_in (nI r) 28 := rd_in (by omega)
    have h2 : vp_in (nI (r + 1)) 28 := rd_in (by omega)
    refine br_f (nI_ge (by omega) (by omega)) ?_
    rw [nI_pred, nI_clamp (show r < 2 ^ 31 by omega), nI_clamp (show r + 1 < 2 ^ 31 by omega)]
    exact ⟨h1, h2, nm_r (rd_mk_s hpf) ⟨h1, h2, nm_r (rd_mk_s hpf) ⟨h2, nm_r (rd_mk_s hpf) (nm_r (pk_m1 r) (ih r (by omega) (by omega)))⟩⟩⟩
theorem xm_mb {post : SX → Prop} {c f t : Nat} {K L T S O : Nat → Int32} (hc : c ≤ 28) (hf : f < c) (htf : t ≤ f)
    (hp : ∀ T' S' O' : Nat → Int32, (∀ q, q < c → T' q = K (rd_mo f t q)) → (∀ q, q < c → S' q = L (rd_mo f t q)) → (∀ q, q < c → O' q = nI (rd_mo f t q)) → post (nI c, K, L, T', S', O')) : wpX_tryMoveBack post (nI c, K, L, T, S, O) (nI f) (nI t) := by
  unfold wpX_tryMoveBack
  dsimp only
  refine xm_cp hc ?_
  dsimp only
  have h := xm_mb_l (T := rd_acc c K T) (S := rd_acc c L S) (O := rd_acc c nI O) hc hf (fun q hq => rd_acc_lt hq) (fun q hq => rd_acc_lt hq) (fun q hq => rd_acc_lt hq) hp (f - t) f (by omega) (Nat.le_refl f)
  rw [rd_mk_0, rd_mk_0, rd_mk_0] at h
  exact ⟨f - t + 1, h⟩
theorem xm_bb {post : Int32 → Prop} {c p : Nat} {K L T S O : Nat → Int32} {o : Nat → Nat} (hc : c ≤ 28) (hpc : p < c) (hO : ∀ q, q < c → O q = nI (o q)) (ho : ∀ q, q < c → o q < c) (ht : rd_om o (rd_ds T S (S p) p 0) = rd_op (rd_ds K L (L (o p)) (o p) 0) → post 1) (hf : ¬ rd_om o (rd_ds T S (S p) p 0) = rd_op (rd_ds K L (L (o p)) (o p) 0) → post 0) : wpX_isBoundAsBefore post (nI c, K, L, T, S, O) (nI p) := by
  have hi : vp_in (nI p) 28 := rd_in (by omega)
  have hop := ho p hpc
  unfold wpX_isBoundAsBefore
  dsimp only
  rw [nI_clamp (show p < 2 ^ 31 by omega), hO p hpc]
  refine ⟨hi, nm_e ⟨rd_in (by omega), ?_⟩⟩
  rw [nI_clamp (show o p < 2 ^ 31 by omega)]
  refine xm_ds (by omega) ⟨hi, xm_dt (by omega) ?_⟩
  cases e : rd_ds T S (S p) p 0 with
  | none =>
    rw [e] at ht hf
    exact br_t rfl (br_c (fun z => ht z.symm) (fun z => hf (fun y => z y.symm)))
  | some q =>
    rw [e] at ht hf
    have hq := (rd_ds_some e).1
    have ht' : nI (o q) = rd_op (rd_ds K L (L (o p)) (o p) 0) → post 1 := ht
    have hf' : ¬ nI (o q) = rd_op (rd_ds K L (L (o p)) (o p) 0) → post 0 := hf
    rw [← hO q (by omega)] at ht' hf'
    refine br_f (rd_nm1 (q := q) (by omega)) ⟨rd_in (p := q) (by omega), ?_⟩
    have hcl : (rd_op (some q)).toNatClampNeg = q := nI_clamp (n := q) (by omega)
    rw [hcl]
    exact br_c ht' hf'
theorem xm_tl_l {post : Int32 → Prop} {c : Nat} {K L T S O : Nat → Int32} {o : Nat → Nat} (hc : c ≤ 28) (hO : ∀ q, q < c → O q = nI (o q)) (ho : ∀ q, q < c → o q < c) (hT : ∀ q, q < c → T q = K (o q)) (ht : rd_lg K L T S o c → post 1) (hf : ¬ rd_lg K L T S o c → post 0) : ∀ e p, p + e = c → (∀ q, q < p → T q = 3 → rd_om o (rd_ds T S (S q) q 0) = rd_wa K L (o q)) → wX_isTrialLegal_2 post (nI c) K L T S O (e + 1) (nI p) := by
  intro e
  induction e with
  | zero =>
    intro p h H
    have e : p = c := by omega
    subst e
    exact br_t (nI_le (Nat.le_refl _) (by omega)) (ht H)
  | succ e ih =>
    intro p h H
    have hi : vp_in (nI p) 28 := rd_in (by omega)
    have hpc : p < c := by omega
    refine br_f (nI_ge hpc (by omega)) ⟨hi, ?_⟩
    rw [nI_clamp (show p < 2 ^ 31 by omega)]
    by_cases h3 : T p = 3
    · have hw : rd_wa K L (o p) = rd_op (rd_ds K L (L (o p)) (o p) 0) := rd_wa_3 (by rw [← hT p hpc]; exact h3)
      refine br_t h3 (xm_bb hc hpc hO ho (fun he => ?_) (fun he => ?_))
      · refine br_f (by decide) (nm_r (nI_1 p) (ih (p + 1) (by omega) (fun q hq hq3 => ?_)))
        by_cases e2 : q = p
        · rw [e2, hw]; exact he
        · exact H q (by omega) hq3
      · exact br_t rfl (hf (fun G => he (by rw [← hw]; exact G p hpc h3)))
    · refine br_f h3 (nm_r (nI_1 p) (ih (p + 1) (by omega) (fun q hq hq3 => ?_)))
      by_cases e2 : q = p
      · rw [e2] at hq3; exact absurd hq3 h3
      · exact H q (by omega) hq3
theorem xm_tl {post : Int32 → Prop} {c : Nat} {K L T S O : Nat → Int32} {o : Nat → Nat} (hc : c ≤ 28) (hO : ∀ q, q < c → O q = nI (o q)) (ho : ∀ q, q < c → o q < c) (hT : ∀ q, q < c → T q = K (o q)) (ht : rd_lg K L T S o c → post 1) (hf : ¬ rd_lg K L T S o c → post 0) : wpX_isTrialLegal post (nI c, K, L, T, S, O) :=
  ⟨c + 1, xm_tl_l hc hO ho hT ht hf c 0 (by omega) (fun q hq => absurd hq (Nat.not_lt_zero q))⟩
/-- the legality of a rename, of a move: pure -/
def rd_lr (K L : Nat → Int32) (k : Nat) (m : Int32) (c : Nat) : Prop := rd_lg K L K (rd_rn K L k m) (fun p => p) c
def rd_lm (K L : Nat → Int32) (f t : Nat) (c : Nat) : Prop := rd_lg K L (fun p => K (rd_mo f t p)) (fun p => L (rd_mo f t p)) (rd_mo f t) c
/-- a rename tried, then asked -/
theorem xm_rl {post : Int32 → Prop} {c k : Nat} {K L T S O : Nat → Int32} {m : Int32} (hc : c ≤ 28) (ht : rd_lr K L k m c → post 1) (hf : ¬ rd_lr K L k m c → post 0) : wpX_isTrialLegal post (nI c, K, L, rd_acc c K T, rd_acc c (rd_rn K L k m) S, rd_acc c nI O) := by
  have e : rd_lg K L (rd_acc c K T) (rd_acc c (rd_rn K L k m) S) (fun p => p) c ↔ rd_lr K L k m c := rd_lg_cg (fun p hp => rd_acc_lt hp) (fun p hp => rd_acc_lt hp) (fun p hp => rfl)
  exact xm_tl (o := fun p => p) hc (fun q hq => rd_acc_lt hq) (fun q hq => hq) (fun q hq => rd_acc_lt hq) (fun z => ht (e.mp z)) (fun z => hf (fun y => z (e.mpr y)))
theorem xm_ml {post : Int32 → Prop} {c f t : Nat} {K L T S O : Nat → Int32} (hc : c ≤ 28) (hfc : f < c) (hT : ∀ q, q < c → T q = K (rd_mo f t q)) (hS : ∀ q, q < c → S q = L (rd_mo f t q)) (hO : ∀ q, q < c → O q = nI (rd_mo f t q)) (ht : rd_lm K L f t c → post 1) (hf : ¬ rd_lm K L f t c → post 0) : wpX_isTrialLegal post (nI c, K, L, T, S, O) := by
  have e : rd_lg K L T S (rd_mo f t) c ↔ rd_lm K L f t c := rd_lg_cg hT hS (fun p hp => rfl)
  exact xm_tl (o := rd_mo f t) hc hO (fun q hq => rd_mo_lt hfc hq) hT (fun z => ht (e.mp z)) (fun z => hf (fun y => z (e.mpr y)))
end
section
/-! the reference's private methods, each against the pure picture -/
theorem ym_is {post : Int32 → Prop} {c : Nat} {K L A B P W : Nat → Int32} {x : Int32} (hc : c ≤ 28) (ht : ∀ j, j < c → x = nI j → post 1) (hf : (∀ j, j < c → ¬ x = nI j) → post 0) : wpY_is post (nI c, K, L, A, B, P, W) x := rd_ix hc ht hf
theorem ym_decl {post : Int32 → Prop} {c : Nat} {K L A B P W : Nat → Int32} {x : Int32} (hc : c ≤ 28) (ht : ∀ j, j < c → x = nI j → K j = 2 → post 1) (hf : (∀ j, j < c → x = nI j → ¬ K j = 2) → post 0) : wpY_declares post (nI c, K, L, A, B, P, W) x := by
  unfold wpY_declares
  dsimp only
  refine ym_is hc (fun j hj e => ?_) (fun h => ?_)
  · subst e
    refine br_f (by decide) ⟨rd_in (by omega), ?_⟩
    rw [nI_clamp (by omega)]
    refine br_c (fun h => ht j hj rfl h) (fun h => hf (fun i hi e => ?_))
    rw [nI_eq (by omega) (by omega)] at e
    rw [← e]
    exact h
  · exact br_t rfl (hf (fun j hj e => absurd e (h j hj)))
theorem ym_cp_l {post : SY → Prop} {c : Nat} {K L A B P W : Nat → Int32} (hp : post (nI c, K, L, rd_acc 28 K A, rd_acc 28 L B, rd_acc 28 nI P, W)) : ∀ e p, p + e = 28 → wY_copy_2 post (nI c) (e + 1) (nI p) K L (rd_acc p K A) (rd_acc p L B) (rd_acc p nI P) W := by
  intro e
  induction e with
  | zero =>
    intro p h
    have e : p = 28 := by omega
    subst e
    exact br_t (nI_le (a := 28) (b := 28) (Nat.le_refl _) (by omega)) hp
  | succ e ih =>
    intro p h
    have hi : vp_in (nI p) 28 := rd_in (by omega)
    refine br_f (nI_ge (a := p) (b := 28) (by omega) (by omega)) ⟨hi, hi, ?_⟩
    rw [nI_clamp (by omega)]
    exact nm_r (rd_acc_s rfl) ⟨hi, hi, nm_r (rd_acc_s rfl) ⟨hi, nm_r (rd_acc_s rfl) (nm_r (nI_1 p) (ih (p + 1) (by omega)))⟩⟩
theorem ym_cp {post : SY → Prop} {c : Nat} {K L A B P W : Nat → Int32} (hp : post (nI c, K, L, rd_acc 28 K A, rd_acc 28 L B, rd_acc 28 nI P, W)) : wpY_copy post (nI c, K, L, A, B, P, W) := by
  have h := ym_cp_l hp 28 0 (by omega)
  rw [rd_acc_0, rd_acc_0, rd_acc_0] at h
  exact ⟨29, h⟩
theorem ym_25 {post : Int32 → Prop} {J : Int32 → Int32 → Prop} {c p q : Nat} {K L A B P W : Nat → Int32} (hp : p < 28) (hq : q ≤ 28) (g1 : A p = 1 → J (nI (q + 1)) (rd_pr p)) (g0 : A p = 0 → J (nI q - 1) (rd_pr p)) (g2 : ¬ A p = 1 → ¬ A p = 0 → J (nI q) (rd_pr p)) : wY_around_25 post J (nI q) (nI p) (nI c) K L A B P W := by
  have hi : vp_in (nI p) 28 := rd_in hp
  refine ⟨hi, ?_⟩
  rw [nI_clamp (by omega)]
  by_cases h1 : A p = 1
  · exact br_t h1 (nm_r (nI_1 q) (nm_e (g1 h1)))
  · refine br_f h1 ⟨hi, ?_⟩
    by_cases h0 : A p = 0
    · exact br_t h0 (nm_e (nm_e (g0 h0)))
    · exact br_f h0 (nm_e (g2 h1 h0))
theorem ym_ar_l {post : Int32 → Prop} {c : Nat} {K L A B P W : Nat → Int32} : ∀ p q, q + p ≤ 28 → post (rd_op (rd_ar A p q)) → wY_around_6 post (nI c) K L A B P W (p + 1) (nI q) (rd_pr p) := by
  intro p
  induction p with
  | zero =>
    intro q _ hp
    rw [rd_ar_z] at hp
    exact br_t ((rd_pr_lt0 (by omega)).mpr rfl) hp
  | succ p ih =>
    intro q hq hp
    have hi : vp_in (nI p) 28 := rd_in (by omega)
    rw [rd_pr_s]
    refine br_f (nI_pos (by omega)) ⟨hi, ?_⟩
    rw [nI_clamp (by omega)]
    by_cases h0 : A p = 0
    · refine br_t h0 ?_
      cases q with
      | zero =>
        rw [rd_ar_0 h0] at hp
        exact br_t nI_0 hp
      | succ q =>
        rw [rd_ar_0s h0] at hp
        refine br_f (nI_ne0 (by omega) (by omega)) (ym_25 (by omega) (by omega) (fun h => ?_) (fun h => ?_) (fun _ h => absurd h0 h))
        · rw [h0] at h; exact absurd h (by decide)
        · rw [nI_pred]; exact ih q (by omega) hp
    · refine br_f h0 (ym_25 (by omega) (by omega) (fun h => ?_) (fun h => absurd h h0) (fun h1 _ => ?_))
      · rw [rd_ar_1 h] at hp; exact ih (q + 1) (by omega) hp
      · rw [rd_ar_2 h0 h1] at hp; exact ih q (by omega) hp
theorem ym_ar {post : Int32 → Prop} {c p : Nat} {K L A B P W : Nat → Int32} (hp28 : p ≤ 28) (hp : post (rd_op (rd_ar A p 0))) : wpY_around post (nI c, K, L, A, B, P, W) (nI p) :=
  nm_r (rd_pr_m p) ⟨p + 1, ym_ar_l p 0 (by omega) hp⟩
theorem ym_la_l {post : Int32 → Prop} {c : Nat} {K L A B P W : Nat → Int32} {n : Int32} {b : Option Nat} (hb : rd_lo b ≤ 28) : ∀ p, p ≤ 28 → post (rd_op (rd_la A B n b p)) → wY_last_5 post (rd_op b) n (nI c) K L A B P W (p + 1) (rd_pr p) := by
  have hbb : ∀ q, b = some q → q < 2 ^ 31 := fun q hq => by
    rw [hq] at hb
    have : q + 1 ≤ 28 := hb
    omega
  intro p
  induction p with
  | zero =>
    intro _ hp
    rw [rd_la] at hp
    exact br_t (by rw [rd_op_pr, rd_pr_le (by omega) (by omega)]; omega) hp
  | succ p ih =>
    intro h28 hp
    have hi : vp_in (nI p) 28 := rd_in (by omega)
    have hle : nI p ≤ rd_op b ↔ p + 1 ≤ rd_lo b := by rw [← rd_pr_s, rd_op_pr, rd_pr_le (by omega) (by omega)]
    rw [rd_pr_s]
    by_cases hl : p < rd_lo b
    · rw [rd_la_end hl] at hp
      exact br_t (hle.mpr hl) hp
    · have hl' : rd_lo b ≤ p := by omega
      refine br_f (fun z => hl (hle.mp z)) ⟨hi, ?_⟩
      rw [nI_clamp (by omega)]
      by_cases h2 : A p = 2
      · refine br_t h2 ⟨hi, ?_⟩
        by_cases h3 : B p = n
        · refine br_t h3 (ym_ar (by omega) ?_)
          by_cases h4 : rd_ar A p 0 = b
          · rw [rd_la_hit hl' ⟨h2, h3, h4⟩] at hp
            exact br_t (by rw [h4]) hp
          · rw [rd_la_skip hl' (fun z => h4 z.2.2)] at hp
            exact br_f (fun z => h4 ((rd_op_inj (rd_ar_b (by omega)) hbb).mp z)) (nm_e (ih (by omega) hp))
        · rw [rd_la_skip hl' (fun z => h3 z.2.1)] at hp
          exact br_f h3 (nm_e (ih (by omega) hp))
      · rw [rd_la_skip hl' (fun z => h2 z.1)] at hp
        exact br_f h2 (nm_e (ih (by omega) hp))
theorem ym_la {post : Int32 → Prop} {c u : Nat} {K L A B P W : Nat → Int32} {n : Int32} {b : Option Nat} (hb : rd_lo b ≤ 28) (hu : u ≤ 28) (hp : post (rd_op (rd_la A B n b u))) : wpY_last post (nI c, K, L, A, B, P, W) (rd_op b) (nI u) n :=
  nm_r (rd_pr_m u) ⟨u + 1, ym_la_l hb u hu hp⟩
theorem ym_bi_l {post : Int32 → Prop} {c u : Nat} {K L A B P W : Nat → Int32} {n : Int32} (hu : u ≤ 28) : ∀ f l b, f + l = 29 → rd_lo b ≤ 28 → post (rd_op (rd_bi A B n u f b)) → wY_bind_9 post (nI u) n (nI c) K L A B P W (f + 1) (rd_op b) (nI l) := by
  intro f
  induction f with
  | zero =>
    intro l b h _ hp
    rw [rd_bi] at hp
    exact br_t (nI_lt (a := 28) (b := l) (by omega) (by omega)) hp
  | succ f ih =>
    intro l b h hb hp
    refine br_f (nI_nlt (a := 28) (b := l) (by omega) (by omega)) (ym_la hb hu ?_)
    rw [rd_bi] at hp
    cases e : rd_la A B n b u with
    | some q =>
      rw [e] at hp
      have hq := rd_la_lt e
      exact br_t (nI_pos' (n := q) (by omega)) hp
    | none =>
      rw [e] at hp
      refine br_f (show ¬ (0 : Int32) ≤ -1 by decide) ?_
      cases b with
      | none => exact br_f (show ¬ (0 : Int32) ≤ -1 by decide) hp
      | some r =>
        have hr : r + 1 ≤ 28 := hb
        exact br_t (nI_pos' (n := r) (by omega)) (ym_ar (p := r) (by omega) (nm_r (nI_1 l) (ih (l + 1) (rd_ar A r 0) (by omega) (Nat.le_trans rd_ar_lo (by omega)) hp)))
theorem ym_bi {post : Int32 → Prop} {c u : Nat} {K L A B P W : Nat → Int32} {n : Int32} (hu : u ≤ 28) (hn : rd_nest A u) (hp : post (rd_op (rd_ds A B n u 0))) : wpY_bind post (nI c, K, L, A, B, P, W) (nI u) n := by
  unfold wpY_bind
  dsimp only
  refine ym_ar hu ⟨30, ?_⟩
  refine ym_bi_l hu 29 0 (rd_ar A u 0) (by omega) (Nat.le_trans rd_ar_lo hu) ?_
  rw [rd_bind hn (by omega)]
  exact hp
theorem rd_nest_cg {K A : Nat → Int32} {c p : Nat} (h : ∀ q, q < c → A q = K q) (hp : p ≤ c) (hn : rd_nest K c) : rd_nest A p := fun r hr => by
  rw [rd_dep_cg r (fun q hq => h q (by omega))]
  exact hn r (by omega)
theorem ym_ba_l {post : SY → Prop} {c : Nat} {K L A B P W : Nat → Int32} (hc : c ≤ 28) (hn : rd_nest K c) (hA : ∀ q, q < c → A q = K q) (hB : ∀ q, q < c → B q = L q) (hp : post (nI c, K, L, A, B, P, rd_acc c (rd_wa K L) W)) : ∀ e p, p + e = c → wY_bindAll_6 post (nI c) (e + 1) (nI p) K L A B P (rd_acc p (rd_wa K L) W) := by
  intro e
  induction e with
  | zero =>
    intro p h
    have e : p = c := by omega
    subst e
    exact br_t (nI_le (Nat.le_refl _) (by omega)) hp
  | succ e ih =>
    intro p h
    have hi : vp_in (nI p) 28 := rd_in (by omega)
    have hpc : p < c := by omega
    refine br_f (nI_ge hpc (by omega)) ⟨hi, ?_⟩
    rw [nI_clamp (show p < 2 ^ 31 by omega), hA p hpc, hB p hpc]
    have IH := ih (p + 1) (by omega)
    by_cases h3 : K p = 3
    · refine br_t h3 ⟨hi, ym_bi (by omega) (rd_nest_cg hA (by omega) hn) ⟨hi, nm_r (rd_acc_s ?_) (nm_r (nI_1 p) IH)⟩⟩
      rw [rd_wa_3 h3, rd_ds_cg p 0 (fun q hq => hA q (by omega)) (fun q hq => hB q (by omega))]
    · exact br_f h3 ⟨hi, nm_r (rd_acc_s (rd_wa_n h3).symm) (nm_r (nI_1 p) IH)⟩
/-- after bindAll: the copies are the program's, was is rd_wa -/
def rd_bd (K L : Nat → Int32) (c : Nat) (A B P W : Nat → Int32) : Prop := (∀ q, q < 28 → A q = K q) ∧ (∀ q, q < 28 → B q = L q) ∧ (∀ q, q < 28 → P q = nI q) ∧ (∀ q, q < c → W q = rd_wa K L q)
theorem ym_ba {post : SY → Prop} {c : Nat} {K L A B P W : Nat → Int32} (hc : c ≤ 28) (hn : rd_nest K c) (hp : ∀ A B P W : Nat → Int32, rd_bd K L c A B P W → post (nI c, K, L, A, B, P, W)) : wpY_bindAll post (nI c, K, L, A, B, P, W) := by
  unfold wpY_bindAll
  dsimp only
  refine ym_cp ?_
  dsimp only
  have h := ym_ba_l (A := rd_acc 28 K A) (B := rd_acc 28 L B) (P := rd_acc 28 nI P) (W := W) hc hn (fun q hq => rd_acc_lt (by omega)) (fun q hq => rd_acc_lt (by omega)) (hp _ _ _ _ ⟨fun q hq => rd_acc_lt hq, fun q hq => rd_acc_lt hq, fun q hq => rd_acc_lt hq, fun q hq => rd_acc_lt hq⟩) c 0 (by omega)
  rw [rd_acc_0 (rd_wa K L)] at h
  exact ⟨c + 1, h⟩
theorem ym_lg_0 {post : Int32 → Prop} {c : Nat} {K L A B P W : Nat → Int32} (hc : c ≤ 28) (hn : rd_nest A c) (hp : post 0) : ∀ e p, p + e = c → wY_legal_4 post (nI c) K L A B P W (e + 1) 0 (nI p) := by
  intro e
  induction e with
  | zero =>
    intro p h
    exact br_t (nI_le (by omega) (by omega)) ⟨rfl, hp⟩
  | succ e ih =>
    intro p h
    have hi : vp_in (nI p) 28 := rd_in (by omega)
    refine br_f (nI_ge (by omega) (by omega)) ⟨hi, ?_⟩
    rw [nI_clamp (show p < 2 ^ 31 by omega)]
    have IH := ih (p + 1) (by omega)
    by_cases h3 : A p = 3
    · exact br_t h3 ⟨hi, ym_bi (by omega) (rd_nest_le hn (by omega)) (br_t rfl (nm_r (nI_1 p) IH))⟩
    · exact br_f h3 (nm_r (nI_1 p) IH)
theorem ym_63 {post : Int32 → Prop} {J : Int32 → Int32 → Prop} {c p : Nat} {K L A B P W : Nat → Int32} {x y : Int32} (g1 : y = x → J 1 (nI (p + 1))) (g0 : ¬ y = x → J 0 (nI (p + 1))) : wY_legal_63 post J (nI p) x y (nI c) K L A B P W :=
  br_c (fun h => nm_r (nI_1 p) (g1 h)) (fun h => nm_r (nI_1 p) (g0 h))
theorem ym_lg_1 {post : Int32 → Prop} {c : Nat} {K L K0 L0 A B P W : Nat → Int32} {o : Nat → Nat} (hc : c ≤ 28) (hn : rd_nest A c) (hP : ∀ q, q < c → P q = nI (o q)) (ho : ∀ q, q < c → o q < c) (hW : ∀ q, q < c → W q = rd_wa K0 L0 q) (ht : rd_lg K0 L0 A B o c → post 1) (hf : ¬ rd_lg K0 L0 A B o c → post 0) : ∀ e p, p + e = c → (∀ q, q < p → A q = 3 → rd_om o (rd_ds A B (B q) q 0) = rd_wa K0 L0 (o q)) → wY_legal_4 post (nI c) K L A B P W (e + 1) 1 (nI p) := by
  intro e
  induction e with
  | zero =>
    intro p h H
    have e : p = c := by omega
    subst e
    exact br_t (nI_le (Nat.le_refl _) (by omega)) ⟨rfl, ht H⟩
  | succ e ih =>
    intro p h H
    have hi : vp_in (nI p) 28 := rd_in (by omega)
    have hpc : p < c := by omega
    have hop := ho p hpc
    refine br_f (nI_ge hpc (by omega)) ⟨hi, ?_⟩
    rw [nI_clamp (show p < 2 ^ 31 by omega)]
    by_cases h3 : A p = 3
    · have g1 : rd_wa K0 L0 (o p) = rd_om o (rd_ds A B (B p) p 0) → wY_legal_4 post (nI c) K L A B P W (e + 1) 1 (nI (p + 1)) := fun he => ih (p + 1) (by omega) (fun q hq hq3 => by
        by_cases e2 : q = p
        · rw [e2]; exact he.symm
        · exact H q (by omega) hq3)
      have g0 : ¬ rd_wa K0 L0 (o p) = rd_om o (rd_ds A B (B p) p 0) → wY_legal_4 post (nI c) K L A B P W (e + 1) 0 (nI (p + 1)) := fun he => ym_lg_0 hc hn (hf (fun G => he (G p hpc h3).symm)) e (p + 1) (by omega)
      refine br_t h3 ⟨hi, ym_bi (by omega) (rd_nest_le hn (by omega)) (br_f (by decide) ⟨hi, ?_⟩)⟩
      rw [hP p hpc, nI_clamp (show o p < 2 ^ 31 by omega), hW (o p) hop]
      refine ⟨rd_in (by omega), ?_⟩
      cases ed : rd_ds A B (B p) p 0 with
      | none =>
        rw [ed] at g1 g0
        exact br_f (show ¬ (0 : Int32) ≤ -1 by decide) (ym_63 g1 g0)
      | some q =>
        rw [ed] at g1 g0
        have hq := (rd_ds_some ed).1
        refine br_t (nI_pos' (n := q) (by omega)) ⟨rd_in (p := q) (by omega), ?_⟩
        have hcl : (rd_op (some q)).toNatClampNeg = q := nI_clamp (n := q) (by omega)
        rw [hcl, hP q (by omega)]
        exact ym_63 g1 g0
    · refine br_f h3 (nm_r (nI_1 p) (ih (p + 1) (by omega) (fun q hq hq3 => ?_)))
      by_cases e2 : q = p
      · rw [e2] at hq3; exact absurd hq3 h3
      · exact H q (by omega) hq3
theorem ym_lg {post : Int32 → Prop} {c : Nat} {K L K0 L0 A B P W : Nat → Int32} {o : Nat → Nat} (hc : c ≤ 28) (hn : rd_nest A c) (hP : ∀ q, q < c → P q = nI (o q)) (ho : ∀ q, q < c → o q < c) (hW : ∀ q, q < c → W q = rd_wa K0 L0 q) (ht : rd_lg K0 L0 A B o c → post 1) (hf : ¬ rd_lg K0 L0 A B o c → post 0) : wpY_legal post (nI c, K, L, A, B, P, W) :=
  ⟨c + 1, ym_lg_1 hc hn hP ho hW ht hf c 0 (by omega) (fun q hq => absurd hq (Nat.not_lt_zero q))⟩
theorem ym_ac_l {post : SY → Prop} {c : Nat} {K L A B P W : Nat → Int32} (hc : c ≤ 28) (hp : post (nI c, rd_acc c A K, rd_acc c B L, A, B, P, W)) : ∀ e p, p + e = c → wY_accept_2 post (nI c) (e + 1) (nI p) (rd_acc p A K) (rd_acc p B L) A B P W := by
  intro e
  induction e with
  | zero =>
    intro p h
    have e : p = c := by omega
    subst e
    exact br_t (nI_le (Nat.le_refl _) (by omega)) hp
  | succ e ih =>
    intro p h
    have hi : vp_in (nI p) 28 := rd_in (by omega)
    refine br_f (nI_ge (by omega) (by omega)) ⟨hi, hi, ?_⟩
    rw [nI_clamp (by omega)]
    exact nm_r (rd_acc_s rfl) ⟨hi, hi, nm_r (rd_acc_s rfl) (nm_r (nI_1 p) (ih (p + 1) (by omega)))⟩
theorem ym_ac {post : SY → Prop} {c : Nat} {K L A B P W : Nat → Int32} (hc : c ≤ 28) (hp : post (nI c, rd_acc c A K, rd_acc c B L, A, B, P, W)) : wpY_accept post (nI c, K, L, A, B, P, W) := by
  have h := ym_ac_l hc hp c 0 (by omega)
  rw [rd_acc_0, rd_acc_0] at h
  exact ⟨c + 1, h⟩
theorem ym_op_l {post : Int32 → Prop} {c : Nat} {K L A B P W : Nat → Int32} (hm : c ≤ 28) (hp : post (rd_oc K c)) : ∀ d p, p + d = c → wY_open_4 post (nI c) K L A B P W (d + 1) (rd_oc K p) (nI p) := by
  intro d
  induction d with
  | zero =>
    intro p h
    have e : p = c := by omega
    subst e
    exact br_t (nI_le (Nat.le_refl _) (by omega)) hp
  | succ d ih =>
    intro p h
    refine br_f (nI_ge (by omega) (by omega)) ⟨rd_in (by omega), ?_⟩
    rw [nI_clamp (by omega)]
    have IH := ih (p + 1) (by omega)
    by_cases h0 : K p = 0
    · exact br_t h0 (nm_r (rd_oc_0 h0).symm (nm_r (nI_1 p) IH))
    · by_cases h1 : K p = 1
      · exact br_f h0 ⟨rd_in (by omega), br_t h1 (nm_r (rd_oc_1 h1).symm (nm_r (nI_1 p) IH))⟩
      · rw [rd_oc_2 h0 h1] at IH
        exact br_f h0 ⟨rd_in (by omega), br_f h1 (nm_r (nI_1 p) IH)⟩
theorem ym_op {post : Int32 → Prop} {c : Nat} {K L A B P W : Nat → Int32} (hc : c ≤ 28) (hp : post (rd_oc K c)) : wpY_open post (nI c, K, L, A, B, P, W) :=
  ⟨c + 1, ym_op_l hc hp c 0 (by omega)⟩
theorem ym_pl {post : SY → Prop} {c k p : Nat} {K L A B P W : Nat → Int32} (hk : k < 28) (hp28 : p < 28) (hp : post (nI c, K, L, upd A p (K k), upd B p (L k), upd P p (nI k), W)) : wpY_place post (nI c, K, L, A, B, P, W) (nI k) (nI p) := by
  have h1 : vp_in (nI k) 28 := rd_in hk
  have h2 : vp_in (nI p) 28 := rd_in hp28
  unfold wpY_place
  dsimp only
  rw [nI_clamp (show k < 2 ^ 31 by omega), nI_clamp (show p < 2 ^ 31 by omega)]
  exact ⟨h1, h2, nm_e ⟨h1, h2, nm_e ⟨h2, nm_e hp⟩⟩⟩
end
section
/-! the reference's rename and moves -/
theorem ym_rl_l {post : Int32 → SY → Prop} {c k : Nat} {K L A B P W : Nat → Int32} {m : Int32} (hc : c ≤ 28) (hk : k < c) (hn : rd_nest K c) (hA : ∀ q, q < c → A q = K q) (hB : ∀ q, q < c → B q = L q) (hP : ∀ q, q < c → P q = nI q) (hW : ∀ q, q < c → W q = rd_wa K L q)
    (ht : rd_lr K L k m c → post 1 (nI c, K, L, A, rd_acc c (rd_rn K L k m) B, P, W)) (hf : ¬ rd_lr K L k m c → post 0 (nI c, K, L, A, rd_acc c (rd_rn K L k m) B, P, W)) : ∀ e p, p + e = c → wY_renamed_6 post (nI k) m (nI c) (e + 1) (nI p) K L A (rd_acc p (rd_rn K L k m) B) P W := by
  intro e
  induction e with
  | zero =>
    intro p h
    have e : p = c := by omega
    subst e
    have e : rd_lg K L A (rd_acc p (rd_rn K L k m) B) (fun q => q) p ↔ rd_lr K L k m p := rd_lg_cg hA (fun q hq => rd_acc_lt hq) (fun q hq => rfl)
    exact br_t (nI_le (Nat.le_refl _) (by omega)) (ym_lg (o := fun q => q) (K0 := K) (L0 := L) hc (rd_nest_cg hA (Nat.le_refl _) hn) hP (fun q hq => hq) hW (fun z => ⟨rfl, ht (e.mp z)⟩) (fun z => ⟨rfl, hf (fun y => z (e.mpr y))⟩))
  | succ e ih =>
    intro p h
    have hi : vp_in (nI p) 28 := rd_in (by omega)
    have hpc : p < c := by omega
    have IH := ih (p + 1) (by omega)
    refine br_f (nI_ge hpc (by omega)) ?_
    rw [nI_clamp (show p < 2 ^ 31 by omega), hW p hpc]
    by_cases hpk : p = k
    · exact br_t (by rw [hpk]) ⟨hi, nm_r (rd_acc_s (rd_rn_t (rd_rb_i.mpr (Or.inl hpk))).symm) (nm_r (nI_1 p) IH)⟩
    · refine br_f (fun z => hpk ((nI_eq (by omega) (by omega)).mp z)) ⟨hi, ?_⟩
      by_cases hw : rd_wa K L p = nI k
      · exact br_t hw ⟨hi, nm_r (rd_acc_s (rd_rn_t (rd_rb_i.mpr (Or.inr hw))).symm) (nm_r (nI_1 p) IH)⟩
      · have hr : ¬ rd_rb K L k p = true := fun z => (rd_rb_i.mp z).elim hpk hw
        exact br_f hw ⟨hi, hi, nm_r (rd_acc_s (by rw [rd_acc_ge (Nat.lt_irrefl p), hB p hpc, rd_rn_f hr])) (nm_r (nI_1 p) IH)⟩
theorem ym_rl {post : Int32 → SY → Prop} {c k : Nat} {K L A B P W : Nat → Int32} {m : Int32} (hc : c ≤ 28) (hk : k < c) (hn : rd_nest K c)
    (ht : rd_lr K L k m c → ∀ A B P W : Nat → Int32, (∀ q, q < c → A q = K q) → (∀ q, q < c → B q = rd_rn K L k m q) → post 1 (nI c, K, L, A, B, P, W)) (hf : ¬ rd_lr K L k m c → ∀ A B P W : Nat → Int32, post 0 (nI c, K, L, A, B, P, W)) : wpY_renamed post (nI c, K, L, A, B, P, W) (nI k) m := by
  unfold wpY_renamed
  dsimp only
  refine ym_ba hc hn (fun A B P W hb => ?_)
  dsimp only
  obtain ⟨hA, hB, hP, hW⟩ := hb
  have hA' : ∀ q, q < c → A q = K q := fun q hq => hA q (by omega)
  have h := ym_rl_l (post := post) (m := m) hc hk hn hA' (fun q hq => hB q (by omega)) (fun q hq => hP q (by omega)) hW (fun z => ht z A _ P W hA' (fun q hq => rd_acc_lt hq)) (fun z => hf z A _ P W) c 0 (by omega)
  rw [rd_acc_0] at h
  exact ⟨c + 1, h⟩
/-- the token of k stands at t, those of t .. p - 1 one place higher -/
def rd_mq (k t p : Nat) (K A : Nat → Int32) : Nat → Int32 := fun q => if q = t then K k else if t < q ∧ q ≤ p then K (q - 1) else A q
theorem rd_mq_0 (k t : Nat) (K A : Nat → Int32) : upd A t (K k) = rd_mq k t t K A := by
  funext q
  by_cases e : q = t
  · rw [e, pk_us, rd_mq, if_pos rfl]
  · rw [pk_un e, rd_mq, if_neg e, if_neg (by omega)]
theorem rd_mq_s {k t p : Nat} {K A : Nat → Int32} (h : t ≤ p) : upd (rd_mq k t p K A) (p + 1) (K p) = rd_mq k t (p + 1) K A := by
  funext q
  by_cases e : q = p + 1
  · rw [e, pk_us, rd_mq, if_neg (by omega), if_pos (by omega), Nat.add_sub_cancel]
  · rw [pk_un e, rd_mq, rd_mq]
    by_cases e1 : q = t
    · rw [if_pos e1, if_pos e1]
    · rw [if_neg e1, if_neg e1]
      by_cases e2 : t < q ∧ q ≤ p
      · rw [if_pos e2, if_pos (by omega)]
      · rw [if_neg e2, if_neg (by omega)]
theorem rd_mq_e {k t c : Nat} {K A : Nat → Int32} (hA : ∀ q, q < c → A q = K q) : ∀ q, q < c → rd_mq k t k K A q = K (rd_mo k t q) := by
  intro q hq
  rw [rd_mq, rd_mo]
  by_cases e1 : q = t
  · rw [if_pos e1, if_pos e1]
  · rw [if_neg e1, if_neg e1]
    by_cases e2 : t < q ∧ q ≤ k
    · rw [if_pos e2, if_pos e2]
    · rw [if_neg e2, if_neg e2, hA q hq]
theorem rd_sw_e {k c : Nat} {K A : Nat → Int32} (hA : ∀ q, q < c → A q = K q) : ∀ q, q < c → upd (upd A (k + 1) (K k)) k (K (k + 1)) q = K (rd_mo (k + 1) k q) := by
  intro q hq
  by_cases e1 : q = k
  · rw [e1, pk_us, rd_mo, if_pos rfl]
  · rw [pk_un e1, rd_mo, if_neg e1]
    by_cases e2 : q = k + 1
    · rw [e2, pk_us, if_pos (by omega), Nat.add_sub_cancel]
    · rw [pk_un e2, if_neg (by omega), hA q hq]
theorem ym_ml {post : Int32 → Prop} {c f t : Nat} {K L A B P W : Nat → Int32} (hc : c ≤ 28) (H : rd_ok K c) (htf : t ≤ f) (hfc : f < c) (h2 : K f = 2 ∨ K f = 3) (hT : ∀ q, q < c → A q = K (rd_mo f t q)) (hS : ∀ q, q < c → B q = L (rd_mo f t q)) (hO : ∀ q, q < c → P q = nI (rd_mo f t q)) (hW : ∀ q, q < c → W q = rd_wa K L q) (ht : rd_lm K L f t c → post 1) (hf : ¬ rd_lm K L f t c → post 0) : wpY_legal post (nI c, K, L, A, B, P, W) := by
  have e : rd_lg K L A B (rd_mo f t) c ↔ rd_lm K L f t c := rd_lg_cg hT hS (fun p hp => rfl)
  exact ym_lg (o := rd_mo f t) (K0 := K) (L0 := L) hc (rd_ok_mv H htf hfc h2 hT).1 hO (fun q hq => rd_mo_lt hfc hq) hW (fun z => ht (e.mp z)) (fun z => hf (fun y => z (e.mpr y)))
theorem ym_mo_l {post : Int32 → SY → Prop} {c k t : Nat} {K L A B P W : Nat → Int32} (hc : c ≤ 28) (H : rd_ok K c) (hkc : k < c) (h2 : K k = 2) (hA : ∀ q, q < c → A q = K q) (hB : ∀ q, q < c → B q = L q) (hP : ∀ q, q < c → P q = nI q) (hW : ∀ q, q < c → W q = rd_wa K L q)
    (ht : rd_lm K L k t c → ∀ A B P W : Nat → Int32, (∀ q, q < c → A q = K (rd_mo k t q)) → (∀ q, q < c → B q = L (rd_mo k t q)) → post (nI t) (nI c, rd_acc c A K, rd_acc c B L, A, B, P, W)) (hf : ¬ rd_lm K L k t c → ∀ A B P W : Nat → Int32, post (-3) (nI c, K, L, A, B, P, W)) : ∀ e p, p + e = k → t ≤ p → wY_moveOut_36 post (nI k) (nI t) (e + 1) (nI p) (nI c) K L (rd_mq k t p K A) (rd_mq k t p L B) (rd_mq k t p nI P) W := by
  intro e
  induction e with
  | zero =>
    intro p h htp
    have e : p = k := by omega
    subst e
    exact br_t (nI_le (Nat.le_refl _) (by omega)) (ym_ml hc H htp hkc (Or.inl h2) (rd_mq_e hA) (rd_mq_e hB) (rd_mq_e hP) hW (fun z => br_f (by decide) (ym_ac hc (ht z _ _ _ _ (rd_mq_e hA) (rd_mq_e hB)))) (fun z => br_t rfl (hf z _ _ _ _)))
  | succ e ih =>
    intro p h htp
    refine br_f (nI_ge (by omega) (by omega)) ?_
    rw [nI_1 p]
    refine ym_pl (by omega) (by omega) ?_
    dsimp only
    rw [rd_mq_s htp, rd_mq_s htp, rd_mq_s htp]
    exact nm_e (ih (p + 1) (by omega) (by omega))
theorem ym_mo {post : Int32 → SY → Prop} {c : Nat} {K L A B P W : Nat → Int32} {x : Int32} (hc : c ≤ 28) (H : rd_ok K c)
    (hN : (∀ k t, k < c → x = nI k → K k = 2 → ¬ rd_ar K k 0 = some t) → ∀ A B P W : Nat → Int32, post (-1) (nI c, K, L, A, B, P, W))
    (ht : ∀ k t, k < c → x = nI k → K k = 2 → rd_ar K k 0 = some t → rd_lm K L k t c → ∀ A B P W : Nat → Int32, (∀ q, q < c → A q = K (rd_mo k t q)) → (∀ q, q < c → B q = L (rd_mo k t q)) → post (nI t) (nI c, rd_acc c A K, rd_acc c B L, A, B, P, W))
    (hf : ∀ k t, k < c → x = nI k → K k = 2 → rd_ar K k 0 = some t → ¬ rd_lm K L k t c → ∀ A B P W : Nat → Int32, post (-3) (nI c, K, L, A, B, P, W)) : wpY_moveOut post (nI c, K, L, A, B, P, W) x := by
  unfold wpY_moveOut
  dsimp only
  refine ym_ba hc H.1 (fun A B P W hb => ?_)
  dsimp only
  obtain ⟨hA, hB, hP, hW⟩ := hb
  refine ym_decl hc (fun k hk e h2 => ?_) (fun h => ?_)
  · subst e
    refine br_f (by decide) (ym_ar (by omega) ?_)
    rw [rd_ar_cg k 0 (fun q hq => hA q (by omega))]
    cases e : rd_ar K k 0 with
    | none =>
      refine br_f (show ¬ (0 : Int32) ≤ -1 by decide) (hN (fun k' t hk' ek _ ea => ?_) A B P W)
      rw [nI_eq (by omega) (by omega)] at ek
      rw [← ek, e] at ea
      cases ea
    | some t =>
      have htk := rd_ar_lt e
      refine br_t (nI_pos' (n := t) (by omega)) (ym_pl (k := k) (p := t) (by omega) (by omega) ?_)
      dsimp only
      rw [rd_mq_0, rd_mq_0, rd_mq_0]
      exact ⟨k - t + 1, ym_mo_l hc H hk h2 (fun q hq => hA q (by omega)) (fun q hq => hB q (by omega)) (fun q hq => hP q (by omega)) hW (ht k t hk rfl h2 e) (hf k t hk rfl h2 e) (k - t) t (by omega) (Nat.le_refl t)⟩
  · exact br_t rfl (br_f (show ¬ (0 : Int32) ≤ -1 by decide) (hN (fun k t hk e h2 _ => h k hk e h2) A B P W))
theorem ym_co_l {post : Int32 → SY → Prop} {c k t : Nat} {K L A B P W : Nat → Int32} (hc : c ≤ 28) (H : rd_ok K c) (hkc : k < c) (h2 : K k = 2) (hA : ∀ q, q < c → A q = K q) (hB : ∀ q, q < c → B q = L q) (hP : ∀ q, q < c → P q = nI q) (hW : ∀ q, q < c → W q = rd_wa K L q)
    (ht : rd_lm K L k t c → ∀ A B P W : Nat → Int32, post 1 (nI c, K, L, A, B, P, W)) (hf : ¬ rd_lm K L k t c → ∀ A B P W : Nat → Int32, post 0 (nI c, K, L, A, B, P, W)) : ∀ e p, p + e = k → t ≤ p → wY_canMoveOut_36 post (nI k) (e + 1) (nI p) (nI c) K L (rd_mq k t p K A) (rd_mq k t p L B) (rd_mq k t p nI P) W := by
  intro e
  induction e with
  | zero =>
    intro p h htp
    have e : p = k := by omega
    subst e
    exact br_t (nI_le (Nat.le_refl _) (by omega)) (ym_ml hc H htp hkc (Or.inl h2) (rd_mq_e hA) (rd_mq_e hB) (rd_mq_e hP) hW (fun z => ⟨rfl, ht z _ _ _ _⟩) (fun z => ⟨rfl, hf z _ _ _ _⟩))
  | succ e ih =>
    intro p h htp
    refine br_f (nI_ge (by omega) (by omega)) ?_
    rw [nI_1 p]
    refine ym_pl (by omega) (by omega) ?_
    dsimp only
    rw [rd_mq_s htp, rd_mq_s htp, rd_mq_s htp]
    exact nm_e (ih (p + 1) (by omega) (by omega))
theorem ym_co {post : Int32 → SY → Prop} {c : Nat} {K L A B P W : Nat → Int32} {x : Int32} (hc : c ≤ 28) (H : rd_ok K c)
    (hN : (∀ k t, k < c → x = nI k → K k = 2 → ¬ rd_ar K k 0 = some t) → ∀ A B P W : Nat → Int32, post 0 (nI c, K, L, A, B, P, W))
    (ht : ∀ k t, k < c → x = nI k → K k = 2 → rd_ar K k 0 = some t → rd_lm K L k t c → ∀ A B P W : Nat → Int32, post 1 (nI c, K, L, A, B, P, W))
    (hf : ∀ k t, k < c → x = nI k → K k = 2 → rd_ar K k 0 = some t → ¬ rd_lm K L k t c → ∀ A B P W : Nat → Int32, post 0 (nI c, K, L, A, B, P, W)) : wpY_canMoveOut post (nI c, K, L, A, B, P, W) x := by
  unfold wpY_canMoveOut
  dsimp only
  refine ym_ba hc H.1 (fun A B P W hb => ?_)
  dsimp only
  obtain ⟨hA, hB, hP, hW⟩ := hb
  refine ym_decl hc (fun k hk e h2 => ?_) (fun h => ?_)
  · subst e
    refine br_f (by decide) (ym_ar (by omega) ?_)
    rw [rd_ar_cg k 0 (fun q hq => hA q (by omega))]
    cases e : rd_ar K k 0 with
    | none =>
      refine br_f (show ¬ (0 : Int32) ≤ -1 by decide) (hN (fun k' t hk' ek _ ea => ?_) A B P W)
      rw [nI_eq (by omega) (by omega)] at ek
      rw [← ek, e] at ea
      cases ea
    | some t =>
      have htk := rd_ar_lt e
      refine br_t (nI_pos' (n := t) (by omega)) (ym_pl (k := k) (p := t) (by omega) (by omega) ?_)
      dsimp only
      rw [rd_mq_0, rd_mq_0, rd_mq_0]
      exact ⟨k - t + 1, ym_co_l hc H hk h2 (fun q hq => hA q (by omega)) (fun q hq => hB q (by omega)) (fun q hq => hP q (by omega)) hW (ht k t hk rfl h2 e) (hf k t hk rfl h2 e) (k - t) t (by omega) (Nat.le_refl t)⟩
  · exact br_t rfl (br_f (show ¬ (0 : Int32) ≤ -1 by decide) (hN (fun k t hk e h2 _ => h k hk e h2) A B P W))
/-- the component's move out, tried -/
theorem xm_mo {post : Int32 → SX → Prop} {c : Nat} {K L T S O : Nat → Int32} {x : Int32} (hc : c ≤ 28)
    (hN : (∀ k t, k < c → x = nI k → K k = 2 → ¬ rd_ar K k 0 = some t) → post (-1) (nI c, K, L, T, S, O))
    (ht : ∀ k t, k < c → x = nI k → K k = 2 → rd_ar K k 0 = some t → rd_lm K L k t c → ∀ T S O : Nat → Int32, (∀ q, q < c → T q = K (rd_mo k t q)) → (∀ q, q < c → S q = L (rd_mo k t q)) → post (nI t) (nI c, K, L, T, S, O))
    (hf : ∀ k t, k < c → x = nI k → K k = 2 → rd_ar K k 0 = some t → ¬ rd_lm K L k t c → ∀ T S O : Nat → Int32, post (-3) (nI c, K, L, T, S, O)) : wpX_tryMoveOut post (nI c, K, L, T, S, O) x := by
  unfold wpX_tryMoveOut
  dsimp only
  refine xm_kind hc (fun k hk e h2 => ?_) (fun h => ?_)
  · subst e
    refine br_f (by decide) (xm_oa (by omega) ?_)
    cases e : rd_ar K k 0 with
    | none =>
      refine br_t rfl (hN (fun k' t hk' ek _ ea => ?_))
      rw [nI_eq (by omega) (by omega)] at ek
      rw [← ek, e] at ea
      cases ea
    | some t =>
      have htk := rd_ar_lt e
      refine br_f (rd_nm1 (q := t) (by omega)) (xm_mb (f := k) (t := t) hc hk (by omega) (fun T S O hT hS hO => ?_))
      dsimp only
      exact xm_ml hc hk hT hS hO (fun z => br_f (by decide) (ht k t hk rfl h2 e z T S O hT hS)) (fun z => br_t rfl (hf k t hk rfl h2 e z T S O))
  · exact br_t rfl (hN (fun k t hk e h2 _ => h k hk e h2))
end
section
/-! the public methods of both sides -/
/-- add: which tokens are taken, and the name that is kept -/
def rd_gd (K : Nat → Int32) (c : Nat) (x n : Int32) : Prop := x = 0 ∨ (x = 1 ∧ ¬ rd_oc K c = 0) ∨ ((x = 2 ∨ x = 3) ∧ ¬ n < 0 ∧ ¬ 8 ≤ n)
def rd_lb (x n : Int32) : Int32 := if x = 2 ∨ x = 3 then n else 0
theorem rd_78 (x : Int32) : x ≤ 7 ↔ ¬ 8 ≤ x := by
  rw [Int32.le_iff_toInt_le, Int32.le_iff_toInt_le, show (7 : Int32).toInt = 7 from by decide, show (8 : Int32).toInt = 8 from by decide]
  omega
theorem xm_28 {post : Int32 → SX → Prop} {c : Nat} {K L T S O : Nat → Int32} {x n : Int32} (hc : c ≤ 28) (hF : ¬ c < 28 → post (-2) (nI c, K, L, T, S, O)) (hG : c < 28 → post (nI c) (nI (c + 1), upd K c x, upd L c (rd_lb x n), T, S, O)) : wX_add_28 post x n (nI c) K L T S O := by
  refine pk_lt c 28 (fun h => ⟨rd_in h, ?_⟩) (fun h => hF (by omega))
  rw [nI_clamp (by omega)]
  have hG' := hG h
  unfold rd_lb at hG'
  refine nm_e (xm_has (fun hl => ?_) (fun h2 h3 => ?_))
  · rw [if_pos hl] at hG'
    refine br_f (by decide) ⟨rd_in h, ?_⟩
    rw [nI_clamp (by omega)]
    exact nm_e (nm_r (nI_1 c) hG')
  · rw [if_neg (fun z => z.elim h2 h3)] at hG'
    refine br_t rfl ⟨rd_in h, ?_⟩
    rw [nI_clamp (by omega)]
    exact nm_e (nm_r (nI_1 c) hG')
theorem xm_add {post : Int32 → SX → Prop} {c : Nat} {K L T S O : Nat → Int32} {x n : Int32} (hc : c ≤ 28) (hN : ¬ rd_gd K c x n → post (-1) (nI c, K, L, T, S, O)) (hF : rd_gd K c x n → ¬ c < 28 → post (-2) (nI c, K, L, T, S, O)) (hG : rd_gd K c x n → c < 28 → post (nI c) (nI (c + 1), upd K c x, upd L c (rd_lb x n), T, S, O)) : wpX_add post (nI c, K, L, T, S, O) x n := by
  unfold wpX_add
  dsimp only
  refine xm_token (fun h => br_f (by decide) ?_) (fun h0 h1 h => br_t rfl (hN (fun g => ?_)))
  · by_cases h1 : x = 1
    · refine br_t h1 (xm_oc hc (br_c (fun z => hN (fun g => ?_)) (fun z => ?_)))
      · rcases g with g | g | g
        · rw [h1] at g; exact absurd g (by decide)
        · exact g.2 z
        · rw [h1] at g; exact absurd g.1 (by decide)
      · have g : rd_gd K c x n := Or.inr (Or.inl ⟨h1, z⟩)
        exact xm_28 hc (hF g) (hG g)
    · have g : rd_gd K c x n := by
        rcases h with h | h | h
        · exact Or.inl h
        · exact absurd h h1
        · exact Or.inr (Or.inr h)
      exact br_f h1 (xm_28 hc (hF g) (hG g))
  · rcases g with g | g | g
    · exact h0 g
    · exact h1 g.1
    · rcases h with h | h | h
      · exact g.1.elim h.1 h.2
      · exact g.2.1 h
      · exact g.2.2 h
theorem ym_53 {post : Int32 → SY → Prop} {c : Nat} {K L A B P W : Nat → Int32} {x n z : Int32} (hz : (z = 0 ∧ ¬ (x = 2 ∨ x = 3)) ∨ (z = 1 ∧ (x = 2 ∨ x = 3))) (hc : c ≤ 28) (hF : ¬ c < 28 → post (-2) (nI c, K, L, A, B, P, W)) (hG : c < 28 → post (nI c) (nI (c + 1), upd K c x, upd L c (rd_lb x n), A, B, P, W)) : wY_add_53 post x n z (nI c) K L A B P W := by
  refine pk_lt c 28 (fun h => ⟨rd_in h, ?_⟩) (fun h => hF (by omega))
  rw [nI_clamp (by omega)]
  have hG' := hG h
  unfold rd_lb at hG'
  refine nm_e ?_
  rcases hz with ⟨hz, hl⟩ | ⟨hz, hl⟩
  · rw [if_neg hl] at hG'
    refine br_t hz ⟨rd_in h, ?_⟩
    rw [nI_clamp (by omega)]
    refine nm_e (nm_r (nI_1 c) ?_)
    rw [nI_pred]
    exact hG'
  · rw [if_pos hl] at hG'
    refine br_f (by rw [hz]; decide) ⟨rd_in h, ?_⟩
    rw [nI_clamp (by omega)]
    refine nm_e (nm_r (nI_1 c) ?_)
    rw [nI_pred]
    exact hG'
theorem ym_15 {post : Int32 → SY → Prop} {c : Nat} {K L A B P W : Nat → Int32} {x n z : Int32} (hz : (z = 0 ∧ ¬ (x = 2 ∨ x = 3)) ∨ (z = 1 ∧ (x = 2 ∨ x = 3))) (hc : c ≤ 28) (hN : ¬ rd_gd K c x n → post (-1) (nI c, K, L, A, B, P, W)) (hF : rd_gd K c x n → ¬ c < 28 → post (-2) (nI c, K, L, A, B, P, W)) (hG : rd_gd K c x n → c < 28 → post (nI c) (nI (c + 1), upd K c x, upd L c (rd_lb x n), A, B, P, W)) : wY_add_15 post x n z (nI c) K L A B P W := by
  have hbad : ∀ {y : Prop}, (rd_gd K c x n → x = 0 ∨ x = 1 ∨ x = 2 ∨ x = 3) := by
    intro _ g
    rcases g with g | g | g
    · exact Or.inl g
    · exact Or.inr (Or.inl g.1)
    · exact Or.inr (Or.inr g.1)
  refine br_c (fun h => hN (fun g => ?_)) (fun h => br_c (fun h3 => hN (fun g => ?_)) (fun h3 => ?_))
  · rcases hbad (y := True) g with e | e | e | e <;> (rw [e] at h; exact absurd h (by decide))
  · rcases hbad (y := True) g with e | e | e | e <;> (rw [e] at h3; exact absurd h3 (by decide))
  · have h37 : ∀ (g1 : x = 1 → ¬ rd_oc K c = 0), wY_add_37 post x n z (nI c) K L A B P W := by
      intro g1
      rcases hz with ⟨hz0, hl⟩ | ⟨hz1, hl⟩
      · have g : rd_gd K c x n := by
          obtain ⟨j, hj, e⟩ := nI_of2 (M := 3) (n := 3) (by decide) h (Int32.not_lt.mp h3)
          rcases (show j = 0 ∨ j = 1 ∨ j = 2 ∨ j = 3 by omega) with r | r | r | r
          · exact Or.inl (by rw [e, r]; rfl)
          · have e1 : x = 1 := by rw [e, r]; rfl
            exact Or.inr (Or.inl ⟨e1, g1 e1⟩)
          · exact absurd (Or.inl (by rw [e, r]; rfl)) hl
          · exact absurd (Or.inr (by rw [e, r]; rfl)) hl
        exact br_t hz0 (ym_53 (Or.inl ⟨hz0, hl⟩) hc (hF g) (hG g))
      · have hx0 : ¬ x = 0 := fun e => by
          rw [e] at hl; exact absurd hl (by decide)
        have hx1 : ¬ x = 1 := fun e => by
          rw [e] at hl; exact absurd hl (by decide)
        refine br_f (by rw [hz1]; decide) (br_c (fun hn => hN (fun g => ?_)) (fun hn => br_c (fun h7 => ?_) (fun h7 => hN (fun g => ?_))))
        · rcases g with g | g | g
          · exact hx0 g
          · exact hx1 g.1
          · exact g.2.1 hn
        · have g : rd_gd K c x n := Or.inr (Or.inr ⟨hl, hn, (rd_78 n).mp h7⟩)
          exact ym_53 (Or.inr ⟨hz1, hl⟩) hc (hF g) (hG g)
        · rcases g with g | g | g
          · exact hx0 g
          · exact hx1 g.1
          · exact h7 ((rd_78 n).mpr g.2.2)
    by_cases h1 : x = 1
    · refine br_t h1 (ym_op hc (br_c (fun zz => hN (fun g => ?_)) (fun zz => h37 (fun _ => zz))))
      rcases g with g | g | g
      · rw [h1] at g; exact absurd g (by decide)
      · exact g.2 zz
      · rw [h1] at g; exact absurd g.1 (by decide)
    · exact br_f h1 (h37 (fun e => absurd e h1))
theorem ym_add {post : Int32 → SY → Prop} {c : Nat} {K L A B P W : Nat → Int32} {x n : Int32} (hc : c ≤ 28) (hN : ¬ rd_gd K c x n → post (-1) (nI c, K, L, A, B, P, W)) (hF : rd_gd K c x n → ¬ c < 28 → post (-2) (nI c, K, L, A, B, P, W)) (hG : rd_gd K c x n → c < 28 → post (nI c) (nI (c + 1), upd K c x, upd L c (rd_lb x n), A, B, P, W)) : wpY_add post (nI c, K, L, A, B, P, W) x n :=
  br_c (fun h => ym_15 (Or.inr ⟨rfl, Or.inl h⟩) hc hN hF hG) (fun h2 => br_c (fun h => ym_15 (Or.inr ⟨rfl, Or.inr h⟩) hc hN hF hG) (fun h3 => ym_15 (Or.inl ⟨rfl, fun z => z.elim h2 h3⟩) hc hN hF hG))
theorem ym_bound {post : Int32 → SY → Prop} {c : Nat} {K L A B P W : Nat → Int32} {x : Int32} (hc : c ≤ 28) (hn : rd_nest K c) (ht : ∀ j, j < c → x = nI j → ∀ A B P W : Nat → Int32, post (rd_wa K L j) (nI c, K, L, A, B, P, W)) (hf : (∀ j, j < c → ¬ x = nI j) → ∀ A B P W : Nat → Int32, post (-1) (nI c, K, L, A, B, P, W)) : wpY_bound post (nI c, K, L, A, B, P, W) x := by
  unfold wpY_bound
  dsimp only
  refine ym_ba hc hn (fun A B P W hb => ?_)
  dsimp only
  refine ym_is hc (fun j hj e => ?_) (fun h => br_t rfl (hf h A B P W))
  subst e
  refine br_f (by decide) ⟨rd_in (by omega), ?_⟩
  rw [nI_clamp (by omega), hb.2.2.2 j hj]
  exact ht j hj rfl A B P W
theorem ym_uses_l {post : Int32 → SY → Prop} {c k : Nat} {K L A B P W : Nat → Int32} (hc : c ≤ 28) (hk : k < c) (hW : ∀ q, q < c → W q = rd_wa K L q) (hp : post (rd_ms (rd_ux K L (nI k)) c) (nI c, K, L, A, B, P, W)) : ∀ e p, p + e = c → wY_uses_8 post (nI k) (nI c) K L A B P W (e + 1) (rd_ms (rd_ux K L (nI k)) p) (nI p) := by
  intro e
  induction e with
  | zero =>
    intro p h
    have e : p = c := by omega
    subst e
    exact br_t (nI_le (Nat.le_refl _) (by omega)) hp
  | succ e ih =>
    intro p h
    have hpc : p < c := by omega
    have IH := ih (p + 1) (by omega)
    refine br_f (nI_ge hpc (by omega)) (ym_is hc (fun j hj e => br_f (by decide) ⟨rd_in (by omega), ?_⟩) (fun h => absurd rfl (h k hk)))
    rw [nI_clamp (show p < 2 ^ 31 by omega), hW p hpc]
    by_cases hw : rd_wa K L p = nI k
    · exact br_t hw (nm_r (rd_ms_t ((rd_ux_k (by omega)).mpr hw)).symm (nm_r (nI_1 p) IH))
    · rw [rd_ms_f (fun z => hw ((rd_ux_k (by omega)).mp z))] at IH
      exact br_f hw (nm_r (nI_1 p) IH)
theorem ym_uses {post : Int32 → SY → Prop} {c : Nat} {K L A B P W : Nat → Int32} {x : Int32} (hc : c ≤ 28) (hn : rd_nest K c) (ht : ∀ j, j < c → x = nI j → ∀ A B P W : Nat → Int32, post (rd_ms (rd_ux K L (nI j)) c) (nI c, K, L, A, B, P, W)) (hf : (∀ j, j < c → ¬ x = nI j) → ∀ A B P W : Nat → Int32, post 0 (nI c, K, L, A, B, P, W)) : wpY_uses post (nI c, K, L, A, B, P, W) x := by
  unfold wpY_uses
  dsimp only
  refine ym_ba hc hn (fun A B P W hb => ?_)
  dsimp only
  by_cases hx : ∃ j, j < c ∧ x = nI j
  · obtain ⟨j, hj, e⟩ := hx
    subst e
    exact ⟨c + 1, ym_uses_l hc hj hb.2.2.2 (ht j hj rfl A B P W) c 0 (by omega)⟩
  · have hx' : ∀ j, j < c → ¬ x = nI j := fun j hj e => hx ⟨j, hj, e⟩
    refine ⟨1, br_c (fun _ => hf hx' A B P W) (fun _ => ?_)⟩
    exact ym_is hc (fun j hj e => absurd e (hx' j hj)) (fun _ => br_t rfl (hf hx' A B P W))
theorem ym_free_l {post : Int32 → SY → Prop} {c : Nat} {K L A B P W : Nat → Int32} (hc : c ≤ 28) (hW : ∀ q, q < c → W q = rd_wa K L q) (hp : post (rd_ms (rd_ux K L (-1)) c) (nI c, K, L, A, B, P, W)) : ∀ e p, p + e = c → wY_free_8 post (nI c) K L A B P W (e + 1) (rd_ms (rd_ux K L (-1)) p) (nI p) := by
  intro e
  induction e with
  | zero =>
    intro p h
    have e : p = c := by omega
    subst e
    exact br_t (nI_le (Nat.le_refl _) (by omega)) hp
  | succ e ih =>
    intro p h
    have hpc : p < c := by omega
    have hi : vp_in (nI p) 28 := rd_in (by omega)
    have IH := ih (p + 1) (by omega)
    refine br_f (nI_ge hpc (by omega)) ⟨hi, ?_⟩
    rw [nI_clamp (show p < 2 ^ 31 by omega), hW p hpc]
    by_cases h3 : K p = 3
    · refine br_t h3 ⟨hi, ?_⟩
      by_cases hw : rd_wa K L p < 0
      · exact br_f (Int32.not_le.mpr hw) (nm_r (rd_ms_t ((rd_ux_f (by omega)).mpr ⟨h3, hw⟩)).symm (nm_r (nI_1 p) IH))
      · rw [rd_ms_f (fun z => hw ((rd_ux_f (by omega)).mp z).2)] at IH
        exact br_t (Int32.not_lt.mp hw) (nm_r (nI_1 p) IH)
    · rw [rd_ms_f (fun z => h3 ((rd_ux_f (by omega)).mp z).1)] at IH
      exact br_f h3 (nm_r (nI_1 p) IH)
theorem ym_free {post : Int32 → SY → Prop} {c : Nat} {K L A B P W : Nat → Int32} (hc : c ≤ 28) (hn : rd_nest K c) (hp : ∀ A B P W : Nat → Int32, post (rd_ms (rd_ux K L (-1)) c) (nI c, K, L, A, B, P, W)) : wpY_free post (nI c, K, L, A, B, P, W) := by
  unfold wpY_free
  dsimp only
  refine ym_ba hc hn (fun A B P W hb => ?_)
  dsimp only
  exact ⟨c + 1, ym_free_l hc hb.2.2.2 (hp A B P W) c 0 (by omega)⟩
/-- the declarations to which no use is bound -/
def rd_un (K L : Nat → Int32) (c p : Nat) : Bool := decide (K p = 2 ∧ rd_ms (rd_ux K L (nI p)) c = 0)
theorem rd_un_i {K L : Nat → Int32} {c p : Nat} : rd_un K L c p = true ↔ (K p = 2 ∧ rd_ms (rd_ux K L (nI p)) c = 0) := by
  unfold rd_un
  exact decide_eq_true_iff
theorem xm_un_l {post : Int32 → Prop} {c : Nat} {K L T S O : Nat → Int32} (hc : c ≤ 28) (hp : post (rd_ms (rd_un K L c) c)) : ∀ e p, p + e = c → wX_unused_4 post (nI c) K L T S O (e + 1) (rd_ms (rd_un K L c) p) (nI p) := by
  intro e
  induction e with
  | zero =>
    intro p h
    have e : p = c := by omega
    subst e
    exact br_t (nI_le (Nat.le_refl _) (by omega)) hp
  | succ e ih =>
    intro p h
    have hi : vp_in (nI p) 28 := rd_in (by omega)
    refine br_f (nI_ge (by omega) (by omega)) ⟨hi, ?_⟩
    rw [nI_clamp (by omega)]
    have IH := ih (p + 1) (by omega)
    by_cases h2 : K p = 2
    · refine br_t h2 (xm_ub hc ?_)
      by_cases hd : rd_ms (rd_ux K L (nI p)) c = 0
      · exact br_t hd (nm_r (rd_ms_t (rd_un_i.mpr ⟨h2, hd⟩)).symm (nm_r (nI_1 p) IH))
      · rw [rd_ms_f (fun z => hd (rd_un_i.mp z).2)] at IH
        exact br_f hd (nm_r (nI_1 p) IH)
    · rw [rd_ms_f (fun z => h2 (rd_un_i.mp z).1)] at IH
      exact br_f h2 (nm_r (nI_1 p) IH)
theorem ym_un_l {post : Int32 → SY → Prop} {c : Nat} {K L : Nat → Int32} (hc : c ≤ 28) (hn : rd_nest K c) (hp : ∀ A B P W : Nat → Int32, post (rd_ms (rd_un K L c) c) (nI c, K, L, A, B, P, W)) : ∀ e p, p + e = c → ∀ A B P W : Nat → Int32, wY_unused_4 post (e + 1) (rd_ms (rd_un K L c) p) (nI p) (nI c) K L A B P W := by
  intro e
  induction e with
  | zero =>
    intro p h A B P W
    have e : p = c := by omega
    subst e
    exact br_t (nI_le (Nat.le_refl _) (by omega)) (hp A B P W)
  | succ e ih =>
    intro p h A B P W
    have hi : vp_in (nI p) 28 := rd_in (by omega)
    have hpc : p < c := by omega
    refine br_f (nI_ge hpc (by omega)) ⟨hi, ?_⟩
    rw [nI_clamp (show p < 2 ^ 31 by omega)]
    have IH := ih (p + 1) (by omega)
    by_cases h2 : K p = 2
    · refine br_t h2 (ym_uses hc hn (fun j hj e A B P W => ?_) (fun h => absurd rfl (h p hpc)))
      rw [nI_eq (by omega) (by omega)] at e
      subst e
      dsimp only
      have IH := IH A B P W
      by_cases hd : rd_ms (rd_ux K L (nI p)) c = 0
      · exact br_t hd (nm_r (rd_ms_t (rd_un_i.mpr ⟨h2, hd⟩)).symm (nm_r (nI_1 p) IH))
      · rw [rd_ms_f (fun z => hd (rd_un_i.mp z).2)] at IH
        exact br_f hd (nm_r (nI_1 p) IH)
    · have IH := IH A B P W
      rw [rd_ms_f (fun z => h2 (rd_un_i.mp z).1)] at IH
      exact br_f h2 (nm_r (nI_1 p) IH)
/-- the names to which the declaration at k may be renamed -/
noncomputable def rd_nb (K L : Nat → Int32) (k c m : Nat) : Bool := @decide (rd_lr K L k (nI m) c) (Classical.propDecidable _)
theorem rd_nb_i {K L : Nat → Int32} {k c m : Nat} : rd_nb K L k c m = true ↔ rd_lr K L k (nI m) c := by
  unfold rd_nb
  exact @decide_eq_true_iff _ (Classical.propDecidable _)
theorem xm_nm_l {post : Int32 → SX → Prop} {c k : Nat} {K L : Nat → Int32} (hc : c ≤ 28) (hk : k < c) (hp : ∀ T S O : Nat → Int32, post (rd_ms (rd_nb K L k c) 8) (nI c, K, L, T, S, O)) : ∀ e p, p + e = 8 → ∀ T S O : Nat → Int32, wX_names_15 post (nI k) (e + 1) (rd_ms (rd_nb K L k c) p) (nI p) (nI c) K L T S O := by
  intro e
  induction e with
  | zero =>
    intro p h T S O
    have e : p = 8 := by omega
    subst e
    exact br_t (nI_le (a := 8) (b := 8) (Nat.le_refl _) (by omega)) (hp T S O)
  | succ e ih =>
    intro p h T S O
    refine br_f (nI_ge (a := p) (b := 8) (by omega) (by omega)) (xm_rn hc hk ?_)
    dsimp only
    have IH := ih (p + 1) (by omega) (rd_acc c K T) (rd_acc c (rd_rn K L k (nI p)) S) (rd_acc c nI O)
    refine xm_rl hc (fun z => ?_) (fun z => ?_)
    · exact br_f (by decide) (nm_r (rd_ms_t (rd_nb_i.mpr z)).symm (nm_r (nI_1 p) IH))
    · rw [rd_ms_f (fun y => z (rd_nb_i.mp y))] at IH
      exact br_t rfl (nm_r (nI_1 p) IH)
theorem ym_nm_l {post : Int32 → SY → Prop} {c k : Nat} {K L : Nat → Int32} (hc : c ≤ 28) (hn : rd_nest K c) (hk : k < c) (h2 : K k = 2) (hp : ∀ A B P W : Nat → Int32, post (rd_ms (rd_nb K L k c) 8) (nI c, K, L, A, B, P, W)) : ∀ e p, p + e = 8 → ∀ A B P W : Nat → Int32, wY_names_4 post (nI k) (e + 1) (rd_ms (rd_nb K L k c) p) (nI p) (nI c) K L A B P W := by
  intro e
  induction e with
  | zero =>
    intro p h A B P W
    have e : p = 8 := by omega
    subst e
    exact br_t (nI_le (a := 8) (b := 8) (Nat.le_refl _) (by omega)) (hp A B P W)
  | succ e ih =>
    intro p h A B P W
    refine br_f (nI_ge (a := p) (b := 8) (by omega) (by omega)) (ym_decl hc (fun j hj ej _ => br_f (by decide) ?_) (fun h => absurd h2 (h k hk rfl)))
    refine ym_rl hc hk hn (fun z A B P W _ _ => ?_) (fun z A B P W => ?_)
    · exact br_f (by decide) (nm_r (rd_ms_t (rd_nb_i.mpr z)).symm (nm_r (nI_1 p) (ih (p + 1) (by omega) A B P W)))
    · have IH := ih (p + 1) (by omega) A B P W
      rw [rd_ms_f (fun y => z (rd_nb_i.mp y))] at IH
      exact br_t rfl (nm_r (nI_1 p) IH)
theorem ym_rc_l {post : Int32 → SY → Prop} {c k : Nat} {K L A B P W : Nat → Int32} {m : Int32} (hc : c ≤ 28) (hB : ∀ q, q < c → B q = rd_rn K L k m q) (hp : post (rd_ct (rd_cb K L k m) c) (nI c, rd_acc c A K, rd_acc c B L, A, B, P, W)) : ∀ e p, p + e = c → wY_rename_37 post (nI c) K L A B P W (e + 1) (rd_ct (rd_cb K L k m) p) (nI p) := by
  intro e
  induction e with
  | zero =>
    intro p h
    have e : p = c := by omega
    subst e
    exact br_t (nI_le (Nat.le_refl _) (by omega)) (ym_ac hc hp)
  | succ e ih =>
    intro p h
    have hi : vp_in (nI p) 28 := rd_in (by omega)
    have hpc : p < c := by omega
    have IH := ih (p + 1) (by omega)
    refine br_f (nI_ge hpc (by omega)) ⟨hi, hi, ?_⟩
    rw [nI_clamp (show p < 2 ^ 31 by omega), hB p hpc]
    by_cases h1 : rd_rn K L k m p = L p
    · rw [rd_ct_f (fun z => rd_cb_n.mp z h1)] at IH
      exact br_t h1 (nm_r (nI_1 p) IH)
    · exact br_f h1 (nm_r (rd_ct_t (rd_cb_n.mpr h1)).symm (nm_r (nI_1 p) IH))
/-- the names visible at k -/
def rd_vb (K L : Nat → Int32) (k n : Nat) : Bool := decide (¬ rd_ds K L (nI n) k 0 = none)
theorem rd_vb_i {K L : Nat → Int32} {k n : Nat} : rd_vb K L k n = true ↔ ¬ rd_ds K L (nI n) k 0 = none := by
  unfold rd_vb
  exact decide_eq_true_iff
theorem xm_vi_l {post : Int32 → Prop} {c k : Nat} {K L T S O : Nat → Int32} (hk : k < 28) (hp : post (rd_ms (rd_vb K L k) 8)) : ∀ e p, p + e = 8 → wX_visible_14 post (nI k) (nI c) K L T S O (e + 1) (rd_ms (rd_vb K L k) p) (nI p) := by
  intro e
  induction e with
  | zero =>
    intro p h
    have e : p = 8 := by omega
    subst e
    exact br_t (nI_le (a := 8) (b := 8) (Nat.le_refl _) (by omega)) hp
  | succ e ih =>
    intro p h
    have IH := ih (p + 1) (by omega)
    refine br_f (nI_ge (a := p) (b := 8) (by omega) (by omega)) (xm_ds (by omega) ?_)
    by_cases hd : rd_ds K L (nI p) k 0 = none
    · rw [rd_ms_f (fun z => rd_vb_i.mp z hd)] at IH
      exact br_t ((rd_op_m1 (rd_ds_b (by omega))).mpr hd) (nm_r (nI_1 p) IH)
    · exact br_f (fun z => hd ((rd_op_m1 (rd_ds_b (by omega))).mp z)) (nm_r (rd_ms_t (rd_vb_i.mpr hd)).symm (nm_r (nI_1 p) IH))
theorem ym_vi_l {post : Int32 → SY → Prop} {c k : Nat} {K L A B P W : Nat → Int32} (hc : c ≤ 28) (hk : k < c) (hn : rd_nest K c) (hA : ∀ q, q < c → A q = K q) (hB : ∀ q, q < c → B q = L q) (hp : post (rd_ms (rd_vb K L k) 8) (nI c, K, L, A, B, P, W)) : ∀ e p, p + e = 8 → wY_visible_8 post (nI k) (nI c) K L A B P W (e + 1) (rd_ms (rd_vb K L k) p) (nI p) := by
  intro e
  induction e with
  | zero =>
    intro p h
    have e : p = 8 := by omega
    subst e
    exact br_t (nI_le (a := 8) (b := 8) (Nat.le_refl _) (by omega)) hp
  | succ e ih =>
    intro p h
    have IH := ih (p + 1) (by omega)
    refine br_f (nI_ge (a := p) (b := 8) (by omega) (by omega)) (ym_is hc (fun j hj ej => br_f (by decide) (ym_bi (by omega) (rd_nest_cg hA (by omega) hn) ?_)) (fun h => absurd rfl (h k hk)))
    rw [rd_ds_cg k 0 (fun q hq => hA q (by omega)) (fun q hq => hB q (by omega))]
    by_cases hd : rd_ds K L (nI p) k 0 = none
    · rw [rd_ms_f (fun z => rd_vb_i.mp z hd)] at IH
      exact br_t ((rd_op_lt0 (rd_ds_b (by omega))).mpr hd) (nm_r (nI_1 p) IH)
    · exact br_f (fun z => hd ((rd_op_lt0 (rd_ds_b (by omega))).mp z)) (nm_r (rd_ms_t (rd_vb_i.mpr hd)).symm (nm_r (nI_1 p) IH))
theorem ym_dp_l {post : Int32 → SY → Prop} {c k : Nat} {K L A B P W : Nat → Int32} (hc : c ≤ 28) (hk : k < c) (hn : rd_nest K c) (hA : ∀ q, q < c → A q = K q) (hp : post (rd_oc K k) (nI c, K, L, A, B, P, W)) : ∀ e i : Nat, (i : Int) + e = rd_dep K k → wY_depth_22 post (nI c) K L A B P W (e + 1) (nI i) (rd_op (rd_ar K k i)) := by
  have hnk : rd_nest K k := rd_nest_le hn (by omega)
  have hdk := rd_dep_le (K := K) k
  intro e
  induction e with
  | zero =>
    intro i h
    have e1 : rd_ar K k i = none := (rd_ar_none hnk i).mpr (by omega)
    rw [e1]
    rw [rd_oc_dep hnk, show (rd_dep K k).toNat = i by omega] at hp
    exact br_t (show (-1 : Int32) < 0 by decide) hp
  | succ e ih =>
    intro i h
    cases e1 : rd_ar K k i with
    | none =>
      have := (rd_ar_none hnk i).mp e1
      omega
    | some b =>
      have hb := rd_ar_lt e1
      have IH := ih (i + 1) (by omega)
      rw [rd_ar_ch, e1] at IH
      refine br_f (nI_pos (n := b) (by omega)) (br_f (nI_ge (a := i) (b := 28) (by omega) (by omega)) (nm_r (nI_1 i) (ym_ar (p := b) (by omega) ?_)))
      rw [rd_ar_cg b 0 (fun q hq => hA q (by omega))]
      exact IH
end
section
/-! the relation, and what is owed -/
/-- the two programs are the same, and well formed; scratch arrays are free -/
def i_Rel (k : Nat) (u : SX) (v : SY) : Prop := ∃ (c : Nat) (K L T S O A B P W : Nat → Int32), c ≤ 28 ∧ rd_ok K c ∧ u = (nI c, K, L, T, S, O) ∧ v = (nI c, K, L, A, B, P, W)
theorem rd_rel {k c : Nat} {K L T S O A B P W : Nat → Int32} (hc : c ≤ 28) (H : rd_ok K c) : i_Rel k (nI c, K, L, T, S, O) (nI c, K, L, A, B, P, W) := ⟨c, K, L, T, S, O, A, B, P, W, hc, H, rfl, rfl⟩
theorem i_up {k : Nat} {u : SX} {v : SY} (h : i_Rel k u v) : i_Rel (k + 3) u v := h
theorem i_vc0 : wpX_init (fun u => wpY_init (fun v => i_Rel 0 u v)) := rd_rel (k := 0) (c := 0) (by omega) (rd_ok_z _)
theorem i_vc_add {k : Nat} {u : SX} {v : SY} (I : i_Rel k u v) (hk : k + 3 ≤ 1536) (v1 : Int32) (v2 : Int32) : wpX_add (fun r u' => wpY_add (fun r' v' => r' = r ∧ i_Rel (k + 3) u' v') v v1 v2) u v1 v2 := by
  obtain ⟨c, K, L, T, S, O, A, B, P, W, hc, H, rfl, rfl⟩ := I
  refine xm_add hc (fun g => ?_) (fun g h => ?_) (fun g h => ?_)
  · exact ym_add hc (fun _ => ⟨rfl, rd_rel hc H⟩) (fun z => absurd z g) (fun z => absurd z g)
  · exact ym_add hc (fun z => absurd g z) (fun _ _ => ⟨rfl, rd_rel hc H⟩) (fun _ z => absurd z h)
  · refine ym_add hc (fun z => absurd g z) (fun _ z => absurd h z) (fun _ _ => ⟨rfl, rd_rel (by omega) (rd_ok_add H ?_ ?_)⟩)
    · rcases g with g | g | g
      · exact Or.inl g
      · exact Or.inr (Or.inl g.1)
      · exact Or.inr (Or.inr g.1)
    · intro e
      rcases g with g | g | g
      · rw [e] at g; exact absurd g (by decide)
      · exact g.2
      · rw [e] at g; exact absurd g.1 (by decide)
theorem i_vc_drop {k : Nat} {u : SX} {v : SY} (I : i_Rel k u v) (hk : k + 3 ≤ 1536) : wpX_drop (fun r u' => wpY_drop (fun r' v' => r' = r ∧ i_Rel (k + 3) u' v') v) u := by
  obtain ⟨c, K, L, T, S, O, A, B, P, W, hc, H, rfl, rfl⟩ := I
  cases c with
  | zero => exact br_t nI_0 (br_t nI_0 ⟨rfl, rd_rel hc H⟩)
  | succ c =>
    have h0 : ¬ nI (c + 1) = 0 := nI_ne0 (by omega) (by omega)
    exact br_f h0 (nm_r (nI_pred c) (br_f h0 (nm_r (nI_pred c) ⟨rfl, rd_rel (by omega) (rd_ok_drop H)⟩)))
theorem i_vc_length {k : Nat} {u : SX} {v : SY} (I : i_Rel k u v) (hk : k + 3 ≤ 1536) : wpX_length (fun r => wpY_length (fun r' => r' = r ∧ i_Rel (k + 3) u v) v) u := by
  obtain ⟨c, K, L, T, S, O, A, B, P, W, hc, H, rfl, rfl⟩ := I
  exact ⟨rfl, rd_rel hc H⟩
theorem i_vc_token {k : Nat} {u : SX} {v : SY} (I : i_Rel k u v) (hk : k + 3 ≤ 1536) (v1 : Int32) : wpX_token (fun r => wpY_token (fun r' => r' = r ∧ i_Rel (k + 3) u v) v v1) u v1 := by
  obtain ⟨c, K, L, T, S, O, A, B, P, W, hc, H, rfl, rfl⟩ := I
  unfold wpX_token wpY_token
  dsimp only
  refine xm_place hc (fun j hj e => ?_) (fun h => ?_)
  · have hi : vp_in v1 28 := by rw [e]; exact rd_in (by omega)
    refine br_f (by decide) ⟨hi, hi, ?_⟩
    exact ym_is hc (fun _ _ _ => br_f (by decide) ⟨hi, hi, rfl, rd_rel hc H⟩) (fun h => absurd e (h j hj))
  · refine br_t rfl ?_
    exact ym_is hc (fun j hj e => absurd e (h j hj)) (fun _ => br_t rfl ⟨rfl, rd_rel hc H⟩)
theorem i_vc_bound {k : Nat} {u : SX} {v : SY} (I : i_Rel k u v) (hk : k + 3 ≤ 1536) (v1 : Int32) : wpX_bound (fun r => wpY_bound (fun r' v' => r' = r ∧ i_Rel (k + 3) u v') v v1) u v1 := by
  obtain ⟨c, K, L, T, S, O, A, B, P, W, hc, H, rfl, rfl⟩ := I
  unfold wpX_bound
  dsimp only
  refine xm_kind hc (fun j hj e h3 => ?_) (fun h => ?_)
  · subst e
    refine br_f (by decide) ⟨rd_in (by omega), ?_⟩
    rw [nI_clamp (by omega)]
    refine xm_ds (by omega) (ym_bound hc H.1 (fun i hi e A B P W => ?_) (fun h => absurd rfl (h j hj)))
    rw [nI_eq (by omega) (by omega)] at e
    subst e
    exact ⟨rd_wa_3 h3, rd_rel hc H⟩
  · exact br_t rfl (ym_bound hc H.1 (fun i hi e A B P W => ⟨rd_wa_n (h i hi e), rd_rel hc H⟩) (fun _ A B P W => ⟨rfl, rd_rel hc H⟩))
theorem i_vc_uses {k : Nat} {u : SX} {v : SY} (I : i_Rel k u v) (hk : k + 3 ≤ 1536) (v1 : Int32) : wpX_uses (fun r => wpY_uses (fun r' v' => r' = r ∧ i_Rel (k + 3) u v') v v1) u v1 := by
  obtain ⟨c, K, L, T, S, O, A, B, P, W, hc, H, rfl, rfl⟩ := I
  unfold wpX_uses
  dsimp only
  refine xm_kind hc (fun j hj e h2 => ?_) (fun h => ?_)
  · subst e
    refine br_f (by decide) (xm_ub hc (ym_uses hc H.1 (fun i hi e A B P W => ?_) (fun h => absurd rfl (h j hj))))
    rw [nI_eq (by omega) (by omega)] at e
    subst e
    exact ⟨rfl, rd_rel hc H⟩
  · refine br_t rfl (ym_uses hc H.1 (fun i hi e A B P W => ⟨?_, rd_rel hc H⟩) (fun _ A B P W => ⟨rfl, rd_rel hc H⟩))
    have e0 : rd_ms (rd_ux K L (nI i)) c = rd_ms (fun _ => false) c := rd_ms_cg c (fun p hp => Bool.eq_false_iff.mpr (fun z => h i hi e (rd_ux_2 (by omega) (by omega) z)))
    rw [e0]
    have h0 : ∀ d, rd_ms (fun _ => false) d = 0 := by
      intro d
      induction d with
      | zero => rfl
      | succ d ih => rw [rd_ms_f (by decide), ih]
    exact h0 c
theorem i_vc_free {k : Nat} {u : SX} {v : SY} (I : i_Rel k u v) (hk : k + 3 ≤ 1536) : wpX_free (fun r => wpY_free (fun r' v' => r' = r ∧ i_Rel (k + 3) u v') v) u := by
  obtain ⟨c, K, L, T, S, O, A, B, P, W, hc, H, rfl, rfl⟩ := I
  unfold wpX_free
  dsimp only
  exact xm_ub hc (ym_free hc H.1 (fun A B P W => ⟨rfl, rd_rel hc H⟩))
theorem i_vc_unused {k : Nat} {u : SX} {v : SY} (I : i_Rel k u v) (hk : k + 3 ≤ 1536) : wpX_unused (fun r => wpY_unused (fun r' v' => r' = r ∧ i_Rel (k + 3) u v') v) u := by
  obtain ⟨c, K, L, T, S, O, A, B, P, W, hc, H, rfl, rfl⟩ := I
  exact ⟨c + 1, xm_un_l hc ⟨c + 1, ym_un_l hc H.1 (fun A B P W => ⟨rfl, rd_rel hc H⟩) c 0 (by omega) A B P W⟩ c 0 (by omega)⟩
theorem i_vc_names {k : Nat} {u : SX} {v : SY} (I : i_Rel k u v) (hk : k + 3 ≤ 1536) (v1 : Int32) : wpX_names (fun r u' => wpY_names (fun r' v' => r' = r ∧ i_Rel (k + 3) u' v') v v1) u v1 := by
  obtain ⟨c, K, L, T, S, O, A, B, P, W, hc, H, rfl, rfl⟩ := I
  unfold wpX_names
  dsimp only
  refine xm_kind hc (fun j hj e h2 => ?_) (fun h => ?_)
  · subst e
    refine br_f (by decide) ⟨9, xm_nm_l hc hj (fun T S O => ?_) 8 0 (by omega) T S O⟩
    exact ⟨9, ym_nm_l hc H.1 hj h2 (fun A B P W => ⟨rfl, rd_rel hc H⟩) 8 0 (by omega) A B P W⟩
  · refine br_t rfl ⟨1, br_f (show ¬ (8 : Int32) ≤ 0 by decide) (ym_decl hc (fun i hi e h2 => absurd h2 (h i hi e)) (fun _ => br_t rfl ⟨rfl, rd_rel hc H⟩))⟩
theorem i_vc_rename {k : Nat} {u : SX} {v : SY} (I : i_Rel k u v) (hk : k + 3 ≤ 1536) (v1 : Int32) (v2 : Int32) : wpX_rename (fun r u' => wpY_rename (fun r' v' => r' = r ∧ i_Rel (k + 3) u' v') v v1 v2) u v1 v2 := by
  obtain ⟨c, K, L, T, S, O, A, B, P, W, hc, H, rfl, rfl⟩ := I
  unfold wpX_rename wpY_rename
  dsimp only
  refine xm_kind hc (fun j hj e h2 => ?_) (fun h => ?_)
  · subst e
    refine br_f (by decide) (xm_name (fun h0 h8 => ?_) (fun hb => ?_))
    · refine br_f (by decide) (xm_rn hc hj ?_)
      dsimp only
      refine xm_rl hc (fun z => ?_) (fun z => ?_)
      · refine br_f (by decide) (xm_kp hc ?_)
        dsimp only
        refine ym_decl hc (fun _ _ _ _ => br_f (by decide) (br_f h0 (br_t ((rd_78 v2).mpr h8) (ym_rl hc hj H.1 (fun _ A B P W hA hB => ?_) (fun y => absurd z y))))) (fun h => absurd h2 (h j hj rfl))
        refine br_f (by decide) ⟨c + 1, ym_rc_l hc hB ⟨rfl, ?_⟩ c 0 (by omega)⟩
        rw [rd_acc_id (T := rd_acc c K T) (fun p hp => rd_acc_lt hp), rd_acc_id hA, rd_acc_cg (T := rd_acc c (rd_rn K L j v2) S) (T' := rd_rn K L j v2) (fun p hp => rd_acc_lt hp), rd_acc_cg hB]
        exact rd_rel hc H
      · refine br_t rfl ?_
        exact ym_decl hc (fun _ _ _ _ => br_f (by decide) (br_f h0 (br_t ((rd_78 v2).mpr h8) (ym_rl hc hj H.1 (fun y => absurd y z) (fun _ A B P W => br_t rfl ⟨rfl, rd_rel hc H⟩))))) (fun h => absurd h2 (h j hj rfl))
    · refine br_t rfl (ym_decl hc (fun _ _ _ _ => br_f (by decide) ?_) (fun h => absurd h2 (h j hj rfl)))
      by_cases h0 : v2 < 0
      · exact br_t h0 ⟨rfl, rd_rel hc H⟩
      · have h8 : (8 : Int32) ≤ v2 := hb.elim (fun z => absurd z h0) id
        exact br_f h0 (br_f (fun z => (rd_78 v2).mp z h8) ⟨rfl, rd_rel hc H⟩)
  · exact br_t rfl (ym_decl hc (fun i hi e h2 => absurd h2 (h i hi e)) (fun _ => br_t rfl ⟨rfl, rd_rel hc H⟩))
theorem i_vc_swap {k : Nat} {u : SX} {v : SY} (I : i_Rel k u v) (hk : k + 3 ≤ 1536) (v1 : Int32) : wpX_swap (fun r u' => wpY_swap (fun r' v' => r' = r ∧ i_Rel (k + 3) u' v') v v1) u v1 := by
  obtain ⟨c, K, L, T, S, O, A, B, P, W, hc, H, rfl, rfl⟩ := I
  unfold wpX_swap wpY_swap
  dsimp only
  have lab : ∀ j, j < c → (K j = 2 ∨ K j = 3) → ¬ K j < 2 := by
    intro j hj h
    rcases h with h | h <;> (rw [h]; decide)
  have nlab : ∀ j, j < c → ¬ (K j = 2 ∨ K j = 3) → K j < 2 := by
    intro j hj h
    rcases H.2 j hj with e | e | e | e
    · rw [e]; decide
    · rw [e]; decide
    · exact absurd (Or.inl e) h
    · exact absurd (Or.inr e) h
  refine xm_lab hc (fun j hj e hl => ?_) (fun h => ?_)
  · subst e
    rw [nI_1 j]
    have hi : vp_in (nI j) 28 := rd_in (by omega)
    have hcj : (nI j).toNatClampNeg = j := nI_clamp (by omega)
    refine br_f (by decide) (xm_lab hc (fun i hi1 e hl1 => ?_) (fun h => ?_))
    · rw [nI_eq (by omega) (by omega)] at e
      subst e
      have hi2 : vp_in (nI (j + 1)) 28 := rd_in (by omega)
      have hcj2 : (nI (j + 1)).toNatClampNeg = j + 1 := nI_clamp (by omega)
      have h2' : (2 : Int32) ≤ K (j + 1) := Int32.not_lt.mp (lab (j + 1) hi1 hl1)
      refine br_f (by decide) (xm_mb (f := j + 1) (t := j) hc hi1 (by omega) (fun T S O hT hS hO => ?_))
      dsimp only
      rw [hcj, hcj2]
      refine xm_ml hc hi1 hT hS hO (fun z => ?_) (fun z => ?_)
      · refine br_f (by decide) (xm_kp hc ?_)
        dsimp only
        refine ym_is hc (fun _ _ _ => br_f (by decide) (ym_is hc (fun _ _ _ => br_f (by decide) ⟨hi, br_f (lab j hj hl) ⟨hi2, br_t h2' (ym_ba hc H.1 (fun A B P W hb => ?_))⟩⟩) (fun h => absurd rfl (h (j + 1) hi1)))) (fun h => absurd rfl (h j hj))
        dsimp only
        obtain ⟨hA, hB, hP, hW⟩ := hb
        refine ym_pl (k := j) (p := j + 1) (by omega) (by omega) ?_
        dsimp only
        refine ym_pl (k := j + 1) (p := j) (by omega) (by omega) ?_
        dsimp only
        have hA' := rd_sw_e (k := j) (c := c) (K := K) (A := A) (fun q hq => hA q (by omega))
        have hB' := rd_sw_e (k := j) (c := c) (K := L) (A := B) (fun q hq => hB q (by omega))
        have hP' := rd_sw_e (k := j) (c := c) (K := nI) (A := P) (fun q hq => hP q (by omega))
        refine ym_ml hc H (by omega) hi1 hl1 hA' hB' hP' hW (fun _ => br_f (by decide) (ym_ac hc ⟨rfl, ?_⟩)) (fun y => absurd z y)
        rw [rd_acc_cg hT, rd_acc_cg hS, rd_acc_cg hA', rd_acc_cg hB']
        exact rd_rel hc (rd_ok_mv H (by omega) hi1 hl1 (fun q hq => rd_acc_lt hq))
      · refine br_t rfl ?_
        refine ym_is hc (fun _ _ _ => br_f (by decide) (ym_is hc (fun _ _ _ => br_f (by decide) ⟨hi, br_f (lab j hj hl) ⟨hi2, br_t h2' (ym_ba hc H.1 (fun A B P W hb => ?_))⟩⟩) (fun h => absurd rfl (h (j + 1) hi1)))) (fun h => absurd rfl (h j hj))
        dsimp only
        obtain ⟨hA, hB, hP, hW⟩ := hb
        refine ym_pl (k := j) (p := j + 1) (by omega) (by omega) ?_
        dsimp only
        refine ym_pl (k := j + 1) (p := j) (by omega) (by omega) ?_
        dsimp only
        have hA' := rd_sw_e (k := j) (c := c) (K := K) (A := A) (fun q hq => hA q (by omega))
        have hB' := rd_sw_e (k := j) (c := c) (K := L) (A := B) (fun q hq => hB q (by omega))
        have hP' := rd_sw_e (k := j) (c := c) (K := nI) (A := P) (fun q hq => hP q (by omega))
        exact ym_ml hc H (by omega) hi1 hl1 hA' hB' hP' hW (fun y => absurd y z) (fun _ => br_t rfl ⟨rfl, rd_rel hc H⟩)
    · rw [hcj]
      refine br_t rfl (ym_is hc (fun _ _ _ => br_f (by decide) (ym_is hc (fun i hi1 e => br_f (by decide) ⟨hi, br_f (lab j hj hl) ?_⟩) (fun _ => br_t rfl ⟨rfl, rd_rel hc H⟩))) (fun h => absurd rfl (h j hj)))
      have hn := nlab i hi1 (h i hi1 e)
      rw [e]
      refine ⟨rd_in (by omega), ?_⟩
      rw [nI_clamp (by omega)]
      exact br_f (Int32.not_le.mpr hn) ⟨rfl, rd_rel hc H⟩
  · refine br_t rfl (ym_is hc (fun j hj e => ?_) (fun _ => br_t rfl ⟨rfl, rd_rel hc H⟩))
    have hn := nlab j hj (h j hj e)
    subst e
    have hi : vp_in (nI j) 28 := rd_in (by omega)
    refine br_f (by decide) (ym_is hc (fun i hi1 e => br_f (by decide) ⟨hi, ?_⟩) (fun _ => br_t rfl ⟨rfl, rd_rel hc H⟩))
    rw [nI_clamp (n := j) (by omega)]
    exact br_t hn ⟨rfl, rd_rel hc H⟩
theorem i_vc_moveOut {k : Nat} {u : SX} {v : SY} (I : i_Rel k u v) (hk : k + 3 ≤ 1536) (v1 : Int32) : wpX_moveOut (fun r u' => wpY_moveOut (fun r' v' => r' = r ∧ i_Rel (k + 3) u' v') v v1) u v1 := by
  obtain ⟨c, K, L, T, S, O, A, B, P, W, hc, H, rfl, rfl⟩ := I
  unfold wpX_moveOut
  dsimp only
  refine xm_mo hc (fun h => ?_) (fun j t hj e h2 ea z T S O hT hS => ?_) (fun j t hj e h2 ea z T S O => ?_)
  · exact br_t (by decide) (ym_mo hc H (fun _ A B P W => ⟨rfl, rd_rel hc H⟩) (fun j t hj e h2 ea => absurd ea (h j t hj e h2)) (fun j t hj e h2 ea => absurd ea (h j t hj e h2)))
  · have htj := rd_ar_lt ea
    refine br_f (nI_pos (by omega)) (xm_kp hc ?_)
    dsimp only
    refine ym_mo hc H (fun h => absurd ea (h j t hj e h2)) (fun j' t' hj' e' h2' ea' z' A B P W hA hB => ?_) (fun j' t' hj' e' h2' ea' z' A B P W => ?_)
    · rw [e, nI_eq (by omega) (by omega)] at e'
      subst e'
      rw [ea] at ea'
      cases ea'
      refine ⟨rfl, ?_⟩
      rw [rd_acc_cg hT, rd_acc_cg hS, rd_acc_cg hA, rd_acc_cg hB]
      exact rd_rel hc (rd_ok_mv H (by omega) hj (Or.inl h2) (fun q hq => rd_acc_lt hq))
    · rw [e, nI_eq (by omega) (by omega)] at e'
      subst e'
      rw [ea] at ea'
      cases ea'
      exact absurd z z'
  · refine br_t (by decide) (ym_mo hc H (fun h => absurd ea (h j t hj e h2)) (fun j' t' hj' e' h2' ea' z' => ?_) (fun j' t' hj' e' h2' ea' z' A B P W => ⟨rfl, rd_rel hc H⟩))
    rw [e, nI_eq (by omega) (by omega)] at e'
    subst e'
    rw [ea] at ea'
    cases ea'
    exact absurd z' z
theorem i_vc_canMoveOut {k : Nat} {u : SX} {v : SY} (I : i_Rel k u v) (hk : k + 3 ≤ 1536) (v1 : Int32) : wpX_canMoveOut (fun r u' => wpY_canMoveOut (fun r' v' => r' = r ∧ i_Rel (k + 3) u' v') v v1) u v1 := by
  obtain ⟨c, K, L, T, S, O, A, B, P, W, hc, H, rfl, rfl⟩ := I
  unfold wpX_canMoveOut
  dsimp only
  refine xm_mo hc (fun h => ?_) (fun j t hj e h2 ea z T S O hT hS => ?_) (fun j t hj e h2 ea z T S O => ?_)
  · exact br_t (by decide) (ym_co hc H (fun _ A B P W => ⟨rfl, rd_rel hc H⟩) (fun j t hj e h2 ea => absurd ea (h j t hj e h2)) (fun j t hj e h2 ea => absurd ea (h j t hj e h2)))
  · have htj := rd_ar_lt ea
    refine br_f (nI_pos (by omega)) (ym_co hc H (fun h => absurd ea (h j t hj e h2)) (fun j' t' hj' e' h2' ea' z' A B P W => ⟨rfl, rd_rel hc H⟩) (fun j' t' hj' e' h2' ea' z' => ?_))
    rw [e, nI_eq (by omega) (by omega)] at e'
    subst e'
    rw [ea] at ea'
    cases ea'
    exact absurd z z'
  · refine br_t (by decide) (ym_co hc H (fun h => absurd ea (h j t hj e h2)) (fun j' t' hj' e' h2' ea' z' => ?_) (fun j' t' hj' e' h2' ea' z' A B P W => ⟨rfl, rd_rel hc H⟩))
    rw [e, nI_eq (by omega) (by omega)] at e'
    subst e'
    rw [ea] at ea'
    cases ea'
    exact absurd z' z
theorem i_vc_depth {k : Nat} {u : SX} {v : SY} (I : i_Rel k u v) (hk : k + 3 ≤ 1536) (v1 : Int32) : wpX_depth (fun r => wpY_depth (fun r' v' => r' = r ∧ i_Rel (k + 3) u v') v v1) u v1 := by
  obtain ⟨c, K, L, T, S, O, A, B, P, W, hc, H, rfl, rfl⟩ := I
  unfold wpX_depth wpY_depth
  dsimp only
  refine xm_place hc (fun j hj e => ?_) (fun h => ?_)
  · subst e
    refine br_f (by decide) (xm_oc (by omega) (ym_is hc (fun i hi e => br_f (by decide) (ym_cp ?_)) (fun h => absurd rfl (h j hj))))
    dsimp only
    have hA : ∀ q, q < c → rd_acc 28 K A q = K q := fun q hq => rd_acc_lt (by omega)
    refine ym_ar (by omega) ?_
    rw [rd_ar_cg j 0 (fun q hq => hA q (by omega))]
    have hd := H.1 j (by omega)
    exact ⟨(rd_dep K j).toNat + 1, ym_dp_l hc hj H.1 hA ⟨rfl, rd_rel hc H⟩ (rd_dep K j).toNat 0 (by omega)⟩
  · exact br_t rfl (ym_is hc (fun j hj e => absurd e (h j hj)) (fun _ => br_t rfl ⟨rfl, rd_rel hc H⟩))
theorem i_vc_visible {k : Nat} {u : SX} {v : SY} (I : i_Rel k u v) (hk : k + 3 ≤ 1536) (v1 : Int32) : wpX_visible (fun r => wpY_visible (fun r' v' => r' = r ∧ i_Rel (k + 3) u v') v v1) u v1 := by
  obtain ⟨c, K, L, T, S, O, A, B, P, W, hc, H, rfl, rfl⟩ := I
  unfold wpX_visible wpY_visible
  dsimp only
  refine xm_place hc (fun j hj e => ?_) (fun h => ?_)
  · subst e
    refine br_f (by decide) ⟨9, xm_vi_l (by omega) (ym_cp ?_) 8 0 (by omega)⟩
    dsimp only
    exact ⟨9, ym_vi_l hc hj H.1 (fun q hq => rd_acc_lt (by omega)) (fun q hq => rd_acc_lt (by omega)) ⟨rfl, rd_rel hc H⟩ 8 0 (by omega)⟩
  · refine br_t rfl (ym_cp ?_)
    dsimp only
    exact ⟨1, br_f (show ¬ (8 : Int32) ≤ 0 by decide) (ym_is hc (fun j hj e => absurd e (h j hj)) (fun _ => br_t rfl ⟨rfl, rd_rel hc H⟩))⟩
end
