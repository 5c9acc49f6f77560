/-! rows taken from kit/rows: stores, numbers, branches, bits -/
theorem pk_us {f : Nat → Int32} {k : Nat} {x : Int32} : upd f k x k = x := if_pos rfl
theorem pk_un {f : Nat → Int32} {k j : Nat} {x : Int32} (h : j ≠ k) : upd f k x j = f j := if_neg h
theorem pk_sub {a b : Nat} (h : b ≤ a) : nI a - nI b = nI (a - b) := by
  obtain ⟨c, rfl⟩ : ∃ c, a = c + b := ⟨a - b, by omega⟩
  rw [← nI_add, Int32.add_sub_cancel, Nat.add_sub_cancel]
theorem pk_m1 (n : Nat) : nI (n + 1) + (-1) = nI n := by
  rw [← nI_1, Int32.add_assoc, show (1 : Int32) + (-1) = 0 from rfl, Int32.add_zero]
theorem pk_ix (x : Int32) {n : Nat} (hn : n < 2 ^ 31) : x < 0 ∨ nI n ≤ x ∨ ∃ j : Nat, j < n ∧ x = nI j := by
  by_cases h : x < 0
  · exact Or.inl h
  · obtain ⟨j, hj, rfl⟩ := nI_of h
    by_cases h2 : j < n
    · exact Or.inr (Or.inr ⟨j, h2, rfl⟩)
    · exact Or.inr (Or.inl (nI_le (by omega) hj))
theorem pk_le {x y : Int32} {A B : Prop} (a b : Nat) (f : a ≤ b → A) (g : b < a → B) (hx : x = nI a := by rfl) (hy : y = nI b := by rfl) (ha : a < 2 ^ 31 := by omega) (hb : b < 2 ^ 31 := by omega) : (x ≤ y → A) ∧ (¬ x ≤ y → B) := by
  subst hx hy
  rw [nI_leI ha hb]
  exact ⟨f, fun z => g (by omega)⟩
theorem pk_lt {x y : Int32} {A B : Prop} (a b : Nat) (f : a < b → A) (g : b ≤ a → B) (hx : x = nI a := by rfl) (hy : y = nI b := by rfl) (ha : a < 2 ^ 31 := by omega) (hb : b < 2 ^ 31 := by omega) : (x < y → A) ∧ (¬ x < y → B) := by
  subst hx hy
  rw [nI_ltI ha hb]
  exact ⟨f, fun z => g (by omega)⟩
theorem pk_eq {x y : Int32} {A B : Prop} (a b : Nat) (f : a = b → A) (g : a ≠ b → B) (hx : x = nI a := by rfl) (hy : y = nI b := by rfl) (ha : a < 2 ^ 31 := by omega) (hb : b < 2 ^ 31 := by omega) : (x = y → A) ∧ (¬ x = y → B) := by
  subst hx hy
  rw [nI_eq ha hb]
  exact ⟨f, g⟩
theorem pk_in {x : Int32} (n N : Nat) (h : n < N) (hx : x = nI n := by rfl) (hN : N < 2 ^ 31 := by omega) : vp_in x N := by
  subst hx
  exact vp_in_nI h hN
theorem pk_cl {x : Int32} (n : Nat) (hx : x = nI n := by rfl) (h : n < 2 ^ 31 := by omega) : x.toNatClampNeg = n := by
  subst hx
  exact nI_clamp h
theorem ek_if {c d A B : Prop} (e : c ↔ d) (f : d → A) (g : ¬ d → B) : (c → A) ∧ (¬ c → B) :=
  ⟨fun z => f (e.mp z), fun z => g (fun y => z (e.mpr y))⟩
theorem ek_v {α : Sort _} {P : α → Prop} {a b : α} (e : a = b) (h : P b) : P a := e ▸ h
def bt (x : Int32) (i : Nat) : Bool := x.toBitVec.getLsbD i
theorem b_or (x y : Int32) (i : Nat) : bt (x ||| y) i = (bt x i || bt y i) := by unfold bt; rw [Int32.toBitVec_or, BitVec.getLsbD_or]
theorem b_and (x y : Int32) (i : Nat) : bt (x &&& y) i = (bt x i && bt y i) := by unfold bt; rw [Int32.toBitVec_and, BitVec.getLsbD_and]
theorem b_0 (i : Nat) : bt 0 i = false := BitVec.getLsbD_zero
theorem nf_sh : ∀ l, l < 32 → ((1 : Int32) <<< (nI l &&& 31)).toBitVec = BitVec.twoPow 32 l := by decide +kernel
theorem nf_tp : ∀ l, l < 32 → BitVec.twoPow 32 l ≠ 0#32 := by decide +kernel
/-! answers, masks, counts, and the changed program -/
def rd_op : Option Nat → Int32
  | none => -1
  | some q => nI q
theorem rd_nm1 {q : Nat} (h : q < 2 ^ 31) : ¬ nI q = -1 := fun z => absurd (nI_pos' h) (by rw [z]; decide)
theorem rd_op_m1 {o : Option Nat} (h : ∀ q, o = some q → q < 2 ^ 31) : rd_op o = -1 ↔ o = none := by
  cases o with
  | none => exact ⟨fun _ => rfl, fun _ => rfl⟩
  | some q => exact ⟨fun z => absurd z (rd_nm1 (h q rfl)), fun z => nomatch z⟩
theorem rd_op_lt0 {o : Option Nat} (h : ∀ q, o = some q → q < 2 ^ 31) : rd_op o < 0 ↔ o = none := by
  cases o with
  | none => exact ⟨fun _ => rfl, fun _ => (by decide : (-1 : Int32) < 0)⟩
  | some q => exact ⟨fun z => absurd z (nI_pos (h q rfl)), fun z => nomatch z⟩
theorem rd_op_k {o : Option Nat} (h : ∀ q, o = some q → q < 2 ^ 31) {k : Nat} (hk : k < 2 ^ 31) : rd_op o = nI k ↔ o = some k := by
  cases o with
  | none => exact ⟨fun z => absurd z.symm (rd_nm1 hk), fun z => nomatch z⟩
  | some q =>
    show nI q = nI k ↔ _
    rw [nI_eq (h q rfl) hk]
    exact ⟨fun z => by rw [z], fun z => Option.some.inj z⟩
theorem rd_op_inj {o o' : Option Nat} (h : ∀ q, o = some q → q < 2 ^ 31) (h' : ∀ q, o' = some q → q < 2 ^ 31) : rd_op o = rd_op o' ↔ o = o' := by
  cases o' with
  | none => exact rd_op_m1 h
  | some k => exact rd_op_k h (h' k rfl)
/-- the number before p -/
def rd_pr (p : Nat) : Int32 := nI p + (-1)
theorem rd_pr_s (p : Nat) : rd_pr (p + 1) = nI p := pk_m1 p
theorem rd_pr_0 : rd_pr 0 = -1 := by decide +kernel
theorem rd_pr_d (p : Nat) : rd_pr (p + 1) + (-1) = rd_pr p := congrArg (fun x : Int32 => x + (-1)) (rd_pr_s p)
theorem rd_pr_m (p : Nat) : nI p - 1 = rd_pr p := Int32.sub_eq_add_neg _ _
theorem rd_op_pr (b : Option Nat) : rd_op b = rd_pr (rd_lo b) := by
  cases b with
  | none => exact rd_pr_0.symm
  | some q => exact (rd_pr_s q).symm
theorem rd_pr_i {p : Nat} (h : p < 2 ^ 31) : (rd_pr p).toInt = (p : Int) - 1 := by
  cases p with
  | zero => rw [rd_pr_0]; decide
  | succ p => rw [rd_pr_s, nI_toInt (by omega)]; omega
theorem rd_pr_le {a b : Nat} (ha : a < 2 ^ 31) (hb : b < 2 ^ 31) : rd_pr a ≤ rd_pr b ↔ a ≤ b := by
  rw [Int32.le_iff_toInt_le, rd_pr_i ha, rd_pr_i hb]; omega
theorem rd_pr_lt0 {p : Nat} (h : p < 2 ^ 31) : rd_pr p < 0 ↔ p = 0 := by
  rw [Int32.lt_iff_toInt_lt, rd_pr_i h, show (0 : Int32).toInt = 0 from by decide]; omega
/-- the mask of the places below c at which P holds -/
def rd_ms (P : Nat → Bool) : Nat → Int32
  | 0 => 0
  | j + 1 => if P j = true then rd_ms P j ||| ((1 : Int32) <<< (nI j &&& 31)) else rd_ms P j
theorem rd_ms_t {P : Nat → Bool} {j : Nat} (h : P j = true) : rd_ms P (j + 1) = rd_ms P j ||| ((1 : Int32) <<< (nI j &&& 31)) := if_pos h
theorem rd_ms_f {P : Nat → Bool} {j : Nat} (h : ¬ P j = true) : rd_ms P (j + 1) = rd_ms P j := if_neg h
theorem rd_ms_cg {P Q : Nat → Bool} : ∀ c, (∀ j, j < c → P j = Q j) → rd_ms P c = rd_ms Q c := by
  intro c
  induction c with
  | zero => intro _; rfl
  | succ c ih =>
    intro h
    rw [rd_ms, rd_ms, ih (fun j hj => h j (by omega)), h c (Nat.lt_succ_self c)]
theorem rd_bt1 {j : Nat} (hj : j < 32) (i : Nat) : bt ((1 : Int32) <<< (nI j &&& 31)) i = decide (i = j) := by
  unfold bt
  rw [nf_sh j hj, BitVec.getLsbD_twoPow, decide_eq_true hj, Bool.true_and]
  exact decide_eq_decide.mpr ⟨Eq.symm, Eq.symm⟩
theorem rd_ms_bt {P : Nat → Bool} : ∀ c, c ≤ 32 → ∀ i, bt (rd_ms P c) i = (decide (i < c) && P i) := by
  intro c
  induction c with
  | zero => intro _ i; rw [rd_ms, b_0, decide_eq_false (Nat.not_lt_zero i), Bool.false_and]
  | succ c ih =>
    intro hc i
    have IH := ih (by omega) i
    by_cases e : i = c
    · subst e
      rw [decide_eq_false (Nat.lt_irrefl i), Bool.false_and] at IH
      rw [decide_eq_true (Nat.lt_succ_self i), Bool.true_and]
      by_cases h : P i = true
      · rw [rd_ms_t h, b_or, IH, rd_bt1 (by omega), decide_eq_true (show i = i from rfl), h, Bool.false_or]
      · rw [rd_ms_f h, IH]
        exact (Bool.eq_false_iff.mpr h).symm
    · have e2 : decide (i < c + 1) = decide (i < c) := decide_eq_decide.mpr ⟨fun _ => by omega, fun _ => by omega⟩
      rw [e2]
      by_cases h : P c = true
      · rw [rd_ms_t h, b_or, IH, rd_bt1 (by omega), decide_eq_false e, Bool.or_false]
      · rw [rd_ms_f h, IH]
theorem rd_and0 (x : Int32) {p : Nat} (hp : p < 32) : x &&& ((1 : Int32) <<< (nI p &&& 31)) = 0 ↔ bt x p = false := by
  rw [← Int32.toBitVec_inj, Int32.toBitVec_and, nf_sh p hp, BitVec.and_twoPow]
  show _ = 0#32 ↔ x.toBitVec.getLsbD p = false
  cases hb : x.toBitVec.getLsbD p
  · exact ⟨fun _ => rfl, fun _ => by simp⟩
  · exact ⟨fun z => absurd ((if_pos rfl).symm.trans z) (nf_tp p hp), fun z => nomatch z⟩
theorem rd_tst {P : Nat → Bool} {c k p : Nat} (hc : c ≤ 32) (hk : k < 32) (hp : p < 32) : (rd_ms P c ||| ((1 : Int32) <<< (nI k &&& 31))) &&& ((1 : Int32) <<< (nI p &&& 31)) = 0 ↔ ¬ ((p < c ∧ P p = true) ∨ p = k) := by
  have key : ∀ a b d : Bool, ((a && b) || d) = false ↔ ¬ ((a = true ∧ b = true) ∨ d = true) := by decide
  rw [rd_and0 _ hp, b_or, rd_ms_bt c hc, rd_bt1 hk, key, decide_eq_true_iff, decide_eq_true_iff]
/-- the number of places below c at which P holds -/
def rd_ct (P : Nat → Bool) : Nat → Int32
  | 0 => 0
  | j + 1 => if P j = true then rd_ct P j + 1 else rd_ct P j
theorem rd_ct_t {P : Nat → Bool} {j : Nat} (h : P j = true) : rd_ct P (j + 1) = rd_ct P j + 1 := if_pos h
theorem rd_ct_f {P : Nat → Bool} {j : Nat} (h : ¬ P j = true) : rd_ct P (j + 1) = rd_ct P j := if_neg h
/-- the count of open blocks as both sides keep it -/
def rd_oc (K : Nat → Int32) : Nat → Int32
  | 0 => 0
  | p + 1 => if K p = 0 then rd_oc K p + 1 else if K p = 1 then rd_oc K p - 1 else rd_oc K p
theorem rd_oc_0 {K : Nat → Int32} {p : Nat} (h : K p = 0) : rd_oc K (p + 1) = rd_oc K p + 1 := if_pos h
theorem rd_oc_1 {K : Nat → Int32} {p : Nat} (h : K p = 1) : rd_oc K (p + 1) = rd_oc K p - 1 := by
  rw [rd_oc, if_neg (by rw [h]; decide), if_pos h]
theorem rd_oc_2 {K : Nat → Int32} {p : Nat} (h0 : ¬ K p = 0) (h1 : ¬ K p = 1) : rd_oc K (p + 1) = rd_oc K p := by
  rw [rd_oc, if_neg h0, if_neg h1]
theorem rd_oc_dep {K : Nat → Int32} : ∀ {p : Nat}, rd_nest K p → rd_oc K p = nI (rd_dep K p).toNat := by
  intro p
  induction p with
  | zero => intro _; exact nI_0.symm
  | succ p ih =>
    intro hn
    have hn' : rd_nest K p := rd_nest_le hn (Nat.le_succ p)
    have h1 := hn' p (Nat.le_refl p)
    have h2 := hn (p + 1) (Nat.le_refl _)
    have hd : rd_dep K (p + 1) = rd_dep K p + rd_w (K p) := rfl
    by_cases h0 : K p = 0
    · rw [rd_w0 h0] at hd
      rw [rd_oc_0 h0, ih hn', nI_1]
      exact congrArg nI (by omega)
    · by_cases e1 : K p = 1
      · rw [rd_w1 e1] at hd
        obtain ⟨m, hm⟩ : ∃ m : Nat, (rd_dep K p).toNat = m + 1 := ⟨(rd_dep K p).toNat - 1, by omega⟩
        rw [rd_oc_1 e1, ih hn', hm, nI_pred]
        exact congrArg nI (by omega)
      · rw [rd_w2 h0 e1] at hd
        rw [rd_oc_2 h0 e1, ih hn']
        exact congrArg nI (by omega)
/-- a well formed program of c tokens -/
def rd_ok (K : Nat → Int32) (c : Nat) : Prop := rd_nest K c ∧ ∀ p, p < c → K p = 0 ∨ K p = 1 ∨ K p = 2 ∨ K p = 3
theorem rd_ok_cg {K K' : Nat → Int32} {c : Nat} (h : ∀ p, p < c → K p = K' p) (H : rd_ok K c) : rd_ok K' c :=
  ⟨fun p hp => by rw [← rd_dep_cg p (fun q hq => h q (by omega))]; exact H.1 p hp, fun p hp => by rw [← h p hp]; exact H.2 p hp⟩
theorem rd_ok_z (K : Nat → Int32) : rd_ok K 0 := by
  refine ⟨fun p hp => ?_, fun p hp => absurd hp (Nat.not_lt_zero p)⟩
  have e : p = 0 := by omega
  rw [e]
  exact Int.le_refl 0
theorem rd_ok_drop {K : Nat → Int32} {c : Nat} (H : rd_ok K (c + 1)) : rd_ok K c :=
  ⟨rd_nest_le H.1 (Nat.le_succ c), fun p hp => H.2 p (by omega)⟩
theorem rd_ok_add {K : Nat → Int32} {c : Nat} {x : Int32} (H : rd_ok K c) (hx : x = 0 ∨ x = 1 ∨ x = 2 ∨ x = 3) (h1 : x = 1 → ¬ rd_oc K c = 0) : rd_ok (upd K c x) (c + 1) := by
  have hcg : ∀ p, p ≤ c → rd_dep (upd K c x) p = rd_dep K p := fun p hp => rd_dep_cg p (fun q hq => pk_un (by omega))
  refine ⟨fun p hp => ?_, fun p hp => ?_⟩
  · by_cases e : p = c + 1
    · subst e
      show 0 ≤ rd_dep (upd K c x) c + rd_w (upd K c x c)
      rw [hcg c (Nat.le_refl c), pk_us]
      have hc := H.1 c (Nat.le_refl c)
      rcases hx with e | e | e | e
      · rw [rd_w0 e]; omega
      · rw [rd_w1 e]
        have h2 := h1 e
        rw [rd_oc_dep H.1] at h2
        have h3 : rd_dep K c ≠ 0 := fun z => h2 ((congrArg (fun d : Int => nI d.toNat) z).trans nI_0)
        omega
      · rw [rd_w2 (by rw [e]; decide) (by rw [e]; decide)]; omega
      · rw [rd_w2 (by rw [e]; decide) (by rw [e]; decide)]; omega
    · rw [hcg p (by omega)]
      exact H.1 p (by omega)
  · by_cases e : p = c
    · rw [e, pk_us]; exact hx
    · rw [pk_un e]; exact H.2 p (by omega)
/-- the place from which the token at p comes, when the token at f moves back to t -/
def rd_mo (f t p : Nat) : Nat := if p = t then f else if t < p ∧ p ≤ f then p - 1 else p
theorem rd_mo_lt {f t p c : Nat} (hf : f < c) (hp : p < c) : rd_mo f t p < c := by
  unfold rd_mo
  split
  · exact hf
  · split <;> omega
theorem rd_dep_mv {K K' : Nat → Int32} {f t c : Nat} (htf : t ≤ f) (hw : rd_w (K f) = 0) (hk : ∀ q, q < c → K' q = K (rd_mo f t q)) : ∀ p, p ≤ c → rd_dep K' p = rd_dep K (if t < p ∧ p ≤ f then p - 1 else p) := by
  intro p
  induction p with
  | zero => intro _; rw [if_neg (by omega)] <;> rfl
  | succ p ih =>
    intro hp
    have IH := ih (by omega)
    show rd_dep K' p + rd_w (K' p) = _
    rw [IH, hk p (by omega)]
    by_cases e1 : p = t
    · subst e1
      rw [if_neg (by omega), rd_mo, if_pos rfl, hw, Int.add_zero]
      by_cases e2 : p < f
      · rw [if_pos (by omega), Nat.add_sub_cancel]
      · have e3 : f = p := by omega
        rw [if_neg (by omega)]
        show _ = rd_dep K p + rd_w (K p)
        rw [← e3, hw, Int.add_zero]
    · by_cases e2 : t < p ∧ p ≤ f
      · rw [if_pos e2, rd_mo, if_neg e1, if_pos e2]
        have e4 : rd_dep K (p - 1) + rd_w (K (p - 1)) = rd_dep K p := by
          obtain ⟨r, hr⟩ : ∃ r, p = r + 1 := ⟨p - 1, by omega⟩
          rw [hr, Nat.add_sub_cancel] <;> rfl
        rw [e4]
        by_cases e5 : p + 1 ≤ f
        · rw [if_pos (by omega), Nat.add_sub_cancel]
        · have e3 : f = p := by omega
          rw [if_neg (by omega)]
          show _ = rd_dep K p + rd_w (K p)
          rw [← e3, hw, Int.add_zero]
      · rw [if_neg e2, rd_mo, if_neg e1, if_neg e2, if_neg (by omega)] <;> rfl
theorem rd_ok_mv {K K' : Nat → Int32} {f t c : Nat} (H : rd_ok K c) (htf : t ≤ f) (hf : f < c) (h2 : K f = 2 ∨ K f = 3) (hk : ∀ q, q < c → K' q = K (rd_mo f t q)) : rd_ok K' c := by
  have hw : rd_w (K f) = 0 := by
    rcases h2 with e | e
    · exact rd_w2 (by rw [e]; decide) (by rw [e]; decide)
    · exact rd_w2 (by rw [e]; decide) (by rw [e]; decide)
  refine ⟨fun p hp => ?_, fun p hp => ?_⟩
  · rw [rd_dep_mv htf hw hk p hp]
    apply H.1
    split <;> omega
  · rw [hk p hp]
    exact H.2 _ (rd_mo_lt hf hp)
/-- an array whose places below i are written -/
def rd_acc (i : Nat) (T A : Nat → Int32) : Nat → Int32 := fun p => if p < i then T p else A p
theorem rd_acc_0 (T A : Nat → Int32) : rd_acc 0 T A = A := funext (fun p => if_neg (Nat.not_lt_zero p))
theorem rd_acc_lt {i p : Nat} {T A : Nat → Int32} (h : p < i) : rd_acc i T A p = T p := if_pos h
theorem rd_acc_ge {i p : Nat} {T A : Nat → Int32} (h : ¬ p < i) : rd_acc i T A p = A p := if_neg h
theorem rd_acc_s {i : Nat} {T A : Nat → Int32} {x : Int32} (h : x = T i) : upd (rd_acc i T A) i x = rd_acc (i + 1) T A := by
  funext p
  by_cases e : p = i
  · rw [e, pk_us, rd_acc_lt (Nat.lt_succ_self i), h]
  · rw [pk_un e]
    by_cases e2 : p < i
    · rw [rd_acc_lt e2, rd_acc_lt (by omega)]
    · rw [rd_acc_ge e2, rd_acc_ge (by omega)]
theorem rd_acc_k {i : Nat} {T A : Nat → Int32} (h : T i = A i) : rd_acc i T A = rd_acc (i + 1) T A := by
  funext p
  by_cases e : p = i
  · rw [e, rd_acc_lt (Nat.lt_succ_self i), rd_acc_ge (Nat.lt_irrefl i), h]
  · by_cases e2 : p < i
    · rw [rd_acc_lt e2, rd_acc_lt (by omega)]
    · rw [rd_acc_ge e2, rd_acc_ge (by omega)]
theorem rd_acc_cg {c : Nat} {T T' A : Nat → Int32} (h : ∀ p, p < c → T p = T' p) : rd_acc c T A = rd_acc c T' A := by
  funext p
  by_cases e : p < c
  · rw [rd_acc_lt e, rd_acc_lt e, h p e]
  · rw [rd_acc_ge e, rd_acc_ge e]
theorem rd_acc_id {c : Nat} {T A : Nat → Int32} (h : ∀ p, p < c → T p = A p) : rd_acc c T A = A := by
  funext p
  by_cases e : p < c
  · rw [rd_acc_lt e, h p e]
  · rw [rd_acc_ge e]
/-- to what the token at p is bound, as the reference keeps it -/
def rd_wa (K L : Nat → Int32) (p : Nat) : Int32 := if K p = 3 then rd_op (rd_ds K L (L p) p 0) else -1
theorem rd_wa_3 {K L : Nat → Int32} {p : Nat} (h : K p = 3) : rd_wa K L p = rd_op (rd_ds K L (L p) p 0) := if_pos h
theorem rd_wa_n {K L : Nat → Int32} {p : Nat} (h : ¬ K p = 3) : rd_wa K L p = -1 := if_neg h
theorem rd_wa_cg {K K' L L' : Nat → Int32} {p : Nat} (h : ∀ q, q < p + 1 → K q = K' q) (g : ∀ q, q < p + 1 → L q = L' q) : rd_wa K L p = rd_wa K' L' p := by
  rw [rd_wa, rd_wa, h p (Nat.lt_succ_self p), g p (Nat.lt_succ_self p), rd_ds_cg p 0 (fun q hq => h q (by omega)) (fun q hq => g q (by omega))]
theorem rd_ds_b {K L : Nat → Int32} {n : Int32} {p c : Nat} (hp : p < 2 ^ 31) : ∀ q, rd_ds K L n p c = some q → q < 2 ^ 31 := fun _ h => Nat.lt_trans (rd_ds_some h).1 hp
theorem rd_ar_b {K : Nat → Int32} {p c : Nat} (hp : p < 2 ^ 31) : ∀ q, rd_ar K p c = some q → q < 2 ^ 31 := fun _ h => Nat.lt_trans (rd_ar_lt h) hp
theorem rd_la_b {K L : Nat → Int32} {n : Int32} {b : Option Nat} {p : Nat} (hp : p < 2 ^ 31) : ∀ q, rd_la K L n b p = some q → q < 2 ^ 31 := fun _ h => Nat.lt_trans (rd_la_lt h) hp
/-- the uses bound to d -/
def rd_ux (K L : Nat → Int32) (d : Int32) (p : Nat) : Bool := decide (K p = 3 ∧ rd_op (rd_ds K L (L p) p 0) = d)
theorem rd_ux_i {K L : Nat → Int32} {d : Int32} {p : Nat} : rd_ux K L d p = true ↔ (K p = 3 ∧ rd_op (rd_ds K L (L p) p 0) = d) := by
  unfold rd_ux
  exact decide_eq_true_iff
theorem rd_ux_k {K L : Nat → Int32} {k p : Nat} (hk : k < 2 ^ 31) : rd_ux K L (nI k) p = true ↔ rd_wa K L p = nI k := by
  rw [rd_ux_i]
  by_cases h : K p = 3
  · rw [rd_wa_3 h]; exact ⟨fun z => z.2, fun z => ⟨h, z⟩⟩
  · rw [rd_wa_n h]; exact ⟨fun z => absurd z.1 h, fun z => absurd z.symm (rd_nm1 hk)⟩
theorem rd_ux_f {K L : Nat → Int32} {p : Nat} (hp : p < 2 ^ 31) : rd_ux K L (-1) p = true ↔ (K p = 3 ∧ rd_wa K L p < 0) := by
  rw [rd_ux_i]
  by_cases h : K p = 3
  · rw [rd_wa_3 h, rd_op_m1 (rd_ds_b hp), rd_op_lt0 (rd_ds_b hp)]
  · exact ⟨fun z => absurd z.1 h, fun z => absurd z.1 h⟩
theorem rd_ux_2 {K L : Nat → Int32} {k p : Nat} (hk : k < 2 ^ 31) (hp : p < 2 ^ 31) (h : rd_ux K L (nI k) p = true) : K k = 2 := by
  have h2 := (rd_ux_i.mp h).2
  rw [rd_op_k (rd_ds_b hp) hk] at h2
  exact (rd_ds_some h2).2.1
/-- the names after a rename of the declaration at k to m -/
def rd_rb (K L : Nat → Int32) (k p : Nat) : Bool := decide (p = k ∨ rd_wa K L p = nI k)
theorem rd_rb_i {K L : Nat → Int32} {k p : Nat} : rd_rb K L k p = true ↔ (p = k ∨ rd_wa K L p = nI k) := by
  unfold rd_rb
  exact decide_eq_true_iff
def rd_rn (K L : Nat → Int32) (k : Nat) (m : Int32) : Nat → Int32 := fun p => if rd_rb K L k p = true then m else L p
theorem rd_rn_t {K L : Nat → Int32} {k p : Nat} {m : Int32} (h : rd_rb K L k p = true) : rd_rn K L k m p = m := if_pos h
theorem rd_rn_f {K L : Nat → Int32} {k p : Nat} {m : Int32} (h : ¬ rd_rb K L k p = true) : rd_rn K L k m p = L p := if_neg h
def rd_cb (K L : Nat → Int32) (k : Nat) (m : Int32) (p : Nat) : Bool := decide (rd_rn K L k m p ≠ L p)
theorem rd_cb_i {K L : Nat → Int32} {k p : Nat} {m : Int32} : rd_cb K L k m p = true ↔ (rd_rb K L k p = true ∧ L p ≠ m) := by
  unfold rd_cb
  rw [decide_eq_true_iff]
  by_cases h : rd_rb K L k p = true
  · rw [rd_rn_t h]; exact ⟨fun z => ⟨h, fun y => z y.symm⟩, fun z y => z.2 y.symm⟩
  · rw [rd_rn_f h]; exact ⟨fun z => absurd rfl z, fun z => absurd z.1 h⟩
theorem rd_cb_n {K L : Nat → Int32} {k p : Nat} {m : Int32} : rd_cb K L k m p = true ↔ rd_rn K L k m p ≠ L p := by
  unfold rd_cb
  exact decide_eq_true_iff
/-- the place before the change of what a use is bound to after it -/
def rd_om (O : Nat → Nat) : Option Nat → Int32
  | none => -1
  | some q => nI (O q)
/-- the change is legal -/
def rd_lg (K L K' L' : Nat → Int32) (O : Nat → Nat) (c : Nat) : Prop := ∀ p, p < c → K' p = 3 → rd_om O (rd_ds K' L' (L' p) p 0) = rd_wa K L (O p)
theorem rd_om_cg {O O' : Nat → Nat} {o : Option Nat} {p : Nat} (h : ∀ q, q < p → O q = O' q) (ho : ∀ q, o = some q → q < p) : rd_om O o = rd_om O' o := by
  cases o with
  | none => rfl
  | some q => exact congrArg nI (h q (ho q rfl))
theorem rd_lg_cg {K L T1 T2 K' L' : Nat → Int32} {o o' : Nat → Nat} {c : Nat} (h1 : ∀ p, p < c → T1 p = K' p) (h2 : ∀ p, p < c → T2 p = L' p) (h3 : ∀ p, p < c → o p = o' p) : rd_lg K L T1 T2 o c ↔ rd_lg K L K' L' o' c := by
  have key : ∀ p, p < c → (rd_om o (rd_ds T1 T2 (T2 p) p 0) = rd_wa K L (o p) ↔ rd_om o' (rd_ds K' L' (L' p) p 0) = rd_wa K L (o' p)) := by
    intro p hp
    rw [h2 p hp, h3 p hp, rd_ds_cg p 0 (fun q hq => h1 q (by omega)) (fun q hq => h2 q (by omega)), rd_om_cg (p := p) (fun q hq => h3 q (by omega)) (fun q hq => (rd_ds_some hq).1)]
  exact ⟨fun H p hp h => (key p hp).mp (H p hp (by rw [h1 p hp]; exact h)), fun H p hp h => (key p hp).mpr (H p hp (by rw [← h1 p hp]; exact h))⟩
theorem rd_acc2 {c : Nat} {A B C : Nat → Int32} : rd_acc c A (rd_acc c B C) = rd_acc c A C := by
  funext p
  by_cases e : p < c
  · rw [rd_acc_lt e, rd_acc_lt e]
  · rw [rd_acc_ge e, rd_acc_ge e, rd_acc_ge e]
