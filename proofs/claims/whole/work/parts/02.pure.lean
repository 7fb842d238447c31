def ex_pl (q l : Nat) : Nat := if q < 7 then (if q ≤ l then q + 1 else 0) else (if q - 7 ≤ l then l - (q - 7) + 1 else 0)
def ex_gl (l a : Nat) : Nat := if a < 4 then 1 else if ex_pl ((a - 4) / 14) l = 0 then 0 else ex_pl ((a - 4) % 14) l - ex_pl ((a - 4) / 14) l
def ex_gn (n l a : Nat) : Nat := if a < 4 then a else if ex_gl l a = 0 then 0 else n / 4 ^ (ex_pl ((a - 4) / 14) l - 1) % 4 ^ (ex_gl l a)
theorem ex_pl_le (q l : Nat) : ex_pl q l ≤ l + 1 := by
  unfold ex_pl; split <;> split <;> omega
theorem ex_gl_le (l a : Nat) (h : l ≤ 6) : ex_gl l a ≤ 6 := by
  unfold ex_gl
  split
  · omega
  · split
    · omega
    · have := ex_pl_le ((a - 4) % 14) l; omega
theorem ex_gn_lt (n l a : Nat) : ex_gn n l a < 4 ^ ex_gl l a := by
  by_cases h : a < 4
  · unfold ex_gn ex_gl; rw [if_pos h, if_pos h]; omega
  · unfold ex_gn; rw [if_neg h]
    split
    · rename_i h0; rw [h0]; decide
    · exact Nat.mod_lt _ (Nat.pow_pos (by decide))
abbrev ex_P : Type := Nat × Nat × Nat × Nat
def ex_ok (p : ex_P) : Prop := p.1 < 4 ^ p.2.1 ∧ p.2.1 ≤ 6 ∧ p.2.2.1 < 4 ^ p.2.2.2 ∧ p.2.2.2 ≤ 6
def ex_a1 (p : ex_P) (a so : Nat) : Option Nat :=
  if ex_gl p.2.1 a = 0 then none else if so + ex_gl p.2.1 a ≤ p.2.2.2 then (if p.2.2.1 / 4 ^ so % 4 ^ ex_gl p.2.1 a = ex_gn p.1 p.2.1 a then some (so + ex_gl p.2.1 a) else none) else none
theorem ex_a1_le {p : ex_P} {a so t : Nat} (h : ex_a1 p a so = some t) : t ≤ p.2.2.2 := by
  unfold ex_a1 at h
  split at h
  · exact nomatch h
  · split at h
    · split at h
      · cases h; assumption
      · exact nomatch h
    · exact nomatch h
def ex_sp (d : Nat → ex_P) : Nat → Nat → Nat → Nat → Option Nat
  | 0, _, _, _ => some 0
  | m + 1, j, a, s => match ex_a1 (d j) a (s % 7) with
    | none => none
    | some t => match ex_sp d m (j + 1) a (s / 7) with
      | none => none
      | some r => some (t + 7 * r)
def ex_go (d : Nat → ex_P) : Nat → Nat → Nat
  | 0, _ => 0
  | m + 1, j => (d j).2.2.2 + 7 * ex_go d m (j + 1)
theorem ex_div7 (s i : Nat) : s / 7 / 7 ^ i = s / 7 ^ (i + 1) := by
  rw [Nat.div_div_eq_div_mul, Nat.pow_succ, Nat.mul_comm]
theorem ex_sp_some (d : Nat → ex_P) : ∀ m j a s r : Nat, (∀ i, i < m → (d (j + i)).2.2.2 ≤ 6) → ex_sp d m j a s = some r → r ≤ ex_go d m j ∧ r < 7 ^ m ∧ ∀ i, i < m → ex_a1 (d (j + i)) a (s / 7 ^ i % 7) = some (r / 7 ^ i % 7) := by
  intro m
  induction m with
  | zero =>
    intro j a s r hd h
    cases h
    exact ⟨Nat.le_refl _, by decide, fun i hi => absurd hi (Nat.not_lt_zero i)⟩
  | succ m ih =>
    intro j a s r hd h
    unfold ex_sp at h
    split at h
    · exact nomatch h
    · rename_i t ht
      split at h
      · exact nomatch h
      · rename_i r' hr
        cases h
        obtain ⟨h1, h2, h3⟩ := ih (j + 1) a (s / 7) r' (fun i hi => by have := hd (i + 1) (by omega); rwa [show j + 1 + i = j + (i + 1) by omega]) hr
        have ht6 : t ≤ (d j).2.2.2 := ex_a1_le ht
        have hj : (d j).2.2.2 ≤ 6 := hd 0 (by omega)
        have e7 : (t + 7 * r') / 7 = r' := by omega
        refine ⟨by unfold ex_go; omega, by rw [Nat.pow_succ]; omega, fun i hi => ?_⟩
        cases i with
        | zero =>
          rw [Nat.pow_zero, Nat.div_one, Nat.div_one, Nat.add_zero, ht]
          exact congrArg some (by omega)
        | succ i =>
          have h4 := h3 i (by omega)
          rw [ex_div7] at h4
          rw [show j + (i + 1) = j + 1 + i by omega, h4, ← ex_div7, e7]
theorem ex_sp_none (d : Nat → ex_P) : ∀ m j a s : Nat, ex_sp d m j a s = none → ∃ i, i < m ∧ ex_a1 (d (j + i)) a (s / 7 ^ i % 7) = none := by
  intro m
  induction m with
  | zero => intro j a s h; exact nomatch h
  | succ m ih =>
    intro j a s h
    unfold ex_sp at h
    split at h
    · rename_i ht
      exact ⟨0, by omega, by rw [Nat.pow_zero, Nat.div_one]; exact ht⟩
    · split at h
      · rename_i hr
        obtain ⟨i, hi, hn⟩ := ih _ _ _ hr
        refine ⟨i + 1, by omega, ?_⟩
        rw [ex_div7] at hn
        rw [show j + (i + 1) = j + 1 + i by omega]
        exact hn
      · exact nomatch h
theorem ex_dig : ∀ m r s : Nat, r < 7 ^ m → s < 7 ^ m → (∀ i, i < m → r / 7 ^ i % 7 = s / 7 ^ i % 7) → r = s := by
  intro m
  induction m with
  | zero => intro r s hr hs _; rw [Nat.pow_zero] at hr hs; omega
  | succ m ih =>
    intro r s hr hs h
    have h0 := h 0 (by omega)
    rw [Nat.pow_zero, Nat.div_one, Nat.div_one] at h0
    rw [Nat.pow_succ] at hr hs
    have h1 := ih (r / 7) (s / 7) (by omega) (by omega) (fun i hi => by rw [ex_div7, ex_div7]; exact h (i + 1) (by omega))
    omega
theorem ex_go_dig (d : Nat → ex_P) : ∀ m j : Nat, (∀ i, i < m → (d (j + i)).2.2.2 ≤ 6) → ex_go d m j < 7 ^ m ∧ ∀ i, i < m → ex_go d m j / 7 ^ i % 7 = (d (j + i)).2.2.2 := by
  intro m
  induction m with
  | zero => intro j _; exact ⟨by unfold ex_go; decide, fun i hi => absurd hi (Nat.not_lt_zero i)⟩
  | succ m ih =>
    intro j hd
    obtain ⟨h1, h2⟩ := ih (j + 1) (fun i hi => by have := hd (i + 1) (by omega); rwa [show j + 1 + i = j + (i + 1) by omega])
    have hj : (d j).2.2.2 ≤ 6 := hd 0 (by omega)
    unfold ex_go
    refine ⟨by rw [Nat.pow_succ]; omega, fun i hi => ?_⟩
    cases i with
    | zero => rw [Nat.pow_zero, Nat.div_one]; show _ = (d j).2.2.2; omega
    | succ i =>
      rw [← ex_div7, show ((d j).2.2.2 + 7 * ex_go d m (j + 1)) / 7 = ex_go d m (j + 1) by omega, h2 i (by omega), show j + 1 + i = j + (i + 1) by omega]
def ex_sm (f : Nat → Nat) : Nat → Nat
  | 0 => 0
  | n + 1 => ex_sm f n + f n
theorem ex_sm_le {f : Nat → Nat} {B : Nat} (h : ∀ a, f a ≤ B) : ∀ n, ex_sm f n ≤ n * B := by
  intro n
  induction n with
  | zero => exact Nat.zero_le _
  | succ n ih => have := h n; rw [Nat.succ_mul]; unfold ex_sm; omega
theorem ex_sm_0 {f : Nat → Nat} : ∀ n, (∀ a, a < n → f a = 0) → ex_sm f n = 0 := by
  intro n
  induction n with
  | zero => intro _; rfl
  | succ n ih => intro h; unfold ex_sm; rw [ih (fun a ha => h a (by omega)), h n (by omega)]
theorem ex_sm_p {f : Nat → Nat} {a : Nat} (hp : 0 < f a) : ∀ n, a < n → 0 < ex_sm f n := by
  intro n
  induction n with
  | zero => intro h; exact absurd h (Nat.not_lt_zero a)
  | succ n ih =>
    intro h
    unfold ex_sm
    by_cases e : a = n
    · rw [← e]; omega
    · have := ih (by omega); omega
def ex_ct (d : Nat → ex_P) (m : Nat) : Nat → Nat → Nat
  | 0, s => if s = ex_go d m 0 then 1 else 0
  | k + 1, s => ex_sm (fun a => match ex_sp d m 0 a s with | none => 0 | some t => ex_ct d m k t) 200
def ex_tm (d : Nat → ex_P) (m k s a : Nat) : Nat := match ex_sp d m 0 a s with | none => 0 | some t => ex_ct d m k t
theorem ex_ct_s (d : Nat → ex_P) (m k s : Nat) : ex_ct d m (k + 1) s = ex_sm (ex_tm d m k s) 200 := rfl
theorem ex_tm_n {d : Nat → ex_P} {m k s a : Nat} (h : ex_sp d m 0 a s = none) : ex_tm d m k s a = 0 := by
  unfold ex_tm; rw [h]
theorem ex_tm_s {d : Nat → ex_P} {m k s a t : Nat} (h : ex_sp d m 0 a s = some t) : ex_tm d m k s a = ex_ct d m k t := by
  unfold ex_tm; rw [h]
theorem ex_ct_le (d : Nat → ex_P) (m : Nat) : ∀ k s, ex_ct d m k s ≤ 200 ^ k := by
  intro k
  induction k with
  | zero => intro s; unfold ex_ct; split <;> decide
  | succ k ih =>
    intro s
    rw [ex_ct_s, Nat.pow_succ, Nat.mul_comm]
    refine ex_sm_le (fun a => ?_) 200
    cases h : ex_sp d m 0 a s with
    | none => rw [ex_tm_n h]; exact Nat.zero_le _
    | some t => rw [ex_tm_s h]; exact ih t
theorem ex_ct_b (d : Nat → ex_P) (m : Nat) {k : Nat} (hk : k ≤ 3) (s : Nat) : ex_ct d m k s ≤ 8000000 :=
  Nat.le_trans (ex_ct_le d m k s) (Nat.pow_le_pow_right (n := 200) (by decide) hk)
def ex_lf (P : Nat → Bool) : Nat → Nat
  | 0 => 0
  | n + 1 => if ex_lf P n < n then ex_lf P n else if P n then n else n + 1
theorem ex_lf_le (P : Nat → Bool) : ∀ n, ex_lf P n ≤ n := by
  intro n
  induction n with
  | zero => exact Nat.le_refl _
  | succ n ih => unfold ex_lf; split; omega; split <;> omega
theorem ex_lf_sp (P : Nat → Bool) : ∀ n, (ex_lf P n < n → P (ex_lf P n) = true) ∧ (∀ b, b < ex_lf P n → P b = false) := by
  intro n
  induction n with
  | zero => exact ⟨fun h => absurd h (Nat.not_lt_zero _), fun b h => absurd h (Nat.not_lt_zero _)⟩
  | succ n ih =>
    have hle := ex_lf_le P n
    by_cases h1 : ex_lf P n < n
    · have e : ex_lf P (n + 1) = ex_lf P n := if_pos h1
      rw [e]
      exact ⟨fun _ => ih.1 h1, ih.2⟩
    · have e0 : ex_lf P n = n := by omega
      rw [e0] at ih
      cases hP : P n with
      | true =>
        have e : ex_lf P (n + 1) = n := by show (if _ then _ else _) = n; rw [if_neg h1, if_pos hP]
        rw [e]
        exact ⟨fun _ => hP, ih.2⟩
      | false =>
        have e : ex_lf P (n + 1) = n + 1 := by show (if _ then _ else _) = n + 1; rw [if_neg h1, if_neg (by rw [hP]; decide)]
        rw [e]
        refine ⟨fun h => absurd h (Nat.lt_irrefl _), fun b hb => ?_⟩
        by_cases eb : b = n
        · rw [eb]; exact hP
        · exact ih.2 b (by omega)
theorem ex_lf_eq {P : Nat → Bool} {n a : Nat} (ha : a < n) (hP : P a = true) (hb : ∀ b, b < a → P b = false) : ex_lf P n = a := by
  have h := ex_lf_sp P n
  rcases Nat.lt_trichotomy (ex_lf P n) a with h1 | h1 | h1
  · have h2 := h.1 (by omega); rw [hb _ h1] at h2; exact nomatch h2
  · exact h1
  · have h2 := h.2 a h1; rw [hP] at h2; exact nomatch h2
def ex_pb (d : Nat → ex_P) (m k s a : Nat) : Bool := decide (0 < ex_tm d m k s a)
def ex_fa (d : Nat → ex_P) (m k s : Nat) : Nat := ex_lf (ex_pb d m k s) 200
def ex_st (d : Nat → ex_P) (m k : Nat) : Nat → Nat
  | 0 => 0
  | i + 1 => (ex_sp d m 0 (ex_fa d m (k - i - 1) (ex_st d m k i)) (ex_st d m k i)).getD 0
def ex_at (d : Nat → ex_P) (m k i : Nat) : Nat := ex_fa d m (k - i - 1) (ex_st d m k i)
theorem ex_st_s (d : Nat → ex_P) (m k i : Nat) : ex_st d m k (i + 1) = (ex_sp d m 0 (ex_at d m k i) (ex_st d m k i)).getD 0 := rfl
theorem ex_pb_s {d : Nat → ex_P} {m k s a : Nat} (h : ex_pb d m k s a = true) : ∃ t, ex_sp d m 0 a s = some t ∧ 0 < ex_ct d m k t := by
  have h' := of_decide_eq_true h
  cases e : ex_sp d m 0 a s with
  | none => rw [ex_tm_n e] at h'; exact absurd h' (Nat.lt_irrefl 0)
  | some t => rw [ex_tm_s e] at h'; exact ⟨t, rfl, h'⟩
theorem ex_fa_p {d : Nat → ex_P} {m k s : Nat} (h : 0 < ex_ct d m (k + 1) s) : ex_fa d m k s < 200 := by
  rcases Nat.lt_or_ge (ex_fa d m k s) 200 with h1 | h1
  · exact h1
  · exfalso
    have h2 : ∀ a, a < 200 → ex_tm d m k s a = 0 := fun a ha => by
      have h3 := (ex_lf_sp (ex_pb d m k s) 200).2 a (Nat.lt_of_lt_of_le ha h1)
      have h4 := of_decide_eq_false h3
      omega
    rw [ex_ct_s, ex_sm_0 200 h2] at h
    exact Nat.lt_irrefl 0 h
theorem ex_fa_s {d : Nat → ex_P} {m k s : Nat} (h : 0 < ex_ct d m (k + 1) s) : ∃ t, ex_sp d m 0 (ex_fa d m k s) s = some t ∧ 0 < ex_ct d m k t :=
  ex_pb_s ((ex_lf_sp (ex_pb d m k s) 200).1 (ex_fa_p h))
theorem ex_st_p {d : Nat → ex_P} {m k : Nat} (h : 0 < ex_ct d m k 0) : ∀ i, i ≤ k → 0 < ex_ct d m (k - i) (ex_st d m k i) := by
  intro i
  induction i with
  | zero => intro _; exact h
  | succ i ih =>
    intro hi
    have h1 := ih (by omega)
    rw [show k - i = (k - i - 1) + 1 by omega] at h1
    obtain ⟨t, ht, hp⟩ := ex_fa_s h1
    rw [ex_st_s]
    unfold ex_at
    rw [ht, show k - (i + 1) = k - i - 1 by omega]
    exact hp
theorem ex_at_p {d : Nat → ex_P} {m k : Nat} (h : 0 < ex_ct d m k 0) {i : Nat} (hi : i < k) : ex_at d m k i < 200 ∧ ex_sp d m 0 (ex_at d m k i) (ex_st d m k i) = some (ex_st d m k (i + 1)) := by
  have h1 := ex_st_p h i (by omega)
  rw [show k - i = (k - i - 1) + 1 by omega] at h1
  refine ⟨ex_fa_p h1, ?_⟩
  obtain ⟨t, ht, hp⟩ := ex_fa_s h1
  rw [ex_st_s]
  unfold ex_at
  rw [ht]
  rfl
def ex_re (n l : Nat) (f : Nat → Nat) : Nat → Option (Nat × Nat)
  | 0 => some (0, 0)
  | i + 1 => match ex_re n l f i with
    | none => none
    | some q => if ex_gl l (f i) = 0 then none else some (q.1 + ex_gn n l (f i) * 4 ^ q.2, q.2 + ex_gl l (f i))
theorem ex_pw4 {R L g k : Nat} (h1 : R < 4 ^ L) (h2 : g < 4 ^ k) : R + g * 4 ^ L < 4 ^ (L + k) := by
  have h3 : (g + 1) * 4 ^ L ≤ 4 ^ k * 4 ^ L := Nat.mul_le_mul_right _ h2
  rw [Nat.pow_add, Nat.mul_comm (4 ^ L)]
  rw [Nat.succ_mul] at h3
  omega
theorem ex_re_ok {n l : Nat} (hl : l ≤ 6) (f : Nat → Nat) : ∀ i q, ex_re n l f i = some q → q.1 < 4 ^ q.2 ∧ q.2 ≤ 6 * i := by
  intro i
  induction i with
  | zero => intro q h; cases h; exact ⟨by decide, Nat.le_refl _⟩
  | succ i ih =>
    intro q h
    unfold ex_re at h
    split at h
    · exact nomatch h
    · rename_i q' hq
      split at h
      · exact nomatch h
      · cases h
        obtain ⟨h1, h2⟩ := ih q' hq
        have h3 := ex_gl_le l (f i) hl
        exact ⟨ex_pw4 h1 (ex_gn_lt _ _ _), by show q'.2 + _ ≤ _; omega⟩
def ex_ls (d : Nat → ex_P) (m : Nat) : Nat := if 0 < ex_ct d m 1 0 then 1 else if 0 < ex_ct d m 2 0 then 2 else if 0 < ex_ct d m 3 0 then 3 else 0
def ex_lI (k : Nat) : Int32 := if k = 0 then -3 else nI k
def ex_oI : Option Nat → Int32
  | none => -1
  | some n => nI n
theorem ex_ls_le (d : Nat → ex_P) (m : Nat) : ex_ls d m ≤ 3 := by unfold ex_ls; split; omega; split; omega; split <;> omega
theorem ex_ls_p {d : Nat → ex_P} {m : Nat} (h : ex_ls d m ≠ 0) : 0 < ex_ct d m (ex_ls d m) 0 := by
  unfold ex_ls at h ⊢
  split
  · assumption
  · split
    · assumption
    · split
      · assumption
      · rename_i h1 h2 h3; rw [if_neg h1, if_neg h2, if_neg h3] at h; exact absurd rfl h
