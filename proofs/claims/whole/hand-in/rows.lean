section
theorem pk_us {f : Nat → Int32} {k : Nat} {x : Int32} : upd f k x k = x := if_pos rfl
theorem pk_un {f : Nat → Int32} {k j : Nat} {x : Int32} (h : j ≠ k) : upd f k x j = f j := if_neg h
theorem pk_uLs {f : Nat → Int64} {k : Nat} {x : Int64} : vp_updL f k x k = x := if_pos rfl
theorem pk_uLn {f : Nat → Int64} {k j : Nat} {x : Int64} (h : j ≠ k) : vp_updL f k x j = f j := if_neg h
theorem pk_sub {a b : Nat} (h : b ≤ a) : nI a - nI b = nI (a - b) := by
  obtain ⟨c, rfl⟩ : ∃ c, a = c + b := ⟨a - b, by omega⟩
  rw [← nI_add, Int32.add_sub_cancel, Nat.add_sub_cancel]
theorem pk_m1 (n : Nat) : nI (n + 1) + (-1) = nI n := by
  rw [← nI_1, Int32.add_assoc, show (1 : Int32) + (-1) = 0 from rfl, Int32.add_zero]
theorem pk_mul (a b : Nat) : nI a * nI b = nI (a * b) := (Int32.ofNat_mul a b).symm
theorem pk_div {a d : Nat} (ha : a < 2 ^ 31) (h0 : 0 < d) (hd : d < 2 ^ 31) : nI a / nI d = nI (a / d) := by
  apply Int32.toInt_inj.mp
  rw [lg_idiv_nonneg (by rw [nI_toInt ha]; omega) (by rw [nI_toInt hd]; omega), nI_toInt ha, nI_toInt hd, nI_toInt (Nat.lt_of_le_of_lt (Nat.div_le_self a d) ha)]
  first | rfl | exact (Int.natCast_ediv _ _).symm
theorem pk_rem {a d : Nat} (ha : a < 2 ^ 31) (h0 : 0 < d) (hd : d < 2 ^ 31) : nI a - nI a / nI d * nI d = nI (a % d) := by
  rw [pk_div ha h0 hd, pk_mul, pk_sub (Nat.div_mul_le_self a d)]
  exact congrArg nI (by have := Nat.div_add_mod' a d; omega)
theorem pk_sub_toInt {a b : Nat} (ha : a < 2 ^ 30) (hb : b < 2 ^ 30) : (nI a - nI b).toInt = (a : Int) - b := by
  rw [Int32.toInt_sub, nI_toInt (by omega), nI_toInt (by omega)]
  exact Int.bmod_eq_of_le (by omega) (by omega)
theorem pk_sneg {a b : Nat} (hb : b < 2 ^ 30) (h : a < b) : nI a - nI b < 0 := by
  rw [Int32.lt_iff_toInt_lt, pk_sub_toInt (by omega) hb, show (0 : Int32).toInt = 0 from by decide]
  omega
theorem pk_ix (x : Int32) {n : Nat} (hn : n < 2 ^ 31) : x < 0 ∨ nI n ≤ x ∨ ∃ j : Nat, j < n ∧ x = nI j := by
  by_cases h : x < 0
  · exact Or.inl h
  · obtain ⟨j, hj, rfl⟩ := nI_of h
    by_cases h2 : j < n
    · exact Or.inr (Or.inr ⟨j, h2, rfl⟩)
    · exact Or.inr (Or.inl (nI_le (by omega) hj))
theorem pk_le {x y : Int32} {A B : Prop} (a b : Nat) (f : a ≤ b → A) (g : b < a → B) (hx : x = nI a := by rfl) (hy : y = nI b := by rfl) (ha : a < 2 ^ 31 := by omega) (hb : b < 2 ^ 31 := by omega) : (x ≤ y → A) ∧ (¬ x ≤ y → B) := by
  subst hx hy
  rw [nI_leI ha hb]
  exact ⟨f, fun z => g (by omega)⟩
theorem pk_lt {x y : Int32} {A B : Prop} (a b : Nat) (f : a < b → A) (g : b ≤ a → B) (hx : x = nI a := by rfl) (hy : y = nI b := by rfl) (ha : a < 2 ^ 31 := by omega) (hb : b < 2 ^ 31 := by omega) : (x < y → A) ∧ (¬ x < y → B) := by
  subst hx hy
  rw [nI_ltI ha hb]
  exact ⟨f, fun z => g (by omega)⟩
theorem pk_eq {x y : Int32} {A B : Prop} (a b : Nat) (f : a = b → A) (g : a ≠ b → B) (hx : x = nI a := by rfl) (hy : y = nI b := by rfl) (ha : a < 2 ^ 31 := by omega) (hb : b < 2 ^ 31 := by omega) : (x = y → A) ∧ (¬ x = y → B) := by
  subst hx hy
  rw [nI_eq ha hb]
  exact ⟨f, g⟩
theorem pk_in {x : Int32} (n N : Nat) (h : n < N) (hx : x = nI n := by rfl) (hN : N < 2 ^ 31 := by omega) : vp_in x N := by
  subst hx
  exact vp_in_nI h hN
theorem pk_cl {x : Int32} (n : Nat) (hx : x = nI n := by rfl) (h : n < 2 ^ 31 := by omega) : x.toNatClampNeg = n := by
  subst hx
  exact nI_clamp h
theorem pk_tn {n : Nat} (h : n < 2 ^ 32) : (nI n).toBitVec.toNat = n := Nat.mod_eq_of_lt h
theorem pk_and (x : Int32) {m : Int32} (k : Nat) (hm : m.toBitVec.toNat = 2 ^ k - 1) : x &&& m = nI (x.toBitVec.toNat % 2 ^ k) := by
  apply Int32.toBitVec_inj.mp
  apply BitVec.eq_of_toNat_eq
  rw [Int32.toBitVec_and, BitVec.toNat_and, hm, Nat.and_two_pow_sub_one_eq_mod]
  show _ = (BitVec.ofNat 32 _).toNat
  rw [BitVec.toNat_ofNat]
  exact (Nat.mod_eq_of_lt (Nat.lt_of_le_of_lt (Nat.mod_le _ _) x.toBitVec.isLt)).symm
theorem pk_andN {n : Nat} (h : n < 2 ^ 32) {m : Int32} (k : Nat) (hm : m.toBitVec.toNat = 2 ^ k - 1) : nI n &&& m = nI (n % 2 ^ k) := by
  rw [pk_and _ k hm, pk_tn h]
theorem pk_andE (x : Int32) {m : Int32} (k : Nat) (hm : m.toBitVec.toNat = 2 ^ k - 1) : ∃ j : Nat, j < 2 ^ k ∧ x &&& m = nI j := ⟨_, Nat.mod_lt _ (Nat.two_pow_pos k), pk_and x k hm⟩
theorem pk_andIn (x : Int32) {m : Int32} (k : Nat) (hm : m.toBitVec.toNat = 2 ^ k - 1) (hk : k ≤ 30) : vp_in (x &&& m) (2 ^ k) := by
  obtain ⟨j, hj, e⟩ := pk_andE x k hm
  rw [e]
  exact vp_in_nI hj (Nat.lt_of_le_of_lt (Nat.pow_le_pow_right (by decide) hk) (by decide))
theorem pk_shl (a s : Int32) (k : Nat) (hs : (s.toBitVec.smod 32).toNat = k) : (a <<< s).toBitVec.toNat = a.toBitVec.toNat * 2 ^ k % 2 ^ 32 := by
  show (a.toBitVec <<< (s.toBitVec.smod 32).toNat).toNat = _
  rw [hs, BitVec.toNat_shiftLeft, Nat.shiftLeft_eq]
theorem pk_shlN {n : Nat} (s : Int32) (k : Nat) (hs : (s.toBitVec.smod 32).toNat = k) (h : n * 2 ^ k < 2 ^ 32) : nI n <<< s = nI (n * 2 ^ k) := by
  apply Int32.toBitVec_inj.mp
  apply BitVec.eq_of_toNat_eq
  have hn : n < 2 ^ 32 := Nat.lt_of_le_of_lt (Nat.le_mul_of_pos_right n (Nat.two_pow_pos k)) h
  rw [pk_shl _ _ k hs, pk_tn hn, pk_tn h, Nat.mod_eq_of_lt h]
theorem pk_shr (a s : Int32) (k : Nat) (hs : (s.toBitVec.smod 32).toNat = k) : (a >>> s).toInt = a.toInt >>> k := by
  show (a.toBitVec.sshiftRight (s.toBitVec.smod 32).toNat).toInt = _
  rw [hs, BitVec.toInt_sshiftRight]
  rfl
theorem pk_shrN {n : Nat} (h : n < 2 ^ 31) (s : Int32) (k : Nat) (hs : (s.toBitVec.smod 32).toNat = k) : nI n >>> s = nI (n / 2 ^ k) := by
  apply Int32.toInt_inj.mp
  have h2 : n / 2 ^ k ≤ n := Nat.div_le_self _ _
  rw [pk_shr _ _ k hs, nI_toInt h, nI_toInt (by omega), Int.shiftRight_eq_div_pow]
  rfl
theorem pk_ushr (x s : Int32) (k : Nat) (hs : ((s.toUInt32 &&& Int32.toUInt32 31).toBitVec % 32).toNat = k) : (x.toUInt32 >>> (s.toUInt32 &&& Int32.toUInt32 31)).toInt32.toBitVec.toNat = x.toBitVec.toNat / 2 ^ k := by
  have e : (x.toUInt32 >>> (s.toUInt32 &&& Int32.toUInt32 31)).toInt32.toBitVec = x.toBitVec >>> k := by
    rw [← hs]
    exact UInt32.toBitVec_shiftRight _ _
  rw [e, BitVec.toNat_ushiftRight, Nat.shiftRight_eq_div_pow]
theorem pk_ushrN {n : Nat} (hn : n < 2 ^ 32) (s : Int32) (k : Nat) (hs : ((s.toUInt32 &&& Int32.toUInt32 31).toBitVec % 32).toNat = k) : ((nI n).toUInt32 >>> (s.toUInt32 &&& Int32.toUInt32 31)).toInt32 = nI (n / 2 ^ k) := by
  apply Int32.toBitVec_inj.mp
  apply BitVec.eq_of_toNat_eq
  rw [pk_ushr _ s k hs, pk_tn hn, pk_tn (Nat.lt_of_le_of_lt (Nat.div_le_self _ _) hn)]
theorem pk_lT {n : Nat} (h : n < 2 ^ 63) : (lN n).toInt = (n : Int) := lg_ofNat_toInt h
theorem pk_lLT {a b : Nat} (ha : a < 2 ^ 63) (hb : b < 2 ^ 63) : lN a < lN b ↔ a < b := by
  rw [Int64.lt_iff_toInt_lt, pk_lT ha, pk_lT hb]; omega
theorem pk_lLE {a b : Nat} (ha : a < 2 ^ 63) (hb : b < 2 ^ 63) : lN a ≤ lN b ↔ a ≤ b := by
  rw [Int64.le_iff_toInt_le, pk_lT ha, pk_lT hb]; omega
theorem pk_lEQ {a b : Nat} (ha : a < 2 ^ 63) (hb : b < 2 ^ 63) : lN a = lN b ↔ a = b := by
  rw [← Int64.toInt_inj, pk_lT ha, pk_lT hb]; omega
theorem pk_lOf {x : Int64} (h : ¬ x < 0) : ∃ k : Nat, k < 2 ^ 63 ∧ x = lN k := by
  rw [Int64.lt_iff_toInt_lt] at h
  have h0 : (0 : Int64).toInt = 0 := by decide
  have hx := Int64.toInt_lt x
  refine ⟨x.toInt.toNat, by omega, Int64.toInt_inj.mp ?_⟩
  rw [pk_lT (by omega)]
  omega
theorem pk_lDiv {a b : Nat} (ha : a < 2 ^ 63) (h0 : 0 < b) (hb : b < 2 ^ 63) : lN a / lN b = lN (a / b) := by
  apply Int64.toInt_inj.mp
  rw [lg_ldiv_nonneg (by rw [pk_lT ha]; omega) (by rw [pk_lT hb]; omega), pk_lT ha, pk_lT hb, pk_lT (Nat.lt_of_le_of_lt (Nat.div_le_self a b) ha)]
  rfl
theorem pk_lRem {a b : Nat} (ha : a < 2 ^ 63) (h0 : 0 < b) (hb : b < 2 ^ 63) : lN a - lN a / lN b * lN b = lN (a % b) := by
  rw [pk_lDiv ha h0 hb, lN_mul, lN_sub (Nat.div_mul_le_self a b)]
  exact congrArg lN (by have := Nat.div_add_mod' a b; omega)
theorem pk_loop {σ : Type} (W : Nat → Nat → σ → Prop) (I : Nat → σ → Prop) (e i0 : Nat) (s : σ) (hi : i0 ≤ e) (h0 : I i0 s) (hx : ∀ n s, I e s → W (n + 1) e s)
    (hs : ∀ n i s, i < e → I i s → (∀ s', I (i + 1) s' → W n (i + 1) s') → W (n + 1) i s) : ∃ n, W n i0 s :=
  ⟨e + 1, loop_i W I e hx hs (e + 1) i0 s hi (by omega) h0⟩
theorem pk_loopD {σ : Type} (W : Nat → Nat → σ → Prop) (I : Nat → σ → Prop) (hx : ∀ n s, I 0 s → W (n + 1) 0 s)
    (hs : ∀ n i s, I (i + 1) s → (∀ s', I i s' → W n i s') → W (n + 1) (i + 1) s) : ∀ (e : Nat) (s : σ), I e s → W (e + 1) e s := by
  intro e
  induction e with
  | zero => exact fun s h => hx 0 s h
  | succ e ih => exact fun s h => hs (e + 1) e s h (fun s' h' => ih s' h')
theorem pk_least (P : Nat → Prop) (h : ∃ k, P k) : ∃ k, P k ∧ ∀ j, j < k → ¬ P j := by
  obtain ⟨k, hk⟩ := h
  induction k using Nat.strongRecOn with
  | ind k ih =>
    by_cases e : ∃ j, j < k ∧ P j
    · obtain ⟨j, hj, pj⟩ := e
      exact ih j hj pj
    · exact ⟨k, hk, fun j hj pj => e ⟨j, hj, pj⟩⟩
theorem ek_if {c d A B : Prop} (e : c ↔ d) (f : d → A) (g : ¬ d → B) : (c → A) ∧ (¬ c → B) :=
  ⟨fun z => f (e.mp z), fun z => g (fun y => z (e.mpr y))⟩
theorem ek_v {α : Sort _} {P : α → Prop} {a b : α} (e : a = b) (h : P b) : P a := e ▸ h
theorem s_l : ∀ n, n < 32 → ((nI n &&& 31).toBitVec.smod 32).toNat = n := by decide +kernel
theorem nx_and (a b : Nat) : nI a &&& nI b = nI (a &&& b) := by
  apply Int32.toBitVec_inj.1
  show BitVec.ofNat 32 a &&& BitVec.ofNat 32 b = BitVec.ofNat 32 (a &&& b)
  apply BitVec.eq_of_getLsbD_eq
  intro i hi
  simp [hi]
theorem wb_tb (n : Nat) : (lN n).toBitVec = BitVec.ofNat 64 n := rfl
theorem wb_inj {a b : Int64} (h : a.toBitVec = b.toBitVec) : a = b := Int64.toBitVec_inj.mp h
theorem wb_tn {n : Nat} (h : n < 2 ^ 64) : (lN n).toBitVec.toNat = n := by rw [wb_tb, BitVec.toNat_ofNat, Nat.mod_eq_of_lt h]
theorem wb_of (x : Int64) : ∃ n, n < 2 ^ 64 ∧ x = lN n := ⟨x.toBitVec.toNat, x.toBitVec.isLt, wb_inj (by rw [wb_tb]; simp)⟩
theorem wb_of32 (x : Int32) : ∃ n, n < 2 ^ 32 ∧ x = nI n := ⟨x.toBitVec.toNat, x.toBitVec.isLt, Int32.toBitVec_inj.mp (by show _ = BitVec.ofNat 32 _; simp)⟩
theorem wb_c : ∀ k, k < 64 → ((nI k).toInt64 &&& 63) = lN k := by decide +kernel
theorem wb_cu : ∀ k, k < 64 → ((nI k).toInt64.toUInt64 &&& Int64.toUInt64 63) = UInt64.ofNat k := by decide +kernel
theorem wb_sm : ∀ k, k < 64 → (BitVec.ofNat 64 k).smod 64 = BitVec.ofNat 64 k := by decide +kernel
theorem wb_pw {a b : Nat} (h : a ≤ b) : 2 ^ b = 2 ^ a * 2 ^ (b - a) := by rw [← Nat.pow_add]; congr 1; omega
theorem wb_lt2 {a b : Nat} (h : a < b) : 2 ^ a < 2 ^ b := Nat.pow_lt_pow_right (by decide) h
theorem wb_mod (n : Nat) : lN n = lN (n % 2 ^ 64) := wb_inj (by rw [wb_tb, wb_tb]; apply BitVec.eq_of_toNat_eq; rw [BitVec.toNat_ofNat, BitVec.toNat_ofNat, Nat.mod_mod])
theorem wb_shl (n : Nat) {k : Nat} (hk : k < 64) : lN n <<< ((nI k).toInt64 &&& 63) = lN (n * 2 ^ k) := by
  rw [wb_c k hk]
  apply wb_inj
  rw [Int64.toBitVec_shiftLeft, wb_tb, wb_tb, wb_tb, wb_sm k hk]
  apply BitVec.eq_of_toNat_eq
  rw [BitVec.shiftLeft_eq', BitVec.toNat_shiftLeft, BitVec.toNat_ofNat, BitVec.toNat_ofNat, BitVec.toNat_ofNat, Nat.mod_eq_of_lt (show k < 2 ^ 64 by omega), Nat.shiftLeft_eq, Nat.mul_mod, Nat.mod_mod, ← Nat.mul_mod]
theorem wb_and {a b : Nat} (ha : a < 2 ^ 64) (hb : b < 2 ^ 64) : lN a &&& lN b = lN (a &&& b) := by
  apply wb_inj
  rw [Int64.toBitVec_and, wb_tb, wb_tb, wb_tb]
  apply BitVec.eq_of_toNat_eq
  rw [BitVec.toNat_and, BitVec.toNat_ofNat, BitVec.toNat_ofNat, BitVec.toNat_ofNat, Nat.mod_eq_of_lt ha, Nat.mod_eq_of_lt hb, Nat.mod_eq_of_lt (Nat.and_lt_two_pow _ hb)]
theorem wb_or {a b : Nat} (ha : a < 2 ^ 64) (hb : b < 2 ^ 64) : lN a ||| lN b = lN (a ||| b) := by
  apply wb_inj
  rw [Int64.toBitVec_or, wb_tb, wb_tb, wb_tb]
  apply BitVec.eq_of_toNat_eq
  rw [BitVec.toNat_or, BitVec.toNat_ofNat, BitVec.toNat_ofNat, BitVec.toNat_ofNat, Nat.mod_eq_of_lt ha, Nat.mod_eq_of_lt hb, Nat.mod_eq_of_lt (Nat.or_lt_two_pow ha hb)]
theorem wb_mask {n k : Nat} (hn : n < 2 ^ 64) (hk : k < 64) : lN n &&& lN (2 ^ k - 1) = lN (n % 2 ^ k) := by
  rw [wb_and hn (by have := wb_lt2 hk; omega), Nat.and_two_pow_sub_one_eq_mod]
theorem wb_a1 {n : Nat} (hn : n < 2 ^ 64) : lN n &&& 1 = lN (n % 2) := wb_mask (k := 1) hn (by decide)
theorem u_tn {n : Nat} (h : n < 2 ^ 64) : (UInt64.ofNat n).toNat = n := Nat.mod_eq_of_lt h
theorem g_and {a b c : Nat} (ha : a < 2 ^ 64) (hb : b < 2 ^ 64) (hc : a &&& b = c) : lN a &&& lN b = lN c := by
  subst hc
  have h : UInt64.ofNat a &&& UInt64.ofNat b = UInt64.ofNat (a &&& b) := UInt64.toNat_inj.mp (by rw [UInt64.toNat_and, u_tn ha, u_tn hb, u_tn (Nat.and_lt_two_pow a hb)])
  have h2 := congrArg UInt64.toInt64 h
  exact h2
theorem g_and1 {a : Nat} (ha : a < 2 ^ 64) : lN a &&& 1 = lN (a % 2) := g_and (b := 1) ha (by decide) (Nat.and_two_pow_sub_one_eq_mod a 1)
theorem g_mask {a s p : Nat} (hp : 2 ^ s = p) (hs : s < 64) (ha : a < 2 ^ 64) : lN a &&& lN (p - 1) = lN (a % p) := by
  subst hp
  have := Nat.pow_lt_pow_right (show 1 < 2 by decide) hs
  exact g_and ha (by omega) (Nat.and_two_pow_sub_one_eq_mod a s)
theorem g_or {k p a b : Nat} (hp : 2 ^ k = p) (ha : a < p) (h : b * p + a < 2 ^ 64) : lN (b * p) ||| lN a = lN (b * p + a) := by
  subst hp
  have h1 : b * 2 ^ k ||| a = b * 2 ^ k + a := by rw [← Nat.shiftLeft_eq, Nat.shiftLeft_add_eq_or_of_lt ha]
  have h3 : UInt64.ofNat (b * 2 ^ k) ||| UInt64.ofNat a = UInt64.ofNat (b * 2 ^ k + a) := UInt64.toNat_inj.mp (by rw [UInt64.toNat_or, u_tn (by omega), u_tn (by omega), u_tn h, h1])
  have h2 := congrArg UInt64.toInt64 h3
  exact h2
theorem g_or' {k p a b : Nat} (hp : 2 ^ k = p) (ha : a < p) (h : a + b * p < 2 ^ 64) : lN a ||| lN (b * p) = lN (a + b * p) := by
  rw [Int64.or_comm, g_or hp ha (by omega), Nat.add_comm]
theorem pf_lI {a : Nat} (h : a < 2 ^ 63) : (lN a).toInt = (a : Int) := lg_ofNat_toInt h
theorem pf_shr {a d : Nat} {D : Int64} (hD : (D.toBitVec.smod 64).toNat = d) (h : a < 2 ^ 62) : lN a >>> D = lN (a / 2 ^ d) := by
  have hd : a / 2 ^ d ≤ a := Nat.div_le_self _ _
  apply Int64.toInt_inj.mp
  have e : (lN a >>> D).toInt = (lN a).toInt >>> d := by
    rw [← hD]
    exact BitVec.toInt_sshiftRight ..
  rw [e, Int.shiftRight_eq_div_pow, pf_lI (by omega), pf_lI (by omega)]
  rfl
end
section
def ex_pl (q l : Nat) : Nat := if q < 7 then (if q ≤ l then q + 1 else 0) else (if q - 7 ≤ l then l - (q - 7) + 1 else 0)
def ex_gl (l a : Nat) : Nat := if a < 4 then 1 else if ex_pl ((a - 4) / 14) l = 0 then 0 else ex_pl ((a - 4) % 14) l - ex_pl ((a - 4) / 14) l
def ex_gn (n l a : Nat) : Nat := if a < 4 then a else if ex_gl l a = 0 then 0 else n / 4 ^ (ex_pl ((a - 4) / 14) l - 1) % 4 ^ (ex_gl l a)
theorem ex_pl_le (q l : Nat) : ex_pl q l ≤ l + 1 := by
  unfold ex_pl; split <;> split <;> omega
theorem ex_gl_le (l a : Nat) (h : l ≤ 6) : ex_gl l a ≤ 6 := by
  unfold ex_gl
  split
  · omega
  · split
    · omega
    · have := ex_pl_le ((a - 4) % 14) l; omega
theorem ex_gn_lt (n l a : Nat) : ex_gn n l a < 4 ^ ex_gl l a := by
  by_cases h : a < 4
  · unfold ex_gn ex_gl; rw [if_pos h, if_pos h]; omega
  · unfold ex_gn; rw [if_neg h]
    split
    · rename_i h0; rw [h0]; decide
    · exact Nat.mod_lt _ (Nat.pow_pos (by decide))
abbrev ex_P : Type := Nat × Nat × Nat × Nat
def ex_ok (p : ex_P) : Prop := p.1 < 4 ^ p.2.1 ∧ p.2.1 ≤ 6 ∧ p.2.2.1 < 4 ^ p.2.2.2 ∧ p.2.2.2 ≤ 6
def ex_a1 (p : ex_P) (a so : Nat) : Option Nat :=
  if ex_gl p.2.1 a = 0 then none else if so + ex_gl p.2.1 a ≤ p.2.2.2 then (if p.2.2.1 / 4 ^ so % 4 ^ ex_gl p.2.1 a = ex_gn p.1 p.2.1 a then some (so + ex_gl p.2.1 a) else none) else none
theorem ex_a1_le {p : ex_P} {a so t : Nat} (h : ex_a1 p a so = some t) : t ≤ p.2.2.2 := by
  unfold ex_a1 at h
  split at h
  · exact nomatch h
  · split at h
    · split at h
      · cases h; assumption
      · exact nomatch h
    · exact nomatch h
def ex_sp (d : Nat → ex_P) : Nat → Nat → Nat → Nat → Option Nat
  | 0, _, _, _ => some 0
  | m + 1, j, a, s => match ex_a1 (d j) a (s % 7) with
    | none => none
    | some t => match ex_sp d m (j + 1) a (s / 7) with
      | none => none
      | some r => some (t + 7 * r)
def ex_go (d : Nat → ex_P) : Nat → Nat → Nat
  | 0, _ => 0
  | m + 1, j => (d j).2.2.2 + 7 * ex_go d m (j + 1)
theorem ex_div7 (s i : Nat) : s / 7 / 7 ^ i = s / 7 ^ (i + 1) := by
  rw [Nat.div_div_eq_div_mul, Nat.pow_succ, Nat.mul_comm]
theorem ex_sp_some (d : Nat → ex_P) : ∀ m j a s r : Nat, (∀ i, i < m → (d (j + i)).2.2.2 ≤ 6) → ex_sp d m j a s = some r → r ≤ ex_go d m j ∧ r < 7 ^ m ∧ ∀ i, i < m → ex_a1 (d (j + i)) a (s / 7 ^ i % 7) = some (r / 7 ^ i % 7) := by
  intro m
  induction m with
  | zero =>
    intro j a s r hd h
    cases h
    exact ⟨Nat.le_refl _, by decide, fun i hi => absurd hi (Nat.not_lt_zero i)⟩
  | succ m ih =>
    intro j a s r hd h
    unfold ex_sp at h
    split at h
    · exact nomatch h
    · rename_i t ht
      split at h
      · exact nomatch h
      · rename_i r' hr
        cases h
        obtain ⟨h1, h2, h3⟩ := ih (j + 1) a (s / 7) r' (fun i hi => by have := hd (i + 1) (by omega); rwa [show j + 1 + i = j + (i + 1) by omega]) hr
        have ht6 : t ≤ (d j).2.2.2 := ex_a1_le ht
        have hj : (d j).2.2.2 ≤ 6 := hd 0 (by omega)
        have e7 : (t + 7 * r') / 7 = r' := by omega
        refine ⟨by unfold ex_go; omega, by rw [Nat.pow_succ]; omega, fun i hi => ?_⟩
        cases i with
        | zero =>
          rw [Nat.pow_zero, Nat.div_one, Nat.div_one, Nat.add_zero, ht]
          exact congrArg some (by omega)
        | succ i =>
          have h4 := h3 i (by omega)
          rw [ex_div7] at h4
          rw [show j + (i + 1) = j + 1 + i by omega, h4, ← ex_div7, e7]
theorem ex_sp_none (d : Nat → ex_P) : ∀ m j a s : Nat, ex_sp d m j a s = none → ∃ i, i < m ∧ ex_a1 (d (j + i)) a (s / 7 ^ i % 7) = none := by
  intro m
  induction m with
  | zero => intro j a s h; exact nomatch h
  | succ m ih =>
    intro j a s h
    unfold ex_sp at h
    split at h
    · rename_i ht
      exact ⟨0, by omega, by rw [Nat.pow_zero, Nat.div_one]; exact ht⟩
    · split at h
      · rename_i hr
        obtain ⟨i, hi, hn⟩ := ih _ _ _ hr
        refine ⟨i + 1, by omega, ?_⟩
        rw [ex_div7] at hn
        rw [show j + (i + 1) = j + 1 + i by omega]
        exact hn
      · exact nomatch h
theorem ex_dig : ∀ m r s : Nat, r < 7 ^ m → s < 7 ^ m → (∀ i, i < m → r / 7 ^ i % 7 = s / 7 ^ i % 7) → r = s := by
  intro m
  induction m with
  | zero => intro r s hr hs _; rw [Nat.pow_zero] at hr hs; omega
  | succ m ih =>
    intro r s hr hs h
    have h0 := h 0 (by omega)
    rw [Nat.pow_zero, Nat.div_one, Nat.div_one] at h0
    rw [Nat.pow_succ] at hr hs
    have h1 := ih (r / 7) (s / 7) (by omega) (by omega) (fun i hi => by rw [ex_div7, ex_div7]; exact h (i + 1) (by omega))
    omega
theorem ex_go_dig (d : Nat → ex_P) : ∀ m j : Nat, (∀ i, i < m → (d (j + i)).2.2.2 ≤ 6) → ex_go d m j < 7 ^ m ∧ ∀ i, i < m → ex_go d m j / 7 ^ i % 7 = (d (j + i)).2.2.2 := by
  intro m
  induction m with
  | zero => intro j _; exact ⟨by unfold ex_go; decide, fun i hi => absurd hi (Nat.not_lt_zero i)⟩
  | succ m ih =>
    intro j hd
    obtain ⟨h1, h2⟩ := ih (j + 1) (fun i hi => by have := hd (i + 1) (by omega); rwa [show j + 1 + i = j + (i + 1) by omega])
    have hj : (d j).2.2.2 ≤ 6 := hd 0 (by omega)
    unfold ex_go
    refine ⟨by rw [Nat.pow_succ]; omega, fun i hi => ?_⟩
    cases i with
    | zero => rw [Nat.pow_zero, Nat.div_one]; show _ = (d j).2.2.2; omega
    | succ i =>
      rw [← ex_div7, show ((d j).2.2.2 + 7 * ex_go d m (j + 1)) / 7 = ex_go d m (j + 1) by omega, h2 i (by omega), show j + 1 + i = j + (i + 1) by omega]
def ex_sm (f : Nat → Nat) : Nat → Nat
  | 0 => 0
  | n + 1 => ex_sm f n + f n
theorem ex_sm_le {f : Nat → Nat} {B : Nat} (h : ∀ a, f a ≤ B) : ∀ n, ex_sm f n ≤ n * B := by
  intro n
  induction n with
  | zero => exact Nat.zero_le _
  | succ n ih => have := h n; rw [Nat.succ_mul]; unfold ex_sm; omega
theorem ex_sm_0 {f : Nat → Nat} : ∀ n, (∀ a, a < n → f a = 0) → ex_sm f n = 0 := by
  intro n
  induction n with
  | zero => intro _; rfl
  | succ n ih => intro h; unfold ex_sm; rw [ih (fun a ha => h a (by omega)), h n (by omega)]
theorem ex_sm_p {f : Nat → Nat} {a : Nat} (hp : 0 < f a) : ∀ n, a < n → 0 < ex_sm f n := by
  intro n
  induction n with
  | zero => intro h; exact absurd h (Nat.not_lt_zero a)
  | succ n ih =>
    intro h
    unfold ex_sm
    by_cases e : a = n
    · rw [← e]; omega
    · have := ih (by omega); omega
def ex_ct (d : Nat → ex_P) (m : Nat) : Nat → Nat → Nat
  | 0, s => if s = ex_go d m 0 then 1 else 0
  | k + 1, s => ex_sm (fun a => match ex_sp d m 0 a s with | none => 0 | some t => ex_ct d m k t) 200
def ex_tm (d : Nat → ex_P) (m k s a : Nat) : Nat := match ex_sp d m 0 a s with | none => 0 | some t => ex_ct d m k t
theorem ex_ct_s (d : Nat → ex_P) (m k s : Nat) : ex_ct d m (k + 1) s = ex_sm (ex_tm d m k s) 200 := rfl
theorem ex_tm_n {d : Nat → ex_P} {m k s a : Nat} (h : ex_sp d m 0 a s = none) : ex_tm d m k s a = 0 := by
  unfold ex_tm; rw [h]
theorem ex_tm_s {d : Nat → ex_P} {m k s a t : Nat} (h : ex_sp d m 0 a s = some t) : ex_tm d m k s a = ex_ct d m k t := by
  unfold ex_tm; rw [h]
theorem ex_ct_le (d : Nat → ex_P) (m : Nat) : ∀ k s, ex_ct d m k s ≤ 200 ^ k := by
  intro k
  induction k with
  | zero => intro s; unfold ex_ct; split <;> decide
  | succ k ih =>
    intro s
    rw [ex_ct_s, Nat.pow_succ, Nat.mul_comm]
    refine ex_sm_le (fun a => ?_) 200
    cases h : ex_sp d m 0 a s with
    | none => rw [ex_tm_n h]; exact Nat.zero_le _
    | some t => rw [ex_tm_s h]; exact ih t
theorem ex_ct_b (d : Nat → ex_P) (m : Nat) {k : Nat} (hk : k ≤ 3) (s : Nat) : ex_ct d m k s ≤ 8000000 :=
  Nat.le_trans (ex_ct_le d m k s) (Nat.pow_le_pow_right (n := 200) (by decide) hk)
def ex_lf (P : Nat → Bool) : Nat → Nat
  | 0 => 0
  | n + 1 => if ex_lf P n < n then ex_lf P n else if P n then n else n + 1
theorem ex_lf_le (P : Nat → Bool) : ∀ n, ex_lf P n ≤ n := by
  intro n
  induction n with
  | zero => exact Nat.le_refl _
  | succ n ih => unfold ex_lf; split; omega; split <;> omega
theorem ex_lf_sp (P : Nat → Bool) : ∀ n, (ex_lf P n < n → P (ex_lf P n) = true) ∧ (∀ b, b < ex_lf P n → P b = false) := by
  intro n
  induction n with
  | zero => exact ⟨fun h => absurd h (Nat.not_lt_zero _), fun b h => absurd h (Nat.not_lt_zero _)⟩
  | succ n ih =>
    have hle := ex_lf_le P n
    by_cases h1 : ex_lf P n < n
    · have e : ex_lf P (n + 1) = ex_lf P n := if_pos h1
      rw [e]
      exact ⟨fun _ => ih.1 h1, ih.2⟩
    · have e0 : ex_lf P n = n := by omega
      rw [e0] at ih
      cases hP : P n with
      | true =>
        have e : ex_lf P (n + 1) = n := by show (if _ then _ else _) = n; rw [if_neg h1, if_pos hP]
        rw [e]
        exact ⟨fun _ => hP, ih.2⟩
      | false =>
        have e : ex_lf P (n + 1) = n + 1 := by show (if _ then _ else _) = n + 1; rw [if_neg h1, if_neg (by rw [hP]; decide)]
        rw [e]
        refine ⟨fun h => absurd h (Nat.lt_irrefl _), fun b hb => ?_⟩
        by_cases eb : b = n
        · rw [eb]; exact hP
        · exact ih.2 b (by omega)
theorem ex_lf_eq {P : Nat → Bool} {n a : Nat} (ha : a < n) (hP : P a = true) (hb : ∀ b, b < a → P b = false) : ex_lf P n = a := by
  have h := ex_lf_sp P n
  rcases Nat.lt_trichotomy (ex_lf P n) a with h1 | h1 | h1
  · have h2 := h.1 (by omega); rw [hb _ h1] at h2; exact nomatch h2
  · exact h1
  · have h2 := h.2 a h1; rw [hP] at h2; exact nomatch h2
def ex_pb (d : Nat → ex_P) (m k s a : Nat) : Bool := decide (0 < ex_tm d m k s a)
def ex_fa (d : Nat → ex_P) (m k s : Nat) : Nat := ex_lf (ex_pb d m k s) 200
def ex_st (d : Nat → ex_P) (m k : Nat) : Nat → Nat
  | 0 => 0
  | i + 1 => (ex_sp d m 0 (ex_fa d m (k - i - 1) (ex_st d m k i)) (ex_st d m k i)).getD 0
def ex_at (d : Nat → ex_P) (m k i : Nat) : Nat := ex_fa d m (k - i - 1) (ex_st d m k i)
theorem ex_st_s (d : Nat → ex_P) (m k i : Nat) : ex_st d m k (i + 1) = (ex_sp d m 0 (ex_at d m k i) (ex_st d m k i)).getD 0 := rfl
theorem ex_pb_s {d : Nat → ex_P} {m k s a : Nat} (h : ex_pb d m k s a = true) : ∃ t, ex_sp d m 0 a s = some t ∧ 0 < ex_ct d m k t := by
  have h' := of_decide_eq_true h
  cases e : ex_sp d m 0 a s with
  | none => rw [ex_tm_n e] at h'; exact absurd h' (Nat.lt_irrefl 0)
  | some t => rw [ex_tm_s e] at h'; exact ⟨t, rfl, h'⟩
theorem ex_fa_p {d : Nat → ex_P} {m k s : Nat} (h : 0 < ex_ct d m (k + 1) s) : ex_fa d m k s < 200 := by
  rcases Nat.lt_or_ge (ex_fa d m k s) 200 with h1 | h1
  · exact h1
  · exfalso
    have h2 : ∀ a, a < 200 → ex_tm d m k s a = 0 := fun a ha => by
      have h3 := (ex_lf_sp (ex_pb d m k s) 200).2 a (Nat.lt_of_lt_of_le ha h1)
      have h4 := of_decide_eq_false h3
      omega
    rw [ex_ct_s, ex_sm_0 200 h2] at h
    exact Nat.lt_irrefl 0 h
theorem ex_fa_s {d : Nat → ex_P} {m k s : Nat} (h : 0 < ex_ct d m (k + 1) s) : ∃ t, ex_sp d m 0 (ex_fa d m k s) s = some t ∧ 0 < ex_ct d m k t :=
  ex_pb_s ((ex_lf_sp (ex_pb d m k s) 200).1 (ex_fa_p h))
theorem ex_st_p {d : Nat → ex_P} {m k : Nat} (h : 0 < ex_ct d m k 0) : ∀ i, i ≤ k → 0 < ex_ct d m (k - i) (ex_st d m k i) := by
  intro i
  induction i with
  | zero => intro _; exact h
  | succ i ih =>
    intro hi
    have h1 := ih (by omega)
    rw [show k - i = (k - i - 1) + 1 by omega] at h1
    obtain ⟨t, ht, hp⟩ := ex_fa_s h1
    rw [ex_st_s]
    unfold ex_at
    rw [ht, show k - (i + 1) = k - i - 1 by omega]
    exact hp
theorem ex_at_p {d : Nat → ex_P} {m k : Nat} (h : 0 < ex_ct d m k 0) {i : Nat} (hi : i < k) : ex_at d m k i < 200 ∧ ex_sp d m 0 (ex_at d m k i) (ex_st d m k i) = some (ex_st d m k (i + 1)) := by
  have h1 := ex_st_p h i (by omega)
  rw [show k - i = (k - i - 1) + 1 by omega] at h1
  refine ⟨ex_fa_p h1, ?_⟩
  obtain ⟨t, ht, hp⟩ := ex_fa_s h1
  rw [ex_st_s]
  unfold ex_at
  rw [ht]
  rfl
def ex_re (n l : Nat) (f : Nat → Nat) : Nat → Option (Nat × Nat)
  | 0 => some (0, 0)
  | i + 1 => match ex_re n l f i with
    | none => none
    | some q => if ex_gl l (f i) = 0 then none else some (q.1 + ex_gn n l (f i) * 4 ^ q.2, q.2 + ex_gl l (f i))
theorem ex_pw4 {R L g k : Nat} (h1 : R < 4 ^ L) (h2 : g < 4 ^ k) : R + g * 4 ^ L < 4 ^ (L + k) := by
  have h3 : (g + 1) * 4 ^ L ≤ 4 ^ k * 4 ^ L := Nat.mul_le_mul_right _ h2
  rw [Nat.pow_add, Nat.mul_comm (4 ^ L)]
  rw [Nat.succ_mul] at h3
  omega
theorem ex_re_ok {n l : Nat} (hl : l ≤ 6) (f : Nat → Nat) : ∀ i q, ex_re n l f i = some q → q.1 < 4 ^ q.2 ∧ q.2 ≤ 6 * i := by
  intro i
  induction i with
  | zero => intro q h; cases h; exact ⟨by decide, Nat.le_refl _⟩
  | succ i ih =>
    intro q h
    unfold ex_re at h
    split at h
    · exact nomatch h
    · rename_i q' hq
      split at h
      · exact nomatch h
      · cases h
        obtain ⟨h1, h2⟩ := ih q' hq
        have h3 := ex_gl_le l (f i) hl
        exact ⟨ex_pw4 h1 (ex_gn_lt _ _ _), by show q'.2 + _ ≤ _; omega⟩
def ex_ls (d : Nat → ex_P) (m : Nat) : Nat := if 0 < ex_ct d m 1 0 then 1 else if 0 < ex_ct d m 2 0 then 2 else if 0 < ex_ct d m 3 0 then 3 else 0
def ex_lI (k : Nat) : Int32 := if k = 0 then -3 else nI k
def ex_oI : Option Nat → Int32
  | none => -1
  | some n => nI n
theorem ex_ls_le (d : Nat → ex_P) (m : Nat) : ex_ls d m ≤ 3 := by unfold ex_ls; split; omega; split; omega; split <;> omega
theorem ex_ls_p {d : Nat → ex_P} {m : Nat} (h : ex_ls d m ≠ 0) : 0 < ex_ct d m (ex_ls d m) 0 := by
  unfold ex_ls at h ⊢
  split
  · assumption
  · split
    · assumption
    · split
      · assumption
      · rename_i h1 h2 h3; rw [if_neg h1, if_neg h2, if_neg h3] at h; exact absurd rfl h
end
section
def ex_pI : Nat → Int32
  | 0 => -1
  | k + 1 => nI k
theorem ex_ne1 {k : Nat} (h : k < 2 ^ 31) : ¬ nI k = -1 := fun e => by
  have h1 := nI_pos h
  rw [e] at h1
  exact h1 (by decide)
theorem ex_placeOf {post : Int32 → Prop} {x y : Int32} (q l : Nat) (hx : x = nI q) (hy : y = nI l) (hq : q < 14) (hl : l ≤ 6) (h : post (ex_pI (ex_pl q l))) : wpX_placeOf post x y := by
  subst hx hy
  unfold wpX_placeOf
  unfold ex_pl at h
  refine pk_lt q 7 (fun h7 => ?_) (fun h7 => ?_)
  · rw [if_pos h7] at h
    refine pk_lt l q (fun h8 => ?_) (fun h8 => ?_)
    · rw [if_neg (by omega)] at h; exact h
    · rw [if_pos h8] at h; exact h
  · rw [if_neg (by omega)] at h
    refine nm_r (pk_sub (b := 7) h7) ?_
    refine pk_lt l (q - 7) (fun h8 => ?_) (fun h8 => ?_)
    · rw [if_neg (by omega)] at h; exact h
    · rw [if_pos h8] at h; rw [pk_sub h8]; exact h
theorem ex_42 (k : Nat) : 4 ^ k = 2 ^ (2 * k) := (Nat.pow_mul 2 2 k).symm
theorem ex_4k {k : Nat} (hk : k ≤ 6) : 4 ^ k ≤ 4096 := Nat.pow_le_pow_right (n := 4) (by decide) hk
theorem ex_slice {post : Int32 → Prop} {x y z : Int32} (n p k : Nat) (hx : x = nI n) (hy : y = nI p) (hz : z = nI k) (hn : n < 4096) (hp : p ≤ 6) (hk : k ≤ 6) (h : post (nI (n / 4 ^ p % 4 ^ k))) : wpX_slice post x y z := by
  subst hx hy hz
  have b1 := ex_4k hk
  have b0 : 0 < 4 ^ k := Nat.pow_pos (by decide)
  have e1 : (2 : Int32) * nI k = nI (2 * k) := pk_mul 2 k
  have e2 : (2 : Int32) * nI p = nI (2 * p) := pk_mul 2 p
  have e3 : (1 : Int32) <<< (nI (2 * k) &&& 31) = nI (4 ^ k) := by
    have h1 := pk_shlN (n := 1) (nI (2 * k) &&& 31) (2 * k) (s_l _ (by omega)) (by rw [← ex_42]; omega)
    rw [← ex_42, Nat.one_mul] at h1
    exact h1
  unfold wpX_slice
  rw [e1, e2, e3]
  refine nm_r (pk_sub (b := 1) b0) ?_
  rw [pk_shrN (by omega) (nI (2 * p) &&& 31) (2 * p) (s_l _ (by omega)), ← ex_42]
  have h3 : n / 4 ^ p ≤ n := Nat.div_le_self _ _
  rw [pk_andN (n := n / 4 ^ p) (by omega) (2 * k) (by rw [pk_tn (by omega), ← ex_42]), ← ex_42]
  exact h
def ex_fl (p : ex_P) (j c : Nat) (gA gL : Nat → Int32) : Prop := ∀ a, a < c → gA (j * 200 + a) = nI (ex_gn p.1 p.2.1 a) ∧ gL (j * 200 + a) = nI (ex_gl p.2.1 a)
def ex_kp (j : Nat) (gA gL gA' gL' : Nat → Int32) : Prop := ∀ i, (i < j * 200 ∨ j * 200 + 200 ≤ i) → gA' i = gA i ∧ gL' i = gL i
theorem ex_fl_s {p : ex_P} {j c : Nat} {gA gL : Nat → Int32} (h : ex_fl p j c gA gL) : ex_fl p j (c + 1) (upd gA (j * 200 + c) (nI (ex_gn p.1 p.2.1 c))) (upd gL (j * 200 + c) (nI (ex_gl p.2.1 c))) := by
  intro a ha
  by_cases e : a = c
  · rw [e]; exact ⟨pk_us, pk_us⟩
  · rw [pk_un (by omega), pk_un (by omega)]; exact h a (by omega)
theorem ex_kp_r {j : Nat} {gA gL : Nat → Int32} : ex_kp j gA gL gA gL := fun _ _ => ⟨rfl, rfl⟩
theorem ex_kp_s {j c : Nat} {x y : Int32} {gA gL gA' gL' : Nat → Int32} (hc : c < 200) (h : ex_kp j (upd gA (j * 200 + c) x) (upd gL (j * 200 + c) y) gA' gL') : ex_kp j gA gL gA' gL' := by
  intro i hi
  have h1 := h i hi
  rw [pk_un (by omega), pk_un (by omega)] at h1
  exact h1
section
variable {fe : Int32} {rl : Int64} {iA iL oA oL gA gL cA fA : Nat → Int32}
theorem ex_g151 {post : SX → Prop} {J : Int32 → (Nat → Int32) → (Nat → Int32) → (Nat → Int32) → (Nat → Int32) → (Nat → Int32) → (Nat → Int32) → (Nat → Int32) → (Nat → Int32) → Prop} {x1 : Int32} {j a : Nat} {x7 z0 : Int32} (hj : j < 3) (ha : a < 200)
    (h : J (nI (a + 1)) iA iL oA oL (upd gA (j * 200 + a) z0) (upd gL (j * 200 + a) x7) cA fA) :
    wX_giveOnPair_151 post J x1 (nI (j * 200)) (nI a) x7 z0 (nI (j * 200) + nI a) fe rl iA iL oA oL gA gL cA fA := by
  unfold wX_giveOnPair_151
  rw [nI_add, nI_clamp (by omega)]
  exact ⟨vp_in_nI (by omega) (by omega), nm_e ⟨vp_in_nI (by omega) (by omega), nm_e (nm_r (nI_1 a) h)⟩⟩
theorem ex_g103 {post : SX → Prop} {J : Int32 → (Nat → Int32) → (Nat → Int32) → (Nat → Int32) → (Nat → Int32) → (Nat → Int32) → (Nat → Int32) → (Nat → Int32) → (Nat → Int32) → Prop} {x1 x4 x5 : Int32} {j a : Nat} (hj : j < 3) (ha : a < 200)
    (h : J (nI (a + 1)) iA iL oA oL (upd gA (j * 200 + a) 0) (upd gL (j * 200 + a) 0) cA fA) :
    wX_giveOnPair_103 post J x1 (nI (j * 200)) (nI a) x4 x5 fe rl iA iL oA oL gA gL cA fA := by
  unfold wX_giveOnPair_103 wX_giveOnPair_104
  refine br_t rfl ?_
  unfold wX_giveOnPair_120
  exact br_t rfl (ex_g151 hj ha h)
theorem ex_g104 {post : SX → Prop} {J : Int32 → (Nat → Int32) → (Nat → Int32) → (Nat → Int32) → (Nat → Int32) → (Nat → Int32) → (Nat → Int32) → (Nat → Int32) → (Nat → Int32) → Prop} {j a f t n : Nat} (hj : j < 3) (ha : a < 200) (hn : n < 4096) (hi : iA j = nI n) (hf : f < t) (ht : t ≤ 6)
    (h : J (nI (a + 1)) iA iL oA oL (upd gA (j * 200 + a) (nI (n / 4 ^ f % 4 ^ (t - f)))) (upd gL (j * 200 + a) (nI (t - f))) cA fA) :
    wX_giveOnPair_104 post J (nI j) (nI (j * 200)) (nI a) (nI f) (nI t) 1 fe rl iA iL oA oL gA gL cA fA := by
  unfold wX_giveOnPair_104
  refine br_f (by decide) ?_
  rw [pk_sub (by omega)]
  unfold wX_giveOnPair_120
  refine br_f (by decide) ⟨vp_in_nI hj (by omega), ?_⟩
  exact ex_slice n f (t - f) (by rw [nI_clamp (by omega)]; exact hi) rfl rfl hn (by omega) (by omega) (ex_g151 hj ha h)
theorem ex_g39 {post : SX → Prop} {j : Nat} {p : ex_P} (hj : j < 3) (hiA : iA j = nI p.1) (hiL : iL j = nI p.2.1) (hok : ex_ok p) : ∀ (r a : Nat) (gA gL : Nat → Int32), a + r = 200 → 4 ≤ a → ex_fl p j a gA gL →
    (∀ gA' gL', ex_fl p j 200 gA' gL' → ex_kp j gA gL gA' gL' → post (fe, rl, iA, iL, oA, oL, gA', gL', cA, fA)) →
    wX_giveOnPair_39 post (nI j) (nI (j * 200)) fe rl (r + 1) (nI a) iA iL oA oL gA gL cA fA := by
  intro r
  induction r with
  | zero =>
    intro a gA gL ha h4 hf H
    have e : a = 200 := by omega
    subst e
    exact br_t (nI_le (a := 200) (b := 200) (by decide) (by decide)) (H gA gL hf ex_kp_r)
  | succ r ih =>
    intro a gA gL ha h4 hf H
    have hJ := ih (a + 1) _ _ (by omega) (by omega) (ex_fl_s hf) (fun gA' gL' h1 h2 => H gA' gL' h1 (ex_kp_s (by omega) h2))
    have hcl : (nI j).toNatClampNeg = j := nI_clamp (by omega)
    have e4 : nI a - 4 = nI (a - 4) := pk_sub (b := 4) h4
    have hin : vp_in (nI j) 3 := vp_in_nI hj (by omega)
    have hl6 : p.2.1 ≤ 6 := hok.2.1
    have hn6 : p.1 < 4096 := Nat.lt_of_lt_of_le hok.1 (ex_4k hl6)
    have ea : ¬ a < 4 := by omega
    have hpl := ex_pl_le ((a - 4) / 14) p.2.1
    have hql := ex_pl_le ((a - 4) % 14) p.2.1
    refine br_f (nI_ge (b := 200) (by omega) (by decide)) ⟨by decide, hin, ?_⟩
    refine ex_placeOf ((a - 4) / 14) p.2.1 (by rw [e4]; exact pk_div (d := 14) (by omega) (by omega) (by omega)) (by rw [hcl]; exact hiL) (by omega) hl6 ?_
    refine ⟨by decide, hin, ?_⟩
    refine ex_placeOf ((a - 4) % 14) p.2.1 (by rw [e4]; exact pk_rem (d := 14) (by omega) (by omega) (by omega)) (by rw [hcl]; exact hiL) (by omega) hl6 ?_
    have hgl : ex_gl p.2.1 a = if ex_pl ((a - 4) / 14) p.2.1 = 0 then 0 else ex_pl ((a - 4) % 14) p.2.1 - ex_pl ((a - 4) / 14) p.2.1 := by unfold ex_gl; rw [if_neg ea]
    have hgn : ex_gn p.1 p.2.1 a = if ex_gl p.2.1 a = 0 then 0 else p.1 / 4 ^ (ex_pl ((a - 4) / 14) p.2.1 - 1) % 4 ^ (ex_gl p.2.1 a) := by unfold ex_gn; rw [if_neg ea]
    rw [hgn, hgl] at hJ
    generalize ex_pl ((a - 4) / 14) p.2.1 = P at *
    generalize ex_pl ((a - 4) % 14) p.2.1 = Q at *
    cases P with
    | zero => exact br_t rfl (ex_g103 hj (by omega) hJ)
    | succ f =>
      refine br_f (ex_ne1 (by omega)) ?_
      rw [if_neg (show ¬ f + 1 = 0 by omega)] at hJ
      cases Q with
      | zero =>
        rw [show 0 - (f + 1) = 0 by omega] at hJ
        exact br_t rfl (ex_g103 hj (by omega) hJ)
      | succ t =>
        refine br_f (ex_ne1 (by omega)) ?_
        refine pk_le t f (fun h => ?_) (fun h => ?_)
        · rw [show t + 1 - (f + 1) = 0 by omega] at hJ
          exact ex_g103 hj (by omega) hJ
        · rw [if_neg (show ¬ t + 1 - (f + 1) = 0 by omega), show t + 1 - (f + 1) = t - f by omega, show f + 1 - 1 = f by omega] at hJ
          exact ex_g104 hj (by omega) hn6 hiA h (by omega) hJ
theorem ex_g8 {post : SX → Prop} {j : Nat} {p : ex_P} (hj : j < 3) (hiA : iA j = nI p.1) (hiL : iL j = nI p.2.1) (hok : ex_ok p) : ∀ (r a : Nat) (gA gL : Nat → Int32), a + r = 4 → ex_fl p j a gA gL →
    (∀ gA' gL', ex_fl p j 200 gA' gL' → ex_kp j gA gL gA' gL' → post (fe, rl, iA, iL, oA, oL, gA', gL', cA, fA)) →
    wX_giveOnPair_8 post (nI j) (nI (j * 200)) fe rl (r + 1) (nI a) iA iL oA oL gA gL cA fA := by
  intro r
  induction r with
  | zero =>
    intro a gA gL ha hf H
    have e : a = 4 := by omega
    subst e
    exact br_t (nI_le (a := 4) (b := 4) (by decide) (by decide)) ⟨197, ex_g39 hj hiA hiL hok 196 4 gA gL rfl (by omega) hf H⟩
  | succ r ih =>
    intro a gA gL ha hf H
    have hJ := ih (a + 1) _ _ (by omega) (ex_fl_s hf) (fun gA' gL' h1 h2 => H gA' gL' h1 (ex_kp_s (by omega) h2))
    have e1 : ex_gl p.2.1 a = 1 := by unfold ex_gl; rw [if_pos (by omega)]
    have e2 : ex_gn p.1 p.2.1 a = a := by unfold ex_gn; rw [if_pos (by omega)]
    rw [e1, e2] at hJ
    have ei : nI (j * 200) + nI a = nI (j * 200 + a) := nI_add _ _
    have ec : (nI (j * 200) + nI a).toNatClampNeg = j * 200 + a := by rw [ei]; exact nI_clamp (by omega)
    have hin : vp_in (nI (j * 200) + nI a) 600 := by rw [ei]; exact vp_in_nI (by omega) (by omega)
    refine br_f (nI_ge (b := 4) (by omega) (by decide)) ⟨hin, ?_⟩
    refine nm_e ⟨hin, nm_e (nm_r (nI_1 a) ?_)⟩
    rw [ec]
    exact hJ
theorem ex_giveOnPair {post : SX → Prop} {j : Nat} {p : ex_P} {x : Int32} (hx : x = nI j) (hj : j < 3) (hiA : iA j = nI p.1) (hiL : iL j = nI p.2.1) (hok : ex_ok p)
    (H : ∀ gA' gL', ex_fl p j 200 gA' gL' → ex_kp j gA gL gA' gL' → post (fe, rl, iA, iL, oA, oL, gA', gL', cA, fA)) :
    wpX_giveOnPair post (fe, rl, iA, iL, oA, oL, gA, gL, cA, fA) x := by
  subst hx
  unfold wpX_giveOnPair
  dsimp only
  exact nm_r (pk_mul j 200) ⟨5, ex_g8 hj hiA hiL hok 4 0 gA gL rfl (fun a h => absurd h (Nat.not_lt_zero a)) H⟩
def ex_xd (d : Nat → ex_P) (m : Nat) (iA iL oA oL : Nat → Int32) : Prop := ∀ j, j < m → ex_ok (d j) ∧ iA j = nI (d j).1 ∧ iL j = nI (d j).2.1 ∧ oA j = nI (d j).2.2.1 ∧ oL j = nI (d j).2.2.2
def ex_gv (d : Nat → ex_P) (m : Nat) (gA gL : Nat → Int32) : Prop := ∀ j, j < m → ex_fl (d j) j 200 gA gL
theorem ex_gv_s {d : Nat → ex_P} {m : Nat} {gA' gL' : Nat → Int32} (h : ex_gv d m gA gL) (h1 : ex_fl (d m) m 200 gA' gL') (h2 : ex_kp m gA gL gA' gL') : ex_gv d (m + 1) gA' gL' := by
  intro j hj
  by_cases e : j = m
  · rw [e]; exact h1
  · intro a ha
    have h3 := h2 (j * 200 + a) (by omega)
    rw [h3.1, h3.2]
    exact h j (by omega) a ha
theorem ex_gs2 {post : SX → Prop} {d : Nat → ex_P} {m : Nat} (hm : m ≤ 3) (D : ex_xd d m iA iL oA oL) : ∀ (r j : Nat) (gA gL : Nat → Int32), j + r = m → ex_gv d j gA gL →
    (∀ gA' gL', ex_gv d m gA' gL' → post (fe, rl, iA, iL, oA, oL, gA', gL', cA, fA)) →
    wX_giveOnPairs_2 post (nI m) (r + 1) (nI j) fe rl iA iL oA oL gA gL cA fA := by
  intro r
  induction r with
  | zero =>
    intro j gA gL hj hg H
    have e : j = m := by omega
    subst e
    exact br_t (nI_le (by omega) (by omega)) (H gA gL hg)
  | succ r ih =>
    intro j gA gL hj hg H
    obtain ⟨d0, d1, d2, _, _⟩ := D j (by omega)
    refine br_f (nI_ge (by omega) (by omega)) ?_
    exact ex_giveOnPair rfl (by omega) d1 d2 d0 (fun gA' gL' h1 h2 => nm_r (nI_1 j) (ih (j + 1) gA' gL' (by omega) (ex_gv_s hg h1 h2) H))
theorem ex_giveOnPairs {post : SX → Prop} {d : Nat → ex_P} {m : Nat} {x : Int32} (hx : x = nI m) (hm : m ≤ 3) (D : ex_xd d m iA iL oA oL)
    (H : ∀ gA' gL', ex_gv d m gA' gL' → post (fe, rl, iA, iL, oA, oL, gA', gL', cA, fA)) :
    wpX_giveOnPairs post (fe, rl, iA, iL, oA, oL, gA, gL, cA, fA) x := by
  subst hx
  unfold wpX_giveOnPairs
  dsimp only
  exact ⟨m + 1, ex_gs2 hm D m 0 gA gL (by omega) (fun j h => absurd h (Nat.not_lt_zero j)) H⟩
theorem ex_gs7 {post : Int32 → Prop} {d : Nat → ex_P} {m : Nat} (hm : m ≤ 3) (D : ex_xd d m iA iL oA oL) : ∀ (r j g un : Nat), j + r = m → post (nI (g + un * ex_go d r j)) →
    wX_goalState_7 post (nI m) fe rl iA iL oA oL gA gL cA fA (r + 1) (nI g) (nI un) (nI j) := by
  intro r
  induction r with
  | zero =>
    intro j g un hj H
    have e : j = m := by omega
    subst e
    exact br_t (nI_le (by omega) (by omega)) H
  | succ r ih =>
    intro j g un hj H
    obtain ⟨d0, d1, d2, d3, d4⟩ := D j (by omega)
    refine br_f (nI_ge (by omega) (by omega)) ⟨vp_in_nI (by omega) (by omega), ?_⟩
    refine nm_r (e' := nI (g + un * (d j).2.2.2)) (by rw [nI_clamp (by omega), d4, pk_mul, nI_add]) ?_
    refine nm_r (pk_mul un 7) (nm_r (nI_1 j) ?_)
    refine ih (j + 1) _ _ (by omega) ?_
    have e : g + un * (d j).2.2.2 + un * 7 * ex_go d r (j + 1) = g + un * ex_go d (r + 1) j := by
      show _ = g + un * ((d j).2.2.2 + 7 * ex_go d r (j + 1))
      rw [Nat.mul_add, Nat.mul_assoc, Nat.add_assoc]
    rw [e]
    exact H
theorem ex_goalState {post : Int32 → Prop} {d : Nat → ex_P} {m : Nat} {x : Int32} (hx : x = nI m) (hm : m ≤ 3) (D : ex_xd d m iA iL oA oL) (H : post (nI (ex_go d m 0))) :
    wpX_goalState post (fe, rl, iA, iL, oA, oL, gA, gL, cA, fA) x := by
  subst hx
  unfold wpX_goalState
  dsimp only
  refine ⟨m + 1, ex_gs7 hm D m 0 0 1 (by omega) ?_⟩
  rw [Nat.one_mul, Nat.zero_add]
  exact H
def ex_aR (g un : Nat) : Option Nat → Int32
  | none => -1
  | some t => nI (g + un * t)
theorem ex_ad12 {post : Int32 → Prop} {d : Nat → ex_P} {m a : Nat} (hm : m ≤ 3) (ha : a < 200) (D : ex_xd d m iA iL oA oL) (G : ex_gv d m gA gL) : ∀ (r j g un s : Nat), j + r = m → s < 2 ^ 31 → post (ex_aR g un (ex_sp d r j a s)) →
    wX_advance_12 post (nI a) (nI m) fe rl iA iL oA oL gA gL cA fA (r + 1) (nI g) (nI un) (nI s) (nI j) := by
  intro r
  induction r with
  | zero =>
    intro j g un s hj hs H
    have e : j = m := by omega
    subst e
    exact br_t (nI_le (by omega) (by omega)) H
  | succ r ih =>
    intro j g un s hj hs H
    obtain ⟨d0, d1, d2, d3, d4⟩ := D j (by omega)
    obtain ⟨g1, g2⟩ := G j (by omega) a ha
    have ei : nI j * 200 + nI a = nI (j * 200 + a) := by rw [← nI_add, ← pk_mul]; rfl
    have ec : (nI j * 200 + nI a).toNatClampNeg = j * 200 + a := by rw [ei]; exact nI_clamp (by omega)
    have hin : vp_in (nI j * 200 + nI a) 600 := by rw [ei]; exact vp_in_nI (by omega) (by omega)
    have hj3 : vp_in (nI j) 3 := vp_in_nI (by omega) (by omega)
    have cj : (nI j).toNatClampNeg = j := nI_clamp (by omega)
    have hg6 := ex_gl_le (d j).2.1 a d0.2.1
    have ho6 := d0.2.2.2
    have hn6 : (d j).2.2.1 < 4096 := Nat.lt_of_lt_of_le d0.2.2.1 (ex_4k ho6)
    have hgn := ex_gn_lt (d j).1 (d j).2.1 a
    have hk4 := ex_4k hg6
    have esp : ex_sp d (r + 1) j a s = match ex_a1 (d j) a (s % 7) with | none => none | some t => match ex_sp d r (j + 1) a (s / 7) with | none => none | some q => some (t + 7 * q) := rfl
    refine br_f (nI_ge (by omega) (by omega)) ⟨by decide, ?_⟩
    refine nm_r (pk_rem (d := 7) hs (by omega) (by omega)) ⟨hin, ?_⟩
    refine nm_r (e' := nI (ex_gl (d j).2.1 a)) (by rw [ec]; exact g2) ?_
    unfold ex_a1 at esp
    refine pk_eq (ex_gl (d j).2.1 a) 0 (fun h0 => ?_) (fun h0 => ⟨hj3, ?_⟩)
    · rw [if_pos h0] at esp; rw [esp] at H; exact H
    rw [if_neg h0] at esp
    refine pk_le (s % 7 + ex_gl (d j).2.1 a) (d j).2.2.2 (fun h1 => ⟨hj3, ?_⟩) (fun h1 => ?_) (nI_add _ _) (by rw [cj]; exact d4)
    · rw [if_pos h1] at esp
      refine ex_slice (d j).2.2.1 (s % 7) (ex_gl (d j).2.1 a) (by rw [cj]; exact d3) rfl rfl hn6 (by omega) hg6 ⟨hin, ?_⟩
      have hb : (d j).2.2.1 / 4 ^ (s % 7) % 4 ^ ex_gl (d j).2.1 a < 4 ^ ex_gl (d j).2.1 a := Nat.mod_lt _ (Nat.pow_pos (by decide))
      refine pk_eq _ (ex_gn (d j).1 (d j).2.1 a) (fun h2 => ?_) (fun h2 => ?_) rfl (by rw [ec]; exact g1) (by omega) (by omega)
      · rw [if_pos h2] at esp
        refine nm_r (e' := nI (g + un * (s % 7 + ex_gl (d j).2.1 a))) (by rw [nI_add, pk_mul, nI_add]) ?_
        refine nm_r (pk_mul un 7) ⟨by decide, ?_⟩
        refine nm_r (pk_div (d := 7) hs (by omega) (by omega)) (nm_r (nI_1 j) ?_)
        refine ih (j + 1) _ _ _ (by omega) (by omega) ?_
        rw [esp] at H
        cases hq : ex_sp d r (j + 1) a (s / 7) with
        | none => rw [hq] at H; exact H
        | some q =>
          rw [hq] at H
          have e : g + un * (s % 7 + ex_gl (d j).2.1 a) + un * 7 * q = g + un * (s % 7 + ex_gl (d j).2.1 a + 7 * q) := by
            rw [Nat.mul_add un _ (7 * q), Nat.mul_assoc, Nat.add_assoc]
          show post (nI _)
          rw [e]
          exact H
      · rw [if_neg h2] at esp; rw [esp] at H; exact H
    · rw [if_neg (by omega)] at esp; rw [esp] at H; exact H
theorem ex_advance {post : Int32 → Prop} {d : Nat → ex_P} {m a s : Nat} {x y z : Int32} (hx : x = nI s) (hy : y = nI a) (hz : z = nI m) (hm : m ≤ 3) (ha : a < 200) (hs : s < 2 ^ 31) (D : ex_xd d m iA iL oA oL) (G : ex_gv d m gA gL) (H : post (ex_oI (ex_sp d m 0 a s))) :
    wpX_advance post (fe, rl, iA, iL, oA, oL, gA, gL, cA, fA) x y z := by
  subst hx hy hz
  unfold wpX_advance
  dsimp only
  refine ⟨m + 1, ex_ad12 hm ha D G m 0 0 1 s (by omega) hs ?_⟩
  cases hq : ex_sp d m 0 a s with
  | none => rw [hq] at H; exact H
  | some q =>
    rw [hq] at H
    show post (nI _)
    rw [Nat.one_mul, Nat.zero_add]
    exact H
end
end
section
section
variable {fe : Int32} {rl : Int64} {iA iL oA oL gA gL cA fA : Nat → Int32}
theorem ex_hd {d : Nat → ex_P} {m : Nat} (D : ex_xd d m iA iL oA oL) : ∀ i, i < m → (d (0 + i)).2.2.2 ≤ 6 := fun i hi => by
  rw [Nat.zero_add]; exact (D i hi).1.2.2.2
theorem ex_go3 {d : Nat → ex_P} {m : Nat} (hm : m ≤ 3) (D : ex_xd d m iA iL oA oL) : ex_go d m 0 < 343 :=
  Nat.lt_of_lt_of_le (ex_go_dig d m 0 (ex_hd D)).1 (Nat.pow_le_pow_right (n := 7) (by decide) hm)
def ex_cp (d : Nat → ex_P) (m k c : Nat) (cA : Nat → Int32) : Prop := ∀ s, s < c → cA (k * 343 + s) = nI (ex_ct d m k s)
theorem ex_ix {k t : Nat} : (nI (k + 1) - 1) * 343 + nI t = nI (k * 343 + t) := by
  rw [nI_pred, ← nI_add, ← pk_mul]; rfl
theorem ex_ix2 {k t : Nat} : nI k * 343 + nI t = nI (k * 343 + t) := by
  rw [← nI_add, ← pk_mul]; rfl
theorem ex_cf6 {post : Int32 → Prop} {d : Nat → ex_P} {m k s : Nat} (hm : m ≤ 3) (hk : k ≤ 2) (hs : s < 2 ^ 31) (D : ex_xd d m iA iL oA oL) (G : ex_gv d m gA gL) (C : ex_cp d m k (ex_go d m 0 + 1) cA) (H : post (nI (ex_ct d m (k + 1) s))) : ∀ (r a : Nat), a + r = 200 →
    wX_countFrom_6 post (nI s) (nI (k + 1)) (nI m) fe rl iA iL oA oL gA gL cA fA (r + 1) (nI (ex_sm (ex_tm d m k s) a)) (nI a) := by
  intro r
  induction r with
  | zero =>
    intro a ha
    have e : a = 200 := by omega
    subst e
    exact br_t (nI_le (a := 200) (b := 200) (by decide) (by decide)) H
  | succ r ih =>
    intro a ha
    have h1 := ih (a + 1) (by omega)
    refine br_f (nI_ge (b := 200) (by omega) (by decide)) ?_
    refine ex_advance rfl rfl rfl hm (by omega) hs D G ?_
    cases hq : ex_sp d m 0 a s with
    | none =>
      have e : ex_sm (ex_tm d m k s) (a + 1) = ex_sm (ex_tm d m k s) a := by
        show ex_sm _ a + ex_tm d m k s a = _; rw [ex_tm_n hq]; rfl
      rw [e] at h1
      exact br_t rfl (nm_r (nI_1 a) h1)
    | some t =>
      have hg := ex_go3 hm D
      have ht := (ex_sp_some d m 0 a s t (ex_hd D) hq).1
      have e : ex_sm (ex_tm d m k s) (a + 1) = ex_sm (ex_tm d m k s) a + ex_ct d m k t := by
        show ex_sm _ a + ex_tm d m k s a = _; rw [ex_tm_s hq]
      rw [e] at h1
      refine br_f (ex_ne1 (by omega)) ⟨?_, ?_⟩
      · show vp_in ((nI (k + 1) - 1) * 343 + nI t) 1372
        rw [ex_ix]; exact vp_in_nI (by omega) (by omega)
      · refine nm_r (e' := nI (ex_sm (ex_tm d m k s) a + ex_ct d m k t)) ?_ (nm_r (nI_1 a) h1)
        show _ + cA ((nI (k + 1) - 1) * 343 + nI t).toNatClampNeg = _
        rw [ex_ix, nI_clamp (by omega), C t (by omega), nI_add]
theorem ex_countFrom {post : Int32 → Prop} {d : Nat → ex_P} {m k s : Nat} {x y z : Int32} (hx : x = nI s) (hy : y = nI (k + 1)) (hz : z = nI m) (hm : m ≤ 3) (hk : k ≤ 2) (hs : s < 2 ^ 31) (D : ex_xd d m iA iL oA oL) (G : ex_gv d m gA gL) (C : ex_cp d m k (ex_go d m 0 + 1) cA) (H : post (nI (ex_ct d m (k + 1) s))) :
    wpX_countFrom post (fe, rl, iA, iL, oA, oL, gA, gL, cA, fA) x y z := by
  subst hx hy hz
  unfold wpX_countFrom
  dsimp only
  exact ⟨201, ex_cf6 hm hk hs D G C H 200 0 rfl⟩
theorem ex_cp_u {d : Nat → ex_P} {m k c K s : Nat} {v : Int32} (hk : k < K) (hc : c ≤ 343) (h : ex_cp d m k c cA) : ex_cp d m k c (upd cA (K * 343 + s) v) := by
  intro t ht
  rw [pk_un (by omega)]
  exact h t ht
theorem ex_cp_s {d : Nat → ex_P} {m K s : Nat} (h : ex_cp d m K s cA) : ex_cp d m K (s + 1) (upd cA (K * 343 + s) (nI (ex_ct d m K s))) := by
  intro t ht
  by_cases e : t = s
  · rw [e]; exact pk_us
  · rw [pk_un (by omega)]; exact h t (by omega)
theorem ex_c50 {post : SX → Prop} {J : Int32 → (Nat → Int32) → (Nat → Int32) → (Nat → Int32) → (Nat → Int32) → (Nat → Int32) → (Nat → Int32) → (Nat → Int32) → (Nat → Int32) → Prop} {d : Nat → ex_P} {m k : Nat} (hm : m ≤ 3) (hk : k ≤ 2) (D : ex_xd d m iA iL oA oL) (G : ex_gv d m gA gL) : ∀ (r s : Nat) (cA : Nat → Int32), s + r = ex_go d m 0 + 1 → (∀ i, i < k + 1 → ex_cp d m i (ex_go d m 0 + 1) cA) → ex_cp d m (k + 1) s cA →
    (∀ cA', (∀ i, i < k + 2 → ex_cp d m i (ex_go d m 0 + 1) cA') → J (nI (k + 2)) iA iL oA oL gA gL cA' fA) →
    wX_countPrograms_50 post J (nI m) (nI (ex_go d m 0)) (nI (k + 1)) fe rl (r + 1) (nI s) iA iL oA oL gA gL cA fA := by
  intro r
  have hg := ex_go3 hm D
  induction r with
  | zero =>
    intro s cA hs hi hp H
    have e : s = ex_go d m 0 + 1 := by omega
    refine br_t (nI_lt (by omega) (by omega)) (nm_r (nI_1 (k + 1)) (H cA (fun i hi' => ?_)))
    by_cases ei : i = k + 1
    · rw [ei, ← e]; exact hp
    · exact hi i (by omega)
  | succ r ih =>
    intro s cA hs hi hp H
    refine br_f (nI_nlt (by omega) (by omega)) ?_
    refine ex_countFrom rfl rfl rfl hm hk (by omega) D G (hi k (by omega)) ⟨?_, ?_⟩
    · rw [ex_ix2]; exact vp_in_nI (by omega) (by omega)
    · refine nm_r (e' := upd cA ((k + 1) * 343 + s) (nI (ex_ct d m (k + 1) s))) (by rw [ex_ix2, nI_clamp (by omega)]) (nm_r (nI_1 s) ?_)
      exact ih (s + 1) _ (by omega) (fun i hi' => ex_cp_u hi' (by omega) (hi i hi')) (ex_cp_s hp) H
theorem ex_c42 {post : SX → Prop} {d : Nat → ex_P} {m : Nat} (hm : m ≤ 3) (D : ex_xd d m iA iL oA oL) (G : ex_gv d m gA gL)
    (H : ∀ cA', (∀ i, i < 4 → ex_cp d m i (ex_go d m 0 + 1) cA') → post (fe, rl, iA, iL, oA, oL, gA, gL, cA', fA)) : ∀ (r k : Nat) (cA : Nat → Int32), k + r = 3 → (∀ i, i < k + 1 → ex_cp d m i (ex_go d m 0 + 1) cA) →
    wX_countPrograms_42 post (nI m) (nI (ex_go d m 0)) fe rl (r + 1) (nI (k + 1)) iA iL oA oL gA gL cA fA := by
  intro r
  induction r with
  | zero =>
    intro k cA hk hi
    have e : k = 3 := by omega
    subst e
    exact br_t (by decide) (H cA hi)
  | succ r ih =>
    intro k cA hk hi
    refine br_f (nI_nlt (b := k + 1) (a := 3) (by omega) (by decide)) ⟨ex_go d m 0 + 2, ?_⟩
    exact ex_c50 hm (by omega) D G (ex_go d m 0 + 1) 0 cA (by omega) hi (fun s hs => absurd hs (Nat.not_lt_zero s)) (fun cA' hc => ih (k + 1) cA' (by omega) hc)
theorem ex_c13 {post : SX → Prop} {d : Nat → ex_P} {m : Nat} (hm : m ≤ 3) (D : ex_xd d m iA iL oA oL) (G : ex_gv d m gA gL)
    (H : ∀ cA', (∀ i, i < 4 → ex_cp d m i (ex_go d m 0 + 1) cA') → post (fe, rl, iA, iL, oA, oL, gA, gL, cA', fA)) : ∀ (r s : Nat) (cA : Nat → Int32), s + r = ex_go d m 0 + 1 → ex_cp d m 0 s cA →
    wX_countPrograms_13 post (nI m) (nI (ex_go d m 0)) fe rl (r + 1) (nI s) iA iL oA oL gA gL cA fA := by
  intro r
  have hg := ex_go3 hm D
  induction r with
  | zero =>
    intro s cA hs hp
    have e : s = ex_go d m 0 + 1 := by omega
    refine br_t (nI_lt (by omega) (by omega)) ⟨4, ?_⟩
    refine ex_c42 hm D G H 3 0 cA rfl (fun i hi => ?_)
    have e0 : i = 0 := by omega
    rw [e0, ← e]
    exact hp
  | succ r ih =>
    intro s cA hs hp
    have e0 : 0 * 343 + s = s := by omega
    have h1 := ih (s + 1) _ (by omega) (ex_cp_s hp)
    rw [e0] at h1
    have hin : vp_in (nI s) 1372 := vp_in_nI (by omega) (by omega)
    have hcl : (nI s).toNatClampNeg = s := nI_clamp (by omega)
    refine br_f (nI_nlt (by omega) (by omega)) ?_
    refine pk_eq s (ex_go d m 0) (fun h => ⟨hin, ?_⟩) (fun h => ⟨hin, ?_⟩)
    · have ec : ex_ct d m 0 s = 1 := if_pos h
      rw [ec] at h1
      exact nm_r (e' := upd cA s (nI 1)) (by rw [hcl]; rfl) (nm_r (nI_1 s) h1)
    · have ec : ex_ct d m 0 s = 0 := if_neg h
      rw [ec] at h1
      exact nm_r (e' := upd cA s (nI 0)) (by rw [hcl]; rfl) (nm_r (nI_1 s) h1)
theorem ex_countPrograms {post : SX → Prop} {d : Nat → ex_P} {m : Nat} {x : Int32} (hx : x = nI m) (hm : m ≤ 3) (D : ex_xd d m iA iL oA oL)
    (H : ∀ gA' gL' cA', ex_gv d m gA' gL' → (∀ i, i < 4 → ex_cp d m i (ex_go d m 0 + 1) cA') → post (fe, rl, iA, iL, oA, oL, gA', gL', cA', fA)) :
    wpX_countPrograms post (fe, rl, iA, iL, oA, oL, gA, gL, cA, fA) x := by
  unfold wpX_countPrograms
  dsimp only
  refine ex_giveOnPairs hx hm D (fun gA' gL' G => ?_)
  dsimp only
  refine ex_goalState hx hm D ?_
  rw [hx]
  exact ⟨ex_go d m 0 + 2, ex_c13 hm D G (fun cA' hc => H gA' gL' cA' G hc) (ex_go d m 0 + 1) 0 cA (by omega) (fun s hs => absurd hs (Nat.not_lt_zero s))⟩
theorem ex_lcs {post : Int32 → Prop} {d : Nat → ex_P} {m K n : Nat} (hK : K ≤ 3) (hc : cA (K * 343) = nI (ex_ct d m K 0)) (h0 : ex_ct d m K 0 = 0 → wX_leastCounted_2 post fe rl iA iL oA oL gA gL cA fA n (nI (K + 1))) (h1 : 0 < ex_ct d m K 0 → post (nI K)) :
    wX_leastCounted_2 post fe rl iA iL oA oL gA gL cA fA (n + 1) (nI K) := by
  have e : nI K * 343 = nI (K * 343) := pk_mul K 343
  have hb := ex_ct_b d m hK 0
  refine br_f (nI_nlt (b := K) (a := 3) hK (by decide)) ⟨?_, ?_⟩
  · rw [e]; exact vp_in_nI (by omega) (by omega)
  · refine pk_le (ex_ct d m K 0) 0 (fun h => nm_r (nI_1 K) (h0 (by omega))) (fun h => h1 h) ?_ rfl
    rw [e, nI_clamp (by omega)]
    exact hc
theorem ex_leastCounted {post : Int32 → Prop} {d : Nat → ex_P} {m : Nat} (C : ∀ i, i < 4 → ex_cp d m i (ex_go d m 0 + 1) cA) (H : post (ex_lI (ex_ls d m))) :
    wpX_leastCounted post (fe, rl, iA, iL, oA, oL, gA, gL, cA, fA) := by
  unfold wpX_leastCounted
  dsimp only
  have hc : ∀ K, K < 4 → cA (K * 343) = nI (ex_ct d m K 0) := fun K hK => C K hK 0 (by omega)
  unfold ex_ls at H
  refine ⟨4, ex_lcs (K := 1) (by decide) (hc 1 (by decide)) (fun h1 => ?_) (fun h1 => ?_)⟩
  · rw [if_neg (by omega)] at H
    refine ex_lcs (K := 2) (by decide) (hc 2 (by decide)) (fun h2 => ?_) (fun h2 => ?_)
    · rw [if_neg (by omega)] at H
      refine ex_lcs (K := 3) (by decide) (hc 3 (by decide)) (fun h3 => ?_) (fun h3 => ?_)
      · rw [if_neg (by omega)] at H
        exact br_t (by decide) H
      · rw [if_pos h3] at H; exact H
    · rw [if_pos h2] at H; exact H
  · rw [if_pos h1] at H; exact H
theorem ex_fa2 {post : Int32 → Prop} {d : Nat → ex_P} {m k s : Nat} (hfe : fe = nI m) (hm : m ≤ 3) (hk : k ≤ 2) (hs : s < 2 ^ 31) (D : ex_xd d m iA iL oA oL) (G : ex_gv d m gA gL) (C : ex_cp d m k (ex_go d m 0 + 1) cA) (hp : 0 < ex_ct d m (k + 1) s) (H : post (nI (ex_fa d m k s))) : ∀ (r a : Nat), a + r = 200 → (∀ b, b < a → ex_pb d m k s b = false) →
    wX_firstAtomFrom_2 post (nI s) (nI (k + 1)) fe rl iA iL oA oL gA gL cA fA (r + 1) (nI a) := by
  intro r
  induction r with
  | zero =>
    intro a ha hb
    exfalso
    have h1 := ex_fa_p hp
    have h2 := (ex_lf_sp (ex_pb d m k s) 200).1 h1
    have h3 := hb (ex_fa d m k s) (by omega)
    exact nomatch h2.symm.trans h3
  | succ r ih =>
    intro a ha hb
    refine br_f (nI_ge (b := 200) (by omega) (by decide)) ?_
    refine ex_advance rfl rfl hfe hm (by omega) hs D G ?_
    cases hq : ex_sp d m 0 a s with
    | none =>
      have hn : ex_pb d m k s a = false := decide_eq_false (by rw [ex_tm_n hq]; decide)
      exact br_t rfl (nm_r (nI_1 a) (ih (a + 1) (by omega) (fun b hb' => by
        by_cases e : b = a
        · rw [e]; exact hn
        · exact hb b (by omega))))
    | some t =>
      have hg := ex_go3 hm D
      have ht := (ex_sp_some d m 0 a s t (ex_hd D) hq).1
      have hcb := ex_ct_b d m (show k ≤ 3 by omega) t
      refine br_f (ex_ne1 (by omega)) ⟨?_, ?_⟩
      · show vp_in ((nI (k + 1) - 1) * 343 + nI t) 1372
        rw [ex_ix]; exact vp_in_nI (by omega) (by omega)
      · refine pk_le (ex_ct d m k t) 0 (fun h => ?_) (fun h => ?_) ?_ rfl
        · have hn : ex_pb d m k s a = false := decide_eq_false (by rw [ex_tm_s hq]; omega)
          exact nm_r (nI_1 a) (ih (a + 1) (by omega) (fun b hb' => by
            by_cases e : b = a
            · rw [e]; exact hn
            · exact hb b (by omega)))
        · have hy : ex_pb d m k s a = true := decide_eq_true (by rw [ex_tm_s hq]; exact h)
          have e : ex_fa d m k s = a := ex_lf_eq (by omega) hy hb
          rw [e] at H
          exact H
        · show cA ((nI (k + 1) - 1) * 343 + nI t).toNatClampNeg = _
          rw [ex_ix, nI_clamp (by omega)]
          exact C t (by omega)
theorem ex_firstAtomFrom {post : Int32 → Prop} {d : Nat → ex_P} {m k s : Nat} {x y : Int32} (hx : x = nI s) (hy : y = nI (k + 1)) (hfe : fe = nI m) (hm : m ≤ 3) (hk : k ≤ 2) (hs : s < 2 ^ 31) (D : ex_xd d m iA iL oA oL) (G : ex_gv d m gA gL) (C : ex_cp d m k (ex_go d m 0 + 1) cA) (hp : 0 < ex_ct d m (k + 1) s) (H : post (nI (ex_fa d m k s))) :
    wpX_firstAtomFrom post (fe, rl, iA, iL, oA, oL, gA, gL, cA, fA) x y := by
  subst hx hy
  unfold wpX_firstAtomFrom
  dsimp only
  exact ⟨201, ex_fa2 hfe hm hk hs D G C hp H 200 0 rfl (fun b hb => absurd hb (Nat.not_lt_zero b))⟩
theorem ex_ff17 {post : Int32 → SX → Prop} {d : Nat → ex_P} {m k : Nat} (hfe : fe = nI m) (hm : m ≤ 3) (hk : k ≤ 3) (D : ex_xd d m iA iL oA oL) (G : ex_gv d m gA gL) (C : ∀ i, i < 4 → ex_cp d m i (ex_go d m 0 + 1) cA) (hp : 0 < ex_ct d m k 0)
    (H : ∀ fA', (∀ i, i < k → fA' i = nI (ex_at d m k i)) → post (nI k) (fe, rl, iA, iL, oA, oL, gA, gL, cA, fA')) : ∀ (r i : Nat) (fA : Nat → Int32), i + r = k → (∀ i', i' < i → fA i' = nI (ex_at d m k i')) → ex_st d m k i < 2 ^ 31 →
    wX_findFirstProgram_17 post (nI k) fe rl (r + 1) (nI (ex_st d m k i)) (nI i) iA iL oA oL gA gL cA fA := by
  intro r
  induction r with
  | zero =>
    intro i fA hi hf hs
    have e : i = k := by omega
    subst e
    exact br_t (nI_le (by omega) (by omega)) (H fA hf)
  | succ r ih =>
    intro i fA hi hf hs
    have hp1 := ex_st_p hp i (by omega)
    rw [show k - i = (k - i - 1) + 1 by omega] at hp1
    obtain ⟨ha, hsp⟩ := ex_at_p hp (show i < k by omega)
    have hg := ex_go3 hm D
    have hst := (ex_sp_some d m 0 _ _ _ (ex_hd D) hsp).1
    refine br_f (nI_ge (by omega) (by omega)) ?_
    refine ex_firstAtomFrom (k := k - i - 1) rfl (by rw [pk_sub (by omega), show k - i - 1 + 1 = k - i by omega]) hfe hm (by omega) hs D G (C _ (by omega)) hp1 ⟨vp_in_nI (by omega) (by omega), ?_⟩
    refine nm_r (e' := upd fA i (nI (ex_at d m k i))) (by rw [nI_clamp (by omega)]; rfl) ?_
    refine ex_advance (a := ex_at d m k i) rfl rfl hfe hm ha hs D G ?_
    rw [hsp]
    refine nm_r (nI_1 i) (ih (i + 1) _ (by omega) (fun i' hi' => ?_) (by omega))
    by_cases e : i' = i
    · rw [e]; exact pk_us
    · rw [pk_un e]; exact hf i' (by omega)
theorem ex_findFirst {post : Int32 → SX → Prop} {d : Nat → ex_P} {m : Nat} (hfe : fe = nI m) (hm : m ≤ 3) (D : ex_xd d m iA iL oA oL)
    (H0 : ex_ls d m = 0 → ∀ gA' gL' cA', post (-3) (fe, rl, iA, iL, oA, oL, gA', gL', cA', fA))
    (H1 : ex_ls d m ≠ 0 → ∀ gA' gL' cA' fA', (∀ i, i < ex_ls d m → fA' i = nI (ex_at d m (ex_ls d m) i)) → post (nI (ex_ls d m)) (fe, rl, iA, iL, oA, oL, gA', gL', cA', fA')) :
    wpX_findFirstProgram post (fe, rl, iA, iL, oA, oL, gA, gL, cA, fA) := by
  unfold wpX_findFirstProgram
  dsimp only
  refine ex_countPrograms hfe hm D (fun gA' gL' cA' G C => ?_)
  dsimp only
  refine ex_leastCounted C ?_
  by_cases h0 : ex_ls d m = 0
  · have e : ex_lI (ex_ls d m) = -3 := if_pos h0
    rw [e]
    exact ⟨1, br_t (by decide) (H0 h0 gA' gL' cA')⟩
  · have e : ex_lI (ex_ls d m) = nI (ex_ls d m) := if_neg h0
    rw [e]
    exact ⟨ex_ls d m + 1, ex_ff17 hfe hm (ex_ls_le d m) D G C (ex_ls_p h0) (fun fA' hf => H1 h0 gA' gL' cA' fA' hf) (ex_ls d m) 0 fA (by omega) (fun i hi => absurd hi (Nat.not_lt_zero i)) (by show 0 < _; decide)⟩
theorem ex_re_n {n l : Nat} {f : Nat → Nat} {i : Nat} (h : ex_re n l f i = none) : ∀ r, ex_re n l f (i + r) = none := by
  intro r
  induction r with
  | zero => exact h
  | succ r ih =>
    show (match ex_re n l f (i + r) with | none => none | some q => _) = none
    rw [ih]
theorem ex_re_s {n l : Nat} {f : Nat → Nat} {i : Nat} {q : Nat × Nat} (h : ex_re n l f i = some q) : ex_re n l f (i + 1) = if ex_gl l (f i) = 0 then none else some (q.1 + ex_gn n l (f i) * 4 ^ q.2, q.2 + ex_gl l (f i)) := by
  show (match ex_re n l f i with | none => none | some q => _) = _
  rw [h]
theorem ex_ti26 {post : Int32 → SX → Prop} {p : ex_P} {j k : Nat} {f : Nat → Nat} (hfe : fe = nI j) (hj : j < 3) (hk : k ≤ 3) (hok : ex_ok p) (F : ex_fl p j 200 gA gL) (hf : ∀ i, i < k → fA i = nI (f i) ∧ f i < 200)
    (H0 : ex_re p.1 p.2.1 f k = none → ∀ rl', post (-3) (fe, rl', iA, iL, oA, oL, gA, gL, cA, fA))
    (H1 : ∀ q, ex_re p.1 p.2.1 f k = some q → post (nI q.2) (fe, lN q.1, iA, iL, oA, oL, gA, gL, cA, fA)) : ∀ (r i : Nat) (q : Nat × Nat), i + r = k → ex_re p.1 p.2.1 f i = some q →
    wX_turnIn_26 post (nI k) fe iA iL oA oL gA gL cA fA (r + 1) (nI q.2) (nI i) (lN q.1) := by
  intro r
  induction r with
  | zero =>
    intro i q hi hq
    have e : i = k := by omega
    subst e
    exact br_t (nI_le (by omega) (by omega)) (H1 q hq)
  | succ r ih =>
    intro i q hi hq
    obtain ⟨hf1, hf2⟩ := hf i (by omega)
    obtain ⟨g1, g2⟩ := F (f i) hf2
    obtain ⟨q1, q2⟩ := ex_re_ok hok.2.1 f i q hq
    have hs := ex_re_s hq
    have hg6 := ex_gl_le p.2.1 (f i) hok.2.1
    have ex : fe * 200 + fA (nI i).toNatClampNeg = nI (j * 200 + f i) := by
      rw [hfe, nI_clamp (by omega), hf1, ← nI_add, ← pk_mul]; rfl
    have hcl : (nI (j * 200 + f i)).toNatClampNeg = j * 200 + f i := nI_clamp (by omega)
    have hin : vp_in (nI (j * 200 + f i)) 600 := vp_in_nI (by omega) (by omega)
    refine br_f (nI_ge (by omega) (by omega)) ⟨vp_in_nI (by omega) (by omega), ?_⟩
    refine nm_r ex ⟨hin, ?_⟩
    rw [hcl]
    refine pk_eq (ex_gl p.2.1 (f i)) 0 (fun h => ?_) (fun h => ⟨hin, ?_⟩) g2 rfl
    · rw [if_pos h] at hs
      have h2 := ex_re_n hs r
      rw [show i + 1 + r = k by omega] at h2
      exact H0 h2 _
    · rw [if_neg h] at hs
      have hgn := ex_gn_lt p.1 p.2.1 (f i)
      have hk4 := ex_4k hg6
      have e2 : (2 : Int32) * nI q.2 = nI (2 * q.2) := pk_mul 2 q.2
      have hpw := ex_pw4 q1 hgn
      have hle : 4 ^ (q.2 + ex_gl p.2.1 (f i)) ≤ 4 ^ 24 := Nat.pow_le_pow_right (by decide) (by omega)
      have h24 : 4 ^ 24 < 2 ^ 64 := by decide
      refine nm_r (e' := lN (q.1 + ex_gn p.1 p.2.1 (f i) * 4 ^ q.2)) ?_ ⟨hin, ?_⟩
      · rw [e2, g1, nI_l (by omega), wb_shl _ (by omega), ← ex_42]
        exact g_or' (k := 2 * q.2) (ex_42 q.2).symm q1 (by omega)
      · refine nm_r (e' := nI (q.2 + ex_gl p.2.1 (f i))) (by rw [g2, nI_add]) (nm_r (nI_1 i) ?_)
        exact ih (i + 1) _ (by omega) hs
theorem ex_turnIn {post : Int32 → SX → Prop} {p : ex_P} {j k : Nat} {f : Nat → Nat} {x : Int32} (hx : x = nI k) (hfe : fe = nI j) (hj : j < 3) (hk : k ≤ 3) (hiA : iA j = nI p.1) (hiL : iL j = nI p.2.1) (hok : ex_ok p) (hf : ∀ i, i < k → fA i = nI (f i) ∧ f i < 200)
    (H0 : ex_re p.1 p.2.1 f k = none → ∀ rl' gA' gL', post (-3) (fe, rl', iA, iL, oA, oL, gA', gL', cA, fA))
    (H1 : ∀ q, ex_re p.1 p.2.1 f k = some q → ∀ gA' gL', post (nI q.2) (fe, lN q.1, iA, iL, oA, oL, gA', gL', cA, fA)) :
    wpX_turnIn post (fe, rl, iA, iL, oA, oL, gA, gL, cA, fA) x := by
  subst hx
  unfold wpX_turnIn
  dsimp only
  have hn : ¬ nI k = -3 := fun e => by
    have h1 := nI_pos (n := k) (by omega)
    rw [e] at h1
    exact h1 (by decide)
  refine br_f hn ?_
  refine ex_giveOnPair hfe hj hiA hiL hok (fun gA' gL' F _ => ?_)
  dsimp only
  exact ⟨k + 1, ex_ti26 hfe hj hk hok F hf (fun h rl' => H0 h rl' gA' gL') (fun q h => H1 q h gA' gL') k 0 (0, 0) (by omega) rfl⟩
end
end
section
theorem ex_dl {n g i : Nat} (h : i < g) : n % 4 ^ g / 4 ^ i % 4 = n / 4 ^ i % 4 := by
  have e : 4 ^ g = 4 ^ i * 4 ^ (g - i) := by rw [← Nat.pow_add, show i + (g - i) = g by omega]
  have e2 : (4 : Nat) ∣ 4 ^ (g - i) := by
    have h1 := Nat.pow_dvd_pow 4 (show 1 ≤ g - i by omega)
    rwa [Nat.pow_one] at h1
  rw [e, Nat.mod_mul_right_div_self, Nat.mod_mod_of_dvd _ e2]
theorem ex_div4 (s i : Nat) : s / 4 / 4 ^ i = s / 4 ^ (i + 1) := by
  rw [Nat.div_div_eq_div_mul, Nat.pow_succ, Nat.mul_comm]
theorem ex_dig4 : ∀ m r s : Nat, r < 4 ^ m → s < 4 ^ m → (∀ i, i < m → r / 4 ^ i % 4 = s / 4 ^ i % 4) → r = s := by
  intro m
  induction m with
  | zero => intro r s hr hs _; rw [Nat.pow_zero] at hr hs; omega
  | succ m ih =>
    intro r s hr hs h
    have h0 := h 0 (by omega)
    rw [Nat.pow_zero, Nat.div_one, Nat.div_one] at h0
    rw [Nat.pow_succ] at hr hs
    have h1 := ih (r / 4) (s / 4) (by omega) (by omega) (fun i hi => by rw [ex_div4, ex_div4]; exact h (i + 1) (by omega))
    omega
theorem ex_sl {n so g i : Nat} (h : i < g) : n / 4 ^ so % 4 ^ g / 4 ^ i % 4 = n / 4 ^ (so + i) % 4 := by
  rw [ex_dl h, Nat.div_div_eq_div_mul, ← Nat.pow_add]
def ex_yp (p : ex_P) (y : Nat) (jA pA jL pL : Nat → Int32) : Prop := ex_ok p ∧ jL y = nI p.2.1 ∧ pL y = nI p.2.2.2 ∧ (∀ i, i < p.2.1 → jA (y * 6 + i) = nI (p.1 / 4 ^ i % 4)) ∧ (∀ i, i < p.2.2.2 → pA (y * 6 + i) = nI (p.2.2.1 / 4 ^ i % 4))
section
variable {fe fd : Int32} {jA pA jL pL mA rA sA : Nat → Int32}
theorem ex_place {post : Int32 → Prop} {x y : Int32} (q l : Nat) (hx : x = nI q) (hy : y = nI l) (hq : q < 14) (hl : l ≤ 6) (h : post (ex_pI (ex_pl q l))) : wpY_place post (fe, fd, jA, pA, jL, pL, mA, rA, sA) x y := by
  subst hx hy
  unfold wpY_place
  dsimp only
  unfold ex_pl at h
  refine pk_le 7 q (fun h7 => ?_) (fun h7 => ?_)
  · rw [if_neg (by omega)] at h
    have e7 : nI q - 7 = nI (q - 7) := pk_sub (b := 7) h7
    refine pk_lt l (q - 7) (fun h8 => ?_) (fun h8 => ?_) rfl e7
    · rw [if_neg (by omega)] at h; exact h
    · rw [if_pos h8] at h
      have e8 : nI l - nI q + 7 = nI (l - (q - 7)) := by
        rw [← pk_sub h8, ← e7]; grind
      rw [e8]
      exact h
  · rw [if_pos h7] at h
    refine pk_lt l q (fun h8 => ?_) (fun h8 => ?_)
    · rw [if_neg (by omega)] at h; exact h
    · rw [if_pos h8] at h; exact h
theorem ex_m1le {f : Nat} (h : f < 2 ^ 31) : (-1 : Int32) ≤ nI f := Int32.le_trans (show (-1 : Int32) ≤ 0 by decide) (nI_pos' h)
theorem ex_size {post : Int32 → Prop} {x y : Int32} {a j : Nat} {p : ex_P} (hx : x = nI a) (hy : y = nI j) (ha : a < 200) (hj : j < 3) (Y : ex_yp p j jA pA jL pL) (h : post (nI (ex_gl p.2.1 a))) :
    wpY_size post (fe, fd, jA, pA, jL, pL, mA, rA, sA) x y := by
  subst hx hy
  obtain ⟨hok, y1, y2, y3, y4⟩ := Y
  unfold wpY_size
  dsimp only
  have hl6 : p.2.1 ≤ 6 := hok.2.1
  have hin : vp_in (nI j) 3 := vp_in_nI hj (by omega)
  have hcl : (nI j).toNatClampNeg = j := nI_clamp (by omega)
  refine pk_le 4 a (fun h4 => ⟨by decide, hin, ?_⟩) (fun h4 => ?_)
  · have e4 : nI a - 4 = nI (a - 4) := pk_sub (b := 4) h4
    have hpl := ex_pl_le ((a - 4) / 14) p.2.1
    have hql := ex_pl_le ((a - 4) % 14) p.2.1
    refine ex_place ((a - 4) / 14) p.2.1 (by rw [e4]; exact pk_div (d := 14) (by omega) (by omega) (by omega)) (by rw [hcl]; exact y1) (by omega) hl6 ⟨by decide, hin, ?_⟩
    refine ex_place ((a - 4) % 14) p.2.1 (by rw [e4]; exact pk_rem (d := 14) (by omega) (by omega) (by omega)) (by rw [hcl]; exact y1) (by omega) hl6 ?_
    unfold ex_gl at h
    rw [if_neg (by omega)] at h
    generalize ex_pl ((a - 4) / 14) p.2.1 = P at *
    generalize ex_pl ((a - 4) % 14) p.2.1 = Q at *
    cases P with
    | zero => exact br_t (by decide) h
    | succ f =>
      rw [if_neg (by omega)] at h
      refine br_f (nI_pos (by omega)) ?_
      cases Q with
      | zero =>
        rw [show 0 - (f + 1) = 0 by omega] at h
        exact br_t (ex_m1le (by omega)) h
      | succ t =>
        refine pk_le t f (fun h8 => ?_) (fun h8 => ?_)
        · rw [show t + 1 - (f + 1) = 0 by omega] at h; exact h
        · rw [show t + 1 - (f + 1) = t - f by omega] at h
          show post (nI t - nI f)
          rw [pk_sub (by omega)]
          exact h
  · unfold ex_gl at h
    rw [if_pos h4] at h
    exact h
theorem ex_letter {post : Int32 → Prop} {x y z : Int32} {a j i : Nat} {p : ex_P} (hx : x = nI a) (hy : y = nI j) (hz : z = nI i) (ha : a < 200) (hj : j < 3) (Y : ex_yp p j jA pA jL pL) (hi : i < ex_gl p.2.1 a) (h : post (nI (ex_gn p.1 p.2.1 a / 4 ^ i % 4))) :
    wpY_letter post (fe, fd, jA, pA, jL, pL, mA, rA, sA) x y z := by
  subst hx hy hz
  obtain ⟨hok, y1, y2, y3, y4⟩ := Y
  unfold wpY_letter
  dsimp only
  have hl6 : p.2.1 ≤ 6 := hok.2.1
  have hin : vp_in (nI j) 3 := vp_in_nI hj (by omega)
  have hcl : (nI j).toNatClampNeg = j := nI_clamp (by omega)
  refine pk_le 4 a (fun h4 => ⟨by decide, hin, ?_⟩) (fun h4 => ?_)
  · have e4 : nI a - 4 = nI (a - 4) := pk_sub (b := 4) h4
    have hql := ex_pl_le ((a - 4) % 14) p.2.1
    refine ex_place ((a - 4) / 14) p.2.1 (by rw [e4]; exact pk_div (d := 14) (by omega) (by omega) (by omega)) (by rw [hcl]; exact y1) (by omega) hl6 ?_
    have hgl : ex_gl p.2.1 a = if ex_pl ((a - 4) / 14) p.2.1 = 0 then 0 else ex_pl ((a - 4) % 14) p.2.1 - ex_pl ((a - 4) / 14) p.2.1 := by unfold ex_gl; rw [if_neg (by omega)]
    have hgn : ex_gn p.1 p.2.1 a = p.1 / 4 ^ (ex_pl ((a - 4) / 14) p.2.1 - 1) % 4 ^ (ex_gl p.2.1 a) := by unfold ex_gn; rw [if_neg (by omega), if_neg (by omega)]
    rw [hgn, ex_sl hi] at h
    generalize ex_pl ((a - 4) / 14) p.2.1 = P at *
    generalize ex_pl ((a - 4) % 14) p.2.1 = Q at *
    cases P with
    | zero => rw [if_pos rfl] at hgl; omega
    | succ f =>
      rw [if_neg (by omega)] at hgl
      rw [show f + 1 - 1 = f by omega] at h
      refine nm_r (e' := nI (f + i)) (nI_add f i) ?_
      refine br_f (nI_pos (by omega)) (br_f (nI_ge (b := 6) (by omega) (by decide)) ?_)
      have ei : nI j * 6 + nI (f + i) = nI (j * 6 + (f + i)) := by rw [← nI_add (j * 6) (f + i), ← pk_mul]; rfl
      rw [ei, nI_clamp (by omega), y3 (f + i) (by omega)]
      exact ⟨vp_in_nI (by omega) (by omega), h⟩
  · have hgl : ex_gl p.2.1 a = 1 := by unfold ex_gl; rw [if_pos h4]
    have hgn : ex_gn p.1 p.2.1 a = a := by unfold ex_gn; rw [if_pos h4]
    have hi0 : i = 0 := by omega
    rw [hgn, hi0, Nat.pow_zero, Nat.div_one, Nat.mod_eq_of_lt h4] at h
    exact h
theorem ex_af35 {post : Int32 → Prop} {a j so : Nat} {p : ex_P} (ha : a < 200) (hj : j < 3) (Y : ex_yp p j jA pA jL pL) (hso : so + ex_gl p.2.1 a ≤ p.2.2.2)
    (H : post (ex_oI (if p.2.2.1 / 4 ^ so % 4 ^ ex_gl p.2.1 a = ex_gn p.1 p.2.1 a then some (so + ex_gl p.2.1 a) else none))) : ∀ r i : Nat, i + r = ex_gl p.2.1 a → (∀ k, k < i → ex_gn p.1 p.2.1 a / 4 ^ k % 4 = p.2.2.1 / 4 ^ (so + k) % 4) →
    wY_after_35 post (nI a) (nI j) (nI so) (nI (ex_gl p.2.1 a)) fe fd jA pA jL pL mA rA sA (r + 1) (nI i) := by
  have hg6 := ex_gl_le p.2.1 a Y.1.2.1
  have ho6 := Y.1.2.2.2
  intro r
  induction r with
  | zero =>
    intro i hi hk
    rw [if_pos (ex_dig4 (ex_gl p.2.1 a) _ _ (Nat.mod_lt _ (Nat.pow_pos (by decide))) (ex_gn_lt _ _ _) (fun k h => by rw [ex_sl h]; exact (hk k (by omega)).symm))] at H
    refine br_t (nI_le (by omega) (by omega)) ?_
    rw [nI_add]
    exact H
  | succ r ih =>
    intro i hi hk
    refine br_f (nI_ge (by omega) (by omega)) ?_
    refine ex_letter rfl rfl rfl ha hj Y (by omega) ?_
    have ei : nI j * 6 + nI so + nI i = nI (j * 6 + (so + i)) := by
      rw [← nI_add, ← nI_add, ← pk_mul, Int32.add_assoc]; rfl
    rw [ei, nI_clamp (by omega), Y.2.2.2.2 (so + i) (by omega)]
    refine ⟨vp_in_nI (by omega) (by omega), ?_⟩
    refine pk_eq _ _ (fun h => ?_) (fun h => ?_) rfl rfl (by omega) (by omega)
    · refine nm_r (nI_1 i) (ih (i + 1) (by omega) (fun k hk' => ?_))
      by_cases e : k = i
      · rw [e]; exact h
      · exact hk k (by omega)
    · rw [if_neg (fun e => h (by rw [← e, ex_sl (by omega)]))] at H
      exact H
theorem ex_after {post : Int32 → Prop} {x y z : Int32} {a j so : Nat} {p : ex_P} (hx : x = nI a) (hy : y = nI j) (hz : z = nI so) (ha : a < 200) (hj : j < 3) (hs : so ≤ 6) (Y : ex_yp p j jA pA jL pL) (H : post (ex_oI (ex_a1 p a so))) :
    wpY_after post (fe, fd, jA, pA, jL, pL, mA, rA, sA) x y z := by
  have hg6 := ex_gl_le p.2.1 a Y.1.2.1
  have ho6 := Y.1.2.2.2
  unfold wpY_after
  dsimp only
  refine ex_size hx hy ha hj Y ?_
  unfold ex_a1 at H
  refine pk_eq (ex_gl p.2.1 a) 0 (fun h0 => ?_) (fun h0 => ?_)
  · rw [if_pos h0] at H; exact H
  · rw [if_neg h0] at H
    subst hx hy hz
    refine br_f (nI_pos (by omega)) ⟨vp_in_nI hj (by omega), ?_⟩
    refine pk_le (so + ex_gl p.2.1 a) p.2.2.2 (fun h1 => ?_) (fun h1 => ?_) (nI_add _ _) (by rw [nI_clamp (by omega)]; exact Y.2.2.1)
    · rw [if_pos h1] at H
      exact ⟨_, ex_af35 ha hj Y h1 H (ex_gl p.2.1 a) 0 (by omega) (fun k hk => absurd hk (Nat.not_lt_zero k))⟩
    · rw [if_neg (by omega)] at H; exact H
def ex_ac (e ty p : Nat) : Prop := p < e ∨ (p = 2 ∧ ty = 1)
def ex_jx (e p : Nat) : Nat := if p < e then p else e
def ex_yd (d : Nat → ex_P) (e : Nat) (jA pA jL pL : Nat → Int32) : Prop := ∀ j, j ≤ e → ex_yp (d j) (if j < e then j else 2) jA pA jL pL
theorem ex_yd_ac {d : Nat → ex_P} {e ty p : Nat} (D : ex_yd d e jA pA jL pL) (h : ex_ac e ty p) : ex_yp (d (ex_jx e p)) p jA pA jL pL := by
  by_cases h1 : p < e
  · have h2 := D p (by omega)
    rw [if_pos h1] at h2
    unfold ex_jx
    rw [if_pos h1]
    exact h2
  · have h2 := D e (by omega)
    rw [if_neg (by omega)] at h2
    have e2 : p = 2 := by
      rcases h with h | h
      · exact absurd h h1
      · exact h.1
    unfold ex_jx
    rw [if_neg h1, e2]
    exact h2
theorem ex_jx_lt {e ty p : Nat} (h : ex_ac e ty p) : ex_jx e p < e + ty := by
  unfold ex_jx
  unfold ex_ac at h
  split <;> omega
theorem ex_jx_on {e ty j : Nat} (he : e ≤ 2) (ht : ty ≤ 1) (hj : j < e + ty) : ∃ p, p < 3 ∧ ex_ac e ty p ∧ ex_jx e p = j := by
  by_cases h : j < e
  · exact ⟨j, by omega, Or.inl h, if_pos h⟩
  · exact ⟨2, by omega, Or.inr ⟨rfl, by omega⟩, by unfold ex_jx; rw [if_neg (by omega)]; omega⟩
theorem ex_counts {post : Int32 → Prop} {x y : Int32} {e ty p : Nat} (hfe : fe = nI e) (hx : x = nI p) (hy : y = nI ty) (he : e ≤ 2) (ht : ty ≤ 1) (hp : p < 3) (H1 : ex_ac e ty p → post 1) (H0 : ¬ ex_ac e ty p → post 0) :
    wpY_counts post (fe, fd, jA, pA, jL, pL, mA, rA, sA) x y := by
  subst hfe hx hy
  unfold wpY_counts
  dsimp only
  unfold ex_ac at H1 H0
  refine pk_lt p e (fun h => H1 (Or.inl h)) (fun h => ?_)
  refine pk_eq p 2 (fun h2 => ?_) (fun h2 => ?_)
  · exact pk_eq ty 0 (fun h3 => H0 (by omega)) (fun h3 => H1 (Or.inr ⟨h2, by omega⟩))
  · exact H0 (by omega)
def ex_lv (e ty L s : Nat) (mA : Nat → Int32) : Prop := ∀ p, p < 3 → ex_ac e ty p → mA (L * 3 + p) = nI (s / 7 ^ ex_jx e p % 7)
def ex_ag (c : Nat) (mA mA' : Nat → Int32) : Prop := ∀ i, i < c → mA' i = mA i
theorem ex_ag_t {c c' : Nat} {mA mA' mA'' : Nat → Int32} (hc : c ≤ c') (h1 : ex_ag c mA mA') (h2 : ex_ag c' mA' mA'') : ex_ag c mA mA'' := fun i hi => (h2 i (by omega)).trans (h1 i hi)
theorem ex_lv_a {e ty L s c : Nat} {mA mA' : Nat → Int32} (hc : L * 3 + 3 ≤ c) (h : ex_lv e ty L s mA) (h1 : ex_ag c mA mA') : ex_lv e ty L s mA' := fun p hp ha => (h1 _ (by omega)).trans (h p hp ha)
theorem ex_pt3 {post : Int32 → SY → Prop} {d : Nat → ex_P} {e ty a L s : Nat} (hfe : fe = nI e) (he : e ≤ 2) (ht : ty ≤ 1) (ha : a < 200) (hL : L ≤ 2) (D : ex_yd d e jA pA jL pL) (V : ex_lv e ty L s mA)
    (H0 : (∃ p, p < 3 ∧ ex_ac e ty p ∧ ex_a1 (d (ex_jx e p)) a (s / 7 ^ ex_jx e p % 7) = none) → ∀ mA', ex_ag (L * 3 + 3) mA mA' → post 0 (fe, fd, jA, pA, jL, pL, mA', rA, sA))
    (H1 : ∀ mA', ex_ag (L * 3 + 3) mA mA' → (∀ p, p < 3 → ex_ac e ty p → ∃ t, ex_a1 (d (ex_jx e p)) a (s / 7 ^ ex_jx e p % 7) = some t ∧ mA' (L * 3 + 3 + p) = nI t) → post 1 (fe, fd, jA, pA, jL, pL, mA', rA, sA)) :
    ∀ (r p : Nat) (mA' : Nat → Int32), p + r = 3 → ex_ag (L * 3 + 3) mA mA' → (∀ p', p' < p → ex_ac e ty p' → ∃ t, ex_a1 (d (ex_jx e p')) a (s / 7 ^ ex_jx e p' % 7) = some t ∧ mA' (L * 3 + 3 + p') = nI t) →
    wY_put_3 post (nI a) (nI L) (nI ty) fe fd (r + 1) (nI p) jA pA jL pL mA' rA sA := by
  intro r
  induction r with
  | zero =>
    intro p mA' hp hag hf
    have e3 : p = 3 := by omega
    subst e3
    exact br_t (nI_le (a := 3) (b := 3) (by decide) (by decide)) (H1 mA' hag hf)
  | succ r ih =>
    intro p mA' hp hag hf
    refine br_f (nI_ge (b := 3) (by omega) (by decide)) ?_
    refine ex_counts hfe rfl rfl he ht (by omega) (fun hac => ?_) (fun hac => ?_)
    · have ei : nI L * 3 + nI p = nI (L * 3 + p) := by rw [← nI_add, ← pk_mul]; rfl
      have ej : nI L * 3 + 3 + nI p = nI (L * 3 + 3 + p) := by rw [← nI_add, ← nI_add, ← pk_mul]; rfl
      refine br_f (by decide) ⟨by rw [ei]; exact vp_in_nI (by omega) (by omega), ?_⟩
      have Yp := ex_yd_ac D hac
      refine ex_after (so := s / 7 ^ ex_jx e p % 7) rfl rfl (by rw [ei, nI_clamp (by omega), hag _ (by omega)]; exact V p (by omega) hac) ha (by omega) (by omega) Yp ?_
      cases hq : ex_a1 (d (ex_jx e p)) a (s / 7 ^ ex_jx e p % 7) with
      | none => exact br_f (by decide) (H0 ⟨p, by omega, hac, hq⟩ mA' hag)
      | some t =>
        have ht6 := ex_a1_le hq
        have ho6 := Yp.1.2.2.2
        refine br_t (nI_pos' (by omega)) ⟨by rw [ej]; exact vp_in_nI (by omega) (by omega), ?_⟩
        refine nm_r (e' := upd mA' (L * 3 + 3 + p) (nI t)) (by rw [ej, nI_clamp (by omega)]; rfl) (nm_r (nI_1 p) ?_)
        refine ih (p + 1) _ (by omega) (fun i hi => by rw [pk_un (by omega)]; exact hag i hi) (fun p' hp' hac' => ?_)
        by_cases ep : p' = p
        · subst ep; exact ⟨t, hq, pk_us⟩
        · rw [pk_un (by omega)]; exact hf p' (by omega) hac'
    · refine br_t rfl (nm_r (nI_1 p) (ih (p + 1) _ (by omega) hag (fun p' hp' hac' => ?_)))
      by_cases ep : p' = p
      · subst ep; exact absurd hac' hac
      · exact hf p' (by omega) hac'
theorem ex_yhd {d : Nat → ex_P} {e ty : Nat} (ht : ty ≤ 1) (D : ex_yd d e jA pA jL pL) : ∀ i, i < e + ty → (d (0 + i)).2.2.2 ≤ 6 := fun i hi => by
  rw [Nat.zero_add]; exact (D i (by omega)).1.2.2.2
theorem ex_put {post : Int32 → SY → Prop} {d : Nat → ex_P} {e ty a L s : Nat} {x y z : Int32} (hx : x = nI a) (hy : y = nI L) (hz : z = nI ty) (hfe : fe = nI e) (he : e ≤ 2) (ht : ty ≤ 1) (ha : a < 200) (hL : L ≤ 2) (D : ex_yd d e jA pA jL pL) (V : ex_lv e ty L s mA)
    (H0 : ex_sp d (e + ty) 0 a s = none → ∀ mA', ex_ag (L * 3 + 3) mA mA' → post 0 (fe, fd, jA, pA, jL, pL, mA', rA, sA))
    (H1 : ∀ t, ex_sp d (e + ty) 0 a s = some t → ∀ mA', ex_ag (L * 3 + 3) mA mA' → ex_lv e ty (L + 1) t mA' → post 1 (fe, fd, jA, pA, jL, pL, mA', rA, sA)) :
    wpY_put post (fe, fd, jA, pA, jL, pL, mA, rA, sA) x y z := by
  subst hx hy hz
  unfold wpY_put
  dsimp only
  refine ⟨4, ex_pt3 hfe he ht ha hL D V (fun hn mA' hag => ?_) (fun mA' hag hf => ?_) 3 0 mA rfl (fun _ _ => rfl) (fun p' hp' => absurd hp' (Nat.not_lt_zero p'))⟩
  · obtain ⟨p, hp, hac, hn⟩ := hn
    cases hq : ex_sp d (e + ty) 0 a s with
    | none => exact H0 hq mA' hag
    | some t =>
      have h1 := (ex_sp_some d (e + ty) 0 a s t (ex_yhd ht D) hq).2.2 (ex_jx e p) (ex_jx_lt hac)
      rw [Nat.zero_add, hn] at h1
      exact nomatch h1
  · cases hq : ex_sp d (e + ty) 0 a s with
    | none =>
      obtain ⟨i, hi, hn⟩ := ex_sp_none d _ _ _ _ hq
      obtain ⟨p, hp, hac, hj⟩ := ex_jx_on he ht hi
      obtain ⟨t, ht1, _⟩ := hf p hp hac
      rw [Nat.zero_add] at hn
      rw [hj, hn] at ht1
      exact nomatch ht1
    | some t =>
      refine H1 t hq mA' hag (fun p hp hac => ?_)
      obtain ⟨t', h1, h2⟩ := hf p hp hac
      have h3 := (ex_sp_some d (e + ty) 0 a s t (ex_yhd ht D) hq).2.2 (ex_jx e p) (ex_jx_lt hac)
      rw [Nat.zero_add, h1] at h3
      cases h3
      rw [show (L + 1) * 3 + p = L * 3 + 3 + p by omega]
      exact h2
theorem ex_wh2 {post : Int32 → Prop} {d : Nat → ex_P} {e ty L s : Nat} (hfe : fe = nI e) (he : e ≤ 2) (ht : ty ≤ 1) (hL : L ≤ 3) (hs : s < 7 ^ (e + ty)) (D : ex_yd d e jA pA jL pL) (V : ex_lv e ty L s mA)
    (H1 : s = ex_go d (e + ty) 0 → post 1) (H0 : s ≠ ex_go d (e + ty) 0 → post 0) :
    ∀ (r p : Nat), p + r = 3 → (∀ p', p' < p → ex_ac e ty p' → s / 7 ^ ex_jx e p' % 7 = (d (ex_jx e p')).2.2.2) →
    wY_whole_2 post (nI L) (nI ty) fe fd jA pA jL pL mA rA sA (r + 1) (nI p) := by
  have hgo := ex_go_dig d (e + ty) 0 (ex_yhd ht D)
  intro r
  induction r with
  | zero =>
    intro p hp hf
    have e3 : p = 3 := by omega
    subst e3
    refine br_t (nI_le (a := 3) (b := 3) (by decide) (by decide)) (H1 ?_)
    refine ex_dig (e + ty) _ _ hs hgo.1 (fun i hi => ?_)
    obtain ⟨p, hp, hac, hj⟩ := ex_jx_on he ht hi
    have h1 := hf p hp hac
    rw [hj] at h1
    rw [hgo.2 i hi, Nat.zero_add]
    exact h1
  | succ r ih =>
    intro p hp hf
    refine br_f (nI_ge (b := 3) (by omega) (by decide)) ?_
    refine ex_counts hfe rfl rfl he ht (by omega) (fun hac => ?_) (fun hac => ?_)
    · have ei : nI L * 3 + nI p = nI (L * 3 + p) := by rw [← nI_add, ← pk_mul]; rfl
      have Yp := ex_yd_ac D hac
      have ho6 := Yp.1.2.2.2
      refine br_f (by decide) ⟨by rw [ei]; exact vp_in_nI (by omega) (by omega), vp_in_nI (by omega) (by omega), ?_⟩
      refine pk_eq (s / 7 ^ ex_jx e p % 7) (d (ex_jx e p)).2.2.2 (fun h => ?_) (fun h => ?_) (by rw [ei, nI_clamp (by omega)]; exact V p (by omega) hac) (by rw [nI_clamp (by omega)]; exact Yp.2.2.1)
      · refine nm_r (nI_1 p) (ih (p + 1) (by omega) (fun p' hp' hac' => ?_))
        by_cases ep : p' = p
        · rw [ep]; exact h
        · exact hf p' (by omega) hac'
      · refine H0 (fun e => h ?_)
        rw [e, hgo.2 _ (ex_jx_lt hac), Nat.zero_add]
    · refine br_t rfl (nm_r (nI_1 p) (ih (p + 1) (by omega) (fun p' hp' hac' => ?_)))
      by_cases ep : p' = p
      · subst ep; exact absurd hac' hac
      · exact hf p' (by omega) hac'
theorem ex_whole {post : Int32 → Prop} {d : Nat → ex_P} {e ty L s : Nat} {x y : Int32} (hx : x = nI L) (hy : y = nI ty) (hfe : fe = nI e) (he : e ≤ 2) (ht : ty ≤ 1) (hL : L ≤ 3) (hs : s < 7 ^ (e + ty)) (D : ex_yd d e jA pA jL pL) (V : ex_lv e ty L s mA)
    (H1 : s = ex_go d (e + ty) 0 → post 1) (H0 : s ≠ ex_go d (e + ty) 0 → post 0) :
    wpY_whole post (fe, fd, jA, pA, jL, pL, mA, rA, sA) x y := by
  subst hx hy
  unfold wpY_whole
  dsimp only
  exact ⟨4, ex_wh2 hfe he ht hL hs D V H1 H0 3 0 rfl (fun p' hp' => absurd hp' (Nat.not_lt_zero p'))⟩
def ex_nt (rA : Nat → Int32) (x y z : Int32) : Nat → Int32 := upd (upd (upd rA 0 x) 1 y) 2 z
theorem ex_note {post : SY → Prop} {x y z : Int32} (H1 : fd = 0 → post (fe, 1, jA, pA, jL, pL, mA, ex_nt rA x y z, sA)) (H0 : ¬ fd = 0 → post (fe, fd, jA, pA, jL, pL, mA, rA, sA)) :
    wpY_note post (fe, fd, jA, pA, jL, pL, mA, rA, sA) x y z := by
  unfold wpY_note
  dsimp only
  exact br_c (fun h => nm_e (nm_e (nm_e (H1 h)))) H0
end
end
section
def ex_fs (fd : Int32) (rA : Nat → Int32) (P : Nat → Bool) (N : Nat → Nat → Int32) (c : Nat) : Int32 × (Nat → Int32) := if fd = 0 ∧ ex_lf P c < c then (1, N (ex_lf P c)) else (fd, rA)
theorem ex_fs_0 (fd : Int32) (rA : Nat → Int32) (P : Nat → Bool) (N : Nat → Nat → Int32) : ex_fs fd rA P N 0 = (fd, rA) := if_neg (fun h => Nat.not_lt_zero _ h.2)
theorem ex_fs_y {fd : Int32} {rA : Nat → Int32} {P : Nat → Bool} {N : Nat → Nat → Int32} {c : Nat} (h : fd = 0) (h1 : ex_lf P c < c) : ex_fs fd rA P N c = (1, N (ex_lf P c)) := if_pos ⟨h, h1⟩
theorem ex_fs_x {fd : Int32} {rA : Nat → Int32} {P : Nat → Bool} {N : Nat → Nat → Int32} {c : Nat} (h : ¬ (fd = 0 ∧ ex_lf P c < c)) : ex_fs fd rA P N c = (fd, rA) := if_neg h
theorem ex_lf_k {P : Nat → Bool} {c : Nat} (h : ex_lf P c < c) : ex_lf P (c + 1) = ex_lf P c := if_pos h
theorem ex_lf_f {P : Nat → Bool} {c : Nat} (h : ¬ ex_lf P c < c) (hP : P c = false) : ex_lf P (c + 1) = c + 1 := by
  show (if _ then _ else _) = c + 1; rw [if_neg h, if_neg (by rw [hP]; decide)]
theorem ex_lf_t {P : Nat → Bool} {c : Nat} (h : ¬ ex_lf P c < c) (hP : P c = true) : ex_lf P (c + 1) = c := by
  show (if _ then _ else _) = c; rw [if_neg h, if_pos hP]
theorem ex_fs_n {fd : Int32} {rA : Nat → Int32} {P : Nat → Bool} {N : Nat → Nat → Int32} {c : Nat} (h : P c = false) : ex_fs fd rA P N (c + 1) = ex_fs fd rA P N c := by
  by_cases h2 : fd = 0
  · by_cases h1 : ex_lf P c < c
    · rw [ex_fs_y (c := c) h2 h1, ex_fs_y (c := c + 1) h2 (by rw [ex_lf_k h1]; omega), ex_lf_k h1]
    · rw [ex_fs_x (c := c) (fun h => h1 h.2), ex_fs_x (c := c + 1) (fun hh => by
        have h3 := hh.2
        rw [ex_lf_f h1 h] at h3
        exact Nat.lt_irrefl _ h3)]
  · rw [ex_fs_x (c := c) (fun h => h2 h.1), ex_fs_x (c := c + 1) (fun h => h2 h.1)]
theorem ex_fs_t {fd : Int32} {rA : Nat → Int32} {P : Nat → Bool} {N : Nat → Nat → Int32} {c : Nat} (h : P c = true) : ex_fs fd rA P N (c + 1) = if (ex_fs fd rA P N c).1 = 0 then (1, N c) else ex_fs fd rA P N c := by
  by_cases h2 : fd = 0
  · by_cases h1 : ex_lf P c < c
    · rw [ex_fs_y (c := c) h2 h1, ex_fs_y (c := c + 1) h2 (by rw [ex_lf_k h1]; omega), ex_lf_k h1]
      exact (if_neg (show ¬ (1 : Int32) = 0 by decide)).symm
    · rw [ex_fs_x (c := c) (fun h => h1 h.2), ex_fs_y (c := c + 1) h2 (by rw [ex_lf_t h1 h]; omega), ex_lf_t h1 h]
      exact (if_pos (show fd = 0 from h2)).symm
  · rw [ex_fs_x (c := c) (fun h => h2 h.1), ex_fs_x (c := c + 1) (fun h => h2 h.1)]
    exact (if_neg (show ¬ fd = 0 from h2)).symm
theorem ex_fs_r {fd : Int32} {rA : Nat → Int32} {P : Nat → Bool} {N : Nat → Nat → Int32} {c : Nat} (h : (ex_fs fd rA P N c).1 = 0) : (ex_fs fd rA P N c).2 = rA := by
  by_cases h1 : fd = 0 ∧ ex_lf P c < c
  · rw [ex_fs_y h1.1 h1.2] at h; exact absurd h (show ¬ (1 : Int32) = 0 by decide)
  · rw [ex_fs_x h1]
theorem ex_ct_fa {d : Nat → ex_P} {m k s : Nat} (h : ex_lf (ex_pb d m k s) 200 < 200) : 0 < ex_ct d m (k + 1) s := by
  have h1 := of_decide_eq_true ((ex_lf_sp (ex_pb d m k s) 200).1 h)
  rw [ex_ct_s]
  exact ex_sm_p h1 200 h
theorem ex_fs_in {d : Nat → ex_P} {m k t : Nat} {fd : Int32} {rA : Nat → Int32} {P : Nat → Bool} {N N' : Nat → Nat → Int32} {c : Nat} (hP : P c = decide (0 < ex_ct d m (k + 1) t)) (hN : (ex_fs fd rA P N c).1 = 0 → N' (ex_fa d m k t) = N c) :
    ex_fs (ex_fs fd rA P N c).1 (ex_fs fd rA P N c).2 (ex_pb d m k t) N' 200 = ex_fs fd rA P N (c + 1) := by
  by_cases h : 0 < ex_ct d m (k + 1) t
  · rw [ex_fs_t (c := c) (hP.trans (decide_eq_true h))]
    have h1 : ex_lf (ex_pb d m k t) 200 < 200 := ex_fa_p h
    by_cases h2 : (ex_fs fd rA P N c).1 = 0
    · rw [if_pos h2]
      have h3 : N' (ex_lf (ex_pb d m k t) 200) = N c := hN h2
      rw [ex_fs_y (c := 200) h2 h1, h3]
    · rw [if_neg h2]
      exact ex_fs_x (c := 200) (fun h => h2 h.1)
  · rw [ex_fs_n (c := c) (hP.trans (decide_eq_false h))]
    have h1 : ¬ ex_lf (ex_pb d m k t) 200 < 200 := fun h1 => h (ex_ct_fa h1)
    exact ex_fs_x (c := 200) (fun h => h1 h.2)
section
variable {fe fd : Int32} {jA pA jL pL mA rA sA : Nat → Int32}
theorem ex_th6 {post : Int32 → SY → Prop} {d : Nat → ex_P} {e ty s : Nat} {xa xb : Int32} {N : Nat → Nat → Int32} (hN : ∀ c, N c = ex_nt rA xa xb (nI c)) (hfe : fe = nI e) (he : e ≤ 2) (ht : ty ≤ 1) (D : ex_yd d e jA pA jL pL) (V : ex_lv e ty 2 s mA)
    (H : ∀ mA', ex_ag 9 mA mA' → post (nI (ex_ct d (e + ty) 1 s)) (fe, (ex_fs fd rA (ex_pb d (e + ty) 0 s) N 200).1, jA, pA, jL, pL, mA', (ex_fs fd rA (ex_pb d (e + ty) 0 s) N 200).2, sA)) :
    ∀ (r c : Nat) (mA' : Nat → Int32), c + r = 200 → ex_ag 9 mA mA' →
    wY_thirds_6 post xa xb (nI ty) (r + 1) (nI (ex_sm (ex_tm d (e + ty) 0 s) c)) (nI c) fe (ex_fs fd rA (ex_pb d (e + ty) 0 s) N c).1 jA pA jL pL mA' (ex_fs fd rA (ex_pb d (e + ty) 0 s) N c).2 sA := by
  intro r
  induction r with
  | zero =>
    intro c mA' hc hag
    have e2 : c = 200 := by omega
    subst e2
    exact br_t (nI_le (a := 200) (b := 200) (by decide) (by decide)) (H mA' hag)
  | succ r ih =>
    intro c mA' hc hag
    refine br_f (nI_ge (b := 200) (by omega) (by decide)) ?_
    refine ex_put (L := 2) rfl rfl rfl hfe he ht (by omega) (by decide) D (ex_lv_a (by decide) V hag) (fun hn mA'' hag' => ?_) (fun t hq mA'' hag' V3 => ?_)
    · have ih1 := ih (c + 1) mA'' (by omega) (ex_ag_t (by decide) hag hag')
      have es : ex_sm (ex_tm d (e + ty) 0 s) (c + 1) = ex_sm (ex_tm d (e + ty) 0 s) c := by
        show ex_sm _ c + ex_tm d (e + ty) 0 s c = _; rw [ex_tm_n hn]; rfl
      rw [es, ex_fs_n (show ex_pb d (e + ty) 0 s c = false from decide_eq_false (by rw [ex_tm_n hn]; decide))] at ih1
      exact br_t rfl (nm_r (nI_1 c) ih1)
    · have ih1 := ih (c + 1) mA'' (by omega) (ex_ag_t (by decide) hag hag')
      have htl := (ex_sp_some d (e + ty) 0 c s t (ex_yhd ht D) hq).2.1
      refine br_f (by decide) ?_
      refine ex_whole (L := 3) rfl rfl hfe he ht (by decide) htl D V3 (fun hg => ?_) (fun hg => ?_)
      · have ec : ex_ct d (e + ty) 0 t = 1 := if_pos hg
        have es : ex_sm (ex_tm d (e + ty) 0 s) (c + 1) = ex_sm (ex_tm d (e + ty) 0 s) c + 1 := by
          show ex_sm _ c + ex_tm d (e + ty) 0 s c = _; rw [ex_tm_s hq, ec]
        rw [es, ex_fs_t (show ex_pb d (e + ty) 0 s c = true from decide_eq_true (by rw [ex_tm_s hq, ec]; decide)), hN c] at ih1
        refine br_f (by decide) ?_
        refine ex_note (fun hf => ?_) (fun hf => ?_)
        · rw [if_pos hf] at ih1
          rw [ex_fs_r hf]
          exact nm_r (nI_1 _) (nm_r (nI_1 c) ih1)
        · rw [if_neg hf] at ih1
          exact nm_r (nI_1 _) (nm_r (nI_1 c) ih1)
      · have ec : ex_ct d (e + ty) 0 t = 0 := if_neg hg
        have es : ex_sm (ex_tm d (e + ty) 0 s) (c + 1) = ex_sm (ex_tm d (e + ty) 0 s) c := by
          show ex_sm _ c + ex_tm d (e + ty) 0 s c = _; rw [ex_tm_s hq, ec]; rfl
        rw [es, ex_fs_n (show ex_pb d (e + ty) 0 s c = false from decide_eq_false (by rw [ex_tm_s hq, ec]; decide))] at ih1
        exact br_t rfl (nm_r (nI_1 c) ih1)
theorem ex_thirds {post : Int32 → SY → Prop} {d : Nat → ex_P} {e ty s : Nat} {xa xb x : Int32} (hx : x = nI ty) (hfe : fe = nI e) (he : e ≤ 2) (ht : ty ≤ 1) (D : ex_yd d e jA pA jL pL) (V : ex_lv e ty 2 s mA)
    (H : ∀ mA', ex_ag 9 mA mA' → post (nI (ex_ct d (e + ty) 1 s)) (fe, (ex_fs fd rA (ex_pb d (e + ty) 0 s) (fun c => ex_nt rA xa xb (nI c)) 200).1, jA, pA, jL, pL, mA', (ex_fs fd rA (ex_pb d (e + ty) 0 s) (fun c => ex_nt rA xa xb (nI c)) 200).2, sA)) :
    wpY_thirds post (fe, fd, jA, pA, jL, pL, mA, rA, sA) xa xb x := by
  subst hx
  unfold wpY_thirds
  dsimp only
  have h := ex_th6 (xa := xa) (xb := xb) (N := fun c => ex_nt rA xa xb (nI c)) (fun _ => rfl) hfe he ht D V H 200 0 mA rfl (fun _ _ => rfl)
  rw [ex_fs_0] at h
  exact ⟨201, h⟩
def ex_nx (d : Nat → ex_P) (m a s : Nat) : Nat := (ex_sp d m 0 a s).getD 0
theorem ex_nx_s {d : Nat → ex_P} {m a s t : Nat} (h : ex_sp d m 0 a s = some t) : ex_nx d m a s = t := by unfold ex_nx; rw [h]; rfl
def ex_n3 (d : Nat → ex_P) (m q b s : Nat) : Int32 := if q = 1 then nI (ex_fa d m 0 (ex_nx d m b s)) else -1
theorem ex_se6 {post : Int32 → SY → Prop} {d : Nat → ex_P} {e ty s q : Nat} {xa : Int32} {N : Nat → Nat → Int32} (hq1 : q ≤ 1) (hN : ∀ b, N b = ex_nt rA xa (nI b) (ex_n3 d (e + ty) q b s)) (hfe : fe = nI e) (he : e ≤ 2) (ht : ty ≤ 1) (D : ex_yd d e jA pA jL pL) (V : ex_lv e ty 1 s mA)
    (H : ∀ mA', ex_ag 6 mA mA' → post (nI (ex_ct d (e + ty) (q + 1) s)) (fe, (ex_fs fd rA (ex_pb d (e + ty) q s) N 200).1, jA, pA, jL, pL, mA', (ex_fs fd rA (ex_pb d (e + ty) q s) N 200).2, sA)) :
    ∀ (r c : Nat) (mA' : Nat → Int32), c + r = 200 → ex_ag 6 mA mA' →
    wY_seconds_6 post xa (nI (q + 2)) (nI ty) (r + 1) (nI (ex_sm (ex_tm d (e + ty) q s) c)) (nI c) fe (ex_fs fd rA (ex_pb d (e + ty) q s) N c).1 jA pA jL pL mA' (ex_fs fd rA (ex_pb d (e + ty) q s) N c).2 sA := by
  intro r
  induction r with
  | zero =>
    intro c mA' hc hag
    have e2 : c = 200 := by omega
    subst e2
    exact br_t (nI_le (a := 200) (b := 200) (by decide) (by decide)) (H mA' hag)
  | succ r ih =>
    intro c mA' hc hag
    refine br_f (nI_ge (b := 200) (by omega) (by decide)) ?_
    refine ex_put (L := 1) rfl rfl rfl hfe he ht (by omega) (by decide) D (ex_lv_a (by decide) V hag) (fun hn mA'' hag' => ?_) (fun t hq mA'' hag' V3 => ?_)
    · have ih1 := ih (c + 1) mA'' (by omega) (ex_ag_t (by decide) hag hag')
      have es : ex_sm (ex_tm d (e + ty) q s) (c + 1) = ex_sm (ex_tm d (e + ty) q s) c := by
        show ex_sm _ c + ex_tm d (e + ty) q s c = _; rw [ex_tm_n hn]; rfl
      rw [es, ex_fs_n (show ex_pb d (e + ty) q s c = false from decide_eq_false (by rw [ex_tm_n hn]; decide))] at ih1
      exact br_t rfl (nm_r (nI_1 c) ih1)
    · have htl := (ex_sp_some d (e + ty) 0 c s t (ex_yhd ht D) hq).2.1
      refine br_f (by decide) ?_
      refine pk_eq (q + 2) 3 (fun h3 => ?_) (fun h3 => ?_)
      · have hq0 : q = 1 := by omega
        subst hq0
        refine ex_thirds rfl hfe he ht D V3 (fun mB hagB => ?_)
        have ih1 := ih (c + 1) mB (by omega) (ex_ag_t (by decide) (ex_ag_t (by decide) hag hag') hagB)
        have es : ex_sm (ex_tm d (e + ty) 1 s) (c + 1) = ex_sm (ex_tm d (e + ty) 1 s) c + ex_ct d (e + ty) 1 t := by
          show ex_sm _ c + ex_tm d (e + ty) 1 s c = _; rw [ex_tm_s hq]
        rw [es] at ih1
        rw [ex_fs_in (N := N) (P := ex_pb d (e + ty) 1 s) (c := c) (by unfold ex_pb; rw [ex_tm_s hq]) (fun h0 => by
          rw [hN c, ex_fs_r h0]
          unfold ex_n3
          rw [if_pos rfl, ex_nx_s hq])]
        exact nm_r (nI_add _ _) (nm_r (nI_1 c) ih1)
      · have hq0 : q = 0 := by omega
        subst hq0
        have ih1 := ih (c + 1) mA'' (by omega) (ex_ag_t (by decide) hag hag')
        refine ex_whole (L := 2) rfl rfl hfe he ht (by decide) htl D V3 (fun hg => ?_) (fun hg => ?_)
        · have ec : ex_ct d (e + ty) 0 t = 1 := if_pos hg
          have es : ex_sm (ex_tm d (e + ty) 0 s) (c + 1) = ex_sm (ex_tm d (e + ty) 0 s) c + 1 := by
            show ex_sm _ c + ex_tm d (e + ty) 0 s c = _; rw [ex_tm_s hq, ec]
          have en : ex_n3 d (e + ty) 0 c s = -1 := if_neg (by decide)
          rw [es, ex_fs_t (show ex_pb d (e + ty) 0 s c = true from decide_eq_true (by rw [ex_tm_s hq, ec]; decide)), hN c, en] at ih1
          refine br_f (by decide) ?_
          refine ex_note (fun hf => ?_) (fun hf => ?_)
          · rw [if_pos hf] at ih1
            rw [ex_fs_r hf]
            exact nm_r (nI_1 _) (nm_r (nI_1 c) ih1)
          · rw [if_neg hf] at ih1
            exact nm_r (nI_1 _) (nm_r (nI_1 c) ih1)
        · have ec : ex_ct d (e + ty) 0 t = 0 := if_neg hg
          have es : ex_sm (ex_tm d (e + ty) 0 s) (c + 1) = ex_sm (ex_tm d (e + ty) 0 s) c := by
            show ex_sm _ c + ex_tm d (e + ty) 0 s c = _; rw [ex_tm_s hq, ec]; rfl
          rw [es, ex_fs_n (show ex_pb d (e + ty) 0 s c = false from decide_eq_false (by rw [ex_tm_s hq, ec]; decide))] at ih1
          exact br_t rfl (nm_r (nI_1 c) ih1)
theorem ex_seconds {post : Int32 → SY → Prop} {d : Nat → ex_P} {e ty s q : Nat} {xa x y : Int32} (hy : y = nI (q + 2)) (hx : x = nI ty) (hq1 : q ≤ 1) (hfe : fe = nI e) (he : e ≤ 2) (ht : ty ≤ 1) (D : ex_yd d e jA pA jL pL) (V : ex_lv e ty 1 s mA)
    (H : ∀ mA', ex_ag 6 mA mA' → post (nI (ex_ct d (e + ty) (q + 1) s)) (fe, (ex_fs fd rA (ex_pb d (e + ty) q s) (fun b => ex_nt rA xa (nI b) (ex_n3 d (e + ty) q b s)) 200).1, jA, pA, jL, pL, mA', (ex_fs fd rA (ex_pb d (e + ty) q s) (fun b => ex_nt rA xa (nI b) (ex_n3 d (e + ty) q b s)) 200).2, sA)) :
    wpY_seconds post (fe, fd, jA, pA, jL, pL, mA, rA, sA) xa y x := by
  subst hx hy
  unfold wpY_seconds
  dsimp only
  have h := ex_se6 (xa := xa) (N := fun b => ex_nt rA xa (nI b) (ex_n3 d (e + ty) q b s)) hq1 (fun _ => rfl) hfe he ht D V H 200 0 mA rfl (fun _ _ => rfl)
  rw [ex_fs_0] at h
  exact ⟨201, h⟩
def ex_n2 (d : Nat → ex_P) (m q : Nat) (rA : Nat → Int32) (a s : Nat) : Nat → Int32 := if q = 0 then ex_nt rA (nI a) (-1) (-1) else ex_nt rA (nI a) (nI (ex_fa d m (q - 1) (ex_nx d m a s))) (ex_n3 d m (q - 1) (ex_fa d m (q - 1) (ex_nx d m a s)) (ex_nx d m a s))
theorem ex_s91 {post : Int32 → SY → Prop} {d : Nat → ex_P} {e ty q : Nat} {N : Nat → Nat → Int32} (hq2 : q ≤ 2) (hN : ∀ a, N a = ex_n2 d (e + ty) q rA a 0) (hfe : fe = nI e) (he : e ≤ 2) (ht : ty ≤ 1) (D : ex_yd d e jA pA jL pL) (V : ex_lv e ty 0 0 mA)
    (H : ∀ mA', post (nI (ex_ct d (e + ty) (q + 1) 0)) (fe, (ex_fs fd rA (ex_pb d (e + ty) q 0) N 200).1, jA, pA, jL, pL, mA', (ex_fs fd rA (ex_pb d (e + ty) q 0) N 200).2, sA)) :
    ∀ (r c : Nat) (mA' : Nat → Int32), c + r = 200 → ex_ag 3 mA mA' →
    wY_search_91 post (nI (q + 1)) (nI ty) (r + 1) (nI (ex_sm (ex_tm d (e + ty) q 0) c)) (nI c) fe (ex_fs fd rA (ex_pb d (e + ty) q 0) N c).1 jA pA jL pL mA' (ex_fs fd rA (ex_pb d (e + ty) q 0) N c).2 sA := by
  intro r
  induction r with
  | zero =>
    intro c mA' hc hag
    have e2 : c = 200 := by omega
    subst e2
    exact br_t (nI_le (a := 200) (b := 200) (by decide) (by decide)) (H mA')
  | succ r ih =>
    intro c mA' hc hag
    refine br_f (nI_ge (b := 200) (by omega) (by decide)) ?_
    refine ex_put (L := 0) rfl rfl rfl hfe he ht (by omega) (by decide) D (ex_lv_a (by decide) V hag) (fun hn mA'' hag' => ?_) (fun t hq mA'' hag' V3 => ?_)
    · have ih1 := ih (c + 1) mA'' (by omega) (ex_ag_t (by decide) hag hag')
      have es : ex_sm (ex_tm d (e + ty) q 0) (c + 1) = ex_sm (ex_tm d (e + ty) q 0) c := by
        show ex_sm _ c + ex_tm d (e + ty) q 0 c = _; rw [ex_tm_n hn]; rfl
      rw [es, ex_fs_n (show ex_pb d (e + ty) q 0 c = false from decide_eq_false (by rw [ex_tm_n hn]; decide))] at ih1
      exact br_t rfl (nm_r (nI_1 c) ih1)
    · have htl := (ex_sp_some d (e + ty) 0 c 0 t (ex_yhd ht D) hq).2.1
      refine br_f (by decide) ?_
      refine pk_le (q + 1) 1 (fun h3 => ?_) (fun h3 => ?_)
      · have hq0 : q = 0 := by omega
        subst hq0
        have ih1 := ih (c + 1) mA'' (by omega) (ex_ag_t (by decide) hag hag')
        refine ex_whole (L := 1) rfl rfl hfe he ht (by decide) htl D V3 (fun hg => ?_) (fun hg => ?_)
        · have ec : ex_ct d (e + ty) 0 t = 1 := if_pos hg
          have es : ex_sm (ex_tm d (e + ty) 0 0) (c + 1) = ex_sm (ex_tm d (e + ty) 0 0) c + 1 := by
            show ex_sm _ c + ex_tm d (e + ty) 0 0 c = _; rw [ex_tm_s hq, ec]
          have en : ex_n2 d (e + ty) 0 rA c 0 = ex_nt rA (nI c) (-1) (-1) := if_pos rfl
          rw [es, ex_fs_t (show ex_pb d (e + ty) 0 0 c = true from decide_eq_true (by rw [ex_tm_s hq, ec]; decide)), hN c, en] at ih1
          refine br_f (by decide) ?_
          refine ex_note (fun hf => ?_) (fun hf => ?_)
          · rw [if_pos hf] at ih1
            rw [ex_fs_r hf]
            exact nm_r (nI_1 _) (nm_r (nI_1 c) ih1)
          · rw [if_neg hf] at ih1
            exact nm_r (nI_1 _) (nm_r (nI_1 c) ih1)
        · have ec : ex_ct d (e + ty) 0 t = 0 := if_neg hg
          have es : ex_sm (ex_tm d (e + ty) 0 0) (c + 1) = ex_sm (ex_tm d (e + ty) 0 0) c := by
            show ex_sm _ c + ex_tm d (e + ty) 0 0 c = _; rw [ex_tm_s hq, ec]; rfl
          rw [es, ex_fs_n (show ex_pb d (e + ty) 0 0 c = false from decide_eq_false (by rw [ex_tm_s hq, ec]; decide))] at ih1
          exact br_t rfl (nm_r (nI_1 c) ih1)
      · obtain ⟨k, rfl⟩ : ∃ k, q = k + 1 := ⟨q - 1, by omega⟩
        refine ex_seconds (q := k) rfl rfl (by omega) hfe he ht D V3 (fun mB hagB => ?_)
        have ih1 := ih (c + 1) mB (by omega) (ex_ag_t (by decide) (ex_ag_t (by decide) hag hag') hagB)
        have es : ex_sm (ex_tm d (e + ty) (k + 1) 0) (c + 1) = ex_sm (ex_tm d (e + ty) (k + 1) 0) c + ex_ct d (e + ty) (k + 1) t := by
          show ex_sm _ c + ex_tm d (e + ty) (k + 1) 0 c = _; rw [ex_tm_s hq]
        rw [es] at ih1
        rw [ex_fs_in (N := N) (P := ex_pb d (e + ty) (k + 1) 0) (c := c) (by unfold ex_pb; rw [ex_tm_s hq]) (fun h0 => by
          rw [hN c, ex_fs_r h0]
          unfold ex_n2
          rw [if_neg (by omega), ex_nx_s hq, show k + 1 - 1 = k by omega])]
        exact nm_r (nI_add _ _) (nm_r (nI_1 c) ih1)
theorem ex_nt0 (rA : Nat → Int32) (x y z : Int32) : ex_nt rA x y z 0 = x := rfl
theorem ex_nt1 (rA : Nat → Int32) (x y z : Int32) : ex_nt rA x y z 1 = y := rfl
theorem ex_nt2 (rA : Nat → Int32) (x y z : Int32) : ex_nt rA x y z 2 = z := rfl
theorem ex_at0 (d : Nat → ex_P) (m k : Nat) : ex_at d m (k + 1) 0 = ex_fa d m k 0 := rfl
theorem ex_st1 (d : Nat → ex_P) (m k : Nat) : ex_st d m (k + 1) 1 = ex_nx d m (ex_fa d m k 0) 0 := rfl
theorem ex_at1 (d : Nat → ex_P) (m k : Nat) : ex_at d m (k + 2) 1 = ex_fa d m k (ex_nx d m (ex_fa d m (k + 1) 0) 0) := rfl
theorem ex_at2 (d : Nat → ex_P) (m k : Nat) : ex_at d m (k + 3) 2 = ex_fa d m k (ex_nx d m (ex_at d m (k + 3) 1) (ex_st d m (k + 3) 1)) := rfl
theorem ex_n2_at {d : Nat → ex_P} {m q : Nat} (hq : q ≤ 2) {rA : Nat → Int32} : ∀ i, i < q + 1 → ex_n2 d m q rA (ex_fa d m q 0) 0 i = nI (ex_at d m (q + 1) i) := by
  intro i hi
  by_cases h0 : q = 0
  · subst h0
    have hi0 : i = 0 := by omega
    subst hi0
    rw [ex_at0]
    unfold ex_n2
    rw [if_pos rfl, ex_nt0]
  · obtain ⟨k, rfl⟩ : ∃ k, q = k + 1 := ⟨q - 1, by omega⟩
    unfold ex_n2
    rw [if_neg h0, show k + 1 - 1 = k by omega]
    have hi2 : i = 0 ∨ i = 1 ∨ i = 2 := by omega
    rcases hi2 with h | h | h
    · subst h; rw [ex_nt0, ex_at0]
    · subst h; rw [ex_nt1, ex_at1]
    · subst h
      have hk : k = 1 := by omega
      subst hk
      rw [ex_nt2, ex_at2, ex_at1, ex_st1]
      exact if_pos rfl
theorem ex_sm_c {f : Nat → Nat} {c : Nat} (h : ∀ a, f a = c) : ∀ n, ex_sm f n = n * c := by
  intro n
  induction n with
  | zero => rw [Nat.zero_mul]; rfl
  | succ n ih => show ex_sm f n + f n = _; rw [ih, h n, Nat.succ_mul]
theorem ex_ct_0 (d : Nat → ex_P) : ∀ k, ex_ct d 0 k 0 = 200 ^ k := by
  intro k
  induction k with
  | zero => rfl
  | succ k ih =>
    rw [ex_ct_s, ex_sm_c (c := 200 ^ k) (fun a => by rw [ex_tm_s (t := 0) rfl]; exact ih) 200, Nat.pow_succ, Nat.mul_comm]
theorem ex_fa_0 (d : Nat → ex_P) (k : Nat) : ex_fa d 0 k 0 = 0 := by
  refine ex_lf_eq (by decide) (decide_eq_true ?_) (fun b hb => absurd hb (Nat.not_lt_zero b))
  rw [ex_tm_s (t := 0) rfl, ex_ct_0]
  exact Nat.pow_pos (by decide)
theorem ex_st_0 (d : Nat → ex_P) (k : Nat) : ∀ i, ex_st d 0 k i = 0 := by
  intro i
  cases i with
  | zero => rfl
  | succ i => rfl
theorem ex_at_0 (d : Nat → ex_P) (k i : Nat) : ex_at d 0 k i = 0 := by
  unfold ex_at; rw [ex_st_0]; exact ex_fa_0 d _
theorem ex_s65 {post : Int32 → SY → Prop} {d : Nat → ex_P} {e ty q : Nat} {x y : Int32} (hx : x = nI (q + 1)) (hy : y = nI ty) (hq2 : q ≤ 2) (hfe : fe = nI e) (he : e ≤ 2) (ht : ty ≤ 1) (D : ex_yd d e jA pA jL pL)
    (H : ∀ fd' mA' rA', (0 < ex_ct d (e + ty) (q + 1) 0 → ∀ i, i < q + 1 → rA' i = nI (ex_at d (e + ty) (q + 1) i)) → post (nI (ex_ct d (e + ty) (q + 1) 0)) (fe, fd', jA, pA, jL, pL, mA', rA', sA)) :
    wY_search_65 post x y fe 0 jA pA jL pL mA rA sA := by
  subst hx hy
  unfold wY_search_65
  refine nm_e (nm_e (nm_e ?_))
  have V : ex_lv e ty 0 0 (upd (upd (upd mA 0 0) 1 0) 2 0) := by
    intro p hp _
    rw [Nat.zero_div, Nat.zero_mod]
    have h : p = 0 ∨ p = 1 ∨ p = 2 := by omega
    rcases h with h | h | h <;> subst h <;> rfl
  have h := ex_s91 (post := post) (fd := 0) (rA := rA) (sA := sA) (N := fun a => ex_n2 d (e + ty) q rA a 0) hq2 (fun _ => rfl) hfe he ht D V (fun mA' => ?_) 200 0 _ rfl (fun _ _ => rfl)
  · rw [ex_fs_0] at h
    exact ⟨201, h⟩
  · refine H _ mA' _ (fun hp i hi => ?_)
    have h1 : ex_fs 0 rA (ex_pb d (e + ty) q 0) (fun a => ex_n2 d (e + ty) q rA a 0) 200 = (1, ex_n2 d (e + ty) q rA (ex_fa d (e + ty) q 0) 0) := if_pos ⟨rfl, ex_fa_p hp⟩
    rw [h1]
    exact ex_n2_at hq2 i hi
theorem ex_search {post : Int32 → SY → Prop} {d : Nat → ex_P} {e ty q : Nat} {x y : Int32} (hx : x = nI (q + 1)) (hy : y = nI ty) (hq2 : q ≤ 2) (hfe : fe = nI e) (he : e ≤ 2) (ht : ty ≤ 1) (D : ex_yd d e jA pA jL pL)
    (H : ∀ fd' mA' rA', (0 < ex_ct d (e + ty) (q + 1) 0 → ∀ i, i < q + 1 → rA' i = nI (ex_at d (e + ty) (q + 1) i)) → post (nI (ex_ct d (e + ty) (q + 1) 0)) (fe, fd', jA, pA, jL, pL, mA', rA', sA)) :
    wpY_search post (fe, fd, jA, pA, jL, pL, mA, rA, sA) x y := by
  unfold wpY_search
  dsimp only
  refine pk_eq e 0 (fun h0 => ?_) (fun h0 => ex_s65 hx hy hq2 hfe he ht D H) hfe rfl
  refine pk_eq ty 0 (fun h1 => ?_) (fun h1 => ex_s65 hx hy hq2 hfe he ht D H) hy rfl
  subst h0 h1
  have H' : ∀ rA' : Nat → Int32, (∀ i, i < q + 1 → rA' i = 0) → post (nI (200 ^ (q + 1))) (fe, 1, jA, pA, jL, pL, mA, rA', sA) := fun rA' h => by
    have h2 := H 1 mA rA' (fun _ i hi => by rw [h i hi, show 0 + 0 = 0 from rfl, ex_at_0]; rfl)
    rw [show 0 + 0 = 0 from rfl, ex_ct_0] at h2
    exact h2
  have h : q = 0 ∨ q = 1 ∨ q = 2 := by omega
  rcases h with h | h | h <;> subst h <;> subst hx
  · refine br_t (by decide) ?_
    unfold wY_search_28
    refine br_t (by decide) ?_
    unfold wY_search_38
    refine ex_note (fun _ => ?_) (fun h => absurd rfl h)
    refine br_t (by decide) (H' _ (fun i hi => ?_))
    have hi2 : i = 0 := by omega
    subst hi2; rfl
  · refine br_f (by decide) ?_
    unfold wY_search_28
    refine br_t (by decide) ?_
    unfold wY_search_38
    refine ex_note (fun _ => ?_) (fun h => absurd rfl h)
    refine br_f (by decide) (br_t (by decide) (H' _ (fun i hi => ?_)))
    have hi2 : i = 0 ∨ i = 1 := by omega
    rcases hi2 with h | h <;> subst h <;> rfl
  · refine br_f (by decide) ?_
    unfold wY_search_28
    refine br_f (by decide) ?_
    unfold wY_search_38
    refine ex_note (fun _ => ?_) (fun h => absurd rfl h)
    refine br_f (by decide) (br_f (by decide) (H' _ (fun i hi => ?_)))
    have hi2 : i = 0 ∨ i = 1 ∨ i = 2 := by omega
    rcases hi2 with h | h | h <;> subst h <;> rfl
end
end
section
theorem ex_dlo {R L g t : Nat} (hR : R < 4 ^ L) (ht : t < L) : (R + g * 4 ^ L) / 4 ^ t % 4 = R / 4 ^ t % 4 := by
  rw [← ex_dl (n := R + g * 4 ^ L) ht, Nat.add_mul_mod_self_right, Nat.mod_eq_of_lt hR]
theorem ex_dhi {R L g c : Nat} (hR : R < 4 ^ L) : (R + g * 4 ^ L) / 4 ^ (L + c) % 4 = g / 4 ^ c % 4 := by
  rw [Nat.pow_add, ← Nat.div_div_eq_div_mul, Nat.add_mul_div_right _ _ (Nat.pow_pos (by decide)), Nat.div_eq_of_lt hR, Nat.zero_add]
theorem ex_n3' {k : Nat} (hk : k < 2 ^ 31) : ¬ nI k = -3 := fun e => by
  have h1 := nI_pos hk
  rw [e] at h1
  exact h1 (by decide)
section
variable {fe fd : Int32} {jA pA jL pL mA rA sA : Nat → Int32}
theorem ex_yls {post : Int32 → SY → Prop} {d : Nat → ex_P} {e q n : Nat} (hq2 : q ≤ 2) (hfe : fe = nI e) (he : e ≤ 2) (D : ex_yd d e jA pA jL pL)
    (H0 : ex_ct d e (q + 1) 0 = 0 → ∀ fd' mA' rA', wY_least_2 post n (nI (q + 2)) fe fd' jA pA jL pL mA' rA' sA)
    (H1 : 0 < ex_ct d e (q + 1) 0 → ∀ fd' mA' rA', (∀ i, i < q + 1 → rA' i = nI (ex_at d e (q + 1) i)) → post (nI (q + 1)) (fe, fd', jA, pA, jL, pL, mA', rA', sA)) :
    wY_least_2 post (n + 1) (nI (q + 1)) fe fd jA pA jL pL mA rA sA := by
  have hb := ex_ct_b d e (show q + 1 ≤ 3 by omega) 0
  refine br_f (nI_ge (b := 4) (by omega) (by decide)) ?_
  refine ex_search (ty := 0) rfl rfl hq2 hfe he (by decide) D (fun fd' mA' rA' hr => ?_)
  exact pk_le (ex_ct d e (q + 1) 0) 0 (fun h => nm_r (nI_1 (q + 1)) (H0 (by omega) fd' mA' rA')) (fun h => H1 h fd' mA' rA' (hr h))
theorem ex_yleast {post : Int32 → SY → Prop} {d : Nat → ex_P} {e : Nat} (hfe : fe = nI e) (he : e ≤ 2) (D : ex_yd d e jA pA jL pL)
    (H0 : ex_ls d e = 0 → ∀ fd' mA' rA', post (-3) (fe, fd', jA, pA, jL, pL, mA', rA', sA))
    (H1 : ex_ls d e ≠ 0 → ∀ fd' mA' rA', (∀ i, i < ex_ls d e → rA' i = nI (ex_at d e (ex_ls d e) i)) → post (nI (ex_ls d e)) (fe, fd', jA, pA, jL, pL, mA', rA', sA)) :
    wpY_least post (fe, fd, jA, pA, jL, pL, mA, rA, sA) := by
  unfold wpY_least
  dsimp only
  refine ⟨4, ex_yls (q := 0) (by decide) hfe he D (fun h1 _ _ _ => ?_) (fun h1 fd1 mA1 rA1 hr => ?_)⟩ <;> rw [Nat.zero_add] at h1
  · refine ex_yls (q := 1) (by decide) hfe he D (fun h2 _ _ _ => ?_) (fun h2 fd1 mA1 rA1 hr => ?_) <;> rw [show 1 + 1 = 2 from rfl] at h2
    · refine ex_yls (q := 2) (by decide) hfe he D (fun h3 fd1 mA1 rA1 => ?_) (fun h3 fd1 mA1 rA1 hr => ?_) <;> rw [show 2 + 1 = 3 from rfl] at h3
      · have el : ex_ls d e = 0 := by unfold ex_ls; rw [if_neg (by omega), if_neg (by omega), if_neg (by omega)]
        exact br_t (by decide) (H0 el fd1 mA1 rA1)
      · have el : ex_ls d e = 3 := by unfold ex_ls; rw [if_neg (by omega), if_neg (by omega), if_pos h3]
        rw [el] at H1
        exact H1 (by decide) fd1 mA1 rA1 hr
    · have el : ex_ls d e = 2 := by unfold ex_ls; rw [if_neg (by omega), if_pos h2]
      rw [el] at H1
      exact H1 (by decide) fd1 mA1 rA1 hr
  · have el : ex_ls d e = 1 := by unfold ex_ls; rw [if_pos h1]
    rw [el] at H1
    exact H1 (by decide) fd1 mA1 rA1 hr
theorem ex_yways {post : Int32 → SY → Prop} {d : Nat → ex_P} {e : Nat} (hfe : fe = nI e) (he : e ≤ 2) (D : ex_yd d e jA pA jL pL)
    (H0 : ex_ls d e = 0 → ∀ fd' mA' rA', post 0 (fe, fd', jA, pA, jL, pL, mA', rA', sA))
    (H1 : ex_ls d e ≠ 0 → ∀ fd' mA' rA', post (nI (ex_ct d (e + 1) (ex_ls d e) 0)) (fe, fd', jA, pA, jL, pL, mA', rA', sA)) :
    wpY_ways post (fe, fd, jA, pA, jL, pL, mA, rA, sA) := by
  unfold wpY_ways
  dsimp only
  refine ex_yleast hfe he D (fun h fd' mA' rA' => ?_) (fun h fd' mA' rA' _ => ?_)
  · exact br_f (by decide) (H0 h fd' mA' rA')
  · have hl := ex_ls_le d e
    refine br_t (nI_pos' (by omega)) ?_
    obtain ⟨q, hq⟩ : ∃ q, ex_ls d e = q + 1 := ⟨ex_ls d e - 1, by omega⟩
    rw [hq] at H1 ⊢
    exact ex_search (ty := 1) rfl rfl (by omega) hfe he (by decide) D (fun fd2 mA2 rA2 _ => H1 (by omega) fd2 mA2 rA2)
theorem ex_m45 {post : Int32 → SY → Prop} {J : Int32 → Int32 → (Nat → Int32) → (Nat → Int32) → (Nat → Int32) → (Nat → Int32) → (Nat → Int32) → (Nat → Int32) → (Nat → Int32) → Prop} {p : ex_P} {R L a i : Nat} {x1 : Int32} (Y : ex_yp p 2 jA pA jL pL) (hi : i < 3) (ha : a < 200) (hra : rA i = nI a) (hL : L ≤ 12) (hR : R < 4 ^ L)
    (H : ∀ sA', (∀ t, t < L + ex_gl p.2.1 a → sA' t = nI ((R + ex_gn p.1 p.2.1 a * 4 ^ L) / 4 ^ t % 4)) → J (nI (L + ex_gl p.2.1 a)) (nI (i + 1)) jA pA jL pL mA rA sA') :
    ∀ (r c : Nat) (sA : Nat → Int32), c + r = ex_gl p.2.1 a → (∀ t, t < L + c → sA t = nI ((R + ex_gn p.1 p.2.1 a * 4 ^ L) / 4 ^ t % 4)) →
    wY_make_45 post J x1 (nI i) (nI (ex_gl p.2.1 a)) fe fd (r + 1) (nI (L + c)) (nI c) jA pA jL pL mA rA sA := by
  have hg6 := ex_gl_le p.2.1 a Y.1.2.1
  intro r
  induction r with
  | zero =>
    intro c sA hc hs
    have e : c = ex_gl p.2.1 a := by omega
    rw [e] at hs
    rw [e]
    exact br_t (nI_le (Nat.le_refl _) (by omega)) (nm_r (nI_1 i) (H sA hs))
  | succ r ih =>
    intro c sA hc hs
    refine br_f (nI_ge (by omega) (by omega)) (br_f (nI_ge (b := 18) (by omega) (by decide)) ⟨vp_in_nI hi (by decide), ?_⟩)
    refine ex_letter (a := a) (j := 2) (i := c) (by rw [nI_clamp (by omega)]; exact hra) rfl rfl ha (by decide) Y (by omega) ⟨vp_in_nI (by omega) (by decide), ?_⟩
    refine nm_r (e' := upd sA (L + c) (nI (ex_gn p.1 p.2.1 a / 4 ^ c % 4))) (by rw [nI_clamp (by omega)]) (nm_r (nI_1 _) (nm_r (nI_1 c) ?_))
    refine ih (c + 1) _ (by omega) (fun t ht => ?_)
    by_cases e : t = L + c
    · rw [e, pk_us, ex_dhi hR]
    · rw [pk_un e]; exact hs t (by omega)
theorem ex_m16 {post : Int32 → SY → Prop} {p : ex_P} {k : Nat} {f : Nat → Nat} (Y : ex_yp p 2 jA pA jL pL) (hk : k ≤ 3) (hf : ∀ i, i < k → rA i = nI (f i) ∧ f i < 200)
    (H0 : ex_re p.1 p.2.1 f k = none → ∀ sA', post (-3) (fe, fd, jA, pA, jL, pL, mA, rA, sA'))
    (H1 : ∀ q, ex_re p.1 p.2.1 f k = some q → ∀ sA', (∀ t, t < q.2 → sA' t = nI (q.1 / 4 ^ t % 4)) → post (nI q.2) (fe, fd, jA, pA, jL, pL, mA, rA, sA')) :
    ∀ (r i : Nat) (q : Nat × Nat) (sA : Nat → Int32), i + r = k → ex_re p.1 p.2.1 f i = some q → (∀ t, t < q.2 → sA t = nI (q.1 / 4 ^ t % 4)) →
    wY_make_16 post (nI k) fe fd (r + 1) (nI q.2) (nI i) jA pA jL pL mA rA sA := by
  intro r
  induction r with
  | zero =>
    intro i q sA hi hq hs
    have e : i = k := by omega
    subst e
    exact br_t (nI_le (Nat.le_refl _) (by omega)) (H1 q hq sA hs)
  | succ r ih =>
    intro i q sA hi hq hs
    obtain ⟨hf1, hf2⟩ := hf i (by omega)
    obtain ⟨q1, q2⟩ := ex_re_ok Y.1.2.1 f i q hq
    have hre := ex_re_s hq
    have hg6 := ex_gl_le p.2.1 (f i) Y.1.2.1
    refine br_f (nI_ge (by omega) (by omega)) ⟨vp_in_nI (by omega) (by decide), ?_⟩
    refine ex_size (a := f i) (j := 2) (by rw [nI_clamp (by omega)]; exact hf1) rfl hf2 (by decide) Y ?_
    refine pk_eq (ex_gl p.2.1 (f i)) 0 (fun h => ?_) (fun h => ?_)
    · rw [if_pos h] at hre
      have h2 := ex_re_n hre r
      rw [show i + 1 + r = k by omega] at h2
      exact H0 h2 _
    · rw [if_neg h] at hre
      refine ⟨_, ex_m45 Y (by omega) hf2 hf1 (by omega) q1 (fun sA' hs' => ?_) (ex_gl p.2.1 (f i)) 0 sA (by omega) (fun t ht => ?_)⟩
      · exact ih (i + 1) _ sA' (by omega) hre hs'
      · rw [ex_dlo q1 (by omega)]; exact hs t (by omega)
theorem ex_make {post : Int32 → SY → Prop} {d : Nat → ex_P} {e : Nat} (hfe : fe = nI e) (he : e ≤ 2) (D : ex_yd d e jA pA jL pL)
    (H0 : ex_ls d e = 0 ∨ ex_re (d e).1 (d e).2.1 (ex_at d e (ex_ls d e)) (ex_ls d e) = none → ∀ fd' mA' rA' sA', post (-3) (fe, fd', jA, pA, jL, pL, mA', rA', sA'))
    (H1 : ex_ls d e ≠ 0 → ∀ q, ex_re (d e).1 (d e).2.1 (ex_at d e (ex_ls d e)) (ex_ls d e) = some q → ∀ fd' mA' rA' sA', (∀ t, t < q.2 → sA' t = nI (q.1 / 4 ^ t % 4)) → post (nI q.2) (fe, fd', jA, pA, jL, pL, mA', rA', sA')) :
    wpY_make post (fe, fd, jA, pA, jL, pL, mA, rA, sA) := by
  unfold wpY_make
  dsimp only
  have Y : ex_yp (d e) 2 jA pA jL pL := by
    have h := D e (Nat.le_refl _)
    rw [if_neg (Nat.lt_irrefl e)] at h
    exact h
  refine ex_yleast hfe he D (fun h fd' mA' rA' => ?_) (fun h fd' mA' rA' hr => ?_)
  · exact br_f (by decide) (H0 (Or.inl h) fd' mA' rA' sA)
  · have hl := ex_ls_le d e
    refine br_t (nI_pos' (by omega)) ?_
    exact ⟨ex_ls d e + 1, ex_m16 (k := ex_ls d e) (f := ex_at d e (ex_ls d e)) Y hl (fun i hi => ⟨hr i hi, (ex_at_p (ex_ls_p h) hi).1⟩) (fun hn sA' => H0 (Or.inr hn) fd' mA' rA' sA') (fun q hq sA' hs => H1 h q hq fd' mA' rA' sA' hs) (ex_ls d e) 0 (0, 0) sA (by omega) rfl (fun t ht => absurd ht (Nat.not_lt_zero t))⟩
theorem ex_r15 {post : Int32 → Prop} {d : Nat → ex_P} {e a : Nat} (hfe : fe = nI e) (he : e ≤ 2) (ha : a < 200) (D : ex_yd d e jA pA jL pL)
    (H1 : ex_sp d e 0 a 0 = some (ex_go d e 0) → post 1) (H0 : ex_sp d e 0 a 0 ≠ some (ex_go d e 0) → post 0) :
    ∀ (r j : Nat), j + r = e → (∀ j', j' < j → ex_a1 (d j') a 0 = some (d j').2.2.2) →
    wY_right_15 post (nI a) fe fd jA pA jL pL mA rA sA (r + 1) (nI j) := by
  have hh : ∀ i, i < e → (d (0 + i)).2.2.2 ≤ 6 := ex_yhd (ty := 0) (by decide) D
  have hgo := ex_go_dig d e 0 hh
  have z7 : ∀ i : Nat, 0 / 7 ^ i % 7 = 0 := fun i => by rw [Nat.zero_div]
  intro r
  induction r with
  | zero =>
    intro j hj hf
    have ej : j = e := by omega
    subst ej
    refine br_t (by rw [hfe]; exact nI_le (Nat.le_refl _) (by omega)) (H1 ?_)
    cases hq : ex_sp d j 0 a 0 with
    | none =>
      obtain ⟨i, hi, hn⟩ := ex_sp_none d _ _ _ _ hq
      rw [Nat.zero_add, z7, hf i hi] at hn
      exact nomatch hn
    | some t =>
      obtain ⟨_, h2, h3⟩ := ex_sp_some d j 0 a 0 t hh hq
      refine congrArg some (ex_dig j _ _ h2 hgo.1 (fun i hi => ?_))
      have h4 := h3 i hi
      rw [Nat.zero_add, z7, hf i hi] at h4
      rw [hgo.2 i hi, Nat.zero_add]
      exact (Option.some.inj h4).symm
  | succ r ih =>
    intro j hj hf
    have Y := D j (by omega)
    rw [if_pos (by omega)] at Y
    have ho6 := Y.1.2.2.2
    refine br_f (by rw [hfe]; exact nI_ge (by omega) (by omega)) ?_
    refine ex_after (a := a) (j := j) (so := 0) rfl rfl rfl ha (by omega) (by decide) Y ⟨vp_in_nI (by omega) (by decide), ?_⟩
    have hno : ex_a1 (d j) a 0 ≠ some (d j).2.2.2 → ex_sp d e 0 a 0 ≠ some (ex_go d e 0) := fun hn hs => by
      obtain ⟨_, _, h3⟩ := ex_sp_some d e 0 a 0 _ hh hs
      have h4 := h3 j (by omega)
      rw [z7, hgo.2 j (by omega), Nat.zero_add] at h4
      exact hn h4
    have el : pL (nI j).toNatClampNeg = nI (d j).2.2.2 := by rw [nI_clamp (by omega)]; exact Y.2.2.1
    rw [el]
    cases hq : ex_a1 (d j) a 0 with
    | none =>
      rw [hq] at hno
      exact br_f (fun h => ex_ne1 (k := (d j).2.2.2) (by omega) h.symm) (H0 (hno (fun h => nomatch h)))
    | some t =>
      have ht := ex_a1_le hq
      rw [hq] at hno
      refine pk_eq t (d j).2.2.2 (fun h => ?_) (fun h => H0 (hno (fun h2 => h (Option.some.inj h2))))
      refine nm_r (nI_1 j) (ih (j + 1) (by omega) (fun j' hj' => ?_))
      by_cases e2 : j' = j
      · rw [e2, ← h]; exact hq
      · exact hf j' (by omega)
theorem ex_yright {post : Int32 → Prop} {d : Nat → ex_P} {e a : Nat} {x : Int32} (hx : x = nI a) (hfe : fe = nI e) (he : e ≤ 2) (ha : a < 200) (D : ex_yd d e jA pA jL pL)
    (H1 : ex_sp d e 0 a 0 = some (ex_go d e 0) → post 1) (H0 : ex_sp d e 0 a 0 ≠ some (ex_go d e 0) → post 0) :
    wpY_right post (fe, fd, jA, pA, jL, pL, mA, rA, sA) x := by
  subst hx
  unfold wpY_right
  dsimp only
  refine br_f (nI_pos (by omega)) (br_t (nI_le (b := 199) (by omega) (by decide)) ?_)
  exact ⟨e + 1, ex_r15 hfe he ha D H1 H0 e 0 (by omega) (fun j' hj' => absurd hj' (Nat.not_lt_zero j'))⟩
end
section
variable {fe : Int32} {rl : Int64} {iA iL oA oL gA gL cA fA : Nat → Int32}
theorem ex_xd_le {d : Nat → ex_P} {m n : Nat} (h : n ≤ m) (D : ex_xd d m iA iL oA oL) : ex_xd d n iA iL oA oL := fun j hj => D j (by omega)
theorem ex_xways {post : Int32 → SX → Prop} {d : Nat → ex_P} {e : Nat} (hfe : fe = nI e) (he : e ≤ 2) (D : ex_xd d (e + 1) iA iL oA oL)
    (H0 : ex_ls d e = 0 → ∀ gA' gL' cA', post 0 (fe, rl, iA, iL, oA, oL, gA', gL', cA', fA))
    (H1 : ex_ls d e ≠ 0 → ∀ gA' gL' cA', post (nI (ex_ct d (e + 1) (ex_ls d e) 0)) (fe, rl, iA, iL, oA, oL, gA', gL', cA', fA)) :
    wpX_ways post (fe, rl, iA, iL, oA, oL, gA, gL, cA, fA) := by
  unfold wpX_ways
  dsimp only
  refine ex_countPrograms hfe (by omega) (ex_xd_le (by omega) D) (fun gA' gL' cA' G C => ?_)
  dsimp only
  refine ex_leastCounted C ?_
  have hl := ex_ls_le d e
  by_cases h0 : ex_ls d e = 0
  · have el : ex_lI (ex_ls d e) = -3 := if_pos h0
    rw [el]
    exact br_t rfl (H0 h0 gA' gL' cA')
  · have el : ex_lI (ex_ls d e) = nI (ex_ls d e) := if_neg h0
    rw [el]
    refine br_f (ex_n3' (by omega)) ?_
    refine ex_countPrograms (m := e + 1) (by rw [hfe]; exact nI_1 e) (by omega) D (fun gB gM cB G' C' => ?_)
    have ei : nI (ex_ls d e) * 343 = nI (ex_ls d e * 343) := pk_mul _ 343
    have ec : cB (nI (ex_ls d e) * 343).toNatClampNeg = nI (ex_ct d (e + 1) (ex_ls d e) 0) := by
      have h5 := C' (ex_ls d e) (by omega) 0 (Nat.succ_pos _)
      rw [Nat.add_zero] at h5
      rw [ei, nI_clamp (by omega)]
      exact h5
    have h2 := H1 h0 gB gM cB
    rw [← ec] at h2
    exact ⟨by rw [ei]; exact vp_in_nI (by omega) (by decide), h2⟩
theorem ex_xright {post : Int32 → SX → Prop} {d : Nat → ex_P} {e a : Nat} {x : Int32} (hx : x = nI a) (hfe : fe = nI e) (he : e ≤ 2) (ha : a < 200) (D : ex_xd d e iA iL oA oL)
    (H1 : ex_sp d e 0 a 0 = some (ex_go d e 0) → ∀ gA' gL', post 1 (fe, rl, iA, iL, oA, oL, gA', gL', cA, fA)) (H0 : ex_sp d e 0 a 0 ≠ some (ex_go d e 0) → ∀ gA' gL', post 0 (fe, rl, iA, iL, oA, oL, gA', gL', cA, fA)) :
    wpX_right post (fe, rl, iA, iL, oA, oL, gA, gL, cA, fA) x := by
  subst hx
  unfold wpX_right
  dsimp only
  refine br_f (nI_pos (by omega)) (br_t (nI_lt (b := 200) ha (by decide)) ?_)
  refine ex_giveOnPairs hfe (by omega) D (fun gA' gL' G => ?_)
  dsimp only
  refine ex_goalState hfe (by omega) D ?_
  have hg := ex_go3 (show e ≤ 3 by omega) D
  refine ex_advance (s := 0) rfl rfl hfe (by omega) ha (by decide) D G ?_
  cases hq : ex_sp d e 0 a 0 with
  | none =>
    rw [hq] at H0
    exact br_f (fun h => ex_ne1 (k := ex_go d e 0) (by omega) h.symm) (H0 (fun h => nomatch h) gA' gL')
  | some t =>
    have ht := (ex_sp_some d e 0 a 0 t (ex_hd D) hq).1
    rw [hq] at H0 H1
    exact pk_eq t (ex_go d e 0) (fun h => H1 (congrArg some h) gA' gL') (fun h => H0 (fun h2 => h (Option.some.inj h2)) gA' gL')
end
end
section
theorem ex_nlt {x : Int32} {K : Nat} (h : nI K ≤ x) : ¬ x < nI K := Int32.not_lt.mpr h
theorem ex_nneg {x : Int32} {K : Nat} (hK : K < 2 ^ 31) (h : nI K ≤ x) : ¬ x < 0 := Int32.not_lt.mpr (Int32.le_trans (nI_pos' hK) h)
theorem ex_or (a b : Nat) : nI a ||| nI b = nI (a ||| b) := by
  apply Int32.toBitVec_inj.mp
  rw [Int32.toBitVec_or]
  show BitVec.ofNat 32 a ||| BitVec.ofNat 32 b = BitVec.ofNat 32 (a ||| b)
  apply BitVec.eq_of_toNat_eq
  rw [BitVec.toNat_or, BitVec.toNat_ofNat, BitVec.toNat_ofNat, BitVec.toNat_ofNat, Nat.or_mod_two_pow]
theorem ex_app {n l c : Nat} (hn : n < 4 ^ l) (hl : l ≤ 6) (hc : c < 4) : nI n ||| (nI c <<< ((2 * nI l) &&& 31)) = nI (n + c * 4 ^ l) := by
  have e1 : (2 : Int32) * nI l = nI (2 * l) := pk_mul 2 l
  have b1 := ex_4k hl
  have b2 : c * 4 ^ l ≤ 3 * 4096 := Nat.mul_le_mul (by omega) b1
  rw [e1, pk_shlN (nI (2 * l) &&& 31) (2 * l) (s_l _ (by omega)) (by rw [← ex_42]; omega), ex_or]
  have h1 : n ||| c * 2 ^ (2 * l) = c * 2 ^ (2 * l) + n := by
    rw [← Nat.shiftLeft_eq, Nat.or_comm, Nat.shiftLeft_add_eq_or_of_lt (by rw [← ex_42]; exact hn)]
  rw [h1, ← ex_42, Nat.add_comm]
section
variable {fe : Int32} {rl : Int64} {iA iL oA oL gA gL cA fA : Nat → Int32}
theorem ex_apIn {post : Int32 → SX → Prop} {e n l c : Nat} (he : e ≤ 2) (hA : iA e = nI n) (hL : iL e = nI l) (hn : n < 4 ^ l) (hl : l ≤ 6) (hc : c < 4)
    (H1 : l < 6 → post (nI (l + 1)) (nI e, rl, upd iA e (nI (n + c * 4 ^ l)), upd iL e (nI (l + 1)), oA, oL, gA, gL, cA, fA))
    (H0 : l = 6 → post (-2) (nI e, rl, iA, iL, oA, oL, gA, gL, cA, fA)) :
    wpX_typeIn post (nI e, rl, iA, iL, oA, oL, gA, gL, cA, fA) (nI c) := by
  unfold wpX_typeIn
  dsimp only
  unfold wpX_append__inLetters_inLength
  dsimp only
  have hin : vp_in (nI e) 3 := vp_in_nI (by omega) (by decide)
  have hcl : (nI e).toNatClampNeg = e := nI_clamp (by omega)
  refine br_f (nI_pos (by omega)) (br_t (nI_lt (b := 4) hc (by decide)) ⟨hin, ?_⟩)
  refine nm_r (e' := nI l) (by rw [hcl]; exact hL) ?_
  refine pk_lt l 6 (fun h => ⟨hin, hin, ?_⟩) (fun h => H0 (by omega))
  refine nm_r (e' := upd iA e (nI (n + c * 4 ^ l))) (by rw [hcl, hA, ex_app hn (by omega) hc]) ⟨hin, ?_⟩
  refine nm_r (e' := upd iL e (nI (l + 1))) (by rw [hcl, nI_1]) ?_
  rw [nI_1]
  exact H1 h
theorem ex_abIn {post : Int32 → SX → Prop} {x : Int32} (hx : x < 0 ∨ nI 4 ≤ x) (H : post (-1) (fe, rl, iA, iL, oA, oL, gA, gL, cA, fA)) :
    wpX_typeIn post (fe, rl, iA, iL, oA, oL, gA, gL, cA, fA) x := by
  unfold wpX_typeIn
  dsimp only
  unfold wpX_append__inLetters_inLength
  dsimp only
  rcases hx with h | h
  · exact br_t h H
  · exact br_f (ex_nneg (by decide) h) (br_f (ex_nlt h) H)
theorem ex_apOut {post : Int32 → SX → Prop} {e n l c : Nat} (he : e ≤ 2) (hA : oA e = nI n) (hL : oL e = nI l) (hn : n < 4 ^ l) (hl : l ≤ 6) (hc : c < 4)
    (H1 : l < 6 → post (nI (l + 1)) (nI e, rl, iA, iL, upd oA e (nI (n + c * 4 ^ l)), upd oL e (nI (l + 1)), gA, gL, cA, fA))
    (H0 : l = 6 → post (-2) (nI e, rl, iA, iL, oA, oL, gA, gL, cA, fA)) :
    wpX_typeOut post (nI e, rl, iA, iL, oA, oL, gA, gL, cA, fA) (nI c) := by
  unfold wpX_typeOut
  dsimp only
  unfold wpX_append__outLetters_outLength
  dsimp only
  have hin : vp_in (nI e) 3 := vp_in_nI (by omega) (by decide)
  have hcl : (nI e).toNatClampNeg = e := nI_clamp (by omega)
  refine br_f (nI_pos (by omega)) (br_t (nI_lt (b := 4) hc (by decide)) ⟨hin, ?_⟩)
  refine nm_r (e' := nI l) (by rw [hcl]; exact hL) ?_
  refine pk_lt l 6 (fun h => ⟨hin, hin, ?_⟩) (fun h => H0 (by omega))
  refine nm_r (e' := upd oA e (nI (n + c * 4 ^ l))) (by rw [hcl, hA, ex_app hn (by omega) hc]) ⟨hin, ?_⟩
  refine nm_r (e' := upd oL e (nI (l + 1))) (by rw [hcl, nI_1]) ?_
  rw [nI_1]
  exact H1 h
theorem ex_abOut {post : Int32 → SX → Prop} {x : Int32} (hx : x < 0 ∨ nI 4 ≤ x) (H : post (-1) (fe, rl, iA, iL, oA, oL, gA, gL, cA, fA)) :
    wpX_typeOut post (fe, rl, iA, iL, oA, oL, gA, gL, cA, fA) x := by
  unfold wpX_typeOut
  dsimp only
  unfold wpX_append__outLetters_outLength
  dsimp only
  rcases hx with h | h
  · exact br_t h H
  · exact br_f (ex_nneg (by decide) h) (br_f (ex_nlt h) H)
theorem ex_copy {post : SX → Prop} {a b : Nat} {x y : Int32} (hx : x = nI a) (hy : y = nI b) (ha : a < 3) (hb : b < 3)
    (H : post (fe, rl, upd iA b (iA a), upd iL b (iL a), upd oA b (oA a), upd oL b (oL a), gA, gL, cA, fA)) :
    wpX_copyPair post (fe, rl, iA, iL, oA, oL, gA, gL, cA, fA) x y := by
  subst hx hy
  have h1 : vp_in (nI a) 3 := vp_in_nI ha (by decide)
  have h2 : vp_in (nI b) 3 := vp_in_nI hb (by decide)
  have e1 : (nI a).toNatClampNeg = a := nI_clamp (by omega)
  have e2 : (nI b).toNatClampNeg = b := nI_clamp (by omega)
  unfold wpX_copyPair
  dsimp only
  rw [e1, e2]
  exact ⟨h1, h2, nm_e ⟨h1, h2, nm_e ⟨h1, h2, nm_e ⟨h1, h2, nm_e H⟩⟩⟩⟩
end
section
variable {fe fd : Int32} {jA pA jL pL mA rA sA : Nat → Int32}
theorem ex_ytIn {post : Int32 → SY → Prop} {l c : Nat} (hL : jL 2 = nI l) (hl : l ≤ 6) (hc : c < 4)
    (H1 : l < 6 → post (nI (l + 1)) (fe, fd, upd jA (12 + l) (nI c), pA, upd jL 2 (nI (l + 1)), pL, mA, rA, sA))
    (H0 : l = 6 → post (-2) (fe, fd, jA, pA, jL, pL, mA, rA, sA)) :
    wpY_typeIn post (fe, fd, jA, pA, jL, pL, mA, rA, sA) (nI c) := by
  unfold wpY_typeIn
  dsimp only
  unfold wpY_badLetter
  dsimp only
  refine br_f (nI_pos (by omega)) (br_t (nI_le (b := 3) (by omega) (by decide)) (br_t rfl ?_))
  rw [hL]
  have ei : 12 + nI l = nI (12 + l) := nI_add 12 l
  refine pk_eq l 6 (fun h => H0 h) (fun h => ⟨by rw [ei]; exact vp_in_nI (by omega) (by decide), ?_⟩)
  refine nm_r (e' := upd jA (12 + l) (nI c)) (by rw [ei, nI_clamp (by omega)]) ?_
  refine nm_r (e' := upd jL 2 (nI (l + 1))) (by rw [nI_1]) ?_
  exact H1 (by omega)
theorem ex_ybIn {post : Int32 → SY → Prop} {x : Int32} (hx : x < 0 ∨ nI 4 ≤ x) (H : post (-1) (fe, fd, jA, pA, jL, pL, mA, rA, sA)) :
    wpY_typeIn post (fe, fd, jA, pA, jL, pL, mA, rA, sA) x := by
  unfold wpY_typeIn
  dsimp only
  unfold wpY_badLetter
  dsimp only
  rcases hx with h | h
  · exact br_t h (br_f (by decide) H)
  · exact br_f (ex_nneg (by decide) h) (br_f (fun h3 => absurd (Int32.le_trans h h3) (by decide)) (br_f (by decide) H))
theorem ex_ytOut {post : Int32 → SY → Prop} {l c : Nat} (hL : pL 2 = nI l) (hl : l ≤ 6) (hc : c < 4)
    (H1 : l < 6 → post (nI (l + 1)) (fe, fd, jA, upd pA (12 + l) (nI c), jL, upd pL 2 (nI (l + 1)), mA, rA, sA))
    (H0 : l = 6 → post (-2) (fe, fd, jA, pA, jL, pL, mA, rA, sA)) :
    wpY_typeOut post (fe, fd, jA, pA, jL, pL, mA, rA, sA) (nI c) := by
  unfold wpY_typeOut
  dsimp only
  unfold wpY_badLetter
  dsimp only
  refine br_f (nI_pos (by omega)) (br_t (nI_le (b := 3) (by omega) (by decide)) (br_t rfl ?_))
  rw [hL]
  have ei : 12 + nI l = nI (12 + l) := nI_add 12 l
  refine pk_eq l 6 (fun h => H0 h) (fun h => ⟨by rw [ei]; exact vp_in_nI (by omega) (by decide), ?_⟩)
  refine nm_r (e' := upd pA (12 + l) (nI c)) (by rw [ei, nI_clamp (by omega)]) ?_
  refine nm_r (e' := upd pL 2 (nI (l + 1))) (by rw [nI_1]) ?_
  exact H1 (by omega)
theorem ex_ybOut {post : Int32 → SY → Prop} {x : Int32} (hx : x < 0 ∨ nI 4 ≤ x) (H : post (-1) (fe, fd, jA, pA, jL, pL, mA, rA, sA)) :
    wpY_typeOut post (fe, fd, jA, pA, jL, pL, mA, rA, sA) x := by
  unfold wpY_typeOut
  dsimp only
  unfold wpY_badLetter
  dsimp only
  rcases hx with h | h
  · exact br_t h (br_f (by decide) H)
  · exact br_f (ex_nneg (by decide) h) (br_f (fun h3 => absurd (Int32.le_trans h h3) (by decide)) (br_f (by decide) H))
theorem ex_yl13 {post : Int32 → SY → Prop} {e : Nat} (he : e < 2)
    (H : ∀ jA' pA', (∀ t, t < 6 → jA' (e * 6 + t) = jA (12 + t) ∧ pA' (e * 6 + t) = pA (12 + t)) → (∀ t, (t < e * 6 ∨ e * 6 + 6 ≤ t) → jA' t = jA t ∧ pA' t = pA t) → post (nI (e + 1)) (nI (e + 1), fd, jA', pA', upd jL e (jL 2), upd pL e (pL 2), mA, rA, sA)) :
    ∀ (r i : Nat) (jA' pA' : Nat → Int32), i + r = 6 → (∀ t, t < i → jA' (e * 6 + t) = jA (12 + t) ∧ pA' (e * 6 + t) = pA (12 + t)) → (∀ t, (t < e * 6 ∨ e * 6 + 6 ≤ t) → jA' t = jA t ∧ pA' t = pA t) →
    wY_learn_13 post (nI e) fd (r + 1) (nI i) jA' pA' jL pL mA rA sA := by
  have hcl : (nI e).toNatClampNeg = e := nI_clamp (by omega)
  have hin : vp_in (nI e) 3 := vp_in_nI (by omega) (by decide)
  intro r
  induction r with
  | zero =>
    intro i jA' pA' hi h1 h2
    have e6 : i = 6 := by omega
    subst e6
    refine br_t (by decide) ⟨hin, ?_⟩
    rw [hcl]
    exact nm_e ⟨hin, nm_e (nm_r (nI_1 e) (H jA' pA' h1 h2))⟩
  | succ r ih =>
    intro i jA' pA' hi h1 h2
    have ei : 12 + nI i = nI (12 + i) := nI_add 12 i
    have ej : nI e * 6 + nI i = nI (e * 6 + i) := by rw [← nI_add, ← pk_mul]; rfl
    have ci : (12 + nI i).toNatClampNeg = 12 + i := by rw [ei]; exact nI_clamp (by omega)
    have cj : (nI e * 6 + nI i).toNatClampNeg = e * 6 + i := by rw [ej]; exact nI_clamp (by omega)
    have vi : vp_in (12 + nI i) 18 := by rw [ei]; exact vp_in_nI (by omega) (by decide)
    have vj : vp_in (nI e * 6 + nI i) 18 := by rw [ej]; exact vp_in_nI (by omega) (by decide)
    obtain ⟨g1, g2⟩ := h2 (12 + i) (by omega)
    refine br_f (nI_ge (b := 6) (by omega) (by decide)) ⟨vi, vj, ?_⟩
    refine nm_r (e' := upd jA' (e * 6 + i) (jA (12 + i))) (by rw [ci, cj, g1]) ⟨vi, vj, ?_⟩
    refine nm_r (e' := upd pA' (e * 6 + i) (pA (12 + i))) (by rw [ci, cj, g2]) (nm_r (nI_1 i) ?_)
    refine ih (i + 1) _ _ (by omega) (fun t ht => ?_) (fun t ht => ?_)
    · by_cases et : t = i
      · rw [et]; exact ⟨pk_us, pk_us⟩
      · rw [pk_un (by omega), pk_un (by omega)]; exact h1 t (by omega)
    · rw [pk_un (by omega), pk_un (by omega)]; exact h2 t ht
end
end
section
def ex_ds (d : Nat → ex_P) (e : Nat) (p : ex_P) : Nat → ex_P := fun j => if j = e then p else d j
theorem ex_ds_s (d : Nat → ex_P) (e : Nat) (p : ex_P) : ex_ds d e p e = p := if_pos rfl
theorem ex_ds_n (d : Nat → ex_P) {e j : Nat} (p : ex_P) (h : j ≠ e) : ex_ds d e p j = d j := if_neg h
theorem ex_xd_up {d : Nat → ex_P} {e : Nat} {p : ex_P} {iA iL oA oL iA' iL' oA' oL' : Nat → Int32} (D : ex_xd d e iA iL oA oL)
    (hk : ∀ j, j < e → iA' j = iA j ∧ iL' j = iL j ∧ oA' j = oA j ∧ oL' j = oL j) (hn : ex_ok p ∧ iA' e = nI p.1 ∧ iL' e = nI p.2.1 ∧ oA' e = nI p.2.2.1 ∧ oL' e = nI p.2.2.2) :
    ex_xd (ex_ds d e p) (e + 1) iA' iL' oA' oL' := by
  intro j hj
  by_cases h : j = e
  · subst h; rw [ex_ds_s]; exact hn
  · rw [ex_ds_n d p h]
    obtain ⟨h1, h2, h3, h4⟩ := hk j (by omega)
    rw [h1, h2, h3, h4]
    exact D j (by omega)
theorem ex_yp_c {p : ex_P} {y z : Nat} {jA pA jL pL jA' pA' jL' pL' : Nat → Int32} (Y : ex_yp p y jA pA jL pL) (h1 : jL' z = jL y) (h2 : pL' z = pL y) (h3 : ∀ i, i < 6 → jA' (z * 6 + i) = jA (y * 6 + i)) (h4 : ∀ i, i < 6 → pA' (z * 6 + i) = pA (y * 6 + i)) : ex_yp p z jA' pA' jL' pL' := by
  obtain ⟨hok, y1, y2, y3, y4⟩ := Y
  have a1 := hok.2.1
  have a2 := hok.2.2.2
  refine ⟨hok, h1.trans y1, h2.trans y2, fun i hi => ?_, fun i hi => ?_⟩
  · rw [h3 i (by omega)]; exact y3 i hi
  · rw [h4 i (by omega)]; exact y4 i hi
theorem ex_yd_up {d : Nat → ex_P} {e : Nat} {p : ex_P} {jA pA jL pL jA' pA' jL' pL' : Nat → Int32} (he : e ≤ 2) (D : ∀ j, j < e → ex_yp (d j) j jA pA jL pL) (hk : ∀ j, j < e → jL' j = jL j ∧ pL' j = pL j) (hk2 : ∀ i, i < e * 6 → jA' i = jA i ∧ pA' i = pA i) (hn : ex_yp p 2 jA' pA' jL' pL') :
    ex_yd (ex_ds d e p) e jA' pA' jL' pL' := by
  intro j hj
  by_cases h : j = e
  · subst h; rw [ex_ds_s, if_neg (Nat.lt_irrefl _)]; exact hn
  · rw [ex_ds_n d p h, if_pos (by omega)]
    exact ex_yp_c (D j (by omega)) (hk j (by omega)).1 (hk j (by omega)).2 (fun i hi => (hk2 _ (by omega)).1) (fun i hi => (hk2 _ (by omega)).2)
theorem ex_yd_lo {d : Nat → ex_P} {e : Nat} {jA pA jL pL : Nat → Int32} (D : ex_yd d e jA pA jL pL) : ∀ j, j < e → ex_yp (d j) j jA pA jL pL := fun j hj => by
  have h := D j (by omega)
  rw [if_pos hj] at h
  exact h
theorem ex_yd_hi {d : Nat → ex_P} {e : Nat} {jA pA jL pL : Nat → Int32} (D : ex_yd d e jA pA jL pL) : ex_yp (d e) 2 jA pA jL pL := by
  have h := D e (Nat.le_refl _)
  rw [if_neg (Nat.lt_irrefl e)] at h
  exact h
def i_Rel (k : Nat) (u : SX) (v : SY) : Prop := ∃ (d : Nat → ex_P) (e : Nat), e ≤ 2 ∧ u.1 = nI e ∧ v.1 = nI e ∧ ex_xd d (e + 1) u.2.2.1 u.2.2.2.1 u.2.2.2.2.1 u.2.2.2.2.2.1 ∧ ex_yd d e v.2.2.1 v.2.2.2.1 v.2.2.2.2.1 v.2.2.2.2.2.1
theorem i_up {k : Nat} {u : SX} {v : SY} (h : i_Rel k u v) : i_Rel (k + 2) u v := h
theorem ex_rel {k : Nat} {d : Nat → ex_P} {e : Nat} {rl : Int64} {iA iL oA oL gA gL cA fA : Nat → Int32} {fd : Int32} {jA pA jL pL mA rA sA : Nat → Int32} (he : e ≤ 2) (DX : ex_xd d (e + 1) iA iL oA oL) (DY : ex_yd d e jA pA jL pL) :
    i_Rel k (nI e, rl, iA, iL, oA, oL, gA, gL, cA, fA) (nI e, fd, jA, pA, jL, pL, mA, rA, sA) := ⟨d, e, he, rfl, rfl, DX, DY⟩
theorem ex_ok0 : ex_ok (0, 0, 0, 0) := ⟨by decide, by decide, by decide, by decide⟩
theorem i_vc0 : wpX_init (fun u => wpY_init (fun v => i_Rel 0 u v)) :=
  ⟨fun _ => (0, 0, 0, 0), 0, by decide, rfl, rfl, fun _ _ => ⟨ex_ok0, rfl, rfl, rfl, rfl⟩, fun _ _ => ⟨ex_ok0, rfl, rfl, fun i hi => absurd hi (Nat.not_lt_zero i), fun i hi => absurd hi (Nat.not_lt_zero i)⟩⟩
theorem ex_lg {n l c i : Nat} (hn : n < 4 ^ l) (hc : c < 4) {A : Nat → Int32} {b : Nat} (h : ∀ i, i < l → A (b + i) = nI (n / 4 ^ i % 4)) (hi : i < l + 1) : upd A (b + l) (nI c) (b + i) = nI ((n + c * 4 ^ l) / 4 ^ i % 4) := by
  by_cases e : i = l
  · subst e
    rw [pk_us, show (n + c * 4 ^ i) / 4 ^ i % 4 = c / 4 ^ 0 % 4 from ex_dhi (c := 0) hn, Nat.pow_zero, Nat.div_one, Nat.mod_eq_of_lt hc]
  · rw [pk_un (by omega), ex_dlo hn (by omega)]
    exact h i (by omega)
theorem i_vc_typeIn {k : Nat} {u : SX} {v : SY} (I : i_Rel k u v) (hk : k + 2 ≤ 1024) (v1 : Int32) : wpX_typeIn (fun r u' => wpY_typeIn (fun r' v' => r' = r ∧ i_Rel (k + 2) u' v') v v1) u v1 := by
  obtain ⟨fe, rl, iA, iL, oA, oL, gA, gL, cA, fA⟩ := u
  obtain ⟨fe', fd, jA, pA, jL, pL, mA, rA, sA⟩ := v
  obtain ⟨d, e, he, h1, h2, DX, DY⟩ := I
  dsimp only at h1 h2 DX DY
  subst h1 h2
  have bad : ∀ (h : v1 < 0 ∨ nI 4 ≤ v1), wpX_typeIn (fun r u' => wpY_typeIn (fun r' v' => r' = r ∧ i_Rel (k + 2) u' v') (nI e, fd, jA, pA, jL, pL, mA, rA, sA) v1) (nI e, rl, iA, iL, oA, oL, gA, gL, cA, fA) v1 := fun h =>
    ex_abIn h (ex_ybIn h ⟨rfl, ex_rel he DX DY⟩)
  rcases pk_ix v1 (n := 4) (by decide) with h | h | ⟨c, hc, rfl⟩
  · exact bad (Or.inl h)
  · exact bad (Or.inr h)
  obtain ⟨d0, d1, d2, d3, d4⟩ := DX e (by omega)
  have Y := ex_yd_hi DY
  refine ex_apIn he d1 d2 d0.1 d0.2.1 hc (fun hl => ?_) (fun hl => ?_)
  · refine ex_ytIn Y.2.1 d0.2.1 hc (fun _ => ⟨rfl, ?_⟩) (fun hl' => absurd hl' (by omega))
    refine ex_rel (d := ex_ds d e ((d e).1 + c * 4 ^ (d e).2.1, (d e).2.1 + 1, (d e).2.2.1, (d e).2.2.2)) he ?_ ?_
    · exact ex_xd_up (ex_xd_le (by omega) DX) (fun j hj => ⟨pk_un (by omega), pk_un (by omega), rfl, rfl⟩) ⟨⟨ex_pw4 (k := 1) d0.1 hc, hl, d0.2.2.1, d0.2.2.2⟩, pk_us, pk_us, d3, d4⟩
    · refine ex_yd_up he (ex_yd_lo DY) (fun j hj => ⟨pk_un (by omega), rfl⟩) (fun i hi => ⟨pk_un (by omega), rfl⟩) ⟨⟨ex_pw4 (k := 1) d0.1 hc, hl, d0.2.2.1, d0.2.2.2⟩, pk_us, Y.2.2.1, fun i hi => ?_, Y.2.2.2.2⟩
      exact ex_lg d0.1 hc Y.2.2.2.1 hi
  · exact ex_ytIn Y.2.1 d0.2.1 hc (fun hl' => absurd hl (by omega)) (fun _ => ⟨rfl, ex_rel he DX DY⟩)
theorem i_vc_typeOut {k : Nat} {u : SX} {v : SY} (I : i_Rel k u v) (hk : k + 2 ≤ 1024) (v1 : Int32) : wpX_typeOut (fun r u' => wpY_typeOut (fun r' v' => r' = r ∧ i_Rel (k + 2) u' v') v v1) u v1 := by
  obtain ⟨fe, rl, iA, iL, oA, oL, gA, gL, cA, fA⟩ := u
  obtain ⟨fe', fd, jA, pA, jL, pL, mA, rA, sA⟩ := v
  obtain ⟨d, e, he, h1, h2, DX, DY⟩ := I
  dsimp only at h1 h2 DX DY
  subst h1 h2
  have bad : ∀ (h : v1 < 0 ∨ nI 4 ≤ v1), wpX_typeOut (fun r u' => wpY_typeOut (fun r' v' => r' = r ∧ i_Rel (k + 2) u' v') (nI e, fd, jA, pA, jL, pL, mA, rA, sA) v1) (nI e, rl, iA, iL, oA, oL, gA, gL, cA, fA) v1 := fun h =>
    ex_abOut h (ex_ybOut h ⟨rfl, ex_rel he DX DY⟩)
  rcases pk_ix v1 (n := 4) (by decide) with h | h | ⟨c, hc, rfl⟩
  · exact bad (Or.inl h)
  · exact bad (Or.inr h)
  obtain ⟨d0, d1, d2, d3, d4⟩ := DX e (by omega)
  have Y := ex_yd_hi DY
  refine ex_apOut he d3 d4 d0.2.2.1 d0.2.2.2 hc (fun hl => ?_) (fun hl => ?_)
  · refine ex_ytOut Y.2.2.1 d0.2.2.2 hc (fun _ => ⟨rfl, ?_⟩) (fun hl' => absurd hl' (by omega))
    refine ex_rel (d := ex_ds d e ((d e).1, (d e).2.1, (d e).2.2.1 + c * 4 ^ (d e).2.2.2, (d e).2.2.2 + 1)) he ?_ ?_
    · exact ex_xd_up (ex_xd_le (by omega) DX) (fun j hj => ⟨rfl, rfl, pk_un (by omega), pk_un (by omega)⟩) ⟨⟨d0.1, d0.2.1, ex_pw4 (k := 1) d0.2.2.1 hc, hl⟩, d1, d2, pk_us, pk_us⟩
    · refine ex_yd_up he (ex_yd_lo DY) (fun j hj => ⟨rfl, pk_un (by omega)⟩) (fun i hi => ⟨rfl, pk_un (by omega)⟩) ⟨⟨d0.1, d0.2.1, ex_pw4 (k := 1) d0.2.2.1 hc, hl⟩, Y.2.1, pk_us, Y.2.2.2.1, fun i hi => ?_⟩
      exact ex_lg d0.2.2.1 hc Y.2.2.2.2 hi
  · exact ex_ytOut Y.2.2.1 d0.2.2.2 hc (fun hl' => absurd hl (by omega)) (fun _ => ⟨rfl, ex_rel he DX DY⟩)
theorem i_vc_erase {k : Nat} {u : SX} {v : SY} (I : i_Rel k u v) (hk : k + 2 ≤ 1024) : wpX_erase (fun u' => wpY_erase (fun v' => i_Rel (k + 2) u' v') v) u := by
  obtain ⟨fe, rl, iA, iL, oA, oL, gA, gL, cA, fA⟩ := u
  obtain ⟨fe', fd, jA, pA, jL, pL, mA, rA, sA⟩ := v
  obtain ⟨d, e, he, h1, h2, DX, DY⟩ := I
  dsimp only at h1 h2 DX DY
  subst h1 h2
  have hin : vp_in (nI e) 3 := vp_in_nI (by omega) (by decide)
  have hcl : (nI e).toNatClampNeg = e := nI_clamp (by omega)
  unfold wpX_erase wpY_erase
  dsimp only
  rw [hcl]
  refine ⟨hin, nm_e ⟨hin, nm_e ⟨hin, nm_e ⟨hin, nm_e (nm_e (nm_e ?_))⟩⟩⟩⟩
  have ok0 : ex_ok (0, 0, 0, 0) := ⟨by decide, by decide, by decide, by decide⟩
  refine ex_rel (d := ex_ds d e (0, 0, 0, 0)) he ?_ ?_
  · exact ex_xd_up (ex_xd_le (by omega) DX) (fun j hj => ⟨pk_un (by omega), pk_un (by omega), pk_un (by omega), pk_un (by omega)⟩) ⟨ok0, pk_us, pk_us, pk_us, pk_us⟩
  · exact ex_yd_up he (ex_yd_lo DY) (fun j hj => ⟨pk_un (by omega), pk_un (by omega)⟩) (fun i hi => ⟨rfl, rfl⟩) ⟨ok0, pk_us, pk_us, fun i hi => absurd hi (Nat.not_lt_zero i), fun i hi => absurd hi (Nat.not_lt_zero i)⟩
theorem i_vc_learn {k : Nat} {u : SX} {v : SY} (I : i_Rel k u v) (hk : k + 2 ≤ 1024) : wpX_learn (fun r u' => wpY_learn (fun r' v' => r' = r ∧ i_Rel (k + 2) u' v') v) u := by
  obtain ⟨fe, rl, iA, iL, oA, oL, gA, gL, cA, fA⟩ := u
  obtain ⟨fe', fd, jA, pA, jL, pL, mA, rA, sA⟩ := v
  obtain ⟨d, e, he, h1, h2, DX, DY⟩ := I
  dsimp only at h1 h2 DX DY
  subst h1 h2
  unfold wpX_learn wpY_learn
  dsimp only
  refine pk_lt e 2 (fun h => ?_) (fun h => ?_)
  · refine ex_copy rfl (nI_1 e) (by omega) (by omega) (nm_r (nI_1 e) ?_)
    refine br_f (fun h3 => absurd ((nI_eq (a := e) (b := 2) (by omega) (by decide)).mp h3) (by omega)) ?_
    refine ⟨7, ex_yl13 h (fun jA' pA' g1 g2 => ⟨rfl, ?_⟩) 6 0 jA pA rfl (fun t ht => absurd ht (Nat.not_lt_zero t)) (fun t _ => ⟨rfl, rfl⟩)⟩
    obtain ⟨d0, d1, d2, d3, d4⟩ := DX e (by omega)
    have Y := ex_yd_hi DY
    refine ex_rel (d := ex_ds d (e + 1) (d e)) (by omega) ?_ ?_
    · exact ex_xd_up DX (fun j hj => ⟨pk_un (by omega), pk_un (by omega), pk_un (by omega), pk_un (by omega)⟩) ⟨d0, pk_us.trans d1, pk_us.trans d2, pk_us.trans d3, pk_us.trans d4⟩
    · refine ex_yd_up (jA := jA') (pA := pA') (jL := upd jL e (jL 2)) (pL := upd pL e (pL 2)) (by omega) (fun j hj => ?_) (fun j hj => ⟨rfl, rfl⟩) (fun i hi => ⟨rfl, rfl⟩) ?_
      · by_cases hj2 : j = e
        · subst hj2
          exact ex_yp_c Y pk_us pk_us (fun i hi => (g1 i hi).1) (fun i hi => (g1 i hi).2)
        · exact ex_yp_c (ex_yd_lo DY j (by omega)) (pk_un hj2) (pk_un hj2) (fun i hi => (g2 _ (by omega)).1) (fun i hi => (g2 _ (by omega)).2)
      · exact ex_yp_c Y (pk_un (by omega)) (pk_un (by omega)) (fun i hi => (g2 _ (by omega)).1) (fun i hi => (g2 _ (by omega)).2)
  · have e2 : e = 2 := by omega
    subst e2
    exact br_t rfl ⟨rfl, ex_rel he DX DY⟩
theorem i_vc_forget {k : Nat} {u : SX} {v : SY} (I : i_Rel k u v) (hk : k + 2 ≤ 1024) : wpX_forget (fun r u' => wpY_forget (fun r' v' => r' = r ∧ i_Rel (k + 2) u' v') v) u := by
  obtain ⟨fe, rl, iA, iL, oA, oL, gA, gL, cA, fA⟩ := u
  obtain ⟨fe', fd, jA, pA, jL, pL, mA, rA, sA⟩ := v
  obtain ⟨d, e, he, h1, h2, DX, DY⟩ := I
  dsimp only at h1 h2 DX DY
  subst h1 h2
  unfold wpX_forget wpY_forget
  dsimp only
  refine pk_lt 0 e (fun h => ?_) (fun h => ?_)
  · obtain ⟨j, rfl⟩ : ∃ j, e = j + 1 := ⟨e - 1, by omega⟩
    refine ex_copy rfl (nI_pred j) (by omega) (by omega) (nm_r (nI_pred j) ?_)
    refine br_f (nI_ne0 (by omega) (by omega)) (nm_r (nI_pred j) ⟨rfl, ?_⟩)
    obtain ⟨d0, d1, d2, d3, d4⟩ := DX (j + 1) (by omega)
    refine ex_rel (d := ex_ds d j (d (j + 1))) (by omega) ?_ ?_
    · exact ex_xd_up (ex_xd_le (by omega) DX) (fun i hi => ⟨pk_un (by omega), pk_un (by omega), pk_un (by omega), pk_un (by omega)⟩) ⟨d0, pk_us.trans d1, pk_us.trans d2, pk_us.trans d3, pk_us.trans d4⟩
    · exact ex_yd_up (by omega) (fun i hi => ex_yd_lo DY i (by omega)) (fun i hi => ⟨rfl, rfl⟩) (fun i hi => ⟨rfl, rfl⟩) (ex_yd_hi DY)
  · have e0 : e = 0 := by omega
    subst e0
    exact br_t rfl ⟨rfl, ex_rel he DX DY⟩
end
section
theorem i_vc_least {k : Nat} {u : SX} {v : SY} (I : i_Rel k u v) (hk : k + 2 ≤ 1024) : wpX_least (fun r u' => wpY_least (fun r' v' => r' = r ∧ i_Rel (k + 2) u' v') v) u := by
  obtain ⟨fe, rl, iA, iL, oA, oL, gA, gL, cA, fA⟩ := u
  obtain ⟨fe', fd, jA, pA, jL, pL, mA, rA, sA⟩ := v
  obtain ⟨d, e, he, h1, h2, DX, DY⟩ := I
  dsimp only at h1 h2 DX DY
  subst h1 h2
  unfold wpX_least
  dsimp only
  refine ex_countPrograms rfl (by omega) (ex_xd_le (by omega) DX) (fun gA' gL' cA' G C => ?_)
  dsimp only
  refine ex_leastCounted C ?_
  exact ex_yleast rfl he DY (fun h _ _ _ => ⟨(if_pos h).symm, ex_rel he DX DY⟩) (fun h _ _ _ _ => ⟨(if_neg h).symm, ex_rel he DX DY⟩)
theorem i_vc_programs {k : Nat} {u : SX} {v : SY} (I : i_Rel k u v) (hk : k + 2 ≤ 1024) (v1 : Int32) : wpX_programs (fun r u' => wpY_programs (fun r' v' => r' = r ∧ i_Rel (k + 2) u' v') v v1) u v1 := by
  obtain ⟨fe, rl, iA, iL, oA, oL, gA, gL, cA, fA⟩ := u
  obtain ⟨fe', fd, jA, pA, jL, pL, mA, rA, sA⟩ := v
  obtain ⟨d, e, he, h1, h2, DX, DY⟩ := I
  dsimp only at h1 h2 DX DY
  subst h1 h2
  unfold wpX_programs wpY_programs
  dsimp only
  have R := fun gA' gL' cA' fd' mA' rA' => ex_rel (k := k + 2) (rl := rl) (gA := gA') (gL := gL') (cA := cA') (fA := fA) (fd := fd') (mA := mA') (rA := rA') (sA := sA) he DX DY
  rcases pk_ix v1 (n := 4) (by decide) with h | h | ⟨c, hc, rfl⟩
  · have h1 : v1 < 1 := Int32.lt_trans h (by decide)
    exact br_t h1 (br_t h1 ⟨rfl, R _ _ _ _ _ _⟩)
  · have h1 : ¬ v1 < 1 := Int32.not_lt.mpr (Int32.le_trans (by decide) h)
    have h3 : ¬ v1 ≤ 3 := fun h3 => absurd (Int32.le_trans h h3) (by decide)
    exact br_f h1 (br_f h3 (br_f h1 (br_f h3 ⟨rfl, R _ _ _ _ _ _⟩)))
  · by_cases h0 : c = 0
    · subst h0
      exact br_t (by decide) (br_t (by decide) ⟨rfl, R _ _ _ _ _ _⟩)
    · obtain ⟨q, rfl⟩ : ∃ q, c = q + 1 := ⟨c - 1, by omega⟩
      have h1 : ¬ nI (q + 1) < 1 := nI_nlt (b := 1) (by omega) (by omega)
      have h3 : nI (q + 1) ≤ 3 := nI_le (b := 3) (by omega) (by decide)
      refine br_f h1 (br_t h3 ?_)
      refine ex_countPrograms rfl (by omega) (ex_xd_le (by omega) DX) (fun gA' gL' cA' G C => ?_)
      have ei : nI (q + 1) * 343 = nI ((q + 1) * 343) := pk_mul _ 343
      have ec : cA' (nI (q + 1) * 343).toNatClampNeg = nI (ex_ct d e (q + 1) 0) := by
        have h5 := C (q + 1) hc 0 (Nat.succ_pos _)
        rw [Nat.add_zero] at h5
        rw [ei, nI_clamp (by omega)]
        exact h5
      refine ⟨by rw [ei]; exact vp_in_nI (by omega) (by decide), br_f h1 (br_t h3 ?_)⟩
      exact ex_search (ty := 0) rfl rfl (by omega) rfl he (by decide) DY (fun fd' mA' rA' _ => ⟨ec.symm, R _ _ _ _ _ _⟩)
theorem i_vc_atom {k : Nat} {u : SX} {v : SY} (I : i_Rel k u v) (hk : k + 2 ≤ 1024) (v1 : Int32) : wpX_atom (fun r u' => wpY_atom (fun r' v' => r' = r ∧ i_Rel (k + 2) u' v') v v1) u v1 := by
  obtain ⟨fe, rl, iA, iL, oA, oL, gA, gL, cA, fA⟩ := u
  obtain ⟨fe', fd, jA, pA, jL, pL, mA, rA, sA⟩ := v
  obtain ⟨d, e, he, h1, h2, DX, DY⟩ := I
  dsimp only at h1 h2 DX DY
  subst h1 h2
  unfold wpX_atom wpY_atom
  dsimp only
  have hl := ex_ls_le d e
  refine ex_findFirst rfl (by omega) (ex_xd_le (by omega) DX) (fun h0 gA' gL' cA' => ?_) (fun h0 gA' gL' cA' fA' hf => ?_)
  · refine br_c (fun _ => ?_) (fun hn => br_f (fun h3 => hn (Int32.lt_trans h3 (by decide))) ?_)
    · exact ex_yleast rfl he DY (fun _ _ _ _ => br_t (by decide) ⟨rfl, ex_rel he DX DY⟩) (fun h _ _ _ _ => absurd h0 h)
    · exact ex_yleast rfl he DY (fun _ _ _ _ => br_t (by decide) ⟨rfl, ex_rel he DX DY⟩) (fun h _ _ _ _ => absurd h0 h)
  · rcases pk_ix v1 (n := ex_ls d e) (by omega) with h | h | ⟨c, hc, rfl⟩
    · refine br_t h ?_
      exact ex_yleast rfl he DY (fun h _ _ _ => absurd h h0) (fun _ _ _ _ _ => br_f (nI_pos (by omega)) (br_t h ⟨rfl, ex_rel he DX DY⟩))
    · refine br_f (ex_nneg (by omega) h) (br_f (ex_nlt h) ?_)
      exact ex_yleast rfl he DY (fun h _ _ _ => absurd h h0) (fun _ _ _ _ _ => br_f (nI_pos (by omega)) (br_f (ex_nneg (by omega) h) (br_f (ex_nlt h) ⟨rfl, ex_rel he DX DY⟩)))
    · have hin : vp_in (nI c) 3 := vp_in_nI (by omega) (by decide)
      have hcl : (nI c).toNatClampNeg = c := nI_clamp (by omega)
      refine br_f (nI_pos (by omega)) (br_t (nI_lt hc (by omega)) ⟨hin, ?_⟩)
      refine ex_yleast rfl he DY (fun h _ _ _ => absurd h h0) (fun _ _ _ rB hr => br_f (nI_pos (by omega)) (br_f (nI_pos (by omega)) (br_t (nI_lt hc (by omega)) ⟨hin, ?_, ex_rel he DX DY⟩)))
      show rB (nI c).toNatClampNeg = fA' (nI c).toNatClampNeg
      rw [hcl, hr c hc, hf c hc]
theorem i_vc_can {k : Nat} {u : SX} {v : SY} (I : i_Rel k u v) (hk : k + 2 ≤ 1024) : wpX_can (fun r u' => wpY_can (fun r' v' => r' = r ∧ i_Rel (k + 2) u' v') v) u := by
  obtain ⟨fe, rl, iA, iL, oA, oL, gA, gL, cA, fA⟩ := u
  obtain ⟨fe', fd, jA, pA, jL, pL, mA, rA, sA⟩ := v
  obtain ⟨d, e, he, h1, h2, DX, DY⟩ := I
  dsimp only at h1 h2 DX DY
  subst h1 h2
  unfold wpX_can wpY_can
  dsimp only
  have hb := ex_ct_b d (e + 1) (ex_ls_le d e) 0
  refine ex_xways rfl he DX (fun h0 gA' gL' cA' => ?_) (fun h0 gA' gL' cA' => ?_)
  · exact br_t (by decide) (ex_yways rfl he DY (fun _ _ _ _ => br_t (by decide) ⟨rfl, ex_rel he DX DY⟩) (fun h _ _ _ => absurd h0 h))
  · refine pk_le (ex_ct d (e + 1) (ex_ls d e) 0) 0 (fun h => ?_) (fun h => ?_)
    · exact ex_yways rfl he DY (fun h _ _ _ => absurd h h0) (fun _ _ _ _ => br_t (nI_le (b := 0) h (by decide)) ⟨rfl, ex_rel he DX DY⟩)
    · exact ex_yways rfl he DY (fun h _ _ _ => absurd h h0) (fun _ _ _ _ => br_f (nI_nle h (by omega)) ⟨rfl, ex_rel he DX DY⟩)
theorem i_vc_ways {k : Nat} {u : SX} {v : SY} (I : i_Rel k u v) (hk : k + 2 ≤ 1024) : wpX_ways (fun r u' => wpY_ways (fun r' v' => r' = r ∧ i_Rel (k + 2) u' v') v) u := by
  obtain ⟨fe, rl, iA, iL, oA, oL, gA, gL, cA, fA⟩ := u
  obtain ⟨fe', fd, jA, pA, jL, pL, mA, rA, sA⟩ := v
  obtain ⟨d, e, he, h1, h2, DX, DY⟩ := I
  dsimp only at h1 h2 DX DY
  subst h1 h2
  refine ex_xways rfl he DX (fun h0 gA' gL' cA' => ?_) (fun h0 gA' gL' cA' => ?_)
  · exact ex_yways rfl he DY (fun _ _ _ _ => ⟨rfl, ex_rel he DX DY⟩) (fun h _ _ _ => absurd h0 h)
  · exact ex_yways rfl he DY (fun h _ _ _ => absurd h h0) (fun _ _ _ _ => ⟨rfl, ex_rel he DX DY⟩)
theorem i_vc_resultLength {k : Nat} {u : SX} {v : SY} (I : i_Rel k u v) (hk : k + 2 ≤ 1024) : wpX_resultLength (fun r u' => wpY_resultLength (fun r' v' => r' = r ∧ i_Rel (k + 2) u' v') v) u := by
  obtain ⟨fe, rl, iA, iL, oA, oL, gA, gL, cA, fA⟩ := u
  obtain ⟨fe', fd, jA, pA, jL, pL, mA, rA, sA⟩ := v
  obtain ⟨d, e, he, h1, h2, DX, DY⟩ := I
  dsimp only at h1 h2 DX DY
  subst h1 h2
  unfold wpX_resultLength wpY_resultLength
  dsimp only
  have hl := ex_ls_le d e
  obtain ⟨d0, d1, d2, d3, d4⟩ := DX e (by omega)
  refine ex_findFirst rfl (by omega) (ex_xd_le (by omega) DX) (fun h0 gA' gL' cA' => ?_) (fun h0 gA' gL' cA' fA' hf => ?_)
  · dsimp only
    unfold wpX_turnIn
    dsimp only
    refine br_t rfl ?_
    exact ex_make rfl he DY (fun _ _ _ _ _ => ⟨rfl, ex_rel he DX DY⟩) (fun h => absurd h0 h)
  · dsimp only
    refine ex_turnIn (f := ex_at d e (ex_ls d e)) rfl rfl (by omega) hl d1 d2 d0 (fun i hi => ⟨hf i hi, (ex_at_p (ex_ls_p h0) hi).1⟩) (fun hn rl' gB gM => ?_) (fun q hq gB gM => ?_)
    · exact ex_make rfl he DY (fun _ _ _ _ _ => ⟨rfl, ex_rel he DX DY⟩) (fun _ q' hq' => by rw [hn] at hq'; exact nomatch hq')
    · refine ex_make rfl he DY (fun h => ?_) (fun _ q' hq' _ _ _ _ _ => ?_)
      · rcases h with h | h
        · exact absurd h h0
        · rw [hq] at h; exact nomatch h
      · rw [hq] at hq'
        cases hq'
        exact ⟨rfl, ex_rel he DX DY⟩
theorem ex_get {R i : Nat} (hR : R < 2 ^ 62) (hi : i < 18) : ((lN R >>> ((2 * nI i).toInt64 &&& 63)).toInt32) &&& 3 = nI (R / 4 ^ i % 4) := by
  have e2 : (2 : Int32) * nI i = nI (2 * i) := pk_mul 2 i
  have e3 : ((nI (2 * i)).toInt64 &&& 63) = lN (2 * i) := wb_c _ (by omega)
  rw [e2, e3, pf_shr (d := 2 * i) (by rw [wb_tb, wb_sm _ (by omega), BitVec.toNat_ofNat, Nat.mod_eq_of_lt (by omega)]) hR, lN_i, ← ex_42, pk_and _ 2 (by decide)]
  show nI (R / 4 ^ i % 2 ^ 32 % 2 ^ 2) = _
  rw [Nat.mod_mod_of_dvd _ (by decide)]
theorem i_vc_result {k : Nat} {u : SX} {v : SY} (I : i_Rel k u v) (hk : k + 2 ≤ 1024) (v1 : Int32) : wpX_result (fun r u' => wpY_result (fun r' v' => r' = r ∧ i_Rel (k + 2) u' v') v v1) u v1 := by
  obtain ⟨fe, rl, iA, iL, oA, oL, gA, gL, cA, fA⟩ := u
  obtain ⟨fe', fd, jA, pA, jL, pL, mA, rA, sA⟩ := v
  obtain ⟨d, e, he, h1, h2, DX, DY⟩ := I
  dsimp only at h1 h2 DX DY
  subst h1 h2
  unfold wpX_result wpY_result
  dsimp only
  have hl := ex_ls_le d e
  obtain ⟨d0, d1, d2, d3, d4⟩ := DX e (by omega)
  have n3 : ∀ {x : Int32}, ¬ x < 0 → ¬ x < -3 := fun hn h => hn (Int32.lt_trans h (by decide))
  have p3 : ∀ {x : Int32}, ¬ x < 0 → (-3 : Int32) ≤ x := fun hn => Int32.le_trans (by decide) (Int32.not_lt.mp hn)
  refine ex_findFirst rfl (by omega) (ex_xd_le (by omega) DX) (fun h0 gA' gL' cA' => ?_) (fun h0 gA' gL' cA' fA' hf => ?_)
  · dsimp only
    unfold wpX_turnIn
    dsimp only
    refine br_t rfl (br_c (fun hn => ?_) (fun hn => br_f (n3 hn) ?_))
    · exact ex_make rfl he DY (fun _ _ _ _ _ => br_t hn ⟨rfl, ex_rel he DX DY⟩) (fun h => absurd h0 h)
    · exact ex_make rfl he DY (fun _ _ _ _ _ => br_f hn (br_t (p3 hn) ⟨rfl, ex_rel he DX DY⟩)) (fun h => absurd h0 h)
  · dsimp only
    refine ex_turnIn (f := ex_at d e (ex_ls d e)) rfl rfl (by omega) hl d1 d2 d0 (fun i hi => ⟨hf i hi, (ex_at_p (ex_ls_p h0) hi).1⟩) (fun hn rl' gB gM => ?_) (fun q hq gB gM => ?_)
    · refine br_c (fun hv => ?_) (fun hv => br_f (n3 hv) ?_)
      · exact ex_make rfl he DY (fun _ _ _ _ _ => br_t hv ⟨rfl, ex_rel he DX DY⟩) (fun _ q' hq' => by rw [hn] at hq'; exact nomatch hq')
      · exact ex_make rfl he DY (fun _ _ _ _ _ => br_f hv (br_t (p3 hv) ⟨rfl, ex_rel he DX DY⟩)) (fun _ q' hq' => by rw [hn] at hq'; exact nomatch hq')
    · obtain ⟨q1, q2⟩ := ex_re_ok d0.2.1 _ _ q hq
      have no : ∀ {A : Prop}, (ex_ls d e = 0 ∨ ex_re (d e).1 (d e).2.1 (ex_at d e (ex_ls d e)) (ex_ls d e) = none) → A := fun h => by
        rcases h with h | h
        · exact absurd h h0
        · rw [hq] at h; exact nomatch h
      have h18 : q.2 ≤ 18 := by omega
      rcases pk_ix v1 (n := q.2) (by omega) with h | h | ⟨c, hc, rfl⟩
      · refine br_t h ?_
        refine ex_make rfl he DY (fun h => no h) (fun _ q' hq' _ _ _ _ _ => ?_)
        exact br_t h ⟨rfl, ex_rel he DX DY⟩
      · refine br_f (ex_nneg (by omega) h) (br_f (ex_nlt h) ?_)
        refine ex_make rfl he DY (fun h => no h) (fun _ q' hq' _ _ _ _ _ => ?_)
        rw [hq] at hq'
        cases hq'
        exact br_f (ex_nneg (by omega) h) (br_t h ⟨rfl, ex_rel he DX DY⟩)
      · refine br_f (nI_pos (by omega)) (br_t (nI_lt hc (by omega)) ?_)
        refine ex_make rfl he DY (fun h => no h) (fun _ q' hq' _ _ _ sB hs => ?_)
        rw [hq] at hq'
        cases hq'
        refine br_f (nI_pos (by omega)) (br_f (nI_ge hc (by omega)) (br_t (nI_le (b := 17) (by omega) (by decide)) ⟨vp_in_nI (by omega) (by decide), ?_, ex_rel he DX DY⟩))
        have hR : 4 ^ q.2 ≤ 4 ^ 18 := Nat.pow_le_pow_right (by decide) h18
        have h36 : 4 ^ 18 < 2 ^ 62 := by decide
        show sB (nI c).toNatClampNeg = ((lN q.1 >>> ((2 * nI c).toInt64 &&& 63)).toInt32) &&& 3
        rw [nI_clamp (by omega), hs c hc, ex_get (by omega) (by omega)]
theorem i_vc_right {k : Nat} {u : SX} {v : SY} (I : i_Rel k u v) (hk : k + 2 ≤ 1024) (v1 : Int32) : wpX_right (fun r u' => wpY_right (fun r' => r' = r ∧ i_Rel (k + 2) u' v) v v1) u v1 := by
  obtain ⟨fe, rl, iA, iL, oA, oL, gA, gL, cA, fA⟩ := u
  obtain ⟨fe', fd, jA, pA, jL, pL, mA, rA, sA⟩ := v
  obtain ⟨d, e, he, h1, h2, DX, DY⟩ := I
  dsimp only at h1 h2 DX DY
  subst h1 h2
  rcases pk_ix v1 (n := 200) (by decide) with h | h | ⟨c, hc, rfl⟩
  · unfold wpX_right wpY_right
    dsimp only
    exact br_t h (br_t h ⟨rfl, ex_rel he DX DY⟩)
  · unfold wpX_right wpY_right
    dsimp only
    have h9 : ¬ v1 ≤ 199 := fun h3 => absurd (Int32.le_trans h h3) (by decide)
    exact br_f (ex_nneg (by decide) h) (br_f (ex_nlt h) (br_f (ex_nneg (by decide) h) (br_f h9 ⟨rfl, ex_rel he DX DY⟩)))
  · refine ex_xright rfl rfl he hc (ex_xd_le (by omega) DX) (fun hs gA' gL' => ?_) (fun hs gA' gL' => ?_)
    · exact ex_yright rfl rfl he hc DY (fun _ => ⟨rfl, ex_rel he DX DY⟩) (fun h => absurd hs h)
    · exact ex_yright rfl rfl he hc DY (fun h => absurd h hs) (fun _ => ⟨rfl, ex_rel he DX DY⟩)
end
