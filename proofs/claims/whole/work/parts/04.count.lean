section
variable {fe : Int32} {rl : Int64} {iA iL oA oL gA gL cA fA : Nat → Int32}
theorem ex_hd {d : Nat → ex_P} {m : Nat} (D : ex_xd d m iA iL oA oL) : ∀ i, i < m → (d (0 + i)).2.2.2 ≤ 6 := fun i hi => by
  rw [Nat.zero_add]; exact (D i hi).1.2.2.2
theorem ex_go3 {d : Nat → ex_P} {m : Nat} (hm : m ≤ 3) (D : ex_xd d m iA iL oA oL) : ex_go d m 0 < 343 :=
  Nat.lt_of_lt_of_le (ex_go_dig d m 0 (ex_hd D)).1 (Nat.pow_le_pow_right (n := 7) (by decide) hm)
def ex_cp (d : Nat → ex_P) (m k c : Nat) (cA : Nat → Int32) : Prop := ∀ s, s < c → cA (k * 343 + s) = nI (ex_ct d m k s)
theorem ex_ix {k t : Nat} : (nI (k + 1) - 1) * 343 + nI t = nI (k * 343 + t) := by
  rw [nI_pred, ← nI_add, ← pk_mul]; rfl
theorem ex_ix2 {k t : Nat} : nI k * 343 + nI t = nI (k * 343 + t) := by
  rw [← nI_add, ← pk_mul]; rfl
theorem ex_cf6 {post : Int32 → Prop} {d : Nat → ex_P} {m k s : Nat} (hm : m ≤ 3) (hk : k ≤ 2) (hs : s < 2 ^ 31) (D : ex_xd d m iA iL oA oL) (G : ex_gv d m gA gL) (C : ex_cp d m k (ex_go d m 0 + 1) cA) (H : post (nI (ex_ct d m (k + 1) s))) : ∀ (r a : Nat), a + r = 200 →
    wX_countFrom_6 post (nI s) (nI (k + 1)) (nI m) fe rl iA iL oA oL gA gL cA fA (r + 1) (nI (ex_sm (ex_tm d m k s) a)) (nI a) := by
  intro r
  induction r with
  | zero =>
    intro a ha
    have e : a = 200 := by omega
    subst e
    exact br_t (nI_le (a := 200) (b := 200) (by decide) (by decide)) H
  | succ r ih =>
    intro a ha
    have h1 := ih (a + 1) (by omega)
    refine br_f (nI_ge (b := 200) (by omega) (by decide)) ?_
    refine ex_advance rfl rfl rfl hm (by omega) hs D G ?_
    cases hq : ex_sp d m 0 a s with
    | none =>
      have e : ex_sm (ex_tm d m k s) (a + 1) = ex_sm (ex_tm d m k s) a := by
        show ex_sm _ a + ex_tm d m k s a = _; rw [ex_tm_n hq]; rfl
      rw [e] at h1
      exact br_t rfl (nm_r (nI_1 a) h1)
    | some t =>
      have hg := ex_go3 hm D
      have ht := (ex_sp_some d m 0 a s t (ex_hd D) hq).1
      have e : ex_sm (ex_tm d m k s) (a + 1) = ex_sm (ex_tm d m k s) a + ex_ct d m k t := by
        show ex_sm _ a + ex_tm d m k s a = _; rw [ex_tm_s hq]
      rw [e] at h1
      refine br_f (ex_ne1 (by omega)) ⟨?_, ?_⟩
      · show vp_in ((nI (k + 1) - 1) * 343 + nI t) 1372
        rw [ex_ix]; exact vp_in_nI (by omega) (by omega)
      · refine nm_r (e' := nI (ex_sm (ex_tm d m k s) a + ex_ct d m k t)) ?_ (nm_r (nI_1 a) h1)
        show _ + cA ((nI (k + 1) - 1) * 343 + nI t).toNatClampNeg = _
        rw [ex_ix, nI_clamp (by omega), C t (by omega), nI_add]
theorem ex_countFrom {post : Int32 → Prop} {d : Nat → ex_P} {m k s : Nat} {x y z : Int32} (hx : x = nI s) (hy : y = nI (k + 1)) (hz : z = nI m) (hm : m ≤ 3) (hk : k ≤ 2) (hs : s < 2 ^ 31) (D : ex_xd d m iA iL oA oL) (G : ex_gv d m gA gL) (C : ex_cp d m k (ex_go d m 0 + 1) cA) (H : post (nI (ex_ct d m (k + 1) s))) :
    wpX_countFrom post (fe, rl, iA, iL, oA, oL, gA, gL, cA, fA) x y z := by
  subst hx hy hz
  unfold wpX_countFrom
  dsimp only
  exact ⟨201, ex_cf6 hm hk hs D G C H 200 0 rfl⟩
theorem ex_cp_u {d : Nat → ex_P} {m k c K s : Nat} {v : Int32} (hk : k < K) (hc : c ≤ 343) (h : ex_cp d m k c cA) : ex_cp d m k c (upd cA (K * 343 + s) v) := by
  intro t ht
  rw [pk_un (by omega)]
  exact h t ht
theorem ex_cp_s {d : Nat → ex_P} {m K s : Nat} (h : ex_cp d m K s cA) : ex_cp d m K (s + 1) (upd cA (K * 343 + s) (nI (ex_ct d m K s))) := by
  intro t ht
  by_cases e : t = s
  · rw [e]; exact pk_us
  · rw [pk_un (by omega)]; exact h t (by omega)
theorem ex_c50 {post : SX → Prop} {J : Int32 → (Nat → Int32) → (Nat → Int32) → (Nat → Int32) → (Nat → Int32) → (Nat → Int32) → (Nat → Int32) → (Nat → Int32) → (Nat → Int32) → Prop} {d : Nat → ex_P} {m k : Nat} (hm : m ≤ 3) (hk : k ≤ 2) (D : ex_xd d m iA iL oA oL) (G : ex_gv d m gA gL) : ∀ (r s : Nat) (cA : Nat → Int32), s + r = ex_go d m 0 + 1 → (∀ i, i < k + 1 → ex_cp d m i (ex_go d m 0 + 1) cA) → ex_cp d m (k + 1) s cA →
    (∀ cA', (∀ i, i < k + 2 → ex_cp d m i (ex_go d m 0 + 1) cA') → J (nI (k + 2)) iA iL oA oL gA gL cA' fA) →
    wX_countPrograms_50 post J (nI m) (nI (ex_go d m 0)) (nI (k + 1)) fe rl (r + 1) (nI s) iA iL oA oL gA gL cA fA := by
  intro r
  have hg := ex_go3 hm D
  induction r with
  | zero =>
    intro s cA hs hi hp H
    have e : s = ex_go d m 0 + 1 := by omega
    refine br_t (nI_lt (by omega) (by omega)) (nm_r (nI_1 (k + 1)) (H cA (fun i hi' => ?_)))
    by_cases ei : i = k + 1
    · rw [ei, ← e]; exact hp
    · exact hi i (by omega)
  | succ r ih =>
    intro s cA hs hi hp H
    refine br_f (nI_nlt (by omega) (by omega)) ?_
    refine ex_countFrom rfl rfl rfl hm hk (by omega) D G (hi k (by omega)) ⟨?_, ?_⟩
    · rw [ex_ix2]; exact vp_in_nI (by omega) (by omega)
    · refine nm_r (e' := upd cA ((k + 1) * 343 + s) (nI (ex_ct d m (k + 1) s))) (by rw [ex_ix2, nI_clamp (by omega)]) (nm_r (nI_1 s) ?_)
      exact ih (s + 1) _ (by omega) (fun i hi' => ex_cp_u hi' (by omega) (hi i hi')) (ex_cp_s hp) H
theorem ex_c42 {post : SX → Prop} {d : Nat → ex_P} {m : Nat} (hm : m ≤ 3) (D : ex_xd d m iA iL oA oL) (G : ex_gv d m gA gL)
    (H : ∀ cA', (∀ i, i < 4 → ex_cp d m i (ex_go d m 0 + 1) cA') → post (fe, rl, iA, iL, oA, oL, gA, gL, cA', fA)) : ∀ (r k : Nat) (cA : Nat → Int32), k + r = 3 → (∀ i, i < k + 1 → ex_cp d m i (ex_go d m 0 + 1) cA) →
    wX_countPrograms_42 post (nI m) (nI (ex_go d m 0)) fe rl (r + 1) (nI (k + 1)) iA iL oA oL gA gL cA fA := by
  intro r
  induction r with
  | zero =>
    intro k cA hk hi
    have e : k = 3 := by omega
    subst e
    exact br_t (by decide) (H cA hi)
  | succ r ih =>
    intro k cA hk hi
    refine br_f (nI_nlt (b := k + 1) (a := 3) (by omega) (by decide)) ⟨ex_go d m 0 + 2, ?_⟩
    exact ex_c50 hm (by omega) D G (ex_go d m 0 + 1) 0 cA (by omega) hi (fun s hs => absurd hs (Nat.not_lt_zero s)) (fun cA' hc => ih (k + 1) cA' (by omega) hc)
theorem ex_c13 {post : SX → Prop} {d : Nat → ex_P} {m : Nat} (hm : m ≤ 3) (D : ex_xd d m iA iL oA oL) (G : ex_gv d m gA gL)
    (H : ∀ cA', (∀ i, i < 4 → ex_cp d m i (ex_go d m 0 + 1) cA') → post (fe, rl, iA, iL, oA, oL, gA, gL, cA', fA)) : ∀ (r s : Nat) (cA : Nat → Int32), s + r = ex_go d m 0 + 1 → ex_cp d m 0 s cA →
    wX_countPrograms_13 post (nI m) (nI (ex_go d m 0)) fe rl (r + 1) (nI s) iA iL oA oL gA gL cA fA := by
  intro r
  have hg := ex_go3 hm D
  induction r with
  | zero =>
    intro s cA hs hp
    have e : s = ex_go d m 0 + 1 := by omega
    refine br_t (nI_lt (by omega) (by omega)) ⟨4, ?_⟩
    refine ex_c42 hm D G H 3 0 cA rfl (fun i hi => ?_)
    have e0 : i = 0 := by omega
    rw [e0, ← e]
    exact hp
  | succ r ih =>
    intro s cA hs hp
    have e0 : 0 * 343 + s = s := by omega
    have h1 := ih (s + 1) _ (by omega) (ex_cp_s hp)
    rw [e0] at h1
    have hin : vp_in (nI s) 1372 := vp_in_nI (by omega) (by omega)
    have hcl : (nI s).toNatClampNeg = s := nI_clamp (by omega)
    refine br_f (nI_nlt (by omega) (by omega)) ?_
    refine pk_eq s (ex_go d m 0) (fun h => ⟨hin, ?_⟩) (fun h => ⟨hin, ?_⟩)
    · have ec : ex_ct d m 0 s = 1 := if_pos h
      rw [ec] at h1
      exact nm_r (e' := upd cA s (nI 1)) (by rw [hcl]; rfl) (nm_r (nI_1 s) h1)
    · have ec : ex_ct d m 0 s = 0 := if_neg h
      rw [ec] at h1
      exact nm_r (e' := upd cA s (nI 0)) (by rw [hcl]; rfl) (nm_r (nI_1 s) h1)
theorem ex_countPrograms {post : SX → Prop} {d : Nat → ex_P} {m : Nat} {x : Int32} (hx : x = nI m) (hm : m ≤ 3) (D : ex_xd d m iA iL oA oL)
    (H : ∀ gA' gL' cA', ex_gv d m gA' gL' → (∀ i, i < 4 → ex_cp d m i (ex_go d m 0 + 1) cA') → post (fe, rl, iA, iL, oA, oL, gA', gL', cA', fA)) :
    wpX_countPrograms post (fe, rl, iA, iL, oA, oL, gA, gL, cA, fA) x := by
  unfold wpX_countPrograms
  dsimp only
  refine ex_giveOnPairs hx hm D (fun gA' gL' G => ?_)
  dsimp only
  refine ex_goalState hx hm D ?_
  rw [hx]
  exact ⟨ex_go d m 0 + 2, ex_c13 hm D G (fun cA' hc => H gA' gL' cA' G hc) (ex_go d m 0 + 1) 0 cA (by omega) (fun s hs => absurd hs (Nat.not_lt_zero s))⟩
theorem ex_lcs {post : Int32 → Prop} {d : Nat → ex_P} {m K n : Nat} (hK : K ≤ 3) (hc : cA (K * 343) = nI (ex_ct d m K 0)) (h0 : ex_ct d m K 0 = 0 → wX_leastCounted_2 post fe rl iA iL oA oL gA gL cA fA n (nI (K + 1))) (h1 : 0 < ex_ct d m K 0 → post (nI K)) :
    wX_leastCounted_2 post fe rl iA iL oA oL gA gL cA fA (n + 1) (nI K) := by
  have e : nI K * 343 = nI (K * 343) := pk_mul K 343
  have hb := ex_ct_b d m hK 0
  refine br_f (nI_nlt (b := K) (a := 3) hK (by decide)) ⟨?_, ?_⟩
  · rw [e]; exact vp_in_nI (by omega) (by omega)
  · refine pk_le (ex_ct d m K 0) 0 (fun h => nm_r (nI_1 K) (h0 (by omega))) (fun h => h1 h) ?_ rfl
    rw [e, nI_clamp (by omega)]
    exact hc
theorem ex_leastCounted {post : Int32 → Prop} {d : Nat → ex_P} {m : Nat} (C : ∀ i, i < 4 → ex_cp d m i (ex_go d m 0 + 1) cA) (H : post (ex_lI (ex_ls d m))) :
    wpX_leastCounted post (fe, rl, iA, iL, oA, oL, gA, gL, cA, fA) := by
  unfold wpX_leastCounted
  dsimp only
  have hc : ∀ K, K < 4 → cA (K * 343) = nI (ex_ct d m K 0) := fun K hK => C K hK 0 (by omega)
  unfold ex_ls at H
  refine ⟨4, ex_lcs (K := 1) (by decide) (hc 1 (by decide)) (fun h1 => ?_) (fun h1 => ?_)⟩
  · rw [if_neg (by omega)] at H
    refine ex_lcs (K := 2) (by decide) (hc 2 (by decide)) (fun h2 => ?_) (fun h2 => ?_)
    · rw [if_neg (by omega)] at H
      refine ex_lcs (K := 3) (by decide) (hc 3 (by decide)) (fun h3 => ?_) (fun h3 => ?_)
      · rw [if_neg (by omega)] at H
        exact br_t (by decide) H
      · rw [if_pos h3] at H; exact H
    · rw [if_pos h2] at H; exact H
  · rw [if_pos h1] at H; exact H
theorem ex_fa2 {post : Int32 → Prop} {d : Nat → ex_P} {m k s : Nat} (hfe : fe = nI m) (hm : m ≤ 3) (hk : k ≤ 2) (hs : s < 2 ^ 31) (D : ex_xd d m iA iL oA oL) (G : ex_gv d m gA gL) (C : ex_cp d m k (ex_go d m 0 + 1) cA) (hp : 0 < ex_ct d m (k + 1) s) (H : post (nI (ex_fa d m k s))) : ∀ (r a : Nat), a + r = 200 → (∀ b, b < a → ex_pb d m k s b = false) →
    wX_firstAtomFrom_2 post (nI s) (nI (k + 1)) fe rl iA iL oA oL gA gL cA fA (r + 1) (nI a) := by
  intro r
  induction r with
  | zero =>
    intro a ha hb
    exfalso
    have h1 := ex_fa_p hp
    have h2 := (ex_lf_sp (ex_pb d m k s) 200).1 h1
    have h3 := hb (ex_fa d m k s) (by omega)
    exact nomatch h2.symm.trans h3
  | succ r ih =>
    intro a ha hb
    refine br_f (nI_ge (b := 200) (by omega) (by decide)) ?_
    refine ex_advance rfl rfl hfe hm (by omega) hs D G ?_
    cases hq : ex_sp d m 0 a s with
    | none =>
      have hn : ex_pb d m k s a = false := decide_eq_false (by rw [ex_tm_n hq]; decide)
      exact br_t rfl (nm_r (nI_1 a) (ih (a + 1) (by omega) (fun b hb' => by
        by_cases e : b = a
        · rw [e]; exact hn
        · exact hb b (by omega))))
    | some t =>
      have hg := ex_go3 hm D
      have ht := (ex_sp_some d m 0 a s t (ex_hd D) hq).1
      have hcb := ex_ct_b d m (show k ≤ 3 by omega) t
      refine br_f (ex_ne1 (by omega)) ⟨?_, ?_⟩
      · show vp_in ((nI (k + 1) - 1) * 343 + nI t) 1372
        rw [ex_ix]; exact vp_in_nI (by omega) (by omega)
      · refine pk_le (ex_ct d m k t) 0 (fun h => ?_) (fun h => ?_) ?_ rfl
        · have hn : ex_pb d m k s a = false := decide_eq_false (by rw [ex_tm_s hq]; omega)
          exact nm_r (nI_1 a) (ih (a + 1) (by omega) (fun b hb' => by
            by_cases e : b = a
            · rw [e]; exact hn
            · exact hb b (by omega)))
        · have hy : ex_pb d m k s a = true := decide_eq_true (by rw [ex_tm_s hq]; exact h)
          have e : ex_fa d m k s = a := ex_lf_eq (by omega) hy hb
          rw [e] at H
          exact H
        · show cA ((nI (k + 1) - 1) * 343 + nI t).toNatClampNeg = _
          rw [ex_ix, nI_clamp (by omega)]
          exact C t (by omega)
theorem ex_firstAtomFrom {post : Int32 → Prop} {d : Nat → ex_P} {m k s : Nat} {x y : Int32} (hx : x = nI s) (hy : y = nI (k + 1)) (hfe : fe = nI m) (hm : m ≤ 3) (hk : k ≤ 2) (hs : s < 2 ^ 31) (D : ex_xd d m iA iL oA oL) (G : ex_gv d m gA gL) (C : ex_cp d m k (ex_go d m 0 + 1) cA) (hp : 0 < ex_ct d m (k + 1) s) (H : post (nI (ex_fa d m k s))) :
    wpX_firstAtomFrom post (fe, rl, iA, iL, oA, oL, gA, gL, cA, fA) x y := by
  subst hx hy
  unfold wpX_firstAtomFrom
  dsimp only
  exact ⟨201, ex_fa2 hfe hm hk hs D G C hp H 200 0 rfl (fun b hb => absurd hb (Nat.not_lt_zero b))⟩
theorem ex_ff17 {post : Int32 → SX → Prop} {d : Nat → ex_P} {m k : Nat} (hfe : fe = nI m) (hm : m ≤ 3) (hk : k ≤ 3) (D : ex_xd d m iA iL oA oL) (G : ex_gv d m gA gL) (C : ∀ i, i < 4 → ex_cp d m i (ex_go d m 0 + 1) cA) (hp : 0 < ex_ct d m k 0)
    (H : ∀ fA', (∀ i, i < k → fA' i = nI (ex_at d m k i)) → post (nI k) (fe, rl, iA, iL, oA, oL, gA, gL, cA, fA')) : ∀ (r i : Nat) (fA : Nat → Int32), i + r = k → (∀ i', i' < i → fA i' = nI (ex_at d m k i')) → ex_st d m k i < 2 ^ 31 →
    wX_findFirstProgram_17 post (nI k) fe rl (r + 1) (nI (ex_st d m k i)) (nI i) iA iL oA oL gA gL cA fA := by
  intro r
  induction r with
  | zero =>
    intro i fA hi hf hs
    have e : i = k := by omega
    subst e
    exact br_t (nI_le (by omega) (by omega)) (H fA hf)
  | succ r ih =>
    intro i fA hi hf hs
    have hp1 := ex_st_p hp i (by omega)
    rw [show k - i = (k - i - 1) + 1 by omega] at hp1
    obtain ⟨ha, hsp⟩ := ex_at_p hp (show i < k by omega)
    have hg := ex_go3 hm D
    have hst := (ex_sp_some d m 0 _ _ _ (ex_hd D) hsp).1
    refine br_f (nI_ge (by omega) (by omega)) ?_
    refine ex_firstAtomFrom (k := k - i - 1) rfl (by rw [pk_sub (by omega), show k - i - 1 + 1 = k - i by omega]) hfe hm (by omega) hs D G (C _ (by omega)) hp1 ⟨vp_in_nI (by omega) (by omega), ?_⟩
    refine nm_r (e' := upd fA i (nI (ex_at d m k i))) (by rw [nI_clamp (by omega)]; rfl) ?_
    refine ex_advance (a := ex_at d m k i) rfl rfl hfe hm ha hs D G ?_
    rw [hsp]
    refine nm_r (nI_1 i) (ih (i + 1) _ (by omega) (fun i' hi' => ?_) (by omega))
    by_cases e : i' = i
    · rw [e]; exact pk_us
    · rw [pk_un e]; exact hf i' (by omega)
theorem ex_findFirst {post : Int32 → SX → Prop} {d : Nat → ex_P} {m : Nat} (hfe : fe = nI m) (hm : m ≤ 3) (D : ex_xd d m iA iL oA oL)
    (H0 : ex_ls d m = 0 → ∀ gA' gL' cA', post (-3) (fe, rl, iA, iL, oA, oL, gA', gL', cA', fA))
    (H1 : ex_ls d m ≠ 0 → ∀ gA' gL' cA' fA', (∀ i, i < ex_ls d m → fA' i = nI (ex_at d m (ex_ls d m) i)) → post (nI (ex_ls d m)) (fe, rl, iA, iL, oA, oL, gA', gL', cA', fA')) :
    wpX_findFirstProgram post (fe, rl, iA, iL, oA, oL, gA, gL, cA, fA) := by
  unfold wpX_findFirstProgram
  dsimp only
  refine ex_countPrograms hfe hm D (fun gA' gL' cA' G C => ?_)
  dsimp only
  refine ex_leastCounted C ?_
  by_cases h0 : ex_ls d m = 0
  · have e : ex_lI (ex_ls d m) = -3 := if_pos h0
    rw [e]
    exact ⟨1, br_t (by decide) (H0 h0 gA' gL' cA')⟩
  · have e : ex_lI (ex_ls d m) = nI (ex_ls d m) := if_neg h0
    rw [e]
    exact ⟨ex_ls d m + 1, ex_ff17 hfe hm (ex_ls_le d m) D G C (ex_ls_p h0) (fun fA' hf => H1 h0 gA' gL' cA' fA' hf) (ex_ls d m) 0 fA (by omega) (fun i hi => absurd hi (Nat.not_lt_zero i)) (by show 0 < _; decide)⟩
theorem ex_re_n {n l : Nat} {f : Nat → Nat} {i : Nat} (h : ex_re n l f i = none) : ∀ r, ex_re n l f (i + r) = none := by
  intro r
  induction r with
  | zero => exact h
  | succ r ih =>
    show (match ex_re n l f (i + r) with | none => none | some q => _) = none
    rw [ih]
theorem ex_re_s {n l : Nat} {f : Nat → Nat} {i : Nat} {q : Nat × Nat} (h : ex_re n l f i = some q) : ex_re n l f (i + 1) = if ex_gl l (f i) = 0 then none else some (q.1 + ex_gn n l (f i) * 4 ^ q.2, q.2 + ex_gl l (f i)) := by
  show (match ex_re n l f i with | none => none | some q => _) = _
  rw [h]
theorem ex_ti26 {post : Int32 → SX → Prop} {p : ex_P} {j k : Nat} {f : Nat → Nat} (hfe : fe = nI j) (hj : j < 3) (hk : k ≤ 3) (hok : ex_ok p) (F : ex_fl p j 200 gA gL) (hf : ∀ i, i < k → fA i = nI (f i) ∧ f i < 200)
    (H0 : ex_re p.1 p.2.1 f k = none → ∀ rl', post (-3) (fe, rl', iA, iL, oA, oL, gA, gL, cA, fA))
    (H1 : ∀ q, ex_re p.1 p.2.1 f k = some q → post (nI q.2) (fe, lN q.1, iA, iL, oA, oL, gA, gL, cA, fA)) : ∀ (r i : Nat) (q : Nat × Nat), i + r = k → ex_re p.1 p.2.1 f i = some q →
    wX_turnIn_26 post (nI k) fe iA iL oA oL gA gL cA fA (r + 1) (nI q.2) (nI i) (lN q.1) := by
  intro r
  induction r with
  | zero =>
    intro i q hi hq
    have e : i = k := by omega
    subst e
    exact br_t (nI_le (by omega) (by omega)) (H1 q hq)
  | succ r ih =>
    intro i q hi hq
    obtain ⟨hf1, hf2⟩ := hf i (by omega)
    obtain ⟨g1, g2⟩ := F (f i) hf2
    obtain ⟨q1, q2⟩ := ex_re_ok hok.2.1 f i q hq
    have hs := ex_re_s hq
    have hg6 := ex_gl_le p.2.1 (f i) hok.2.1
    have ex : fe * 200 + fA (nI i).toNatClampNeg = nI (j * 200 + f i) := by
      rw [hfe, nI_clamp (by omega), hf1, ← nI_add, ← pk_mul]; rfl
    have hcl : (nI (j * 200 + f i)).toNatClampNeg = j * 200 + f i := nI_clamp (by omega)
    have hin : vp_in (nI (j * 200 + f i)) 600 := vp_in_nI (by omega) (by omega)
    refine br_f (nI_ge (by omega) (by omega)) ⟨vp_in_nI (by omega) (by omega), ?_⟩
    refine nm_r ex ⟨hin, ?_⟩
    rw [hcl]
    refine pk_eq (ex_gl p.2.1 (f i)) 0 (fun h => ?_) (fun h => ⟨hin, ?_⟩) g2 rfl
    · rw [if_pos h] at hs
      have h2 := ex_re_n hs r
      rw [show i + 1 + r = k by omega] at h2
      exact H0 h2 _
    · rw [if_neg h] at hs
      have hgn := ex_gn_lt p.1 p.2.1 (f i)
      have hk4 := ex_4k hg6
      have e2 : (2 : Int32) * nI q.2 = nI (2 * q.2) := pk_mul 2 q.2
      have hpw := ex_pw4 q1 hgn
      have hle : 4 ^ (q.2 + ex_gl p.2.1 (f i)) ≤ 4 ^ 24 := Nat.pow_le_pow_right (by decide) (by omega)
      have h24 : 4 ^ 24 < 2 ^ 64 := by decide
      refine nm_r (e' := lN (q.1 + ex_gn p.1 p.2.1 (f i) * 4 ^ q.2)) ?_ ⟨hin, ?_⟩
      · rw [e2, g1, nI_l (by omega), wb_shl _ (by omega), ← ex_42]
        exact g_or' (k := 2 * q.2) (ex_42 q.2).symm q1 (by omega)
      · refine nm_r (e' := nI (q.2 + ex_gl p.2.1 (f i))) (by rw [g2, nI_add]) (nm_r (nI_1 i) ?_)
        exact ih (i + 1) _ (by omega) hs
theorem ex_turnIn {post : Int32 → SX → Prop} {p : ex_P} {j k : Nat} {f : Nat → Nat} {x : Int32} (hx : x = nI k) (hfe : fe = nI j) (hj : j < 3) (hk : k ≤ 3) (hiA : iA j = nI p.1) (hiL : iL j = nI p.2.1) (hok : ex_ok p) (hf : ∀ i, i < k → fA i = nI (f i) ∧ f i < 200)
    (H0 : ex_re p.1 p.2.1 f k = none → ∀ rl' gA' gL', post (-3) (fe, rl', iA, iL, oA, oL, gA', gL', cA, fA))
    (H1 : ∀ q, ex_re p.1 p.2.1 f k = some q → ∀ gA' gL', post (nI q.2) (fe, lN q.1, iA, iL, oA, oL, gA', gL', cA, fA)) :
    wpX_turnIn post (fe, rl, iA, iL, oA, oL, gA, gL, cA, fA) x := by
  subst hx
  unfold wpX_turnIn
  dsimp only
  have hn : ¬ nI k = -3 := fun e => by
    have h1 := nI_pos (n := k) (by omega)
    rw [e] at h1
    exact h1 (by decide)
  refine br_f hn ?_
  refine ex_giveOnPair hfe hj hiA hiL hok (fun gA' gL' F _ => ?_)
  dsimp only
  exact ⟨k + 1, ex_ti26 hfe hj hk hok F hf (fun h rl' => H0 h rl' gA' gL') (fun q h => H1 q h gA' gL') k 0 (0, 0) (by omega) rfl⟩
end
