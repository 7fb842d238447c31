def ex_pI : Nat → Int32
  | 0 => -1
  | k + 1 => nI k
theorem ex_ne1 {k : Nat} (h : k < 2 ^ 31) : ¬ nI k = -1 := fun e => by
  have h1 := nI_pos h
  rw [e] at h1
  exact h1 (by decide)
theorem ex_placeOf {post : Int32 → Prop} {x y : Int32} (q l : Nat) (hx : x = nI q) (hy : y = nI l) (hq : q < 14) (hl : l ≤ 6) (h : post (ex_pI (ex_pl q l))) : wpX_placeOf post x y := by
  subst hx hy
  unfold wpX_placeOf
  unfold ex_pl at h
  refine pk_lt q 7 (fun h7 => ?_) (fun h7 => ?_)
  · rw [if_pos h7] at h
    refine pk_lt l q (fun h8 => ?_) (fun h8 => ?_)
    · rw [if_neg (by omega)] at h; exact h
    · rw [if_pos h8] at h; exact h
  · rw [if_neg (by omega)] at h
    refine nm_r (pk_sub (b := 7) h7) ?_
    refine pk_lt l (q - 7) (fun h8 => ?_) (fun h8 => ?_)
    · rw [if_neg (by omega)] at h; exact h
    · rw [if_pos h8] at h; rw [pk_sub h8]; exact h
theorem ex_42 (k : Nat) : 4 ^ k = 2 ^ (2 * k) := (Nat.pow_mul 2 2 k).symm
theorem ex_4k {k : Nat} (hk : k ≤ 6) : 4 ^ k ≤ 4096 := Nat.pow_le_pow_right (n := 4) (by decide) hk
theorem ex_slice {post : Int32 → Prop} {x y z : Int32} (n p k : Nat) (hx : x = nI n) (hy : y = nI p) (hz : z = nI k) (hn : n < 4096) (hp : p ≤ 6) (hk : k ≤ 6) (h : post (nI (n / 4 ^ p % 4 ^ k))) : wpX_slice post x y z := by
  subst hx hy hz
  have b1 := ex_4k hk
  have b0 : 0 < 4 ^ k := Nat.pow_pos (by decide)
  have e1 : (2 : Int32) * nI k = nI (2 * k) := pk_mul 2 k
  have e2 : (2 : Int32) * nI p = nI (2 * p) := pk_mul 2 p
  have e3 : (1 : Int32) <<< (nI (2 * k) &&& 31) = nI (4 ^ k) := by
    have h1 := pk_shlN (n := 1) (nI (2 * k) &&& 31) (2 * k) (s_l _ (by omega)) (by rw [← ex_42]; omega)
    rw [← ex_42, Nat.one_mul] at h1
    exact h1
  unfold wpX_slice
  rw [e1, e2, e3]
  refine nm_r (pk_sub (b := 1) b0) ?_
  rw [pk_shrN (by omega) (nI (2 * p) &&& 31) (2 * p) (s_l _ (by omega)), ← ex_42]
  have h3 : n / 4 ^ p ≤ n := Nat.div_le_self _ _
  rw [pk_andN (n := n / 4 ^ p) (by omega) (2 * k) (by rw [pk_tn (by omega), ← ex_42]), ← ex_42]
  exact h
def ex_fl (p : ex_P) (j c : Nat) (gA gL : Nat → Int32) : Prop := ∀ a, a < c → gA (j * 200 + a) = nI (ex_gn p.1 p.2.1 a) ∧ gL (j * 200 + a) = nI (ex_gl p.2.1 a)
def ex_kp (j : Nat) (gA gL gA' gL' : Nat → Int32) : Prop := ∀ i, (i < j * 200 ∨ j * 200 + 200 ≤ i) → gA' i = gA i ∧ gL' i = gL i
theorem ex_fl_s {p : ex_P} {j c : Nat} {gA gL : Nat → Int32} (h : ex_fl p j c gA gL) : ex_fl p j (c + 1) (upd gA (j * 200 + c) (nI (ex_gn p.1 p.2.1 c))) (upd gL (j * 200 + c) (nI (ex_gl p.2.1 c))) := by
  intro a ha
  by_cases e : a = c
  · rw [e]; exact ⟨pk_us, pk_us⟩
  · rw [pk_un (by omega), pk_un (by omega)]; exact h a (by omega)
theorem ex_kp_r {j : Nat} {gA gL : Nat → Int32} : ex_kp j gA gL gA gL := fun _ _ => ⟨rfl, rfl⟩
theorem ex_kp_s {j c : Nat} {x y : Int32} {gA gL gA' gL' : Nat → Int32} (hc : c < 200) (h : ex_kp j (upd gA (j * 200 + c) x) (upd gL (j * 200 + c) y) gA' gL') : ex_kp j gA gL gA' gL' := by
  intro i hi
  have h1 := h i hi
  rw [pk_un (by omega), pk_un (by omega)] at h1
  exact h1
section
variable {fe : Int32} {rl : Int64} {iA iL oA oL gA gL cA fA : Nat → Int32}
theorem ex_g151 {post : SX → Prop} {J : Int32 → (Nat → Int32) → (Nat → Int32) → (Nat → Int32) → (Nat → Int32) → (Nat → Int32) → (Nat → Int32) → (Nat → Int32) → (Nat → Int32) → Prop} {x1 : Int32} {j a : Nat} {x7 z0 : Int32} (hj : j < 3) (ha : a < 200)
    (h : J (nI (a + 1)) iA iL oA oL (upd gA (j * 200 + a) z0) (upd gL (j * 200 + a) x7) cA fA) :
    wX_giveOnPair_151 post J x1 (nI (j * 200)) (nI a) x7 z0 (nI (j * 200) + nI a) fe rl iA iL oA oL gA gL cA fA := by
  unfold wX_giveOnPair_151
  rw [nI_add, nI_clamp (by omega)]
  exact ⟨vp_in_nI (by omega) (by omega), nm_e ⟨vp_in_nI (by omega) (by omega), nm_e (nm_r (nI_1 a) h)⟩⟩
theorem ex_g103 {post : SX → Prop} {J : Int32 → (Nat → Int32) → (Nat → Int32) → (Nat → Int32) → (Nat → Int32) → (Nat → Int32) → (Nat → Int32) → (Nat → Int32) → (Nat → Int32) → Prop} {x1 x4 x5 : Int32} {j a : Nat} (hj : j < 3) (ha : a < 200)
    (h : J (nI (a + 1)) iA iL oA oL (upd gA (j * 200 + a) 0) (upd gL (j * 200 + a) 0) cA fA) :
    wX_giveOnPair_103 post J x1 (nI (j * 200)) (nI a) x4 x5 fe rl iA iL oA oL gA gL cA fA := by
  unfold wX_giveOnPair_103 wX_giveOnPair_104
  refine br_t rfl ?_
  unfold wX_giveOnPair_120
  exact br_t rfl (ex_g151 hj ha h)
theorem ex_g104 {post : SX → Prop} {J : Int32 → (Nat → Int32) → (Nat → Int32) → (Nat → Int32) → (Nat → Int32) → (Nat → Int32) → (Nat → Int32) → (Nat → Int32) → (Nat → Int32) → Prop} {j a f t n : Nat} (hj : j < 3) (ha : a < 200) (hn : n < 4096) (hi : iA j = nI n) (hf : f < t) (ht : t ≤ 6)
    (h : J (nI (a + 1)) iA iL oA oL (upd gA (j * 200 + a) (nI (n / 4 ^ f % 4 ^ (t - f)))) (upd gL (j * 200 + a) (nI (t - f))) cA fA) :
    wX_giveOnPair_104 post J (nI j) (nI (j * 200)) (nI a) (nI f) (nI t) 1 fe rl iA iL oA oL gA gL cA fA := by
  unfold wX_giveOnPair_104
  refine br_f (by decide) ?_
  rw [pk_sub (by omega)]
  unfold wX_giveOnPair_120
  refine br_f (by decide) ⟨vp_in_nI hj (by omega), ?_⟩
  exact ex_slice n f (t - f) (by rw [nI_clamp (by omega)]; exact hi) rfl rfl hn (by omega) (by omega) (ex_g151 hj ha h)
theorem ex_g39 {post : SX → Prop} {j : Nat} {p : ex_P} (hj : j < 3) (hiA : iA j = nI p.1) (hiL : iL j = nI p.2.1) (hok : ex_ok p) : ∀ (r a : Nat) (gA gL : Nat → Int32), a + r = 200 → 4 ≤ a → ex_fl p j a gA gL →
    (∀ gA' gL', ex_fl p j 200 gA' gL' → ex_kp j gA gL gA' gL' → post (fe, rl, iA, iL, oA, oL, gA', gL', cA, fA)) →
    wX_giveOnPair_39 post (nI j) (nI (j * 200)) fe rl (r + 1) (nI a) iA iL oA oL gA gL cA fA := by
  intro r
  induction r with
  | zero =>
    intro a gA gL ha h4 hf H
    have e : a = 200 := by omega
    subst e
    exact br_t (nI_le (a := 200) (b := 200) (by decide) (by decide)) (H gA gL hf ex_kp_r)
  | succ r ih =>
    intro a gA gL ha h4 hf H
    have hJ := ih (a + 1) _ _ (by omega) (by omega) (ex_fl_s hf) (fun gA' gL' h1 h2 => H gA' gL' h1 (ex_kp_s (by omega) h2))
    have hcl : (nI j).toNatClampNeg = j := nI_clamp (by omega)
    have e4 : nI a - 4 = nI (a - 4) := pk_sub (b := 4) h4
    have hin : vp_in (nI j) 3 := vp_in_nI hj (by omega)
    have hl6 : p.2.1 ≤ 6 := hok.2.1
    have hn6 : p.1 < 4096 := Nat.lt_of_lt_of_le hok.1 (ex_4k hl6)
    have ea : ¬ a < 4 := by omega
    have hpl := ex_pl_le ((a - 4) / 14) p.2.1
    have hql := ex_pl_le ((a - 4) % 14) p.2.1
    refine br_f (nI_ge (b := 200) (by omega) (by decide)) ⟨by decide, hin, ?_⟩
    refine ex_placeOf ((a - 4) / 14) p.2.1 (by rw [e4]; exact pk_div (d := 14) (by omega) (by omega) (by omega)) (by rw [hcl]; exact hiL) (by omega) hl6 ?_
    refine ⟨by decide, hin, ?_⟩
    refine ex_placeOf ((a - 4) % 14) p.2.1 (by rw [e4]; exact pk_rem (d := 14) (by omega) (by omega) (by omega)) (by rw [hcl]; exact hiL) (by omega) hl6 ?_
    have hgl : ex_gl p.2.1 a = if ex_pl ((a - 4) / 14) p.2.1 = 0 then 0 else ex_pl ((a - 4) % 14) p.2.1 - ex_pl ((a - 4) / 14) p.2.1 := by unfold ex_gl; rw [if_neg ea]
    have hgn : ex_gn p.1 p.2.1 a = if ex_gl p.2.1 a = 0 then 0 else p.1 / 4 ^ (ex_pl ((a - 4) / 14) p.2.1 - 1) % 4 ^ (ex_gl p.2.1 a) := by unfold ex_gn; rw [if_neg ea]
    rw [hgn, hgl] at hJ
    generalize ex_pl ((a - 4) / 14) p.2.1 = P at *
    generalize ex_pl ((a - 4) % 14) p.2.1 = Q at *
    cases P with
    | zero => exact br_t rfl (ex_g103 hj (by omega) hJ)
    | succ f =>
      refine br_f (ex_ne1 (by omega)) ?_
      rw [if_neg (show ¬ f + 1 = 0 by omega)] at hJ
      cases Q with
      | zero =>
        rw [show 0 - (f + 1) = 0 by omega] at hJ
        exact br_t rfl (ex_g103 hj (by omega) hJ)
      | succ t =>
        refine br_f (ex_ne1 (by omega)) ?_
        refine pk_le t f (fun h => ?_) (fun h => ?_)
        · rw [show t + 1 - (f + 1) = 0 by omega] at hJ
          exact ex_g103 hj (by omega) hJ
        · rw [if_neg (show ¬ t + 1 - (f + 1) = 0 by omega), show t + 1 - (f + 1) = t - f by omega, show f + 1 - 1 = f by omega] at hJ
          exact ex_g104 hj (by omega) hn6 hiA h (by omega) hJ
theorem ex_g8 {post : SX → Prop} {j : Nat} {p : ex_P} (hj : j < 3) (hiA : iA j = nI p.1) (hiL : iL j = nI p.2.1) (hok : ex_ok p) : ∀ (r a : Nat) (gA gL : Nat → Int32), a + r = 4 → ex_fl p j a gA gL →
    (∀ gA' gL', ex_fl p j 200 gA' gL' → ex_kp j gA gL gA' gL' → post (fe, rl, iA, iL, oA, oL, gA', gL', cA, fA)) →
    wX_giveOnPair_8 post (nI j) (nI (j * 200)) fe rl (r + 1) (nI a) iA iL oA oL gA gL cA fA := by
  intro r
  induction r with
  | zero =>
    intro a gA gL ha hf H
    have e : a = 4 := by omega
    subst e
    exact br_t (nI_le (a := 4) (b := 4) (by decide) (by decide)) ⟨197, ex_g39 hj hiA hiL hok 196 4 gA gL rfl (by omega) hf H⟩
  | succ r ih =>
    intro a gA gL ha hf H
    have hJ := ih (a + 1) _ _ (by omega) (ex_fl_s hf) (fun gA' gL' h1 h2 => H gA' gL' h1 (ex_kp_s (by omega) h2))
    have e1 : ex_gl p.2.1 a = 1 := by unfold ex_gl; rw [if_pos (by omega)]
    have e2 : ex_gn p.1 p.2.1 a = a := by unfold ex_gn; rw [if_pos (by omega)]
    rw [e1, e2] at hJ
    have ei : nI (j * 200) + nI a = nI (j * 200 + a) := nI_add _ _
    have ec : (nI (j * 200) + nI a).toNatClampNeg = j * 200 + a := by rw [ei]; exact nI_clamp (by omega)
    have hin : vp_in (nI (j * 200) + nI a) 600 := by rw [ei]; exact vp_in_nI (by omega) (by omega)
    refine br_f (nI_ge (b := 4) (by omega) (by decide)) ⟨hin, ?_⟩
    refine nm_e ⟨hin, nm_e (nm_r (nI_1 a) ?_)⟩
    rw [ec]
    exact hJ
theorem ex_giveOnPair {post : SX → Prop} {j : Nat} {p : ex_P} {x : Int32} (hx : x = nI j) (hj : j < 3) (hiA : iA j = nI p.1) (hiL : iL j = nI p.2.1) (hok : ex_ok p)
    (H : ∀ gA' gL', ex_fl p j 200 gA' gL' → ex_kp j gA gL gA' gL' → post (fe, rl, iA, iL, oA, oL, gA', gL', cA, fA)) :
    wpX_giveOnPair post (fe, rl, iA, iL, oA, oL, gA, gL, cA, fA) x := by
  subst hx
  unfold wpX_giveOnPair
  dsimp only
  exact nm_r (pk_mul j 200) ⟨5, ex_g8 hj hiA hiL hok 4 0 gA gL rfl (fun a h => absurd h (Nat.not_lt_zero a)) H⟩
def ex_xd (d : Nat → ex_P) (m : Nat) (iA iL oA oL : Nat → Int32) : Prop := ∀ j, j < m → ex_ok (d j) ∧ iA j = nI (d j).1 ∧ iL j = nI (d j).2.1 ∧ oA j = nI (d j).2.2.1 ∧ oL j = nI (d j).2.2.2
def ex_gv (d : Nat → ex_P) (m : Nat) (gA gL : Nat → Int32) : Prop := ∀ j, j < m → ex_fl (d j) j 200 gA gL
theorem ex_gv_s {d : Nat → ex_P} {m : Nat} {gA' gL' : Nat → Int32} (h : ex_gv d m gA gL) (h1 : ex_fl (d m) m 200 gA' gL') (h2 : ex_kp m gA gL gA' gL') : ex_gv d (m + 1) gA' gL' := by
  intro j hj
  by_cases e : j = m
  · rw [e]; exact h1
  · intro a ha
    have h3 := h2 (j * 200 + a) (by omega)
    rw [h3.1, h3.2]
    exact h j (by omega) a ha
theorem ex_gs2 {post : SX → Prop} {d : Nat → ex_P} {m : Nat} (hm : m ≤ 3) (D : ex_xd d m iA iL oA oL) : ∀ (r j : Nat) (gA gL : Nat → Int32), j + r = m → ex_gv d j gA gL →
    (∀ gA' gL', ex_gv d m gA' gL' → post (fe, rl, iA, iL, oA, oL, gA', gL', cA, fA)) →
    wX_giveOnPairs_2 post (nI m) (r + 1) (nI j) fe rl iA iL oA oL gA gL cA fA := by
  intro r
  induction r with
  | zero =>
    intro j gA gL hj hg H
    have e : j = m := by omega
    subst e
    exact br_t (nI_le (by omega) (by omega)) (H gA gL hg)
  | succ r ih =>
    intro j gA gL hj hg H
    obtain ⟨d0, d1, d2, _, _⟩ := D j (by omega)
    refine br_f (nI_ge (by omega) (by omega)) ?_
    exact ex_giveOnPair rfl (by omega) d1 d2 d0 (fun gA' gL' h1 h2 => nm_r (nI_1 j) (ih (j + 1) gA' gL' (by omega) (ex_gv_s hg h1 h2) H))
theorem ex_giveOnPairs {post : SX → Prop} {d : Nat → ex_P} {m : Nat} {x : Int32} (hx : x = nI m) (hm : m ≤ 3) (D : ex_xd d m iA iL oA oL)
    (H : ∀ gA' gL', ex_gv d m gA' gL' → post (fe, rl, iA, iL, oA, oL, gA', gL', cA, fA)) :
    wpX_giveOnPairs post (fe, rl, iA, iL, oA, oL, gA, gL, cA, fA) x := by
  subst hx
  unfold wpX_giveOnPairs
  dsimp only
  exact ⟨m + 1, ex_gs2 hm D m 0 gA gL (by omega) (fun j h => absurd h (Nat.not_lt_zero j)) H⟩
theorem ex_gs7 {post : Int32 → Prop} {d : Nat → ex_P} {m : Nat} (hm : m ≤ 3) (D : ex_xd d m iA iL oA oL) : ∀ (r j g un : Nat), j + r = m → post (nI (g + un * ex_go d r j)) →
    wX_goalState_7 post (nI m) fe rl iA iL oA oL gA gL cA fA (r + 1) (nI g) (nI un) (nI j) := by
  intro r
  induction r with
  | zero =>
    intro j g un hj H
    have e : j = m := by omega
    subst e
    exact br_t (nI_le (by omega) (by omega)) H
  | succ r ih =>
    intro j g un hj H
    obtain ⟨d0, d1, d2, d3, d4⟩ := D j (by omega)
    refine br_f (nI_ge (by omega) (by omega)) ⟨vp_in_nI (by omega) (by omega), ?_⟩
    refine nm_r (e' := nI (g + un * (d j).2.2.2)) (by rw [nI_clamp (by omega), d4, pk_mul, nI_add]) ?_
    refine nm_r (pk_mul un 7) (nm_r (nI_1 j) ?_)
    refine ih (j + 1) _ _ (by omega) ?_
    have e : g + un * (d j).2.2.2 + un * 7 * ex_go d r (j + 1) = g + un * ex_go d (r + 1) j := by
      show _ = g + un * ((d j).2.2.2 + 7 * ex_go d r (j + 1))
      rw [Nat.mul_add, Nat.mul_assoc, Nat.add_assoc]
    rw [e]
    exact H
theorem ex_goalState {post : Int32 → Prop} {d : Nat → ex_P} {m : Nat} {x : Int32} (hx : x = nI m) (hm : m ≤ 3) (D : ex_xd d m iA iL oA oL) (H : post (nI (ex_go d m 0))) :
    wpX_goalState post (fe, rl, iA, iL, oA, oL, gA, gL, cA, fA) x := by
  subst hx
  unfold wpX_goalState
  dsimp only
  refine ⟨m + 1, ex_gs7 hm D m 0 0 1 (by omega) ?_⟩
  rw [Nat.one_mul, Nat.zero_add]
  exact H
def ex_aR (g un : Nat) : Option Nat → Int32
  | none => -1
  | some t => nI (g + un * t)
theorem ex_ad12 {post : Int32 → Prop} {d : Nat → ex_P} {m a : Nat} (hm : m ≤ 3) (ha : a < 200) (D : ex_xd d m iA iL oA oL) (G : ex_gv d m gA gL) : ∀ (r j g un s : Nat), j + r = m → s < 2 ^ 31 → post (ex_aR g un (ex_sp d r j a s)) →
    wX_advance_12 post (nI a) (nI m) fe rl iA iL oA oL gA gL cA fA (r + 1) (nI g) (nI un) (nI s) (nI j) := by
  intro r
  induction r with
  | zero =>
    intro j g un s hj hs H
    have e : j = m := by omega
    subst e
    exact br_t (nI_le (by omega) (by omega)) H
  | succ r ih =>
    intro j g un s hj hs H
    obtain ⟨d0, d1, d2, d3, d4⟩ := D j (by omega)
    obtain ⟨g1, g2⟩ := G j (by omega) a ha
    have ei : nI j * 200 + nI a = nI (j * 200 + a) := by rw [← nI_add, ← pk_mul]; rfl
    have ec : (nI j * 200 + nI a).toNatClampNeg = j * 200 + a := by rw [ei]; exact nI_clamp (by omega)
    have hin : vp_in (nI j * 200 + nI a) 600 := by rw [ei]; exact vp_in_nI (by omega) (by omega)
    have hj3 : vp_in (nI j) 3 := vp_in_nI (by omega) (by omega)
    have cj : (nI j).toNatClampNeg = j := nI_clamp (by omega)
    have hg6 := ex_gl_le (d j).2.1 a d0.2.1
    have ho6 := d0.2.2.2
    have hn6 : (d j).2.2.1 < 4096 := Nat.lt_of_lt_of_le d0.2.2.1 (ex_4k ho6)
    have hgn := ex_gn_lt (d j).1 (d j).2.1 a
    have hk4 := ex_4k hg6
    have esp : ex_sp d (r + 1) j a s = match ex_a1 (d j) a (s % 7) with | none => none | some t => match ex_sp d r (j + 1) a (s / 7) with | none => none | some q => some (t + 7 * q) := rfl
    refine br_f (nI_ge (by omega) (by omega)) ⟨by decide, ?_⟩
    refine nm_r (pk_rem (d := 7) hs (by omega) (by omega)) ⟨hin, ?_⟩
    refine nm_r (e' := nI (ex_gl (d j).2.1 a)) (by rw [ec]; exact g2) ?_
    unfold ex_a1 at esp
    refine pk_eq (ex_gl (d j).2.1 a) 0 (fun h0 => ?_) (fun h0 => ⟨hj3, ?_⟩)
    · rw [if_pos h0] at esp; rw [esp] at H; exact H
    rw [if_neg h0] at esp
    refine pk_le (s % 7 + ex_gl (d j).2.1 a) (d j).2.2.2 (fun h1 => ⟨hj3, ?_⟩) (fun h1 => ?_) (nI_add _ _) (by rw [cj]; exact d4)
    · rw [if_pos h1] at esp
      refine ex_slice (d j).2.2.1 (s % 7) (ex_gl (d j).2.1 a) (by rw [cj]; exact d3) rfl rfl hn6 (by omega) hg6 ⟨hin, ?_⟩
      have hb : (d j).2.2.1 / 4 ^ (s % 7) % 4 ^ ex_gl (d j).2.1 a < 4 ^ ex_gl (d j).2.1 a := Nat.mod_lt _ (Nat.pow_pos (by decide))
      refine pk_eq _ (ex_gn (d j).1 (d j).2.1 a) (fun h2 => ?_) (fun h2 => ?_) rfl (by rw [ec]; exact g1) (by omega) (by omega)
      · rw [if_pos h2] at esp
        refine nm_r (e' := nI (g + un * (s % 7 + ex_gl (d j).2.1 a))) (by rw [nI_add, pk_mul, nI_add]) ?_
        refine nm_r (pk_mul un 7) ⟨by decide, ?_⟩
        refine nm_r (pk_div (d := 7) hs (by omega) (by omega)) (nm_r (nI_1 j) ?_)
        refine ih (j + 1) _ _ _ (by omega) (by omega) ?_
        rw [esp] at H
        cases hq : ex_sp d r (j + 1) a (s / 7) with
        | none => rw [hq] at H; exact H
        | some q =>
          rw [hq] at H
          have e : g + un * (s % 7 + ex_gl (d j).2.1 a) + un * 7 * q = g + un * (s % 7 + ex_gl (d j).2.1 a + 7 * q) := by
            rw [Nat.mul_add un _ (7 * q), Nat.mul_assoc, Nat.add_assoc]
          show post (nI _)
          rw [e]
          exact H
      · rw [if_neg h2] at esp; rw [esp] at H; exact H
    · rw [if_neg (by omega)] at esp; rw [esp] at H; exact H
theorem ex_advance {post : Int32 → Prop} {d : Nat → ex_P} {m a s : Nat} {x y z : Int32} (hx : x = nI s) (hy : y = nI a) (hz : z = nI m) (hm : m ≤ 3) (ha : a < 200) (hs : s < 2 ^ 31) (D : ex_xd d m iA iL oA oL) (G : ex_gv d m gA gL) (H : post (ex_oI (ex_sp d m 0 a s))) :
    wpX_advance post (fe, rl, iA, iL, oA, oL, gA, gL, cA, fA) x y z := by
  subst hx hy hz
  unfold wpX_advance
  dsimp only
  refine ⟨m + 1, ex_ad12 hm ha D G m 0 0 1 s (by omega) hs ?_⟩
  cases hq : ex_sp d m 0 a s with
  | none => rw [hq] at H; exact H
  | some q =>
    rw [hq] at H
    show post (nI _)
    rw [Nat.one_mul, Nat.zero_add]
    exact H
end
