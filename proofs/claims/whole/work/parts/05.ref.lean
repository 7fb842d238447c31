theorem ex_dl {n g i : Nat} (h : i < g) : n % 4 ^ g / 4 ^ i % 4 = n / 4 ^ i % 4 := by
  have e : 4 ^ g = 4 ^ i * 4 ^ (g - i) := by rw [← Nat.pow_add, show i + (g - i) = g by omega]
  have e2 : (4 : Nat) ∣ 4 ^ (g - i) := by
    have h1 := Nat.pow_dvd_pow 4 (show 1 ≤ g - i by omega)
    rwa [Nat.pow_one] at h1
  rw [e, Nat.mod_mul_right_div_self, Nat.mod_mod_of_dvd _ e2]
theorem ex_div4 (s i : Nat) : s / 4 / 4 ^ i = s / 4 ^ (i + 1) := by
  rw [Nat.div_div_eq_div_mul, Nat.pow_succ, Nat.mul_comm]
theorem ex_dig4 : ∀ m r s : Nat, r < 4 ^ m → s < 4 ^ m → (∀ i, i < m → r / 4 ^ i % 4 = s / 4 ^ i % 4) → r = s := by
  intro m
  induction m with
  | zero => intro r s hr hs _; rw [Nat.pow_zero] at hr hs; omega
  | succ m ih =>
    intro r s hr hs h
    have h0 := h 0 (by omega)
    rw [Nat.pow_zero, Nat.div_one, Nat.div_one] at h0
    rw [Nat.pow_succ] at hr hs
    have h1 := ih (r / 4) (s / 4) (by omega) (by omega) (fun i hi => by rw [ex_div4, ex_div4]; exact h (i + 1) (by omega))
    omega
theorem ex_sl {n so g i : Nat} (h : i < g) : n / 4 ^ so % 4 ^ g / 4 ^ i % 4 = n / 4 ^ (so + i) % 4 := by
  rw [ex_dl h, Nat.div_div_eq_div_mul, ← Nat.pow_add]
def ex_yp (p : ex_P) (y : Nat) (jA pA jL pL : Nat → Int32) : Prop := ex_ok p ∧ jL y = nI p.2.1 ∧ pL y = nI p.2.2.2 ∧ (∀ i, i < p.2.1 → jA (y * 6 + i) = nI (p.1 / 4 ^ i % 4)) ∧ (∀ i, i < p.2.2.2 → pA (y * 6 + i) = nI (p.2.2.1 / 4 ^ i % 4))
section
variable {fe fd : Int32} {jA pA jL pL mA rA sA : Nat → Int32}
theorem ex_place {post : Int32 → Prop} {x y : Int32} (q l : Nat) (hx : x = nI q) (hy : y = nI l) (hq : q < 14) (hl : l ≤ 6) (h : post (ex_pI (ex_pl q l))) : wpY_place post (fe, fd, jA, pA, jL, pL, mA, rA, sA) x y := by
  subst hx hy
  unfold wpY_place
  dsimp only
  unfold ex_pl at h
  refine pk_le 7 q (fun h7 => ?_) (fun h7 => ?_)
  · rw [if_neg (by omega)] at h
    have e7 : nI q - 7 = nI (q - 7) := pk_sub (b := 7) h7
    refine pk_lt l (q - 7) (fun h8 => ?_) (fun h8 => ?_) rfl e7
    · rw [if_neg (by omega)] at h; exact h
    · rw [if_pos h8] at h
      have e8 : nI l - nI q + 7 = nI (l - (q - 7)) := by
        rw [← pk_sub h8, ← e7]; grind
      rw [e8]
      exact h
  · rw [if_pos h7] at h
    refine pk_lt l q (fun h8 => ?_) (fun h8 => ?_)
    · rw [if_neg (by omega)] at h; exact h
    · rw [if_pos h8] at h; exact h
theorem ex_m1le {f : Nat} (h : f < 2 ^ 31) : (-1 : Int32) ≤ nI f := Int32.le_trans (show (-1 : Int32) ≤ 0 by decide) (nI_pos' h)
theorem ex_size {post : Int32 → Prop} {x y : Int32} {a j : Nat} {p : ex_P} (hx : x = nI a) (hy : y = nI j) (ha : a < 200) (hj : j < 3) (Y : ex_yp p j jA pA jL pL) (h : post (nI (ex_gl p.2.1 a))) :
    wpY_size post (fe, fd, jA, pA, jL, pL, mA, rA, sA) x y := by
  subst hx hy
  obtain ⟨hok, y1, y2, y3, y4⟩ := Y
  unfold wpY_size
  dsimp only
  have hl6 : p.2.1 ≤ 6 := hok.2.1
  have hin : vp_in (nI j) 3 := vp_in_nI hj (by omega)
  have hcl : (nI j).toNatClampNeg = j := nI_clamp (by omega)
  refine pk_le 4 a (fun h4 => ⟨by decide, hin, ?_⟩) (fun h4 => ?_)
  · have e4 : nI a - 4 = nI (a - 4) := pk_sub (b := 4) h4
    have hpl := ex_pl_le ((a - 4) / 14) p.2.1
    have hql := ex_pl_le ((a - 4) % 14) p.2.1
    refine ex_place ((a - 4) / 14) p.2.1 (by rw [e4]; exact pk_div (d := 14) (by omega) (by omega) (by omega)) (by rw [hcl]; exact y1) (by omega) hl6 ⟨by decide, hin, ?_⟩
    refine ex_place ((a - 4) % 14) p.2.1 (by rw [e4]; exact pk_rem (d := 14) (by omega) (by omega) (by omega)) (by rw [hcl]; exact y1) (by omega) hl6 ?_
    unfold ex_gl at h
    rw [if_neg (by omega)] at h
    generalize ex_pl ((a - 4) / 14) p.2.1 = P at *
    generalize ex_pl ((a - 4) % 14) p.2.1 = Q at *
    cases P with
    | zero => exact br_t (by decide) h
    | succ f =>
      rw [if_neg (by omega)] at h
      refine br_f (nI_pos (by omega)) ?_
      cases Q with
      | zero =>
        rw [show 0 - (f + 1) = 0 by omega] at h
        exact br_t (ex_m1le (by omega)) h
      | succ t =>
        refine pk_le t f (fun h8 => ?_) (fun h8 => ?_)
        · rw [show t + 1 - (f + 1) = 0 by omega] at h; exact h
        · rw [show t + 1 - (f + 1) = t - f by omega] at h
          show post (nI t - nI f)
          rw [pk_sub (by omega)]
          exact h
  · unfold ex_gl at h
    rw [if_pos h4] at h
    exact h
theorem ex_letter {post : Int32 → Prop} {x y z : Int32} {a j i : Nat} {p : ex_P} (hx : x = nI a) (hy : y = nI j) (hz : z = nI i) (ha : a < 200) (hj : j < 3) (Y : ex_yp p j jA pA jL pL) (hi : i < ex_gl p.2.1 a) (h : post (nI (ex_gn p.1 p.2.1 a / 4 ^ i % 4))) :
    wpY_letter post (fe, fd, jA, pA, jL, pL, mA, rA, sA) x y z := by
  subst hx hy hz
  obtain ⟨hok, y1, y2, y3, y4⟩ := Y
  unfold wpY_letter
  dsimp only
  have hl6 : p.2.1 ≤ 6 := hok.2.1
  have hin : vp_in (nI j) 3 := vp_in_nI hj (by omega)
  have hcl : (nI j).toNatClampNeg = j := nI_clamp (by omega)
  refine pk_le 4 a (fun h4 => ⟨by decide, hin, ?_⟩) (fun h4 => ?_)
  · have e4 : nI a - 4 = nI (a - 4) := pk_sub (b := 4) h4
    have hql := ex_pl_le ((a - 4) % 14) p.2.1
    refine ex_place ((a - 4) / 14) p.2.1 (by rw [e4]; exact pk_div (d := 14) (by omega) (by omega) (by omega)) (by rw [hcl]; exact y1) (by omega) hl6 ?_
    have hgl : ex_gl p.2.1 a = if ex_pl ((a - 4) / 14) p.2.1 = 0 then 0 else ex_pl ((a - 4) % 14) p.2.1 - ex_pl ((a - 4) / 14) p.2.1 := by unfold ex_gl; rw [if_neg (by omega)]
    have hgn : ex_gn p.1 p.2.1 a = p.1 / 4 ^ (ex_pl ((a - 4) / 14) p.2.1 - 1) % 4 ^ (ex_gl p.2.1 a) := by unfold ex_gn; rw [if_neg (by omega), if_neg (by omega)]
    rw [hgn, ex_sl hi] at h
    generalize ex_pl ((a - 4) / 14) p.2.1 = P at *
    generalize ex_pl ((a - 4) % 14) p.2.1 = Q at *
    cases P with
    | zero => rw [if_pos rfl] at hgl; omega
    | succ f =>
      rw [if_neg (by omega)] at hgl
      rw [show f + 1 - 1 = f by omega] at h
      refine nm_r (e' := nI (f + i)) (nI_add f i) ?_
      refine br_f (nI_pos (by omega)) (br_f (nI_ge (b := 6) (by omega) (by decide)) ?_)
      have ei : nI j * 6 + nI (f + i) = nI (j * 6 + (f + i)) := by rw [← nI_add (j * 6) (f + i), ← pk_mul]; rfl
      rw [ei, nI_clamp (by omega), y3 (f + i) (by omega)]
      exact ⟨vp_in_nI (by omega) (by omega), h⟩
  · have hgl : ex_gl p.2.1 a = 1 := by unfold ex_gl; rw [if_pos h4]
    have hgn : ex_gn p.1 p.2.1 a = a := by unfold ex_gn; rw [if_pos h4]
    have hi0 : i = 0 := by omega
    rw [hgn, hi0, Nat.pow_zero, Nat.div_one, Nat.mod_eq_of_lt h4] at h
    exact h
theorem ex_af35 {post : Int32 → Prop} {a j so : Nat} {p : ex_P} (ha : a < 200) (hj : j < 3) (Y : ex_yp p j jA pA jL pL) (hso : so + ex_gl p.2.1 a ≤ p.2.2.2)
    (H : post (ex_oI (if p.2.2.1 / 4 ^ so % 4 ^ ex_gl p.2.1 a = ex_gn p.1 p.2.1 a then some (so + ex_gl p.2.1 a) else none))) : ∀ r i : Nat, i + r = ex_gl p.2.1 a → (∀ k, k < i → ex_gn p.1 p.2.1 a / 4 ^ k % 4 = p.2.2.1 / 4 ^ (so + k) % 4) →
    wY_after_35 post (nI a) (nI j) (nI so) (nI (ex_gl p.2.1 a)) fe fd jA pA jL pL mA rA sA (r + 1) (nI i) := by
  have hg6 := ex_gl_le p.2.1 a Y.1.2.1
  have ho6 := Y.1.2.2.2
  intro r
  induction r with
  | zero =>
    intro i hi hk
    rw [if_pos (ex_dig4 (ex_gl p.2.1 a) _ _ (Nat.mod_lt _ (Nat.pow_pos (by decide))) (ex_gn_lt _ _ _) (fun k h => by rw [ex_sl h]; exact (hk k (by omega)).symm))] at H
    refine br_t (nI_le (by omega) (by omega)) ?_
    rw [nI_add]
    exact H
  | succ r ih =>
    intro i hi hk
    refine br_f (nI_ge (by omega) (by omega)) ?_
    refine ex_letter rfl rfl rfl ha hj Y (by omega) ?_
    have ei : nI j * 6 + nI so + nI i = nI (j * 6 + (so + i)) := by
      rw [← nI_add, ← nI_add, ← pk_mul, Int32.add_assoc]; rfl
    rw [ei, nI_clamp (by omega), Y.2.2.2.2 (so + i) (by omega)]
    refine ⟨vp_in_nI (by omega) (by omega), ?_⟩
    refine pk_eq _ _ (fun h => ?_) (fun h => ?_) rfl rfl (by omega) (by omega)
    · refine nm_r (nI_1 i) (ih (i + 1) (by omega) (fun k hk' => ?_))
      by_cases e : k = i
      · rw [e]; exact h
      · exact hk k (by omega)
    · rw [if_neg (fun e => h (by rw [← e, ex_sl (by omega)]))] at H
      exact H
theorem ex_after {post : Int32 → Prop} {x y z : Int32} {a j so : Nat} {p : ex_P} (hx : x = nI a) (hy : y = nI j) (hz : z = nI so) (ha : a < 200) (hj : j < 3) (hs : so ≤ 6) (Y : ex_yp p j jA pA jL pL) (H : post (ex_oI (ex_a1 p a so))) :
    wpY_after post (fe, fd, jA, pA, jL, pL, mA, rA, sA) x y z := by
  have hg6 := ex_gl_le p.2.1 a Y.1.2.1
  have ho6 := Y.1.2.2.2
  unfold wpY_after
  dsimp only
  refine ex_size hx hy ha hj Y ?_
  unfold ex_a1 at H
  refine pk_eq (ex_gl p.2.1 a) 0 (fun h0 => ?_) (fun h0 => ?_)
  · rw [if_pos h0] at H; exact H
  · rw [if_neg h0] at H
    subst hx hy hz
    refine br_f (nI_pos (by omega)) ⟨vp_in_nI hj (by omega), ?_⟩
    refine pk_le (so + ex_gl p.2.1 a) p.2.2.2 (fun h1 => ?_) (fun h1 => ?_) (nI_add _ _) (by rw [nI_clamp (by omega)]; exact Y.2.2.1)
    · rw [if_pos h1] at H
      exact ⟨_, ex_af35 ha hj Y h1 H (ex_gl p.2.1 a) 0 (by omega) (fun k hk => absurd hk (Nat.not_lt_zero k))⟩
    · rw [if_neg (by omega)] at H; exact H
def ex_ac (e ty p : Nat) : Prop := p < e ∨ (p = 2 ∧ ty = 1)
def ex_jx (e p : Nat) : Nat := if p < e then p else e
def ex_yd (d : Nat → ex_P) (e : Nat) (jA pA jL pL : Nat → Int32) : Prop := ∀ j, j ≤ e → ex_yp (d j) (if j < e then j else 2) jA pA jL pL
theorem ex_yd_ac {d : Nat → ex_P} {e ty p : Nat} (D : ex_yd d e jA pA jL pL) (h : ex_ac e ty p) : ex_yp (d (ex_jx e p)) p jA pA jL pL := by
  by_cases h1 : p < e
  · have h2 := D p (by omega)
    rw [if_pos h1] at h2
    unfold ex_jx
    rw [if_pos h1]
    exact h2
  · have h2 := D e (by omega)
    rw [if_neg (by omega)] at h2
    have e2 : p = 2 := by
      rcases h with h | h
      · exact absurd h h1
      · exact h.1
    unfold ex_jx
    rw [if_neg h1, e2]
    exact h2
theorem ex_jx_lt {e ty p : Nat} (h : ex_ac e ty p) : ex_jx e p < e + ty := by
  unfold ex_jx
  unfold ex_ac at h
  split <;> omega
theorem ex_jx_on {e ty j : Nat} (he : e ≤ 2) (ht : ty ≤ 1) (hj : j < e + ty) : ∃ p, p < 3 ∧ ex_ac e ty p ∧ ex_jx e p = j := by
  by_cases h : j < e
  · exact ⟨j, by omega, Or.inl h, if_pos h⟩
  · exact ⟨2, by omega, Or.inr ⟨rfl, by omega⟩, by unfold ex_jx; rw [if_neg (by omega)]; omega⟩
theorem ex_counts {post : Int32 → Prop} {x y : Int32} {e ty p : Nat} (hfe : fe = nI e) (hx : x = nI p) (hy : y = nI ty) (he : e ≤ 2) (ht : ty ≤ 1) (hp : p < 3) (H1 : ex_ac e ty p → post 1) (H0 : ¬ ex_ac e ty p → post 0) :
    wpY_counts post (fe, fd, jA, pA, jL, pL, mA, rA, sA) x y := by
  subst hfe hx hy
  unfold wpY_counts
  dsimp only
  unfold ex_ac at H1 H0
  refine pk_lt p e (fun h => H1 (Or.inl h)) (fun h => ?_)
  refine pk_eq p 2 (fun h2 => ?_) (fun h2 => ?_)
  · exact pk_eq ty 0 (fun h3 => H0 (by omega)) (fun h3 => H1 (Or.inr ⟨h2, by omega⟩))
  · exact H0 (by omega)
def ex_lv (e ty L s : Nat) (mA : Nat → Int32) : Prop := ∀ p, p < 3 → ex_ac e ty p → mA (L * 3 + p) = nI (s / 7 ^ ex_jx e p % 7)
def ex_ag (c : Nat) (mA mA' : Nat → Int32) : Prop := ∀ i, i < c → mA' i = mA i
theorem ex_ag_t {c c' : Nat} {mA mA' mA'' : Nat → Int32} (hc : c ≤ c') (h1 : ex_ag c mA mA') (h2 : ex_ag c' mA' mA'') : ex_ag c mA mA'' := fun i hi => (h2 i (by omega)).trans (h1 i hi)
theorem ex_lv_a {e ty L s c : Nat} {mA mA' : Nat → Int32} (hc : L * 3 + 3 ≤ c) (h : ex_lv e ty L s mA) (h1 : ex_ag c mA mA') : ex_lv e ty L s mA' := fun p hp ha => (h1 _ (by omega)).trans (h p hp ha)
theorem ex_pt3 {post : Int32 → SY → Prop} {d : Nat → ex_P} {e ty a L s : Nat} (hfe : fe = nI e) (he : e ≤ 2) (ht : ty ≤ 1) (ha : a < 200) (hL : L ≤ 2) (D : ex_yd d e jA pA jL pL) (V : ex_lv e ty L s mA)
    (H0 : (∃ p, p < 3 ∧ ex_ac e ty p ∧ ex_a1 (d (ex_jx e p)) a (s / 7 ^ ex_jx e p % 7) = none) → ∀ mA', ex_ag (L * 3 + 3) mA mA' → post 0 (fe, fd, jA, pA, jL, pL, mA', rA, sA))
    (H1 : ∀ mA', ex_ag (L * 3 + 3) mA mA' → (∀ p, p < 3 → ex_ac e ty p → ∃ t, ex_a1 (d (ex_jx e p)) a (s / 7 ^ ex_jx e p % 7) = some t ∧ mA' (L * 3 + 3 + p) = nI t) → post 1 (fe, fd, jA, pA, jL, pL, mA', rA, sA)) :
    ∀ (r p : Nat) (mA' : Nat → Int32), p + r = 3 → ex_ag (L * 3 + 3) mA mA' → (∀ p', p' < p → ex_ac e ty p' → ∃ t, ex_a1 (d (ex_jx e p')) a (s / 7 ^ ex_jx e p' % 7) = some t ∧ mA' (L * 3 + 3 + p') = nI t) →
    wY_put_3 post (nI a) (nI L) (nI ty) fe fd (r + 1) (nI p) jA pA jL pL mA' rA sA := by
  intro r
  induction r with
  | zero =>
    intro p mA' hp hag hf
    have e3 : p = 3 := by omega
    subst e3
    exact br_t (nI_le (a := 3) (b := 3) (by decide) (by decide)) (H1 mA' hag hf)
  | succ r ih =>
    intro p mA' hp hag hf
    refine br_f (nI_ge (b := 3) (by omega) (by decide)) ?_
    refine ex_counts hfe rfl rfl he ht (by omega) (fun hac => ?_) (fun hac => ?_)
    · have ei : nI L * 3 + nI p = nI (L * 3 + p) := by rw [← nI_add, ← pk_mul]; rfl
      have ej : nI L * 3 + 3 + nI p = nI (L * 3 + 3 + p) := by rw [← nI_add, ← nI_add, ← pk_mul]; rfl
      refine br_f (by decide) ⟨by rw [ei]; exact vp_in_nI (by omega) (by omega), ?_⟩
      have Yp := ex_yd_ac D hac
      refine ex_after (so := s / 7 ^ ex_jx e p % 7) rfl rfl (by rw [ei, nI_clamp (by omega), hag _ (by omega)]; exact V p (by omega) hac) ha (by omega) (by omega) Yp ?_
      cases hq : ex_a1 (d (ex_jx e p)) a (s / 7 ^ ex_jx e p % 7) with
      | none => exact br_f (by decide) (H0 ⟨p, by omega, hac, hq⟩ mA' hag)
      | some t =>
        have ht6 := ex_a1_le hq
        have ho6 := Yp.1.2.2.2
        refine br_t (nI_pos' (by omega)) ⟨by rw [ej]; exact vp_in_nI (by omega) (by omega), ?_⟩
        refine nm_r (e' := upd mA' (L * 3 + 3 + p) (nI t)) (by rw [ej, nI_clamp (by omega)]; rfl) (nm_r (nI_1 p) ?_)
        refine ih (p + 1) _ (by omega) (fun i hi => by rw [pk_un (by omega)]; exact hag i hi) (fun p' hp' hac' => ?_)
        by_cases ep : p' = p
        · subst ep; exact ⟨t, hq, pk_us⟩
        · rw [pk_un (by omega)]; exact hf p' (by omega) hac'
    · refine br_t rfl (nm_r (nI_1 p) (ih (p + 1) _ (by omega) hag (fun p' hp' hac' => ?_)))
      by_cases ep : p' = p
      · subst ep; exact absurd hac' hac
      · exact hf p' (by omega) hac'
theorem ex_yhd {d : Nat → ex_P} {e ty : Nat} (ht : ty ≤ 1) (D : ex_yd d e jA pA jL pL) : ∀ i, i < e + ty → (d (0 + i)).2.2.2 ≤ 6 := fun i hi => by
  rw [Nat.zero_add]; exact (D i (by omega)).1.2.2.2
theorem ex_put {post : Int32 → SY → Prop} {d : Nat → ex_P} {e ty a L s : Nat} {x y z : Int32} (hx : x = nI a) (hy : y = nI L) (hz : z = nI ty) (hfe : fe = nI e) (he : e ≤ 2) (ht : ty ≤ 1) (ha : a < 200) (hL : L ≤ 2) (D : ex_yd d e jA pA jL pL) (V : ex_lv e ty L s mA)
    (H0 : ex_sp d (e + ty) 0 a s = none → ∀ mA', ex_ag (L * 3 + 3) mA mA' → post 0 (fe, fd, jA, pA, jL, pL, mA', rA, sA))
    (H1 : ∀ t, ex_sp d (e + ty) 0 a s = some t → ∀ mA', ex_ag (L * 3 + 3) mA mA' → ex_lv e ty (L + 1) t mA' → post 1 (fe, fd, jA, pA, jL, pL, mA', rA, sA)) :
    wpY_put post (fe, fd, jA, pA, jL, pL, mA, rA, sA) x y z := by
  subst hx hy hz
  unfold wpY_put
  dsimp only
  refine ⟨4, ex_pt3 hfe he ht ha hL D V (fun hn mA' hag => ?_) (fun mA' hag hf => ?_) 3 0 mA rfl (fun _ _ => rfl) (fun p' hp' => absurd hp' (Nat.not_lt_zero p'))⟩
  · obtain ⟨p, hp, hac, hn⟩ := hn
    cases hq : ex_sp d (e + ty) 0 a s with
    | none => exact H0 hq mA' hag
    | some t =>
      have h1 := (ex_sp_some d (e + ty) 0 a s t (ex_yhd ht D) hq).2.2 (ex_jx e p) (ex_jx_lt hac)
      rw [Nat.zero_add, hn] at h1
      exact nomatch h1
  · cases hq : ex_sp d (e + ty) 0 a s with
    | none =>
      obtain ⟨i, hi, hn⟩ := ex_sp_none d _ _ _ _ hq
      obtain ⟨p, hp, hac, hj⟩ := ex_jx_on he ht hi
      obtain ⟨t, ht1, _⟩ := hf p hp hac
      rw [Nat.zero_add] at hn
      rw [hj, hn] at ht1
      exact nomatch ht1
    | some t =>
      refine H1 t hq mA' hag (fun p hp hac => ?_)
      obtain ⟨t', h1, h2⟩ := hf p hp hac
      have h3 := (ex_sp_some d (e + ty) 0 a s t (ex_yhd ht D) hq).2.2 (ex_jx e p) (ex_jx_lt hac)
      rw [Nat.zero_add, h1] at h3
      cases h3
      rw [show (L + 1) * 3 + p = L * 3 + 3 + p by omega]
      exact h2
theorem ex_wh2 {post : Int32 → Prop} {d : Nat → ex_P} {e ty L s : Nat} (hfe : fe = nI e) (he : e ≤ 2) (ht : ty ≤ 1) (hL : L ≤ 3) (hs : s < 7 ^ (e + ty)) (D : ex_yd d e jA pA jL pL) (V : ex_lv e ty L s mA)
    (H1 : s = ex_go d (e + ty) 0 → post 1) (H0 : s ≠ ex_go d (e + ty) 0 → post 0) :
    ∀ (r p : Nat), p + r = 3 → (∀ p', p' < p → ex_ac e ty p' → s / 7 ^ ex_jx e p' % 7 = (d (ex_jx e p')).2.2.2) →
    wY_whole_2 post (nI L) (nI ty) fe fd jA pA jL pL mA rA sA (r + 1) (nI p) := by
  have hgo := ex_go_dig d (e + ty) 0 (ex_yhd ht D)
  intro r
  induction r with
  | zero =>
    intro p hp hf
    have e3 : p = 3 := by omega
    subst e3
    refine br_t (nI_le (a := 3) (b := 3) (by decide) (by decide)) (H1 ?_)
    refine ex_dig (e + ty) _ _ hs hgo.1 (fun i hi => ?_)
    obtain ⟨p, hp, hac, hj⟩ := ex_jx_on he ht hi
    have h1 := hf p hp hac
    rw [hj] at h1
    rw [hgo.2 i hi, Nat.zero_add]
    exact h1
  | succ r ih =>
    intro p hp hf
    refine br_f (nI_ge (b := 3) (by omega) (by decide)) ?_
    refine ex_counts hfe rfl rfl he ht (by omega) (fun hac => ?_) (fun hac => ?_)
    · have ei : nI L * 3 + nI p = nI (L * 3 + p) := by rw [← nI_add, ← pk_mul]; rfl
      have Yp := ex_yd_ac D hac
      have ho6 := Yp.1.2.2.2
      refine br_f (by decide) ⟨by rw [ei]; exact vp_in_nI (by omega) (by omega), vp_in_nI (by omega) (by omega), ?_⟩
      refine pk_eq (s / 7 ^ ex_jx e p % 7) (d (ex_jx e p)).2.2.2 (fun h => ?_) (fun h => ?_) (by rw [ei, nI_clamp (by omega)]; exact V p (by omega) hac) (by rw [nI_clamp (by omega)]; exact Yp.2.2.1)
      · refine nm_r (nI_1 p) (ih (p + 1) (by omega) (fun p' hp' hac' => ?_))
        by_cases ep : p' = p
        · rw [ep]; exact h
        · exact hf p' (by omega) hac'
      · refine H0 (fun e => h ?_)
        rw [e, hgo.2 _ (ex_jx_lt hac), Nat.zero_add]
    · refine br_t rfl (nm_r (nI_1 p) (ih (p + 1) (by omega) (fun p' hp' hac' => ?_)))
      by_cases ep : p' = p
      · subst ep; exact absurd hac' hac
      · exact hf p' (by omega) hac'
theorem ex_whole {post : Int32 → Prop} {d : Nat → ex_P} {e ty L s : Nat} {x y : Int32} (hx : x = nI L) (hy : y = nI ty) (hfe : fe = nI e) (he : e ≤ 2) (ht : ty ≤ 1) (hL : L ≤ 3) (hs : s < 7 ^ (e + ty)) (D : ex_yd d e jA pA jL pL) (V : ex_lv e ty L s mA)
    (H1 : s = ex_go d (e + ty) 0 → post 1) (H0 : s ≠ ex_go d (e + ty) 0 → post 0) :
    wpY_whole post (fe, fd, jA, pA, jL, pL, mA, rA, sA) x y := by
  subst hx hy
  unfold wpY_whole
  dsimp only
  exact ⟨4, ex_wh2 hfe he ht hL hs D V H1 H0 3 0 rfl (fun p' hp' => absurd hp' (Nat.not_lt_zero p'))⟩
def ex_nt (rA : Nat → Int32) (x y z : Int32) : Nat → Int32 := upd (upd (upd rA 0 x) 1 y) 2 z
theorem ex_note {post : SY → Prop} {x y z : Int32} (H1 : fd = 0 → post (fe, 1, jA, pA, jL, pL, mA, ex_nt rA x y z, sA)) (H0 : ¬ fd = 0 → post (fe, fd, jA, pA, jL, pL, mA, rA, sA)) :
    wpY_note post (fe, fd, jA, pA, jL, pL, mA, rA, sA) x y z := by
  unfold wpY_note
  dsimp only
  exact br_c (fun h => nm_e (nm_e (nm_e (H1 h)))) H0
end
