theorem ex_dlo {R L g t : Nat} (hR : R < 4 ^ L) (ht : t < L) : (R + g * 4 ^ L) / 4 ^ t % 4 = R / 4 ^ t % 4 := by
  rw [← ex_dl (n := R + g * 4 ^ L) ht, Nat.add_mul_mod_self_right, Nat.mod_eq_of_lt hR]
theorem ex_dhi {R L g c : Nat} (hR : R < 4 ^ L) : (R + g * 4 ^ L) / 4 ^ (L + c) % 4 = g / 4 ^ c % 4 := by
  rw [Nat.pow_add, ← Nat.div_div_eq_div_mul, Nat.add_mul_div_right _ _ (Nat.pow_pos (by decide)), Nat.div_eq_of_lt hR, Nat.zero_add]
theorem ex_n3' {k : Nat} (hk : k < 2 ^ 31) : ¬ nI k = -3 := fun e => by
  have h1 := nI_pos hk
  rw [e] at h1
  exact h1 (by decide)
section
variable {fe fd : Int32} {jA pA jL pL mA rA sA : Nat → Int32}
theorem ex_yls {post : Int32 → SY → Prop} {d : Nat → ex_P} {e q n : Nat} (hq2 : q ≤ 2) (hfe : fe = nI e) (he : e ≤ 2) (D : ex_yd d e jA pA jL pL)
    (H0 : ex_ct d e (q + 1) 0 = 0 → ∀ fd' mA' rA', wY_least_2 post n (nI (q + 2)) fe fd' jA pA jL pL mA' rA' sA)
    (H1 : 0 < ex_ct d e (q + 1) 0 → ∀ fd' mA' rA', (∀ i, i < q + 1 → rA' i = nI (ex_at d e (q + 1) i)) → post (nI (q + 1)) (fe, fd', jA, pA, jL, pL, mA', rA', sA)) :
    wY_least_2 post (n + 1) (nI (q + 1)) fe fd jA pA jL pL mA rA sA := by
  have hb := ex_ct_b d e (show q + 1 ≤ 3 by omega) 0
  refine br_f (nI_ge (b := 4) (by omega) (by decide)) ?_
  refine ex_search (ty := 0) rfl rfl hq2 hfe he (by decide) D (fun fd' mA' rA' hr => ?_)
  exact pk_le (ex_ct d e (q + 1) 0) 0 (fun h => nm_r (nI_1 (q + 1)) (H0 (by omega) fd' mA' rA')) (fun h => H1 h fd' mA' rA' (hr h))
theorem ex_yleast {post : Int32 → SY → Prop} {d : Nat → ex_P} {e : Nat} (hfe : fe = nI e) (he : e ≤ 2) (D : ex_yd d e jA pA jL pL)
    (H0 : ex_ls d e = 0 → ∀ fd' mA' rA', post (-3) (fe, fd', jA, pA, jL, pL, mA', rA', sA))
    (H1 : ex_ls d e ≠ 0 → ∀ fd' mA' rA', (∀ i, i < ex_ls d e → rA' i = nI (ex_at d e (ex_ls d e) i)) → post (nI (ex_ls d e)) (fe, fd', jA, pA, jL, pL, mA', rA', sA)) :
    wpY_least post (fe, fd, jA, pA, jL, pL, mA, rA, sA) := by
  unfold wpY_least
  dsimp only
  refine ⟨4, ex_yls (q := 0) (by decide) hfe he D (fun h1 _ _ _ => ?_) (fun h1 fd1 mA1 rA1 hr => ?_)⟩ <;> rw [Nat.zero_add] at h1
  · refine ex_yls (q := 1) (by decide) hfe he D (fun h2 _ _ _ => ?_) (fun h2 fd1 mA1 rA1 hr => ?_) <;> rw [show 1 + 1 = 2 from rfl] at h2
    · refine ex_yls (q := 2) (by decide) hfe he D (fun h3 fd1 mA1 rA1 => ?_) (fun h3 fd1 mA1 rA1 hr => ?_) <;> rw [show 2 + 1 = 3 from rfl] at h3
      · have el : ex_ls d e = 0 := by unfold ex_ls; rw [if_neg (by omega), if_neg (by omega), if_neg (by omega)]
        exact br_t (by decide) (H0 el fd1 mA1 rA1)
      · have el : ex_ls d e = 3 := by unfold ex_ls; rw [if_neg (by omega), if_neg (by omega), if_pos h3]
        rw [el] at H1
        exact H1 (by decide) fd1 mA1 rA1 hr
    · have el : ex_ls d e = 2 := by unfold ex_ls; rw [if_neg (by omega), if_pos h2]
      rw [el] at H1
      exact H1 (by decide) fd1 mA1 rA1 hr
  · have el : ex_ls d e = 1 := by unfold ex_ls; rw [if_pos h1]
    rw [el] at H1
    exact H1 (by decide) fd1 mA1 rA1 hr
theorem ex_yways {post : Int32 → SY → Prop} {d : Nat → ex_P} {e : Nat} (hfe : fe = nI e) (he : e ≤ 2) (D : ex_yd d e jA pA jL pL)
    (H0 : ex_ls d e = 0 → ∀ fd' mA' rA', post 0 (fe, fd', jA, pA, jL, pL, mA', rA', sA))
    (H1 : ex_ls d e ≠ 0 → ∀ fd' mA' rA', post (nI (ex_ct d (e + 1) (ex_ls d e) 0)) (fe, fd', jA, pA, jL, pL, mA', rA', sA)) :
    wpY_ways post (fe, fd, jA, pA, jL, pL, mA, rA, sA) := by
  unfold wpY_ways
  dsimp only
  refine ex_yleast hfe he D (fun h fd' mA' rA' => ?_) (fun h fd' mA' rA' _ => ?_)
  · exact br_f (by decide) (H0 h fd' mA' rA')
  · have hl := ex_ls_le d e
    refine br_t (nI_pos' (by omega)) ?_
    obtain ⟨q, hq⟩ : ∃ q, ex_ls d e = q + 1 := ⟨ex_ls d e - 1, by omega⟩
    rw [hq] at H1 ⊢
    exact ex_search (ty := 1) rfl rfl (by omega) hfe he (by decide) D (fun fd2 mA2 rA2 _ => H1 (by omega) fd2 mA2 rA2)
theorem ex_m45 {post : Int32 → SY → Prop} {J : Int32 → Int32 → (Nat → Int32) → (Nat → Int32) → (Nat → Int32) → (Nat → Int32) → (Nat → Int32) → (Nat → Int32) → (Nat → Int32) → Prop} {p : ex_P} {R L a i : Nat} {x1 : Int32} (Y : ex_yp p 2 jA pA jL pL) (hi : i < 3) (ha : a < 200) (hra : rA i = nI a) (hL : L ≤ 12) (hR : R < 4 ^ L)
    (H : ∀ sA', (∀ t, t < L + ex_gl p.2.1 a → sA' t = nI ((R + ex_gn p.1 p.2.1 a * 4 ^ L) / 4 ^ t % 4)) → J (nI (L + ex_gl p.2.1 a)) (nI (i + 1)) jA pA jL pL mA rA sA') :
    ∀ (r c : Nat) (sA : Nat → Int32), c + r = ex_gl p.2.1 a → (∀ t, t < L + c → sA t = nI ((R + ex_gn p.1 p.2.1 a * 4 ^ L) / 4 ^ t % 4)) →
    wY_make_45 post J x1 (nI i) (nI (ex_gl p.2.1 a)) fe fd (r + 1) (nI (L + c)) (nI c) jA pA jL pL mA rA sA := by
  have hg6 := ex_gl_le p.2.1 a Y.1.2.1
  intro r
  induction r with
  | zero =>
    intro c sA hc hs
    have e : c = ex_gl p.2.1 a := by omega
    rw [e] at hs
    rw [e]
    exact br_t (nI_le (Nat.le_refl _) (by omega)) (nm_r (nI_1 i) (H sA hs))
  | succ r ih =>
    intro c sA hc hs
    refine br_f (nI_ge (by omega) (by omega)) (br_f (nI_ge (b := 18) (by omega) (by decide)) ⟨vp_in_nI hi (by decide), ?_⟩)
    refine ex_letter (a := a) (j := 2) (i := c) (by rw [nI_clamp (by omega)]; exact hra) rfl rfl ha (by decide) Y (by omega) ⟨vp_in_nI (by omega) (by decide), ?_⟩
    refine nm_r (e' := upd sA (L + c) (nI (ex_gn p.1 p.2.1 a / 4 ^ c % 4))) (by rw [nI_clamp (by omega)]) (nm_r (nI_1 _) (nm_r (nI_1 c) ?_))
    refine ih (c + 1) _ (by omega) (fun t ht => ?_)
    by_cases e : t = L + c
    · rw [e, pk_us, ex_dhi hR]
    · rw [pk_un e]; exact hs t (by omega)
theorem ex_m16 {post : Int32 → SY → Prop} {p : ex_P} {k : Nat} {f : Nat → Nat} (Y : ex_yp p 2 jA pA jL pL) (hk : k ≤ 3) (hf : ∀ i, i < k → rA i = nI (f i) ∧ f i < 200)
    (H0 : ex_re p.1 p.2.1 f k = none → ∀ sA', post (-3) (fe, fd, jA, pA, jL, pL, mA, rA, sA'))
    (H1 : ∀ q, ex_re p.1 p.2.1 f k = some q → ∀ sA', (∀ t, t < q.2 → sA' t = nI (q.1 / 4 ^ t % 4)) → post (nI q.2) (fe, fd, jA, pA, jL, pL, mA, rA, sA')) :
    ∀ (r i : Nat) (q : Nat × Nat) (sA : Nat → Int32), i + r = k → ex_re p.1 p.2.1 f i = some q → (∀ t, t < q.2 → sA t = nI (q.1 / 4 ^ t % 4)) →
    wY_make_16 post (nI k) fe fd (r + 1) (nI q.2) (nI i) jA pA jL pL mA rA sA := by
  intro r
  induction r with
  | zero =>
    intro i q sA hi hq hs
    have e : i = k := by omega
    subst e
    exact br_t (nI_le (Nat.le_refl _) (by omega)) (H1 q hq sA hs)
  | succ r ih =>
    intro i q sA hi hq hs
    obtain ⟨hf1, hf2⟩ := hf i (by omega)
    obtain ⟨q1, q2⟩ := ex_re_ok Y.1.2.1 f i q hq
    have hre := ex_re_s hq
    have hg6 := ex_gl_le p.2.1 (f i) Y.1.2.1
    refine br_f (nI_ge (by omega) (by omega)) ⟨vp_in_nI (by omega) (by decide), ?_⟩
    refine ex_size (a := f i) (j := 2) (by rw [nI_clamp (by omega)]; exact hf1) rfl hf2 (by decide) Y ?_
    refine pk_eq (ex_gl p.2.1 (f i)) 0 (fun h => ?_) (fun h => ?_)
    · rw [if_pos h] at hre
      have h2 := ex_re_n hre r
      rw [show i + 1 + r = k by omega] at h2
      exact H0 h2 _
    · rw [if_neg h] at hre
      refine ⟨_, ex_m45 Y (by omega) hf2 hf1 (by omega) q1 (fun sA' hs' => ?_) (ex_gl p.2.1 (f i)) 0 sA (by omega) (fun t ht => ?_)⟩
      · exact ih (i + 1) _ sA' (by omega) hre hs'
      · rw [ex_dlo q1 (by omega)]; exact hs t (by omega)
theorem ex_make {post : Int32 → SY → Prop} {d : Nat → ex_P} {e : Nat} (hfe : fe = nI e) (he : e ≤ 2) (D : ex_yd d e jA pA jL pL)
    (H0 : ex_ls d e = 0 ∨ ex_re (d e).1 (d e).2.1 (ex_at d e (ex_ls d e)) (ex_ls d e) = none → ∀ fd' mA' rA' sA', post (-3) (fe, fd', jA, pA, jL, pL, mA', rA', sA'))
    (H1 : ex_ls d e ≠ 0 → ∀ q, ex_re (d e).1 (d e).2.1 (ex_at d e (ex_ls d e)) (ex_ls d e) = some q → ∀ fd' mA' rA' sA', (∀ t, t < q.2 → sA' t = nI (q.1 / 4 ^ t % 4)) → post (nI q.2) (fe, fd', jA, pA, jL, pL, mA', rA', sA')) :
    wpY_make post (fe, fd, jA, pA, jL, pL, mA, rA, sA) := by
  unfold wpY_make
  dsimp only
  have Y : ex_yp (d e) 2 jA pA jL pL := by
    have h := D e (Nat.le_refl _)
    rw [if_neg (Nat.lt_irrefl e)] at h
    exact h
  refine ex_yleast hfe he D (fun h fd' mA' rA' => ?_) (fun h fd' mA' rA' hr => ?_)
  · exact br_f (by decide) (H0 (Or.inl h) fd' mA' rA' sA)
  · have hl := ex_ls_le d e
    refine br_t (nI_pos' (by omega)) ?_
    exact ⟨ex_ls d e + 1, ex_m16 (k := ex_ls d e) (f := ex_at d e (ex_ls d e)) Y hl (fun i hi => ⟨hr i hi, (ex_at_p (ex_ls_p h) hi).1⟩) (fun hn sA' => H0 (Or.inr hn) fd' mA' rA' sA') (fun q hq sA' hs => H1 h q hq fd' mA' rA' sA' hs) (ex_ls d e) 0 (0, 0) sA (by omega) rfl (fun t ht => absurd ht (Nat.not_lt_zero t))⟩
theorem ex_r15 {post : Int32 → Prop} {d : Nat → ex_P} {e a : Nat} (hfe : fe = nI e) (he : e ≤ 2) (ha : a < 200) (D : ex_yd d e jA pA jL pL)
    (H1 : ex_sp d e 0 a 0 = some (ex_go d e 0) → post 1) (H0 : ex_sp d e 0 a 0 ≠ some (ex_go d e 0) → post 0) :
    ∀ (r j : Nat), j + r = e → (∀ j', j' < j → ex_a1 (d j') a 0 = some (d j').2.2.2) →
    wY_right_15 post (nI a) fe fd jA pA jL pL mA rA sA (r + 1) (nI j) := by
  have hh : ∀ i, i < e → (d (0 + i)).2.2.2 ≤ 6 := ex_yhd (ty := 0) (by decide) D
  have hgo := ex_go_dig d e 0 hh
  have z7 : ∀ i : Nat, 0 / 7 ^ i % 7 = 0 := fun i => by rw [Nat.zero_div]
  intro r
  induction r with
  | zero =>
    intro j hj hf
    have ej : j = e := by omega
    subst ej
    refine br_t (by rw [hfe]; exact nI_le (Nat.le_refl _) (by omega)) (H1 ?_)
    cases hq : ex_sp d j 0 a 0 with
    | none =>
      obtain ⟨i, hi, hn⟩ := ex_sp_none d _ _ _ _ hq
      rw [Nat.zero_add, z7, hf i hi] at hn
      exact nomatch hn
    | some t =>
      obtain ⟨_, h2, h3⟩ := ex_sp_some d j 0 a 0 t hh hq
      refine congrArg some (ex_dig j _ _ h2 hgo.1 (fun i hi => ?_))
      have h4 := h3 i hi
      rw [Nat.zero_add, z7, hf i hi] at h4
      rw [hgo.2 i hi, Nat.zero_add]
      exact (Option.some.inj h4).symm
  | succ r ih =>
    intro j hj hf
    have Y := D j (by omega)
    rw [if_pos (by omega)] at Y
    have ho6 := Y.1.2.2.2
    refine br_f (by rw [hfe]; exact nI_ge (by omega) (by omega)) ?_
    refine ex_after (a := a) (j := j) (so := 0) rfl rfl rfl ha (by omega) (by decide) Y ⟨vp_in_nI (by omega) (by decide), ?_⟩
    have hno : ex_a1 (d j) a 0 ≠ some (d j).2.2.2 → ex_sp d e 0 a 0 ≠ some (ex_go d e 0) := fun hn hs => by
      obtain ⟨_, _, h3⟩ := ex_sp_some d e 0 a 0 _ hh hs
      have h4 := h3 j (by omega)
      rw [z7, hgo.2 j (by omega), Nat.zero_add] at h4
      exact hn h4
    have el : pL (nI j).toNatClampNeg = nI (d j).2.2.2 := by rw [nI_clamp (by omega)]; exact Y.2.2.1
    rw [el]
    cases hq : ex_a1 (d j) a 0 with
    | none =>
      rw [hq] at hno
      exact br_f (fun h => ex_ne1 (k := (d j).2.2.2) (by omega) h.symm) (H0 (hno (fun h => nomatch h)))
    | some t =>
      have ht := ex_a1_le hq
      rw [hq] at hno
      refine pk_eq t (d j).2.2.2 (fun h => ?_) (fun h => H0 (hno (fun h2 => h (Option.some.inj h2))))
      refine nm_r (nI_1 j) (ih (j + 1) (by omega) (fun j' hj' => ?_))
      by_cases e2 : j' = j
      · rw [e2, ← h]; exact hq
      · exact hf j' (by omega)
theorem ex_yright {post : Int32 → Prop} {d : Nat → ex_P} {e a : Nat} {x : Int32} (hx : x = nI a) (hfe : fe = nI e) (he : e ≤ 2) (ha : a < 200) (D : ex_yd d e jA pA jL pL)
    (H1 : ex_sp d e 0 a 0 = some (ex_go d e 0) → post 1) (H0 : ex_sp d e 0 a 0 ≠ some (ex_go d e 0) → post 0) :
    wpY_right post (fe, fd, jA, pA, jL, pL, mA, rA, sA) x := by
  subst hx
  unfold wpY_right
  dsimp only
  refine br_f (nI_pos (by omega)) (br_t (nI_le (b := 199) (by omega) (by decide)) ?_)
  exact ⟨e + 1, ex_r15 hfe he ha D H1 H0 e 0 (by omega) (fun j' hj' => absurd hj' (Nat.not_lt_zero j'))⟩
end
section
variable {fe : Int32} {rl : Int64} {iA iL oA oL gA gL cA fA : Nat → Int32}
theorem ex_xd_le {d : Nat → ex_P} {m n : Nat} (h : n ≤ m) (D : ex_xd d m iA iL oA oL) : ex_xd d n iA iL oA oL := fun j hj => D j (by omega)
theorem ex_xways {post : Int32 → SX → Prop} {d : Nat → ex_P} {e : Nat} (hfe : fe = nI e) (he : e ≤ 2) (D : ex_xd d (e + 1) iA iL oA oL)
    (H0 : ex_ls d e = 0 → ∀ gA' gL' cA', post 0 (fe, rl, iA, iL, oA, oL, gA', gL', cA', fA))
    (H1 : ex_ls d e ≠ 0 → ∀ gA' gL' cA', post (nI (ex_ct d (e + 1) (ex_ls d e) 0)) (fe, rl, iA, iL, oA, oL, gA', gL', cA', fA)) :
    wpX_ways post (fe, rl, iA, iL, oA, oL, gA, gL, cA, fA) := by
  unfold wpX_ways
  dsimp only
  refine ex_countPrograms hfe (by omega) (ex_xd_le (by omega) D) (fun gA' gL' cA' G C => ?_)
  dsimp only
  refine ex_leastCounted C ?_
  have hl := ex_ls_le d e
  by_cases h0 : ex_ls d e = 0
  · have el : ex_lI (ex_ls d e) = -3 := if_pos h0
    rw [el]
    exact br_t rfl (H0 h0 gA' gL' cA')
  · have el : ex_lI (ex_ls d e) = nI (ex_ls d e) := if_neg h0
    rw [el]
    refine br_f (ex_n3' (by omega)) ?_
    refine ex_countPrograms (m := e + 1) (by rw [hfe]; exact nI_1 e) (by omega) D (fun gB gM cB G' C' => ?_)
    have ei : nI (ex_ls d e) * 343 = nI (ex_ls d e * 343) := pk_mul _ 343
    have ec : cB (nI (ex_ls d e) * 343).toNatClampNeg = nI (ex_ct d (e + 1) (ex_ls d e) 0) := by
      have h5 := C' (ex_ls d e) (by omega) 0 (Nat.succ_pos _)
      rw [Nat.add_zero] at h5
      rw [ei, nI_clamp (by omega)]
      exact h5
    have h2 := H1 h0 gB gM cB
    rw [← ec] at h2
    exact ⟨by rw [ei]; exact vp_in_nI (by omega) (by decide), h2⟩
theorem ex_xright {post : Int32 → SX → Prop} {d : Nat → ex_P} {e a : Nat} {x : Int32} (hx : x = nI a) (hfe : fe = nI e) (he : e ≤ 2) (ha : a < 200) (D : ex_xd d e iA iL oA oL)
    (H1 : ex_sp d e 0 a 0 = some (ex_go d e 0) → ∀ gA' gL', post 1 (fe, rl, iA, iL, oA, oL, gA', gL', cA, fA)) (H0 : ex_sp d e 0 a 0 ≠ some (ex_go d e 0) → ∀ gA' gL', post 0 (fe, rl, iA, iL, oA, oL, gA', gL', cA, fA)) :
    wpX_right post (fe, rl, iA, iL, oA, oL, gA, gL, cA, fA) x := by
  subst hx
  unfold wpX_right
  dsimp only
  refine br_f (nI_pos (by omega)) (br_t (nI_lt (b := 200) ha (by decide)) ?_)
  refine ex_giveOnPairs hfe (by omega) D (fun gA' gL' G => ?_)
  dsimp only
  refine ex_goalState hfe (by omega) D ?_
  have hg := ex_go3 (show e ≤ 3 by omega) D
  refine ex_advance (s := 0) rfl rfl hfe (by omega) ha (by decide) D G ?_
  cases hq : ex_sp d e 0 a 0 with
  | none =>
    rw [hq] at H0
    exact br_f (fun h => ex_ne1 (k := ex_go d e 0) (by omega) h.symm) (H0 (fun h => nomatch h) gA' gL')
  | some t =>
    have ht := (ex_sp_some d e 0 a 0 t (ex_hd D) hq).1
    rw [hq] at H0 H1
    exact pk_eq t (ex_go d e 0) (fun h => H1 (congrArg some h) gA' gL') (fun h => H0 (fun h2 => h (Option.some.inj h2)) gA' gL')
end
