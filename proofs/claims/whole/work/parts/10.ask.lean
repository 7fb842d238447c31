theorem i_vc_least {k : Nat} {u : SX} {v : SY} (I : i_Rel k u v) (hk : k + 2 ≤ 1024) : wpX_least (fun r u' => wpY_least (fun r' v' => r' = r ∧ i_Rel (k + 2) u' v') v) u := by
  obtain ⟨fe, rl, iA, iL, oA, oL, gA, gL, cA, fA⟩ := u
  obtain ⟨fe', fd, jA, pA, jL, pL, mA, rA, sA⟩ := v
  obtain ⟨d, e, he, h1, h2, DX, DY⟩ := I
  dsimp only at h1 h2 DX DY
  subst h1 h2
  unfold wpX_least
  dsimp only
  refine ex_countPrograms rfl (by omega) (ex_xd_le (by omega) DX) (fun gA' gL' cA' G C => ?_)
  dsimp only
  refine ex_leastCounted C ?_
  exact ex_yleast rfl he DY (fun h _ _ _ => ⟨(if_pos h).symm, ex_rel he DX DY⟩) (fun h _ _ _ _ => ⟨(if_neg h).symm, ex_rel he DX DY⟩)
theorem i_vc_programs {k : Nat} {u : SX} {v : SY} (I : i_Rel k u v) (hk : k + 2 ≤ 1024) (v1 : Int32) : wpX_programs (fun r u' => wpY_programs (fun r' v' => r' = r ∧ i_Rel (k + 2) u' v') v v1) u v1 := by
  obtain ⟨fe, rl, iA, iL, oA, oL, gA, gL, cA, fA⟩ := u
  obtain ⟨fe', fd, jA, pA, jL, pL, mA, rA, sA⟩ := v
  obtain ⟨d, e, he, h1, h2, DX, DY⟩ := I
  dsimp only at h1 h2 DX DY
  subst h1 h2
  unfold wpX_programs wpY_programs
  dsimp only
  have R := fun gA' gL' cA' fd' mA' rA' => ex_rel (k := k + 2) (rl := rl) (gA := gA') (gL := gL') (cA := cA') (fA := fA) (fd := fd') (mA := mA') (rA := rA') (sA := sA) he DX DY
  rcases pk_ix v1 (n := 4) (by decide) with h | h | ⟨c, hc, rfl⟩
  · have h1 : v1 < 1 := Int32.lt_trans h (by decide)
    exact br_t h1 (br_t h1 ⟨rfl, R _ _ _ _ _ _⟩)
  · have h1 : ¬ v1 < 1 := Int32.not_lt.mpr (Int32.le_trans (by decide) h)
    have h3 : ¬ v1 ≤ 3 := fun h3 => absurd (Int32.le_trans h h3) (by decide)
    exact br_f h1 (br_f h3 (br_f h1 (br_f h3 ⟨rfl, R _ _ _ _ _ _⟩)))
  · by_cases h0 : c = 0
    · subst h0
      exact br_t (by decide) (br_t (by decide) ⟨rfl, R _ _ _ _ _ _⟩)
    · obtain ⟨q, rfl⟩ : ∃ q, c = q + 1 := ⟨c - 1, by omega⟩
      have h1 : ¬ nI (q + 1) < 1 := nI_nlt (b := 1) (by omega) (by omega)
      have h3 : nI (q + 1) ≤ 3 := nI_le (b := 3) (by omega) (by decide)
      refine br_f h1 (br_t h3 ?_)
      refine ex_countPrograms rfl (by omega) (ex_xd_le (by omega) DX) (fun gA' gL' cA' G C => ?_)
      have ei : nI (q + 1) * 343 = nI ((q + 1) * 343) := pk_mul _ 343
      have ec : cA' (nI (q + 1) * 343).toNatClampNeg = nI (ex_ct d e (q + 1) 0) := by
        have h5 := C (q + 1) hc 0 (Nat.succ_pos _)
        rw [Nat.add_zero] at h5
        rw [ei, nI_clamp (by omega)]
        exact h5
      refine ⟨by rw [ei]; exact vp_in_nI (by omega) (by decide), br_f h1 (br_t h3 ?_)⟩
      exact ex_search (ty := 0) rfl rfl (by omega) rfl he (by decide) DY (fun fd' mA' rA' _ => ⟨ec.symm, R _ _ _ _ _ _⟩)
theorem i_vc_atom {k : Nat} {u : SX} {v : SY} (I : i_Rel k u v) (hk : k + 2 ≤ 1024) (v1 : Int32) : wpX_atom (fun r u' => wpY_atom (fun r' v' => r' = r ∧ i_Rel (k + 2) u' v') v v1) u v1 := by
  obtain ⟨fe, rl, iA, iL, oA, oL, gA, gL, cA, fA⟩ := u
  obtain ⟨fe', fd, jA, pA, jL, pL, mA, rA, sA⟩ := v
  obtain ⟨d, e, he, h1, h2, DX, DY⟩ := I
  dsimp only at h1 h2 DX DY
  subst h1 h2
  unfold wpX_atom wpY_atom
  dsimp only
  have hl := ex_ls_le d e
  refine ex_findFirst rfl (by omega) (ex_xd_le (by omega) DX) (fun h0 gA' gL' cA' => ?_) (fun h0 gA' gL' cA' fA' hf => ?_)
  · refine br_c (fun _ => ?_) (fun hn => br_f (fun h3 => hn (Int32.lt_trans h3 (by decide))) ?_)
    · exact ex_yleast rfl he DY (fun _ _ _ _ => br_t (by decide) ⟨rfl, ex_rel he DX DY⟩) (fun h _ _ _ _ => absurd h0 h)
    · exact ex_yleast rfl he DY (fun _ _ _ _ => br_t (by decide) ⟨rfl, ex_rel he DX DY⟩) (fun h _ _ _ _ => absurd h0 h)
  · rcases pk_ix v1 (n := ex_ls d e) (by omega) with h | h | ⟨c, hc, rfl⟩
    · refine br_t h ?_
      exact ex_yleast rfl he DY (fun h _ _ _ => absurd h h0) (fun _ _ _ _ _ => br_f (nI_pos (by omega)) (br_t h ⟨rfl, ex_rel he DX DY⟩))
    · refine br_f (ex_nneg (by omega) h) (br_f (ex_nlt h) ?_)
      exact ex_yleast rfl he DY (fun h _ _ _ => absurd h h0) (fun _ _ _ _ _ => br_f (nI_pos (by omega)) (br_f (ex_nneg (by omega) h) (br_f (ex_nlt h) ⟨rfl, ex_rel he DX DY⟩)))
    · have hin : vp_in (nI c) 3 := vp_in_nI (by omega) (by decide)
      have hcl : (nI c).toNatClampNeg = c := nI_clamp (by omega)
      refine br_f (nI_pos (by omega)) (br_t (nI_lt hc (by omega)) ⟨hin, ?_⟩)
      refine ex_yleast rfl he DY (fun h _ _ _ => absurd h h0) (fun _ _ _ rB hr => br_f (nI_pos (by omega)) (br_f (nI_pos (by omega)) (br_t (nI_lt hc (by omega)) ⟨hin, ?_, ex_rel he DX DY⟩)))
      show rB (nI c).toNatClampNeg = fA' (nI c).toNatClampNeg
      rw [hcl, hr c hc, hf c hc]
theorem i_vc_can {k : Nat} {u : SX} {v : SY} (I : i_Rel k u v) (hk : k + 2 ≤ 1024) : wpX_can (fun r u' => wpY_can (fun r' v' => r' = r ∧ i_Rel (k + 2) u' v') v) u := by
  obtain ⟨fe, rl, iA, iL, oA, oL, gA, gL, cA, fA⟩ := u
  obtain ⟨fe', fd, jA, pA, jL, pL, mA, rA, sA⟩ := v
  obtain ⟨d, e, he, h1, h2, DX, DY⟩ := I
  dsimp only at h1 h2 DX DY
  subst h1 h2
  unfold wpX_can wpY_can
  dsimp only
  have hb := ex_ct_b d (e + 1) (ex_ls_le d e) 0
  refine ex_xways rfl he DX (fun h0 gA' gL' cA' => ?_) (fun h0 gA' gL' cA' => ?_)
  · exact br_t (by decide) (ex_yways rfl he DY (fun _ _ _ _ => br_t (by decide) ⟨rfl, ex_rel he DX DY⟩) (fun h _ _ _ => absurd h0 h))
  · refine pk_le (ex_ct d (e + 1) (ex_ls d e) 0) 0 (fun h => ?_) (fun h => ?_)
    · exact ex_yways rfl he DY (fun h _ _ _ => absurd h h0) (fun _ _ _ _ => br_t (nI_le (b := 0) h (by decide)) ⟨rfl, ex_rel he DX DY⟩)
    · exact ex_yways rfl he DY (fun h _ _ _ => absurd h h0) (fun _ _ _ _ => br_f (nI_nle h (by omega)) ⟨rfl, ex_rel he DX DY⟩)
theorem i_vc_ways {k : Nat} {u : SX} {v : SY} (I : i_Rel k u v) (hk : k + 2 ≤ 1024) : wpX_ways (fun r u' => wpY_ways (fun r' v' => r' = r ∧ i_Rel (k + 2) u' v') v) u := by
  obtain ⟨fe, rl, iA, iL, oA, oL, gA, gL, cA, fA⟩ := u
  obtain ⟨fe', fd, jA, pA, jL, pL, mA, rA, sA⟩ := v
  obtain ⟨d, e, he, h1, h2, DX, DY⟩ := I
  dsimp only at h1 h2 DX DY
  subst h1 h2
  refine ex_xways rfl he DX (fun h0 gA' gL' cA' => ?_) (fun h0 gA' gL' cA' => ?_)
  · exact ex_yways rfl he DY (fun _ _ _ _ => ⟨rfl, ex_rel he DX DY⟩) (fun h _ _ _ => absurd h0 h)
  · exact ex_yways rfl he DY (fun h _ _ _ => absurd h h0) (fun _ _ _ _ => ⟨rfl, ex_rel he DX DY⟩)
theorem i_vc_resultLength {k : Nat} {u : SX} {v : SY} (I : i_Rel k u v) (hk : k + 2 ≤ 1024) : wpX_resultLength (fun r u' => wpY_resultLength (fun r' v' => r' = r ∧ i_Rel (k + 2) u' v') v) u := by
  obtain ⟨fe, rl, iA, iL, oA, oL, gA, gL, cA, fA⟩ := u
  obtain ⟨fe', fd, jA, pA, jL, pL, mA, rA, sA⟩ := v
  obtain ⟨d, e, he, h1, h2, DX, DY⟩ := I
  dsimp only at h1 h2 DX DY
  subst h1 h2
  unfold wpX_resultLength wpY_resultLength
  dsimp only
  have hl := ex_ls_le d e
  obtain ⟨d0, d1, d2, d3, d4⟩ := DX e (by omega)
  refine ex_findFirst rfl (by omega) (ex_xd_le (by omega) DX) (fun h0 gA' gL' cA' => ?_) (fun h0 gA' gL' cA' fA' hf => ?_)
  · dsimp only
    unfold wpX_turnIn
    dsimp only
    refine br_t rfl ?_
    exact ex_make rfl he DY (fun _ _ _ _ _ => ⟨rfl, ex_rel he DX DY⟩) (fun h => absurd h0 h)
  · dsimp only
    refine ex_turnIn (f := ex_at d e (ex_ls d e)) rfl rfl (by omega) hl d1 d2 d0 (fun i hi => ⟨hf i hi, (ex_at_p (ex_ls_p h0) hi).1⟩) (fun hn rl' gB gM => ?_) (fun q hq gB gM => ?_)
    · exact ex_make rfl he DY (fun _ _ _ _ _ => ⟨rfl, ex_rel he DX DY⟩) (fun _ q' hq' => by rw [hn] at hq'; exact nomatch hq')
    · refine ex_make rfl he DY (fun h => ?_) (fun _ q' hq' _ _ _ _ _ => ?_)
      · rcases h with h | h
        · exact absurd h h0
        · rw [hq] at h; exact nomatch h
      · rw [hq] at hq'
        cases hq'
        exact ⟨rfl, ex_rel he DX DY⟩
theorem ex_get {R i : Nat} (hR : R < 2 ^ 62) (hi : i < 18) : ((lN R >>> ((2 * nI i).toInt64 &&& 63)).toInt32) &&& 3 = nI (R / 4 ^ i % 4) := by
  have e2 : (2 : Int32) * nI i = nI (2 * i) := pk_mul 2 i
  have e3 : ((nI (2 * i)).toInt64 &&& 63) = lN (2 * i) := wb_c _ (by omega)
  rw [e2, e3, pf_shr (d := 2 * i) (by rw [wb_tb, wb_sm _ (by omega), BitVec.toNat_ofNat, Nat.mod_eq_of_lt (by omega)]) hR, lN_i, ← ex_42, pk_and _ 2 (by decide)]
  show nI (R / 4 ^ i % 2 ^ 32 % 2 ^ 2) = _
  rw [Nat.mod_mod_of_dvd _ (by decide)]
theorem i_vc_result {k : Nat} {u : SX} {v : SY} (I : i_Rel k u v) (hk : k + 2 ≤ 1024) (v1 : Int32) : wpX_result (fun r u' => wpY_result (fun r' v' => r' = r ∧ i_Rel (k + 2) u' v') v v1) u v1 := by
  obtain ⟨fe, rl, iA, iL, oA, oL, gA, gL, cA, fA⟩ := u
  obtain ⟨fe', fd, jA, pA, jL, pL, mA, rA, sA⟩ := v
  obtain ⟨d, e, he, h1, h2, DX, DY⟩ := I
  dsimp only at h1 h2 DX DY
  subst h1 h2
  unfold wpX_result wpY_result
  dsimp only
  have hl := ex_ls_le d e
  obtain ⟨d0, d1, d2, d3, d4⟩ := DX e (by omega)
  have n3 : ∀ {x : Int32}, ¬ x < 0 → ¬ x < -3 := fun hn h => hn (Int32.lt_trans h (by decide))
  have p3 : ∀ {x : Int32}, ¬ x < 0 → (-3 : Int32) ≤ x := fun hn => Int32.le_trans (by decide) (Int32.not_lt.mp hn)
  refine ex_findFirst rfl (by omega) (ex_xd_le (by omega) DX) (fun h0 gA' gL' cA' => ?_) (fun h0 gA' gL' cA' fA' hf => ?_)
  · dsimp only
    unfold wpX_turnIn
    dsimp only
    refine br_t rfl (br_c (fun hn => ?_) (fun hn => br_f (n3 hn) ?_))
    · exact ex_make rfl he DY (fun _ _ _ _ _ => br_t hn ⟨rfl, ex_rel he DX DY⟩) (fun h => absurd h0 h)
    · exact ex_make rfl he DY (fun _ _ _ _ _ => br_f hn (br_t (p3 hn) ⟨rfl, ex_rel he DX DY⟩)) (fun h => absurd h0 h)
  · dsimp only
    refine ex_turnIn (f := ex_at d e (ex_ls d e)) rfl rfl (by omega) hl d1 d2 d0 (fun i hi => ⟨hf i hi, (ex_at_p (ex_ls_p h0) hi).1⟩) (fun hn rl' gB gM => ?_) (fun q hq gB gM => ?_)
    · refine br_c (fun hv => ?_) (fun hv => br_f (n3 hv) ?_)
      · exact ex_make rfl he DY (fun _ _ _ _ _ => br_t hv ⟨rfl, ex_rel he DX DY⟩) (fun _ q' hq' => by rw [hn] at hq'; exact nomatch hq')
      · exact ex_make rfl he DY (fun _ _ _ _ _ => br_f hv (br_t (p3 hv) ⟨rfl, ex_rel he DX DY⟩)) (fun _ q' hq' => by rw [hn] at hq'; exact nomatch hq')
    · obtain ⟨q1, q2⟩ := ex_re_ok d0.2.1 _ _ q hq
      have no : ∀ {A : Prop}, (ex_ls d e = 0 ∨ ex_re (d e).1 (d e).2.1 (ex_at d e (ex_ls d e)) (ex_ls d e) = none) → A := fun h => by
        rcases h with h | h
        · exact absurd h h0
        · rw [hq] at h; exact nomatch h
      have h18 : q.2 ≤ 18 := by omega
      rcases pk_ix v1 (n := q.2) (by omega) with h | h | ⟨c, hc, rfl⟩
      · refine br_t h ?_
        refine ex_make rfl he DY (fun h => no h) (fun _ q' hq' _ _ _ _ _ => ?_)
        exact br_t h ⟨rfl, ex_rel he DX DY⟩
      · refine br_f (ex_nneg (by omega) h) (br_f (ex_nlt h) ?_)
        refine ex_make rfl he DY (fun h => no h) (fun _ q' hq' _ _ _ _ _ => ?_)
        rw [hq] at hq'
        cases hq'
        exact br_f (ex_nneg (by omega) h) (br_t h ⟨rfl, ex_rel he DX DY⟩)
      · refine br_f (nI_pos (by omega)) (br_t (nI_lt hc (by omega)) ?_)
        refine ex_make rfl he DY (fun h => no h) (fun _ q' hq' _ _ _ sB hs => ?_)
        rw [hq] at hq'
        cases hq'
        refine br_f (nI_pos (by omega)) (br_f (nI_ge hc (by omega)) (br_t (nI_le (b := 17) (by omega) (by decide)) ⟨vp_in_nI (by omega) (by decide), ?_, ex_rel he DX DY⟩))
        have hR : 4 ^ q.2 ≤ 4 ^ 18 := Nat.pow_le_pow_right (by decide) h18
        have h36 : 4 ^ 18 < 2 ^ 62 := by decide
        show sB (nI c).toNatClampNeg = ((lN q.1 >>> ((2 * nI c).toInt64 &&& 63)).toInt32) &&& 3
        rw [nI_clamp (by omega), hs c hc, ex_get (by omega) (by omega)]
theorem i_vc_right {k : Nat} {u : SX} {v : SY} (I : i_Rel k u v) (hk : k + 2 ≤ 1024) (v1 : Int32) : wpX_right (fun r u' => wpY_right (fun r' => r' = r ∧ i_Rel (k + 2) u' v) v v1) u v1 := by
  obtain ⟨fe, rl, iA, iL, oA, oL, gA, gL, cA, fA⟩ := u
  obtain ⟨fe', fd, jA, pA, jL, pL, mA, rA, sA⟩ := v
  obtain ⟨d, e, he, h1, h2, DX, DY⟩ := I
  dsimp only at h1 h2 DX DY
  subst h1 h2
  rcases pk_ix v1 (n := 200) (by decide) with h | h | ⟨c, hc, rfl⟩
  · unfold wpX_right wpY_right
    dsimp only
    exact br_t h (br_t h ⟨rfl, ex_rel he DX DY⟩)
  · unfold wpX_right wpY_right
    dsimp only
    have h9 : ¬ v1 ≤ 199 := fun h3 => absurd (Int32.le_trans h h3) (by decide)
    exact br_f (ex_nneg (by decide) h) (br_f (ex_nlt h) (br_f (ex_nneg (by decide) h) (br_f h9 ⟨rfl, ex_rel he DX DY⟩)))
  · refine ex_xright rfl rfl he hc (ex_xd_le (by omega) DX) (fun hs gA' gL' => ?_) (fun hs gA' gL' => ?_)
    · exact ex_yright rfl rfl he hc DY (fun _ => ⟨rfl, ex_rel he DX DY⟩) (fun h => absurd hs h)
    · exact ex_yright rfl rfl he hc DY (fun h => absurd h hs) (fun _ => ⟨rfl, ex_rel he DX DY⟩)
