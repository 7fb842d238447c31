def ex_ds (d : Nat → ex_P) (e : Nat) (p : ex_P) : Nat → ex_P := fun j => if j = e then p else d j
theorem ex_ds_s (d : Nat → ex_P) (e : Nat) (p : ex_P) : ex_ds d e p e = p := if_pos rfl
theorem ex_ds_n (d : Nat → ex_P) {e j : Nat} (p : ex_P) (h : j ≠ e) : ex_ds d e p j = d j := if_neg h
theorem ex_xd_up {d : Nat → ex_P} {e : Nat} {p : ex_P} {iA iL oA oL iA' iL' oA' oL' : Nat → Int32} (D : ex_xd d e iA iL oA oL)
    (hk : ∀ j, j < e → iA' j = iA j ∧ iL' j = iL j ∧ oA' j = oA j ∧ oL' j = oL j) (hn : ex_ok p ∧ iA' e = nI p.1 ∧ iL' e = nI p.2.1 ∧ oA' e = nI p.2.2.1 ∧ oL' e = nI p.2.2.2) :
    ex_xd (ex_ds d e p) (e + 1) iA' iL' oA' oL' := by
  intro j hj
  by_cases h : j = e
  · subst h; rw [ex_ds_s]; exact hn
  · rw [ex_ds_n d p h]
    obtain ⟨h1, h2, h3, h4⟩ := hk j (by omega)
    rw [h1, h2, h3, h4]
    exact D j (by omega)
theorem ex_yp_c {p : ex_P} {y z : Nat} {jA pA jL pL jA' pA' jL' pL' : Nat → Int32} (Y : ex_yp p y jA pA jL pL) (h1 : jL' z = jL y) (h2 : pL' z = pL y) (h3 : ∀ i, i < 6 → jA' (z * 6 + i) = jA (y * 6 + i)) (h4 : ∀ i, i < 6 → pA' (z * 6 + i) = pA (y * 6 + i)) : ex_yp p z jA' pA' jL' pL' := by
  obtain ⟨hok, y1, y2, y3, y4⟩ := Y
  have a1 := hok.2.1
  have a2 := hok.2.2.2
  refine ⟨hok, h1.trans y1, h2.trans y2, fun i hi => ?_, fun i hi => ?_⟩
  · rw [h3 i (by omega)]; exact y3 i hi
  · rw [h4 i (by omega)]; exact y4 i hi
theorem ex_yd_up {d : Nat → ex_P} {e : Nat} {p : ex_P} {jA pA jL pL jA' pA' jL' pL' : Nat → Int32} (he : e ≤ 2) (D : ∀ j, j < e → ex_yp (d j) j jA pA jL pL) (hk : ∀ j, j < e → jL' j = jL j ∧ pL' j = pL j) (hk2 : ∀ i, i < e * 6 → jA' i = jA i ∧ pA' i = pA i) (hn : ex_yp p 2 jA' pA' jL' pL') :
    ex_yd (ex_ds d e p) e jA' pA' jL' pL' := by
  intro j hj
  by_cases h : j = e
  · subst h; rw [ex_ds_s, if_neg (Nat.lt_irrefl _)]; exact hn
  · rw [ex_ds_n d p h, if_pos (by omega)]
    exact ex_yp_c (D j (by omega)) (hk j (by omega)).1 (hk j (by omega)).2 (fun i hi => (hk2 _ (by omega)).1) (fun i hi => (hk2 _ (by omega)).2)
theorem ex_yd_lo {d : Nat → ex_P} {e : Nat} {jA pA jL pL : Nat → Int32} (D : ex_yd d e jA pA jL pL) : ∀ j, j < e → ex_yp (d j) j jA pA jL pL := fun j hj => by
  have h := D j (by omega)
  rw [if_pos hj] at h
  exact h
theorem ex_yd_hi {d : Nat → ex_P} {e : Nat} {jA pA jL pL : Nat → Int32} (D : ex_yd d e jA pA jL pL) : ex_yp (d e) 2 jA pA jL pL := by
  have h := D e (Nat.le_refl _)
  rw [if_neg (Nat.lt_irrefl e)] at h
  exact h
def i_Rel (k : Nat) (u : SX) (v : SY) : Prop := ∃ (d : Nat → ex_P) (e : Nat), e ≤ 2 ∧ u.1 = nI e ∧ v.1 = nI e ∧ ex_xd d (e + 1) u.2.2.1 u.2.2.2.1 u.2.2.2.2.1 u.2.2.2.2.2.1 ∧ ex_yd d e v.2.2.1 v.2.2.2.1 v.2.2.2.2.1 v.2.2.2.2.2.1
theorem i_up {k : Nat} {u : SX} {v : SY} (h : i_Rel k u v) : i_Rel (k + 2) u v := h
theorem ex_rel {k : Nat} {d : Nat → ex_P} {e : Nat} {rl : Int64} {iA iL oA oL gA gL cA fA : Nat → Int32} {fd : Int32} {jA pA jL pL mA rA sA : Nat → Int32} (he : e ≤ 2) (DX : ex_xd d (e + 1) iA iL oA oL) (DY : ex_yd d e jA pA jL pL) :
    i_Rel k (nI e, rl, iA, iL, oA, oL, gA, gL, cA, fA) (nI e, fd, jA, pA, jL, pL, mA, rA, sA) := ⟨d, e, he, rfl, rfl, DX, DY⟩
theorem ex_ok0 : ex_ok (0, 0, 0, 0) := ⟨by decide, by decide, by decide, by decide⟩
theorem i_vc0 : wpX_init (fun u => wpY_init (fun v => i_Rel 0 u v)) :=
  ⟨fun _ => (0, 0, 0, 0), 0, by decide, rfl, rfl, fun _ _ => ⟨ex_ok0, rfl, rfl, rfl, rfl⟩, fun _ _ => ⟨ex_ok0, rfl, rfl, fun i hi => absurd hi (Nat.not_lt_zero i), fun i hi => absurd hi (Nat.not_lt_zero i)⟩⟩
theorem ex_lg {n l c i : Nat} (hn : n < 4 ^ l) (hc : c < 4) {A : Nat → Int32} {b : Nat} (h : ∀ i, i < l → A (b + i) = nI (n / 4 ^ i % 4)) (hi : i < l + 1) : upd A (b + l) (nI c) (b + i) = nI ((n + c * 4 ^ l) / 4 ^ i % 4) := by
  by_cases e : i = l
  · subst e
    rw [pk_us, show (n + c * 4 ^ i) / 4 ^ i % 4 = c / 4 ^ 0 % 4 from ex_dhi (c := 0) hn, Nat.pow_zero, Nat.div_one, Nat.mod_eq_of_lt hc]
  · rw [pk_un (by omega), ex_dlo hn (by omega)]
    exact h i (by omega)
theorem i_vc_typeIn {k : Nat} {u : SX} {v : SY} (I : i_Rel k u v) (hk : k + 2 ≤ 1024) (v1 : Int32) : wpX_typeIn (fun r u' => wpY_typeIn (fun r' v' => r' = r ∧ i_Rel (k + 2) u' v') v v1) u v1 := by
  obtain ⟨fe, rl, iA, iL, oA, oL, gA, gL, cA, fA⟩ := u
  obtain ⟨fe', fd, jA, pA, jL, pL, mA, rA, sA⟩ := v
  obtain ⟨d, e, he, h1, h2, DX, DY⟩ := I
  dsimp only at h1 h2 DX DY
  subst h1 h2
  have bad : ∀ (h : v1 < 0 ∨ nI 4 ≤ v1), wpX_typeIn (fun r u' => wpY_typeIn (fun r' v' => r' = r ∧ i_Rel (k + 2) u' v') (nI e, fd, jA, pA, jL, pL, mA, rA, sA) v1) (nI e, rl, iA, iL, oA, oL, gA, gL, cA, fA) v1 := fun h =>
    ex_abIn h (ex_ybIn h ⟨rfl, ex_rel he DX DY⟩)
  rcases pk_ix v1 (n := 4) (by decide) with h | h | ⟨c, hc, rfl⟩
  · exact bad (Or.inl h)
  · exact bad (Or.inr h)
  obtain ⟨d0, d1, d2, d3, d4⟩ := DX e (by omega)
  have Y := ex_yd_hi DY
  refine ex_apIn he d1 d2 d0.1 d0.2.1 hc (fun hl => ?_) (fun hl => ?_)
  · refine ex_ytIn Y.2.1 d0.2.1 hc (fun _ => ⟨rfl, ?_⟩) (fun hl' => absurd hl' (by omega))
    refine ex_rel (d := ex_ds d e ((d e).1 + c * 4 ^ (d e).2.1, (d e).2.1 + 1, (d e).2.2.1, (d e).2.2.2)) he ?_ ?_
    · exact ex_xd_up (ex_xd_le (by omega) DX) (fun j hj => ⟨pk_un (by omega), pk_un (by omega), rfl, rfl⟩) ⟨⟨ex_pw4 (k := 1) d0.1 hc, hl, d0.2.2.1, d0.2.2.2⟩, pk_us, pk_us, d3, d4⟩
    · refine ex_yd_up he (ex_yd_lo DY) (fun j hj => ⟨pk_un (by omega), rfl⟩) (fun i hi => ⟨pk_un (by omega), rfl⟩) ⟨⟨ex_pw4 (k := 1) d0.1 hc, hl, d0.2.2.1, d0.2.2.2⟩, pk_us, Y.2.2.1, fun i hi => ?_, Y.2.2.2.2⟩
      exact ex_lg d0.1 hc Y.2.2.2.1 hi
  · exact ex_ytIn Y.2.1 d0.2.1 hc (fun hl' => absurd hl (by omega)) (fun _ => ⟨rfl, ex_rel he DX DY⟩)
theorem i_vc_typeOut {k : Nat} {u : SX} {v : SY} (I : i_Rel k u v) (hk : k + 2 ≤ 1024) (v1 : Int32) : wpX_typeOut (fun r u' => wpY_typeOut (fun r' v' => r' = r ∧ i_Rel (k + 2) u' v') v v1) u v1 := by
  obtain ⟨fe, rl, iA, iL, oA, oL, gA, gL, cA, fA⟩ := u
  obtain ⟨fe', fd, jA, pA, jL, pL, mA, rA, sA⟩ := v
  obtain ⟨d, e, he, h1, h2, DX, DY⟩ := I
  dsimp only at h1 h2 DX DY
  subst h1 h2
  have bad : ∀ (h : v1 < 0 ∨ nI 4 ≤ v1), wpX_typeOut (fun r u' => wpY_typeOut (fun r' v' => r' = r ∧ i_Rel (k + 2) u' v') (nI e, fd, jA, pA, jL, pL, mA, rA, sA) v1) (nI e, rl, iA, iL, oA, oL, gA, gL, cA, fA) v1 := fun h =>
    ex_abOut h (ex_ybOut h ⟨rfl, ex_rel he DX DY⟩)
  rcases pk_ix v1 (n := 4) (by decide) with h | h | ⟨c, hc, rfl⟩
  · exact bad (Or.inl h)
  · exact bad (Or.inr h)
  obtain ⟨d0, d1, d2, d3, d4⟩ := DX e (by omega)
  have Y := ex_yd_hi DY
  refine ex_apOut he d3 d4 d0.2.2.1 d0.2.2.2 hc (fun hl => ?_) (fun hl => ?_)
  · refine ex_ytOut Y.2.2.1 d0.2.2.2 hc (fun _ => ⟨rfl, ?_⟩) (fun hl' => absurd hl' (by omega))
    refine ex_rel (d := ex_ds d e ((d e).1, (d e).2.1, (d e).2.2.1 + c * 4 ^ (d e).2.2.2, (d e).2.2.2 + 1)) he ?_ ?_
    · exact ex_xd_up (ex_xd_le (by omega) DX) (fun j hj => ⟨rfl, rfl, pk_un (by omega), pk_un (by omega)⟩) ⟨⟨d0.1, d0.2.1, ex_pw4 (k := 1) d0.2.2.1 hc, hl⟩, d1, d2, pk_us, pk_us⟩
    · refine ex_yd_up he (ex_yd_lo DY) (fun j hj => ⟨rfl, pk_un (by omega)⟩) (fun i hi => ⟨rfl, pk_un (by omega)⟩) ⟨⟨d0.1, d0.2.1, ex_pw4 (k := 1) d0.2.2.1 hc, hl⟩, Y.2.1, pk_us, Y.2.2.2.1, fun i hi => ?_⟩
      exact ex_lg d0.2.2.1 hc Y.2.2.2.2 hi
  · exact ex_ytOut Y.2.2.1 d0.2.2.2 hc (fun hl' => absurd hl (by omega)) (fun _ => ⟨rfl, ex_rel he DX DY⟩)
theorem i_vc_erase {k : Nat} {u : SX} {v : SY} (I : i_Rel k u v) (hk : k + 2 ≤ 1024) : wpX_erase (fun u' => wpY_erase (fun v' => i_Rel (k + 2) u' v') v) u := by
  obtain ⟨fe, rl, iA, iL, oA, oL, gA, gL, cA, fA⟩ := u
  obtain ⟨fe', fd, jA, pA, jL, pL, mA, rA, sA⟩ := v
  obtain ⟨d, e, he, h1, h2, DX, DY⟩ := I
  dsimp only at h1 h2 DX DY
  subst h1 h2
  have hin : vp_in (nI e) 3 := vp_in_nI (by omega) (by decide)
  have hcl : (nI e).toNatClampNeg = e := nI_clamp (by omega)
  unfold wpX_erase wpY_erase
  dsimp only
  rw [hcl]
  refine ⟨hin, nm_e ⟨hin, nm_e ⟨hin, nm_e ⟨hin, nm_e (nm_e (nm_e ?_))⟩⟩⟩⟩
  have ok0 : ex_ok (0, 0, 0, 0) := ⟨by decide, by decide, by decide, by decide⟩
  refine ex_rel (d := ex_ds d e (0, 0, 0, 0)) he ?_ ?_
  · exact ex_xd_up (ex_xd_le (by omega) DX) (fun j hj => ⟨pk_un (by omega), pk_un (by omega), pk_un (by omega), pk_un (by omega)⟩) ⟨ok0, pk_us, pk_us, pk_us, pk_us⟩
  · exact ex_yd_up he (ex_yd_lo DY) (fun j hj => ⟨pk_un (by omega), pk_un (by omega)⟩) (fun i hi => ⟨rfl, rfl⟩) ⟨ok0, pk_us, pk_us, fun i hi => absurd hi (Nat.not_lt_zero i), fun i hi => absurd hi (Nat.not_lt_zero i)⟩
theorem i_vc_learn {k : Nat} {u : SX} {v : SY} (I : i_Rel k u v) (hk : k + 2 ≤ 1024) : wpX_learn (fun r u' => wpY_learn (fun r' v' => r' = r ∧ i_Rel (k + 2) u' v') v) u := by
  obtain ⟨fe, rl, iA, iL, oA, oL, gA, gL, cA, fA⟩ := u
  obtain ⟨fe', fd, jA, pA, jL, pL, mA, rA, sA⟩ := v
  obtain ⟨d, e, he, h1, h2, DX, DY⟩ := I
  dsimp only at h1 h2 DX DY
  subst h1 h2
  unfold wpX_learn wpY_learn
  dsimp only
  refine pk_lt e 2 (fun h => ?_) (fun h => ?_)
  · refine ex_copy rfl (nI_1 e) (by omega) (by omega) (nm_r (nI_1 e) ?_)
    refine br_f (fun h3 => absurd ((nI_eq (a := e) (b := 2) (by omega) (by decide)).mp h3) (by omega)) ?_
    refine ⟨7, ex_yl13 h (fun jA' pA' g1 g2 => ⟨rfl, ?_⟩) 6 0 jA pA rfl (fun t ht => absurd ht (Nat.not_lt_zero t)) (fun t _ => ⟨rfl, rfl⟩)⟩
    obtain ⟨d0, d1, d2, d3, d4⟩ := DX e (by omega)
    have Y := ex_yd_hi DY
    refine ex_rel (d := ex_ds d (e + 1) (d e)) (by omega) ?_ ?_
    · exact ex_xd_up DX (fun j hj => ⟨pk_un (by omega), pk_un (by omega), pk_un (by omega), pk_un (by omega)⟩) ⟨d0, pk_us.trans d1, pk_us.trans d2, pk_us.trans d3, pk_us.trans d4⟩
    · refine ex_yd_up (jA := jA') (pA := pA') (jL := upd jL e (jL 2)) (pL := upd pL e (pL 2)) (by omega) (fun j hj => ?_) (fun j hj => ⟨rfl, rfl⟩) (fun i hi => ⟨rfl, rfl⟩) ?_
      · by_cases hj2 : j = e
        · subst hj2
          exact ex_yp_c Y pk_us pk_us (fun i hi => (g1 i hi).1) (fun i hi => (g1 i hi).2)
        · exact ex_yp_c (ex_yd_lo DY j (by omega)) (pk_un hj2) (pk_un hj2) (fun i hi => (g2 _ (by omega)).1) (fun i hi => (g2 _ (by omega)).2)
      · exact ex_yp_c Y (pk_un (by omega)) (pk_un (by omega)) (fun i hi => (g2 _ (by omega)).1) (fun i hi => (g2 _ (by omega)).2)
  · have e2 : e = 2 := by omega
    subst e2
    exact br_t rfl ⟨rfl, ex_rel he DX DY⟩
theorem i_vc_forget {k : Nat} {u : SX} {v : SY} (I : i_Rel k u v) (hk : k + 2 ≤ 1024) : wpX_forget (fun r u' => wpY_forget (fun r' v' => r' = r ∧ i_Rel (k + 2) u' v') v) u := by
  obtain ⟨fe, rl, iA, iL, oA, oL, gA, gL, cA, fA⟩ := u
  obtain ⟨fe', fd, jA, pA, jL, pL, mA, rA, sA⟩ := v
  obtain ⟨d, e, he, h1, h2, DX, DY⟩ := I
  dsimp only at h1 h2 DX DY
  subst h1 h2
  unfold wpX_forget wpY_forget
  dsimp only
  refine pk_lt 0 e (fun h => ?_) (fun h => ?_)
  · obtain ⟨j, rfl⟩ : ∃ j, e = j + 1 := ⟨e - 1, by omega⟩
    refine ex_copy rfl (nI_pred j) (by omega) (by omega) (nm_r (nI_pred j) ?_)
    refine br_f (nI_ne0 (by omega) (by omega)) (nm_r (nI_pred j) ⟨rfl, ?_⟩)
    obtain ⟨d0, d1, d2, d3, d4⟩ := DX (j + 1) (by omega)
    refine ex_rel (d := ex_ds d j (d (j + 1))) (by omega) ?_ ?_
    · exact ex_xd_up (ex_xd_le (by omega) DX) (fun i hi => ⟨pk_un (by omega), pk_un (by omega), pk_un (by omega), pk_un (by omega)⟩) ⟨d0, pk_us.trans d1, pk_us.trans d2, pk_us.trans d3, pk_us.trans d4⟩
    · exact ex_yd_up (by omega) (fun i hi => ex_yd_lo DY i (by omega)) (fun i hi => ⟨rfl, rfl⟩) (fun i hi => ⟨rfl, rfl⟩) (ex_yd_hi DY)
  · have e0 : e = 0 := by omega
    subst e0
    exact br_t rfl ⟨rfl, ex_rel he DX DY⟩
