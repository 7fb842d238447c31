theorem ex_nlt {x : Int32} {K : Nat} (h : nI K ≤ x) : ¬ x < nI K := Int32.not_lt.mpr h
theorem ex_nneg {x : Int32} {K : Nat} (hK : K < 2 ^ 31) (h : nI K ≤ x) : ¬ x < 0 := Int32.not_lt.mpr (Int32.le_trans (nI_pos' hK) h)
theorem ex_or (a b : Nat) : nI a ||| nI b = nI (a ||| b) := by
  apply Int32.toBitVec_inj.mp
  rw [Int32.toBitVec_or]
  show BitVec.ofNat 32 a ||| BitVec.ofNat 32 b = BitVec.ofNat 32 (a ||| b)
  apply BitVec.eq_of_toNat_eq
  rw [BitVec.toNat_or, BitVec.toNat_ofNat, BitVec.toNat_ofNat, BitVec.toNat_ofNat, Nat.or_mod_two_pow]
theorem ex_app {n l c : Nat} (hn : n < 4 ^ l) (hl : l ≤ 6) (hc : c < 4) : nI n ||| (nI c <<< ((2 * nI l) &&& 31)) = nI (n + c * 4 ^ l) := by
  have e1 : (2 : Int32) * nI l = nI (2 * l) := pk_mul 2 l
  have b1 := ex_4k hl
  have b2 : c * 4 ^ l ≤ 3 * 4096 := Nat.mul_le_mul (by omega) b1
  rw [e1, pk_shlN (nI (2 * l) &&& 31) (2 * l) (s_l _ (by omega)) (by rw [← ex_42]; omega), ex_or]
  have h1 : n ||| c * 2 ^ (2 * l) = c * 2 ^ (2 * l) + n := by
    rw [← Nat.shiftLeft_eq, Nat.or_comm, Nat.shiftLeft_add_eq_or_of_lt (by rw [← ex_42]; exact hn)]
  rw [h1, ← ex_42, Nat.add_comm]
section
variable {fe : Int32} {rl : Int64} {iA iL oA oL gA gL cA fA : Nat → Int32}
theorem ex_apIn {post : Int32 → SX → Prop} {e n l c : Nat} (he : e ≤ 2) (hA : iA e = nI n) (hL : iL e = nI l) (hn : n < 4 ^ l) (hl : l ≤ 6) (hc : c < 4)
    (H1 : l < 6 → post (nI (l + 1)) (nI e, rl, upd iA e (nI (n + c * 4 ^ l)), upd iL e (nI (l + 1)), oA, oL, gA, gL, cA, fA))
    (H0 : l = 6 → post (-2) (nI e, rl, iA, iL, oA, oL, gA, gL, cA, fA)) :
    wpX_typeIn post (nI e, rl, iA, iL, oA, oL, gA, gL, cA, fA) (nI c) := by
  unfold wpX_typeIn
  dsimp only
  unfold wpX_append__inLetters_inLength
  dsimp only
  have hin : vp_in (nI e) 3 := vp_in_nI (by omega) (by decide)
  have hcl : (nI e).toNatClampNeg = e := nI_clamp (by omega)
  refine br_f (nI_pos (by omega)) (br_t (nI_lt (b := 4) hc (by decide)) ⟨hin, ?_⟩)
  refine nm_r (e' := nI l) (by rw [hcl]; exact hL) ?_
  refine pk_lt l 6 (fun h => ⟨hin, hin, ?_⟩) (fun h => H0 (by omega))
  refine nm_r (e' := upd iA e (nI (n + c * 4 ^ l))) (by rw [hcl, hA, ex_app hn (by omega) hc]) ⟨hin, ?_⟩
  refine nm_r (e' := upd iL e (nI (l + 1))) (by rw [hcl, nI_1]) ?_
  rw [nI_1]
  exact H1 h
theorem ex_abIn {post : Int32 → SX → Prop} {x : Int32} (hx : x < 0 ∨ nI 4 ≤ x) (H : post (-1) (fe, rl, iA, iL, oA, oL, gA, gL, cA, fA)) :
    wpX_typeIn post (fe, rl, iA, iL, oA, oL, gA, gL, cA, fA) x := by
  unfold wpX_typeIn
  dsimp only
  unfold wpX_append__inLetters_inLength
  dsimp only
  rcases hx with h | h
  · exact br_t h H
  · exact br_f (ex_nneg (by decide) h) (br_f (ex_nlt h) H)
theorem ex_apOut {post : Int32 → SX → Prop} {e n l c : Nat} (he : e ≤ 2) (hA : oA e = nI n) (hL : oL e = nI l) (hn : n < 4 ^ l) (hl : l ≤ 6) (hc : c < 4)
    (H1 : l < 6 → post (nI (l + 1)) (nI e, rl, iA, iL, upd oA e (nI (n + c * 4 ^ l)), upd oL e (nI (l + 1)), gA, gL, cA, fA))
    (H0 : l = 6 → post (-2) (nI e, rl, iA, iL, oA, oL, gA, gL, cA, fA)) :
    wpX_typeOut post (nI e, rl, iA, iL, oA, oL, gA, gL, cA, fA) (nI c) := by
  unfold wpX_typeOut
  dsimp only
  unfold wpX_append__outLetters_outLength
  dsimp only
  have hin : vp_in (nI e) 3 := vp_in_nI (by omega) (by decide)
  have hcl : (nI e).toNatClampNeg = e := nI_clamp (by omega)
  refine br_f (nI_pos (by omega)) (br_t (nI_lt (b := 4) hc (by decide)) ⟨hin, ?_⟩)
  refine nm_r (e' := nI l) (by rw [hcl]; exact hL) ?_
  refine pk_lt l 6 (fun h => ⟨hin, hin, ?_⟩) (fun h => H0 (by omega))
  refine nm_r (e' := upd oA e (nI (n + c * 4 ^ l))) (by rw [hcl, hA, ex_app hn (by omega) hc]) ⟨hin, ?_⟩
  refine nm_r (e' := upd oL e (nI (l + 1))) (by rw [hcl, nI_1]) ?_
  rw [nI_1]
  exact H1 h
theorem ex_abOut {post : Int32 → SX → Prop} {x : Int32} (hx : x < 0 ∨ nI 4 ≤ x) (H : post (-1) (fe, rl, iA, iL, oA, oL, gA, gL, cA, fA)) :
    wpX_typeOut post (fe, rl, iA, iL, oA, oL, gA, gL, cA, fA) x := by
  unfold wpX_typeOut
  dsimp only
  unfold wpX_append__outLetters_outLength
  dsimp only
  rcases hx with h | h
  · exact br_t h H
  · exact br_f (ex_nneg (by decide) h) (br_f (ex_nlt h) H)
theorem ex_copy {post : SX → Prop} {a b : Nat} {x y : Int32} (hx : x = nI a) (hy : y = nI b) (ha : a < 3) (hb : b < 3)
    (H : post (fe, rl, upd iA b (iA a), upd iL b (iL a), upd oA b (oA a), upd oL b (oL a), gA, gL, cA, fA)) :
    wpX_copyPair post (fe, rl, iA, iL, oA, oL, gA, gL, cA, fA) x y := by
  subst hx hy
  have h1 : vp_in (nI a) 3 := vp_in_nI ha (by decide)
  have h2 : vp_in (nI b) 3 := vp_in_nI hb (by decide)
  have e1 : (nI a).toNatClampNeg = a := nI_clamp (by omega)
  have e2 : (nI b).toNatClampNeg = b := nI_clamp (by omega)
  unfold wpX_copyPair
  dsimp only
  rw [e1, e2]
  exact ⟨h1, h2, nm_e ⟨h1, h2, nm_e ⟨h1, h2, nm_e ⟨h1, h2, nm_e H⟩⟩⟩⟩
end
section
variable {fe fd : Int32} {jA pA jL pL mA rA sA : Nat → Int32}
theorem ex_ytIn {post : Int32 → SY → Prop} {l c : Nat} (hL : jL 2 = nI l) (hl : l ≤ 6) (hc : c < 4)
    (H1 : l < 6 → post (nI (l + 1)) (fe, fd, upd jA (12 + l) (nI c), pA, upd jL 2 (nI (l + 1)), pL, mA, rA, sA))
    (H0 : l = 6 → post (-2) (fe, fd, jA, pA, jL, pL, mA, rA, sA)) :
    wpY_typeIn post (fe, fd, jA, pA, jL, pL, mA, rA, sA) (nI c) := by
  unfold wpY_typeIn
  dsimp only
  unfold wpY_badLetter
  dsimp only
  refine br_f (nI_pos (by omega)) (br_t (nI_le (b := 3) (by omega) (by decide)) (br_t rfl ?_))
  rw [hL]
  have ei : 12 + nI l = nI (12 + l) := nI_add 12 l
  refine pk_eq l 6 (fun h => H0 h) (fun h => ⟨by rw [ei]; exact vp_in_nI (by omega) (by decide), ?_⟩)
  refine nm_r (e' := upd jA (12 + l) (nI c)) (by rw [ei, nI_clamp (by omega)]) ?_
  refine nm_r (e' := upd jL 2 (nI (l + 1))) (by rw [nI_1]) ?_
  exact H1 (by omega)
theorem ex_ybIn {post : Int32 → SY → Prop} {x : Int32} (hx : x < 0 ∨ nI 4 ≤ x) (H : post (-1) (fe, fd, jA, pA, jL, pL, mA, rA, sA)) :
    wpY_typeIn post (fe, fd, jA, pA, jL, pL, mA, rA, sA) x := by
  unfold wpY_typeIn
  dsimp only
  unfold wpY_badLetter
  dsimp only
  rcases hx with h | h
  · exact br_t h (br_f (by decide) H)
  · exact br_f (ex_nneg (by decide) h) (br_f (fun h3 => absurd (Int32.le_trans h h3) (by decide)) (br_f (by decide) H))
theorem ex_ytOut {post : Int32 → SY → Prop} {l c : Nat} (hL : pL 2 = nI l) (hl : l ≤ 6) (hc : c < 4)
    (H1 : l < 6 → post (nI (l + 1)) (fe, fd, jA, upd pA (12 + l) (nI c), jL, upd pL 2 (nI (l + 1)), mA, rA, sA))
    (H0 : l = 6 → post (-2) (fe, fd, jA, pA, jL, pL, mA, rA, sA)) :
    wpY_typeOut post (fe, fd, jA, pA, jL, pL, mA, rA, sA) (nI c) := by
  unfold wpY_typeOut
  dsimp only
  unfold wpY_badLetter
  dsimp only
  refine br_f (nI_pos (by omega)) (br_t (nI_le (b := 3) (by omega) (by decide)) (br_t rfl ?_))
  rw [hL]
  have ei : 12 + nI l = nI (12 + l) := nI_add 12 l
  refine pk_eq l 6 (fun h => H0 h) (fun h => ⟨by rw [ei]; exact vp_in_nI (by omega) (by decide), ?_⟩)
  refine nm_r (e' := upd pA (12 + l) (nI c)) (by rw [ei, nI_clamp (by omega)]) ?_
  refine nm_r (e' := upd pL 2 (nI (l + 1))) (by rw [nI_1]) ?_
  exact H1 (by omega)
theorem ex_ybOut {post : Int32 → SY → Prop} {x : Int32} (hx : x < 0 ∨ nI 4 ≤ x) (H : post (-1) (fe, fd, jA, pA, jL, pL, mA, rA, sA)) :
    wpY_typeOut post (fe, fd, jA, pA, jL, pL, mA, rA, sA) x := by
  unfold wpY_typeOut
  dsimp only
  unfold wpY_badLetter
  dsimp only
  rcases hx with h | h
  · exact br_t h (br_f (by decide) H)
  · exact br_f (ex_nneg (by decide) h) (br_f (fun h3 => absurd (Int32.le_trans h h3) (by decide)) (br_f (by decide) H))
theorem ex_yl13 {post : Int32 → SY → Prop} {e : Nat} (he : e < 2)
    (H : ∀ jA' pA', (∀ t, t < 6 → jA' (e * 6 + t) = jA (12 + t) ∧ pA' (e * 6 + t) = pA (12 + t)) → (∀ t, (t < e * 6 ∨ e * 6 + 6 ≤ t) → jA' t = jA t ∧ pA' t = pA t) → post (nI (e + 1)) (nI (e + 1), fd, jA', pA', upd jL e (jL 2), upd pL e (pL 2), mA, rA, sA)) :
    ∀ (r i : Nat) (jA' pA' : Nat → Int32), i + r = 6 → (∀ t, t < i → jA' (e * 6 + t) = jA (12 + t) ∧ pA' (e * 6 + t) = pA (12 + t)) → (∀ t, (t < e * 6 ∨ e * 6 + 6 ≤ t) → jA' t = jA t ∧ pA' t = pA t) →
    wY_learn_13 post (nI e) fd (r + 1) (nI i) jA' pA' jL pL mA rA sA := by
  have hcl : (nI e).toNatClampNeg = e := nI_clamp (by omega)
  have hin : vp_in (nI e) 3 := vp_in_nI (by omega) (by decide)
  intro r
  induction r with
  | zero =>
    intro i jA' pA' hi h1 h2
    have e6 : i = 6 := by omega
    subst e6
    refine br_t (by decide) ⟨hin, ?_⟩
    rw [hcl]
    exact nm_e ⟨hin, nm_e (nm_r (nI_1 e) (H jA' pA' h1 h2))⟩
  | succ r ih =>
    intro i jA' pA' hi h1 h2
    have ei : 12 + nI i = nI (12 + i) := nI_add 12 i
    have ej : nI e * 6 + nI i = nI (e * 6 + i) := by rw [← nI_add, ← pk_mul]; rfl
    have ci : (12 + nI i).toNatClampNeg = 12 + i := by rw [ei]; exact nI_clamp (by omega)
    have cj : (nI e * 6 + nI i).toNatClampNeg = e * 6 + i := by rw [ej]; exact nI_clamp (by omega)
    have vi : vp_in (12 + nI i) 18 := by rw [ei]; exact vp_in_nI (by omega) (by decide)
    have vj : vp_in (nI e * 6 + nI i) 18 := by rw [ej]; exact vp_in_nI (by omega) (by decide)
    obtain ⟨g1, g2⟩ := h2 (12 + i) (by omega)
    refine br_f (nI_ge (b := 6) (by omega) (by decide)) ⟨vi, vj, ?_⟩
    refine nm_r (e' := upd jA' (e * 6 + i) (jA (12 + i))) (by rw [ci, cj, g1]) ⟨vi, vj, ?_⟩
    refine nm_r (e' := upd pA' (e * 6 + i) (pA (12 + i))) (by rw [ci, cj, g2]) (nm_r (nI_1 i) ?_)
    refine ih (i + 1) _ _ (by omega) (fun t ht => ?_) (fun t ht => ?_)
    · by_cases et : t = i
      · rw [et]; exact ⟨pk_us, pk_us⟩
      · rw [pk_un (by omega), pk_un (by omega)]; exact h1 t (by omega)
    · rw [pk_un (by omega), pk_un (by omega)]; exact h2 t ht
end
