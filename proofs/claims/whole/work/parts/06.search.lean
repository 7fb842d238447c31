def ex_fs (fd : Int32) (rA : Nat → Int32) (P : Nat → Bool) (N : Nat → Nat → Int32) (c : Nat) : Int32 × (Nat → Int32) := if fd = 0 ∧ ex_lf P c < c then (1, N (ex_lf P c)) else (fd, rA)
theorem ex_fs_0 (fd : Int32) (rA : Nat → Int32) (P : Nat → Bool) (N : Nat → Nat → Int32) : ex_fs fd rA P N 0 = (fd, rA) := if_neg (fun h => Nat.not_lt_zero _ h.2)
theorem ex_fs_y {fd : Int32} {rA : Nat → Int32} {P : Nat → Bool} {N : Nat → Nat → Int32} {c : Nat} (h : fd = 0) (h1 : ex_lf P c < c) : ex_fs fd rA P N c = (1, N (ex_lf P c)) := if_pos ⟨h, h1⟩
theorem ex_fs_x {fd : Int32} {rA : Nat → Int32} {P : Nat → Bool} {N : Nat → Nat → Int32} {c : Nat} (h : ¬ (fd = 0 ∧ ex_lf P c < c)) : ex_fs fd rA P N c = (fd, rA) := if_neg h
theorem ex_lf_k {P : Nat → Bool} {c : Nat} (h : ex_lf P c < c) : ex_lf P (c + 1) = ex_lf P c := if_pos h
theorem ex_lf_f {P : Nat → Bool} {c : Nat} (h : ¬ ex_lf P c < c) (hP : P c = false) : ex_lf P (c + 1) = c + 1 := by
  show (if _ then _ else _) = c + 1; rw [if_neg h, if_neg (by rw [hP]; decide)]
theorem ex_lf_t {P : Nat → Bool} {c : Nat} (h : ¬ ex_lf P c < c) (hP : P c = true) : ex_lf P (c + 1) = c := by
  show (if _ then _ else _) = c; rw [if_neg h, if_pos hP]
theorem ex_fs_n {fd : Int32} {rA : Nat → Int32} {P : Nat → Bool} {N : Nat → Nat → Int32} {c : Nat} (h : P c = false) : ex_fs fd rA P N (c + 1) = ex_fs fd rA P N c := by
  by_cases h2 : fd = 0
  · by_cases h1 : ex_lf P c < c
    · rw [ex_fs_y (c := c) h2 h1, ex_fs_y (c := c + 1) h2 (by rw [ex_lf_k h1]; omega), ex_lf_k h1]
    · rw [ex_fs_x (c := c) (fun h => h1 h.2), ex_fs_x (c := c + 1) (fun hh => by
        have h3 := hh.2
        rw [ex_lf_f h1 h] at h3
        exact Nat.lt_irrefl _ h3)]
  · rw [ex_fs_x (c := c) (fun h => h2 h.1), ex_fs_x (c := c + 1) (fun h => h2 h.1)]
theorem ex_fs_t {fd : Int32} {rA : Nat → Int32} {P : Nat → Bool} {N : Nat → Nat → Int32} {c : Nat} (h : P c = true) : ex_fs fd rA P N (c + 1) = if (ex_fs fd rA P N c).1 = 0 then (1, N c) else ex_fs fd rA P N c := by
  by_cases h2 : fd = 0
  · by_cases h1 : ex_lf P c < c
    · rw [ex_fs_y (c := c) h2 h1, ex_fs_y (c := c + 1) h2 (by rw [ex_lf_k h1]; omega), ex_lf_k h1]
      exact (if_neg (show ¬ (1 : Int32) = 0 by decide)).symm
    · rw [ex_fs_x (c := c) (fun h => h1 h.2), ex_fs_y (c := c + 1) h2 (by rw [ex_lf_t h1 h]; omega), ex_lf_t h1 h]
      exact (if_pos (show fd = 0 from h2)).symm
  · rw [ex_fs_x (c := c) (fun h => h2 h.1), ex_fs_x (c := c + 1) (fun h => h2 h.1)]
    exact (if_neg (show ¬ fd = 0 from h2)).symm
theorem ex_fs_r {fd : Int32} {rA : Nat → Int32} {P : Nat → Bool} {N : Nat → Nat → Int32} {c : Nat} (h : (ex_fs fd rA P N c).1 = 0) : (ex_fs fd rA P N c).2 = rA := by
  by_cases h1 : fd = 0 ∧ ex_lf P c < c
  · rw [ex_fs_y h1.1 h1.2] at h; exact absurd h (show ¬ (1 : Int32) = 0 by decide)
  · rw [ex_fs_x h1]
theorem ex_ct_fa {d : Nat → ex_P} {m k s : Nat} (h : ex_lf (ex_pb d m k s) 200 < 200) : 0 < ex_ct d m (k + 1) s := by
  have h1 := of_decide_eq_true ((ex_lf_sp (ex_pb d m k s) 200).1 h)
  rw [ex_ct_s]
  exact ex_sm_p h1 200 h
theorem ex_fs_in {d : Nat → ex_P} {m k t : Nat} {fd : Int32} {rA : Nat → Int32} {P : Nat → Bool} {N N' : Nat → Nat → Int32} {c : Nat} (hP : P c = decide (0 < ex_ct d m (k + 1) t)) (hN : (ex_fs fd rA P N c).1 = 0 → N' (ex_fa d m k t) = N c) :
    ex_fs (ex_fs fd rA P N c).1 (ex_fs fd rA P N c).2 (ex_pb d m k t) N' 200 = ex_fs fd rA P N (c + 1) := by
  by_cases h : 0 < ex_ct d m (k + 1) t
  · rw [ex_fs_t (c := c) (hP.trans (decide_eq_true h))]
    have h1 : ex_lf (ex_pb d m k t) 200 < 200 := ex_fa_p h
    by_cases h2 : (ex_fs fd rA P N c).1 = 0
    · rw [if_pos h2]
      have h3 : N' (ex_lf (ex_pb d m k t) 200) = N c := hN h2
      rw [ex_fs_y (c := 200) h2 h1, h3]
    · rw [if_neg h2]
      exact ex_fs_x (c := 200) (fun h => h2 h.1)
  · rw [ex_fs_n (c := c) (hP.trans (decide_eq_false h))]
    have h1 : ¬ ex_lf (ex_pb d m k t) 200 < 200 := fun h1 => h (ex_ct_fa h1)
    exact ex_fs_x (c := 200) (fun h => h1 h.2)
section
variable {fe fd : Int32} {jA pA jL pL mA rA sA : Nat → Int32}
theorem ex_th6 {post : Int32 → SY → Prop} {d : Nat → ex_P} {e ty s : Nat} {xa xb : Int32} {N : Nat → Nat → Int32} (hN : ∀ c, N c = ex_nt rA xa xb (nI c)) (hfe : fe = nI e) (he : e ≤ 2) (ht : ty ≤ 1) (D : ex_yd d e jA pA jL pL) (V : ex_lv e ty 2 s mA)
    (H : ∀ mA', ex_ag 9 mA mA' → post (nI (ex_ct d (e + ty) 1 s)) (fe, (ex_fs fd rA (ex_pb d (e + ty) 0 s) N 200).1, jA, pA, jL, pL, mA', (ex_fs fd rA (ex_pb d (e + ty) 0 s) N 200).2, sA)) :
    ∀ (r c : Nat) (mA' : Nat → Int32), c + r = 200 → ex_ag 9 mA mA' →
    wY_thirds_6 post xa xb (nI ty) (r + 1) (nI (ex_sm (ex_tm d (e + ty) 0 s) c)) (nI c) fe (ex_fs fd rA (ex_pb d (e + ty) 0 s) N c).1 jA pA jL pL mA' (ex_fs fd rA (ex_pb d (e + ty) 0 s) N c).2 sA := by
  intro r
  induction r with
  | zero =>
    intro c mA' hc hag
    have e2 : c = 200 := by omega
    subst e2
    exact br_t (nI_le (a := 200) (b := 200) (by decide) (by decide)) (H mA' hag)
  | succ r ih =>
    intro c mA' hc hag
    refine br_f (nI_ge (b := 200) (by omega) (by decide)) ?_
    refine ex_put (L := 2) rfl rfl rfl hfe he ht (by omega) (by decide) D (ex_lv_a (by decide) V hag) (fun hn mA'' hag' => ?_) (fun t hq mA'' hag' V3 => ?_)
    · have ih1 := ih (c + 1) mA'' (by omega) (ex_ag_t (by decide) hag hag')
      have es : ex_sm (ex_tm d (e + ty) 0 s) (c + 1) = ex_sm (ex_tm d (e + ty) 0 s) c := by
        show ex_sm _ c + ex_tm d (e + ty) 0 s c = _; rw [ex_tm_n hn]; rfl
      rw [es, ex_fs_n (show ex_pb d (e + ty) 0 s c = false from decide_eq_false (by rw [ex_tm_n hn]; decide))] at ih1
      exact br_t rfl (nm_r (nI_1 c) ih1)
    · have ih1 := ih (c + 1) mA'' (by omega) (ex_ag_t (by decide) hag hag')
      have htl := (ex_sp_some d (e + ty) 0 c s t (ex_yhd ht D) hq).2.1
      refine br_f (by decide) ?_
      refine ex_whole (L := 3) rfl rfl hfe he ht (by decide) htl D V3 (fun hg => ?_) (fun hg => ?_)
      · have ec : ex_ct d (e + ty) 0 t = 1 := if_pos hg
        have es : ex_sm (ex_tm d (e + ty) 0 s) (c + 1) = ex_sm (ex_tm d (e + ty) 0 s) c + 1 := by
          show ex_sm _ c + ex_tm d (e + ty) 0 s c = _; rw [ex_tm_s hq, ec]
        rw [es, ex_fs_t (show ex_pb d (e + ty) 0 s c = true from decide_eq_true (by rw [ex_tm_s hq, ec]; decide)), hN c] at ih1
        refine br_f (by decide) ?_
        refine ex_note (fun hf => ?_) (fun hf => ?_)
        · rw [if_pos hf] at ih1
          rw [ex_fs_r hf]
          exact nm_r (nI_1 _) (nm_r (nI_1 c) ih1)
        · rw [if_neg hf] at ih1
          exact nm_r (nI_1 _) (nm_r (nI_1 c) ih1)
      · have ec : ex_ct d (e + ty) 0 t = 0 := if_neg hg
        have es : ex_sm (ex_tm d (e + ty) 0 s) (c + 1) = ex_sm (ex_tm d (e + ty) 0 s) c := by
          show ex_sm _ c + ex_tm d (e + ty) 0 s c = _; rw [ex_tm_s hq, ec]; rfl
        rw [es, ex_fs_n (show ex_pb d (e + ty) 0 s c = false from decide_eq_false (by rw [ex_tm_s hq, ec]; decide))] at ih1
        exact br_t rfl (nm_r (nI_1 c) ih1)
theorem ex_thirds {post : Int32 → SY → Prop} {d : Nat → ex_P} {e ty s : Nat} {xa xb x : Int32} (hx : x = nI ty) (hfe : fe = nI e) (he : e ≤ 2) (ht : ty ≤ 1) (D : ex_yd d e jA pA jL pL) (V : ex_lv e ty 2 s mA)
    (H : ∀ mA', ex_ag 9 mA mA' → post (nI (ex_ct d (e + ty) 1 s)) (fe, (ex_fs fd rA (ex_pb d (e + ty) 0 s) (fun c => ex_nt rA xa xb (nI c)) 200).1, jA, pA, jL, pL, mA', (ex_fs fd rA (ex_pb d (e + ty) 0 s) (fun c => ex_nt rA xa xb (nI c)) 200).2, sA)) :
    wpY_thirds post (fe, fd, jA, pA, jL, pL, mA, rA, sA) xa xb x := by
  subst hx
  unfold wpY_thirds
  dsimp only
  have h := ex_th6 (xa := xa) (xb := xb) (N := fun c => ex_nt rA xa xb (nI c)) (fun _ => rfl) hfe he ht D V H 200 0 mA rfl (fun _ _ => rfl)
  rw [ex_fs_0] at h
  exact ⟨201, h⟩
def ex_nx (d : Nat → ex_P) (m a s : Nat) : Nat := (ex_sp d m 0 a s).getD 0
theorem ex_nx_s {d : Nat → ex_P} {m a s t : Nat} (h : ex_sp d m 0 a s = some t) : ex_nx d m a s = t := by unfold ex_nx; rw [h]; rfl
def ex_n3 (d : Nat → ex_P) (m q b s : Nat) : Int32 := if q = 1 then nI (ex_fa d m 0 (ex_nx d m b s)) else -1
theorem ex_se6 {post : Int32 → SY → Prop} {d : Nat → ex_P} {e ty s q : Nat} {xa : Int32} {N : Nat → Nat → Int32} (hq1 : q ≤ 1) (hN : ∀ b, N b = ex_nt rA xa (nI b) (ex_n3 d (e + ty) q b s)) (hfe : fe = nI e) (he : e ≤ 2) (ht : ty ≤ 1) (D : ex_yd d e jA pA jL pL) (V : ex_lv e ty 1 s mA)
    (H : ∀ mA', ex_ag 6 mA mA' → post (nI (ex_ct d (e + ty) (q + 1) s)) (fe, (ex_fs fd rA (ex_pb d (e + ty) q s) N 200).1, jA, pA, jL, pL, mA', (ex_fs fd rA (ex_pb d (e + ty) q s) N 200).2, sA)) :
    ∀ (r c : Nat) (mA' : Nat → Int32), c + r = 200 → ex_ag 6 mA mA' →
    wY_seconds_6 post xa (nI (q + 2)) (nI ty) (r + 1) (nI (ex_sm (ex_tm d (e + ty) q s) c)) (nI c) fe (ex_fs fd rA (ex_pb d (e + ty) q s) N c).1 jA pA jL pL mA' (ex_fs fd rA (ex_pb d (e + ty) q s) N c).2 sA := by
  intro r
  induction r with
  | zero =>
    intro c mA' hc hag
    have e2 : c = 200 := by omega
    subst e2
    exact br_t (nI_le (a := 200) (b := 200) (by decide) (by decide)) (H mA' hag)
  | succ r ih =>
    intro c mA' hc hag
    refine br_f (nI_ge (b := 200) (by omega) (by decide)) ?_
    refine ex_put (L := 1) rfl rfl rfl hfe he ht (by omega) (by decide) D (ex_lv_a (by decide) V hag) (fun hn mA'' hag' => ?_) (fun t hq mA'' hag' V3 => ?_)
    · have ih1 := ih (c + 1) mA'' (by omega) (ex_ag_t (by decide) hag hag')
      have es : ex_sm (ex_tm d (e + ty) q s) (c + 1) = ex_sm (ex_tm d (e + ty) q s) c := by
        show ex_sm _ c + ex_tm d (e + ty) q s c = _; rw [ex_tm_n hn]; rfl
      rw [es, ex_fs_n (show ex_pb d (e + ty) q s c = false from decide_eq_false (by rw [ex_tm_n hn]; decide))] at ih1
      exact br_t rfl (nm_r (nI_1 c) ih1)
    · have htl := (ex_sp_some d (e + ty) 0 c s t (ex_yhd ht D) hq).2.1
      refine br_f (by decide) ?_
      refine pk_eq (q + 2) 3 (fun h3 => ?_) (fun h3 => ?_)
      · have hq0 : q = 1 := by omega
        subst hq0
        refine ex_thirds rfl hfe he ht D V3 (fun mB hagB => ?_)
        have ih1 := ih (c + 1) mB (by omega) (ex_ag_t (by decide) (ex_ag_t (by decide) hag hag') hagB)
        have es : ex_sm (ex_tm d (e + ty) 1 s) (c + 1) = ex_sm (ex_tm d (e + ty) 1 s) c + ex_ct d (e + ty) 1 t := by
          show ex_sm _ c + ex_tm d (e + ty) 1 s c = _; rw [ex_tm_s hq]
        rw [es] at ih1
        rw [ex_fs_in (N := N) (P := ex_pb d (e + ty) 1 s) (c := c) (by unfold ex_pb; rw [ex_tm_s hq]) (fun h0 => by
          rw [hN c, ex_fs_r h0]
          unfold ex_n3
          rw [if_pos rfl, ex_nx_s hq])]
        exact nm_r (nI_add _ _) (nm_r (nI_1 c) ih1)
      · have hq0 : q = 0 := by omega
        subst hq0
        have ih1 := ih (c + 1) mA'' (by omega) (ex_ag_t (by decide) hag hag')
        refine ex_whole (L := 2) rfl rfl hfe he ht (by decide) htl D V3 (fun hg => ?_) (fun hg => ?_)
        · have ec : ex_ct d (e + ty) 0 t = 1 := if_pos hg
          have es : ex_sm (ex_tm d (e + ty) 0 s) (c + 1) = ex_sm (ex_tm d (e + ty) 0 s) c + 1 := by
            show ex_sm _ c + ex_tm d (e + ty) 0 s c = _; rw [ex_tm_s hq, ec]
          have en : ex_n3 d (e + ty) 0 c s = -1 := if_neg (by decide)
          rw [es, ex_fs_t (show ex_pb d (e + ty) 0 s c = true from decide_eq_true (by rw [ex_tm_s hq, ec]; decide)), hN c, en] at ih1
          refine br_f (by decide) ?_
          refine ex_note (fun hf => ?_) (fun hf => ?_)
          · rw [if_pos hf] at ih1
            rw [ex_fs_r hf]
            exact nm_r (nI_1 _) (nm_r (nI_1 c) ih1)
          · rw [if_neg hf] at ih1
            exact nm_r (nI_1 _) (nm_r (nI_1 c) ih1)
        · have ec : ex_ct d (e + ty) 0 t = 0 := if_neg hg
          have es : ex_sm (ex_tm d (e + ty) 0 s) (c + 1) = ex_sm (ex_tm d (e + ty) 0 s) c := by
            show ex_sm _ c + ex_tm d (e + ty) 0 s c = _; rw [ex_tm_s hq, ec]; rfl
          rw [es, ex_fs_n (show ex_pb d (e + ty) 0 s c = false from decide_eq_false (by rw [ex_tm_s hq, ec]; decide))] at ih1
          exact br_t rfl (nm_r (nI_1 c) ih1)
theorem ex_seconds {post : Int32 → SY → Prop} {d : Nat → ex_P} {e ty s q : Nat} {xa x y : Int32} (hy : y = nI (q + 2)) (hx : x = nI ty) (hq1 : q ≤ 1) (hfe : fe = nI e) (he : e ≤ 2) (ht : ty ≤ 1) (D : ex_yd d e jA pA jL pL) (V : ex_lv e ty 1 s mA)
    (H : ∀ mA', ex_ag 6 mA mA' → post (nI (ex_ct d (e + ty) (q + 1) s)) (fe, (ex_fs fd rA (ex_pb d (e + ty) q s) (fun b => ex_nt rA xa (nI b) (ex_n3 d (e + ty) q b s)) 200).1, jA, pA, jL, pL, mA', (ex_fs fd rA (ex_pb d (e + ty) q s) (fun b => ex_nt rA xa (nI b) (ex_n3 d (e + ty) q b s)) 200).2, sA)) :
    wpY_seconds post (fe, fd, jA, pA, jL, pL, mA, rA, sA) xa y x := by
  subst hx hy
  unfold wpY_seconds
  dsimp only
  have h := ex_se6 (xa := xa) (N := fun b => ex_nt rA xa (nI b) (ex_n3 d (e + ty) q b s)) hq1 (fun _ => rfl) hfe he ht D V H 200 0 mA rfl (fun _ _ => rfl)
  rw [ex_fs_0] at h
  exact ⟨201, h⟩
def ex_n2 (d : Nat → ex_P) (m q : Nat) (rA : Nat → Int32) (a s : Nat) : Nat → Int32 := if q = 0 then ex_nt rA (nI a) (-1) (-1) else ex_nt rA (nI a) (nI (ex_fa d m (q - 1) (ex_nx d m a s))) (ex_n3 d m (q - 1) (ex_fa d m (q - 1) (ex_nx d m a s)) (ex_nx d m a s))
theorem ex_s91 {post : Int32 → SY → Prop} {d : Nat → ex_P} {e ty q : Nat} {N : Nat → Nat → Int32} (hq2 : q ≤ 2) (hN : ∀ a, N a = ex_n2 d (e + ty) q rA a 0) (hfe : fe = nI e) (he : e ≤ 2) (ht : ty ≤ 1) (D : ex_yd d e jA pA jL pL) (V : ex_lv e ty 0 0 mA)
    (H : ∀ mA', post (nI (ex_ct d (e + ty) (q + 1) 0)) (fe, (ex_fs fd rA (ex_pb d (e + ty) q 0) N 200).1, jA, pA, jL, pL, mA', (ex_fs fd rA (ex_pb d (e + ty) q 0) N 200).2, sA)) :
    ∀ (r c : Nat) (mA' : Nat → Int32), c + r = 200 → ex_ag 3 mA mA' →
    wY_search_91 post (nI (q + 1)) (nI ty) (r + 1) (nI (ex_sm (ex_tm d (e + ty) q 0) c)) (nI c) fe (ex_fs fd rA (ex_pb d (e + ty) q 0) N c).1 jA pA jL pL mA' (ex_fs fd rA (ex_pb d (e + ty) q 0) N c).2 sA := by
  intro r
  induction r with
  | zero =>
    intro c mA' hc hag
    have e2 : c = 200 := by omega
    subst e2
    exact br_t (nI_le (a := 200) (b := 200) (by decide) (by decide)) (H mA')
  | succ r ih =>
    intro c mA' hc hag
    refine br_f (nI_ge (b := 200) (by omega) (by decide)) ?_
    refine ex_put (L := 0) rfl rfl rfl hfe he ht (by omega) (by decide) D (ex_lv_a (by decide) V hag) (fun hn mA'' hag' => ?_) (fun t hq mA'' hag' V3 => ?_)
    · have ih1 := ih (c + 1) mA'' (by omega) (ex_ag_t (by decide) hag hag')
      have es : ex_sm (ex_tm d (e + ty) q 0) (c + 1) = ex_sm (ex_tm d (e + ty) q 0) c := by
        show ex_sm _ c + ex_tm d (e + ty) q 0 c = _; rw [ex_tm_n hn]; rfl
      rw [es, ex_fs_n (show ex_pb d (e + ty) q 0 c = false from decide_eq_false (by rw [ex_tm_n hn]; decide))] at ih1
      exact br_t rfl (nm_r (nI_1 c) ih1)
    · have htl := (ex_sp_some d (e + ty) 0 c 0 t (ex_yhd ht D) hq).2.1
      refine br_f (by decide) ?_
      refine pk_le (q + 1) 1 (fun h3 => ?_) (fun h3 => ?_)
      · have hq0 : q = 0 := by omega
        subst hq0
        have ih1 := ih (c + 1) mA'' (by omega) (ex_ag_t (by decide) hag hag')
        refine ex_whole (L := 1) rfl rfl hfe he ht (by decide) htl D V3 (fun hg => ?_) (fun hg => ?_)
        · have ec : ex_ct d (e + ty) 0 t = 1 := if_pos hg
          have es : ex_sm (ex_tm d (e + ty) 0 0) (c + 1) = ex_sm (ex_tm d (e + ty) 0 0) c + 1 := by
            show ex_sm _ c + ex_tm d (e + ty) 0 0 c = _; rw [ex_tm_s hq, ec]
          have en : ex_n2 d (e + ty) 0 rA c 0 = ex_nt rA (nI c) (-1) (-1) := if_pos rfl
          rw [es, ex_fs_t (show ex_pb d (e + ty) 0 0 c = true from decide_eq_true (by rw [ex_tm_s hq, ec]; decide)), hN c, en] at ih1
          refine br_f (by decide) ?_
          refine ex_note (fun hf => ?_) (fun hf => ?_)
          · rw [if_pos hf] at ih1
            rw [ex_fs_r hf]
            exact nm_r (nI_1 _) (nm_r (nI_1 c) ih1)
          · rw [if_neg hf] at ih1
            exact nm_r (nI_1 _) (nm_r (nI_1 c) ih1)
        · have ec : ex_ct d (e + ty) 0 t = 0 := if_neg hg
          have es : ex_sm (ex_tm d (e + ty) 0 0) (c + 1) = ex_sm (ex_tm d (e + ty) 0 0) c := by
            show ex_sm _ c + ex_tm d (e + ty) 0 0 c = _; rw [ex_tm_s hq, ec]; rfl
          rw [es, ex_fs_n (show ex_pb d (e + ty) 0 0 c = false from decide_eq_false (by rw [ex_tm_s hq, ec]; decide))] at ih1
          exact br_t rfl (nm_r (nI_1 c) ih1)
      · obtain ⟨k, rfl⟩ : ∃ k, q = k + 1 := ⟨q - 1, by omega⟩
        refine ex_seconds (q := k) rfl rfl (by omega) hfe he ht D V3 (fun mB hagB => ?_)
        have ih1 := ih (c + 1) mB (by omega) (ex_ag_t (by decide) (ex_ag_t (by decide) hag hag') hagB)
        have es : ex_sm (ex_tm d (e + ty) (k + 1) 0) (c + 1) = ex_sm (ex_tm d (e + ty) (k + 1) 0) c + ex_ct d (e + ty) (k + 1) t := by
          show ex_sm _ c + ex_tm d (e + ty) (k + 1) 0 c = _; rw [ex_tm_s hq]
        rw [es] at ih1
        rw [ex_fs_in (N := N) (P := ex_pb d (e + ty) (k + 1) 0) (c := c) (by unfold ex_pb; rw [ex_tm_s hq]) (fun h0 => by
          rw [hN c, ex_fs_r h0]
          unfold ex_n2
          rw [if_neg (by omega), ex_nx_s hq, show k + 1 - 1 = k by omega])]
        exact nm_r (nI_add _ _) (nm_r (nI_1 c) ih1)
theorem ex_nt0 (rA : Nat → Int32) (x y z : Int32) : ex_nt rA x y z 0 = x := rfl
theorem ex_nt1 (rA : Nat → Int32) (x y z : Int32) : ex_nt rA x y z 1 = y := rfl
theorem ex_nt2 (rA : Nat → Int32) (x y z : Int32) : ex_nt rA x y z 2 = z := rfl
theorem ex_at0 (d : Nat → ex_P) (m k : Nat) : ex_at d m (k + 1) 0 = ex_fa d m k 0 := rfl
theorem ex_st1 (d : Nat → ex_P) (m k : Nat) : ex_st d m (k + 1) 1 = ex_nx d m (ex_fa d m k 0) 0 := rfl
theorem ex_at1 (d : Nat → ex_P) (m k : Nat) : ex_at d m (k + 2) 1 = ex_fa d m k (ex_nx d m (ex_fa d m (k + 1) 0) 0) := rfl
theorem ex_at2 (d : Nat → ex_P) (m k : Nat) : ex_at d m (k + 3) 2 = ex_fa d m k (ex_nx d m (ex_at d m (k + 3) 1) (ex_st d m (k + 3) 1)) := rfl
theorem ex_n2_at {d : Nat → ex_P} {m q : Nat} (hq : q ≤ 2) {rA : Nat → Int32} : ∀ i, i < q + 1 → ex_n2 d m q rA (ex_fa d m q 0) 0 i = nI (ex_at d m (q + 1) i) := by
  intro i hi
  by_cases h0 : q = 0
  · subst h0
    have hi0 : i = 0 := by omega
    subst hi0
    rw [ex_at0]
    unfold ex_n2
    rw [if_pos rfl, ex_nt0]
  · obtain ⟨k, rfl⟩ : ∃ k, q = k + 1 := ⟨q - 1, by omega⟩
    unfold ex_n2
    rw [if_neg h0, show k + 1 - 1 = k by omega]
    have hi2 : i = 0 ∨ i = 1 ∨ i = 2 := by omega
    rcases hi2 with h | h | h
    · subst h; rw [ex_nt0, ex_at0]
    · subst h; rw [ex_nt1, ex_at1]
    · subst h
      have hk : k = 1 := by omega
      subst hk
      rw [ex_nt2, ex_at2, ex_at1, ex_st1]
      exact if_pos rfl
theorem ex_sm_c {f : Nat → Nat} {c : Nat} (h : ∀ a, f a = c) : ∀ n, ex_sm f n = n * c := by
  intro n
  induction n with
  | zero => rw [Nat.zero_mul]; rfl
  | succ n ih => show ex_sm f n + f n = _; rw [ih, h n, Nat.succ_mul]
theorem ex_ct_0 (d : Nat → ex_P) : ∀ k, ex_ct d 0 k 0 = 200 ^ k := by
  intro k
  induction k with
  | zero => rfl
  | succ k ih =>
    rw [ex_ct_s, ex_sm_c (c := 200 ^ k) (fun a => by rw [ex_tm_s (t := 0) rfl]; exact ih) 200, Nat.pow_succ, Nat.mul_comm]
theorem ex_fa_0 (d : Nat → ex_P) (k : Nat) : ex_fa d 0 k 0 = 0 := by
  refine ex_lf_eq (by decide) (decide_eq_true ?_) (fun b hb => absurd hb (Nat.not_lt_zero b))
  rw [ex_tm_s (t := 0) rfl, ex_ct_0]
  exact Nat.pow_pos (by decide)
theorem ex_st_0 (d : Nat → ex_P) (k : Nat) : ∀ i, ex_st d 0 k i = 0 := by
  intro i
  cases i with
  | zero => rfl
  | succ i => rfl
theorem ex_at_0 (d : Nat → ex_P) (k i : Nat) : ex_at d 0 k i = 0 := by
  unfold ex_at; rw [ex_st_0]; exact ex_fa_0 d _
theorem ex_s65 {post : Int32 → SY → Prop} {d : Nat → ex_P} {e ty q : Nat} {x y : Int32} (hx : x = nI (q + 1)) (hy : y = nI ty) (hq2 : q ≤ 2) (hfe : fe = nI e) (he : e ≤ 2) (ht : ty ≤ 1) (D : ex_yd d e jA pA jL pL)
    (H : ∀ fd' mA' rA', (0 < ex_ct d (e + ty) (q + 1) 0 → ∀ i, i < q + 1 → rA' i = nI (ex_at d (e + ty) (q + 1) i)) → post (nI (ex_ct d (e + ty) (q + 1) 0)) (fe, fd', jA, pA, jL, pL, mA', rA', sA)) :
    wY_search_65 post x y fe 0 jA pA jL pL mA rA sA := by
  subst hx hy
  unfold wY_search_65
  refine nm_e (nm_e (nm_e ?_))
  have V : ex_lv e ty 0 0 (upd (upd (upd mA 0 0) 1 0) 2 0) := by
    intro p hp _
    rw [Nat.zero_div, Nat.zero_mod]
    have h : p = 0 ∨ p = 1 ∨ p = 2 := by omega
    rcases h with h | h | h <;> subst h <;> rfl
  have h := ex_s91 (post := post) (fd := 0) (rA := rA) (sA := sA) (N := fun a => ex_n2 d (e + ty) q rA a 0) hq2 (fun _ => rfl) hfe he ht D V (fun mA' => ?_) 200 0 _ rfl (fun _ _ => rfl)
  · rw [ex_fs_0] at h
    exact ⟨201, h⟩
  · refine H _ mA' _ (fun hp i hi => ?_)
    have h1 : ex_fs 0 rA (ex_pb d (e + ty) q 0) (fun a => ex_n2 d (e + ty) q rA a 0) 200 = (1, ex_n2 d (e + ty) q rA (ex_fa d (e + ty) q 0) 0) := if_pos ⟨rfl, ex_fa_p hp⟩
    rw [h1]
    exact ex_n2_at hq2 i hi
theorem ex_search {post : Int32 → SY → Prop} {d : Nat → ex_P} {e ty q : Nat} {x y : Int32} (hx : x = nI (q + 1)) (hy : y = nI ty) (hq2 : q ≤ 2) (hfe : fe = nI e) (he : e ≤ 2) (ht : ty ≤ 1) (D : ex_yd d e jA pA jL pL)
    (H : ∀ fd' mA' rA', (0 < ex_ct d (e + ty) (q + 1) 0 → ∀ i, i < q + 1 → rA' i = nI (ex_at d (e + ty) (q + 1) i)) → post (nI (ex_ct d (e + ty) (q + 1) 0)) (fe, fd', jA, pA, jL, pL, mA', rA', sA)) :
    wpY_search post (fe, fd, jA, pA, jL, pL, mA, rA, sA) x y := by
  unfold wpY_search
  dsimp only
  refine pk_eq e 0 (fun h0 => ?_) (fun h0 => ex_s65 hx hy hq2 hfe he ht D H) hfe rfl
  refine pk_eq ty 0 (fun h1 => ?_) (fun h1 => ex_s65 hx hy hq2 hfe he ht D H) hy rfl
  subst h0 h1
  have H' : ∀ rA' : Nat → Int32, (∀ i, i < q + 1 → rA' i = 0) → post (nI (200 ^ (q + 1))) (fe, 1, jA, pA, jL, pL, mA, rA', sA) := fun rA' h => by
    have h2 := H 1 mA rA' (fun _ i hi => by rw [h i hi, show 0 + 0 = 0 from rfl, ex_at_0]; rfl)
    rw [show 0 + 0 = 0 from rfl, ex_ct_0] at h2
    exact h2
  have h : q = 0 ∨ q = 1 ∨ q = 2 := by omega
  rcases h with h | h | h <;> subst h <;> subst hx
  · refine br_t (by decide) ?_
    unfold wY_search_28
    refine br_t (by decide) ?_
    unfold wY_search_38
    refine ex_note (fun _ => ?_) (fun h => absurd rfl h)
    refine br_t (by decide) (H' _ (fun i hi => ?_))
    have hi2 : i = 0 := by omega
    subst hi2; rfl
  · refine br_f (by decide) ?_
    unfold wY_search_28
    refine br_t (by decide) ?_
    unfold wY_search_38
    refine ex_note (fun _ => ?_) (fun h => absurd rfl h)
    refine br_f (by decide) (br_t (by decide) (H' _ (fun i hi => ?_)))
    have hi2 : i = 0 ∨ i = 1 := by omega
    rcases hi2 with h | h <;> subst h <;> rfl
  · refine br_f (by decide) ?_
    unfold wY_search_28
    refine br_f (by decide) ?_
    unfold wY_search_38
    refine ex_note (fun _ => ?_) (fun h => absurd rfl h)
    refine br_f (by decide) (br_f (by decide) (H' _ (fun i hi => ?_)))
    have hi2 : i = 0 ∨ i = 1 ∨ i = 2 := by omega
    rcases hi2 with h | h | h <;> subst h <;> rfl
end
