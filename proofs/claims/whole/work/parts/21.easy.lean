/-! clear, begin, stop, undo, pieceAt, turn, check, attackers -/
section
variable {xg xm xh xr : Int32} {b xp xq xt xv xk xz : Nat → Int32}
theorem cx_clr_l {post : Int32 → SX → Prop} {x1 : Int32} (H : post x1 (xg, xm, xh, xr, ch_cp b (fun _ => 0) 36, xp, xq, xt, xv, xk, xz)) : ∀ d j, j + d = 36 → wX_clear_16 post x1 xg xm xh xr (d + 1) (nI j) (ch_cp b (fun _ => 0) j) xp xq xt xv xk xz := by
  intro d
  induction d with
  | zero =>
    intro j hj
    have e : j = 36 := by omega
    subst e
    exact br_t (nI_le (Nat.le_refl 36) (by decide)) H
  | succ d ih =>
    intro j hj
    have cl : (nI j).toNatClampNeg = j := nI_clamp (by omega)
    refine br_f (nI_ge (b := 36) (by omega) (by decide)) ⟨vp_in_nI (by omega) (by decide), nm_r (e' := ch_cp b (fun _ => 0) (j + 1)) ?_ (nm_r (nI_1 j) (ih (j + 1) (by omega)))⟩
    rw [cl]
    exact ch_cp_s b (fun _ => 0) j
theorem cx_und_l {post : Int32 → SX → Prop} {h : Nat} (hh : h ≤ 60) (H : post (nI h) (xg, xm, nI h, xr, ch_cp b (fun i => xp (36 * h + i)) 36, xp, xq, xt, xv, xk, xz)) : ∀ d j, j + d = 36 → wX_undo_41 post xg xm (nI h) xr (d + 1) (nI j) (ch_cp b (fun i => xp (36 * h + i)) j) xp xq xt xv xk xz := by
  intro d
  induction d with
  | zero =>
    intro j hj
    have e : j = 36 := by omega
    subst e
    exact br_t (nI_le (Nat.le_refl 36) (by decide)) H
  | succ d ih =>
    intro j hj
    have cl : (nI j).toNatClampNeg = j := nI_clamp (by omega)
    refine br_f (nI_ge (b := 36) (by omega) (by decide)) ⟨by rw [ch_ix]; exact vp_in_nI (by omega) (by decide), vp_in_nI (by omega) (by decide), nm_r (e' := ch_cp b (fun i => xp (36 * h + i)) (j + 1)) ?_ (nm_r (nI_1 j) (ih (j + 1) (by omega)))⟩
    rw [cl, ch_ix, nI_clamp (by omega)]
    exact ch_cp_s b (fun i => xp (36 * h + i)) j
end
section
variable {yg ym yh yl ya yb : Int32} {b yF yT yM yC yp yt yz : Nat → Int32}
theorem cy_clr_l {post : Int32 → SY → Prop} {x1 : Int32} (H : post x1 (yg, ym, yh, yl, ya, yb, ch_cp b (fun _ => 0) 36, yF, yT, yM, yC, yp, yt, yz)) : ∀ d j, j + d = 36 → wY_clear_16 post x1 yg ym yh yl ya yb (d + 1) (nI j) (ch_cp b (fun _ => 0) j) yF yT yM yC yp yt yz := by
  intro d
  induction d with
  | zero =>
    intro j hj
    have e : j = 36 := by omega
    subst e
    exact br_t (nI_le (Nat.le_refl 36) (by decide)) H
  | succ d ih =>
    intro j hj
    have cl : (nI j).toNatClampNeg = j := nI_clamp (by omega)
    refine br_f (nI_ge (b := 36) (by omega) (by decide)) ⟨vp_in_nI (by omega) (by decide), nm_r (e' := ch_cp b (fun _ => 0) (j + 1)) ?_ (nm_r (nI_1 j) (ih (j + 1) (by omega)))⟩
    rw [cl]
    exact ch_cp_s b (fun _ => 0) j
end
theorem ch_cp0_Ok (b : Nat → Int32) : ch_Ok (ch_cp b (fun _ => 0) 36) := fun i hi => by
  unfold ch_cp
  rw [if_pos hi]
  exact ch_ok_0
theorem ch_cp0_nz (b : Nat → Int32) : ch_nz (ch_cp b (fun _ => 0) 36) ≤ 6 := by
  have h : ch_nz (ch_cp b (fun _ => 0) 36) = 0 := by
    unfold ch_nz
    refine ch_ct_0 fun i hi => ?_
    have e : ch_cp b (fun _ => 0) 36 i = 0 := by unfold ch_cp; rw [if_pos hi]
    rw [e]
    rfl
  omega
theorem i_vc_clear {k : Nat} {u : SX} {v : SY} (I : i_Rel k u v) (hk : k + 3 ≤ 1536) : wpX_clear (fun r u' => wpY_clear (fun r' v' => r' = r ∧ i_Rel (k + 3) u' v') v) u := by
  rcases I with ⟨xm, xh, xr, b, xp, xq, xt, xv, xk, xz, ym, yh, yl, ya, yb, yF, yT, yM, yC, yp, yt, yz, rfl, rfl, h1, h2⟩ | ⟨s, h, xr, b, xp, xq, xt, xv, xk, xz, yl, ya, yb, yF, yT, yM, yC, yp, yt, yz, rfl, rfl, hs, hh, H⟩
  · refine br_t rfl (cx_countPieces ?_)
    have hx := cx_clr_l (xg := 0) (xm := xm) (xh := xh) (xr := xr) (b := b) (xp := xp) (xq := xq) (xt := xt) (xv := xv) (xk := xk) (xz := xz) (x1 := nI (ch_nz b)) (post := fun r u' => wpY_clear (fun r' v' => r' = r ∧ i_Rel (k + 3) u' v') (0, ym, yh, yl, ya, yb, b, yF, yT, yM, yC, yp, yt, yz)) ?_ 36 0 rfl
    · rw [ch_cp_0] at hx
      exact ⟨37, hx⟩
    · refine br_t rfl (cy_pieces ?_)
      have hy := cy_clr_l (yg := 0) (ym := ym) (yh := yh) (yl := yl) (ya := ya) (yb := yb) (b := b) (yF := yF) (yT := yT) (yM := yM) (yC := yC) (yp := yp) (yt := yt) (yz := yz) (x1 := nI (ch_nz b)) (post := fun r' v' => r' = nI (ch_nz b) ∧ i_Rel (k + 3) (0, xm, xh, xr, ch_cp b (fun _ => 0) 36, xp, xq, xt, xv, xk, xz) v') ⟨rfl, ch_R0 (ch_cp0_Ok b) (ch_cp0_nz b)⟩ 36 0 rfl
      rw [ch_cp_0] at hy
      exact ⟨37, hy⟩
  · exact br_f (by decide) (br_f (by decide) ⟨rfl, ch_R1 hs hh H⟩)
theorem i_vc_stop {k : Nat} {u : SX} {v : SY} (I : i_Rel k u v) (hk : k + 3 ≤ 1536) : wpX_stop (fun r u' => wpY_stop (fun r' v' => r' = r ∧ i_Rel (k + 3) u' v') v) u := by
  rcases I with ⟨xm, xh, xr, b, xp, xq, xt, xv, xk, xz, ym, yh, yl, ya, yb, yF, yT, yM, yC, yp, yt, yz, rfl, rfl, h1, h2⟩ | ⟨s, h, xr, b, xp, xq, xt, xv, xk, xz, yl, ya, yb, yF, yT, yM, yC, yp, yt, yz, rfl, rfl, hs, hh, H⟩
  · exact br_t rfl (br_t rfl ⟨rfl, ch_R0 h1 h2⟩)
  · exact br_f (by decide) (br_f (by decide) ⟨rfl, ch_R0 (ch_H_G H).1 (ch_H_G H).2.2⟩)
theorem i_vc_turn {k : Nat} {u : SX} {v : SY} (I : i_Rel k u v) (hk : k + 3 ≤ 1536) : wpX_turn (fun r => wpY_turn (fun r' => r' = r ∧ i_Rel (k + 3) u v) v) u := by
  rcases I with ⟨xm, xh, xr, b, xp, xq, xt, xv, xk, xz, ym, yh, yl, ya, yb, yF, yT, yM, yC, yp, yt, yz, rfl, rfl, h1, h2⟩ | ⟨s, h, xr, b, xp, xq, xt, xv, xk, xz, yl, ya, yb, yF, yT, yM, yC, yp, yt, yz, rfl, rfl, hs, hh, H⟩
  · exact br_t rfl (br_t rfl ⟨rfl, ch_R0 h1 h2⟩)
  · exact br_f (by decide) (br_f (by decide) ⟨rfl, ch_R1 hs hh H⟩)
theorem i_vc_check {k : Nat} {u : SX} {v : SY} (I : i_Rel k u v) (hk : k + 3 ≤ 1536) : wpX_check (fun r => wpY_check (fun r' => r' = r ∧ i_Rel (k + 3) u v) v) u := by
  rcases I with ⟨xm, xh, xr, b, xp, xq, xt, xv, xk, xz, ym, yh, yl, ya, yb, yF, yT, yM, yC, yp, yt, yz, rfl, rfl, h1, h2⟩ | ⟨s, h, xr, b, xp, xq, xt, xv, xk, xz, yl, ya, yb, yF, yT, yM, yC, yp, yt, yz, rfl, rfl, hs, hh, H⟩
  · exact br_t rfl (br_t rfl ⟨rfl, ch_R0 h1 h2⟩)
  · have G := ch_H_G H
    refine br_f (by decide) (cx_inCheck hs G.1 G.2.1 ?_)
    have hy : ∀ post : Int32 → Prop, post (ch_bI (ch_ck b s)) → wpY_check post (1, nI s, nI h, yl, ya, yb, b, yF, yT, yM, yC, yp, yt, yz) := fun post hp => br_f (by decide) (cy_inCheck hs G.1 (ch_rX hp))
    cases hc : ch_ck b s with
    | true => rw [hc] at hy; exact br_f (by decide) (hy _ ⟨rfl, ch_R1 hs hh H⟩)
    | false => rw [hc] at hy; exact br_t rfl (hy _ ⟨rfl, ch_R1 hs hh H⟩)
theorem i_vc_pieceAt {k : Nat} {u : SX} {v : SY} (I : i_Rel k u v) (hk : k + 3 ≤ 1536) (v1 : Int32) : wpX_pieceAt (fun r => wpY_pieceAt (fun r' => r' = r ∧ i_Rel (k + 3) u v) v v1) u v1 := by
  obtain ⟨xg, xm, xh, xr, b, xp, xq, xt, xv, xk, xz, ym, yh, yl, ya, yb, yF, yT, yM, yC, yp, yt, yz, rfl, rfl, hO⟩ := ch_any I
  have out : (v1 < 0 ∨ nI 36 ≤ v1) → wpX_pieceAt (fun r => wpY_pieceAt (fun r' => r' = r ∧ i_Rel (k + 3) (xg, xm, xh, xr, b, xp, xq, xt, xv, xk, xz) (xg, ym, yh, yl, ya, yb, b, yF, yT, yM, yC, yp, yt, yz)) (xg, ym, yh, yl, ya, yb, b, yF, yT, yM, yC, yp, yt, yz) v1) (xg, xm, xh, xr, b, xp, xq, xt, xv, xk, xz) v1 := by
    intro h
    unfold wpX_pieceAt
    dsimp only
    refine cx_sq_out h ?_
    refine br_t rfl ?_
    unfold wpY_pieceAt
    dsimp only
    refine cy_sq_out h ?_
    exact br_t rfl ⟨rfl, I⟩
  rcases pk_ix v1 (n := 36) (by decide) with h | h | ⟨j, hj, rfl⟩
  · exact out (Or.inl h)
  · exact out (Or.inr h)
  · unfold wpX_pieceAt
    dsimp only
    refine cx_sq_in hj ?_
    refine br_f (by decide) ⟨vp_in_nI hj (by decide), ?_⟩
    unfold wpY_pieceAt
    dsimp only
    refine cy_sq_in hj ?_
    exact br_f (by decide) ⟨vp_in_nI hj (by decide), rfl, I⟩
theorem i_vc_attackers {k : Nat} {u : SX} {v : SY} (I : i_Rel k u v) (hk : k + 3 ≤ 1536) (v1 : Int32) (v2 : Int32) : wpX_attackers (fun r => wpY_attackers (fun r' => r' = r ∧ i_Rel (k + 3) u v) v v1 v2) u v1 v2 := by
  obtain ⟨xg, xm, xh, xr, b, xp, xq, xt, xv, xk, xz, ym, yh, yl, ya, yb, yF, yT, yM, yC, yp, yt, yz, rfl, rfl, hO⟩ := ch_any I
  have out : (v1 < 0 ∨ nI 36 ≤ v1) → wpX_attackers (fun r => wpY_attackers (fun r' => r' = r ∧ i_Rel (k + 3) (xg, xm, xh, xr, b, xp, xq, xt, xv, xk, xz) (xg, ym, yh, yl, ya, yb, b, yF, yT, yM, yC, yp, yt, yz)) (xg, ym, yh, yl, ya, yb, b, yF, yT, yM, yC, yp, yt, yz) v1 v2) (xg, xm, xh, xr, b, xp, xq, xt, xv, xk, xz) v1 v2 := by
    intro h
    unfold wpX_attackers
    dsimp only
    refine cx_sq_out h ?_
    refine br_t rfl ?_
    unfold wpY_attackers
    dsimp only
    refine cy_sq_out h ?_
    exact br_t rfl ⟨rfl, I⟩
  rcases pk_ix v1 (n := 36) (by decide) with h | h | ⟨j, hj, rfl⟩
  · exact out (Or.inl h)
  · exact out (Or.inr h)
  · have good : ∀ s, s < 2 → v2 = nI s → wpX_attackers (fun r => wpY_attackers (fun r' => r' = r ∧ i_Rel (k + 3) (xg, xm, xh, xr, b, xp, xq, xt, xv, xk, xz) (xg, ym, yh, yl, ya, yb, b, yF, yT, yM, yC, yp, yt, yz)) (xg, ym, yh, yl, ya, yb, b, yF, yT, yM, yC, yp, yt, yz) (nI j) v2) (xg, xm, xh, xr, b, xp, xq, xt, xv, xk, xz) (nI j) v2 := by
      intro s hs e
      subst e
      unfold wpX_attackers
      dsimp only
      refine cx_sq_in hj ?_
      refine br_f (by decide) ?_
      have hside : ∀ post : Int32 → Prop, post 1 → wpX_isSide post (nI s) := by
        intro post hp
        rcases ch_s2 hs with rfl | rfl
        · exact br_t nI_0 hp
        · exact br_f (by decide) (br_t rfl hp)
      refine hside _ ?_
      refine br_f (by decide) ⟨37, cx_ak_l hs hO hj ?_ 36 0 rfl⟩
      unfold wpY_attackers
      dsimp only
      refine cy_sq_in hj ?_
      refine br_f (by decide) ?_
      have h17 : ∀ post : Int32 → Prop, post (nI (ch_aa b j s)) → wY_attackers_17 post (nI j) (nI s) xg ym yh yl ya yb b yF yT yM yC yp yt yz := fun post hp => cy_attackersOf hs hO hj hp
      rcases ch_s2 hs with e | e
      · subst e; exact br_t nI_0 (h17 _ ⟨rfl, I⟩)
      · subst e; exact br_f (by decide) (br_t rfl (h17 _ ⟨rfl, I⟩))
    by_cases z0 : v2 = 0
    · exact good 0 (by decide) z0
    · by_cases z1 : v2 = 1
      · exact good 1 (by decide) z1
      · unfold wpX_attackers
        dsimp only
        refine cx_sq_in hj ?_
        refine br_f (by decide) (br_f z0 (br_f z1 (br_t rfl ?_)))
        unfold wpY_attackers
        dsimp only
        refine cy_sq_in hj ?_
        exact br_f (by decide) (br_f z0 (br_f z1 ⟨rfl, I⟩))
theorem i_vc_undo {k : Nat} {u : SX} {v : SY} (I : i_Rel k u v) (hk : k + 3 ≤ 1536) : wpX_undo (fun r u' => wpY_undo (fun r' v' => r' = r ∧ i_Rel (k + 3) u' v') v) u := by
  rcases I with ⟨xm, xh, xr, b, xp, xq, xt, xv, xk, xz, ym, yh, yl, ya, yb, yF, yT, yM, yC, yp, yt, yz, rfl, rfl, h1, h2⟩ | ⟨s, h, xr, b, xp, xq, xt, xv, xk, xz, yl, ya, yb, yF, yT, yM, yC, yp, yt, yz, rfl, rfl, hs, hh, H⟩
  · exact br_t rfl (br_t rfl ⟨rfl, ch_R0 h1 h2⟩)
  · refine br_f (by decide) ?_
    by_cases z : h = 0
    · subst z
      exact br_t nI_0 (br_f (by decide) (br_t nI_0 ⟨rfl, ch_R1 hs hh H⟩))
    · obtain ⟨h', rfl⟩ : ∃ h', h = h' + 1 := ⟨h - 1, by omega⟩
      have n0 : ¬ nI (h' + 1) = 0 := nI_ne0 (by omega) (by omega)
      obtain ⟨f, t, hf, ht, eF, eT, H', c1, c2⟩ := ch_H_pop H
      refine br_f n0 (nm_r (nI_pred h') (nm_r (ch_s4 hs) ?_))
      have hx := cx_und_l (xg := 1) (xm := nI (1 - s)) (xr := xr) (b := b) (xp := xp) (xq := xq) (xt := xt) (xv := xv) (xk := xk) (xz := xz) (h := h') (post := fun r u' => wpY_undo (fun r' v' => r' = r ∧ i_Rel (k + 3) u' v') (1, nI s, nI (h' + 1), yl, ya, yb, b, yF, yT, yM, yC, yp, yt, yz)) (by omega) ?_ 36 0 rfl
      · rw [ch_cp_0] at hx
        exact ⟨37, hx⟩
      · rw [ch_cp_36 c1 c2]
        exact br_f (by decide) (br_f n0 (cy_undoMove (ch_s4 hs) hf ht (by omega) eF eT ⟨rfl, ch_R1 (by omega) (by omega) H'⟩))
