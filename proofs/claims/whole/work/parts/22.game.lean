/-! begin, move, result, moves, moveAt, mobile -/
theorem ch_st_congr {e e' : Nat → Bool} : ∀ n h, h ≤ n → (∀ k, k ≤ h → e k = e' k) → ch_st e h = ch_st e' h := by
  intro n
  induction n with
  | zero =>
    intro h hh H
    have z : h = 0 := by omega
    subst z
    simp only [ch_st]
    rw [H 0 (Nat.le_refl 0)]
  | succ n ih =>
    intro h hh H
    by_cases z0 : h = 0
    · subst z0; simp only [ch_st]; rw [H 0 (Nat.le_refl 0)]
    · by_cases z1 : h = 1
      · subst z1; simp only [ch_st]; rw [H 1 (Nat.le_refl 1)]
      · obtain ⟨j, rfl⟩ : ∃ j, h = j + 2 := ⟨h - 2, by omega⟩
        simp only [ch_st]
        rw [H (j + 2) (Nat.le_refl _), ih j (by omega) fun k hk => H k (by omega)]
theorem ch_H_st {h : Nat} {b pX q pY F T M C : Nat → Int32} (H : ch_H h b pX q pY F T M C) : ch_st (ch_eq pX b) h = ch_st (ch_eq pY b) h := by
  obtain ⟨B, eB, h1, -⟩ := H
  refine ch_st_congr h h (Nat.le_refl h) fun k hk => ?_
  apply Bool.eq_iff_iff.mpr
  rw [ch_eq_iff, ch_eq_iff]
  have c := (h1 k hk).2.1
  constructor
  · intro z i hi; rw [(c i hi).2, ← (c i hi).1]; exact z i hi
  · intro z i hi; rw [(c i hi).1, ← (c i hi).2]; exact z i hi
theorem ch_H_q {h : Nat} {b pX q pY F T M C : Nat → Int32} (H : ch_H h b pX q pY F T M C) : q h = nI (ch_qt M C h) := by
  obtain ⟨B, eB, h1, -⟩ := H
  exact (h1 h (Nat.le_refl h)).2.2
theorem ch_kp_00 {p b : Nat → Int32} {i : Nat} (hi : i < 36) : ch_kp p b 0 36 i = b i := by
  have h := ch_kp_at (p := p) (b := b) (h := 0) (n := 36) hi
  rw [Nat.mul_zero, Nat.zero_add] at h
  exact h
theorem i_vc_begin {k : Nat} {u : SX} {v : SY} (I : i_Rel k u v) (hk : k + 3 ≤ 1536) (v1 : Int32) : wpX_begin (fun r u' => wpY_begin (fun r' v' => r' = r ∧ i_Rel (k + 3) u' v') v v1) u v1 := by
  rcases I with ⟨xm, xh, xr, b, xp, xq, xt, xv, xk, xz, ym, yh, yl, ya, yb, yF, yT, yM, yC, yp, yt, yz, rfl, rfl, h1, h2⟩ | ⟨s, h, xr, b, xp, xq, xt, xv, xk, xz, yl, ya, yb, yF, yT, yM, yC, yp, yt, yz, rfl, rfl, hs, hh, H⟩
  · have good : ∀ s, s < 2 → v1 = nI s → wpX_begin (fun r u' => wpY_begin (fun r' v' => r' = r ∧ i_Rel (k + 3) u' v') (0, ym, yh, yl, ya, yb, b, yF, yT, yM, yC, yp, yt, yz) v1) (0, xm, xh, xr, b, xp, xq, xt, xv, xk, xz) v1 := by
      intro s hs e
      subst e
      have hside : ∀ post : Int32 → Prop, post 1 → wpX_isSide post (nI s) := by
        intro post hp
        rcases ch_s2 hs with e | e
        · subst e; exact br_t nI_0 hp
        · subst e; exact br_f (by decide) (br_t rfl hp)
      have hY : ∀ post : Int32 → SY → Prop, wY_begin_21 post (nI s) 0 ym yh yl ya yb b yF yT yM yC yp yt yz → wpY_begin post (0, ym, yh, yl, ya, yb, b, yF, yT, yM, yC, yp, yt, yz) (nI s) := by
        intro post hp
        rcases ch_s2 hs with e | e
        · subst e; exact br_t rfl (br_t nI_0 hp)
        · subst e; exact br_t rfl (br_f (by decide) (br_t rfl hp))
      have c0 := ch_ct_le (fun i => decide (b i = ch_kg 0)) 36
      have c1 := ch_ct_le (fun i => decide (b i = ch_kg 1)) 36
      have R0 : ∀ x : Int32, x = x ∧ i_Rel (k + 3) (0, xm, xh, xr, b, xp, xq, xt, xv, xk, xz) (0, ym, yh, yl, ya, yb, b, yF, yT, yM, yC, yp, yt, yz) := fun x => ⟨rfl, ch_R0 h1 h2⟩
      refine br_t rfl ?_
      refine hside _ ?_
      refine br_f (by decide) (cx_countKings (s := 0) (by decide) ?_)
      by_cases k0 : ch_ct (fun i => decide (b i = ch_kg 0)) 36 = 1
      · refine br_t (by rw [k0]; rfl) (cx_countKings (s := 1) (by decide) ?_)
        by_cases k1 : ch_ct (fun i => decide (b i = ch_kg 1)) 36 = 1
        · have hK : ch_K1 b := by
            intro s' hs' i j hi hj ei ej
            rcases ch_s2 hs' with e | e
            · subst e; exact ch_ct_one (p := fun i => decide (b i = ch_kg 0)) (by omega) hi hj (decide_eq_true ei) (decide_eq_true ej)
            · subst e; exact ch_ct_one (p := fun i => decide (b i = ch_kg 1)) (by omega) hi hj (decide_eq_true ei) (decide_eq_true ej)
          refine br_t (by rw [k1]; rfl) ?_
          rw [ch_s4 hs]
          refine cx_inCheck (by omega) h1 hK ?_
          have hY2 : ∀ post : Int32 → SY → Prop, ((ch_bI (ch_ck b (1 - s)) = 0 → wpY_keepBoard (fun u => match u with | (yg, ym, yh, yl, ya, yb, b, yF, yT, yM, yC, yp, yt, yz) => wpY_moves (fun r u => match u with | (yg, ym, yh, yl, ya, yb, b, yF, yT, yM, yC, yp, yt, yz) => post r (yg, ym, yh, yl, ya, yb, b, yF, yT, yM, yC, yp, yt, yz)) (yg, ym, yh, yl, ya, yb, b, yF, yT, yM, yC, yp, yt, yz)) (1, nI s, 0, yl, ya, yb, b, yF, yT, yM, yC, yp, yt, yz)) ∧ (¬ ch_bI (ch_ck b (1 - s)) = 0 → post (-4) (0, ym, yh, yl, ya, yb, b, yF, yT, yM, yC, yp, yt, yz))) → wpY_begin post (0, ym, yh, yl, ya, yb, b, yF, yT, yM, yC, yp, yt, yz) (nI s) := by
            intro post hp
            refine hY post ?_
            unfold wY_begin_21
            refine cy_kings (s := 0) (by decide) ?_
            refine br_t (by rw [k0]; rfl) (cy_kings (s := 1) (by decide) ?_)
            refine br_t (by rw [k1]; rfl) ?_
            rw [ch_s4 hs]
            exact cy_inCheck (by omega) h1 hp
          cases hc : ch_ck b (1 - s) with
          | true =>
            rw [hc] at hY2
            exact br_f (by decide) (hY2 _ (br_f (by decide) (R0 _)))
          | false =>
            rw [hc] at hY2
            refine br_t rfl (nm_e (cx_keepPosition (h := 0) (by omega) (cx_countLegal hs h1 hK (hY2 _ (br_t rfl (cy_keepBoard (h := 0) (by omega) (cy_moves (h := 0) hs h1 (by omega) fun F T M C e => ⟨rfl, ch_R1 (h := 0) hs (by omega) (ch_H_0 ⟨h1, hK, h2⟩ (fun i hi => ch_kp_00 hi) (fun i hi => ch_kp_00 hi) pk_us)⟩)))))))
        · have n1 : ¬ nI (ch_ct (fun i => decide (b i = ch_kg 1)) 36) = 1 := fun z => k1 ((nI_eq (b := 1) (by omega) (by decide)).mp z)
          refine br_f n1 (hY _ ?_)
          unfold wY_begin_21
          refine cy_kings (s := 0) (by decide) ?_
          refine br_t (by rw [k0]; rfl) (cy_kings (s := 1) (by decide) ?_)
          exact br_f n1 (R0 _)
      · have n0 : ¬ nI (ch_ct (fun i => decide (b i = ch_kg 0)) 36) = 1 := fun z => k0 ((nI_eq (b := 1) (by omega) (by decide)).mp z)
        refine br_f n0 (hY _ ?_)
        unfold wY_begin_21
        refine cy_kings (s := 0) (by decide) ?_
        exact br_f n0 (R0 _)
    by_cases z0 : v1 = 0
    · exact good 0 (by decide) z0
    · by_cases z1 : v1 = 1
      · exact good 1 (by decide) z1
      · exact br_t rfl (br_f z0 (br_f z1 (br_t rfl (br_t rfl (br_f z0 (br_f z1 ⟨rfl, ch_R0 h1 h2⟩))))))
  · exact br_f (by decide) (br_f (by decide) ⟨rfl, ch_R1 hs hh H⟩)
theorem i_vc_result {k : Nat} {u : SX} {v : SY} (I : i_Rel k u v) (hk : k + 3 ≤ 1536) : wpX_result (fun r u' => wpY_result (fun r' v' => r' = r ∧ i_Rel (k + 3) u' v') v) u := by
  rcases I with ⟨xm, xh, xr, b, xp, xq, xt, xv, xk, xz, ym, yh, yl, ya, yb, yF, yT, yM, yC, yp, yt, yz, rfl, rfl, h1, h2⟩ | ⟨s, h, xr, b, xp, xq, xt, xv, xk, xz, yl, ya, yb, yF, yT, yM, yC, yp, yt, yz, rfl, rfl, hs, hh, H⟩
  · exact br_t rfl (br_t rfl ⟨rfl, ch_R0 h1 h2⟩)
  · have G := ch_H_G H
    have hq := ch_qt_le yM yC h
    refine br_f (by decide) (cx_way hs G.1 G.2.1 hh (by omega) (ch_H_q H) ?_)
    rw [ch_H_st H]
    exact cy_result hs G.1 hh fun F T M C e => ⟨rfl, ch_R1 hs hh (ch_H_keep H e)⟩
theorem i_vc_moves {k : Nat} {u : SX} {v : SY} (I : i_Rel k u v) (hk : k + 3 ≤ 1536) : wpX_moves (fun r u' => wpY_moves (fun r' v' => r' = r ∧ i_Rel (k + 3) u' v') v) u := by
  rcases I with ⟨xm, xh, xr, b, xp, xq, xt, xv, xk, xz, ym, yh, yl, ya, yb, yF, yT, yM, yC, yp, yt, yz, rfl, rfl, h1, h2⟩ | ⟨s, h, xr, b, xp, xq, xt, xv, xk, xz, yl, ya, yb, yF, yT, yM, yC, yp, yt, yz, rfl, rfl, hs, hh, H⟩
  · exact br_t rfl (br_t rfl ⟨rfl, ch_R0 h1 h2⟩)
  · have G := ch_H_G H
    exact br_f (by decide) (cx_countLegal hs G.1 G.2.1 (cy_moves hs G.1 (by omega) fun F T M C e => ⟨rfl, ch_R1 hs hh (ch_H_keep H e)⟩))
theorem i_vc_moveAt {k : Nat} {u : SX} {v : SY} (I : i_Rel k u v) (hk : k + 3 ≤ 1536) (v1 : Int32) : wpX_moveAt (fun r u' => wpY_moveAt (fun r' v' => r' = r ∧ i_Rel (k + 3) u' v') v v1) u v1 := by
  rcases I with ⟨xm, xh, xr, b, xp, xq, xt, xv, xk, xz, ym, yh, yl, ya, yb, yF, yT, yM, yC, yp, yt, yz, rfl, rfl, h1, h2⟩ | ⟨s, h, xr, b, xp, xq, xt, xv, xk, xz, yl, ya, yb, yF, yT, yM, yC, yp, yt, yz, rfl, rfl, hs, hh, H⟩
  · exact br_t rfl (br_t rfl ⟨rfl, ch_R0 h1 h2⟩)
  · have G := ch_H_G H
    refine br_f (by decide) ?_
    by_cases z : v1 < 0
    · refine br_f (Int32.not_le.mpr z) (br_f (by decide) ⟨1, br_f (by decide) (br_t z ⟨rfl, ch_R1 hs hh H⟩)⟩)
    · obtain ⟨j, hj, rfl⟩ := nI_of z
      have hl := ch_L_le b s
      refine br_t (Int32.not_lt.mp z) (cx_nl_0 hs G.1 G.2.1 ⟨1297, cx_ma_l hs G.1 G.2.1 hj (ch_L b s) 0 0 1297 rfl (by omega) (by omega) ?_⟩)
      rw [Nat.sub_zero]
      exact br_f (by decide) ⟨1297, cy_ma_l z hs G.1 (by omega) 1296 0 j yF yT yM yC (by omega) hj fun F T M C e => ⟨rfl, ch_R1 hs hh (ch_H_keep H e)⟩⟩
theorem i_vc_mobile {k : Nat} {u : SX} {v : SY} (I : i_Rel k u v) (hk : k + 3 ≤ 1536) (v1 : Int32) : wpX_mobile (fun r u' => wpY_mobile (fun r' v' => r' = r ∧ i_Rel (k + 3) u' v') v v1) u v1 := by
  rcases I with ⟨xm, xh, xr, b, xp, xq, xt, xv, xk, xz, ym, yh, yl, ya, yb, yF, yT, yM, yC, yp, yt, yz, rfl, rfl, h1, h2⟩ | ⟨s, h, xr, b, xp, xq, xt, xv, xk, xz, yl, ya, yb, yF, yT, yM, yC, yp, yt, yz, rfl, rfl, hs, hh, H⟩
  · exact br_t rfl (br_t rfl ⟨rfl, ch_R0 h1 h2⟩)
  · have G := ch_H_G H
    refine br_f (by decide) ?_
    rcases pk_ix v1 (n := 36) (by decide) with hv | hv | ⟨j, hj, rfl⟩
    · exact cx_sq_out (Or.inl hv) (br_t rfl (br_f (by decide) ⟨1, br_f (by decide) (cy_sq_out (Or.inl hv) (br_t rfl ⟨rfl, ch_R1 hs hh H⟩))⟩))
    · exact cx_sq_out (Or.inr hv) (br_t rfl (br_f (by decide) ⟨1, br_f (by decide) (cy_sq_out (Or.inr hv) (br_t rfl ⟨rfl, ch_R1 hs hh H⟩))⟩))
    · refine cx_sq_in hj ?_
      refine br_f (by decide) (cx_nextLegal (f0 := j) (t0 := 0) hs G.1 G.2.1 ?_ hj (by omega) ⟨37, ?_⟩)
      · rw [Int32.sub_add_cancel, pk_shlN ((6 : Int32) &&& 31) 6 (by decide) (by omega)]
        exact congrArg nI (by omega)
      · refine cx_mo_l hs G.1 G.2.1 hj ?_ 36 0 (36 * j + 0) (by omega) (by omega) (by omega) (by rw [Nat.add_zero, Nat.sub_self]; rfl)
        exact br_f (by decide) ⟨37, cy_mo_l hs G.1 hj (by omega) 36 0 yF yT yM yC (by omega) fun F T M C e => ⟨rfl, ch_R1 hs hh (ch_H_keep H e)⟩⟩
