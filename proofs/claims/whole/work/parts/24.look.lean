/-! count, value, best, mate -/
theorem i_vc_count {k : Nat} {u : SX} {v : SY} (I : i_Rel k u v) (hk : k + 3 ≤ 1536) (v1 : Int32) : wpX_count (fun r u' => wpY_count (fun r' v' => r' = r ∧ i_Rel (k + 3) u' v') v v1) u v1 := by
  rcases I with ⟨xm, xh, xr, b, xp, xq, xt, xv, xk, xz, ym, yh, yl, ya, yb, yF, yT, yM, yC, yp, yt, yz, rfl, rfl, h1, h2⟩ | ⟨s, h, xr, b, xp, xq, xt, xv, xk, xz, yl, ya, yb, yF, yT, yM, yC, yp, yt, yz, rfl, rfl, hs, hh, H⟩
  · exact br_t rfl (br_t rfl ⟨rfl, ch_R0 h1 h2⟩)
  · have G := ch_H_G H
    by_cases n0 : v1 < 0
    · exact br_f (by decide) (br_t n0 (br_f (by decide) (br_t n0 ⟨rfl, ch_R1 hs hh H⟩)))
    · by_cases n3 : v1 ≤ 3
      · obtain ⟨D, hD, rfl⟩ := nI_of2 (M := 3) (n := 3) (by decide) n0 n3
        refine br_f (by decide) (br_f n0 (br_t n3 ?_))
        cases D with
        | zero => exact br_t nI_0 (br_f (by decide) (br_f n0 (br_t n3 (cy_search hD hs G.1 G.2.2 hh fun F T M C yt' yz' e => ⟨rfl, ch_R1 hs hh (ch_H_keep H e)⟩))))
        | succ d => exact br_f (nI_ne0 (by omega) (by omega)) (cx_countRows (by omega) hs G.1 G.2.1 G.2.2 fun xt' xv' xk' => br_f (by decide) (br_f n0 (br_t n3 (cy_search hD hs G.1 G.2.2 hh fun F T M C yt' yz' e => ⟨rfl, ch_R1 hs hh (ch_H_keep H e)⟩))))
      · exact br_f (by decide) (br_f n0 (br_f n3 (br_f (by decide) (br_f n0 (br_f n3 ⟨rfl, ch_R1 hs hh H⟩)))))
theorem i_vc_value {k : Nat} {u : SX} {v : SY} (I : i_Rel k u v) (hk : k + 3 ≤ 1536) (v1 : Int32) : wpX_value (fun r u' => wpY_value (fun r' v' => r' = r ∧ i_Rel (k + 3) u' v') v v1) u v1 := by
  rcases I with ⟨xm, xh, xr, b, xp, xq, xt, xv, xk, xz, ym, yh, yl, ya, yb, yF, yT, yM, yC, yp, yt, yz, rfl, rfl, h1, h2⟩ | ⟨s, h, xr, b, xp, xq, xt, xv, xk, xz, yl, ya, yb, yF, yT, yM, yC, yp, yt, yz, rfl, rfl, hs, hh, H⟩
  · exact br_t rfl (br_t rfl ⟨rfl, ch_R0 h1 h2⟩)
  · have G := ch_H_G H
    by_cases n0 : v1 < 0
    · exact br_f (by decide) (br_t n0 (br_f (by decide) (br_t n0 ⟨rfl, ch_R1 hs hh H⟩)))
    · by_cases n3 : v1 ≤ 3
      · obtain ⟨D, hD, rfl⟩ := nI_of2 (M := 3) (n := 3) (by decide) n0 n3
        exact br_f (by decide) (br_f n0 (br_t n3 (cx_lookAhead hD hs G.1 G.2.1 G.2.2 fun xt' xv' xk' xz' => br_f (by decide) (br_f n0 (br_t n3 (cy_search hD hs G.1 G.2.2 hh fun F T M C yt' yz' e => ⟨rfl, ch_R1 hs hh (ch_H_keep H e)⟩))))))
      · exact br_f (by decide) (br_f n0 (br_f n3 (br_f (by decide) (br_f n0 (br_f n3 ⟨rfl, ch_R1 hs hh H⟩)))))
theorem ch_lt1 {x : Int32} (h : ¬ x < 1) : ¬ x < 0 := fun q => h (Int32.lt_trans q (by decide))
theorem i_vc_best {k : Nat} {u : SX} {v : SY} (I : i_Rel k u v) (hk : k + 3 ≤ 1536) (v1 : Int32) : wpX_best (fun r u' => wpY_best (fun r' v' => r' = r ∧ i_Rel (k + 3) u' v') v v1) u v1 := by
  rcases I with ⟨xm, xh, xr, b, xp, xq, xt, xv, xk, xz, ym, yh, yl, ya, yb, yF, yT, yM, yC, yp, yt, yz, rfl, rfl, h1, h2⟩ | ⟨s, h, xr, b, xp, xq, xt, xv, xk, xz, yl, ya, yb, yF, yT, yM, yC, yp, yt, yz, rfl, rfl, hs, hh, H⟩
  · exact br_t rfl (br_t rfl ⟨rfl, ch_R0 h1 h2⟩)
  · have G := ch_H_G H
    by_cases n1 : v1 < 1
    · exact br_f (by decide) (br_t n1 (br_f (by decide) (br_t n1 ⟨rfl, ch_R1 hs hh H⟩)))
    · by_cases n3 : v1 ≤ 3
      · obtain ⟨D, hD, rfl⟩ := nI_of2 (M := 3) (n := 3) (by decide) (ch_lt1 n1) n3
        obtain ⟨d, rfl⟩ : ∃ d, D = d + 1 := by
          cases D with
          | zero => exact absurd (show nI 0 < 1 by decide) n1
          | succ d => exact ⟨d, rfl⟩
        refine br_f (by decide) (br_f n1 (br_t n3 (cx_lookAhead hD hs G.1 G.2.1 G.2.2 fun xt' xv' xk' xz' => ?_)))
        have eb := ch_best (d := d) (by omega) b s
        have hY : ∀ r : Int32, r = ch_be (d + 1) b s → wpY_best (fun r' v' => r' = r ∧ i_Rel (k + 3) (1, nI s, nI h, ch_bR (d + 1) b s, b, xp, xq, xt', xv', xk', xz') v') (1, nI s, nI h, yl, ya, yb, b, yF, yT, yM, yC, yp, yt, yz) (nI (d + 1)) := by
          intro r er
          exact br_f (by decide) (br_f n1 (br_t n3 (cy_search hD hs G.1 G.2.2 hh fun F T M C yt' yz' e => ⟨er.symm, ch_R1 hs hh (ch_H_keep H e)⟩)))
        by_cases z : ch_bR (d + 1) b s = -1
        · rw [if_pos z] at eb
          exact br_t z (hY _ eb)
        · rw [if_neg z] at eb
          exact br_f z (hY _ eb)
      · exact br_f (by decide) (br_f n1 (br_f n3 (br_f (by decide) (br_f n1 (br_f n3 ⟨rfl, ch_R1 hs hh H⟩)))))
theorem i_vc_mate {k : Nat} {u : SX} {v : SY} (I : i_Rel k u v) (hk : k + 3 ≤ 1536) (v1 : Int32) : wpX_mate (fun r u' => wpY_mate (fun r' v' => r' = r ∧ i_Rel (k + 3) u' v') v v1) u v1 := by
  rcases I with ⟨xm, xh, xr, b, xp, xq, xt, xv, xk, xz, ym, yh, yl, ya, yb, yF, yT, yM, yC, yp, yt, yz, rfl, rfl, h1, h2⟩ | ⟨s, h, xr, b, xp, xq, xt, xv, xk, xz, yl, ya, yb, yF, yT, yM, yC, yp, yt, yz, rfl, rfl, hs, hh, H⟩
  · exact br_t rfl (br_t rfl ⟨rfl, ch_R0 h1 h2⟩)
  · have G := ch_H_G H
    by_cases z1 : v1 = 1
    · subst z1
      refine br_f (by decide) (br_f (by decide) (br_t (by decide) ?_))
      have e : (2 * (1 : Int32)) - 1 = nI 1 := by decide
      rw [e]
      refine cx_mate1 hs G.1 G.2.1 G.2.2 fun xt' xv' xk' => ?_
      have hY : ∀ r : Int32, r = ch_bI (ch_cm b s) → wpY_mate (fun r' v' => r' = r ∧ i_Rel (k + 3) (1, nI s, nI h, xr, b, xp, xq, xt', xv', xk', xz) v') (1, nI s, nI h, yl, ya, yb, b, yF, yT, yM, yC, yp, yt, yz) 1 := fun r er => br_f (by decide) (br_t rfl (cy_mate1 hs G.1 hh fun F T M C e => ⟨er.symm, ch_R1 hs hh (ch_H_keep H e)⟩))
      cases hc : ch_cm b s with
      | true => rw [hc] at hY; exact br_f (by decide) (hY 1 rfl)
      | false => rw [hc] at hY; exact br_t rfl (hY 0 rfl)
    · by_cases z2 : v1 = 2
      · subst z2
        refine br_f (by decide) (br_f (by decide) (br_t (by decide) ?_))
        have e : (2 * (2 : Int32)) - 1 = nI 3 := by decide
        rw [e]
        refine cx_mate2 hs G.1 G.2.1 G.2.2 fun xt' xv' xk' => ?_
        have hY : ∀ r : Int32, r = ch_bI (ch_m2 b s) → wpY_mate (fun r' v' => r' = r ∧ i_Rel (k + 3) (1, nI s, nI h, xr, b, xp, xq, xt', xv', xk', xz) v') (1, nI s, nI h, yl, ya, yb, b, yF, yT, yM, yC, yp, yt, yz) 2 := fun r er => br_f (by decide) (br_f (by decide) (br_t rfl (cy_mate2 hs G.1 hh fun F T M C e => ⟨er.symm, ch_R1 hs hh (ch_H_keep H e)⟩)))
        cases hc : ch_m2 b s with
        | true => rw [hc] at hY; exact br_f (by decide) (hY 1 rfl)
        | false => rw [hc] at hY; exact br_t rfl (hY 0 rfl)
      · have hY : wpY_mate (fun r' v' => r' = -2 ∧ i_Rel (k + 3) (1, nI s, nI h, xr, b, xp, xq, xt, xv, xk, xz) v') (1, nI s, nI h, yl, ya, yb, b, yF, yT, yM, yC, yp, yt, yz) v1 := br_f (by decide) (br_f z1 (br_f z2 ⟨rfl, ch_R1 hs hh H⟩))
        refine br_f (by decide) ?_
        by_cases n1 : v1 < 1
        · exact br_t n1 hY
        · refine br_f n1 ?_
          by_cases n2 : v1 ≤ 2
          · obtain ⟨D, hD, rfl⟩ := nI_of2 (M := 2) (n := 2) (by decide) (ch_lt1 n1) n2
            have h3 : D = 0 ∨ D = 1 ∨ D = 2 := by omega
            rcases h3 with e | e | e
            · subst e; exact absurd (show nI 0 < 1 by decide) n1
            · subst e; exact absurd rfl z1
            · subst e; exact absurd rfl z2
          · exact br_f n2 hY
