/-! move -/
theorem ch_ov_0 {b : Nat → Int32} {s h st q : Nat} (h0 : ch_ov b s h st q = 0) : h < 60 := by
  unfold ch_ov at h0
  split at h0
  · split at h0 <;> exact absurd h0 (by decide)
  · split at h0
    · exact absurd h0 (by decide)
    · split at h0
      · exact absurd h0 (by decide)
      · split at h0
        · exact absurd h0 (by decide)
        · omega
theorem ch_Rel_push {k s h f t : Nat} {xr : Int32} {b xp xq xt xv xk xz : Nat → Int32} {yl ya yb : Int32} {yF yT yM yC yp yt yz xq' : Nat → Int32} (hs : s < 2) (hh : h < 60) (H : ch_H h b xp xq yp yF yT yM yC) (hf : f < 36) (ht : t < 36) (hc : ch_cg b s f t = true)
    (q1 : ∀ k, k ≤ h → xq' k = xq k) (q2 : xq' (h + 1) = if b t = 0 ∧ ¬ ch_kd (b f) = 1 then xq h + 1 else 0) :
    i_Rel k (1, nI (1 - s), nI (h + 1), xr, ch_pl b s f t, ch_kp xp (ch_pl b s f t) (h + 1) 36, xq', xt, xv, xk, xz) (1, nI (1 - s), nI (h + 1), yl, ya, yb, ch_pl b s f t, upd yF h (nI f), upd yT h (nI t), upd yM h (b f), upd yC h (b t), ch_kp yp (ch_pl b s f t) (h + 1) 36, yt, yz) :=
  ch_R1 (by omega) (by omega) (ch_H_push H hf ht hc (fun i hi => ch_kp_lo hi) (fun i hi => ch_kp_at hi) (fun i hi => ch_kp_lo hi) (fun i hi => ch_kp_at hi) q1 q2)
section
variable {xr : Int32} {b xp xq xt xv xk xz : Nat → Int32}
/-- the rest of move, once the move is made on the board -/
theorem cx_mv_end {post : Int32 → SX → Prop} {s h : Nat} {c : Int32} (hh : h < 60) (z0 : Int32) (H : ∀ xq', (∀ k, k ≤ h → xq' k = xq k) → xq' (h + 1) = z0 → post (xk 0) (1, nI (1 - s), nI (h + 1), xr, b, ch_kp xp b (h + 1) 36, xq', xt, xv, xk, xz)) : wX_move_103 post z0 (nI h + 1) 1 (nI (1 - s)) (nI h) xr b xp xq xt xv xk xz := by
  have c1 : (nI (h + 1)).toNatClampNeg = h + 1 := nI_clamp (by omega)
  have e1 : nI h + 1 = nI (h + 1) := nI_1 h
  refine ⟨by rw [e1]; exact vp_in_nI (by omega) (by decide), nm_r (e' := upd xq (h + 1) z0) (by rw [e1, c1]) (nm_r (nI_1 h) (cx_keepPosition (h := h + 1) (by omega) (H _ (fun k hk => pk_un (by omega)) pk_us)))⟩
end
theorem i_vc_move {k : Nat} {u : SX} {v : SY} (I : i_Rel k u v) (hk : k + 3 ≤ 1536) (v1 : Int32) (v2 : Int32) : wpX_move (fun r u' => wpY_move (fun r' v' => r' = r ∧ i_Rel (k + 3) u' v') v v1 v2) u v1 v2 := by
  rcases I with ⟨xm, xh, xr, b, xp, xq, xt, xv, xk, xz, ym, yh, yl, ya, yb, yF, yT, yM, yC, yp, yt, yz, rfl, rfl, h1, h2⟩ | ⟨s, h, xr, b, xp, xq, xt, xv, xk, xz, yl, ya, yb, yF, yT, yM, yC, yp, yt, yz, rfl, rfl, hs, hh, H⟩
  · exact br_t rfl (br_t rfl ⟨rfl, ch_R0 h1 h2⟩)
  · have G := ch_H_G H
    have hq := ch_qt_le yM yC h
    refine br_f (by decide) (cx_way hs G.1 G.2.1 hh (by omega) (ch_H_q H) ?_)
    rw [ch_H_st H]
    have hY : ∀ post : Int32 → SY → Prop, (∀ F T M C, ch_e4 h yF yT yM yC F T M C → ((ch_ov b s h (ch_st (ch_eq yp b) h) (ch_qt yM yC h) = 0 → wpY_isSquare (fun r_18 => (((r_18 = 0 → (post (-3) (1, nI s, nI h, yl, ya, yb, b, F, T, M, C, yp, yt, yz))) ∧ (¬ r_18 = 0 → (wpY_isSquare (fun r_34 => (((r_34 = 0 → (post (-3) (1, nI s, nI h, yl, ya, yb, b, F, T, M, C, yp, yt, yz))) ∧ (¬ r_34 = 0 → (wpY_isLegal (fun r_50 u => match u with | (yg, ym, yh, yl, ya, yb, b, yF, yT, yM, yC, yp, yt, yz) => (((r_50 = 0 → (post (-3) (yg, ym, yh, yl, ya, yb, b, yF, yT, yM, yC, yp, yt, yz))) ∧ (¬ r_50 = 0 → (wpY_doMove (fun u => match u with | (yg, ym, yh, yl, ya, yb, b, yF, yT, yM, yC, yp, yt, yz) => (wpY_keepBoard (fun u => match u with | (yg, ym, yh, yl, ya, yb, b, yF, yT, yM, yC, yp, yt, yz) => (vp_in (yh - 1) 70 ∧ (post (yC (yh - 1).toNatClampNeg) (yg, ym, yh, yl, ya, yb, b, yF, yT, yM, yC, yp, yt, yz)))) (yg, ym, yh, yl, ya, yb, b, yF, yT, yM, yC, yp, yt, yz))) (yg, ym, yh, yl, ya, yb, b, yF, yT, yM, yC, yp, yt, yz) v1 v2))))) (1, nI s, nI h, yl, ya, yb, b, F, T, M, C, yp, yt, yz) v1 v2))))) (1, nI s, nI h, yl, ya, yb, b, F, T, M, C, yp, yt, yz) v2))))) (1, nI s, nI h, yl, ya, yb, b, F, T, M, C, yp, yt, yz) v1) ∧ (¬ ch_ov b s h (ch_st (ch_eq yp b) h) (ch_qt yM yC h) = 0 → post (-2) (1, nI s, nI h, yl, ya, yb, b, F, T, M, C, yp, yt, yz)))) → wpY_move post (1, nI s, nI h, yl, ya, yb, b, yF, yT, yM, yC, yp, yt, yz) v1 v2 := by
      intro post hp
      refine br_f (by decide) (cy_result hs G.1 hh fun F T M C e => ?_)
      exact hp F T M C e
    by_cases ho : ch_ov b s h (ch_st (ch_eq yp b) h) (ch_qt yM yC h) = 0
    · refine br_t ho ?_
      have h60 := ch_ov_0 ho
      have outX : ∀ post : Int32 → SX → Prop, ((v1 < 0 ∨ nI 36 ≤ v1) ∨ (v2 < 0 ∨ nI 36 ≤ v2)) → post 0 (1, nI s, nI h, xr, b, xp, xq, xt, xv, xk, xz) → wpX_isLegal post (1, nI s, nI h, xr, b, xp, xq, xt, xv, xk, xz) v1 v2 := by
        intro post hv hp
        unfold wpX_isLegal
        dsimp only
        rcases pk_ix v1 (n := 36) (by decide) with q | q | ⟨j, hj, e⟩
        · exact cx_sq_out (Or.inl q) (br_t rfl hp)
        · exact cx_sq_out (Or.inr q) (br_t rfl hp)
        · subst e
          refine cx_sq_in hj ?_
          refine br_f (by decide) ?_
          have hv2 : v2 < 0 ∨ nI 36 ≤ v2 := by
            rcases hv with hv | hv
            · rcases hv with hv | hv
              · exact absurd hv (nI_pos (by omega))
              · exact absurd hv (nI_ge hj (by decide))
            · exact hv
          exact cx_sq_out hv2 (br_t rfl hp)
      have outY : ∀ post : Int32 → SY → Prop, ((v1 < 0 ∨ nI 36 ≤ v1) ∨ (v2 < 0 ∨ nI 36 ≤ v2)) → (∀ F T M C, ch_e4 h yF yT yM yC F T M C → post (-3) (1, nI s, nI h, yl, ya, yb, b, F, T, M, C, yp, yt, yz)) → wpY_move post (1, nI s, nI h, yl, ya, yb, b, yF, yT, yM, yC, yp, yt, yz) v1 v2 := by
        intro post hv hp
        refine hY post fun F T M C e => br_t ho ?_
        rcases pk_ix v1 (n := 36) (by decide) with q | q | ⟨j, hj, e'⟩
        · exact cy_sq_out (Or.inl q) (br_t rfl (hp F T M C e))
        · exact cy_sq_out (Or.inr q) (br_t rfl (hp F T M C e))
        · subst e'
          refine cy_sq_in hj ?_
          refine br_f (by decide) ?_
          have hv2 : v2 < 0 ∨ nI 36 ≤ v2 := by
            rcases hv with hv | hv
            · rcases hv with hv | hv
              · exact absurd hv (nI_pos (by omega))
              · exact absurd hv (nI_ge hj (by decide))
            · exact hv
          exact cy_sq_out hv2 (br_t rfl (hp F T M C e))
      have R3 : ∀ F T M C, ch_e4 h yF yT yM yC F T M C → (-3 : Int32) = -3 ∧ i_Rel (k + 3) (1, nI s, nI h, xr, b, xp, xq, xt, xv, xk, xz) (1, nI s, nI h, yl, ya, yb, b, F, T, M, C, yp, yt, yz) := fun F T M C e => ⟨rfl, ch_R1 hs hh (ch_H_keep H e)⟩
      rcases pk_ix v1 (n := 36) (by decide) with q | q | ⟨f, hf, e1⟩
      · exact outX _ (Or.inl (Or.inl q)) (br_t rfl (outY _ (Or.inl (Or.inl q)) R3))
      · exact outX _ (Or.inl (Or.inr q)) (br_t rfl (outY _ (Or.inl (Or.inr q)) R3))
      rcases pk_ix v2 (n := 36) (by decide) with q | q | ⟨t, ht, e2⟩
      · exact outX _ (Or.inr (Or.inl q)) (br_t rfl (outY _ (Or.inr (Or.inl q)) R3))
      · exact outX _ (Or.inr (Or.inr q)) (br_t rfl (outY _ (Or.inr (Or.inr q)) R3))
      subst e1 e2
      refine cx_isLegal hs G.1 G.2.1 hf ht ?_
      cases hl : ch_lp b s f t with
      | false =>
        refine br_t rfl (hY _ fun F T M C e => br_t ho (cy_sq_in hf (br_f (by decide) (cy_sq_in ht (br_f (by decide) (cy_isLegal hs G.1 hf ht (by omega) fun F' T' M' C' e' => ?_))))))
        rw [hl]
        exact br_t rfl (R3 F' T' M' C' (ch_e4_t e e'))
      | true =>
        have hc := ch_lp_cg hl
        have hp : 36 * f + t < 1296 := by omega
        have pf : (36 * f + t) / 36 = f := by omega
        have pt : (36 * f + t) % 36 = t := by omega
        have e0 : (nI f <<< ((6 : Int32) &&& 31)) + nI t = nI (ch_nm (36 * f + t)) := by
          rw [pk_shlN ((6 : Int32) &&& 31) 6 (by decide) (by omega), nI_add]
          unfold ch_nm
          exact congrArg nI (by omega)
        have epp : ch_pp b s (36 * f + t) = ch_pl b s f t := by unfold ch_pp; rw [pf, pt]
        have hYm : ∀ (xt' xv' : Nat → Int32) (r : Int32) (xq' xk' : Nat → Int32), r = b t → (∀ k, k ≤ h → xq' k = xq k) → xq' (h + 1) = (if b t = 0 ∧ ¬ ch_kd (b f) = 1 then xq h + 1 else 0) → wpY_move (fun r' v' => r' = r ∧ i_Rel (k + 3) (1, nI (1 - s), nI (h + 1), xr, ch_pl b s f t, ch_kp xp (ch_pl b s f t) (h + 1) 36, xq', xt', xv', xk', xz) v') (1, nI s, nI h, yl, ya, yb, b, yF, yT, yM, yC, yp, yt, yz) (nI f) (nI t) := by
          intro xt' xv' r xq' xk' er q1 q2
          refine hY _ fun F T M C e => br_t ho (cy_sq_in hf (br_f (by decide) (cy_sq_in ht (br_f (by decide) (cy_isLegal hs G.1 hf ht (by omega) fun F' T' M' C' e' => ?_)))))
          rw [hl]
          refine br_f (by decide) (cy_doMove hs G.1 hf ht (by omega) hc (cy_keepBoard (h := h + 1) (by omega) ?_))
          refine ⟨?_, ?_, ?_⟩
          · rw [nI_pred]; exact vp_in_nI (by omega) (by decide)
          · rw [nI_pred, nI_clamp (by omega), pk_us, er]
          · exact ch_Rel_push hs h60 (ch_H_keep H (ch_e4_t e e')) hf ht hc q1 q2
        refine br_f (by decide) (nm_r e0 (cx_play (L := 0) hs G.1 hp (by omega) ?_))
        rw [epp, pf, pt]
        have eT : upd xk 0 (b t) 0 = b t := pk_us
        have eM : upd xv 0 (b f) 0 = b f := pk_us
        have h70 : ¬ (b t = 0 ∧ ¬ ch_kd (b f) = 1) → wX_move_70 (fun r u' => wpY_move (fun r' v' => r' = r ∧ i_Rel (k + 3) u' v') (1, nI s, nI h, yl, ya, yb, b, yF, yT, yM, yC, yp, yt, yz) (nI f) (nI t)) 1 (nI (1 - s)) (nI h) xr (ch_pl b s f t) xp xq (upd xt 0 (nI (ch_nm (36 * f + t)))) (upd xv 0 (b f)) (upd xk 0 (b t)) xz := by
          intro hn
          refine br_t rfl (cx_mv_end (c := 0) h60 0 fun xq' q1 q2 => ?_)
          exact hYm _ _ _ xq' _ eT q1 (by rw [q2, if_neg hn])
        by_cases z : b t = 0
        · refine br_t (eT.trans z) ?_
          rw [eM]
          refine cx_kindOf (G.1 f hf) ?_
          by_cases k1 : ch_kd (b f) = 1
          · exact br_t k1 (h70 fun w => w.2 k1)
          · refine br_f k1 (br_f (by decide) ⟨vp_in_nI (by omega) (by decide), ?_⟩)
            rw [nI_clamp (by omega)]
            refine cx_mv_end (c := 0) h60 (xq h + 1) fun xq' q1 q2 => ?_
            exact hYm _ _ _ xq' _ eT q1 (by rw [q2, if_pos ⟨z, k1⟩])
        · exact br_f (fun w => z (eT.symm.trans w)) (h70 fun w => z w.1)
    · refine br_f ho (hY _ fun F T M C e => br_f ho ⟨rfl, ch_R1 hs hh (ch_H_keep H e)⟩)
