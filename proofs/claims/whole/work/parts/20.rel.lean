/-! the relation of the two states -/
def i_Rel (_ : Nat) (u : SX) (v : SY) : Prop :=
  (∃ (xm xh xr : Int32) (b xp xq xt xv xk xz : Nat → Int32) (ym yh yl ya yb : Int32) (yF yT yM yC yp yt yz : Nat → Int32), u = (0, xm, xh, xr, b, xp, xq, xt, xv, xk, xz) ∧ v = (0, ym, yh, yl, ya, yb, b, yF, yT, yM, yC, yp, yt, yz) ∧ ch_Ok b ∧ ch_nz b ≤ 6) ∨
  (∃ (s h : Nat) (xr : Int32) (b xp xq xt xv xk xz : Nat → Int32) (yl ya yb : Int32) (yF yT yM yC yp yt yz : Nat → Int32), u = (1, nI s, nI h, xr, b, xp, xq, xt, xv, xk, xz) ∧ v = (1, nI s, nI h, yl, ya, yb, b, yF, yT, yM, yC, yp, yt, yz) ∧ s < 2 ∧ h ≤ 60 ∧ ch_H h b xp xq yp yF yT yM yC)
theorem i_up {k : Nat} {u : SX} {v : SY} (h : i_Rel k u v) : i_Rel (k + 3) u v := h
theorem ch_R0 {k : Nat} {xm xh xr : Int32} {b xp xq xt xv xk xz : Nat → Int32} {ym yh yl ya yb : Int32} {yF yT yM yC yp yt yz : Nat → Int32} (h1 : ch_Ok b) (h2 : ch_nz b ≤ 6) : i_Rel k (0, xm, xh, xr, b, xp, xq, xt, xv, xk, xz) (0, ym, yh, yl, ya, yb, b, yF, yT, yM, yC, yp, yt, yz) :=
  Or.inl ⟨xm, xh, xr, b, xp, xq, xt, xv, xk, xz, ym, yh, yl, ya, yb, yF, yT, yM, yC, yp, yt, yz, rfl, rfl, h1, h2⟩
theorem ch_R1 {k s h : Nat} {xr : Int32} {b xp xq xt xv xk xz : Nat → Int32} {yl ya yb : Int32} {yF yT yM yC yp yt yz : Nat → Int32} (hs : s < 2) (hh : h ≤ 60) (H : ch_H h b xp xq yp yF yT yM yC) : i_Rel k (1, nI s, nI h, xr, b, xp, xq, xt, xv, xk, xz) (1, nI s, nI h, yl, ya, yb, b, yF, yT, yM, yC, yp, yt, yz) :=
  Or.inr ⟨s, h, xr, b, xp, xq, xt, xv, xk, xz, yl, ya, yb, yF, yT, yM, yC, yp, yt, yz, rfl, rfl, hs, hh, H⟩
theorem ch_any {k : Nat} {u : SX} {v : SY} (I : i_Rel k u v) : ∃ (xg xm xh xr : Int32) (b xp xq xt xv xk xz : Nat → Int32) (ym yh yl ya yb : Int32) (yF yT yM yC yp yt yz : Nat → Int32), u = (xg, xm, xh, xr, b, xp, xq, xt, xv, xk, xz) ∧ v = (xg, ym, yh, yl, ya, yb, b, yF, yT, yM, yC, yp, yt, yz) ∧ ch_Ok b := by
  rcases I with ⟨xm, xh, xr, b, xp, xq, xt, xv, xk, xz, ym, yh, yl, ya, yb, yF, yT, yM, yC, yp, yt, yz, e1, e2, h1, h2⟩ | ⟨s, h, xr, b, xp, xq, xt, xv, xk, xz, yl, ya, yb, yF, yT, yM, yC, yp, yt, yz, e1, e2, hs, hh, H⟩
  · exact ⟨0, xm, xh, xr, b, xp, xq, xt, xv, xk, xz, ym, yh, yl, ya, yb, yF, yT, yM, yC, yp, yt, yz, e1, e2, h1⟩
  · exact ⟨1, nI s, nI h, xr, b, xp, xq, xt, xv, xk, xz, nI s, nI h, yl, ya, yb, yF, yT, yM, yC, yp, yt, yz, e1, e2, (ch_H_G H).1⟩
theorem ch_zero_Ok : ch_Ok (fun _ => 0) := fun _ _ => ch_ok_0
theorem i_vc0 : wpX_init (fun u => wpY_init (fun v => i_Rel 0 u v)) :=
  ch_R0 (k := 0) ch_zero_Ok (by decide)
/-! put -/
theorem ch_nz_u (b : Nat → Int32) {j : Nat} (hj : j < 36) (x : Int32) : ch_nz (upd b j x) + (if b j = 0 then 0 else 1) = ch_nz b + (if x = 0 then 0 else 1) := by
  have h := ch_ct_upd (fun i => !decide (b i = 0)) j (!decide (x = 0)) 36 hj
  have e : ch_ct (fun i => if i = j then !decide (x = 0) else !decide (b i = 0)) 36 = ch_nz (upd b j x) := by
    unfold ch_nz
    refine ch_ct_congr fun i _ => ?_
    unfold upd
    by_cases c : i = j
    · rw [if_pos c, if_pos c]
    · rw [if_neg c, if_neg c]
  rw [e] at h
  have e1 : (if (!decide (b j = 0)) = true then 1 else 0) = (if b j = 0 then 0 else 1) := by
    by_cases c : b j = 0
    · rw [if_pos c, decide_eq_true c]; rfl
    · rw [if_neg c, decide_eq_false c]; rfl
  have e2 : (if (!decide (x = 0)) = true then 1 else 0) = (if x = 0 then 0 else 1) := by
    by_cases c : x = 0
    · rw [if_pos c, decide_eq_true c]; rfl
    · rw [if_neg c, decide_eq_false c]; rfl
  rw [e1, e2] at h
  exact h
theorem ch_nz_put {b : Nat → Int32} {j : Nat} {x : Int32} (hj : j < 36) (h6 : ch_nz b ≤ 6) (h : x = 0 ∨ ¬ b j = 0 ∨ ch_nz b < 6) : ch_nz (upd b j x) ≤ 6 := by
  have h1 := ch_nz_u b hj x
  have h2 : (if x = 0 then 0 else 1) ≤ 1 := by split <;> omega
  rcases h with h | h | h
  · rw [if_pos h] at h1; omega
  · rw [if_neg h] at h1; omega
  · omega
theorem cx_ipn {post : Int32 → Prop} {p : Int32} (H1 : ch_ok p → post 1) (H0 : ¬ ch_ok p → post 0) : wpX_isPieceOrNothing post p := by
  unfold wpX_isPieceOrNothing wpX_kindOf
  by_cases h0 : p < 0
  · exact br_t h0 (H0 fun q => (ch_ok_in.mp q).1 h0)
  · refine br_f h0 ?_
    by_cases h1 : 14 < p
    · exact br_t h1 (H0 fun q => absurd (ch_ok_in.mp q).2.1 (Int32.not_le.mpr h1))
    · refine br_f h1 ?_
      have hX := ch_ok_X h0 (Int32.not_lt.mp h1)
      by_cases h2 : 6 < p &&& 7
      · exact br_t h2 (H0 fun q => absurd (hX.mp q).1 (Int32.not_le.mpr h2))
      · refine br_f h2 ?_
        by_cases h3 : p = 0
        · exact br_t h3 (H1 (Or.inl h3))
        · refine br_f h3 ?_
          by_cases h4 : p &&& 7 = 0
          · exact br_t h4 (H0 fun q => ((hX.mp q).2).elim h3 (fun w => w h4))
          · exact br_f h4 (H1 (hX.mpr ⟨Int32.not_lt.mp h2, Or.inr h4⟩))
theorem cy_ipn {A B : Prop} {p : Int32} (H1 : ch_ok p → A) (H0 : ¬ ch_ok p → B) : (p < 0 → B) ∧ (¬ p < 0 → ((14 < p → B) ∧ (¬ 14 < p → ((p = 7 → B) ∧ (¬ p = 7 → ((p = 8 → B) ∧ (¬ p = 8 → A))))))) := by
  refine br_c (fun h => H0 fun q => (ch_ok_in.mp q).1 h) (fun h0 => br_c (fun h => H0 fun q => absurd (ch_ok_in.mp q).2.1 (Int32.not_le.mpr h)) (fun h1 => br_c (fun h => H0 fun q => (ch_ok_in.mp q).2.2.1 h) (fun h2 => br_c (fun h => H0 fun q => (ch_ok_in.mp q).2.2.2 h) (fun h3 => H1 (ch_ok_in.mpr ⟨h0, Int32.not_lt.mp h1, h2, h3⟩)))))
theorem i_vc_put {k : Nat} {u : SX} {v : SY} (I : i_Rel k u v) (hk : k + 3 ≤ 1536) (v1 : Int32) (v2 : Int32) : wpX_put (fun r u' => wpY_put (fun r' v' => r' = r ∧ i_Rel (k + 3) u' v') v v1 v2) u v1 v2 := by
  obtain ⟨xg, xm, xh, xr, b, xp, xq, xt, xv, xk, xz, ym, yh, yl, ya, yb, yF, yT, yM, yC, yp, yt, yz, e1, e2, hO⟩ := ch_any I
  have out : (v1 < 0 ∨ nI 36 ≤ v1) → wpX_put (fun r u' => wpY_put (fun r' v' => r' = r ∧ i_Rel (k + 3) u' v') v v1 v2) u v1 v2 := by
    intro h
    subst e1 e2
    unfold wpX_put
    dsimp only
    refine cx_sq_out h ?_
    refine br_t rfl ?_
    unfold wpY_put
    dsimp only
    refine cy_sq_out h ?_
    exact br_t rfl ⟨rfl, I⟩
  rcases pk_ix v1 (n := 36) (by decide) with h | h | ⟨j, hj, rfl⟩
  · exact out (Or.inl h)
  · exact out (Or.inr h)
  by_cases ho : ch_ok v2
  · have hX : ∀ post : Int32 → SX → Prop, ((xg = 0 → wpX_kindOf (fun r_6 => (((r_6 = 1 → (wpX_isEndRow (fun r_31 => (((r_31 = 0 → (wX_put_47 post (nI j) v2 xg xm xh xr b xp xq xt xv xk xz)) ∧ (¬ r_31 = 0 → (post (-4) (xg, xm, xh, xr, b, xp, xq, xt, xv, xk, xz)))))) (nI j))) ∧ (¬ r_6 = 1 → (wX_put_47 post (nI j) v2 xg xm xh xr b xp xq xt xv xk xz))))) v2) ∧ (¬ xg = 0 → post (-3) (xg, xm, xh, xr, b, xp, xq, xt, xv, xk, xz))) → wpX_put post (xg, xm, xh, xr, b, xp, xq, xt, xv, xk, xz) (nI j) v2 := by
      intro post h
      unfold wpX_put
      dsimp only
      refine cx_sq_in hj ?_
      refine br_f (by decide) ?_
      exact cx_ipn (fun _ => br_f (by decide) h) (fun q => absurd ho q)
    have hY : ∀ post : Int32 → SY → Prop, ((xg = 0 → (wpY_kind (fun r_22 => (((r_22 = 1 → (¬ (6 : Int32) = 0 ∧ ((((nI j / 6) = 0 → (post (-4) (xg, ym, yh, yl, ya, yb, b, yF, yT, yM, yC, yp, yt, yz))) ∧ (¬ (nI j / 6) = 0 → (¬ (6 : Int32) = 0 ∧ ((((nI j / 6) = 5 → (post (-4) (xg, ym, yh, yl, ya, yb, b, yF, yT, yM, yC, yp, yt, yz))) ∧ (¬ (nI j / 6) = 5 → (wY_put_72 post (nI j) v2 xg ym yh yl ya yb b yF yT yM yC yp yt yz)))))))))) ∧ (¬ r_22 = 1 → (wY_put_72 post (nI j) v2 xg ym yh yl ya yb b yF yT yM yC yp yt yz))))) (xg, ym, yh, yl, ya, yb, b, yF, yT, yM, yC, yp, yt, yz) v2)) ∧ (¬ xg = 0 → (post (-3) (xg, ym, yh, yl, ya, yb, b, yF, yT, yM, yC, yp, yt, yz)))) → wpY_put post (xg, ym, yh, yl, ya, yb, b, yF, yT, yM, yC, yp, yt, yz) (nI j) v2 := by
      intro post h
      unfold wpY_put
      dsimp only
      refine cy_sq_in hj ?_
      refine br_f (by decide) ?_
      exact cy_ipn (fun _ => h) (fun q => absurd ho q)
    rcases I with ⟨xm', xh', xr', b', xp', xq', xt', xv', xk', xz', ym', yh', yl', ya', yb', yF', yT', yM', yC', yp', yt', yz', f1, f2, h1, h2⟩ | ⟨s, h, xr', b', xp', xq', xt', xv', xk', xz', yl', ya', yb', yF', yT', yM', yC', yp', yt', yz', f1, f2, hs, hh, H⟩
    · rw [e1] at f1
      rw [e2] at f2
      have g0 : xg = 0 := congrArg (fun w : SX => w.1) f1
      have gb : b = b' := congrArg (fun w : SX => w.2.2.2.2.1) f1
      subst g0
      subst gb
      have cj : (nI j).toNatClampNeg = j := nI_clamp (by omega)
      have vj : vp_in (nI j) 36 := vp_in_nI hj (by decide)
      rw [e1, e2]
      obtain ⟨r1, r2, -, -⟩ := ch_t_row j hj
      by_cases hpn : ch_kd v2 = 1 ∧ (j < 6 ∨ 30 ≤ j)
      · refine hX _ (br_t rfl (cx_kindOf ho (br_t hpn.1 (cx_isEndRow hj ?_))))
        rw [decide_eq_true hpn.2]
        refine br_f (by decide) (hY _ (br_t rfl (cy_kind (br_t hpn.1 ⟨by decide, ?_⟩))))
        by_cases c6 : j < 6
        · exact br_t (r2.mpr c6) ⟨rfl, ch_R0 h1 h2⟩
        · exact br_f (fun q => c6 (r2.mp q)) ⟨by decide, br_t (r1.mpr (hpn.2.resolve_left c6)) ⟨rfl, ch_R0 h1 h2⟩⟩
      · have h47 : ∀ post : Int32 → SX → Prop, wX_put_47 post (nI j) v2 0 xm xh xr b xp xq xt xv xk xz → wpX_put post (0, xm, xh, xr, b, xp, xq, xt, xv, xk, xz) (nI j) v2 := by
          intro post h
          refine hX _ (br_t rfl (cx_kindOf ho ?_))
          by_cases k1 : ch_kd v2 = 1
          · refine br_t k1 (cx_isEndRow hj ?_)
            rw [decide_eq_false fun q => hpn ⟨k1, q⟩]
            exact br_t rfl h
          · exact br_f k1 h
        have h72 : ∀ post : Int32 → SY → Prop, wY_put_72 post (nI j) v2 0 ym yh yl ya yb b yF yT yM yC yp yt yz → wpY_put post (0, ym, yh, yl, ya, yb, b, yF, yT, yM, yC, yp, yt, yz) (nI j) v2 := by
          intro post h
          refine hY _ (br_t rfl (cy_kind ?_))
          by_cases k1 : ch_kd v2 = 1
          · exact br_t k1 ⟨by decide, br_f (fun q => hpn ⟨k1, Or.inl (r2.mp q)⟩) ⟨by decide, br_f (fun q => hpn ⟨k1, Or.inr (r1.mp q)⟩) h⟩⟩
          · exact br_f k1 h
        have h97 : ∀ post : Int32 → SY → Prop, post (b j) (0, ym, yh, yl, ya, yb, upd b j v2, yF, yT, yM, yC, yp, yt, yz) → wY_put_97 post (nI j) v2 0 ym yh yl ya yb b yF yT yM yC yp yt yz := fun post h => ⟨vj, nm_r (e' := b j) (congrArg b cj) ⟨vj, nm_r (e' := upd b j v2) (by rw [cj]) h⟩⟩
        have rel : (v2 = 0 ∨ ¬ b j = 0 ∨ ch_nz b < 6) → b j = b j ∧ i_Rel (k + 3) (0, xm, xh, xr, upd b j v2, xp, xq, xt, xv, xk, xz) (0, ym, yh, yl, ya, yb, upd b j v2, yF, yT, yM, yC, yp, yt, yz) := fun q => ⟨rfl, ch_R0 (ch_Ok_u h1 ho) (ch_nz_put hj h2 q)⟩
        refine h47 _ ⟨vj, nm_r (e' := b j) (congrArg b cj) ?_⟩
        by_cases z2 : v2 = 0
        · exact br_t z2 ⟨vj, nm_r (e' := upd b j v2) (by rw [cj]) (h72 _ (br_t z2 (h97 _ (rel (Or.inl z2)))))⟩
        · refine br_f z2 ?_
          by_cases zb : b j = 0
          · refine br_t zb (cx_countPieces ?_)
            by_cases z6 : ch_nz b < 6
            · refine br_t (nI_lt (b := 6) z6 (by decide)) ⟨vj, nm_r (e' := upd b j v2) (by rw [cj]) (h72 _ (br_f z2 ⟨vj, br_t ((congrArg b cj).trans zb) (cy_pieces (br_t (nI_lt (b := 6) z6 (by decide)) (h97 _ (rel (Or.inr (Or.inr z6))))))⟩))⟩
            · have n6 : ¬ nI (ch_nz b) < 6 := nI_nlt (b := 6) (by omega) (by omega)
              exact br_f n6 (h72 _ (br_f z2 ⟨vj, br_t ((congrArg b cj).trans zb) (cy_pieces (br_f n6 ⟨rfl, ch_R0 h1 h2⟩))⟩))
          · exact br_f zb ⟨vj, nm_r (e' := upd b j v2) (by rw [cj]) (h72 _ (br_f z2 ⟨vj, br_f (fun q => zb ((congrArg b cj).symm.trans q)) (h97 _ (rel (Or.inr (Or.inl zb))))⟩))⟩
    · have g1 : xg = 1 := congrArg (fun w : SX => w.1) (e1.symm.trans f1)
      have I2 : i_Rel (k + 3) u v := Or.inr ⟨s, h, xr', b', xp', xq', xt', xv', xk', xz', yl', ya', yb', yF', yT', yM', yC', yp', yt', yz', f1, f2, hs, hh, H⟩
      have n0 : ¬ xg = 0 := by rw [g1]; decide
      rw [e1, e2] at I2
      rw [e1, e2]
      exact hX _ (br_f n0 (hY _ (br_f n0 ⟨rfl, I2⟩)))
  · subst e1 e2
    unfold wpX_put
    dsimp only
    refine cx_sq_in hj ?_
    refine br_f (by decide) ?_
    refine cx_ipn (fun q => absurd q ho) (fun _ => ?_)
    refine br_t rfl ?_
    unfold wpY_put
    dsimp only
    refine cy_sq_in hj ?_
    refine br_f (by decide) ?_
    exact cy_ipn (fun q => absurd q ho) (fun _ => ⟨rfl, I⟩)
