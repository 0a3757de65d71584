/-! the reference: positions, counting, ways of being over, balance -/
section
variable {yg ym yh yl ya yb : Int32} {b yF yT yM yC yp yt yz : Nat → Int32}
theorem cy_kp_l {post : SY → Prop} {h : Nat} (hh : h ≤ 60) (H : post (yg, ym, nI h, yl, ya, yb, b, yF, yT, yM, yC, ch_kp yp b h 36, yt, yz)) : ∀ d j, j + d = 36 → wY_keepBoard_2 post yg ym (nI h) yl ya yb (d + 1) (nI j) b yF yT yM yC (ch_kp yp b h j) yt yz := by
  intro d
  induction d with
  | zero =>
    intro j hj
    have e : j = 36 := by omega
    subst e
    exact br_t (nI_le (Nat.le_refl 36) (by decide)) H
  | succ d ih =>
    intro j hj
    have cl : (nI j).toNatClampNeg = j := nI_clamp (by omega)
    refine br_f (nI_ge (b := 36) (by omega) (by decide)) ⟨vp_in_nI (by omega) (by decide), by rw [ch_iy]; exact vp_in_nI (by omega) (by decide), nm_r (e' := ch_kp yp b h (j + 1)) ?_ (nm_r (nI_1 j) (ih (j + 1) (by omega)))⟩
    rw [ch_iy, nI_clamp (by omega), cl, ch_kp_s]
theorem cy_keepBoard {post : SY → Prop} {h : Nat} (hh : h ≤ 60) (H : post (yg, ym, nI h, yl, ya, yb, b, yF, yT, yM, yC, ch_kp yp b h 36, yt, yz)) : wpY_keepBoard post (yg, ym, nI h, yl, ya, yb, b, yF, yT, yM, yC, yp, yt, yz) := by
  have h1 := cy_kp_l hh H 36 0 rfl
  rw [ch_kp_0] at h1
  exact ⟨37, h1⟩
theorem cy_sd_in {post : Int32 → Prop} {J : Int32 → Int32 → Prop} {k a : Nat} (hk : k ≤ 60) (HJ : ∀ a', a' = a + ch_b1 (ch_eq yp b k) → ∀ x : Int32, x = nI k - 2 → J (nI a') x) :
    ∀ d j fl, j + d = 36 → (fl = true ↔ ∀ i, i < j → yp (36 * k + i) = b i) → wY_standings_16 post J (nI a) (nI k) yg ym yh yl ya yb b yF yT yM yC yp yt yz (d + 1) (ch_bI fl) (nI j) := by
  intro d
  induction d with
  | zero =>
    intro j fl hj hfl
    have e : j = 36 := by omega
    subst e
    have e2 : ch_eq yp b k = fl := Bool.eq_iff_iff.mpr (ch_eq_iff.trans hfl.symm)
    rw [e2] at HJ
    refine br_t (nI_le (Nat.le_refl 36) (by decide)) ?_
    cases fl with
    | false => exact br_t rfl (HJ a rfl)
    | true => exact br_f (by decide) (nm_r (nI_1 a) (HJ (a + 1) rfl))
  | succ d ih =>
    intro j fl hj hfl
    have cl : (nI j).toNatClampNeg = j := nI_clamp (by omega)
    refine br_f (nI_ge (b := 36) (by omega) (by decide)) ?_
    cases fl with
    | false =>
      refine br_t rfl (nm_r (nI_1 j) (ih (j + 1) false (by omega) ⟨fun q => Bool.noConfusion q, fun q => hfl.mpr fun i hi => q i (by omega)⟩))
    | true =>
      have hall := hfl.mp rfl
      refine br_f (by decide) ⟨by rw [ch_iy]; exact vp_in_nI (by omega) (by decide), vp_in_nI (by omega) (by decide), ek_if (d := yp (36 * k + j) = b j) (by rw [ch_iy, nI_clamp (by omega), cl]) (fun z => nm_r (nI_1 j) (ih (j + 1) true (by omega) ⟨fun _ i hi => ?_, fun _ => rfl⟩)) (fun z => nm_r (nI_1 j) (ih (j + 1) false (by omega) ⟨fun q => Bool.noConfusion q, fun q => absurd (q j (by omega)) z⟩))⟩
      by_cases e : i = j
      · rw [e]; exact z
      · exact hall i (by omega)
theorem cy_st_l {post : Int32 → Prop} : ∀ n k a, k < 2 * n → k ≤ 60 → post (nI (a + ch_st (ch_eq yp b) k)) → wY_standings_7 post yg ym yh yl ya yb b yF yT yM yC yp yt yz (n + 1) (nI a) (nI k) := by
  intro n
  induction n with
  | zero => intro k a hk; omega
  | succ n ih =>
    intro k a hk h60 H
    have hend : ∀ a x, x < (0 : Int32) → post (nI a) → wY_standings_7 post yg ym yh yl ya yb b yF yT yM yC yp yt yz (n + 1) (nI a) x := fun a x hx hp => br_t hx hp
    have key : ∀ a', a' = a + ch_b1 (ch_eq yp b k) → ∀ x : Int32, x = nI k - 2 → wY_standings_7 post yg ym yh yl ya yb b yF yT yM yC yp yt yz (n + 1) (nI a') x := by
      intro a' ea x ex
      have h3 : k = 0 ∨ k = 1 ∨ ∃ j, k = j + 2 := by
        by_cases a0 : k = 0
        · exact Or.inl a0
        · by_cases a1 : k = 1
          · exact Or.inr (Or.inl a1)
          · exact Or.inr (Or.inr ⟨k - 2, by omega⟩)
      rcases h3 with e | e | ⟨j, e⟩
      · subst e; rw [ea]; exact hend _ _ (by rw [ex]; decide) H
      · subst e; rw [ea]; exact hend _ _ (by rw [ex]; decide) H
      · subst e
        rw [ex, ch_dn2']
        refine ih j a' (by omega) (by omega) ?_
        rw [ea, Nat.add_assoc]
        exact H
    exact br_f (nI_pos (by omega)) ⟨37, cy_sd_in h60 key 36 0 true rfl ⟨fun _ i hi => absurd hi (Nat.not_lt_zero i), fun _ => rfl⟩⟩
theorem cy_standings {post : Int32 → Prop} {h : Nat} (hh : h ≤ 60) (H : post (nI (ch_st (ch_eq yp b) h))) : wpY_standings post (yg, ym, nI h, yl, ya, yb, b, yF, yT, yM, yC, yp, yt, yz) :=
  ⟨62, cy_st_l 61 h 0 (by omega) hh (by rw [Nat.zero_add]; exact H)⟩
theorem cy_qt_l {post : Int32 → Prop} {h : Nat} (hh : h ≤ 60) (H : post (nI (ch_qt yM yC h))) : ∀ d n, n + d = h → (∀ j, j < n → yC (h - 1 - j) = 0 ∧ ¬ ch_kd (yM (h - 1 - j)) = 1) → wY_quiet_2 post yg ym (nI h) yl ya yb b yF yT yM yC yp yt yz (d + 1) (nI n) := by
  intro d
  induction d with
  | zero =>
    intro n hn hq
    have e : n = h := by omega
    subst e
    have e2 := ch_qt_back yM yC (Nat.le_refl n) hq
    rw [Nat.sub_self] at e2
    rw [e2] at H
    exact br_t (nI_le (Nat.le_refl n) (by omega)) H
  | succ d ih =>
    intro n hn hq
    have e2 := ch_qt_back yM yC (h := h) (n := n) (by omega) hq
    have ei : nI h - 1 - nI n = nI (h - 1 - n) := by
      rw [show (1 : Int32) = nI 1 from rfl, pk_sub (by omega), pk_sub (by omega)]
    have cl : (nI (h - 1 - n)).toNatClampNeg = h - 1 - n := nI_clamp (by omega)
    have vi : vp_in (nI (h - 1 - n)) 70 := vp_in_nI (by omega) (by decide)
    refine br_f (nI_ge (by omega) (by omega)) ?_
    rw [ei, cl]
    have stop : ¬ (yC (h - 1 - n) = 0 ∧ ¬ ch_kd (yM (h - 1 - n)) = 1) → post (nI n) := by
      intro q
      rw [show h - n = (h - 1 - n) + 1 by omega] at e2
      simp only [ch_qt] at e2
      rw [if_neg q] at e2
      rw [e2] at H
      exact H
    refine ⟨vi, ?_⟩
    by_cases z : yC (h - 1 - n) = 0
    · refine br_t z ⟨vi, cy_kind ?_⟩
      by_cases k : ch_kd (yM (h - 1 - n)) = 1
      · exact br_t k (stop fun q => q.2 k)
      · refine br_f k (nm_r (nI_1 n) (ih (n + 1) (by omega) fun j hj => ?_))
        by_cases e : j = n
        · rw [e]; exact ⟨z, k⟩
        · exact hq j (by omega)
    · exact br_f z (stop fun q => z q.1)
theorem cy_quiet {post : Int32 → Prop} {h : Nat} (hh : h ≤ 60) (H : post (nI (ch_qt yM yC h))) : wpY_quiet post (yg, ym, nI h, yl, ya, yb, b, yF, yT, yM, yC, yp, yt, yz) :=
  ⟨h + 1, cy_qt_l hh H h 0 (by omega) (fun j hj => absurd hj (Nat.not_lt_zero j))⟩
theorem cy_worth {post : Int32 → Prop} {c : Int32} (hc : ch_ok c) (H : post (ch_wt c)) : wpY_worth post (yg, ym, yh, yl, ya, yb, b, yF, yT, yM, yC, yp, yt, yz) c := by
  unfold wpY_worth
  dsimp only
  refine cy_kind ?_
  unfold ch_wt at H
  by_cases z : c = 0
  · rw [z, ch_kd_0] at H ⊢; exact br_t (by decide) H
  · rcases ch_kd_ne hc z with k | k | k | k | k | k <;> rw [k] at H ⊢
    · exact br_f (by decide) (br_f (by decide) (br_t rfl H))
    · exact br_f (by decide) (br_f (by decide) (br_f (by decide) (br_t rfl H)))
    · exact br_f (by decide) (br_f (by decide) (br_f (by decide) (br_f (by decide) (br_t rfl H))))
    · exact br_f (by decide) (br_f (by decide) (br_f (by decide) (br_f (by decide) (br_f (by decide) (br_t rfl H)))))
    · exact br_f (by decide) (br_f (by decide) (br_f (by decide) (br_f (by decide) (br_f (by decide) (br_f (by decide) (br_t rfl H))))))
    · exact br_f (by decide) (br_t (by decide) H)
theorem cy_bl_l {post : Int32 → Prop} {s : Nat} (hs : s < 2) (hO : ch_Ok b) (H : post (ch_bl b s)) : ∀ d j, j + d = 36 → wY_balance_4 post yg (nI s) yh yl ya yb b yF yT yM yC yp yt yz (d + 1) (ch_sb b s j) (nI j) := by
  intro d
  induction d with
  | zero =>
    intro j hj
    have e : j = 36 := by omega
    subst e
    exact br_t (nI_le (Nat.le_refl 36) (by decide)) H
  | succ d ih =>
    intro j hj
    have cl : (nI j).toNatClampNeg = j := nI_clamp (by omega)
    have vj : vp_in (nI j) 36 := vp_in_nI (by omega) (by decide)
    have h1 := ih (j + 1) (by omega)
    simp only [ch_sb] at h1
    refine br_f (nI_ge (b := 36) (by omega) (by decide)) ⟨vj, ?_⟩
    rw [cl]
    refine cy_worth (hO j (by omega)) ⟨vj, cy_isOf hs ?_⟩
    cases ho : ch_ow (b j) s with
    | true =>
      rw [ho, if_pos rfl] at h1
      exact br_f (by decide) (nm_e (nm_r (nI_1 j) h1))
    | false =>
      rw [ho, if_neg (by decide)] at h1
      exact br_t rfl (nm_e (nm_r (nI_1 j) h1))
theorem cy_balance {post : Int32 → Prop} {s : Nat} (hs : s < 2) (hO : ch_Ok b) (H : post (ch_bl b s)) : wpY_balance post (yg, nI s, yh, yl, ya, yb, b, yF, yT, yM, yC, yp, yt, yz) := ⟨37, cy_bl_l hs hO H 36 0 rfl⟩
theorem cy_without {post : Int32 → Prop} {s d : Nat} (hs : s < 2) (hO : ch_Ok b) (H : post (ch_no d b s)) : wpY_without post (yg, nI s, yh, yl, ya, yb, b, yF, yT, yM, yC, yp, yt, yz) (nI d) := by
  unfold wpY_without
  dsimp only
  refine cy_inCheck hs hO ?_
  unfold ch_no at H
  cases hc : ch_ck b s with
  | true => rw [hc, if_pos rfl] at H; exact br_f (by decide) H
  | false => rw [hc, if_neg (by decide)] at H; exact br_t rfl H
end
section
variable {yl ya yb : Int32} {b yF yT yM yC yp yt yz : Nat → Int32}
theorem cy_mv_l {post : Int32 → SY → Prop} {yg : Int32} {s h : Nat} (hs : s < 2) (hO : ch_Ok b) (hh : h < 70) : ∀ d q yF yT yM yC, q + d = 1296 →
    (∀ F T M C, ch_e4 h yF yT yM yC F T M C → post (nI (ch_ct (ch_lg b s) 1296)) (yg, nI s, nI h, yl, ya, yb, b, F, T, M, C, yp, yt, yz)) → wY_moves_13 post (d + 1) (nI (ch_ct (ch_lg b s) q)) (nI q) yg (nI s) (nI h) yl ya yb b yF yT yM yC yp yt yz := by
  intro d
  induction d with
  | zero =>
    intro q yF yT yM yC hq H
    have e : q = 1296 := by omega
    subst e
    exact br_t (nI_le (Nat.le_refl 1296) (by decide)) (H yF yT yM yC ch_e4_r)
  | succ d ih =>
    intro q yF yT yM yC hq H
    have hq2 : q < 1296 := by omega
    refine br_f (nI_ge (b := 1296) hq2 (by decide)) ⟨by decide, by decide, ?_⟩
    rw [ch_r36 hq2, ch_d36 hq2]
    refine cy_isLegal hs hO (by omega) (by omega) hh fun F T M C e => ?_
    have h1 := ih (q + 1) F T M C (by omega) fun F' T' M' C' e' => H F' T' M' C' (ch_e4_t e e')
    cases hl : ch_lp b s (q / 36) (q % 36) with
    | false =>
      rw [ch_ct_f (p := ch_lg b s) hl] at h1
      exact br_t rfl (nm_r (nI_1 q) h1)
    | true =>
      rw [ch_ct_t (p := ch_lg b s) hl] at h1
      exact br_f (by decide) (nm_r (nI_1 _) (nm_r (nI_1 q) h1))
theorem cy_moves {post : Int32 → SY → Prop} {s h : Nat} (hs : s < 2) (hO : ch_Ok b) (hh : h < 70) (H : ∀ F T M C, ch_e4 h yF yT yM yC F T M C → post (nI (ch_L b s).length) (1, nI s, nI h, yl, ya, yb, b, F, T, M, C, yp, yt, yz)) : wpY_moves post (1, nI s, nI h, yl, ya, yb, b, yF, yT, yM, yC, yp, yt, yz) := by
  unfold ch_L at H
  rw [ch_Rlen0] at H
  exact br_f (by decide) ⟨1297, cy_mv_l hs hO hh 1296 0 yF yT yM yC (by omega) H⟩
theorem cy_result {post : Int32 → SY → Prop} {s h : Nat} (hs : s < 2) (hO : ch_Ok b) (hh : h ≤ 60) (H : ∀ F T M C, ch_e4 h yF yT yM yC F T M C → post (ch_ov b s h (ch_st (ch_eq yp b) h) (ch_qt yM yC h)) (1, nI s, nI h, yl, ya, yb, b, F, T, M, C, yp, yt, yz)) : wpY_result post (1, nI s, nI h, yl, ya, yb, b, yF, yT, yM, yC, yp, yt, yz) := by
  refine br_f (by decide) (cy_nextLegal (q := 0) hs hO (by omega) (by omega) fun F T M C e => ?_)
  have H := H F T M C e
  have eL : ch_Rl (ch_lg b s) 0 = ch_L b s := rfl
  rw [eL]
  unfold ch_ov at H
  by_cases eN : ch_L b s = []
  · rw [if_pos eN] at H
    refine br_t (by rw [eN]; rfl) (cy_inCheck hs hO ?_)
    cases hc : ch_ck b s with
    | true => rw [hc] at H; exact br_f (by decide) H
    | false => rw [hc] at H; exact br_t rfl H
  · rw [if_neg eN] at H
    have hlt : ch_hY (ch_L b s) < 1296 := by
      cases hl : ch_L b s with
      | nil => exact absurd hl eN
      | cons p r => exact (ch_L_mem (by rw [hl]; exact List.mem_cons_self)).1
    refine br_f (fun q => absurd ((nI_eq (b := 1296) (by omega) (by decide)).mp q) (by omega)) (cy_standings hh ?_)
    have hst := ch_st_le (ch_eq yp b) h h (Nat.le_refl h)
    by_cases h3 : 3 ≤ ch_st (ch_eq yp b) h
    · rw [if_pos h3] at H
      exact br_f (nI_nlt (b := 3) h3 (by omega)) H
    · rw [if_neg h3] at H
      refine br_t (nI_lt (b := 3) (by omega) (by decide)) (cy_quiet hh ?_)
      rw [ch_qt_congr h fun i hi => ⟨e.2.2.1 i hi, e.2.2.2 i hi⟩]
      have hq := ch_qt_le yM yC h
      by_cases h20 : 20 ≤ ch_qt yM yC h
      · rw [if_pos h20] at H
        exact br_f (nI_nlt (b := 20) h20 (by omega)) H
      · rw [if_neg h20] at H
        refine br_t (nI_lt (b := 20) (by omega) (by decide)) ?_
        by_cases h6 : 60 ≤ h
        · rw [if_pos h6] at H
          exact br_f (nI_nlt (b := 60) h6 (by omega)) H
        · rw [if_neg h6] at H
          exact br_t (nI_lt (b := 60) (by omega) (by decide)) H
theorem cy_ma_l {post : Int32 → SY → Prop} {yg x1 : Int32} {s h : Nat} (h1 : ¬ x1 < 0) (hs : s < 2) (hO : ch_Ok b) (hh : h < 70) : ∀ d q l yF yT yM yC, q + d = 1296 → l < 2 ^ 31 →
    (∀ F T M C, ch_e4 h yF yT yM yC F T M C → post (ch_nt (ch_Rl (ch_lg b s) q) l) (yg, nI s, nI h, yl, ya, yb, b, F, T, M, C, yp, yt, yz)) → wY_moveAt_13 post x1 (d + 1) (nI l) (nI q) yg (nI s) (nI h) yl ya yb b yF yT yM yC yp yt yz := by
  intro d
  induction d with
  | zero =>
    intro q l yF yT yM yC hq hl H
    have e : q = 1296 := by omega
    subst e
    have H0 := H yF yT yM yC ch_e4_r
    rw [ch_Re (Nat.le_refl 1296)] at H0
    exact br_t (nI_le (Nat.le_refl 1296) (by decide)) H0
  | succ d ih =>
    intro q l yF yT yM yC hq hl H
    have hq2 : q < 1296 := by omega
    refine br_f (nI_ge (b := 1296) hq2 (by decide)) (br_f h1 ⟨by decide, by decide, ?_⟩)
    rw [ch_r36 hq2, ch_d36 hq2]
    refine cy_isLegal hs hO (by omega) (by omega) hh fun F T M C e => ?_
    cases hg : ch_lp b s (q / 36) (q % 36) with
    | false =>
      refine br_t rfl (nm_r (nI_1 q) (ih (q + 1) l F T M C (by omega) hl fun F' T' M' C' e' => ?_))
      have H0 := H F' T' M' C' (ch_e4_t e e')
      rw [ch_Rf hq2 hg] at H0
      exact H0
    | true =>
      refine br_f (by decide) ?_
      by_cases z : l = 0
      · subst z
        have H0 := H F T M C e
        rw [ch_Rt hq2 hg] at H0
        refine br_t nI_0 ⟨by decide, by decide, ?_⟩
        rw [show (64 : Int32) = nI 64 from rfl, pk_mul, nI_add]
        exact H0
      · obtain ⟨l', rfl⟩ : ∃ l', l = l' + 1 := ⟨l - 1, by omega⟩
        refine br_f (nI_ne0 (by omega) hl) (nm_r (pk_m1 l') (nm_r (nI_1 q) (ih (q + 1) l' F T M C (by omega) (by omega) fun F' T' M' C' e' => ?_)))
        have H0 := H F' T' M' C' (ch_e4_t e e')
        rw [ch_Rt hq2 hg] at H0
        exact H0
theorem cy_mo_l {post : Int32 → SY → Prop} {yg : Int32} {s f h : Nat} (hs : s < 2) (hO : ch_Ok b) (hf : f < 36) (hh : h < 70) : ∀ d q yF yT yM yC, q + d = 36 →
    (∀ F T M C, ch_e4 h yF yT yM yC F T M C → post (nI (ch_ct (ch_lp b s f) 36)) (yg, nI s, nI h, yl, ya, yb, b, F, T, M, C, yp, yt, yz)) → wY_mobile_13 post (nI f) (d + 1) (nI (ch_ct (ch_lp b s f) q)) (nI q) yg (nI s) (nI h) yl ya yb b yF yT yM yC yp yt yz := by
  intro d
  induction d with
  | zero =>
    intro q yF yT yM yC hq H
    have e : q = 36 := by omega
    subst e
    exact br_t (nI_le (Nat.le_refl 36) (by decide)) (H yF yT yM yC ch_e4_r)
  | succ d ih =>
    intro q yF yT yM yC hq H
    refine br_f (nI_ge (b := 36) (by omega) (by decide)) (cy_sq_in hf (br_f (by decide) (cy_isLegal hs hO hf (by omega) hh fun F T M C e => ?_)))
    have h1 := ih (q + 1) F T M C (by omega) fun F' T' M' C' e' => H F' T' M' C' (ch_e4_t e e')
    cases hl : ch_lp b s f q with
    | false =>
      rw [ch_ct_f hl] at h1
      exact br_t rfl (nm_r (nI_1 q) h1)
    | true =>
      rw [ch_ct_t hl] at h1
      exact br_f (by decide) (nm_r (nI_1 _) (nm_r (nI_1 q) h1))
end
