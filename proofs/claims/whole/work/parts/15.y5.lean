/-! the reference: the search from its root; mates -/
def ch_be : Nat → (Nat → Int32) → Nat → Int32
  | 0, _, _ => -3
  | d + 1, b, s => ch_bm (ch_w d b s) (-5000) (-3) (ch_L b s)
section
variable {yg ym yh yl ya yb : Int32} {b yF yT yM yC yp yt yz : Nat → Int32}
theorem cy_end {post : SY → Prop} {D m r : Nat} (hr : r + 1 < 1000000) (H : post (yg, ym, yh, yl, ya, yb, b, yF, yT, yM, yC, yp, yt, yz)) : wY_search_182 post (wY_search_36 post (nI D) (m + 1)) (nI D) (nI 0) (nI r) yg ym yh yl ya yb b yF yT yM yC yp yt yz :=
  nm_r (e' := -1) (by decide) (br_f (by decide) (nm_r (nI_1 r) (br_f (nI_ge (b := 1000000) hr (by decide)) (br_t (by decide) H))))
theorem cy_search0 {post : SY → Prop} {s h : Nat} (hs : s < 2) (hO : ch_Ok b) (hh : h ≤ 60)
    (H : ∀ F T M C yt' yz', ch_e4 h yF yT yM yC F T M C → post (yg, nI s, nI h, nI (ch_cn 0 b s), ch_v 0 b s, ch_be 0 b s, b, F, T, M, C, yp, yt', yz')) :
    ∀ n, n + 0 = 1000001 → wY_search_36 post (nI 0) n (nI 0) (nI 0) yg (nI s) (nI h) 0 0 (-3) b yF yT yM yC yp (upd yt 0 0) (upd yz 0 (-5000)) := by
  intro n hn
  obtain ⟨m, rfl⟩ : ∃ m, n = m + 1 := ⟨n - 1, by omega⟩
  obtain ⟨m, rfl⟩ : ∃ k, m = k + 1 := ⟨m - 1, by omega⟩
  have H0 := H yF yT yM yC (upd yt 0 0) (upd yz 0 (-5000)) ch_e4_r
  refine cy_leaf hs hO (by omega) (by omega) (by omega) (cy_end (by omega) ?_)
  exact H0
theorem cy_searchs {post : SY → Prop} {s h d : Nat} (hd : d ≤ 2) (hs : s < 2) (hO : ch_Ok b) (hz : ch_nz b ≤ 6) (hh : h ≤ 60)
    (H : ∀ F T M C yt' yz', ch_e4 h yF yT yM yC F T M C → post (yg, nI s, nI h, nI (ch_cn (d + 1) b s), ch_v (d + 1) b s, ch_be (d + 1) b s, b, F, T, M, C, yp, yt', yz')) :
    ∀ n, n + 0 = 1000001 → wY_search_36 post (nI (d + 1)) n (nI 0) (nI 0) yg (nI s) (nI h) 0 0 (-3) b yF yT yM yC yp (upd yt 0 0) (upd yz 0 (-5000)) := by
  intro n hn
  have hT := ch_T_num (d := d + 1) (b := b) (s := s) (by omega) hs hz
  have eT1 : ch_T (d + 1) b s = 1 + ch_sm (fun q => 1 + ch_T d (ch_pp b s q) (1 - s)) (ch_L b s) := rfl
  rw [eT1] at hT
  refine cy_row (L := 0) (h := h) (by omega) hh (cy_ch (by omega) hh d) (by omega) hs hO (ch_L b s) 0 0 n yF yT yM yC (upd yt 0 0) (upd yz 0 (-5000)) 0 0 (-3) rfl (by omega) pk_us (by omega) hn ?_
  intro n' q' F T M C ya' yt' yz' hn' hq' er' a4 a1 a2 a3 a5
  obtain ⟨m, rfl⟩ : ∃ m, n' = m + 1 := ⟨n' - 1, by omega⟩
  obtain ⟨m, rfl⟩ : ∃ k, m = k + 1 := ⟨m - 1, by omega⟩
  refine cy_none hs hO (by omega) (by omega) (by omega) (by omega) hq' a2 er' fun F2 T2 M2 C2 b4 => ?_
  have hv : (if yz' 0 ≤ -5000 then ch_no (d + 1 - 0) b s else yz' 0) = ch_v (d + 1) b s := by
    rw [a5, pk_us]
    exact ch_fin (by omega) b s
  rw [hv, if_pos rfl, pk_us, Int32.zero_add]
  exact cy_end (by omega) (H F2 T2 M2 C2 yt' yz' (ch_e4_t a4 b4))
theorem cy_search {post : SY → Prop} {s h D : Nat} (hD : D ≤ 3) (hs : s < 2) (hO : ch_Ok b) (hz : ch_nz b ≤ 6) (hh : h ≤ 60)
    (H : ∀ F T M C yt' yz', ch_e4 h yF yT yM yC F T M C → post (yg, nI s, nI h, nI (ch_cn D b s), ch_v D b s, ch_be D b s, b, F, T, M, C, yp, yt', yz')) :
    wpY_search post (yg, nI s, nI h, yl, ya, yb, b, yF, yT, yM, yC, yp, yt, yz) (nI D) := by
  refine nm_e (nm_e ?_)
  cases D with
  | zero => exact ⟨1000001, cy_search0 hs hO hh H 1000001 rfl⟩
  | succ d => exact ⟨1000001, cy_searchs (by omega) hs hO hz hh H 1000001 rfl⟩
end
section
variable {yg yl ya yb : Int32} {b yF yT yM yC yp yt yz : Nat → Int32}
theorem cy_cm_l {post : Int32 → SY → Prop} {s h : Nat} (hs : s < 2) (hO : ch_Ok b) (hh : h < 69) : ∀ d q yF yT yM yC, q + d = 1296 →
    (∀ F T M C, ch_e4 h yF yT yM yC F T M C → post (ch_bI ((ch_Rl (ch_lg b s) q).any fun p => ch_mt (ch_pp b s p) (1 - s))) (yg, nI s, nI h, yl, ya, yb, b, F, T, M, C, yp, yt, yz)) → wY_canMate_2 post (d + 1) (nI q) yg (nI s) (nI h) yl ya yb b yF yT yM yC yp yt yz := by
  intro d
  induction d with
  | zero =>
    intro q yF yT yM yC hq H
    have e : q = 1296 := by omega
    subst e
    have H0 := H yF yT yM yC ch_e4_r
    rw [ch_Re (Nat.le_refl 1296)] at H0
    exact br_t (nI_le (Nat.le_refl 1296) (by decide)) H0
  | succ d ih =>
    intro q yF yT yM yC hq H
    have hq2 : q < 1296 := by omega
    refine br_f (nI_ge (b := 1296) hq2 (by decide)) ⟨by decide, by decide, ?_⟩
    rw [ch_r36 hq2, ch_d36 hq2]
    refine cy_isLegal hs hO (by omega) (by omega) (by omega) fun F T M C e => ?_
    cases hg : ch_lp b s (q / 36) (q % 36) with
    | false =>
      refine br_t rfl (nm_r (nI_1 q) (ih (q + 1) F T M C (by omega) fun F' T' M' C' e' => ?_))
      have H0 := H F' T' M' C' (ch_e4_t e e')
      rw [ch_Rf hq2 hg] at H0
      exact H0
    | true =>
      obtain ⟨p1, p2, p3⟩ := ch_lg_in hq2 hg
      have hO2 : ch_Ok (ch_pp b s q) := ch_Ok_pl hO p1
      rw [ch_Rt hq2 hg] at H
      simp only [List.any_cons] at H
      have goOn : ∀ F2 T2 M2 C2, ch_e4 (h + 1) (upd F h (nI (q / 36))) (upd T h (nI (q % 36))) (upd M h (b (q / 36))) (upd C h (b (q % 36))) F2 T2 M2 C2 → ∀ x, ch_mt (ch_pp b s q) (1 - s) = x → wY_canMate_63 post (wY_canMate_2 post (d + 1)) (nI q) (ch_bI x) yg (nI (1 - s)) (nI (h + 1)) yl ya yb (ch_pp b s q) F2 T2 M2 C2 yp yt yz := by
        intro F2 T2 M2 C2 e2 x ex
        rw [ex] at H
        have hF : F2 h = nI (q / 36) := by rw [e2.1 h (by omega), pk_us]
        have hT : T2 h = nI (q % 36) := by rw [e2.2.1 h (by omega), pk_us]
        have hM : M2 h = b (q / 36) := by rw [e2.2.2.1 h (by omega), pk_us]
        have hC : C2 h = b (q % 36) := by rw [e2.2.2.2 h (by omega), pk_us]
        have e3 : ch_e4 h yF yT yM yC F2 T2 M2 C2 := ch_e4_t e (ch_e4_t (ch_e4_u (Nat.le_refl h)) (ch_e4_m e2 (by omega)))
        refine cy_undoMove (s := s) (h := h) (ch_mu hs) p1 p2 (by omega) hF hT ?_
        rw [hM, hC, ch_back_pp hq2 hg]
        cases x with
        | false => exact br_t rfl (nm_r (nI_1 q) (ih (q + 1) F2 T2 M2 C2 (by omega) fun F' T' M' C' e' => H F' T' M' C' (ch_e4_t e3 e')))
        | true => exact br_f (by decide) (H F2 T2 M2 C2 e3)
      refine br_f (by decide) ⟨by decide, by decide, cy_doMove hs hO p1 p2 (by omega) p3 (cy_inCheck (by omega) (ch_Ok_pl hO p1) ?_)⟩
      cases hk : ch_ck (ch_pp b s q) (1 - s) with
      | false =>
        have hk' : ch_ck (ch_pl b s (q / 36) (q % 36)) (1 - s) = false := hk
        rw [hk']
        exact br_t rfl (goOn _ _ _ _ ch_e4_r false (by unfold ch_mt; rw [hk]; rfl))
      | true =>
        have hk' : ch_ck (ch_pl b s (q / 36) (q % 36)) (1 - s) = true := hk
        rw [hk']
        refine br_f (by decide) (cy_nextLegal (q := 0) (by omega) (ch_Ok_pl hO p1) (by omega) (by omega) fun F2 T2 M2 C2 e2 => ?_)
        have eL : ch_Rl (ch_lg (ch_pl b s (q / 36) (q % 36)) (1 - s)) 0 = ch_L (ch_pp b s q) (1 - s) := rfl
        rw [eL]
        cases hl : ch_L (ch_pp b s q) (1 - s) with
        | nil => exact br_t (by decide) (goOn F2 T2 M2 C2 e2 true (by unfold ch_mt; rw [hk, hl]; rfl))
        | cons p r =>
          have hp := (ch_L_mem (b := ch_pp b s q) (s := 1 - s) (p := p) (by rw [hl]; exact List.mem_cons_self)).1
          exact br_f (fun z => absurd ((nI_eq (a := p) (b := 1296) (by omega) (by decide)).mp z) (by omega)) (goOn F2 T2 M2 C2 e2 false (by unfold ch_mt; rw [hk, hl]; rfl))
theorem cy_canMate {post : Int32 → SY → Prop} {s h : Nat} (hs : s < 2) (hO : ch_Ok b) (hh : h < 69) (H : ∀ F T M C, ch_e4 h yF yT yM yC F T M C → post (ch_bI (ch_cm b s)) (yg, nI s, nI h, yl, ya, yb, b, F, T, M, C, yp, yt, yz)) : wpY_canMate post (yg, nI s, nI h, yl, ya, yb, b, yF, yT, yM, yC, yp, yt, yz) :=
  ⟨1297, cy_cm_l hs hO hh 1296 0 yF yT yM yC (by omega) H⟩
theorem cy_ls_l {post : Int32 → SY → Prop} {s h : Nat} (hs : s < 2) (hO : ch_Ok b) (hh : h < 68) : ∀ d q yF yT yM yC, q + d = 1296 →
    (∀ F T M C, ch_e4 h yF yT yM yC F T M C → post (ch_bI ((ch_Rl (ch_lg b s) q).all fun p => ch_cm (ch_pp b s p) (1 - s))) (yg, nI s, nI h, yl, ya, yb, b, F, T, M, C, yp, yt, yz)) → wY_isLost_22 post (d + 1) (nI q) yg (nI s) (nI h) yl ya yb b yF yT yM yC yp yt yz := by
  intro d
  induction d with
  | zero =>
    intro q yF yT yM yC hq H
    have e : q = 1296 := by omega
    subst e
    have H0 := H yF yT yM yC ch_e4_r
    rw [ch_Re (Nat.le_refl 1296)] at H0
    exact br_t (nI_le (Nat.le_refl 1296) (by decide)) H0
  | succ d ih =>
    intro q yF yT yM yC hq H
    have hq2 : q < 1296 := by omega
    refine br_f (nI_ge (b := 1296) hq2 (by decide)) ⟨by decide, by decide, ?_⟩
    rw [ch_r36 hq2, ch_d36 hq2]
    refine cy_isLegal hs hO (by omega) (by omega) (by omega) fun F T M C e => ?_
    cases hg : ch_lp b s (q / 36) (q % 36) with
    | false =>
      refine br_t rfl (nm_r (nI_1 q) (ih (q + 1) F T M C (by omega) fun F' T' M' C' e' => ?_))
      have H0 := H F' T' M' C' (ch_e4_t e e')
      rw [ch_Rf hq2 hg] at H0
      exact H0
    | true =>
      obtain ⟨p1, p2, p3⟩ := ch_lg_in hq2 hg
      have hO2 : ch_Ok (ch_pp b s q) := ch_Ok_pl hO p1
      rw [ch_Rt hq2 hg] at H
      simp only [List.all_cons] at H
      refine br_f (by decide) ⟨by decide, by decide, cy_doMove hs hO p1 p2 (by omega) p3 (cy_canMate (by omega) (ch_Ok_pl hO p1) (by omega) fun F2 T2 M2 C2 e2 => ?_)⟩
      have hF : F2 h = nI (q / 36) := by rw [e2.1 h (by omega), pk_us]
      have hT : T2 h = nI (q % 36) := by rw [e2.2.1 h (by omega), pk_us]
      have hM : M2 h = b (q / 36) := by rw [e2.2.2.1 h (by omega), pk_us]
      have hC : C2 h = b (q % 36) := by rw [e2.2.2.2 h (by omega), pk_us]
      have e3 : ch_e4 h yF yT yM yC F2 T2 M2 C2 := ch_e4_t e (ch_e4_t (ch_e4_u (Nat.le_refl h)) (ch_e4_m e2 (by omega)))
      refine cy_undoMove (s := s) (h := h) (ch_mu hs) p1 p2 (by omega) hF hT ?_
      have hb := ch_back_pp hq2 hg
      unfold ch_pp at hb
      rw [hM, hC, hb]
      have ec : ch_cm (ch_pl b s (q / 36) (q % 36)) (1 - s) = ch_cm (ch_pp b s q) (1 - s) := rfl
      rw [ec]
      cases hk : ch_cm (ch_pp b s q) (1 - s) with
      | false => rw [hk] at H; exact br_t rfl (H F2 T2 M2 C2 e3)
      | true =>
        rw [hk] at H
        exact br_f (by decide) (nm_r (nI_1 q) (ih (q + 1) F2 T2 M2 C2 (by omega) fun F' T' M' C' e' => H F' T' M' C' (ch_e4_t e3 e')))
theorem cy_isLost {post : Int32 → SY → Prop} {s h : Nat} (hs : s < 2) (hO : ch_Ok b) (hh : h < 68) (H : ∀ F T M C, ch_e4 h yF yT yM yC F T M C → post (ch_bI (ch_ls b s)) (yg, nI s, nI h, yl, ya, yb, b, F, T, M, C, yp, yt, yz)) : wpY_isLost post (yg, nI s, nI h, yl, ya, yb, b, yF, yT, yM, yC, yp, yt, yz) := by
  unfold wpY_isLost
  dsimp only
  refine cy_nextLegal (q := 0) hs hO (by omega) (by omega) fun F T M C e => ?_
  have eL : ch_Rl (ch_lg b s) 0 = ch_L b s := rfl
  rw [eL]
  cases hl : ch_L b s with
  | nil =>
    refine br_t (by decide) (cy_inCheck hs hO ⟨ch_narB _, ?_⟩)
    have H0 := H F T M C e
    unfold ch_ls at H0
    rw [hl] at H0
    exact H0
  | cons p r =>
    have hp := (ch_L_mem (b := b) (s := s) (p := p) (by rw [hl]; exact List.mem_cons_self)).1
    refine br_f (fun z => absurd ((nI_eq (a := p) (b := 1296) (by omega) (by decide)).mp z) (by omega)) ⟨1297, cy_ls_l hs hO hh 1296 0 F T M C (by omega) fun F' T' M' C' e' => ?_⟩
    have H0 := H F' T' M' C' (ch_e4_t e e')
    unfold ch_ls at H0
    rw [eL]
    have en : (ch_L b s).isEmpty = false := by rw [hl]; rfl
    rw [en] at H0
    exact H0
theorem cy_m2_l {post : Int32 → SY → Prop} {s h : Nat} (hs : s < 2) (hO : ch_Ok b) (hh : h ≤ 60) : ∀ d q fl yF yT yM yC, q + d = 1296 →
    (∀ F T M C, ch_e4 h yF yT yM yC F T M C → post (ch_bI (fl || (ch_Rl (ch_lg b s) q).any fun p => ch_ls (ch_pp b s p) (1 - s))) (yg, nI s, nI h, yl, ya, yb, b, F, T, M, C, yp, yt, yz)) → wY_mate_29 post 2 (d + 1) (ch_bI fl) (nI q) yg (nI s) (nI h) yl ya yb b yF yT yM yC yp yt yz := by
  intro d
  induction d with
  | zero =>
    intro q fl yF yT yM yC hq H
    have e : q = 1296 := by omega
    subst e
    have H0 := H yF yT yM yC ch_e4_r
    rw [ch_Re (Nat.le_refl 1296)] at H0
    simp only [List.any_nil, Bool.or_false] at H0
    exact br_t (nI_le (Nat.le_refl 1296) (by decide)) (ch_rX (post := fun r => post r (yg, nI s, nI h, yl, ya, yb, b, yF, yT, yM, yC, yp, yt, yz)) H0)
  | succ d ih =>
    intro q fl yF yT yM yC hq H
    have hq2 : q < 1296 := by omega
    refine br_f (nI_ge (b := 1296) hq2 (by decide)) (br_t rfl ?_)
    cases fl with
    | true => exact br_f (by decide) (br_f (by decide) (H yF yT yM yC ch_e4_r))
    | false =>
      simp only [Bool.false_or] at H
      refine br_t rfl ⟨by decide, by decide, ?_⟩
      rw [ch_r36 hq2, ch_d36 hq2]
      refine cy_isLegal hs hO (by omega) (by omega) (by omega) fun F T M C e => ?_
      cases hg : ch_lp b s (q / 36) (q % 36) with
      | false =>
        refine br_t rfl (nm_r (nI_1 q) (ih (q + 1) false F T M C (by omega) fun F' T' M' C' e' => ?_))
        have H0 := H F' T' M' C' (ch_e4_t e e')
        rw [ch_Rf hq2 hg] at H0
        exact H0
      | true =>
        obtain ⟨p1, p2, p3⟩ := ch_lg_in hq2 hg
        rw [ch_Rt hq2 hg] at H
        simp only [List.any_cons] at H
        refine br_f (by decide) ⟨by decide, by decide, cy_doMove hs hO p1 p2 (by omega) p3 (cy_isLost (by omega) (ch_Ok_pl hO p1) (by omega) fun F2 T2 M2 C2 e2 => ?_)⟩
        have hF : F2 h = nI (q / 36) := by rw [e2.1 h (by omega), pk_us]
        have hT : T2 h = nI (q % 36) := by rw [e2.2.1 h (by omega), pk_us]
        have hM : M2 h = b (q / 36) := by rw [e2.2.2.1 h (by omega), pk_us]
        have hC : C2 h = b (q % 36) := by rw [e2.2.2.2 h (by omega), pk_us]
        have e3 : ch_e4 h yF yT yM yC F2 T2 M2 C2 := ch_e4_t e (ch_e4_t (ch_e4_u (Nat.le_refl h)) (ch_e4_m e2 (by omega)))
        refine cy_undoMove (s := s) (h := h) (ch_mu hs) p1 p2 (by omega) hF hT ?_
        have hb := ch_back_pp hq2 hg
        unfold ch_pp at hb
        rw [hM, hC, hb]
        refine nm_r (nI_1 q) (ih (q + 1) _ F2 T2 M2 C2 (by omega) fun F' T' M' C' e' => H F' T' M' C' (ch_e4_t e3 e'))
theorem cy_mate2 {post : Int32 → SY → Prop} {s h : Nat} (hs : s < 2) (hO : ch_Ok b) (hh : h ≤ 60) (H : ∀ F T M C, ch_e4 h yF yT yM yC F T M C → post (ch_bI (ch_m2 b s)) (yg, nI s, nI h, yl, ya, yb, b, F, T, M, C, yp, yt, yz)) : wY_mate_22 post 2 yg (nI s) (nI h) yl ya yb b yF yT yM yC yp yt yz := by
  unfold wY_mate_22
  refine cy_canMate hs hO (by omega) fun F T M C e => ⟨1297, cy_m2_l hs hO hh 1296 0 (ch_cm b s) F T M C (by omega) fun F' T' M' C' e' => ?_⟩
  have H0 := H F' T' M' C' (ch_e4_t e e')
  have eq : (ch_cm b s || (ch_Rl (ch_lg b s) 0).any fun p => ch_ls (ch_pp b s p) (1 - s)) = ch_m2 b s := by
    show (ch_cm b s || ch_m2 b s) = ch_m2 b s
    cases hc : ch_cm b s with
    | false => rfl
    | true => rw [ch_cm_m2 hc]; rfl
  rw [eq]
  exact H0
theorem cy_mate1 {post : Int32 → SY → Prop} {s h : Nat} (hs : s < 2) (hO : ch_Ok b) (hh : h ≤ 60) (H : ∀ F T M C, ch_e4 h yF yT yM yC F T M C → post (ch_bI (ch_cm b s)) (yg, nI s, nI h, yl, ya, yb, b, F, T, M, C, yp, yt, yz)) : wY_mate_22 post 1 yg (nI s) (nI h) yl ya yb b yF yT yM yC yp yt yz := by
  unfold wY_mate_22
  refine cy_canMate hs hO (by omega) fun F T M C e => ⟨1, ?_⟩
  exact br_f (by decide) (br_f (by decide) (ch_rX (post := fun r => post r (yg, nI s, nI h, yl, ya, yb, b, F, T, M, C, yp, yt, yz)) (H F T M C e)))
end
