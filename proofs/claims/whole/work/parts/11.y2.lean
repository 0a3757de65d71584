/-! the reference: check, moves made and taken back, legal moves -/
theorem ch_mu {s : Nat} (hs : s < 2) : (1 : Int32) - nI (1 - s) = nI s := by
  rw [ch_s4 (by omega), ch_s3 hs]
theorem ch_d36 {p : Nat} (h : p < 1296) : nI p / 36 = nI (p / 36) := pk_div (d := 36) (by omega) (by decide) (by decide)
theorem ch_r36 {p : Nat} (h : p < 1296) : nI p - nI p / 36 * 36 = nI (p % 36) := pk_rem (d := 36) (by omega) (by decide) (by decide)
theorem ch_cg_mv (b : Nat → Int32) (s f t : Nat) : ch_cg b s f t = (ch_ow (b f) s && ch_mv b s f t) := rfl
section
variable {yg ym yh yl ya yb : Int32} {b yF yT yM yC yp yt yz : Nat → Int32}
theorem cy_ao_l {post : Int32 → Prop} {s k : Nat} (hs : s < 2) (hO : ch_Ok b) (hk : k < 36) (H : post (nI (ch_aa b k s))) : ∀ d j, j + d = 36 → wY_attackersOf_5 post (nI k) (nI s) yg ym yh yl ya yb b yF yT yM yC yp yt yz (d + 1) (nI (ch_ct (fun f => ch_ow (b f) s && ch_at b f k) j)) (nI j) := by
  intro d
  induction d with
  | zero =>
    intro j hj
    have e : j = 36 := by omega
    subst e
    exact br_t (nI_le (Nat.le_refl 36) (by decide)) H
  | succ d ih =>
    intro j hj
    have cl : (nI j).toNatClampNeg = j := nI_clamp (by omega)
    have h1 := ih (j + 1) (by omega)
    refine br_f (nI_ge (b := 36) (by omega) (by decide)) ⟨vp_in_nI (by omega) (by decide), ?_⟩
    rw [cl]
    refine cy_isOf hs ?_
    cases ho : ch_ow (b j) s with
    | false =>
      rw [ch_ct_f (by simp [ho])] at h1
      exact br_t rfl (nm_r (nI_1 j) h1)
    | true =>
      refine br_f (by decide) (cy_attacks (by omega) hk (hO j (by omega)) ?_)
      cases ha : ch_at b j k with
      | false =>
        rw [ch_ct_f (by simp [ha])] at h1
        exact br_t rfl (nm_r (nI_1 j) h1)
      | true =>
        rw [ch_ct_t (by simp [ha, ho])] at h1
        exact br_f (by decide) (nm_r (nI_1 _) (nm_r (nI_1 j) h1))
theorem cy_attackersOf {post : Int32 → Prop} {s k : Nat} (hs : s < 2) (hO : ch_Ok b) (hk : k < 36) (H : post (nI (ch_aa b k s))) : wpY_attackersOf post (yg, ym, yh, yl, ya, yb, b, yF, yT, yM, yC, yp, yt, yz) (nI k) (nI s) := ⟨37, cy_ao_l hs hO hk H 36 0 rfl⟩
theorem cy_ks_l {post : Int32 → Prop} {s : Nat} (hs : s < 2) (H : post (nI (ch_ct (fun i => decide (b i = ch_kg s)) 36))) : ∀ d j, j + d = 36 → wY_kings_4 post (nI s) yg ym yh yl ya yb b yF yT yM yC yp yt yz (d + 1) (nI (ch_ct (fun i => decide (b i = ch_kg s)) j)) (nI j) := by
  intro d
  induction d with
  | zero =>
    intro j hj
    have e : j = 36 := by omega
    subst e
    exact br_t (nI_le (Nat.le_refl 36) (by decide)) H
  | succ d ih =>
    intro j hj
    have cl : (nI j).toNatClampNeg = j := nI_clamp (by omega)
    have h1 := ih (j + 1) (by omega)
    refine br_f (nI_ge (b := 36) (by omega) (by decide)) ⟨vp_in_nI (by omega) (by decide), ek_if (d := b j = ch_kg s) (by rw [cl, ch_kgY hs]) (fun z => nm_r (nI_1 _) (nm_r (nI_1 j) ?_)) (fun z => nm_r (nI_1 j) ?_)⟩
    · rw [ch_ct_t (by simp [z])] at h1; exact h1
    · rw [ch_ct_f (by simp [z])] at h1; exact h1
theorem cy_kings {post : Int32 → Prop} {s : Nat} (hs : s < 2) (H : post (nI (ch_ct (fun i => decide (b i = ch_kg s)) 36))) : wpY_kings post (yg, ym, yh, yl, ya, yb, b, yF, yT, yM, yC, yp, yt, yz) (nI s) := ⟨37, cy_ks_l hs H 36 0 rfl⟩
theorem cy_ic_l {post : Int32 → Prop} {s : Nat} (hs : s < 2) (hO : ch_Ok b) (H : post (ch_bI (ch_ck b s))) : ∀ d j, j + d = 36 → (∀ k, k < j → b k = ch_kg s → ¬ 0 < ch_aa b k (1 - s)) → wY_inCheck_2 post (nI s) yg ym yh yl ya yb b yF yT yM yC yp yt yz (d + 1) (nI j) := by
  intro d
  induction d with
  | zero =>
    intro j hj h0
    have e : j = 36 := by omega
    subst e
    have e2 : ch_ck b s = false := by
      cases hc : ch_ck b s with
      | false => rfl
      | true =>
        obtain ⟨k, h1, h2, h3⟩ := ch_ck_iff.mp hc
        exact absurd (ch_aa_iff.mpr h3) (h0 k h1 h2)
    rw [e2] at H
    exact br_t (nI_le (Nat.le_refl 36) (by decide)) H
  | succ d ih =>
    intro j hj h0
    have cl : (nI j).toNatClampNeg = j := nI_clamp (by omega)
    have hn : (b j = ch_kg s → ¬ 0 < ch_aa b j (1 - s)) → wY_inCheck_2 post (nI s) yg ym yh yl ya yb b yF yT yM yC yp yt yz (d + 1) (nI (j + 1)) := by
      intro hn
      refine ih (j + 1) (by omega) fun k hk => ?_
      by_cases e : k = j
      · rw [e]; exact hn
      · exact h0 k (by omega)
    refine br_f (nI_ge (b := 36) (by omega) (by decide)) ⟨vp_in_nI (by omega) (by decide), ek_if (d := b j = ch_kg s) (by rw [cl, ch_kgY hs]) (fun z => ?_) (fun z => nm_r (nI_1 j) (hn fun q => absurd q z))⟩
    rw [ch_s4 hs]
    refine cy_attackersOf (by omega) hO (by omega) ?_
    have h36 : ch_aa b j (1 - s) ≤ 36 := ch_ct_le _ 36
    by_cases h : 0 < ch_aa b j (1 - s)
    · have e2 : ch_ck b s = true := ch_ck_iff.mpr ⟨j, by omega, z, ch_aa_iff.mp h⟩
      rw [e2] at H
      exact br_f (nI_nle h (by omega)) H
    · have e : ch_aa b j (1 - s) = 0 := by omega
      rw [e]
      exact br_t (nI_le (Nat.le_refl 0) (by decide)) (nm_r (nI_1 j) (hn fun _ => h))
theorem cy_inCheck {post : Int32 → Prop} {s : Nat} (hs : s < 2) (hO : ch_Ok b) (H : post (ch_bI (ch_ck b s))) : wpY_inCheck post (yg, ym, yh, yl, ya, yb, b, yF, yT, yM, yC, yp, yt, yz) (nI s) := ⟨37, cy_ic_l hs hO H 36 0 rfl (fun k hk => absurd hk (Nat.not_lt_zero k))⟩
theorem cy_doMove {post : SY → Prop} {s f t h : Nat} (hs : s < 2) (hO : ch_Ok b) (hf : f < 36) (ht : t < 36) (hh : h < 70) (hc : ch_cg b s f t = true)
    (H : post (yg, nI (1 - s), nI (h + 1), yl, ya, yb, ch_pl b s f t, upd yF h (nI f), upd yT h (nI t), upd yM h (b f), upd yC h (b t), yp, yt, yz)) : wpY_doMove post (yg, nI s, nI h, yl, ya, yb, b, yF, yT, yM, yC, yp, yt, yz) (nI f) (nI t) := by
  have cf : (nI f).toNatClampNeg = f := nI_clamp (by omega)
  have ct : (nI t).toNatClampNeg = t := nI_clamp (by omega)
  have ch : (nI h).toNatClampNeg = h := nI_clamp (by omega)
  have hv : vp_in (nI h) 70 := vp_in_nI hh (by decide)
  obtain ⟨ho, -, hne⟩ := ch_cg_ow hc
  have h102 : wY_doMove_102 post (nI f) (ch_pc b s f t) (nI t) yg (nI s) (nI h) yl ya yb b (upd yF h (nI f)) (upd yT h (nI t)) (upd yM h (b f)) (upd yC h (b t)) yp yt yz :=
    ⟨vp_in_nI ht (by decide), nm_r (e' := upd b t (ch_pc b s f t)) (by rw [ct]) ⟨vp_in_nI hf (by decide), nm_r (e' := ch_pl b s f t) (by rw [cf]; exact ch_uc (fun e => hne e.symm)) (nm_r (nI_1 h) (nm_r (ch_s4 hs) H))⟩⟩
  rw [ch_pc_eq hs hf ht (hO f hf) hc] at h102
  obtain ⟨r1, r2, -, -⟩ := ch_t_row t ht
  refine ⟨vp_in_nI hf (by decide), nm_r (e' := b f) (congrArg b cf) ⟨hv, nm_r (e' := upd yF h (nI f)) (by rw [ch]) ⟨hv, nm_r (e' := upd yT h (nI t)) (by rw [ch]) ⟨hv, nm_r (e' := upd yM h (b f)) (by rw [ch]) ⟨vp_in_nI ht (by decide), hv, nm_r (e' := upd yC h (b t)) (by rw [ch, ct]) ?_⟩⟩⟩⟩⟩
  by_cases c1 : b f = 1
  · refine br_t c1 ⟨by decide, ?_⟩
    by_cases q : 30 ≤ t
    · rw [if_pos (Or.inl ⟨c1, q⟩)] at h102
      exact br_t (r1.mpr q) (br_f (by decide) h102)
    · have hn : ¬ ((b f = 1 ∧ 30 ≤ t) ∨ (b f = 9 ∧ t < 6)) := by
        rintro (⟨-, z⟩ | ⟨z, -⟩)
        · exact q z
        · rw [c1] at z; exact absurd z (by decide)
      rw [if_neg hn] at h102
      refine br_f (fun z => q (r1.mp z)) (br_f ?_ (br_t rfl h102))
      rw [c1]; decide
  · refine br_f c1 ?_
    by_cases c9 : b f = 9
    · refine br_t c9 ⟨by decide, ?_⟩
      by_cases q : t < 6
      · rw [if_pos (Or.inr ⟨c9, q⟩)] at h102
        exact br_t (r2.mpr q) (br_f (by decide) h102)
      · have hn : ¬ ((b f = 1 ∧ 30 ≤ t) ∨ (b f = 9 ∧ t < 6)) := by
          rintro (⟨z, -⟩ | ⟨-, z⟩)
          · exact c1 z
          · exact q z
        rw [if_neg hn] at h102
        exact br_f (fun z => q (r2.mp z)) (br_t rfl h102)
    · have hn : ¬ ((b f = 1 ∧ 30 ≤ t) ∨ (b f = 9 ∧ t < 6)) := by
        rintro (⟨z, -⟩ | ⟨z, -⟩)
        · exact c1 z
        · exact c9 z
      rw [if_neg hn] at h102
      exact br_f c9 (br_t rfl h102)
theorem cy_undoMove {post : SY → Prop} {s f t h : Nat} (hm : (1 : Int32) - ym = nI s) (hf : f < 36) (ht : t < 36) (hh : h < 70) (eF : yF h = nI f) (eT : yT h = nI t)
    (H : post (yg, nI s, nI h, yl, ya, yb, upd (upd b f (yM h)) t (yC h), yF, yT, yM, yC, yp, yt, yz)) : wpY_undoMove post (yg, ym, nI (h + 1), yl, ya, yb, b, yF, yT, yM, yC, yp, yt, yz) := by
  have cf : (nI f).toNatClampNeg = f := nI_clamp (by omega)
  have ct : (nI t).toNatClampNeg = t := nI_clamp (by omega)
  have ch : (nI h).toNatClampNeg = h := nI_clamp (by omega)
  have hv : vp_in (nI h) 70 := vp_in_nI hh (by decide)
  exact nm_r (e' := nI h) (nI_pred h) ⟨hv, hv, by rw [ch, eF]; exact vp_in_nI hf (by decide), nm_r (e' := upd b f (yM h)) (by rw [ch, eF, cf]) ⟨hv, hv, by rw [ch, eT]; exact vp_in_nI ht (by decide), nm_r (e' := upd (upd b f (yM h)) t (yC h)) (by rw [ch, eT, ct]) (nm_r hm H)⟩⟩
theorem cy_canGo {post : Int32 → Prop} {s f t : Nat} (hs : s < 2) (hO : ch_Ok b) (hf : f < 36) (ht : t < 36) (H : post (ch_bI (ch_cg b s f t))) : wpY_canGo post (yg, nI s, yh, yl, ya, yb, b, yF, yT, yM, yC, yp, yt, yz) (nI f) (nI t) := by
  have cf : (nI f).toNatClampNeg = f := nI_clamp (by omega)
  have ct : (nI t).toNatClampNeg = t := nI_clamp (by omega)
  refine ⟨vp_in_nI hf (by decide), nm_r (e' := b f) (congrArg b cf) ?_⟩
  by_cases e : f = t
  · have q : ch_cg b s f t = false := by
      cases hc : ch_cg b s f t with
      | false => rfl
      | true => exact absurd e (ch_cg_ow hc).2.2
    rw [q] at H
    exact br_t (by rw [e]) H
  · refine br_f (fun q => e ((nI_eq (by omega) (by omega)).mp q)) (cy_isOf hs ?_)
    rw [ch_cg_mv] at H
    cases ho : ch_ow (b f) s with
    | false => rw [ho] at H; exact br_t rfl H
    | true =>
      rw [ho, Bool.true_and] at H
      refine br_f (by decide) ⟨vp_in_nI ht (by decide), ?_⟩
      rw [ct]
      refine cy_isOf hs ?_
      cases h2 : ch_ow (b t) s with
      | true =>
        have q : ch_mv b s f t = false := by unfold ch_mv; rw [h2]; rfl
        rw [q] at H
        exact br_f (by decide) H
      | false =>
        have h88 : ¬ (ch_kd (b f) = 1 ∧ b t = 0) → wY_canGo_88 post (nI f) (nI t) yg (nI s) yh yl ya yb b yF yT yM yC yp yt yz := by
          intro hn
          have q : ch_mv b s f t = ch_at b f t := by unfold ch_mv; rw [h2, if_neg hn]; rfl
          rw [q] at H
          exact cy_attacks hf ht (hO f hf) ⟨ch_narB _, H⟩
        refine br_t rfl (cy_kind ?_)
        by_cases k : ch_kd (b f) = 1
        · refine br_t k ⟨vp_in_nI ht (by decide), ?_⟩
          by_cases z3 : b t = 0
          · refine br_t z3 ?_
            unfold ch_mv at H
            rw [h2, if_pos ⟨k, z3⟩] at H
            obtain ⟨-, -, t3, t4⟩ := ch_t_f6 f hf t ht
            rcases ch_s2 hs with rfl | rfl
            · have h8 : b f < 8 := by
                have := ch_ow_sd (by decide) ho
                exact (ch_sd8 _).mpr this
              refine br_f (Int32.not_le.mpr h8) (ch_bX (x := decide (t = f + 6)) ?_ H)
              rw [t3, decide_eq_true_eq]
            · have h8 : ¬ b f < 8 := fun q => by
                have h1 := ch_ow_sd (by decide) ho
                have h2 := (ch_sd8 _).mp q
                omega
              refine br_t (Int32.not_lt.mp h8) (ch_bX (x := decide (f = t + 6)) ?_ H)
              rw [t4, decide_eq_true_eq]
          · exact br_f z3 (h88 fun q => z3 q.2)
        · exact br_f k (h88 fun q => k q.1)
end
section
variable {yg yl ya yb : Int32} {b yF yT yM yC yp yt yz : Nat → Int32}
theorem cy_isLegal {post : Int32 → SY → Prop} {s f t h : Nat} (hs : s < 2) (hO : ch_Ok b) (hf : f < 36) (ht : t < 36) (hh : h < 70)
    (H : ∀ F T M C, ch_e4 h yF yT yM yC F T M C → post (ch_bI (ch_lp b s f t)) (yg, nI s, nI h, yl, ya, yb, b, F, T, M, C, yp, yt, yz)) : wpY_isLegal post (yg, nI s, nI h, yl, ya, yb, b, yF, yT, yM, yC, yp, yt, yz) (nI f) (nI t) := by
  unfold wpY_isLegal
  dsimp only
  refine cy_canGo hs hO hf ht ?_
  cases hc : ch_cg b s f t with
  | false =>
    have e : ch_lp b s f t = false := by unfold ch_lp; rw [hc]; rfl
    have H0 := H yF yT yM yC ch_e4_r
    rw [e] at H0
    exact br_t rfl H0
  | true =>
    obtain ⟨-, -, hne⟩ := ch_cg_ow hc
    have H1 := H _ _ _ _ (ch_e4_u (n := h) (k := h) (F := yF) (T := yT) (M := yM) (C := yC) (x := nI f) (y := nI t) (z := b f) (w := b t) (Nat.le_refl h))
    refine br_f (by decide) (cy_doMove hs hO hf ht hh hc ?_)
    dsimp only
    rw [ch_mu hs]
    refine cy_inCheck hs (ch_Ok_pl hO hf) ?_
    have hb : upd (upd (ch_pl b s f t) f (upd yM h (b f) h)) t (upd yC h (b t) h) = b := by
      rw [pk_us, pk_us]
      exact ch_back hne
    cases hk : ch_ck (ch_pl b s f t) s with
    | false =>
      have e : ch_lp b s f t = true := by unfold ch_lp; rw [hc, hk]; rfl
      rw [e] at H1
      refine br_t rfl (cy_undoMove (h := h) (ch_mu hs) hf ht hh pk_us pk_us ?_)
      rw [hb]
      exact ⟨rfl, H1⟩
    | true =>
      have e : ch_lp b s f t = false := by unfold ch_lp; rw [hc, hk]; rfl
      rw [e] at H1
      refine br_f (by decide) (cy_undoMove (h := h) (ch_mu hs) hf ht hh pk_us pk_us ?_)
      rw [hb]
      exact ⟨rfl, H1⟩
theorem cy_nl_l {post : Int32 → SY → Prop} {s h : Nat} (hs : s < 2) (hO : ch_Ok b) (hh : h < 70) : ∀ d q yF yT yM yC, q + d = 1296 →
    (∀ F T M C, ch_e4 h yF yT yM yC F T M C → post (nI (ch_hY (ch_Rl (ch_lg b s) q))) (yg, nI s, nI h, yl, ya, yb, b, F, T, M, C, yp, yt, yz)) → wY_nextLegal_2 post (d + 1) (nI q) yg (nI s) (nI h) yl ya yb b yF yT yM yC yp yt yz := by
  intro d
  induction d with
  | zero =>
    intro q yF yT yM yC hq H
    have e : q = 1296 := by omega
    subst e
    have H0 := H yF yT yM yC ch_e4_r
    rw [ch_Re (Nat.le_refl 1296)] at H0
    exact br_t (nI_le (Nat.le_refl 1296) (by decide)) H0
  | succ d ih =>
    intro q yF yT yM yC hq H
    have hq2 : q < 1296 := by omega
    refine br_f (nI_ge (b := 1296) hq2 (by decide)) ⟨by decide, by decide, ?_⟩
    rw [ch_r36 hq2, ch_d36 hq2]
    refine cy_isLegal hs hO (by omega) (by omega) hh fun F T M C e => ?_
    cases hl : ch_lp b s (q / 36) (q % 36) with
    | false =>
      refine br_t rfl (nm_r (nI_1 q) (ih (q + 1) F T M C (by omega) fun F' T' M' C' e' => ?_))
      have H0 := H F' T' M' C' (ch_e4_t e e')
      rw [ch_Rf hq2 hl] at H0
      exact H0
    | true =>
      have H0 := H F T M C e
      rw [ch_Rt hq2 hl] at H0
      exact br_f (by decide) H0
theorem cy_nextLegal {post : Int32 → SY → Prop} {s h q : Nat} (hs : s < 2) (hO : ch_Ok b) (hh : h < 70) (hq : q ≤ 1296)
    (H : ∀ F T M C, ch_e4 h yF yT yM yC F T M C → post (nI (ch_hY (ch_Rl (ch_lg b s) q))) (yg, nI s, nI h, yl, ya, yb, b, F, T, M, C, yp, yt, yz)) : wpY_nextLegal post (yg, nI s, nI h, yl, ya, yb, b, yF, yT, yM, yC, yp, yt, yz) (nI q) :=
  ⟨1296 - q + 1, cy_nl_l hs hO hh (1296 - q) q yF yT yM yC (by omega) H⟩
end
