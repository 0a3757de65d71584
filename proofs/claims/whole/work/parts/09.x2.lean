/-! the component: check, moves, the next legal move -/
theorem ch_ck_k {b : Nat → Int32} {s k : Nat} (hK : ch_K1 b) (hs : s < 2) (hk : k < 36) (e : b k = ch_kg s) : ch_ck b s = decide (0 < ch_aa b k (1 - s)) := by
  apply Bool.eq_iff_iff.mpr
  rw [ch_ck_iff, decide_eq_true_eq, ch_aa_iff]
  constructor
  · rintro ⟨k', h1, h2, h3⟩
    rw [hK s hs k' k h1 hk h2 e] at h3
    exact h3
  · intro h
    exact ⟨k, hk, e, h⟩
theorem ch_ck_no {b : Nat → Int32} {s : Nat} (h : ∀ k, k < 36 → ¬ b k = ch_kg s) : ch_ck b s = false := by
  cases hc : ch_ck b s with
  | false => rfl
  | true =>
    obtain ⟨k, h1, h2, -⟩ := ch_ck_iff.mp hc
    exact absurd h2 (h k h1)
def ch_mv (b : Nat → Int32) (s f t : Nat) : Bool := !ch_ow (b t) s && (if ch_kd (b f) = 1 ∧ b t = 0 then (if s = 0 then decide (t = f + 6) else decide (f = t + 6)) else ch_at b f t)
theorem ch_lg_eq {b : Nat → Int32} {s f t : Nat} (ht : t < 36) : ch_lg b s (36 * f + t) = ((ch_ow (b f) s && ch_mv b s f t) && !ch_ck (ch_pl b s f t) s) := by
  unfold ch_lg
  rw [show (36 * f + t) / 36 = f by omega, show (36 * f + t) % 36 = t by omega]
  rfl
section
variable {xg xm xh xr : Int32} {b xp xq xt xv xk xz : Nat → Int32}
theorem cx_ic_l {post : Int32 → Prop} {s k : Nat} (hs : s < 2) (hO : ch_Ok b) (hk : k < 36) (H : post (ch_bI (decide (0 < ch_aa b k (1 - s))))) : ∀ d j, j + d = 36 → ch_ct (fun f => ch_ow (b f) (1 - s) && ch_at b f k) j = 0 → wX_inCheck_14 post (nI s) (nI k) xg xm xh xr b xp xq xt xv xk xz (d + 1) (nI j) := by
  intro d
  induction d with
  | zero =>
    intro j hj h0
    have e : j = 36 := by omega
    subst e
    have e2 : ch_aa b k (1 - s) = 0 := h0
    rw [e2] at H
    exact br_t (nI_le (Nat.le_refl 36) (by decide)) H
  | succ d ih =>
    intro j hj h0
    have cl : (nI j).toNatClampNeg = j := nI_clamp (by omega)
    refine br_f (nI_ge (b := 36) (by omega) (by decide)) ⟨vp_in_nI (by omega) (by decide), ?_⟩
    rw [cl]
    refine cx_ownerOf (ek_if (d := ch_ow (b j) (1 - s) = true) (by rw [ch_s4 hs]; exact ch_owX (hO j (by omega)) (by omega)) (fun z => cx_attacks (by omega) hk (hO j (by omega)) ?_) (fun z => nm_r (nI_1 j) (ih (j + 1) (by omega) ?_)))
    · cases hc : ch_at b j k with
      | false => exact br_t rfl (nm_r (nI_1 j) (ih (j + 1) (by omega) (by rw [ch_ct_f (by simp [hc])]; exact h0)))
      | true =>
        have e2 : 0 < ch_aa b k (1 - s) := ch_aa_iff.mpr ⟨j, by omega, z, hc⟩
        rw [decide_eq_true e2] at H
        exact br_f (by decide) H
    · rw [ch_ct_f (by simp [z])]; exact h0
theorem cx_inCheck {post : Int32 → Prop} {s : Nat} (hs : s < 2) (hO : ch_Ok b) (hK : ch_K1 b) (H : post (ch_bI (ch_ck b s))) : wpX_inCheck post (xg, xm, xh, xr, b, xp, xq, xt, xv, xk, xz) (nI s) := by
  refine cx_squareOfKing hs (fun k hk e => ?_) (fun hn => ?_)
  · rw [ch_ck_k hK hs hk e] at H
    exact br_t (nI_pos' (by omega)) ⟨37, cx_ic_l hs hO hk H 36 0 rfl rfl⟩
  · rw [ch_ck_no hn] at H
    exact br_f (by decide) H
theorem cx_isMove {post : Int32 → Prop} {s f t : Nat} (hs : s < 2) (hO : ch_Ok b) (hf : f < 36) (ht : t < 36) (H : post (ch_bI (ch_mv b s f t))) : wpX_isMove post (xg, nI s, xh, xr, b, xp, xq, xt, xv, xk, xz) (nI f) (nI t) := by
  have cf : (nI f).toNatClampNeg = f := nI_clamp (by omega)
  have ct : (nI t).toNatClampNeg = t := nI_clamp (by omega)
  refine ⟨vp_in_nI ht (by decide), nm_r (e' := b t) (congrArg b ct) (cx_ownerOf (ek_if (ch_owX (hO t ht) hs) (fun z => ?_) (fun z => ⟨vp_in_nI hf (by decide), ?_⟩)))⟩
  · have e : ch_mv b s f t = false := by unfold ch_mv; rw [z]; rfl
    rw [e] at H; exact H
  · rw [cf]
    have z2 : ch_ow (b t) s = false := by
      cases h : ch_ow (b t) s with
      | false => rfl
      | true => exact absurd h z
    have h59 : ¬ (ch_kd (b f) = 1 ∧ b t = 0) → wX_isMove_59 post (nI f) (nI t) xg (nI s) xh xr b xp xq xt xv xk xz := by
      intro hn
      have e : ch_mv b s f t = ch_at b f t := by unfold ch_mv; rw [z2, if_neg hn]; rfl
      rw [e] at H
      exact cx_attacks hf ht (hO f hf) ⟨ch_narB _, H⟩
    refine cx_kindOf (hO f hf) ?_
    by_cases k : ch_kd (b f) = 1
    · refine br_t k ?_
      by_cases z3 : b t = 0
      · refine br_t z3 ?_
        unfold ch_mv at H
        rw [z2, if_pos ⟨k, z3⟩] at H
        obtain ⟨t1, t2, -, -⟩ := ch_t_f6 f hf t ht
        rcases ch_s2 hs with rfl | rfl
        · refine br_t nI_0 (ch_bX (x := decide (t = f + 6)) ?_ H)
          rw [show (1 : Int32) * 6 = 6 by decide, t1, decide_eq_true_eq]
        · refine br_f (by decide) (ch_bX (x := decide (f = t + 6)) ?_ H)
          rw [show (-1 : Int32) * 6 = -6 by decide, t2, decide_eq_true_eq]
      · exact br_f z3 (h59 fun q => z3 q.2)
    · exact br_f k (h59 fun q => k q.1)
theorem cx_nl_in {post : Int32 → SX → Prop} {J : Int32 → (Nat → Int32) → (Nat → Int32) → (Nat → Int32) → (Nat → Int32) → (Nat → Int32) → (Nat → Int32) → (Nat → Int32) → Prop} {x2 x3 : Int32} {s f : Nat} (hs : s < 2) (hO : ch_Ok b) (hK : ch_K1 b) (hf : f < 36) (ho : ch_ow (b f) s = true)
    (hJ : post (ch_hX (ch_Rl (ch_lg b s) (36 * f + 36))) (xg, nI s, xh, xr, b, xp, xq, xt, xv, xk, xz) → J (nI (f + 1)) b xp xq xt xv xk xz) :
    ∀ d t, t + d = 36 → post (ch_hX (ch_Rl (ch_lg b s) (36 * f + t))) (xg, nI s, xh, xr, b, xp, xq, xt, xv, xk, xz) → wX_nextLegal_59 post J x2 x3 (nI f) xg (nI s) xh xr (d + 1) (nI t) b xp xq xt xv xk xz := by
  have cf : (nI f).toNatClampNeg = f := nI_clamp (by omega)
  intro d
  induction d with
  | zero =>
    intro t ht H
    have e : t = 36 := by omega
    subst e
    exact br_t (nI_le (Nat.le_refl 36) (by decide)) (nm_r (nI_1 f) (hJ H))
  | succ d ih =>
    intro t ht H
    have ht6 : t < 36 := by omega
    have ct : (nI t).toNatClampNeg = t := nI_clamp (by omega)
    have hl := ch_lg_eq (b := b) (s := s) (f := f) ht6
    have hq : 36 * f + t < 1296 := by omega
    refine br_f (nI_ge (b := 36) (by omega) (by decide)) (cx_isMove hs hO hf ht6 ?_)
    cases hm : ch_mv b s f t with
    | false =>
      have e : ch_lg b s (36 * f + t) = false := by rw [hl, hm, ho]; rfl
      rw [ch_Rf hq e] at H
      exact br_t rfl (nm_r (nI_1 t) (ih (t + 1) (by omega) H))
    | true =>
      have hne : f ≠ t := by
        intro e
        unfold ch_mv at hm
        rw [← e, ho] at hm
        cases hm
      refine br_f (by decide) ⟨vp_in_nI hf (by decide), nm_r (e' := b f) (congrArg b cf) ⟨vp_in_nI ht6 (by decide), nm_r (e' := b t) (congrArg b ct) ⟨vp_in_nI hf (by decide), nm_r (e' := upd b f 0) (by rw [cf]) ⟨vp_in_nI ht6 (by decide), nm_r (e' := ch_tp b f t) (by rw [ct]; rfl) (cx_inCheck hs (ch_Ok_tp hO hf) (ch_K1_tp hK hf) ⟨vp_in_nI hf (by decide), nm_r (e' := upd (ch_tp b f t) f (b f)) (by rw [cf]) ⟨vp_in_nI ht6 (by decide), nm_r (e' := b) (by rw [ct]; exact ch_back hne) ?_⟩⟩)⟩⟩⟩⟩
      rw [ch_ck_tp hs ho]
      cases hc : ch_ck (ch_pl b s f t) s with
      | false =>
        have e : ch_lg b s (36 * f + t) = true := by rw [hl, hm, ho, hc]; rfl
        rw [ch_Rt hq e] at H
        have e2 : (nI f <<< ((6 : Int32) &&& 31)) + nI t = nI (ch_nm (36 * f + t)) := by
          rw [pk_shlN ((6 : Int32) &&& 31) 6 (by decide) (by omega), nI_add]
          unfold ch_nm
          exact congrArg nI (by omega)
        refine br_t rfl ?_
        rw [e2]
        exact H
      | true =>
        have e : ch_lg b s (36 * f + t) = false := by rw [hl, hm, ho, hc]; rfl
        rw [ch_Rf hq e] at H
        exact br_f (by decide) (nm_r (nI_1 t) (ih (t + 1) (by omega) H))
theorem cx_nl_out {post : Int32 → SX → Prop} {s f0 t0 : Nat} (hs : s < 2) (hO : ch_Ok b) (hK : ch_K1 b) (hf0 : f0 ≤ 36) (ht0 : t0 ≤ 36) :
    ∀ d f, f + d = 36 → post (ch_hX (ch_Rl (ch_lg b s) (36 * f + if f = f0 then t0 else 0))) (xg, nI s, xh, xr, b, xp, xq, xt, xv, xk, xz) → f0 ≤ f → wX_nextLegal_12 post (nI (64 * f0 + t0)) (nI f0) xg (nI s) xh xr (d + 1) (nI f) b xp xq xt xv xk xz := by
  intro d
  induction d with
  | zero =>
    intro f hf H h0
    have e : f = 36 := by omega
    subst e
    rw [ch_Re (by omega)] at H
    exact br_t (nI_le (Nat.le_refl 36) (by decide)) H
  | succ d ih =>
    intro f hf H h0
    have hf6 : f < 36 := by omega
    have cf : (nI f).toNatClampNeg = f := nI_clamp (by omega)
    have hJ : post (ch_hX (ch_Rl (ch_lg b s) (36 * f + 36))) (xg, nI s, xh, xr, b, xp, xq, xt, xv, xk, xz) → wX_nextLegal_12 post (nI (64 * f0 + t0)) (nI f0) xg (nI s) xh xr (d + 1) (nI (f + 1)) b xp xq xt xv xk xz := by
      intro hp
      refine ih (f + 1) (by omega) ?_ (by omega)
      rw [if_neg (show ¬ f + 1 = f0 by omega), show 36 * (f + 1) + 0 = 36 * f + 36 by omega]
      exact hp
    refine br_f (nI_ge (b := 36) (by omega) (by decide)) ⟨vp_in_nI hf6 (by decide), ?_⟩
    rw [cf]
    refine cx_ownerOf (ek_if (d := ch_ow (b f) s = true) (ch_owX (hO f hf6) hs) (fun z => ?_) (fun z => nm_r (nI_1 f) (hJ ?_)))
    · by_cases e : f = f0
      · rw [if_pos e] at H
        refine br_t (by rw [e]) (nm_r (e' := nI t0) ?_ ⟨36 - t0 + 1, cx_nl_in hs hO hK hf6 z hJ (36 - t0) t0 (by omega) H⟩)
        rw [pk_andN (by omega) 6 (by decide)]
        exact congrArg nI (by omega)
      · rw [if_neg e] at H
        exact br_f (fun q => e ((nI_eq (by omega) (by omega)).mp q)) ⟨37, cx_nl_in hs hO hK hf6 z hJ 36 0 (by omega) H⟩
    · rw [← ch_Rskip (g := ch_lg b s) (q := 36 * f + if f = f0 then t0 else 0) (p := 36 * f + 36) (by split <;> omega) (by omega) fun j h1 h2 => ?_]
      · exact H
      · have e1 : 36 * f ≤ j := by
          have : 36 * f ≤ 36 * f + (if f = f0 then t0 else 0) := Nat.le_add_right _ _
          omega
        obtain ⟨t, rfl⟩ : ∃ t, j = 36 * f + t := ⟨j - 36 * f, by omega⟩
        have e2 : ch_ow (b f) s = false := by
          cases h : ch_ow (b f) s with
          | false => rfl
          | true => exact absurd h z
        rw [ch_lg_eq (by omega), e2]
        rfl
theorem cx_nextLegal {post : Int32 → SX → Prop} {s f0 t0 : Nat} {a : Int32} (hs : s < 2) (hO : ch_Ok b) (hK : ch_K1 b) (ha : a + 1 = nI (64 * f0 + t0)) (hf0 : f0 < 36) (ht0 : t0 ≤ 36) (H : post (ch_hX (ch_Rl (ch_lg b s) (36 * f0 + t0))) (xg, nI s, xh, xr, b, xp, xq, xt, xv, xk, xz)) : wpX_nextLegal post (xg, nI s, xh, xr, b, xp, xq, xt, xv, xk, xz) a := by
  refine nm_r (e' := nI (64 * f0 + t0)) ha (nm_r (e' := nI f0) ?_ ⟨36 - f0 + 1, cx_nl_out hs hO hK (by omega) ht0 (36 - f0) f0 (by omega) ?_ (Nat.le_refl f0)⟩)
  · rw [pk_shrN (by omega) ((6 : Int32) &&& 31) 6 (by decide)]
    exact congrArg nI (by omega)
  · rw [if_pos rfl]; exact H
theorem cx_nl_0 {post : Int32 → SX → Prop} {s : Nat} (hs : s < 2) (hO : ch_Ok b) (hK : ch_K1 b) (H : post (ch_hX (ch_L b s)) (xg, nI s, xh, xr, b, xp, xq, xt, xv, xk, xz)) : wpX_nextLegal post (xg, nI s, xh, xr, b, xp, xq, xt, xv, xk, xz) (-1) :=
  cx_nextLegal (f0 := 0) (t0 := 0) hs hO hK (by decide) (by decide) (by decide) H
theorem cx_nl_p {post : Int32 → SX → Prop} {s p : Nat} (hs : s < 2) (hO : ch_Ok b) (hK : ch_K1 b) (hp : p < 1296) (H : post (ch_hX (ch_Rl (ch_lg b s) (p + 1))) (xg, nI s, xh, xr, b, xp, xq, xt, xv, xk, xz)) : wpX_nextLegal post (xg, nI s, xh, xr, b, xp, xq, xt, xv, xk, xz) (nI (ch_nm p)) := by
  refine cx_nextLegal (f0 := p / 36) (t0 := p % 36 + 1) hs hO hK ?_ (by omega) (by omega) ?_
  · rw [nI_1]; unfold ch_nm; exact congrArg nI (by omega)
  · rw [show 36 * (p / 36) + (p % 36 + 1) = p + 1 by omega]; exact H
theorem cx_isLegal {post : Int32 → SX → Prop} {s f t : Nat} (hs : s < 2) (hO : ch_Ok b) (hK : ch_K1 b) (hf : f < 36) (ht : t < 36) (H : post (ch_bI (ch_lp b s f t)) (xg, nI s, xh, xr, b, xp, xq, xt, xv, xk, xz)) : wpX_isLegal post (xg, nI s, xh, xr, b, xp, xq, xt, xv, xk, xz) (nI f) (nI t) := by
  have e0 : (nI f <<< ((6 : Int32) &&& 31)) + nI t = nI (64 * f + t) := by
    rw [pk_shlN ((6 : Int32) &&& 31) 6 (by decide) (by omega), nI_add]
    exact congrArg nI (by omega)
  have el : ch_lg b s (36 * f + t) = ch_lp b s f t := by
    unfold ch_lg
    rw [show (36 * f + t) / 36 = f by omega, show (36 * f + t) % 36 = t by omega]
  unfold wpX_isLegal
  dsimp only
  refine cx_sq_in hf ?_
  refine br_f (by decide) ?_
  refine cx_sq_in ht ?_
  refine br_f (by decide) (nm_r e0 ?_)
  refine cx_nextLegal hs hO hK (f0 := f) (t0 := t) ?_ hf (by omega) ?_
  · rw [Int32.sub_add_cancel]
  · dsimp only
    cases hl : ch_lp b s f t with
    | true =>
      rw [hl] at H
      rw [ch_Rt (by omega) (el.trans hl)]
      refine br_t ?_ H
      show nI (ch_nm (36 * f + t)) = _
      unfold ch_nm
      exact congrArg nI (by omega)
    | false =>
      rw [hl] at H
      refine br_f ?_ H
      rw [ch_Rf (by omega) (el.trans hl)]
      intro q
      cases hr : ch_Rl (ch_lg b s) (36 * f + t + 1) with
      | nil =>
        rw [hr] at q
        have h1 : (-1 : Int32).toInt = (nI (64 * f + t)).toInt := congrArg Int32.toInt q
        rw [nI_toInt (by omega), show (-1 : Int32).toInt = -1 by decide] at h1
        omega
      | cons p r =>
        rw [hr] at q
        obtain ⟨h1, h2, -⟩ := ch_Rcons _ _ rfl p r hr
        have h3 := (nI_eq (by have := ch_nm_lt h2; omega) (by omega)).mp q
        unfold ch_nm at h3
        omega
end
