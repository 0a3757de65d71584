/-! the component: forced mates -/
theorem ch_nnt {x : Bool} (h : (!x) = false) : x = true := by cases x with
  | true => rfl
  | false => cases h
theorem ch_nnf {x : Bool} (h : (!x) = true) : x = false := by cases x with
  | true => cases h
  | false => rfl
section
variable {xg xm xh xr : Int32} {b xp xq xt xv xk xz : Nat → Int32}
theorem cx_escapes {post : Int32 → Prop} {L s : Nat} {x4 : Int32} (hs : s < 2) (hO : ch_Ok b) (hK : ch_K1 b) (hL : L < 4) (H : post (ch_bI (!decide (x4 = -1) || (decide (xt L = -1) && !ch_ck b s)))) : wpX_escapes post (xg, nI s, xh, xr, b, xp, xq, xt, xv, xk, xz) (nI L) x4 := by
  have cL : (nI L).toNatClampNeg = L := nI_clamp (by omega)
  by_cases e : x4 = -1
  · rw [decide_eq_true e] at H
    refine br_t e ⟨vp_in_nI hL (by decide), ?_⟩
    rw [cL]
    by_cases e2 : xt L = -1
    · rw [decide_eq_true e2] at H
      refine br_t e2 (cx_inCheck hs hO hK ?_)
      cases hc : ch_ck b s with
      | true => rw [hc] at H; exact br_f (by decide) H
      | false => rw [hc] at H; exact br_t rfl H
    · rw [decide_eq_false e2] at H
      exact br_f e2 H
  · rw [decide_eq_false e] at H
    exact br_f e H
end
section
variable {xg xh xr : Int32} {b xp xq xt xv xk xz : Nat → Int32}
theorem cm_down {post : Int32 → SX → Prop} {M m L r s q p : Nat} {rest : List Nat} (hs : s < 2) (hO : ch_Ok b) (hK : ch_K1 b) (hM : M ≤ 3) (hL : L < M) (hr : r < 100000000) (ht : ch_tr b s (xt L) q) (er : ch_Rl (ch_lg b s) q = p :: rest)
    (H : wX_forcesMate_11 post (nI M) m (nI (L + 1)) (nI (r + 1)) xg (nI (1 - s)) xh xr (ch_pp b s p) xp xq (upd (upd xt L (nI (ch_nm p))) (L + 1) (-1)) (upd xv L (b (p / 36))) (upd xk L (b (p % 36))) xz) :
    wX_forcesMate_11 post (nI M) (m + 1) (nI L) (nI r) xg (nI s) xh xr b xp xq xt xv xk xz := by
  have cL : (nI L).toNatClampNeg = L := nI_clamp (by omega)
  have cL1 : (nI (L + 1)).toNatClampNeg = L + 1 := nI_clamp (by omega)
  obtain ⟨-, hp, hg, -, -⟩ := ch_Rcons _ _ rfl p rest er
  refine br_f (nI_ge (b := 100000000) hr (by decide)) ⟨vp_in_nI (by omega) (by decide), ?_⟩
  rw [cL]
  refine cx_nl_t hs hO hK ht ?_
  rw [er]
  exact br_f (ch_nm_ne hp) (br_f (nI_ge (by omega) (by omega)) (cx_play hs hO hp (by omega) (nm_r (nI_1 L) ⟨vp_in_nI (by omega) (by decide), nm_r (e' := upd (upd xt L (nI (ch_nm p))) (L + 1) (-1)) (by rw [cL1]) (nm_r (nI_1 r) H)⟩)))
theorem cm_stay {post : Int32 → SX → Prop} {M m L r s q : Nat} (hs : s < 2) (hO : ch_Ok b) (hK : ch_K1 b) (hM : M ≤ 3) (hL : L ≤ M) (hr : r < 100000000) (ht : ch_tr b s (xt L) q) (hst : ch_Rl (ch_lg b s) q = [] ∨ M ≤ L)
    (H : wX_forcesMate_60 post (wX_forcesMate_11 post (nI M) m) (nI M) (nI L) (nI r) (ch_hX (ch_Rl (ch_lg b s) q)) xg (nI s) xh xr b xp xq xt xv xk xz) :
    wX_forcesMate_11 post (nI M) (m + 1) (nI L) (nI r) xg (nI s) xh xr b xp xq xt xv xk xz := by
  have cL : (nI L).toNatClampNeg = L := nI_clamp (by omega)
  refine br_f (nI_ge (b := 100000000) hr (by decide)) ⟨vp_in_nI (by omega) (by decide), ?_⟩
  rw [cL]
  refine cx_nl_t hs hO hK ht ?_
  by_cases e : ch_Rl (ch_lg b s) q = []
  · exact br_t ((ch_hX_nil ch_Rl_lt).mpr e) H
  · exact br_f (fun w => e ((ch_hX_nil ch_Rl_lt).mp w)) (br_t (nI_le (hst.resolve_left e) (by omega)) H)
theorem cm_par : ∀ L, L < 4 → ((nI L - nI L / 2 * 2 = 1) ↔ L % 2 = 1) := by decide +kernel
/-- an odd level: the defender escapes, or the move that led here holds -/
theorem cm_odd {post : Int32 → SX → Prop} {J : Int32 → Int32 → Int32 → Int32 → Int32 → Int32 → (Nat → Int32) → (Nat → Int32) → (Nat → Int32) → (Nat → Int32) → (Nat → Int32) → (Nat → Int32) → (Nat → Int32) → Prop} {x1 x4 : Int32} {L r s p : Nat} {b0 : Nat → Int32} (hs : s < 2) (hO : ch_Ok b) (hK : ch_K1 b) (hL : L < 3) (hodd : (L + 1) % 2 = 1) (hp : p < 1296) (et : xt L = nI (ch_nm p)) (eb : upd (upd b (p / 36) (xv L)) (p % 36) (xk L) = b0)
    (h1 : (!decide (x4 = -1) || (decide (xt (L + 1) = -1) && !ch_ck b s)) = true → J (nI L) (nI (r + 1)) xg (nI (1 - s)) xh xr b0 xp xq xt xv xk xz)
    (h2 : (!decide (x4 = -1) || (decide (xt (L + 1) = -1) && !ch_ck b s)) = false → wX_forcesMate_88 post J x1 (nI (L + 1)) (nI r) xg (nI s) xh xr b xp xq xt xv xk xz) :
    wX_forcesMate_60 post J x1 (nI (L + 1)) (nI r) x4 xg (nI s) xh xr b xp xq xt xv xk xz := by
  refine ⟨by decide, br_t ((cm_par (L + 1) (by omega)).mpr hodd) (cx_escapes hs hO hK (by omega) ?_)⟩
  cases he : (!decide (x4 = -1) || (decide (xt (L + 1) = -1) && !ch_ck b s)) with
  | false => exact br_t rfl (h2 he)
  | true =>
    refine br_f (by decide) (nm_r (e' := nI L) (pk_m1 L) (cx_takeBack (ch_s4 hs) hp (by omega) et ?_))
    rw [eb]
    exact nm_r (nI_1 r) (h1 he)
/-- level 1 fails: the mate is forced -/
theorem cm_88_1 {post : Int32 → SX → Prop} {J : Int32 → Int32 → Int32 → Int32 → Int32 → Int32 → (Nat → Int32) → (Nat → Int32) → (Nat → Int32) → (Nat → Int32) → (Nat → Int32) → (Nat → Int32) → (Nat → Int32) → Prop} {x1 : Int32} {r s p : Nat} {b0 : Nat → Int32} (hs : s < 2) (hp : p < 1296) (et : xt 0 = nI (ch_nm p)) (eb : upd (upd b (p / 36) (xv 0)) (p % 36) (xk 0) = b0)
    (H : post 1 (xg, nI (1 - s), xh, xr, b0, xp, xq, xt, xv, xk, xz)) : wX_forcesMate_88 post J x1 (nI 1) (nI r) xg (nI s) xh xr b xp xq xt xv xk xz := by
  refine br_f (by decide) (nm_r (e' := nI 0) (by decide) (cx_takeBack (ch_s4 hs) hp (by omega) et ?_))
  rw [eb]
  exact br_t nI_0 H
/-- level 2 or 3 fails: two levels back -/
theorem cm_88_2 {post : Int32 → SX → Prop} {J : Int32 → Int32 → Int32 → Int32 → Int32 → Int32 → (Nat → Int32) → (Nat → Int32) → (Nat → Int32) → (Nat → Int32) → (Nat → Int32) → (Nat → Int32) → (Nat → Int32) → Prop} {x1 : Int32} {r L s p p' : Nat} {b1 b0 : Nat → Int32} (hs : s < 2) (hL : L < 2) (hp : p < 1296) (et : xt (L + 1) = nI (ch_nm p)) (eb : upd (upd b (p / 36) (xv (L + 1))) (p % 36) (xk (L + 1)) = b1) (hp' : p' < 1296) (et' : xt L = nI (ch_nm p')) (eb' : upd (upd b1 (p' / 36) (xv L)) (p' % 36) (xk L) = b0)
    (H : J (nI L) (nI (r + 1)) xg (nI s) xh xr b0 xp xq xt xv xk xz) : wX_forcesMate_88 post J x1 (nI (L + 2)) (nI r) xg (nI s) xh xr b xp xq xt xv xk xz := by
  refine br_f (nI_ne0 (by omega) (by omega)) (nm_r (e' := nI (L + 1)) (pk_m1 (L + 1)) (cx_takeBack (ch_s4 hs) hp (by omega) et ?_))
  rw [eb]
  refine br_f (nI_ne0 (by omega) (by omega)) (nm_r (e' := nI L) (pk_m1 L) (cx_takeBack (ch_mu hs) hp' (by omega) et' ?_))
  rw [eb']
  exact nm_r (nI_1 r) H
theorem cm_88_0 {post : Int32 → SX → Prop} {xm : Int32} {J : Int32 → Int32 → Int32 → Int32 → Int32 → Int32 → (Nat → Int32) → (Nat → Int32) → (Nat → Int32) → (Nat → Int32) → (Nat → Int32) → (Nat → Int32) → (Nat → Int32) → Prop} {x1 : Int32} {r : Nat} (H : post 0 (xg, xm, xh, xr, b, xp, xq, xt, xv, xk, xz)) : wX_forcesMate_88 post J x1 (nI 0) (nI r) xg xm xh xr b xp xq xt xv xk xz := br_t nI_0 H
theorem cm_even {post : Int32 → SX → Prop} {xm : Int32} {J : Int32 → Int32 → Int32 → Int32 → Int32 → Int32 → (Nat → Int32) → (Nat → Int32) → (Nat → Int32) → (Nat → Int32) → (Nat → Int32) → (Nat → Int32) → (Nat → Int32) → Prop} {x1 x4 : Int32} {r L : Nat} (hL : L < 4) (he : ¬ L % 2 = 1) (H : wX_forcesMate_88 post J x1 (nI L) (nI r) xg xm xh xr b xp xq xt xv xk xz) : wX_forcesMate_60 post J x1 (nI L) (nI r) x4 xg xm xh xr b xp xq xt xv xk xz :=
  ⟨by decide, br_f (fun z => he ((cm_par L hL).mp z)) H⟩
end
theorem ch_mt_esc {b : Nat → Int32} {s : Nat} {x : Int32} (hx : x = -1) : (!decide (ch_hX (ch_L b s) = -1) || (decide (x = -1) && !ch_ck b s)) = !ch_mt b s := by
  rw [decide_eq_true hx]
  have h := ch_hX_nil (l := ch_L b s) ch_Rl_lt
  unfold ch_mt
  cases hl : ch_L b s with
  | nil =>
    rw [hl] at h
    rw [decide_eq_true (h.mpr rfl)]
    cases ch_ck b s <;> rfl
  | cons p r =>
    rw [hl] at h
    rw [decide_eq_false (fun z => by cases h.mp z)]
    cases ch_ck b s <;> rfl
/-- what level 1 does, from its first step on: c says whether the mate is forced -/
def ch_MC (post : Int32 → SX → Prop) (M : Nat) (c : (Nat → Int32) → Nat → Bool) (cost : (Nat → Int32) → Nat → Nat) (xg xh xr : Int32) (xp xq xz : Nat → Int32) : Prop :=
  ∀ (s p r n : Nat) (b xt xv xk : Nat → Int32), s < 2 → ch_Ok b → ch_K1 b → p < 1296 → ch_lg b s p = true → xt 0 = nI (ch_nm p) → xv 0 = b (p / 36) → xk 0 = b (p % 36) → xt 1 = -1 → r + cost (ch_pp b s p) (1 - s) < 100000000 → n + r = 100000001 →
    (c (ch_pp b s p) (1 - s) = true → ∀ xt' xv' xk', post 1 (xg, nI s, xh, xr, b, xp, xq, xt', xv', xk', xz)) →
    (c (ch_pp b s p) (1 - s) = false → ∀ n' r' xt' xv' xk', n' + r' = 100000001 → r' ≤ r + cost (ch_pp b s p) (1 - s) → ch_e1 1 xt xt' → wX_forcesMate_11 post (nI M) n' (nI 0) (nI r') xg (nI s) xh xr b xp xq xt' xv' xk' xz) →
    wX_forcesMate_11 post (nI M) n (nI 1) (nI r) xg (nI (1 - s)) xh xr (ch_pp b s p) xp xq xt xv xk xz
theorem cm_row0 {post : Int32 → SX → Prop} {M : Nat} {c : (Nat → Int32) → Nat → Bool} {cost : (Nat → Int32) → Nat → Nat} {xg xh xr : Int32} {xp xq xz : Nat → Int32} (hM : M ≤ 3) (hM0 : 0 < M) (hC : ch_MC post M c cost xg xh xr xp xq xz) {s : Nat} {b : Nat → Int32} (hs : s < 2) (hO : ch_Ok b) (hK : ch_K1 b) :
    ∀ (rest : List Nat) (q r n : Nat) (xt xv xk : Nat → Int32), ch_Rl (ch_lg b s) q = rest → ch_tr b s (xt 0) q → r + (1 + ch_sm (fun p => 1 + cost (ch_pp b s p) (1 - s)) rest) < 100000000 → n + r = 100000001 →
    (∀ xt' xv' xk', post (ch_bI (rest.any fun p => c (ch_pp b s p) (1 - s))) (xg, nI s, xh, xr, b, xp, xq, xt', xv', xk', xz)) →
    wX_forcesMate_11 post (nI M) n (nI 0) (nI r) xg (nI s) xh xr b xp xq xt xv xk xz := by
  intro rest
  induction rest with
  | nil =>
    intro q r n xt xv xk er ht hr hn H
    obtain ⟨m, rfl⟩ : ∃ m, n = m + 1 := ⟨n - 1, by omega⟩
    exact cm_stay hs hO hK hM (by omega) (by omega) ht (Or.inl er) (cm_even (by omega) (by omega) (cm_88_0 (H xt xv xk)))
  | cons p rest ih =>
    intro q r n xt xv xk er ht hr hn H
    obtain ⟨-, hp, hg, e4, -⟩ := ch_Rcons _ _ rfl p rest er
    obtain ⟨m, rfl⟩ : ∃ m, n = m + 1 := ⟨n - 1, by omega⟩
    simp only [ch_sm] at hr
    simp only [List.any_cons] at H
    refine cm_down hs hO hK hM hM0 (by omega) ht er (hC s p (r + 1) m b _ _ _ hs hO hK hp hg ?_ pk_us pk_us pk_us (by omega) (by omega) (fun hc xt' xv' xk' => ?_) (fun hc n' r' xt' xv' xk' hn' hr' e1 => ?_))
    · rw [pk_un (by omega), pk_us]
    · have H0 := H xt' xv' xk'
      rw [hc] at H0
      exact H0
    · rw [hc] at H
      refine ih (p + 1) r' n' xt' xv' xk' e4.symm ?_ (by omega) hn' H
      rw [e1 0 (by omega), pk_un (by omega), pk_us]
      exact ch_tr_p hp hg
/-- mate in one -/
theorem cm_ch1 {post : Int32 → SX → Prop} {xg xh xr : Int32} {xp xq xz : Nat → Int32} : ch_MC post 1 ch_mt (fun _ _ => 1) xg xh xr xp xq xz := by
  intro s p r n b xt xv xk hs hO hK hp hg et ev ek et1 hr hn HT HF
  obtain ⟨m, rfl⟩ : ∃ m, n = m + 1 := ⟨n - 1, by omega⟩
  have hO2 : ch_Ok (ch_pp b s p) := ch_pp_Ok hp hO
  have hK2 : ch_K1 (ch_pp b s p) := ch_pp_K1 hp hK
  have eb : upd (upd (ch_pp b s p) (p / 36) (xv 0)) (p % 36) (xk 0) = b := by rw [ev, ek]; exact ch_back_pp hp hg
  have hm : 1 - (1 - s) = s := ch_s3 hs
  refine cm_stay (q := 0) (by omega) hO2 hK2 (by omega) (Nat.le_refl 1) (by omega) (by rw [et1]; exact ch_tr_0) (Or.inr (Nat.le_refl 1)) ?_
  have ee := ch_mt_esc (b := ch_pp b s p) (s := 1 - s) et1
  refine cm_odd (L := 0) (by omega) hO2 hK2 (by omega) (by omega) hp et eb (fun he => ?_) (fun he => ?_)
  · have he2 := ee.symm.trans he
    rw [hm]
    exact HF (ch_nnf he2) m (r + 1) xt xv xk (by omega) (Nat.le_refl (r + 1)) ch_e1_r
  · have he2 := ee.symm.trans he
    refine cm_88_1 (by omega) hp et eb ?_
    rw [hm]
    exact HT (ch_nnt he2) xt xv xk
