/-! the component: mate in two; all of forcesMate -/
section
variable {xg xh xr : Int32} {xp xq xt xv xk xz : Nat → Int32}
theorem cm_l3 {post : Int32 → SX → Prop} {m r s p1 p2 : Nat} {b1 b2 : Nat → Int32} (hs : s < 2) (hO : ch_Ok b2) (hK : ch_K1 b2) (hr : r < 100000000) (hp2 : p2 < 1296) (hg2 : ch_lg b2 s p2 = true) (et3 : xt 3 = -1) (et2 : xt 2 = nI (ch_nm p2)) (ev2 : xv 2 = b2 (p2 / 36)) (ek2 : xk 2 = b2 (p2 % 36)) (hp1 : p1 < 1296) (et1 : xt 1 = nI (ch_nm p1)) (eb1 : upd (upd b2 (p1 / 36) (xv 1)) (p1 % 36) (xk 1) = b1)
    (HT : ch_mt (ch_pp b2 s p2) (1 - s) = true → wX_forcesMate_11 post (nI 3) m (nI 1) (nI (r + 1)) xg (nI (1 - s)) xh xr b1 xp xq xt xv xk xz)
    (HF : ch_mt (ch_pp b2 s p2) (1 - s) = false → wX_forcesMate_11 post (nI 3) m (nI 2) (nI (r + 1)) xg (nI s) xh xr b2 xp xq xt xv xk xz) :
    wX_forcesMate_11 post (nI 3) (m + 1) (nI 3) (nI r) xg (nI (1 - s)) xh xr (ch_pp b2 s p2) xp xq xt xv xk xz := by
  have hO2 : ch_Ok (ch_pp b2 s p2) := ch_pp_Ok hp2 hO
  have hK2 : ch_K1 (ch_pp b2 s p2) := ch_pp_K1 hp2 hK
  have eb2 : upd (upd (ch_pp b2 s p2) (p2 / 36) (xv 2)) (p2 % 36) (xk 2) = b2 := by rw [ev2, ek2]; exact ch_back_pp hp2 hg2
  refine cm_stay (q := 0) (by omega) hO2 hK2 (Nat.le_refl 3) (Nat.le_refl 3) hr (by rw [et3]; exact ch_tr_0) (Or.inr (Nat.le_refl 3)) ?_
  have ee := ch_mt_esc (b := ch_pp b2 s p2) (s := 1 - s) et3
  refine cm_odd (L := 2) (by omega) hO2 hK2 (by omega) (by omega) hp2 et2 eb2 (fun he => ?_) (fun he => ?_)
  · have he2 := ee.symm.trans he
    rw [ch_s3 hs]
    exact HF (ch_nnf he2)
  · have he2 := ee.symm.trans he
    exact cm_88_2 (L := 1) (by omega) (by omega) hp2 et2 eb2 hp1 et1 eb1 (HT (ch_nnt he2))
end
theorem cm_row2 {post : Int32 → SX → Prop} {xg xh xr : Int32} {xp xq xz : Nat → Int32} {s p0 p1 : Nat} {b0 b1 b2 : Nat → Int32} (hs : s < 2) (hO : ch_Ok b2) (hK : ch_K1 b2) (hp0 : p0 < 1296) (hp1 : p1 < 1296) :
    ∀ (rest : List Nat) (q r n : Nat) (xt xv xk : Nat → Int32), ch_Rl (ch_lg b2 s) q = rest → ch_tr b2 s (xt 2) q → xt 1 = nI (ch_nm p1) → upd (upd b2 (p1 / 36) (xv 1)) (p1 % 36) (xk 1) = b1 → xt 0 = nI (ch_nm p0) → upd (upd b1 (p0 / 36) (xv 0)) (p0 % 36) (xk 0) = b0 →
    r + (1 + ch_sm (fun _ => 1 + 1) rest) < 100000000 → n + r = 100000001 →
    ((rest.any fun p => ch_mt (ch_pp b2 s p) (1 - s)) = true → ∀ n' r' xt' xv' xk', n' + r' = 100000001 → r' ≤ r + (1 + ch_sm (fun _ => 1 + 1) rest) → ch_e1 2 xt xt' → ch_e1 2 xv xv' → ch_e1 2 xk xk' → wX_forcesMate_11 post (nI 3) n' (nI 1) (nI r') xg (nI (1 - s)) xh xr b1 xp xq xt' xv' xk' xz) →
    ((rest.any fun p => ch_mt (ch_pp b2 s p) (1 - s)) = false → ∀ n' r' xt' xv' xk', n' + r' = 100000001 → r' ≤ r + (1 + ch_sm (fun _ => 1 + 1) rest) → ch_e1 2 xt xt' → ch_e1 2 xv xv' → ch_e1 2 xk xk' → wX_forcesMate_11 post (nI 3) n' (nI 0) (nI r') xg (nI s) xh xr b0 xp xq xt' xv' xk' xz) →
    wX_forcesMate_11 post (nI 3) n (nI 2) (nI r) xg (nI s) xh xr b2 xp xq xt xv xk xz := by
  intro rest
  induction rest with
  | nil =>
    intro q r n xt xv xk er ht et1 eb1 et0 eb0 hr hn HT HF
    obtain ⟨m, rfl⟩ : ∃ m, n = m + 1 := ⟨n - 1, by omega⟩
    exact cm_stay hs hO hK (Nat.le_refl 3) (by omega) (by omega) ht (Or.inl er) (cm_even (by omega) (by omega) (cm_88_2 (L := 0) hs (by omega) hp1 et1 eb1 hp0 et0 eb0 (HF rfl m (r + 1) xt xv xk (by omega) (by omega) ch_e1_r ch_e1_r ch_e1_r)))
  | cons p rest ih =>
    intro q r n xt xv xk er ht et1 eb1 et0 eb0 hr hn HT HF
    obtain ⟨-, hp, hg, e4, -⟩ := ch_Rcons _ _ rfl p rest er
    obtain ⟨m, rfl⟩ : ∃ m, n = m + 1 := ⟨n - 1, by omega⟩
    simp only [ch_sm] at hr HT HF
    simp only [List.any_cons] at HT HF
    obtain ⟨m, rfl⟩ : ∃ k, m = k + 1 := ⟨m - 1, by omega⟩
    have u1 : ch_e1 2 xt (upd (upd xt 2 (nI (ch_nm p))) (2 + 1) (-1)) := ch_e1_t (ch_e1_u (Nat.le_refl 2)) (ch_e1_u (by omega))
    have u2 : ch_e1 2 xv (upd xv 2 (b2 (p / 36))) := ch_e1_u (Nat.le_refl 2)
    have u3 : ch_e1 2 xk (upd xk 2 (b2 (p % 36))) := ch_e1_u (Nat.le_refl 2)
    have et2' : upd (upd xt 2 (nI (ch_nm p))) (2 + 1) (-1) 2 = nI (ch_nm p) := by rw [pk_un (by omega), pk_us]
    have et1' : upd (upd xt 2 (nI (ch_nm p))) (2 + 1) (-1) 1 = nI (ch_nm p1) := (u1 1 (by omega)).trans et1
    have et0' : upd (upd xt 2 (nI (ch_nm p))) (2 + 1) (-1) 0 = nI (ch_nm p0) := (u1 0 (by omega)).trans et0
    have eb1' : upd (upd b2 (p1 / 36) (upd xv 2 (b2 (p / 36)) 1)) (p1 % 36) (upd xk 2 (b2 (p % 36)) 1) = b1 := by rw [u2 1 (by omega), u3 1 (by omega)]; exact eb1
    have eb0' : upd (upd b1 (p0 / 36) (upd xv 2 (b2 (p / 36)) 0)) (p0 % 36) (upd xk 2 (b2 (p % 36)) 0) = b0 := by rw [u2 0 (by omega), u3 0 (by omega)]; exact eb0
    refine cm_down hs hO hK (Nat.le_refl 3) (by omega) (by omega) ht er (cm_l3 (p1 := p1) (b1 := b1) hs hO hK (by omega) hp hg pk_us et2' pk_us pk_us hp1 et1' eb1' (fun hc => ?_) (fun hc => ?_))
    · rw [hc] at HT
      exact HT rfl m (r + 1 + 1) _ _ _ (by omega) (by omega) u1 u2 u3
    · rw [hc, Bool.false_or] at HT HF
      refine ih (p + 1) (r + 1 + 1) m _ _ _ e4.symm (by rw [et2']; exact ch_tr_p hp hg) et1' eb1' et0' eb0' (by omega) (by omega) (fun h n' r' xt' xv' xk' a1 a2 a3 a4 a5 => ?_) (fun h n' r' xt' xv' xk' a1 a2 a3 a4 a5 => ?_)
      · exact HT h n' r' xt' xv' xk' a1 (by omega) (ch_e1_t u1 a3) (ch_e1_t u2 a4) (ch_e1_t u3 a5)
      · exact HF h n' r' xt' xv' xk' a1 (by omega) (ch_e1_t u1 a3) (ch_e1_t u2 a4) (ch_e1_t u3 a5)
theorem cm_row1 {post : Int32 → SX → Prop} {xg xh xr : Int32} {xp xq xz : Nat → Int32} {u p0 : Nat} {b0 b1 : Nat → Int32} (hu : u < 2) (hO : ch_Ok b1) (hK : ch_K1 b1) (hp0 : p0 < 1296) :
    ∀ (rest : List Nat) (q r n : Nat) (xt xv xk : Nat → Int32), ch_Rl (ch_lg b1 u) q = rest → ch_tr b1 u (xt 1) q → xt 0 = nI (ch_nm p0) → upd (upd b1 (p0 / 36) (xv 0)) (p0 % 36) (xk 0) = b0 →
    r + (1 + ch_sm (fun p => 1 + ch_T 1 (ch_pp b1 u p) (1 - u)) rest) < 100000000 → n + r = 100000001 →
    (((rest.all fun p => ch_cm (ch_pp b1 u p) (1 - u)) && (!(ch_L b1 u).isEmpty || ch_ck b1 u)) = true → ∀ xt' xv' xk', post 1 (xg, nI (1 - u), xh, xr, b0, xp, xq, xt', xv', xk', xz)) →
    (((rest.all fun p => ch_cm (ch_pp b1 u p) (1 - u)) && (!(ch_L b1 u).isEmpty || ch_ck b1 u)) = false → ∀ n' r' xt' xv' xk', n' + r' = 100000001 → r' ≤ r + (1 + ch_sm (fun p => 1 + ch_T 1 (ch_pp b1 u p) (1 - u)) rest) → ch_e1 1 xt xt' → wX_forcesMate_11 post (nI 3) n' (nI 0) (nI r') xg (nI (1 - u)) xh xr b0 xp xq xt' xv' xk' xz) →
    wX_forcesMate_11 post (nI 3) n (nI 1) (nI r) xg (nI u) xh xr b1 xp xq xt xv xk xz := by
  intro rest
  induction rest with
  | nil =>
    intro q r n xt xv xk er ht et0 eb0 hr hn HT HF
    obtain ⟨m, rfl⟩ : ∃ m, n = m + 1 := ⟨n - 1, by omega⟩
    simp only [List.all_nil, Bool.true_and] at HT HF
    refine cm_stay hu hO hK (Nat.le_refl 3) (by omega) (by omega) ht (Or.inl er) ?_
    rw [er]
    have hx := ch_tr_end ht er
    have ee : (!decide (ch_hX [] = -1) || (decide (xt 1 = -1) && !ch_ck b1 u)) = !(!(ch_L b1 u).isEmpty || ch_ck b1 u) := by
      have h1 : (decide (xt 1 = -1)) = (ch_L b1 u).isEmpty := by
        apply Bool.eq_iff_iff.mpr
        rw [decide_eq_true_eq, hx, List.isEmpty_iff]
      rw [h1]
      show (!(true) || ((ch_L b1 u).isEmpty && !ch_ck b1 u)) = _
      cases (ch_L b1 u).isEmpty <;> cases ch_ck b1 u <;> rfl
    refine cm_odd (L := 0) hu hO hK (by omega) (by omega) hp0 et0 eb0 (fun he => ?_) (fun he => ?_)
    · have he2 := ee.symm.trans he
      exact HF (ch_nnf he2) m (r + 1) xt xv xk (by omega) (by omega) ch_e1_r
    · have he2 := ee.symm.trans he
      exact cm_88_1 hu hp0 et0 eb0 (HT (ch_nnt he2) xt xv xk)
  | cons p rest ih =>
    intro q r n xt xv xk er ht et0 eb0 hr hn HT HF
    obtain ⟨-, hp, hg, e4, -⟩ := ch_Rcons _ _ rfl p rest er
    obtain ⟨m, rfl⟩ : ∃ m, n = m + 1 := ⟨n - 1, by omega⟩
    have eT : ch_T 1 (ch_pp b1 u p) (1 - u) = 1 + ch_sm (fun _ => 1 + 1) (ch_L (ch_pp b1 u p) (1 - u)) := rfl
    simp only [ch_sm] at hr HT HF
    rw [eT] at hr HF
    simp only [List.all_cons] at HT HF
    have u1 : ch_e1 1 xt (upd (upd xt 1 (nI (ch_nm p))) (1 + 1) (-1)) := ch_e1_t (ch_e1_u (Nat.le_refl 1)) (ch_e1_u (by omega))
    have u2 : ch_e1 1 xv (upd xv 1 (b1 (p / 36))) := ch_e1_u (Nat.le_refl 1)
    have u3 : ch_e1 1 xk (upd xk 1 (b1 (p % 36))) := ch_e1_u (Nat.le_refl 1)
    have et1' : upd (upd xt 1 (nI (ch_nm p))) (1 + 1) (-1) 1 = nI (ch_nm p) := by rw [pk_un (by omega), pk_us]
    have et0' : upd (upd xt 1 (nI (ch_nm p))) (1 + 1) (-1) 0 = nI (ch_nm p0) := (u1 0 (by omega)).trans et0
    have eb1' : upd (upd (ch_pp b1 u p) (p / 36) (upd xv 1 (b1 (p / 36)) 1)) (p % 36) (upd xk 1 (b1 (p % 36)) 1) = b1 := by rw [pk_us, pk_us]; exact ch_back_pp hp hg
    have eb0' : upd (upd b1 (p0 / 36) (upd xv 1 (b1 (p / 36)) 0)) (p0 % 36) (upd xk 1 (b1 (p % 36)) 0) = b0 := by rw [u2 0 (by omega), u3 0 (by omega)]; exact eb0
    refine cm_down hu hO hK (Nat.le_refl 3) (by omega) (by omega) ht er (cm_row2 (p0 := p0) (p1 := p) (b0 := b0) (b1 := b1) (by omega) (ch_pp_Ok hp hO) (ch_pp_K1 hp hK) hp0 hp (ch_L (ch_pp b1 u p) (1 - u)) 0 (r + 1) m _ _ _ rfl (by rw [pk_us]; exact ch_tr_0) et1' eb1' et0' eb0' (by omega) (by omega) (fun hc n' r' xt' xv' xk' a1 a2 a3 a4 a5 => ?_) (fun hc n' r' xt' xv' xk' a1 a2 a3 a4 a5 => ?_))
    · have hc2 : ch_cm (ch_pp b1 u p) (1 - u) = true := hc
      rw [hc2, Bool.true_and] at HT HF
      rw [ch_s3 hu]
      refine ih (p + 1) r' n' xt' xv' xk' e4.symm (by rw [a3 1 (by omega), et1']; exact ch_tr_p hp hg) (by rw [a3 0 (by omega)]; exact et0') (by rw [a4 0 (by omega), a5 0 (by omega)]; exact eb0') (by omega) a1 HT (fun h n2 r2 xt2 xv2 xk2 c1 c2 c3 => ?_)
      exact HF h n2 r2 xt2 xv2 xk2 c1 (by omega) (ch_e1_t u1 (ch_e1_t (ch_e1_m a3 (by omega)) c3))
    · have hc2 : ch_cm (ch_pp b1 u p) (1 - u) = false := hc
      rw [hc2, Bool.false_and, Bool.false_and] at HF
      exact HF rfl n' r' xt' xv' xk' a1 (by omega) (ch_e1_t u1 (ch_e1_m a3 (by omega)))
theorem cm_ch3 {post : Int32 → SX → Prop} {xg xh xr : Int32} {xp xq xz : Nat → Int32} : ch_MC post 3 ch_ls (ch_T 2) xg xh xr xp xq xz := by
  intro s p r n b xt xv xk hs hO hK hp hg et ev ek et1 hr hn HT HF
  have eb : upd (upd (ch_pp b s p) (p / 36) (xv 0)) (p % 36) (xk 0) = b := by rw [ev, ek]; exact ch_back_pp hp hg
  have eT : ch_T 2 (ch_pp b s p) (1 - s) = 1 + ch_sm (fun p' => 1 + ch_T 1 (ch_pp (ch_pp b s p) (1 - s) p') (1 - (1 - s))) (ch_L (ch_pp b s p) (1 - s)) := rfl
  rw [eT] at hr HF
  have el : ((ch_L (ch_pp b s p) (1 - s)).all (fun p' => ch_cm (ch_pp (ch_pp b s p) (1 - s) p') (1 - (1 - s))) && (!(ch_L (ch_pp b s p) (1 - s)).isEmpty || ch_ck (ch_pp b s p) (1 - s))) = ch_ls (ch_pp b s p) (1 - s) := by
    unfold ch_ls
    cases hl : ch_L (ch_pp b s p) (1 - s) with
    | nil => rfl
    | cons p' r' => simp
  refine cm_row1 (p0 := p) (b0 := b) (by omega) (ch_pp_Ok hp hO) (ch_pp_K1 hp hK) hp (ch_L (ch_pp b s p) (1 - s)) 0 r n xt xv xk rfl (by rw [et1]; exact ch_tr_0) et eb hr hn (fun h xt' xv' xk' => ?_) (fun h n' r' xt' xv' xk' a1 a2 a3 => ?_)
  · rw [ch_s3 hs]; exact HT (el.symm.trans h) xt' xv' xk'
  · rw [ch_s3 hs]; exact HF (el.symm.trans h) n' r' xt' xv' xk' a1 a2 a3
section
variable {xg xh xr : Int32} {b xp xq xt xv xk xz : Nat → Int32}
theorem cx_mate1 {post : Int32 → SX → Prop} {s : Nat} (hs : s < 2) (hO : ch_Ok b) (hK : ch_K1 b) (hz : ch_nz b ≤ 6) (H : ∀ xt' xv' xk', post (ch_bI (ch_cm b s)) (xg, nI s, xh, xr, b, xp, xq, xt', xv', xk', xz)) : wpX_forcesMate post (xg, nI s, xh, xr, b, xp, xq, xt, xv, xk, xz) (nI 1) := by
  have hT := ch_T_num (d := 1) (b := b) (s := s) (by omega) hs hz
  have eT : ch_T 1 b s = 1 + ch_sm (fun p => 1 + (fun _ _ => 1 : (Nat → Int32) → Nat → Nat) (ch_pp b s p) (1 - s)) (ch_L b s) := rfl
  have key : ∀ n, n + 0 = 100000001 → wX_forcesMate_11 post (nI 1) n (nI 0) (nI 0) xg (nI s) xh xr b xp xq (upd xt 0 (-1)) xv xk xz := fun n hn =>
    cm_row0 (by omega) (by omega) cm_ch1 hs hO hK (ch_L b s) 0 0 n _ xv xk rfl (by rw [pk_us]; exact ch_tr_0) (by rw [← eT]; omega) hn H
  exact nm_e ⟨100000001, key 100000001 rfl⟩
theorem cx_mate2 {post : Int32 → SX → Prop} {s : Nat} (hs : s < 2) (hO : ch_Ok b) (hK : ch_K1 b) (hz : ch_nz b ≤ 6) (H : ∀ xt' xv' xk', post (ch_bI (ch_m2 b s)) (xg, nI s, xh, xr, b, xp, xq, xt', xv', xk', xz)) : wpX_forcesMate post (xg, nI s, xh, xr, b, xp, xq, xt, xv, xk, xz) (nI 3) := by
  have hT := ch_T_num (d := 3) (b := b) (s := s) (by omega) hs hz
  have eT : ch_T 3 b s = 1 + ch_sm (fun p => 1 + ch_T 2 (ch_pp b s p) (1 - s)) (ch_L b s) := rfl
  have key : ∀ n, n + 0 = 100000001 → wX_forcesMate_11 post (nI 3) n (nI 0) (nI 0) xg (nI s) xh xr b xp xq (upd xt 0 (-1)) xv xk xz := fun n hn =>
    cm_row0 (by omega) (by omega) cm_ch3 hs hO hK (ch_L b s) 0 0 n _ xv xk rfl (by rw [pk_us]; exact ch_tr_0) (by rw [← eT]; omega) hn H
  exact nm_e ⟨100000001, key 100000001 rfl⟩
end
