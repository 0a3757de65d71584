/-! the component: looking ahead from the root, rows of moves -/
def ch_bR : Nat → (Nat → Int32) → Nat → Int32
  | 0, _, _ => -1
  | d + 1, b, s => ch_bm (ch_w d b s) (-1000000) (-1) (ch_L b s)
theorem ch_best {d : Nat} (hd : d ≤ 2) (b : Nat → Int32) (s : Nat) : (if ch_bR (d + 1) b s = -1 then -3 else ch_bR (d + 1) b s) = ch_be (d + 1) b s := by
  show (if ch_bm (ch_w d b s) (-1000000) (-1) (ch_L b s) = -1 then -3 else ch_bm (ch_w d b s) (-1000000) (-1) (ch_L b s)) = ch_bm (ch_w d b s) (-5000) (-3) (ch_L b s)
  cases hl : ch_L b s with
  | nil => exact if_pos rfl
  | cons p r =>
    have hw : ∀ q, ch_in (ch_w d b s q) := fun q => ch_v_in d (by omega) _ _
    have hlt : ∀ q, q ∈ p :: r → q < 1296 := fun q hq => (ch_L_mem (b := b) (s := s) (by rw [hl]; exact hq)).1
    have g := ch_in_gt (hw p)
    have e1 : ch_bm (ch_w d b s) (-1000000) (-1) (p :: r) = ch_bm (ch_w d b s) (-ch_w d b s p) (nI (ch_nm p)) r := by
      simp only [ch_bm]
      rw [if_pos g.2.1, if_pos g.2.1]
    have e2 : ch_bm (ch_w d b s) (-5000) (-3) (p :: r) = ch_bm (ch_w d b s) (-ch_w d b s p) (nI (ch_nm p)) r := by
      simp only [ch_bm]
      rw [if_pos g.1, if_pos g.1]
    rw [e1, e2, if_neg]
    exact ch_bm_ne r _ _ (fun q hq => hlt q (List.mem_cons_of_mem p hq)) (ch_nm_ne (hlt p List.mem_cons_self))
section
variable {xg xm xh xr : Int32} {b xp xq xt xv xk xz : Nat → Int32}
theorem cx_root {post : Int32 → SX → Prop} {J : Int32 → Int32 → Int32 → Int32 → Int32 → Int32 → (Nat → Int32) → (Nat → Int32) → (Nat → Int32) → (Nat → Int32) → (Nat → Int32) → (Nat → Int32) → (Nat → Int32) → Prop} {D r : Nat} {x : Int32} (hv : ∀ post' : Int32 → Prop, post' x → wpX_valueOfLevel post' (xg, xm, xh, xr, b, xp, xq, xt, xv, xk, xz) (nI 0) (nI D - nI 0)) (H : post x (xg, xm, xh, xr, b, xp, xq, xt, xv, xk, xz)) : wX_lookAhead_39 post J (nI D) (nI 0) (nI r) (-1) xg xm xh xr b xp xq xt xv xk xz :=
  br_t rfl (hv _ (br_t nI_0 H))
theorem cx_look0 {post : Int32 → SX → Prop} {s : Nat} (hs : s < 2) (hO : ch_Ok b) (H : post (ch_v 0 b s) (xg, nI s, xh, xr, b, xp, xq, xt, xv, xk, xz)) : ∀ n, n + 0 = 100000001 → wX_lookAhead_14 post (nI 0) n (nI 0) (nI 0) xg (nI s) xh xr b xp xq xt xv xk xz := by
  intro n hn
  obtain ⟨m, rfl⟩ : ∃ m, n = m + 1 := ⟨n - 1, by omega⟩
  exact cx_leaf (by omega) (by omega) (cx_root (x := ch_v 0 b s) (fun post' h => cx_vol_0 hs hO h) H)
theorem cx_looks {post : Int32 → SX → Prop} {s d : Nat} (hd : d ≤ 2) (hs : s < 2) (hO : ch_Ok b) (hK : ch_K1 b) (hz : ch_nz b ≤ 6) (e0 : xt 0 = -1) (e1 : xz 0 = -1000000)
    (H : ∀ xt' xv' xk' xz', post (ch_v (d + 1) b s) (xg, nI s, xh, ch_bR (d + 1) b s, b, xp, xq, xt', xv', xk', xz')) : ∀ n, n + 0 = 100000001 → wX_lookAhead_14 post (nI (d + 1)) n (nI 0) (nI 0) xg (nI s) xh (-1) b xp xq xt xv xk xz := by
  intro n hn
  have hT := ch_T_num (d := d + 1) (b := b) (s := s) (by omega) hs hz
  have eT1 : ch_T (d + 1) b s = 1 + ch_sm (fun q => 1 + ch_T d (ch_pp b s q) (1 - s)) (ch_L b s) := rfl
  rw [eT1] at hT
  refine cx_row (L := 0) (by omega) (cx_ch (by omega) d) (by omega) hs hO hK (ch_L b s) 0 0 n xt xv xk xz (-1) rfl (by rw [e0]; exact ch_tr_0) (by omega) hn ?_
  intro n' q' xt' xv' xk' xz' hn' ht' er' a1 a2 a3 a4 a5
  obtain ⟨m, rfl⟩ : ∃ m, n' = m + 1 := ⟨n' - 1, by omega⟩
  have hv : (if xt' 0 = -1 then ch_no (d + 1 - 0) b s else xz' 0) = ch_v (d + 1) b s := by
    rw [a5, e1]
    exact ch_finX (by omega) b s (ch_tr_end ht' er')
  rw [if_pos rfl, e1]
  exact cx_none hs hO hK (by omega) (by omega) (by omega) ht' er' (cx_root (x := ch_v (d + 1) b s) (fun post' h => cx_vol_s hs hO hK (by omega) (by omega) (by rw [hv]; exact h)) (H xt' xv' xk' xz'))
theorem cx_lookAhead {post : Int32 → SX → Prop} {s D : Nat} (hD : D ≤ 3) (hs : s < 2) (hO : ch_Ok b) (hK : ch_K1 b) (hz : ch_nz b ≤ 6)
    (H : ∀ xt' xv' xk' xz', post (ch_v D b s) (xg, nI s, xh, ch_bR D b s, b, xp, xq, xt', xv', xk', xz')) : wpX_lookAhead post (xg, nI s, xh, xr, b, xp, xq, xt, xv, xk, xz) (nI D) := by
  unfold wpX_lookAhead
  dsimp only
  refine cx_openLevel (L := 0) (by omega) ?_
  cases D with
  | zero => exact ⟨100000001, cx_look0 hs hO (H _ _ _ _) 100000001 rfl⟩
  | succ d => exact ⟨100000001, cx_looks (by omega) hs hO hK hz pk_us pk_us H 100000001 rfl⟩
end
/-- the steps of counting rows -/
def ch_cc : Nat → (Nat → Int32) → Nat → Nat → Nat
  | 0, _, _, _ => 1
  | e + 1, b, s, p => 2 + ch_sm (ch_cc e (ch_pp b s p) (1 - s)) (ch_L (ch_pp b s p) (1 - s))
theorem ch_cc_le : ∀ e b s, 1 + ch_sm (ch_cc e b s) (ch_L b s) ≤ ch_T (e + 1) b s := by
  intro e
  induction e with
  | zero =>
    intro b s
    refine Nat.add_le_add_left (ch_sm_mono _ fun p _ => ?_) 1
    exact Nat.le_add_right 1 _
  | succ e ih =>
    intro b s
    refine Nat.add_le_add_left (ch_sm_mono _ fun p _ => ?_) 1
    have h := ih (ch_pp b s p) (1 - s)
    show 2 + ch_sm (ch_cc e (ch_pp b s p) (1 - s)) (ch_L (ch_pp b s p) (1 - s)) ≤ 1 + ch_T (e + 1) (ch_pp b s p) (1 - s)
    omega
section
variable {xg xh xr : Int32} {b xp xq xt xv xk xz : Nat → Int32}
theorem cr_step {post : Int32 → SX → Prop} {D m L r s q : Nat} {rows : Int32} (hs : s < 2) (hO : ch_Ok b) (hK : ch_K1 b) (hL : L < 4) (hr : r < 100000000) (ht : ch_tr b s (xt L) q)
    (h0 : ch_Rl (ch_lg b s) q = [] → L = 0 → post rows (xg, nI s, xh, xr, b, xp, xq, xt, xv, xk, xz))
    (h1 : ¬ (ch_Rl (ch_lg b s) q = [] ∧ L = 0) → wX_countRows_45 post (wX_countRows_14 post (nI D) m) (nI D) rows (nI L) (nI r) (ch_hX (ch_Rl (ch_lg b s) q)) xg (nI s) xh xr b xp xq xt xv xk xz) :
    wX_countRows_14 post (nI D) (m + 1) rows (nI L) (nI r) xg (nI s) xh xr b xp xq xt xv xk xz := by
  have cL : (nI L).toNatClampNeg = L := nI_clamp (by omega)
  refine br_f (nI_ge (b := 100000000) hr (by decide)) ⟨vp_in_nI (by omega) (by decide), ?_⟩
  rw [cL]
  refine cx_nl_t hs hO hK ht ?_
  by_cases e : ch_Rl (ch_lg b s) q = []
  · refine br_t ((ch_hX_nil ch_Rl_lt).mpr e) ?_
    by_cases z : L = 0
    · exact br_t (by rw [z]; rfl) (h0 e z)
    · exact br_f (nI_ne0 (by omega) (by omega)) (h1 fun w => z w.2)
  · exact br_f (fun w => e ((ch_hX_nil ch_Rl_lt).mp w)) (h1 fun w => e w.1)
end
def ch_RC (post : Int32 → SX → Prop) (D e : Nat) (xg xh xr : Int32) (xp xq xz : Nat → Int32) : Prop :=
  ∀ (L s : Nat) (b : Nat → Int32), D = L + 1 + e → s < 2 → ch_Ok b → ch_K1 b → ∀ (rest : List Nat) (q r n : Nat) (xt xv xk : Nat → Int32) (rows : Int32), ch_Rl (ch_lg b s) q = rest → ch_tr b s (xt L) q → r + ch_sm (ch_cc e b s) rest < 100000000 → n + r = 100000001 →
    (∀ n' q' xt' xv' xk', n' + (r + ch_sm (ch_cc e b s) rest) = 100000001 → ch_tr b s (xt' L) q' → ch_Rl (ch_lg b s) q' = [] → ch_e1 L xt xt' → ch_e1 L xv xv' → ch_e1 L xk xk' →
      wX_countRows_14 post (nI D) n' (rows + nI (ch_sm (fun p => ch_cn e (ch_pp b s p) (1 - s)) rest)) (nI L) (nI (r + ch_sm (ch_cc e b s) rest)) xg (nI s) xh xr b xp xq xt' xv' xk' xz) →
    wX_countRows_14 post (nI D) n rows (nI L) (nI r) xg (nI s) xh xr b xp xq xt xv xk xz
theorem cr_row0 {post : Int32 → SX → Prop} {D : Nat} {xg xh xr : Int32} {xp xq xz : Nat → Int32} (hD : D ≤ 3) : ch_RC post D 0 xg xh xr xp xq xz := by
  intro L s b eD hs hO hK rest
  have cL : (nI L).toNatClampNeg = L := nI_clamp (by omega)
  induction rest with
  | nil =>
    intro q r n xt xv xk rows er ht hr hn K
    have K := K n q xt xv xk (by simp only [ch_sm]; omega) ht er ch_e1_r ch_e1_r ch_e1_r
    simp only [ch_sm, Nat.add_zero, nI_0, Int32.add_zero] at K
    exact K
  | cons p rest ih =>
    intro q r n xt xv xk rows er ht hr hn K
    obtain ⟨-, hp, hg, e4, -⟩ := ch_Rcons _ _ rfl p rest er
    obtain ⟨m, rfl⟩ : ∃ m, n = m + 1 := ⟨n - 1, by omega⟩
    simp only [ch_sm] at hr K
    have ec : ch_cc 0 b s p = 1 := rfl
    have en : ch_cn 0 (ch_pp b s p) (1 - s) = 1 := rfl
    rw [ec] at hr K
    rw [en] at K
    refine cr_step hs hO hK (by omega) (by omega) ht (fun z => by rw [er] at z; cases z) (fun _ => ?_)
    rw [er]
    refine br_f (ch_nm_ne hp) (br_t ?_ ⟨vp_in_nI (by omega) (by decide), nm_r (e' := upd xt L (nI (ch_nm p))) (by rw [cL]; rfl) (nm_e (nm_r (nI_1 r) ?_))⟩)
    · rw [show D = L + 1 by omega, nI_pred]
    · refine ih (p + 1) (r + 1) m _ xv xk (rows + 1) e4.symm (by rw [pk_us]; exact ch_tr_p hp hg) (by omega) (by omega) ?_
      intro n' q' xt' xv' xk' hn' ht' er' a1 a2 a3
      have K := K n' q' xt' xv' xk' (by omega) ht' er' (ch_e1_t (ch_e1_u (Nat.le_refl L)) a1) a2 a3
      rw [← nI_add, ← Int32.add_assoc] at K
      rw [show r + 1 + ch_sm (ch_cc 0 b s) rest = r + (1 + ch_sm (ch_cc 0 b s) rest) by omega]
      exact K
theorem cr_rows {post : Int32 → SX → Prop} {D e : Nat} {xg xh xr : Int32} {xp xq xz : Nat → Int32} (hD : D ≤ 3) (hC : ch_RC post D e xg xh xr xp xq xz) : ch_RC post D (e + 1) xg xh xr xp xq xz := by
  intro L s b eD hs hO hK rest
  have cL1 : (nI (L + 1)).toNatClampNeg = L + 1 := nI_clamp (by omega)
  induction rest with
  | nil =>
    intro q r n xt xv xk rows er ht hr hn K
    have K := K n q xt xv xk (by simp only [ch_sm]; omega) ht er ch_e1_r ch_e1_r ch_e1_r
    simp only [ch_sm, Nat.add_zero, nI_0, Int32.add_zero] at K
    exact K
  | cons p rest ih =>
    intro q r n xt xv xk rows er ht hr hn K
    obtain ⟨-, hp, hg, e4, -⟩ := ch_Rcons _ _ rfl p rest er
    obtain ⟨m, rfl⟩ : ∃ m, n = m + 1 := ⟨n - 1, by omega⟩
    simp only [ch_sm] at hr K
    have ec : ch_cc (e + 1) b s p = 2 + ch_sm (ch_cc e (ch_pp b s p) (1 - s)) (ch_L (ch_pp b s p) (1 - s)) := rfl
    have en : ch_cn (e + 1) (ch_pp b s p) (1 - s) = ch_sm (fun p' => ch_cn e (ch_pp (ch_pp b s p) (1 - s) p') (1 - (1 - s))) (ch_L (ch_pp b s p) (1 - s)) := rfl
    rw [ec] at hr K
    rw [en] at K
    refine cr_step hs hO hK (by omega) (by omega) ht (fun z => by rw [er] at z; cases z) (fun _ => ?_)
    rw [er]
    refine br_f (ch_nm_ne hp) (br_f ?_ (cx_play hs hO hp (by omega) (nm_r (nI_1 L) ⟨vp_in_nI (by omega) (by decide), nm_r (e' := upd (upd xt L (nI (ch_nm p))) (L + 1) (-1)) (by rw [cL1]) (nm_r (nI_1 r) ?_)⟩)))
    · rw [show D = (D - 1) + 1 by omega, nI_pred]
      intro z
      have := (nI_eq (by omega) (by omega)).mp z
      omega
    · refine hC (L + 1) (1 - s) (ch_pp b s p) (by omega) (by omega) (ch_pp_Ok hp hO) (ch_pp_K1 hp hK) (ch_L (ch_pp b s p) (1 - s)) 0 (r + 1) m _ _ _ rows rfl (by rw [pk_us]; exact ch_tr_0) (by omega) (by omega) ?_
      intro n' q' xt' xv' xk' hn' ht' er' a1 a2 a3
      obtain ⟨m', rfl⟩ : ∃ m', n' = m' + 1 := ⟨n' - 1, by omega⟩
      have etL : xt' L = nI (ch_nm p) := by rw [a1 L (by omega), pk_un (by omega), pk_us]
      refine cr_step (by omega) (ch_pp_Ok hp hO) (ch_pp_K1 hp hK) (by omega) (by omega) ht' (fun _ z => by omega) (fun _ => ?_)
      rw [er']
      refine br_t rfl (nm_r (e' := nI L) (pk_m1 L) (cx_takeBack (ch_mu hs) hp (by omega) etL ?_))
      rw [a2 L (by omega), a3 L (by omega), pk_us, pk_us, ch_back_pp hp hg]
      refine nm_r (nI_1 _) (ih (p + 1) _ m' xt' xv' xk' _ e4.symm (by rw [etL]; exact ch_tr_p hp hg) (by omega) (by omega) ?_)
      intro n2 q2 xt2 xv2 xk2 hn2 ht2 er2 c1 c2 c3
      have K := K n2 q2 xt2 xv2 xk2 (by omega) ht2 er2 (ch_e1_t (ch_e1_t (ch_e1_t (ch_e1_u (Nat.le_refl L)) (ch_e1_u (by omega))) (ch_e1_m a1 (by omega))) c1) (ch_e1_t (ch_e1_t (ch_e1_u (Nat.le_refl L)) (ch_e1_m a2 (by omega))) c2) (ch_e1_t (ch_e1_t (ch_e1_u (Nat.le_refl L)) (ch_e1_m a3 (by omega))) c3)
      rw [← nI_add, ← Int32.add_assoc] at K
      rw [show r + 1 + ch_sm (ch_cc e (ch_pp b s p) (1 - s)) (ch_L (ch_pp b s p) (1 - s)) + 1 + ch_sm (ch_cc (e + 1) b s) rest = r + (2 + ch_sm (ch_cc e (ch_pp b s p) (1 - s)) (ch_L (ch_pp b s p) (1 - s)) + ch_sm (ch_cc (e + 1) b s) rest) by omega]
      exact K
theorem cr_row {post : Int32 → SX → Prop} {D : Nat} {xg xh xr : Int32} {xp xq xz : Nat → Int32} (hD : D ≤ 3) : ∀ e, ch_RC post D e xg xh xr xp xq xz := by
  intro e
  induction e with
  | zero => exact cr_row0 hD
  | succ e ih => exact cr_rows hD ih
section
variable {xg xh xr : Int32} {b xp xq xt xv xk xz : Nat → Int32}
theorem cr_all {post : Int32 → SX → Prop} {s e : Nat} (he : e ≤ 2) (hs : s < 2) (hO : ch_Ok b) (hK : ch_K1 b) (hz : ch_nz b ≤ 6) (e0 : xt 0 = -1)
    (H : ∀ xt' xv' xk', post (nI (ch_cn (e + 1) b s)) (xg, nI s, xh, xr, b, xp, xq, xt', xv', xk', xz)) : ∀ n, n + 0 = 100000001 → wX_countRows_14 post (nI (e + 1)) n 0 (nI 0) (nI 0) xg (nI s) xh xr b xp xq xt xv xk xz := by
  intro n hn
  have hT := ch_T_num (d := e + 1) (b := b) (s := s) (by omega) hs hz
  have hT2 := ch_cc_le e b s
  refine cr_row (by omega) e 0 s b (by omega) hs hO hK (ch_L b s) 0 0 n xt xv xk 0 rfl (by rw [e0]; exact ch_tr_0) (by omega) hn ?_
  intro n' q' xt' xv' xk' hn' ht' er' a1 a2 a3
  obtain ⟨m, rfl⟩ : ∃ m, n' = m + 1 := ⟨n' - 1, by omega⟩
  refine cr_step hs hO hK (by omega) (by omega) ht' (fun _ _ => ?_) (fun z => absurd ⟨er', rfl⟩ z)
  rw [Int32.zero_add]
  exact H xt' xv' xk'
theorem cx_countRows {post : Int32 → SX → Prop} {s e : Nat} (he : e ≤ 2) (hs : s < 2) (hO : ch_Ok b) (hK : ch_K1 b) (hz : ch_nz b ≤ 6)
    (H : ∀ xt' xv' xk', post (nI (ch_cn (e + 1) b s)) (xg, nI s, xh, xr, b, xp, xq, xt', xv', xk', xz)) : wpX_countRows post (xg, nI s, xh, xr, b, xp, xq, xt, xv, xk, xz) (nI (e + 1)) :=
  nm_e ⟨100000001, cr_all he hs hO hK hz pk_us H 100000001 rfl⟩
end
