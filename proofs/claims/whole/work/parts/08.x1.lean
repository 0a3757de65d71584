/-! the component: attacks, check, moves -/
theorem ch_bX {post : Int32 → Prop} {A : Prop} {x : Bool} (hA : A ↔ x = true) (h : post (ch_bI x)) : (A → post 1) ∧ (¬ A → post 0) := by
  cases x with
  | true => exact br_t (hA.mpr rfl) h
  | false => exact br_f (fun z => Bool.noConfusion (hA.mp z)) h
theorem ch_aX {post : Int32 → Prop} {A B : Prop} {x y : Bool} (hA : A ↔ x = true) (hB : B ↔ y = true) (h : post (ch_bI (x && y))) : (A → ((B → post 1) ∧ (¬ B → post 0))) ∧ (¬ A → post 0) := by
  cases x with
  | true => exact br_t (hA.mpr rfl) (ch_bX hB h)
  | false => exact br_f (fun z => Bool.noConfusion (hA.mp z)) h
theorem ch_rX {post : Int32 → Prop} {x : Bool} (h : post (ch_bI x)) : (ch_bI x = 0 → post 0) ∧ (¬ ch_bI x = 0 → post 1) := by
  cases x with
  | true => exact br_f (by decide) h
  | false => exact br_t rfl h
theorem ch_narB (x : Bool) : narrow .boolean (.int (ch_bI x)) = .int (ch_bI x) := by cases x <;> rfl
theorem ch_kgX {s : Nat} (hs : s < 2) : (6 : Int32) + (nI s <<< ((3 : Int32) &&& 31)) = ch_kg s := by
  rcases ch_s2 hs with rfl | rfl <;> decide
theorem ch_qX {s : Nat} (hs : s < 2) : (5 : Int32) + (nI s <<< ((3 : Int32) &&& 31)) = (if s = 0 then 5 else 13) := by
  rcases ch_s2 hs with rfl | rfl <;> decide
theorem ch_kgY {s : Nat} (hs : s < 2) : (6 : Int32) + (8 * nI s) = ch_kg s := by
  rcases ch_s2 hs with rfl | rfl <;> decide
theorem ch_sgX {P : Int32 → Prop} {x : Int32} (h : P (ch_sg x)) : (x ≤ 0 → ((0 ≤ x → P 0) ∧ (¬ 0 ≤ x → P (-1)))) ∧ (¬ x ≤ 0 → P 1) := by
  unfold ch_sg at h
  by_cases h1 : 0 < x
  · rw [if_pos h1] at h
    exact br_f (Int32.not_le.mpr h1) h
  · rw [if_neg h1] at h
    refine br_t (Int32.not_lt.mp h1) ?_
    by_cases h2 : x < 0
    · rw [if_pos h2] at h
      exact br_f (Int32.not_le.mpr h2) h
    · rw [if_neg h2] at h
      exact br_t (Int32.not_lt.mp h2) h
theorem cx_sq_in {post : Int32 → Prop} {j : Nat} (hj : j < 36) (h : post 1) : wpX_isSquare post (nI j) :=
  br_f (nI_pos (by omega)) (br_f (nI_ge (b := 36) hj (by decide)) h)
theorem cx_sq_out {post : Int32 → Prop} {x : Int32} (hx : x < 0 ∨ nI 36 ≤ x) (h : post 0) : wpX_isSquare post x := by
  unfold wpX_isSquare
  by_cases h0 : x < 0
  · exact br_t h0 h
  · exact br_f h0 (br_t (hx.resolve_left h0) h)
theorem cx_kindOf {post : Int32 → Prop} {c : Int32} (hc : ch_ok c) (h : post (ch_kd c)) : wpX_kindOf post c := by
  unfold wpX_kindOf
  rw [ch_kdX hc]
  exact h
theorem cx_ownerOf {post : Int32 → Prop} {c : Int32} (h : post (ch_oX c)) : wpX_ownerOf post c := by
  unfold wpX_ownerOf
  unfold ch_oX at h
  by_cases e : c = 0
  · rw [if_pos e] at h; exact br_t e h
  · rw [if_neg e] at h; exact br_f e h
section
variable {xg xm xh xr : Int32} {b xp xq xt xv xk xz : Nat → Int32}
theorem cx_cp_l {post : Int32 → Prop} (H : post (nI (ch_nz b))) : ∀ d j, j + d = 36 → wX_countPieces_4 post xg xm xh xr b xp xq xt xv xk xz (d + 1) (nI (ch_ct (fun i => !decide (b i = 0)) j)) (nI j) := by
  intro d
  induction d with
  | zero =>
    intro j hj
    have e : j = 36 := by omega
    subst e
    exact br_t (nI_le (Nat.le_refl 36) (by decide)) H
  | succ d ih =>
    intro j hj
    have cl : (nI j).toNatClampNeg = j := nI_clamp (by omega)
    have h1 := ih (j + 1) (by omega)
    refine br_f (nI_ge (b := 36) (by omega) (by decide)) ⟨vp_in_nI (by omega) (by decide), ek_if (d := b j = 0) (by rw [cl]) (fun z => nm_r (nI_1 j) ?_) (fun z => nm_r (nI_1 _) (nm_r (nI_1 j) ?_))⟩
    · rw [ch_ct_f (by simp [z])] at h1; exact h1
    · rw [ch_ct_t (by simp [z])] at h1; exact h1
theorem cx_countPieces {post : Int32 → Prop} (H : post (nI (ch_nz b))) : wpX_countPieces post (xg, xm, xh, xr, b, xp, xq, xt, xv, xk, xz) := ⟨37, cx_cp_l H 36 0 rfl⟩
theorem cx_ks_l {post : Int32 → Prop} {s : Nat} (H : post (nI (ch_ct (fun i => decide (b i = ch_kg s)) 36))) : ∀ d j, j + d = 36 → wX_countKings_12 post (ch_kg s) xg xm xh xr b xp xq xt xv xk xz (d + 1) (nI (ch_ct (fun i => decide (b i = ch_kg s)) j)) (nI j) := by
  intro d
  induction d with
  | zero =>
    intro j hj
    have e : j = 36 := by omega
    subst e
    exact br_t (nI_le (Nat.le_refl 36) (by decide)) H
  | succ d ih =>
    intro j hj
    have cl : (nI j).toNatClampNeg = j := nI_clamp (by omega)
    have h1 := ih (j + 1) (by omega)
    refine br_f (nI_ge (b := 36) (by omega) (by decide)) ⟨vp_in_nI (by omega) (by decide), ek_if (d := b j = ch_kg s) (by rw [cl]) (fun z => nm_r (nI_1 _) (nm_r (nI_1 j) ?_)) (fun z => nm_r (nI_1 j) ?_)⟩
    · rw [ch_ct_t (by simp [z])] at h1; exact h1
    · rw [ch_ct_f (by simp [z])] at h1; exact h1
theorem cx_countKings {post : Int32 → Prop} {s : Nat} (hs : s < 2) (H : post (nI (ch_ct (fun i => decide (b i = ch_kg s)) 36))) : wpX_countKings post (xg, xm, xh, xr, b, xp, xq, xt, xv, xk, xz) (nI s) := by
  unfold wpX_countKings wpX_pieceOf
  dsimp only
  rw [ch_kgX hs]
  exact ⟨37, cx_ks_l H 36 0 rfl⟩
theorem cx_kq_l {post : Int32 → Prop} {s : Nat} (H : ∀ k, k < 36 → b k = ch_kg s → post (nI k)) (H0 : (∀ k, k < 36 → ¬ b k = ch_kg s) → post (-1)) : ∀ d j, j + d = 36 → (∀ k, k < j → ¬ b k = ch_kg s) → wX_squareOfKing_9 post (ch_kg s) xg xm xh xr b xp xq xt xv xk xz (d + 1) (nI j) := by
  intro d
  induction d with
  | zero =>
    intro j hj hk
    have e : j = 36 := by omega
    subst e
    exact br_t (nI_le (Nat.le_refl 36) (by decide)) (H0 hk)
  | succ d ih =>
    intro j hj hk
    have cl : (nI j).toNatClampNeg = j := nI_clamp (by omega)
    refine br_f (nI_ge (b := 36) (by omega) (by decide)) ⟨vp_in_nI (by omega) (by decide), ek_if (d := b j = ch_kg s) (by rw [cl]) (fun z => H j (by omega) z) (fun z => nm_r (nI_1 j) (ih (j + 1) (by omega) fun k hk2 => ?_))⟩
    by_cases e : k = j
    · rw [e]; exact z
    · exact hk k (by omega)
theorem cx_squareOfKing {post : Int32 → Prop} {s : Nat} (hs : s < 2) (H : ∀ k, k < 36 → b k = ch_kg s → post (nI k)) (H0 : (∀ k, k < 36 → ¬ b k = ch_kg s) → post (-1)) : wpX_squareOfKing post (xg, xm, xh, xr, b, xp, xq, xt, xv, xk, xz) (nI s) := by
  unfold wpX_squareOfKing wpX_pieceOf
  dsimp only
  rw [ch_kgX hs]
  exact ⟨37, cx_kq_l H H0 36 0 rfl (fun k hk => absurd hk (Nat.not_lt_zero k))⟩
theorem cx_ln_l {post : Int32 → Prop} {f t : Nat} (hf : f < 36) (ht : t < 36) (H : post (ch_bI (ch_lo b f t))) : ∀ d i, 1 ≤ i → i < 7 → ch_ln f t ≤ i + d → (∀ j, 1 ≤ j → j < i → b (ch_sq f t j) = 0) → wX_lineIsOpen_92 post (nI f) (nI (ch_ln f t)) (ch_sp f t) xg xm xh xr b xp xq xt xv xk xz (d + 1) (nI i) := by
  have hl := (ch_t_ln f hf t ht).2.1
  have hend : ∀ d i, 1 ≤ i → i < 7 → ch_ln f t ≤ i → (∀ j, 1 ≤ j → j < i → b (ch_sq f t j) = 0) → wX_lineIsOpen_92 post (nI f) (nI (ch_ln f t)) (ch_sp f t) xg xm xh xr b xp xq xt xv xk xz (d + 1) (nI i) := by
    intro d i h1 h7 h2 h3
    refine br_t (nI_le h2 (by omega)) ?_
    by_cases e : ch_ln f t = 0
    · have e2 : ch_lo b f t = false := by unfold ch_lo; rw [e]; rfl
      rw [e2] at H
      rw [e]
      exact br_t (nI_le (Nat.le_refl 0) (by decide)) H
    · have e2 : ch_lo b f t = true := by
        unfold ch_lo
        rw [Bool.and_eq_true, ch_cl_iff]
        exact ⟨decide_eq_true (by omega), fun j a c => h3 j a (by omega)⟩
      rw [e2] at H
      exact br_f (nI_nle (by omega) (by omega)) H
  intro d
  induction d with
  | zero => intro i h1 h7 h2 h3; exact hend 0 i h1 h7 (by omega) h3
  | succ d ih =>
    intro i h1 h7 h2 h3
    by_cases h4 : ch_ln f t ≤ i
    · exact hend (d + 1) i h1 h7 h4 h3
    · have hq := ch_sq_lt (f := f) (t := t) (i := i) hf ht (by omega)
      refine br_f (nI_ge (by omega) (by omega)) ⟨hq.2.1, ?_⟩
      by_cases z : b (ch_sq f t i) = 0
      · refine br_t z (nm_r (nI_1 i) (ih (i + 1) (by omega) (by omega) (by omega) fun j a c => ?_))
        by_cases e : j = i
        · rw [e]; exact z
        · exact h3 j a (by omega)
      · have e2 : ch_lo b f t = false := by
          cases hc : ch_lo b f t with
          | false => rfl
          | true =>
            unfold ch_lo at hc
            rw [Bool.and_eq_true, ch_cl_iff] at hc
            exact absurd (hc.2 i h1 (by omega)) z
        rw [e2] at H
        exact br_f z H
theorem cx_lineIsOpen {post : Int32 → Prop} {f t : Nat} (hf : f < 36) (ht : t < 36) (H : post (ch_bI (ch_lo b f t))) : wpX_lineIsOpen post (xg, xm, xh, xr, b, xp, xq, xt, xv, xk, xz) (nI f) (nI t) := by
  have h77 : wX_lineIsOpen_77 post (nI f) (ch_sg (ch_R f t)) (ch_sg (ch_C f t)) (ch_lI f t) xg xm xh xr b xp xq xt xv xk xz := by
    refine nm_r (e' := ch_sp f t) rfl ⟨6, ?_⟩
    rw [(ch_t_ln f hf t ht).1]
    exact cx_ln_l hf ht H 5 1 (by omega) (by omega) (by have := (ch_t_ln f hf t ht).2.1; omega) (fun j a c => by omega)
  have h59 : wX_lineIsOpen_59 post (nI f) (ch_R f t) (ch_C f t) (ch_sg (ch_R f t)) (ch_sg (ch_C f t)) xg xm xh xr b xp xq xt xv xk xz := by
    unfold ch_lI at h77
    by_cases e : ch_R f t = 0
    · rw [if_pos e] at h77; exact br_t e h77
    · rw [if_neg e] at h77; exact br_f e h77
  have h38 : wX_lineIsOpen_38 post (nI f) (ch_R f t) (ch_C f t) (ch_sg (ch_R f t)) xg xm xh xr b xp xq xt xv xk xz := ch_sgX (P := fun z => wX_lineIsOpen_59 post (nI f) (ch_R f t) (ch_C f t) (ch_sg (ch_R f t)) z xg xm xh xr b xp xq xt xv xk xz) h59
  exact ⟨by decide, by decide, nm_r (e' := ch_R f t) rfl ⟨by decide, by decide, nm_r (e' := ch_C f t) rfl (ch_sgX (P := fun z => wX_lineIsOpen_38 post (nI f) (ch_R f t) (ch_C f t) z xg xm xh xr b xp xq xt xv xk xz) h38)⟩⟩
theorem cx_at66 {post : Int32 → Prop} {f t : Nat} (hf : f < 36) (ht : t < 36) (hb : ch_ok (b f)) (H : post (ch_bI (ch_at b f t))) : wX_attacks_66 post (nI f) (nI t) (ch_R f t) (ch_D f t) (ch_bI (ch_sr f t)) (ch_bI (ch_dg f t)) xg xm xh xr b xp xq xt xv xk xz := by
  refine ⟨vp_in_nI hf (by decide), nm_r (e' := b f) (congrArg b (nI_clamp (by omega))) (cx_ownerOf (cx_kindOf hb ?_))⟩
  by_cases z : b f = 0
  · have e : ch_at b f t = false := by unfold ch_at; rw [z, ch_kd_0]; rfl
    rw [e] at H
    rw [z, ch_kd_0]
    exact br_t (by decide) H
  · rcases ch_kd_ne hb z with k | k | k | k | k | k
    · have e : ch_at b f t = ch_pa (ch_sd (b f)) f t := by unfold ch_at; rw [if_pos k]
      rw [k]
      refine br_f (by decide) (br_f (by decide) (br_t rfl ?_))
      rw [e] at H
      unfold wpX_stepAhead
      unfold ch_pa at H
      by_cases h0 : ch_sd (b f) = 0
      · rw [if_pos h0] at H
        exact br_t ((ch_sdX hb z).mpr h0) (ch_aX (by simp) (by simp) H)
      · rw [if_neg h0] at H
        exact br_f (fun y => h0 ((ch_sdX hb z).mp y)) (ch_aX (by simp) (by simp) H)
    · have e : ch_at b f t = ch_kn f t := by unfold ch_at; rw [k]; rfl
      rw [k]
      rw [e] at H
      unfold ch_kn at H
      exact br_f (by decide) (br_f (by decide) (br_f (by decide) (br_t rfl (ch_bX (by simp) H))))
    · have e : ch_at b f t = (ch_dg f t && ch_lo b f t) := by unfold ch_at; rw [k]; rfl
      rw [k]
      rw [e] at H
      refine br_f (by decide) (br_f (by decide) (br_f (by decide) (br_f (by decide) (br_t rfl ?_))))
      cases hd : ch_dg f t with
      | false => rw [hd] at H; exact br_t rfl H
      | true => rw [hd] at H; exact br_f (by decide) (cx_lineIsOpen hf ht (ch_rX H))
    · have e : ch_at b f t = (ch_sr f t && ch_lo b f t) := by unfold ch_at; rw [k]; rfl
      rw [k]
      rw [e] at H
      refine br_f (by decide) (br_f (by decide) (br_f (by decide) (br_f (by decide) (br_f (by decide) (br_t rfl ?_)))))
      cases hd : ch_sr f t with
      | false => rw [hd] at H; exact br_t rfl H
      | true => rw [hd] at H; exact br_f (by decide) (cx_lineIsOpen hf ht (ch_rX H))
    · have e : ch_at b f t = ((ch_sr f t || ch_dg f t) && ch_lo b f t) := by unfold ch_at; rw [k]; rfl
      rw [k]
      rw [e] at H
      refine br_f (by decide) (br_f (by decide) (br_f (by decide) (br_f (by decide) (br_f (by decide) (br_f (by decide) (br_t rfl ?_))))))
      cases hs : ch_sr f t with
      | true => rw [hs] at H; exact br_f (by decide) (cx_lineIsOpen hf ht (ch_rX H))
      | false =>
        refine br_t rfl ?_
        rw [hs] at H
        cases hd : ch_dg f t with
        | false => rw [hd] at H; exact br_t rfl H
        | true => rw [hd] at H; exact br_f (by decide) (cx_lineIsOpen hf ht (ch_rX H))
    · have e : ch_at b f t = ch_kk f t := by unfold ch_at; rw [k]; rfl
      rw [k]
      rw [e] at H
      unfold ch_kk at H
      refine br_f (by decide) (br_f (by decide) (br_f (by decide) (br_f (by decide) (br_f (by decide) (br_f (by decide) (br_f (by decide) (br_t rfl ?_)))))))
      by_cases d1 : ch_D f t = 1
      · rw [decide_eq_true d1] at H; exact br_t d1 H
      · rw [decide_eq_false d1] at H; exact br_f d1 (ch_bX (by simp) H)
theorem cx_attacks {post : Int32 → Prop} {f t : Nat} (hf : f < 36) (ht : t < 36) (hb : ch_ok (b f)) (H : post (ch_bI (ch_at b f t))) : wpX_attacks post (xg, xm, xh, xr, b, xp, xq, xt, xv, xk, xz) (nI f) (nI t) := by
  have h66 := cx_at66 (xg := xg) (xm := xm) (xh := xh) (xr := xr) (xp := xp) (xq := xq) (xt := xt) (xv := xv) (xk := xk) (xz := xz) hf ht hb H
  have h46 : wX_attacks_46 post (nI f) (nI t) (ch_R f t) (ch_C f t) (ch_D f t) (ch_bI (ch_sr f t)) xg xm xh xr b xp xq xt xv xk xz := by
    unfold ch_dg at h66
    by_cases e1 : ch_R f t = ch_C f t
    · rw [decide_eq_true e1] at h66; exact br_t e1 h66
    · refine br_f e1 ?_
      rw [decide_eq_false e1] at h66
      by_cases e2 : ch_R f t = -ch_C f t
      · rw [decide_eq_true e2] at h66; exact br_t e2 h66
      · rw [decide_eq_false e2] at h66; exact br_f e2 h66
  refine ⟨by decide, by decide, nm_r (e' := ch_R f t) rfl ⟨by decide, by decide, nm_r (e' := ch_C f t) rfl (nm_r (e' := ch_D f t) rfl ?_)⟩⟩
  unfold ch_sr at h46
  by_cases e1 : ch_R f t = 0
  · rw [decide_eq_true e1] at h46; exact br_t e1 h46
  · refine br_f e1 ?_
    rw [decide_eq_false e1] at h46
    by_cases e2 : ch_C f t = 0
    · rw [decide_eq_true e2] at h46; exact br_t e2 h46
    · rw [decide_eq_false e2] at h46; exact br_f e2 h46
end
