/-! the component: counting, positions, ways of being over, moves made and taken back, balance -/
theorem ch_ix (h j : Nat) : (nI h * 36) + nI j = nI (36 * h + j) := by
  rw [show (36 : Int32) = nI 36 from rfl, pk_mul, nI_add]
  exact congrArg nI (by omega)
theorem ch_iy (h j : Nat) : (36 * nI h) + nI j = nI (36 * h + j) := by
  rw [show (36 : Int32) = nI 36 from rfl, pk_mul, nI_add]
/-- the board b is the k-th of the past -/
def ch_eq (p b : Nat → Int32) (k : Nat) : Bool := (List.range 36).all fun i => decide (p (36 * k + i) = b i)
theorem ch_eq_iff {p b : Nat → Int32} {k : Nat} : ch_eq p b k = true ↔ ∀ i, i < 36 → p (36 * k + i) = b i := by
  unfold ch_eq
  rw [List.all_eq_true]
  constructor
  · intro h i hi; exact of_decide_eq_true (h i (List.mem_range.mpr hi))
  · intro h i hi; exact decide_eq_true (h i (List.mem_range.mp hi))
theorem ch_dn2 (k : Nat) : nI (k + 2) + (-2) = nI k := by
  rw [← nI_add, Int32.add_assoc, show nI 2 + (-2) = 0 by decide, Int32.add_zero]
theorem ch_dn2' (k : Nat) : nI (k + 2) - 2 = nI k := by
  rw [show (2 : Int32) = nI 2 from rfl, pk_sub (by omega)]
  exact congrArg nI (by omega)
def ch_ov (b : Nat → Int32) (s h st q : Nat) : Int32 := if ch_L b s = [] then (if ch_ck b s then 1 else 2) else if 3 ≤ st then 3 else if 20 ≤ q then 4 else if 60 ≤ h then 5 else 0
theorem ch_nmS {p : Nat} (h : p < 1296) : nI (ch_nm p) >>> ((6 : Int32) &&& 31) = nI (p / 36) := by
  have := ch_nm_lt h
  rw [pk_shrN (by omega) ((6 : Int32) &&& 31) 6 (by decide)]
  unfold ch_nm
  exact congrArg nI (by omega)
theorem ch_nmA {p : Nat} (h : p < 1296) : nI (ch_nm p) &&& 63 = nI (p % 36) := by
  have := ch_nm_lt h
  rw [pk_andN (by omega) 6 (by decide)]
  unfold ch_nm
  exact congrArg nI (by omega)
theorem cx_isEndRow {post : Int32 → Prop} {t : Nat} (ht : t < 36) (H : post (ch_bI (decide (t < 6 ∨ 30 ≤ t)))) : wpX_isEndRow post (nI t) := by
  unfold wpX_isEndRow
  obtain ⟨-, -, r3, r4⟩ := ch_t_row t ht
  by_cases h6 : t < 6
  · rw [decide_eq_true (Or.inl h6)] at H; exact br_t (r3.mpr h6) H
  · refine br_f (fun q => h6 (r3.mp q)) ?_
    by_cases h30 : 30 ≤ t
    · rw [decide_eq_true (Or.inr h30)] at H; exact br_f (Int32.not_lt.mpr (r4.mpr h30)) H
    · rw [decide_eq_false (by omega)] at H; exact br_t (Int32.not_le.mp fun q => h30 (r4.mp q)) H
theorem cx_worthOf {post : Int32 → Prop} {c : Int32} (hc : ch_ok c) (H : post (ch_wt c)) : wpX_worthOf post c := by
  refine cx_kindOf hc ?_
  unfold ch_wt at H
  by_cases z : c = 0
  · rw [z, ch_kd_0] at H ⊢; exact br_t (by decide) H
  · rcases ch_kd_ne hc z with k | k | k | k | k | k <;> rw [k] at H ⊢
    · exact br_f (by decide) (br_f (by decide) (br_t rfl H))
    · exact br_f (by decide) (br_f (by decide) (br_f (by decide) (br_t rfl H)))
    · exact br_f (by decide) (br_f (by decide) (br_f (by decide) (br_f (by decide) (br_t rfl H))))
    · exact br_f (by decide) (br_f (by decide) (br_f (by decide) (br_f (by decide) (br_f (by decide) (br_t rfl H)))))
    · exact br_f (by decide) (br_f (by decide) (br_f (by decide) (br_f (by decide) (br_f (by decide) (br_f (by decide) (br_t rfl H))))))
    · exact br_f (by decide) (br_t (by decide) H)
section
variable {xg xm xh xr : Int32} {b xp xq xt xv xk xz : Nat → Int32}
theorem cx_cl_l {post : Int32 → SX → Prop} {s : Nat} (hs : s < 2) (hO : ch_Ok b) (hK : ch_K1 b) : ∀ (l : List Nat) (i q n : Nat), ch_Rl (ch_lg b s) q = l → i + l.length < 2304 → l.length < n → post (nI (i + l.length)) (xg, nI s, xh, xr, b, xp, xq, xt, xv, xk, xz) → wX_countLegal_10 post n (nI i) (ch_hX l) (nI i) xg (nI s) xh xr b xp xq xt xv xk xz := by
  intro l
  induction l with
  | nil =>
    intro i q n hq hi hn H
    obtain ⟨m, rfl⟩ : ∃ m, n = m + 1 := ⟨n - 1, by omega⟩
    exact br_f (nI_ge (b := 2304) (by omega) (by decide)) (br_t rfl H)
  | cons p r ih =>
    intro i q n hq hi hn H
    obtain ⟨m, rfl⟩ : ∃ m, n = m + 1 := ⟨n - 1, by omega⟩
    obtain ⟨-, h2, -, h4, -⟩ := ch_Rcons _ _ rfl p r hq
    simp only [List.length_cons] at hi hn H
    refine br_f (nI_ge (b := 2304) (by omega) (by decide)) (br_f (ch_nm_ne h2) (nm_r (nI_1 i) (cx_nl_p hs hO hK h2 ?_)))
    rw [← h4]
    refine nm_r (nI_1 i) (ih (i + 1) (p + 1) m h4.symm (by omega) (by omega) ?_)
    rw [show i + 1 + r.length = i + (r.length + 1) by omega]
    exact H
theorem ch_L_le (b : Nat → Int32) (s : Nat) : (ch_L b s).length ≤ 1296 := by
  unfold ch_L
  rw [ch_Rlen0]
  exact ch_ct_le _ _
theorem cx_countLegal {post : Int32 → SX → Prop} {s : Nat} (hs : s < 2) (hO : ch_Ok b) (hK : ch_K1 b) (H : post (nI (ch_L b s).length) (xg, nI s, xh, xr, b, xp, xq, xt, xv, xk, xz)) : wpX_countLegal post (xg, nI s, xh, xr, b, xp, xq, xt, xv, xk, xz) := by
  have h1 := ch_L_le b s
  refine cx_nl_0 hs hO hK ⟨1297, cx_cl_l hs hO hK (ch_L b s) 0 0 1297 rfl (by omega) (by omega) ?_⟩
  rw [Nat.zero_add]
  exact H
theorem cx_kp_l {post : SX → Prop} {h : Nat} (hh : h ≤ 60) (H : post (xg, xm, nI h, xr, b, ch_kp xp b h 36, xq, xt, xv, xk, xz)) : ∀ d j, j + d = 36 → wX_keepPosition_2 post xg xm (nI h) xr (d + 1) (nI j) b (ch_kp xp b h j) xq xt xv xk xz := by
  intro d
  induction d with
  | zero =>
    intro j hj
    have e : j = 36 := by omega
    subst e
    exact br_t (nI_le (Nat.le_refl 36) (by decide)) H
  | succ d ih =>
    intro j hj
    have cl : (nI j).toNatClampNeg = j := nI_clamp (by omega)
    refine br_f (nI_ge (b := 36) (by omega) (by decide)) ⟨vp_in_nI (by omega) (by decide), by rw [ch_ix]; exact vp_in_nI (by omega) (by decide), nm_r (e' := ch_kp xp b h (j + 1)) ?_ (nm_r (nI_1 j) (ih (j + 1) (by omega)))⟩
    rw [ch_ix, nI_clamp (by omega), cl, ch_kp_s]
theorem cx_keepPosition {post : SX → Prop} {h : Nat} (hh : h ≤ 60) (H : post (xg, xm, nI h, xr, b, ch_kp xp b h 36, xq, xt, xv, xk, xz)) : wpX_keepPosition post (xg, xm, nI h, xr, b, xp, xq, xt, xv, xk, xz) := by
  have h1 := cx_kp_l hh H 36 0 rfl
  rw [ch_kp_0] at h1
  exact ⟨37, h1⟩
theorem cx_sa_l {post : Int32 → Prop} {k : Nat} (hk : k ≤ 60) (H : post (ch_bI (ch_eq xp b k))) : ∀ d j, j + d = 36 → (∀ i, i < j → xp (36 * k + i) = b i) → wX_stoodAfter_2 post (nI k) xg xm xh xr b xp xq xt xv xk xz (d + 1) (nI j) := by
  intro d
  induction d with
  | zero =>
    intro j hj h0
    have e : j = 36 := by omega
    subst e
    rw [ch_eq_iff.mpr h0] at H
    exact br_t (nI_le (Nat.le_refl 36) (by decide)) H
  | succ d ih =>
    intro j hj h0
    have cl : (nI j).toNatClampNeg = j := nI_clamp (by omega)
    refine br_f (nI_ge (b := 36) (by omega) (by decide)) ⟨by rw [ch_ix]; exact vp_in_nI (by omega) (by decide), vp_in_nI (by omega) (by decide), ek_if (d := xp (36 * k + j) = b j) (by rw [ch_ix, nI_clamp (by omega), cl]) (fun z => nm_r (nI_1 j) (ih (j + 1) (by omega) fun i hi => ?_)) (fun z => ?_)⟩
    · by_cases e : i = j
      · rw [e]; exact z
      · exact h0 i (by omega)
    · have e2 : ch_eq xp b k = false := by
        cases hc : ch_eq xp b k with
        | false => rfl
        | true => exact absurd (ch_eq_iff.mp hc j (by omega)) z
      rw [e2] at H
      exact H
theorem cx_stoodAfter {post : Int32 → Prop} {k : Nat} (hk : k ≤ 60) (H : post (ch_bI (ch_eq xp b k))) : wpX_stoodAfter post (xg, xm, xh, xr, b, xp, xq, xt, xv, xk, xz) (nI k) := ⟨37, cx_sa_l hk H 36 0 rfl (fun i hi => absurd hi (Nat.not_lt_zero i))⟩
theorem cx_ts_l {post : Int32 → Prop} : ∀ n k a, k < 2 * n → k ≤ 60 → post (nI (a + ch_st (ch_eq xp b) k)) → wX_timesStood_7 post xg xm xh xr b xp xq xt xv xk xz (n + 1) (nI a) (nI k) := by
  intro n
  induction n with
  | zero => intro k a hk; omega
  | succ n ih =>
    intro k a hk h60 H
    have hend : ∀ a x, x < (0 : Int32) → post (nI a) → wX_timesStood_7 post xg xm xh xr b xp xq xt xv xk xz (n + 1) (nI a) x := fun a x hx hp => br_t hx hp
    refine br_f (nI_pos (by omega)) (cx_stoodAfter h60 ?_)
    have key : ∀ a', a' = a + ch_b1 (ch_eq xp b k) → ∀ x : Int32, x = nI k + (-2) → wX_timesStood_7 post xg xm xh xr b xp xq xt xv xk xz (n + 1) (nI a') x := by
      intro a' ea x ex
      have h3 : k = 0 ∨ k = 1 ∨ ∃ j, k = j + 2 := by
        by_cases a0 : k = 0
        · exact Or.inl a0
        · by_cases a1 : k = 1
          · exact Or.inr (Or.inl a1)
          · exact Or.inr (Or.inr ⟨k - 2, by omega⟩)
      rcases h3 with e | e | ⟨j, e⟩
      · subst e; rw [ea]; exact hend _ _ (by rw [ex]; decide) H
      · subst e; rw [ea]; exact hend _ _ (by rw [ex]; decide) H
      · subst e
        rw [ex, ch_dn2]
        refine ih j a' (by omega) (by omega) ?_
        rw [ea, Nat.add_assoc]
        exact H
    cases he : ch_eq xp b k with
    | false => exact br_t rfl (key a (by rw [he]; rfl))
    | true => exact br_f (by decide) (nm_r (nI_1 a) (key (a + 1) (by rw [he]; rfl)))
theorem cx_timesStood {post : Int32 → Prop} {h : Nat} (hh : h ≤ 60) (H : post (nI (ch_st (ch_eq xp b) h))) : wpX_timesStood post (xg, xm, nI h, xr, b, xp, xq, xt, xv, xk, xz) := by
  have h1 := cx_ts_l (xg := xg) (xm := xm) (xh := nI h) (xr := xr) (xq := xq) (xt := xt) (xv := xv) (xk := xk) (xz := xz) (post := post) (xp := xp) (b := b) 61 h 0 (by omega) hh (by rw [Nat.zero_add]; exact H)
  exact ⟨62, h1⟩
theorem ch_st_le (e : Nat → Bool) : ∀ n k, k ≤ n → ch_st e k ≤ k + 1 := by
  have hb : ∀ x, ch_b1 x ≤ 1 := by intro x; cases x <;> decide
  intro n
  induction n with
  | zero => intro k hk; have : k = 0 := by omega
            subst this; have := hb (e 0); simp only [ch_st]; omega
  | succ n ih =>
    intro k hk
    match k, hk with
    | 0, _ => have := hb (e 0); simp only [ch_st]; omega
    | 1, _ => have := hb (e 1); simp only [ch_st]; omega
    | k + 2, hk => have h1 := hb (e (k + 2)); have h2 := ih k (by omega); simp only [ch_st]; omega
theorem cx_way {post : Int32 → SX → Prop} {s h q : Nat} (hs : s < 2) (hO : ch_Ok b) (hK : ch_K1 b) (hh : h ≤ 60) (hq : q ≤ 60) (eq : xq h = nI q) (H : post (ch_ov b s h (ch_st (ch_eq xp b) h) q) (xg, nI s, nI h, xr, b, xp, xq, xt, xv, xk, xz)) : wpX_wayOfBeingOver post (xg, nI s, nI h, xr, b, xp, xq, xt, xv, xk, xz) := by
  have ch : (nI h).toNatClampNeg = h := nI_clamp (by omega)
  refine cx_nl_0 hs hO hK ?_
  unfold ch_ov at H
  by_cases e : ch_L b s = []
  · rw [if_pos e] at H
    refine br_t (by rw [e]; rfl) (cx_inCheck hs hO hK ?_)
    cases hc : ch_ck b s with
    | true => rw [hc] at H; exact br_f (by decide) H
    | false => rw [hc] at H; exact br_t rfl H
  · rw [if_neg e] at H
    refine br_f (fun z => e ((ch_hX_nil (fun p hp => ch_Rl_lt p hp)).mp z)) (cx_timesStood hh ?_)
    have hst := ch_st_le (ch_eq xp b) h h (Nat.le_refl h)
    by_cases h3 : 3 ≤ ch_st (ch_eq xp b) h
    · rw [if_pos h3] at H
      exact br_f (nI_nlt (b := 3) h3 (by omega)) H
    · rw [if_neg h3] at H
      refine br_t (nI_lt (b := 3) (by omega) (by decide)) ⟨vp_in_nI (by omega) (by decide), ?_⟩
      rw [ch, eq]
      by_cases h20 : 20 ≤ q
      · rw [if_pos h20] at H
        exact br_f (nI_nlt (b := 20) h20 (by omega)) H
      · rw [if_neg h20] at H
        refine br_t (nI_lt (b := 20) (by omega) (by decide)) ?_
        by_cases h6 : 60 ≤ h
        · rw [if_pos h6] at H
          exact br_f (nI_nlt (b := 60) h6 (by omega)) H
        · rw [if_neg h6] at H
          exact br_t (nI_lt (b := 60) (by omega) (by decide)) H
theorem cx_play {post : SX → Prop} {s p L : Nat} (hs : s < 2) (hO : ch_Ok b) (hp : p < 1296) (hL : L < 4)
    (H : post (xg, nI (1 - s), xh, xr, ch_pp b s p, xp, xq, upd xt L (nI (ch_nm p)), upd xv L (b (p / 36)), upd xk L (b (p % 36)), xz)) : wpX_play post (xg, nI s, xh, xr, b, xp, xq, xt, xv, xk, xz) (nI L) (nI (ch_nm p)) := by
  have hf : p / 36 < 36 := by omega
  have ht : p % 36 < 36 := by omega
  have cf : (nI (p / 36)).toNatClampNeg = p / 36 := nI_clamp (by omega)
  have ct : (nI (p % 36)).toNatClampNeg = p % 36 := nI_clamp (by omega)
  have cL : (nI L).toNatClampNeg = L := nI_clamp (by omega)
  have vL : vp_in (nI L) 4 := vp_in_nI hL (by decide)
  have vf : vp_in (nI (p / 36)) 36 := vp_in_nI hf (by decide)
  have vt : vp_in (nI (p % 36)) 36 := vp_in_nI ht (by decide)
  have h102 : wX_play_102 post (ch_pc b s (p / 36) (p % 36)) (nI (p % 36)) xg (nI s) xh xr (upd b (p / 36) 0) xp xq (upd xt L (nI (ch_nm p))) (upd xv L (b (p / 36))) (upd xk L (b (p % 36))) xz :=
    ⟨vt, nm_r (e' := ch_pp b s p) (by rw [ct]; rfl) (nm_r (ch_s4 hs) H)⟩
  have h68 : ¬ (ch_kd (b (p / 36)) = 1 ∧ (p % 36 < 6 ∨ 30 ≤ p % 36)) → wX_play_68 post (nI (p / 36)) (nI (p % 36)) (b (p / 36)) xg (nI s) xh xr b xp xq (upd xt L (nI (ch_nm p))) (upd xv L (b (p / 36))) (upd xk L (b (p % 36))) xz := by
    intro hn
    unfold ch_pc at h102
    rw [if_neg hn] at h102
    exact ⟨vf, nm_r (e' := upd b (p / 36) 0) (by rw [cf]) (br_t rfl h102)⟩
  refine nm_r (ch_nmS hp) (nm_r (ch_nmA hp) ⟨vf, nm_r (e' := b (p / 36)) (congrArg b cf) ⟨vL, nm_r (e' := upd xt L (nI (ch_nm p))) (by rw [cL]) ⟨vL, nm_r (e' := upd xv L (b (p / 36))) (by rw [cL]) ⟨vt, vL, nm_r (e' := upd xk L (b (p % 36))) (by rw [cL, ct]) (cx_kindOf (hO _ hf) ?_)⟩⟩⟩⟩)
  by_cases k : ch_kd (b (p / 36)) = 1
  · refine br_t k (cx_isEndRow ht ?_)
    by_cases e : p % 36 < 6 ∨ 30 ≤ p % 36
    · rw [decide_eq_true e]
      refine br_f (by decide) ⟨vf, nm_r (e' := upd b (p / 36) 0) (by rw [cf]) (br_f (by decide) ?_)⟩
      unfold ch_pc at h102
      rw [if_pos ⟨k, e⟩] at h102
      unfold wpX_pieceOf
      rw [ch_qX hs]
      exact h102
    · rw [decide_eq_false e]
      exact br_t rfl (h68 fun q => e q.2)
  · exact br_f k (h68 fun q => k q.1)
theorem cx_takeBack {post : SX → Prop} {s p L : Nat} (hm : (1 : Int32) - xm = nI s) (hp : p < 1296) (hL : L < 4) (et : xt L = nI (ch_nm p))
    (H : post (xg, nI s, xh, xr, upd (upd b (p / 36) (xv L)) (p % 36) (xk L), xp, xq, xt, xv, xk, xz)) : wpX_takeBack post (xg, xm, xh, xr, b, xp, xq, xt, xv, xk, xz) (nI L) := by
  have hf : p / 36 < 36 := by omega
  have ht : p % 36 < 36 := by omega
  have cf : (nI (p / 36)).toNatClampNeg = p / 36 := nI_clamp (by omega)
  have ct : (nI (p % 36)).toNatClampNeg = p % 36 := nI_clamp (by omega)
  have cL : (nI L).toNatClampNeg = L := nI_clamp (by omega)
  have vL : vp_in (nI L) 4 := vp_in_nI hL (by decide)
  exact ⟨vL, nm_r (e' := nI (ch_nm p)) (by rw [cL]; exact et) ⟨vL, by rw [ch_nmS hp]; exact vp_in_nI hf (by decide), nm_r (e' := upd b (p / 36) (xv L)) (by rw [ch_nmS hp, cf, cL]) ⟨vL, by rw [ch_nmA hp]; exact vp_in_nI ht (by decide), nm_r (e' := upd (upd b (p / 36) (xv L)) (p % 36) (xk L)) (by rw [ch_nmA hp, ct, cL]) (nm_r hm H)⟩⟩⟩
theorem cx_bl_l {post : Int32 → Prop} {s : Nat} (hs : s < 2) (hO : ch_Ok b) (H : post (ch_bl b s)) : ∀ d j, j + d = 36 → wX_balance_4 post xg (nI s) xh xr b xp xq xt xv xk xz (d + 1) (ch_sb b s j) (nI j) := by
  intro d
  induction d with
  | zero =>
    intro j hj
    have e : j = 36 := by omega
    subst e
    exact br_t (nI_le (Nat.le_refl 36) (by decide)) H
  | succ d ih =>
    intro j hj
    have cl : (nI j).toNatClampNeg = j := nI_clamp (by omega)
    have h1 := ih (j + 1) (by omega)
    simp only [ch_sb] at h1
    refine br_f (nI_ge (b := 36) (by omega) (by decide)) ⟨vp_in_nI (by omega) (by decide), nm_r (e' := b j) (congrArg b cl) (cx_worthOf (hO j (by omega)) (cx_ownerOf (ek_if (ch_owX (hO j (by omega)) hs) (fun z => ?_) (fun z => ?_))))⟩
    · rw [if_pos z] at h1
      exact nm_e (nm_r (nI_1 j) h1)
    · rw [if_neg z, Int32.sub_eq_add_neg] at h1
      exact nm_e (nm_r (nI_1 j) h1)
theorem cx_balance {post : Int32 → Prop} {s : Nat} (hs : s < 2) (hO : ch_Ok b) (H : post (ch_bl b s)) : wpX_balance post (xg, nI s, xh, xr, b, xp, xq, xt, xv, xk, xz) := ⟨37, cx_bl_l hs hO H 36 0 rfl⟩
theorem cx_ak_l {post : Int32 → Prop} {s k : Nat} (hs : s < 2) (hO : ch_Ok b) (hk : k < 36) (H : post (nI (ch_aa b k s))) : ∀ d j, j + d = 36 → wX_attackers_21 post (nI k) (nI s) xg xm xh xr b xp xq xt xv xk xz (d + 1) (nI (ch_ct (fun f => ch_ow (b f) s && ch_at b f k) j)) (nI j) := by
  intro d
  induction d with
  | zero =>
    intro j hj
    have e : j = 36 := by omega
    subst e
    exact br_t (nI_le (Nat.le_refl 36) (by decide)) H
  | succ d ih =>
    intro j hj
    have cl : (nI j).toNatClampNeg = j := nI_clamp (by omega)
    have h1 := ih (j + 1) (by omega)
    refine br_f (nI_ge (b := 36) (by omega) (by decide)) ⟨vp_in_nI (by omega) (by decide), ?_⟩
    rw [cl]
    refine cx_ownerOf (ek_if (ch_owX (hO j (by omega)) hs) (fun z => cx_attacks (by omega) hk (hO j (by omega)) ?_) (fun z => nm_r (nI_1 j) ?_))
    · cases ha : ch_at b j k with
      | false =>
        rw [ch_ct_f (by simp [ha])] at h1
        exact br_t rfl (nm_r (nI_1 j) h1)
      | true =>
        rw [ch_ct_t (by simp [ha, z])] at h1
        exact br_f (by decide) (nm_r (nI_1 _) (nm_r (nI_1 j) h1))
    · rw [ch_ct_f (by simp [z])] at h1
      exact h1
end
