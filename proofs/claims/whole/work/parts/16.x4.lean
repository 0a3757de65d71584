/-! the component: moveAt, mobile, looking ahead -/
/-- the latest number tried at a level, and where the moves that are left begin -/
def ch_tr (b : Nat → Int32) (s : Nat) (x : Int32) (q : Nat) : Prop := (x = -1 ∧ q = 0) ∨ ∃ p, p < 1296 ∧ x = nI (ch_nm p) ∧ q = p + 1 ∧ ch_lg b s p = true
theorem ch_tr_0 {b : Nat → Int32} {s : Nat} : ch_tr b s (-1) 0 := Or.inl ⟨rfl, rfl⟩
theorem ch_tr_p {b : Nat → Int32} {s p : Nat} (hp : p < 1296) (hg : ch_lg b s p = true) : ch_tr b s (nI (ch_nm p)) (p + 1) := Or.inr ⟨p, hp, rfl, rfl, hg⟩
theorem ch_tr_end {b : Nat → Int32} {s q : Nat} {x : Int32} (h : ch_tr b s x q) (e : ch_Rl (ch_lg b s) q = []) : x = -1 ↔ ch_L b s = [] := by
  rcases h with ⟨h1, h2⟩ | ⟨p, h1, h2, h3, h4⟩
  · subst h2; exact ⟨fun _ => e, fun _ => h1⟩
  · constructor
    · intro z; rw [h2] at z; exact absurd z (ch_nm_ne h1)
    · intro z
      have := ch_Rnil _ 0 rfl z p (by omega) h1
      rw [h4] at this
      cases this
theorem ch_ct_const {p : Nat → Bool} {a c : Nat} (h : a ≤ c) (hp : ∀ t, a ≤ t → t < c → p t = false) : ch_ct p c = ch_ct p a := by
  obtain ⟨d, rfl⟩ : ∃ d, c = a + d := ⟨c - a, by omega⟩
  induction d with
  | zero => rfl
  | succ d ih =>
    rw [← Nat.add_assoc, ch_ct_f (hp (a + d) (by omega) (by omega))]
    exact ih (by omega) fun t h1 h2 => hp t h1 (by omega)
section
variable {xg xm xh xr : Int32} {b xp xq xt xv xk xz : Nat → Int32}
theorem cx_nl_t {post : Int32 → SX → Prop} {s q : Nat} {x : Int32} (hs : s < 2) (hO : ch_Ok b) (hK : ch_K1 b) (h : ch_tr b s x q) (H : post (ch_hX (ch_Rl (ch_lg b s) q)) (xg, nI s, xh, xr, b, xp, xq, xt, xv, xk, xz)) : wpX_nextLegal post (xg, nI s, xh, xr, b, xp, xq, xt, xv, xk, xz) x := by
  rcases h with ⟨h1, h2⟩ | ⟨p, h1, h2, h3, -⟩
  · subst h1; subst h2; exact cx_nl_0 hs hO hK H
  · subst h2; subst h3; exact cx_nl_p hs hO hK h1 H
theorem cx_ma_l {post : Int32 → SX → Prop} {s j : Nat} (hs : s < 2) (hO : ch_Ok b) (hK : ch_K1 b) (hj : j < 2 ^ 31) : ∀ (l : List Nat) (i q n : Nat), ch_Rl (ch_lg b s) q = l → l.length < n → i ≤ j → post (ch_nt l (j - i)) (xg, nI s, xh, xr, b, xp, xq, xt, xv, xk, xz) → wX_moveAt_24 post (nI j) n (ch_hX l) (nI i) xg (nI s) xh xr b xp xq xt xv xk xz := by
  intro l
  induction l with
  | nil =>
    intro i q n hq hn hi H
    obtain ⟨m, rfl⟩ : ∃ m, n = m + 1 := ⟨n - 1, by omega⟩
    exact br_c (fun _ => br_t rfl H) (fun _ => br_t rfl (br_t rfl H))
  | cons p r ih =>
    intro i q n hq hn hi H
    obtain ⟨m, rfl⟩ : ∃ m, n = m + 1 := ⟨n - 1, by omega⟩
    obtain ⟨-, h2, -, h4, -⟩ := ch_Rcons _ _ rfl p r hq
    simp only [List.length_cons] at hn
    by_cases e : i = j
    · subst e
      rw [Nat.sub_self] at H
      exact br_t (nI_le (Nat.le_refl i) hj) (br_f (ch_nm_ne h2) H)
    · refine br_f (nI_ge (by omega) hj) (br_f (ch_nm_ne h2) (cx_nl_p hs hO hK h2 ?_))
      rw [← h4]
      refine nm_r (nI_1 i) (ih (i + 1) (p + 1) m h4.symm (by omega) (by omega) ?_)
      rw [show j - i = (j - (i + 1)) + 1 by omega] at H
      exact H
theorem cx_mo_l {post : Int32 → SX → Prop} {s f : Nat} (hs : s < 2) (hO : ch_Ok b) (hK : ch_K1 b) (hf : f < 36) (H : post (nI (ch_ct (ch_lp b s f) 36)) (xg, nI s, xh, xr, b, xp, xq, xt, xv, xk, xz)) : ∀ d i q, i + d = 36 → 36 * f ≤ q → q ≤ 36 * f + 36 → i = ch_ct (ch_lp b s f) (q - 36 * f) → wX_mobile_34 post (nI f) (d + 1) (nI i) (ch_hX (ch_Rl (ch_lg b s) q)) (nI i) xg (nI s) xh xr b xp xq xt xv xk xz := by
  have key : ∀ t, t < 36 → ch_lg b s (36 * f + t) = ch_lp b s f t := by
    intro t ht
    unfold ch_lg
    rw [show (36 * f + t) / 36 = f by omega, show (36 * f + t) % 36 = t by omega]
  intro d
  induction d with
  | zero =>
    intro i q hi h1 h2 h3
    have h4 := ch_ct_le (ch_lp b s f) (q - 36 * f)
    have e : q - 36 * f = 36 := by omega
    rw [e] at h3
    rw [← h3] at H
    exact br_t (nI_le (show 36 ≤ i by omega) (by omega)) H
  | succ d ih =>
    intro i q hi h1 h2 h3
    refine br_f (nI_ge (b := 36) (by omega) (by decide)) ?_
    have stop : (∀ t, q - 36 * f ≤ t → t < 36 → ch_lp b s f t = false) → post (nI i) (xg, nI s, xh, xr, b, xp, xq, xt, xv, xk, xz) := by
      intro h
      rw [ch_ct_const (by omega) h, ← h3] at H
      exact H
    cases hr : ch_Rl (ch_lg b s) q with
    | nil =>
      refine br_f ?_ (stop fun t a c => ?_)
      · show ¬ (-1 : Int32) >>> ((6 : Int32) &&& 31) = nI f
        intro z
        have z2 : ((-1 : Int32) >>> ((6 : Int32) &&& 31)).toInt = (nI f).toInt := congrArg Int32.toInt z
        rw [nI_toInt (by omega), show ((-1 : Int32) >>> ((6 : Int32) &&& 31)).toInt = -1 by decide] at z2
        omega
      · rw [← key t c]
        exact ch_Rnil _ q rfl hr _ (by omega) (by omega)
    | cons p r =>
      obtain ⟨g1, g2, g3, g4, g5⟩ := ch_Rcons _ _ rfl p r hr
      by_cases e : p / 36 = f
      · refine br_t ((ch_nmS g2).trans (by rw [e])) (nm_r (nI_1 i) (cx_nl_p hs hO hK g2 (nm_r (nI_1 i) (ih (i + 1) (p + 1) (by omega) (by omega) (by omega) ?_))))
        have c1 : ch_ct (ch_lp b s f) (p - 36 * f) = ch_ct (ch_lp b s f) (q - 36 * f) := ch_ct_const (by omega) fun t a c => by
          rw [← key t (by omega)]; exact g5 _ (by omega) (by omega)
        have c2 : ch_lp b s f (p - 36 * f) = true := by
          rw [← key _ (by omega), show 36 * f + (p - 36 * f) = p by omega]; exact g3
        rw [show p + 1 - 36 * f = (p - 36 * f) + 1 by omega, ch_ct_t c2, c1]
        omega
      · refine br_f (fun z => e ((nI_eq (by omega) (by omega)).mp ((ch_nmS g2).symm.trans z))) (stop fun t a c => ?_)
        rw [← key t c]
        exact g5 _ (by omega) (by omega)
/-- the value of a level -/
theorem cx_vol_0 {post : Int32 → Prop} {s D : Nat} {x0 : Int32} (hs : s < 2) (hO : ch_Ok b) (H : post (ch_bl b s)) : wpX_valueOfLevel post (xg, nI s, xh, xr, b, xp, xq, xt, xv, xk, xz) x0 (nI D - nI D) := by
  rw [pk_sub (Nat.le_refl D), Nat.sub_self]
  exact br_t nI_0 (cx_balance hs hO H)
theorem cx_vol_s {post : Int32 → Prop} {s D L : Nat} (hs : s < 2) (hO : ch_Ok b) (hK : ch_K1 b) (hL : L < D) (hD : D ≤ 3) (H : post (if xt L = -1 then ch_no (D - L) b s else xz L)) : wpX_valueOfLevel post (xg, nI s, xh, xr, b, xp, xq, xt, xv, xk, xz) (nI L) (nI D - nI L) := by
  have cL : (nI L).toNatClampNeg = L := nI_clamp (by omega)
  have vL : vp_in (nI L) 4 := vp_in_nI (by omega) (by decide)
  rw [pk_sub (by omega)]
  refine br_f (nI_ne0 (by omega) (by omega)) ⟨vL, ?_⟩
  rw [cL]
  by_cases z : xt L = -1
  · rw [if_pos z] at H
    refine br_t z (cx_inCheck hs hO hK ?_)
    unfold ch_no at H
    cases hc : ch_ck b s with
    | true => rw [hc, if_pos rfl] at H; exact br_f (by decide) H
    | false => rw [hc, if_neg (by decide)] at H; exact br_t rfl H
  · rw [if_neg z] at H
    exact br_f z ⟨vL, H⟩
/-- back to the level below with the value x -/
theorem cx_up {post : Int32 → SX → Prop} {J : Int32 → Int32 → Int32 → Int32 → Int32 → Int32 → (Nat → Int32) → (Nat → Int32) → (Nat → Int32) → (Nat → Int32) → (Nat → Int32) → (Nat → Int32) → (Nat → Int32) → Prop} {D L r s p : Nat} {x : Int32} (hv : ∀ post' : Int32 → Prop, post' x → wpX_valueOfLevel post' (xg, xm, xh, xr, b, xp, xq, xt, xv, xk, xz) (nI (L + 1)) (nI D - nI (L + 1))) (hL : L < 4) (hm : (1 : Int32) - xm = nI s) (hp : p < 1296) (et : xt L = nI (ch_nm p))
    (H : J (nI L) (nI (r + 1)) xg (nI s) xh (if L = 0 then (if xz L < -x then nI (ch_nm p) else xr) else xr) (upd (upd b (p / 36) (xv L)) (p % 36) (xk L)) xp xq xt xv xk (upd xz L (if xz L < -x then -x else xz L))) : wX_lookAhead_39 post J (nI D) (nI (L + 1)) (nI r) (-1) xg xm xh xr b xp xq xt xv xk xz := by
  have cL : (nI L).toNatClampNeg = L := nI_clamp (by omega)
  have vL : vp_in (nI L) 4 := vp_in_nI hL (by decide)
  refine br_t rfl (hv _ (br_f (nI_ne0 (by omega) (by omega)) (nm_r (e' := nI L) (pk_m1 L) (cx_takeBack hm hp hL et ⟨vL, ?_⟩))))
  rw [cL]
  by_cases g : xz L < -x
  · refine br_f (Int32.not_le.mpr g) ⟨vL, nm_r (e' := upd xz L (-x)) rfl ?_⟩
    rw [if_pos g, if_pos g] at H
    by_cases z : L = 0
    · rw [if_pos z] at H
      refine br_t (by rw [z]; rfl) (nm_r (e' := nI (ch_nm p)) ?_ (nm_r (nI_1 r) H))
      rw [← et, z]
    · rw [if_neg z] at H
      exact br_f (nI_ne0 (by omega) (by omega)) (nm_r (nI_1 r) H)
  · rw [if_neg g, if_neg g, ch_upd_self] at H
    have H2 : J (nI L) (nI (r + 1)) xg (nI s) xh xr (upd (upd b (p / 36) (xv L)) (p % 36) (xk L)) xp xq xt xv xk xz := by
      by_cases z : L = 0
      · rw [if_pos z] at H; exact H
      · rw [if_neg z] at H; exact H
    exact br_t (Int32.not_lt.mp g) (nm_r (nI_1 r) H2)
end
section
variable {xg xh xr : Int32} {b xp xq xt xv xk xz : Nat → Int32}
theorem cx_openLevel {post : SX → Prop} {xm : Int32} {L : Nat} (hL : L < 4) (H : post (xg, xm, xh, xr, b, xp, xq, upd xt L (-1), xv, xk, upd xz L (-1000000))) : wpX_openLevel post (xg, xm, xh, xr, b, xp, xq, xt, xv, xk, xz) (nI L) := by
  have cL : (nI L).toNatClampNeg = L := nI_clamp (by omega)
  have vL : vp_in (nI L) 4 := vp_in_nI hL (by decide)
  exact ⟨vL, nm_r (e' := upd xt L (-1)) (by rw [cL]) ⟨vL, nm_r (e' := upd xz L (-1000000)) (by rw [cL]) H⟩⟩
theorem cx_down {post : Int32 → SX → Prop} {D m L r s q p : Nat} {rest : List Nat} (hs : s < 2) (hO : ch_Ok b) (hK : ch_K1 b) (hD : D ≤ 3) (hL : L < D) (hr : r < 100000000) (ht : ch_tr b s (xt L) q) (er : ch_Rl (ch_lg b s) q = p :: rest)
    (H : wX_lookAhead_14 post (nI D) m (nI (L + 1)) (nI (r + 1)) xg (nI (1 - s)) xh xr (ch_pp b s p) xp xq (upd (upd xt L (nI (ch_nm p))) (L + 1) (-1)) (upd xv L (b (p / 36))) (upd xk L (b (p % 36))) (upd xz (L + 1) (-1000000))) :
    wX_lookAhead_14 post (nI D) (m + 1) (nI L) (nI r) xg (nI s) xh xr b xp xq xt xv xk xz := by
  have cL : (nI L).toNatClampNeg = L := nI_clamp (by omega)
  obtain ⟨-, hp, hg, -, -⟩ := ch_Rcons _ _ rfl p rest er
  refine br_f (nI_ge (b := 100000000) hr (by decide)) (br_f (nI_ge (by omega) (by omega)) ⟨vp_in_nI (by omega) (by decide), ?_⟩)
  rw [cL]
  refine cx_nl_t hs hO hK ht ?_
  rw [er]
  exact br_f (ch_nm_ne hp) (cx_play hs hO hp (by omega) (nm_r (nI_1 L) (cx_openLevel (by omega) (nm_r (nI_1 r) H))))
theorem cx_none {post : Int32 → SX → Prop} {D m L r s q : Nat} (hs : s < 2) (hO : ch_Ok b) (hK : ch_K1 b) (hD : D ≤ 3) (hL : L < D) (hr : r < 100000000) (ht : ch_tr b s (xt L) q) (er : ch_Rl (ch_lg b s) q = [])
    (H : wX_lookAhead_39 post (wX_lookAhead_14 post (nI D) m) (nI D) (nI L) (nI r) (-1) xg (nI s) xh xr b xp xq xt xv xk xz) :
    wX_lookAhead_14 post (nI D) (m + 1) (nI L) (nI r) xg (nI s) xh xr b xp xq xt xv xk xz := by
  have cL : (nI L).toNatClampNeg = L := nI_clamp (by omega)
  refine br_f (nI_ge (b := 100000000) hr (by decide)) (br_f (nI_ge (by omega) (by omega)) ⟨vp_in_nI (by omega) (by decide), ?_⟩)
  rw [cL]
  refine cx_nl_t hs hO hK ht ?_
  rw [er]
  exact H
theorem cx_leaf {post : Int32 → SX → Prop} {xm : Int32} {D m r : Nat} (hD : D ≤ 3) (hr : r < 100000000)
    (H : wX_lookAhead_39 post (wX_lookAhead_14 post (nI D) m) (nI D) (nI D) (nI r) (-1) xg xm xh xr b xp xq xt xv xk xz) :
    wX_lookAhead_14 post (nI D) (m + 1) (nI D) (nI r) xg xm xh xr b xp xq xt xv xk xz :=
  br_f (nI_ge (b := 100000000) hr (by decide)) (br_t (nI_le (Nat.le_refl D) (by omega)) H)
end
def ch_XC (post : Int32 → SX → Prop) (D d : Nat) (xg xh : Int32) (xp xq : Nat → Int32) : Prop :=
  ∀ (L s p r n : Nat) (b xt xv xk xz : Nat → Int32) (xr : Int32), D = L + 1 + d → s < 2 → ch_Ok b → ch_K1 b → p < 1296 → ch_lg b s p = true → xt L = nI (ch_nm p) → xv L = b (p / 36) → xk L = b (p % 36) → xt (L + 1) = -1 → xz (L + 1) = -1000000 →
    r + ch_T d (ch_pp b s p) (1 - s) < 100000000 → n + r = 100000001 →
    (∀ n' xt' xv' xk' xz', n' + (r + ch_T d (ch_pp b s p) (1 - s)) = 100000001 → ch_e1 (L + 1) xt xt' → ch_e1 (L + 1) xv xv' → ch_e1 (L + 1) xk xk' → ch_e1 L xz xz' → xz' L = (if xz L < -ch_w d b s p then -ch_w d b s p else xz L) →
      wX_lookAhead_14 post (nI D) n' (nI L) (nI (r + ch_T d (ch_pp b s p) (1 - s))) xg (nI s) xh (if L = 0 then (if xz L < -ch_w d b s p then nI (ch_nm p) else xr) else xr) b xp xq xt' xv' xk' xz') →
    wX_lookAhead_14 post (nI D) n (nI (L + 1)) (nI r) xg (nI (1 - s)) xh xr (ch_pp b s p) xp xq xt xv xk xz
theorem ch_pp_Ok {b : Nat → Int32} {s p : Nat} (hp : p < 1296) (hO : ch_Ok b) : ch_Ok (ch_pp b s p) := ch_Ok_pl hO (by omega)
theorem ch_pp_K1 {b : Nat → Int32} {s p : Nat} (hp : p < 1296) (hK : ch_K1 b) : ch_K1 (ch_pp b s p) := ch_K1_pl hK (by omega)
theorem cx_ch0 {post : Int32 → SX → Prop} {D : Nat} {xg xh : Int32} {xp xq : Nat → Int32} (hD : D ≤ 3) : ch_XC post D 0 xg xh xp xq := by
  intro L s p r n b xt xv xk xz xr eD hs hO hK hp hg et ev ek et1 ez1 hr hn K
  obtain ⟨m, rfl⟩ : ∃ m, n = m + 1 := ⟨n - 1, by omega⟩
  have eT0 : ch_T 0 (ch_pp b s p) (1 - s) = 1 := rfl
  rw [eT0] at hr K
  have eL : D = L + 1 := by omega
  subst eL
  refine cx_leaf hD (by omega) (cx_up (x := ch_w 0 b s p) (s := s) (p := p) (fun post' h => cx_vol_0 (by omega) (ch_pp_Ok hp hO) h) (by omega) (ch_mu hs) hp et ?_)
  rw [ev, ek, ch_back_pp hp hg]
  exact K m xt xv xk _ (by omega) ch_e1_r ch_e1_r ch_e1_r (ch_e1_u (Nat.le_refl L)) pk_us
theorem cx_row {post : Int32 → SX → Prop} {D d : Nat} {xg xh : Int32} {xp xq : Nat → Int32} (hD : D ≤ 3) (hC : ch_XC post D d xg xh xp xq) {L s : Nat} {b : Nat → Int32} (eD : D = L + 1 + d) (hs : s < 2) (hO : ch_Ok b) (hK : ch_K1 b) :
    ∀ (rest : List Nat) (q r n : Nat) (xt xv xk xz : Nat → Int32) (xr : Int32), ch_Rl (ch_lg b s) q = rest → ch_tr b s (xt L) q → r + ch_sm (fun p => 1 + ch_T d (ch_pp b s p) (1 - s)) rest < 100000000 → n + r = 100000001 →
    (∀ n' q' xt' xv' xk' xz', n' + (r + ch_sm (fun p => 1 + ch_T d (ch_pp b s p) (1 - s)) rest) = 100000001 → ch_tr b s (xt' L) q' → ch_Rl (ch_lg b s) q' = [] → ch_e1 L xt xt' → ch_e1 L xv xv' → ch_e1 L xk xk' → ch_e1 L xz xz' → xz' L = ch_mx (ch_w d b s) (xz L) rest →
      wX_lookAhead_14 post (nI D) n' (nI L) (nI (r + ch_sm (fun p => 1 + ch_T d (ch_pp b s p) (1 - s)) rest)) xg (nI s) xh (if L = 0 then ch_bm (ch_w d b s) (xz L) xr rest else xr) b xp xq xt' xv' xk' xz') →
    wX_lookAhead_14 post (nI D) n (nI L) (nI r) xg (nI s) xh xr b xp xq xt xv xk xz := by
  intro rest
  induction rest with
  | nil =>
    intro q r n xt xv xk xz xr er ht hr hn K
    have K := K n q xt xv xk xz (by simp only [ch_sm]; omega) ht er ch_e1_r ch_e1_r ch_e1_r ch_e1_r rfl
    simp only [ch_sm, ch_bm, Nat.add_zero, ite_self] at K
    exact K
  | cons p rest ih =>
    intro q r n xt xv xk xz xr er ht hr hn K
    obtain ⟨-, hp, hg, e4, -⟩ := ch_Rcons _ _ rfl p rest er
    obtain ⟨m, rfl⟩ : ∃ m, n = m + 1 := ⟨n - 1, by omega⟩
    simp only [ch_sm] at hr K
    refine cx_down hs hO hK hD (by omega) (by omega) ht er ?_
    refine hC L s p (r + 1) m b _ _ _ _ xr eD hs hO hK hp hg ?_ pk_us pk_us pk_us pk_us (by omega) (by omega) ?_
    · rw [pk_un (by omega), pk_us]
    · intro n' xt' xv' xk' xz' hn' e1 e2 e3 e5 e6
      rw [pk_un (show L ≠ L + 1 by omega)] at e6
      refine ih (p + 1) _ n' xt' xv' xk' xz' _ e4.symm ?_ (by omega) hn' ?_
      · rw [e1 L (by omega), pk_un (by omega), pk_us]; exact ch_tr_p hp hg
      · intro n2 q2 xt2 xv2 xk2 xz2 hn2 ht2 er2 a1 a2 a3 a4 a5
        have ef : r + 1 + ch_T d (ch_pp b s p) (1 - s) + ch_sm (fun p => 1 + ch_T d (ch_pp b s p) (1 - s)) rest = r + (1 + ch_T d (ch_pp b s p) (1 - s) + ch_sm (fun p => 1 + ch_T d (ch_pp b s p) (1 - s)) rest) := by omega
        have K := K n2 q2 xt2 xv2 xk2 xz2 (by omega) ht2 er2 ?_ ?_ ?_ ?_ ?_
        · rw [ef]
          have eb : (if L = 0 then ch_bm (ch_w d b s) (xz L) xr (p :: rest) else xr) = (if L = 0 then ch_bm (ch_w d b s) (xz' L) (if L = 0 then (if upd xz (L + 1) (-1000000) L < -ch_w d b s p then nI (ch_nm p) else xr) else xr) rest else (if L = 0 then (if upd xz (L + 1) (-1000000) L < -ch_w d b s p then nI (ch_nm p) else xr) else xr)) := by
            by_cases z : L = 0
            · rw [if_pos z, if_pos z, if_pos z, e6, pk_un (show L ≠ L + 1 by omega)]
              rfl
            · rw [if_neg z, if_neg z, if_neg z]
          rw [← eb]
          exact K
        · exact ch_e1_t (ch_e1_t (ch_e1_u (Nat.le_refl L)) (ch_e1_u (by omega))) (ch_e1_t (ch_e1_m e1 (by omega)) a1)
        · exact ch_e1_t (ch_e1_u (Nat.le_refl L)) (ch_e1_t (ch_e1_m e2 (by omega)) a2)
        · exact ch_e1_t (ch_e1_u (Nat.le_refl L)) (ch_e1_t (ch_e1_m e3 (by omega)) a3)
        · exact ch_e1_t (ch_e1_t (ch_e1_u (by omega)) e5) a4
        · rw [a5, e6]; rfl
theorem ch_finX {d : Nat} (hd : d ≤ 2) (b : Nat → Int32) (s : Nat) {x : Int32} (hx : x = -1 ↔ ch_L b s = []) : (if x = -1 then ch_no (d + 1) b s else ch_mx (ch_w d b s) (-1000000) (ch_L b s)) = ch_v (d + 1) b s := by
  cases hl : ch_L b s with
  | nil => rw [if_pos (hx.mpr hl), ch_v_nil hl]
  | cons p r =>
    have hw : ∀ q, ch_in (ch_w d b s q) := fun q => ch_v_in d (by omega) _ _
    have e : ch_mx (ch_w d b s) (-1000000) (p :: r) = ch_mx (ch_w d b s) (-ch_w d b s p) r := by
      simp only [ch_mx]
      rw [if_pos (ch_in_gt (hw p)).2.1]
    rw [e, ch_v_cons hl, if_neg]
    intro z
    rw [hx.mp z] at hl
    cases hl
theorem cx_chs {post : Int32 → SX → Prop} {D d : Nat} {xg xh : Int32} {xp xq : Nat → Int32} (hD : D ≤ 3) (hC : ch_XC post D d xg xh xp xq) : ch_XC post D (d + 1) xg xh xp xq := by
  intro L s p r n b xt xv xk xz xr eD hs hO hK hp hg et ev ek et1 ez1 hr hn K
  have hO2 : ch_Ok (ch_pp b s p) := ch_pp_Ok hp hO
  have hK2 : ch_K1 (ch_pp b s p) := ch_pp_K1 hp hK
  have eT1 : ch_T (d + 1) (ch_pp b s p) (1 - s) = 1 + ch_sm (fun q => 1 + ch_T d (ch_pp (ch_pp b s p) (1 - s) q) (1 - (1 - s))) (ch_L (ch_pp b s p) (1 - s)) := rfl
  rw [eT1] at hr K
  refine cx_row (L := L + 1) hD hC (by omega) (by omega) hO2 hK2 (ch_L (ch_pp b s p) (1 - s)) 0 r n xt xv xk xz xr rfl (by rw [et1]; exact ch_tr_0) (by omega) hn ?_
  intro n' q' xt' xv' xk' xz' hn' ht' er' a1 a2 a3 a4 a5
  obtain ⟨m, rfl⟩ : ∃ m, n' = m + 1 := ⟨n' - 1, by omega⟩
  rw [if_neg (show ¬ L + 1 = 0 by omega)]
  have hv : (if xt' (L + 1) = -1 then ch_no (D - (L + 1)) (ch_pp b s p) (1 - s) else xz' (L + 1)) = ch_w (d + 1) b s p := by
    rw [a5, ez1, show D - (L + 1) = d + 1 by omega]
    exact ch_finX (by omega) _ _ (ch_tr_end ht' er')
  refine cx_none (by omega) hO2 hK2 hD (by omega) (by omega) ht' er' (cx_up (x := ch_w (d + 1) b s p) (s := s) (p := p) (fun post' h => cx_vol_s (by omega) hO2 hK2 (by omega) hD (by rw [hv]; exact h)) (by omega) (ch_mu hs) hp (by rw [a1 L (by omega)]; exact et) ?_)
  rw [a2 L (by omega), a3 L (by omega), ev, ek, ch_back_pp hp hg]
  have ezL : xz' L = xz L := a4 L (by omega)
  have K := K m xt' xv' xk' (upd xz' L (if xz' L < -ch_w (d + 1) b s p then -ch_w (d + 1) b s p else xz' L)) (by omega) a1 a2 a3 (ch_e1_t (ch_e1_m a4 (by omega)) (ch_e1_u (Nat.le_refl L))) (by rw [pk_us, ezL])
  rw [ezL] at K ⊢
  rw [show r + ch_sm (fun q => 1 + ch_T d (ch_pp (ch_pp b s p) (1 - s) q) (1 - (1 - s))) (ch_L (ch_pp b s p) (1 - s)) + 1 = r + (1 + ch_sm (fun q => 1 + ch_T d (ch_pp (ch_pp b s p) (1 - s) q) (1 - (1 - s))) (ch_L (ch_pp b s p) (1 - s))) by omega]
  exact K
theorem cx_ch {post : Int32 → SX → Prop} {D : Nat} {xg xh : Int32} {xp xq : Nat → Int32} (hD : D ≤ 3) : ∀ d, ch_XC post D d xg xh xp xq := by
  intro d
  induction d with
  | zero => exact cx_ch0 hD
  | succ d ih => exact cx_chs hD ih
