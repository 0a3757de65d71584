/-! the reference: the search -/
theorem ch_upd_self (a : Nat → Int32) (k : Nat) : upd a k (a k) = a := by
  funext i
  unfold upd
  by_cases e : i = k
  · rw [if_pos e, e]
  · rw [if_neg e]
theorem ch_num {p : Nat} (hp : p < 1296) : (64 * ((nI (p + 1) - 1) / 36)) + ((nI (p + 1) - 1) - (nI (p + 1) - 1) / 36 * 36) = nI (ch_nm p) := by
  rw [nI_pred, ch_r36 hp, ch_d36 hp, show (64 : Int32) = nI 64 from rfl, pk_mul, nI_add]
  rfl
section
variable {yg ym yh yl ya yb : Int32} {b yF yT yM yC yp yt yz : Nat → Int32}
theorem cy_goBack {post : SY → Prop} {s f t h L p : Nat} (hm : (1 : Int32) - ym = nI s) (hf : f < 36) (ht : t < 36) (hh : h < 70) (eF : yF h = nI f) (eT : yT h = nI t) (hL : L < 4) (hp : p < 1296) (e0 : L = 0 → yt 0 = nI (p + 1))
    (H : post (yg, nI s, nI h, yl, ya, (if L = 0 then (if yz L < -ya then nI (ch_nm p) else yb) else yb), upd (upd b f (yM h)) t (yC h), yF, yT, yM, yC, yp, yt, upd yz L (if yz L < -ya then -ya else yz L))) : wpY_goBack post (yg, ym, nI (h + 1), yl, ya, yb, b, yF, yT, yM, yC, yp, yt, yz) (nI L) := by
  have cL : (nI L).toNatClampNeg = L := nI_clamp (by omega)
  have vL : vp_in (nI L) 4 := vp_in_nI hL (by decide)
  refine br_t (nI_pos' (by omega)) (cy_undoMove hm hf ht hh eF eT ⟨vL, ?_⟩)
  rw [cL]
  by_cases g : yz L < -ya
  · refine br_f (Int32.not_le.mpr g) ⟨vL, nm_r (e' := upd yz L (-ya)) rfl ?_⟩
    rw [if_pos g, if_pos g] at H
    by_cases z : L = 0
    · rw [if_pos z] at H
      refine br_t (by rw [z]; rfl) ⟨by decide, by decide, nm_r (e' := nI (ch_nm p)) ?_ H⟩
      rw [e0 z]
      exact ch_num hp
    · rw [if_neg z] at H
      exact br_f (nI_ne0 (by omega) (by omega)) H
  · rw [if_neg g, if_neg g, ch_upd_self] at H
    have H2 : post (yg, nI s, nI h, yl, ya, yb, upd (upd b f (yM h)) t (yC h), yF, yT, yM, yC, yp, yt, yz) := by
      by_cases z : L = 0
      · rw [if_pos z] at H; exact H
      · rw [if_neg z] at H; exact H
    exact br_t (Int32.not_lt.mp g) H2
/-- the end of a level: back to the level below -/
theorem cy_182 {post : SY → Prop} {W : Int32 → Int32 → Int32 → Int32 → Int32 → Int32 → Int32 → Int32 → (Nat → Int32) → (Nat → Int32) → (Nat → Int32) → (Nat → Int32) → (Nat → Int32) → (Nat → Int32) → (Nat → Int32) → (Nat → Int32) → Prop} {x1 : Int32} {s f t h L p r : Nat} (hm : (1 : Int32) - ym = nI s) (hf : f < 36) (ht : t < 36) (hh : h < 70) (eF : yF h = nI f) (eT : yT h = nI t) (hL : L < 4) (hp : p < 1296) (e0 : L = 0 → yt 0 = nI (p + 1))
    (H : W (nI L) (nI (r + 1)) yg (nI s) (nI h) yl ya (if L = 0 then (if yz L < -ya then nI (ch_nm p) else yb) else yb) (upd (upd b f (yM h)) t (yC h)) yF yT yM yC yp yt (upd yz L (if yz L < -ya then -ya else yz L))) : wY_search_182 post W x1 (nI (L + 1)) (nI r) yg ym (nI (h + 1)) yl ya yb b yF yT yM yC yp yt yz :=
  nm_r (e' := nI L) (pk_m1 L) (cy_goBack hm hf ht hh eF eT hL hp e0 (nm_r (nI_1 r) H))
end
section
variable {yg yl ya yb : Int32} {b yF yT yM yC yp yt yz : Nat → Int32}
theorem cy_step {post : SY → Prop} {D m L r h s : Nat} (hs : s < 2) (hO : ch_Ok b) (hL : L < 4) (hr : r < 1000000) (hh : h < 70) :
    (L = D → wY_search_67 post (wY_search_36 post (nI D) m) (nI D) (nI L) (nI r) 1296 yg (nI s) (nI h) yl ya yb b yF yT yM yC yp yt yz) → (L < D → D ≤ 3 → ∃ q, q ≤ 1296 ∧ yt L = nI q ∧ ∀ F T M C, ch_e4 h yF yT yM yC F T M C → wY_search_67 post (wY_search_36 post (nI D) m) (nI D) (nI L) (nI r) (nI (ch_hY (ch_Rl (ch_lg b s) q))) yg (nI s) (nI h) yl ya yb b F T M C yp yt yz) → L ≤ D → D ≤ 3 → wY_search_36 post (nI D) (m + 1) (nI L) (nI r) yg (nI s) (nI h) yl ya yb b yF yT yM yC yp yt yz := by
  intro h1 h2 hLD hD
  have cL : (nI L).toNatClampNeg = L := nI_clamp (by omega)
  refine br_f (nI_ge (b := 1000000) hr (by decide)) (br_f (nI_pos (by omega)) ?_)
  by_cases e : L = D
  · exact br_t (by rw [e]) (h1 e)
  · obtain ⟨q, q1, q2, q3⟩ := h2 (by omega) hD
    refine br_f (fun z => e ((nI_eq (by omega) (by omega)).mp z)) ⟨vp_in_nI hL (by decide), ?_⟩
    rw [cL, q2]
    exact cy_nextLegal hs hO hh q1 q3
/-- a move is made -/
theorem cy_down {post : SY → Prop} {D m L r h s q p : Nat} {rest : List Nat} (hs : s < 2) (hO : ch_Ok b) (hD : D ≤ 3) (hL : L < D) (hr : r < 1000000) (hh : h < 70) (hq : q ≤ 1296) (eq : yt L = nI q) (er : ch_Rl (ch_lg b s) q = p :: rest)
    (H : ∀ F T M C, ch_e4 h yF yT yM yC F T M C → wY_search_36 post (nI D) m (nI (L + 1)) (nI (r + 1)) yg (nI (1 - s)) (nI (h + 1)) yl ya yb (ch_pp b s p) (upd F h (nI (p / 36))) (upd T h (nI (p % 36))) (upd M h (b (p / 36))) (upd C h (b (p % 36))) yp (upd (upd yt L (nI (p + 1))) (L + 1) 0) (upd yz (L + 1) (-5000))) :
    wY_search_36 post (nI D) (m + 1) (nI L) (nI r) yg (nI s) (nI h) yl ya yb b yF yT yM yC yp yt yz := by
  have cL : (nI L).toNatClampNeg = L := nI_clamp (by omega)
  have cL1 : (nI (L + 1)).toNatClampNeg = L + 1 := nI_clamp (by omega)
  have vL : vp_in (nI L) 4 := vp_in_nI (by omega) (by decide)
  have vL1 : vp_in (nI (L + 1)) 4 := vp_in_nI (by omega) (by decide)
  obtain ⟨-, hp, hg, -, -⟩ := ch_Rcons _ _ rfl p rest er
  obtain ⟨p1, p2, p3⟩ := ch_lg_in hp hg
  refine cy_step hs hO (by omega) hr hh (fun e => by omega) (fun _ _ => ⟨q, hq, eq, fun F T M C e => ?_⟩) (by omega) hD
  rw [er]
  show wY_search_67 post (wY_search_36 post (nI D) m) (nI D) (nI L) (nI r) (nI p) yg (nI s) (nI h) yl ya yb b F T M C yp yt yz
  refine br_f (nI_ge (b := 1296) hp (by decide)) ⟨vL, nm_r (e' := upd yt L (nI (p + 1))) (by rw [cL, nI_1]) ⟨by decide, by decide, ?_⟩⟩
  rw [ch_r36 hp, ch_d36 hp]
  exact cy_doMove hs hO p1 p2 hh p3 (nm_r (nI_1 L) ⟨vL1, nm_r (e' := upd (upd yt L (nI (p + 1))) (L + 1) 0) (by rw [cL1]) ⟨vL1, nm_r (e' := upd yz (L + 1) (-5000)) (by rw [cL1]) (nm_r (nI_1 r) (H F T M C e))⟩⟩)
/-- no move is left -/
theorem cy_none {post : SY → Prop} {D m L r h s q : Nat} (hs : s < 2) (hO : ch_Ok b) (hD : D ≤ 3) (hL : L < D) (hr : r < 1000000) (hh : h < 70) (hq : q ≤ 1296) (eq : yt L = nI q) (er : ch_Rl (ch_lg b s) q = [])
    (H : ∀ F T M C, ch_e4 h yF yT yM yC F T M C → wY_search_182 post (wY_search_36 post (nI D) m) (nI D) (nI L) (nI r) yg (nI s) (nI h) yl (if yz L ≤ -5000 then ch_no (D - L) b s else yz L) yb b F T M C yp yt yz) :
    wY_search_36 post (nI D) (m + 1) (nI L) (nI r) yg (nI s) (nI h) yl ya yb b yF yT yM yC yp yt yz := by
  have cL : (nI L).toNatClampNeg = L := nI_clamp (by omega)
  have vL : vp_in (nI L) 4 := vp_in_nI (by omega) (by decide)
  refine cy_step hs hO (by omega) hr hh (fun e => by omega) (fun _ _ => ⟨q, hq, eq, fun F T M C e => ?_⟩) (by omega) hD
  rw [er]
  show wY_search_67 post (wY_search_36 post (nI D) m) (nI D) (nI L) (nI r) 1296 yg (nI s) (nI h) yl ya yb b F T M C yp yt yz
  have H := H F T M C e
  refine br_t (by decide) ?_
  rw [pk_sub (by omega)]
  have hne : ¬ nI L = nI D := fun z => by have := (nI_eq (by omega) (by omega)).mp z; omega
  refine cy_without hs hO ⟨vL, ?_⟩
  rw [cL]
  by_cases g : yz L ≤ -5000
  · rw [if_pos g] at H
    exact br_t g (br_f hne H)
  · rw [if_neg g] at H
    exact br_f g ⟨vL, br_f hne H⟩
/-- the last level: the balance -/
theorem cy_leaf {post : SY → Prop} {D m r h s : Nat} (hs : s < 2) (hO : ch_Ok b) (hD : D ≤ 3) (hr : r < 1000000) (hh : h < 70)
    (H : wY_search_182 post (wY_search_36 post (nI D) m) (nI D) (nI D) (nI r) yg (nI s) (nI h) (yl + 1) (ch_bl b s) yb b yF yT yM yC yp yt yz) :
    wY_search_36 post (nI D) (m + 1) (nI D) (nI r) yg (nI s) (nI h) yl ya yb b yF yT yM yC yp yt yz := by
  have cL : (nI D).toNatClampNeg = D := nI_clamp (by omega)
  have vL : vp_in (nI D) 4 := vp_in_nI (by omega) (by decide)
  refine cy_step hs hO (by omega) hr hh (fun _ => ?_) (fun z => by omega) (Nat.le_refl D) hD
  have h156 : ∀ z, wY_search_156 post (wY_search_36 post (nI D) m) (nI D) (nI D) (nI r) z yg (nI s) (nI h) yl ya yb b yF yT yM yC yp yt yz := fun z => br_t rfl (nm_e (cy_balance hs hO H))
  refine br_t (by decide) ?_
  rw [pk_sub (Nat.le_refl D)]
  refine cy_without hs hO ⟨vL, ?_⟩
  exact br_c (fun _ => h156 _) (fun _ => ⟨vL, h156 _⟩)
end
/-- what a child of depth d does: from its first step on to its parent's next -/
def ch_YC (post : SY → Prop) (D h d : Nat) (yg : Int32) (yp : Nat → Int32) : Prop :=
  ∀ (L s p r n : Nat) (b yF yT yM yC yt yz : Nat → Int32) (yl ya yb : Int32), D = L + 1 + d → s < 2 → ch_Ok b → p < 1296 → ch_lg b s p = true → yt 0 = yt 0 → (L = 0 → yt 0 = nI (p + 1)) → yt (L + 1) = 0 → yz (L + 1) = -5000 →
    yF (h + L) = nI (p / 36) → yT (h + L) = nI (p % 36) → yM (h + L) = b (p / 36) → yC (h + L) = b (p % 36) → r + ch_T d (ch_pp b s p) (1 - s) < 1000000 → n + r = 1000001 →
    (∀ n' F T M C ya' yt' yz', n' + (r + ch_T d (ch_pp b s p) (1 - s)) = 1000001 → ch_e4 (h + L) yF yT yM yC F T M C → ch_e1 (L + 1) yt yt' → ch_e1 L yz yz' → yz' L = (if yz L < -ch_w d b s p then -ch_w d b s p else yz L) →
      wY_search_36 post (nI D) n' (nI L) (nI (r + ch_T d (ch_pp b s p) (1 - s))) yg (nI s) (nI (h + L)) (yl + nI (ch_cn d (ch_pp b s p) (1 - s))) ya' (if L = 0 then (if yz L < -ch_w d b s p then nI (ch_nm p) else yb) else yb) b F T M C yp yt' yz') →
    wY_search_36 post (nI D) n (nI (L + 1)) (nI r) yg (nI (1 - s)) (nI (h + L + 1)) yl ya yb (ch_pp b s p) yF yT yM yC yp yt yz
theorem ch_back_pp {b : Nat → Int32} {s p : Nat} (hp : p < 1296) (hg : ch_lg b s p = true) : upd (upd (ch_pp b s p) (p / 36) (b (p / 36))) (p % 36) (b (p % 36)) = b := by
  obtain ⟨-, -, p3⟩ := ch_lg_in hp hg
  exact ch_back (ch_cg_ow p3).2.2
theorem cy_ch0 {post : SY → Prop} {D h : Nat} {yg : Int32} {yp : Nat → Int32} (hD : D ≤ 3) (hh : h ≤ 60) : ch_YC post D h 0 yg yp := by
  intro L s p r n b yF yT yM yC yt yz yl ya yb eD hs hO hp hg _ e0 et ez eF eT eM eC hr hn K
  obtain ⟨p1, p2, p3⟩ := ch_lg_in hp hg
  obtain ⟨m, rfl⟩ : ∃ m, n = m + 1 := ⟨n - 1, by omega⟩
  have eT0 : ch_T 0 (ch_pp b s p) (1 - s) = 1 := rfl
  rw [eT0] at hr K
  have eL : D = L + 1 := by omega
  subst eL
  refine cy_leaf (by omega) (ch_Ok_pl hO p1) hD (by omega) (by omega) (cy_182 (s := s) (h := h + L) (ch_mu hs) p1 p2 (by omega) eF eT (by omega) hp e0 ?_)
  rw [eM, eC, ch_back_pp hp hg]
  exact K m yF yT yM yC _ yt _ (by omega) ch_e4_r ch_e1_r (ch_e1_u (Nat.le_refl L)) pk_us
/-- the moves of a level, one after another -/
theorem cy_row {post : SY → Prop} {D h d : Nat} {yg : Int32} {yp : Nat → Int32} (hD : D ≤ 3) (hh : h ≤ 60) (hC : ch_YC post D h d yg yp) {L s : Nat} {b : Nat → Int32} (eD : D = L + 1 + d) (hs : s < 2) (hO : ch_Ok b) :
    ∀ (rest : List Nat) (q r n : Nat) (yF yT yM yC yt yz : Nat → Int32) (yl ya yb : Int32), ch_Rl (ch_lg b s) q = rest → q ≤ 1296 → yt L = nI q → r + ch_sm (fun p => 1 + ch_T d (ch_pp b s p) (1 - s)) rest < 1000000 → n + r = 1000001 →
    (∀ n' q' F T M C ya' yt' yz', n' + (r + ch_sm (fun p => 1 + ch_T d (ch_pp b s p) (1 - s)) rest) = 1000001 → q' ≤ 1296 → ch_Rl (ch_lg b s) q' = [] → ch_e4 (h + L) yF yT yM yC F T M C → ch_e1 L yt yt' → yt' L = nI q' → ch_e1 L yz yz' → yz' L = ch_mx (ch_w d b s) (yz L) rest →
      wY_search_36 post (nI D) n' (nI L) (nI (r + ch_sm (fun p => 1 + ch_T d (ch_pp b s p) (1 - s)) rest)) yg (nI s) (nI (h + L)) (yl + nI (ch_sm (fun p => ch_cn d (ch_pp b s p) (1 - s)) rest)) ya' (if L = 0 then ch_bm (ch_w d b s) (yz L) yb rest else yb) b F T M C yp yt' yz') →
    wY_search_36 post (nI D) n (nI L) (nI r) yg (nI s) (nI (h + L)) yl ya yb b yF yT yM yC yp yt yz := by
  intro rest
  induction rest with
  | nil =>
    intro q r n yF yT yM yC yt yz yl ya yb er hq et hr hn K
    have K := K n q yF yT yM yC ya yt yz (by simp only [ch_sm]; omega) hq er ch_e4_r ch_e1_r et ch_e1_r rfl
    simp only [ch_sm, ch_bm, Nat.add_zero, nI_0, Int32.add_zero, ite_self] at K
    exact K
  | cons p rest ih =>
    intro q r n yF yT yM yC yt yz yl ya yb er hq et hr hn K
    obtain ⟨-, hp, hg, e4, -⟩ := ch_Rcons _ _ rfl p rest er
    obtain ⟨m, rfl⟩ : ∃ m, n = m + 1 := ⟨n - 1, by omega⟩
    simp only [ch_sm] at hr K
    refine cy_down hs hO hD (by omega) (by omega) (by omega) hq et er fun F T M C e => ?_
    refine hC L s p (r + 1) m b _ _ _ _ _ _ yl ya yb eD hs hO hp hg rfl (fun z => ?_) pk_us pk_us pk_us pk_us pk_us pk_us (by omega) (by omega) ?_
    · subst z; rw [pk_un (by omega), pk_us]
    · intro n' F' T' M' C' ya' yt' yz' hn' e' e1 e2 e3
      rw [pk_un (show L ≠ L + 1 by omega)] at e3
      refine ih (p + 1) _ n' F' T' M' C' yt' yz' _ ya' _ e4.symm (by omega) ?_ (by omega) hn' ?_
      · rw [e1 L (by omega), pk_un (by omega), pk_us]
      · intro n2 q2 F2 T2 M2 C2 ya2 yt2 yz2 hn2 hq2 er2 a4 a1 a2 a3 a5
        have ef : r + 1 + ch_T d (ch_pp b s p) (1 - s) + ch_sm (fun p => 1 + ch_T d (ch_pp b s p) (1 - s)) rest = r + (1 + ch_T d (ch_pp b s p) (1 - s) + ch_sm (fun p => 1 + ch_T d (ch_pp b s p) (1 - s)) rest) := by omega
        have K := K n2 q2 F2 T2 M2 C2 ya2 yt2 yz2 (by omega) hq2 er2 (ch_e4_t e (ch_e4_t (ch_e4_u (Nat.le_refl _)) (ch_e4_t e' a4))) ?_ a2 ?_ ?_
        · rw [ef, Int32.add_assoc, nI_add]
          have eb : (if L = 0 then ch_bm (ch_w d b s) (yz L) yb (p :: rest) else yb) = (if L = 0 then ch_bm (ch_w d b s) (yz' L) (if L = 0 then (if upd yz (L + 1) (-5000) L < -ch_w d b s p then nI (ch_nm p) else yb) else yb) rest else (if L = 0 then (if upd yz (L + 1) (-5000) L < -ch_w d b s p then nI (ch_nm p) else yb) else yb)) := by
            by_cases z : L = 0
            · rw [if_pos z, if_pos z, if_pos z, e3, pk_un (show L ≠ L + 1 by omega)]
              rfl
            · rw [if_neg z, if_neg z, if_neg z]
          rw [← eb]
          exact K
        · exact ch_e1_t (ch_e1_t (ch_e1_u (Nat.le_refl L)) (ch_e1_u (by omega))) (ch_e1_t (ch_e1_m e1 (by omega)) a1)
        · exact ch_e1_t (ch_e1_t (ch_e1_u (by omega)) e2) a3
        · rw [a5, e3]; rfl
theorem ch_fin {d : Nat} (hd : d ≤ 2) (b : Nat → Int32) (s : Nat) : (if ch_mx (ch_w d b s) (-5000) (ch_L b s) ≤ -5000 then ch_no (d + 1) b s else ch_mx (ch_w d b s) (-5000) (ch_L b s)) = ch_v (d + 1) b s := by
  cases hl : ch_L b s with
  | nil => rw [if_pos (show ch_mx (ch_w d b s) (-5000) [] ≤ -5000 from Int32.le_refl _), ch_v_nil hl]
  | cons p r =>
    have hw : ∀ q, ch_in (ch_w d b s q) := fun q => ch_v_in d (by omega) _ _
    have e : ch_mx (ch_w d b s) (-5000) (p :: r) = ch_mx (ch_w d b s) (-ch_w d b s p) r := by
      simp only [ch_mx]
      rw [if_pos (ch_in_gt (hw p)).1]
    rw [e, ch_v_cons hl, if_neg]
    exact Int32.not_le.mpr (ch_in_gt (ch_mx_in hw r _ (ch_in_neg (hw p)))).2.2.1
theorem cy_chs {post : SY → Prop} {D h d : Nat} {yg : Int32} {yp : Nat → Int32} (hD : D ≤ 3) (hh : h ≤ 60) (hC : ch_YC post D h d yg yp) : ch_YC post D h (d + 1) yg yp := by
  intro L s p r n b yF yT yM yC yt yz yl ya yb eD hs hO hp hg _ e0 et ez eF eT eM eC hr hn K
  obtain ⟨p1, p2, p3⟩ := ch_lg_in hp hg
  have hO2 : ch_Ok (ch_pp b s p) := ch_Ok_pl hO p1
  have eT1 : ch_T (d + 1) (ch_pp b s p) (1 - s) = 1 + ch_sm (fun q => 1 + ch_T d (ch_pp (ch_pp b s p) (1 - s) q) (1 - (1 - s))) (ch_L (ch_pp b s p) (1 - s)) := rfl
  have eC1 : ch_cn (d + 1) (ch_pp b s p) (1 - s) = ch_sm (fun q => ch_cn d (ch_pp (ch_pp b s p) (1 - s) q) (1 - (1 - s))) (ch_L (ch_pp b s p) (1 - s)) := rfl
  rw [eT1] at hr K
  rw [eC1] at K
  refine cy_row (L := L + 1) hD hh hC (by omega) (by omega) hO2 (ch_L (ch_pp b s p) (1 - s)) 0 r n yF yT yM yC yt yz yl ya yb rfl (by omega) et (by omega) hn ?_
  intro n' q' F T M C ya' yt' yz' hn' hq' er' a4 a1 a2 a3 a5
  obtain ⟨m, rfl⟩ : ∃ m, n' = m + 1 := ⟨n' - 1, by omega⟩
  refine cy_none (by omega) hO2 hD (by omega) (by omega) (by omega) hq' a2 er' fun F2 T2 M2 C2 b4 => ?_
  rw [if_neg (show ¬ L + 1 = 0 by omega)]
  have hF : F2 (h + L) = nI (p / 36) := by rw [b4.1 (h + L) (by omega), a4.1 (h + L) (by omega), eF]
  have hT : T2 (h + L) = nI (p % 36) := by rw [b4.2.1 (h + L) (by omega), a4.2.1 (h + L) (by omega), eT]
  have hM : M2 (h + L) = b (p / 36) := by rw [b4.2.2.1 (h + L) (by omega), a4.2.2.1 (h + L) (by omega), eM]
  have hC2 : C2 (h + L) = b (p % 36) := by rw [b4.2.2.2 (h + L) (by omega), a4.2.2.2 (h + L) (by omega), eC]
  have hv : (if yz' (L + 1) ≤ -5000 then ch_no (D - (L + 1)) (ch_pp b s p) (1 - s) else yz' (L + 1)) = ch_w (d + 1) b s p := by
    rw [a5, ez, show D - (L + 1) = d + 1 by omega]
    exact ch_fin (by omega) _ _
  rw [hv]
  refine cy_182 (s := s) (h := h + L) (ch_mu hs) p1 p2 (by omega) hF hT (by omega) hp (fun z => ?_) ?_
  · rw [a1 0 (by omega)]; exact e0 z
  · rw [hM, hC2, ch_back_pp hp hg]
    have ezL : yz' L = yz L := a3 L (by omega)
    have K := K m F2 T2 M2 C2 (ch_w (d + 1) b s p) yt' (upd yz' L (if yz' L < -ch_w (d + 1) b s p then -ch_w (d + 1) b s p else yz' L)) (by omega) (ch_e4_t (ch_e4_m a4 (by omega)) (ch_e4_m b4 (by omega))) a1 (ch_e1_t (ch_e1_m a3 (by omega)) (ch_e1_u (Nat.le_refl L))) (by rw [pk_us, ezL])
    rw [ezL] at K ⊢
    rw [show r + ch_sm (fun q => 1 + ch_T d (ch_pp (ch_pp b s p) (1 - s) q) (1 - (1 - s))) (ch_L (ch_pp b s p) (1 - s)) + 1 = r + (1 + ch_sm (fun q => 1 + ch_T d (ch_pp (ch_pp b s p) (1 - s) q) (1 - (1 - s))) (ch_L (ch_pp b s p) (1 - s))) by omega]
    exact K
theorem cy_ch {post : SY → Prop} {D h : Nat} {yg : Int32} {yp : Nat → Int32} (hD : D ≤ 3) (hh : h ≤ 60) : ∀ d, ch_YC post D h d yg yp := by
  intro d
  induction d with
  | zero => exact cy_ch0 hD hh
  | succ d ih => exact cy_chs hD hh ih
