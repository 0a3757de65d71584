/-! the reference: attacks, check, moves -/
theorem ch_aY {post : Int32 → Prop} {A B : Prop} {x : Bool} (h2 : (A ∧ B) ↔ x = true) (h : post (ch_bI x)) : (A → ((B → post 1) ∧ (¬ B → post 0))) ∧ (¬ A → post 0) := by
  cases x with
  | true => have q := h2.mpr rfl; exact br_t q.1 (br_t q.2 h)
  | false => exact br_c (fun a => br_f (fun c => Bool.noConfusion (h2.mp ⟨a, c⟩)) h) (fun _ => h)
theorem ch_abX {P : Int32 → Prop} {x : Int32} (h : P (ch_ab x)) : (0 ≤ x → P x) ∧ (¬ 0 ≤ x → P (-x)) := by
  unfold ch_ab at h
  by_cases h1 : x < 0
  · rw [if_pos h1] at h; exact br_f (Int32.not_le.mpr h1) h
  · rw [if_neg h1] at h; exact br_t (Int32.not_lt.mp h1) h
theorem ch_q_next (f t i : Nat) : ch_qI f t i + ch_sp f t = ch_qI f t (i + 1) := by
  unfold ch_qI
  rw [← nI_1, Int32.add_mul, Int32.one_mul, Int32.add_assoc]
theorem ch_q_1 (f t : Nat) : nI f + ch_sp f t = ch_qI f t 1 := by
  unfold ch_qI
  rw [show nI 1 = 1 from rfl, Int32.one_mul]
/-- a pawn goes forward: the end row that it meets is its own -/
theorem ch_pc_eq {b : Nat → Int32} {s f t : Nat} (hs : s < 2) (hf : f < 36) (ht : t < 36) (hb : ch_ok (b f)) (hc : ch_cg b s f t = true) : ch_pc b s f t = if (b f = 1 ∧ 30 ≤ t) ∨ (b f = 9 ∧ t < 6) then b f + 4 else b f := by
  have ho := (ch_cg_ow hc).1
  have hg : ch_kd (b f) = 1 → (if s = 0 then t = f + 6 else f = t + 6) ∨ ch_pa (ch_sd (b f)) f t = true := by
    intro k
    unfold ch_cg at hc
    rw [Bool.and_eq_true, Bool.and_eq_true] at hc
    obtain ⟨-, -, h3⟩ := hc
    by_cases k2 : ch_kd (b f) = 1 ∧ b t = 0
    · rw [if_pos k2] at h3
      refine Or.inl ?_
      split at h3
      · rename_i e; rw [if_pos e]; exact of_decide_eq_true h3
      · rename_i e; rw [if_neg e]; exact of_decide_eq_true h3
    · rw [if_neg k2] at h3
      refine Or.inr ?_
      unfold ch_at at h3
      rw [if_pos k] at h3
      exact h3
  unfold ch_pc
  by_cases k : ch_kd (b f) = 1
  · have hg := hg k
    obtain ⟨e1, e2⟩ := ch_t_end f hf t ht
    rcases (ch_kd1 hb).mp k with c | c
    · have es : s = 0 := by
        rcases ch_s2 hs with e | e
        · exact e
        · rw [c, e] at ho; exact absurd ho (by decide)
      subst es
      rw [c] at hg k ⊢
      have hn : ¬ t < 6 := e1 (by rcases hg with g | g; exact Or.inl g; exact Or.inr g)
      by_cases h30 : 30 ≤ t
      · rw [if_pos ⟨k, Or.inr h30⟩, if_pos (Or.inl ⟨rfl, h30⟩)]; decide
      · rw [if_neg (by omega), if_neg (by omega)]
    · have es : s = 1 := by
        rcases ch_s2 hs with e | e
        · rw [c, e] at ho; exact absurd ho (by decide)
        · exact e
      subst es
      rw [c] at hg k ⊢
      have hn : ¬ 30 ≤ t := e2 (by rcases hg with g | g; exact Or.inl g; exact Or.inr g)
      by_cases h6 : t < 6
      · rw [if_pos ⟨k, Or.inl h6⟩, if_pos (Or.inr ⟨rfl, h6⟩)]; decide
      · rw [if_neg (by omega), if_neg (by omega)]
  · rw [if_neg (fun q => k q.1), if_neg]
    rintro (⟨c, -⟩ | ⟨c, -⟩)
    · exact k ((ch_kd1 hb).mpr (Or.inl c))
    · exact k ((ch_kd1 hb).mpr (Or.inr c))
section
variable {yg ym yh yl ya yb : Int32} {b yF yT yM yC yp yt yz : Nat → Int32}
theorem cy_sq_in {post : Int32 → Prop} {j : Nat} (hj : j < 36) (h : post 1) : wpY_isSquare post (yg, ym, yh, yl, ya, yb, b, yF, yT, yM, yC, yp, yt, yz) (nI j) :=
  br_f (nI_pos (by omega)) (br_f (nI_nlt (a := 35) (b := j) (by omega) (by decide)) h)
theorem cy_sq_out {post : Int32 → Prop} {x : Int32} (hx : x < 0 ∨ nI 36 ≤ x) (h : post 0) : wpY_isSquare post (yg, ym, yh, yl, ya, yb, b, yF, yT, yM, yC, yp, yt, yz) x := by
  unfold wpY_isSquare
  dsimp only
  by_cases h0 : x < 0
  · exact br_t h0 h
  · refine br_f h0 (br_t ?_ h)
    have h1 := hx.resolve_left h0
    exact Int32.lt_of_lt_of_le (show (35 : Int32) < nI 36 by decide) h1
theorem cy_kind {post : Int32 → Prop} {c : Int32} (h : post (ch_kd c)) : wpY_kind post (yg, ym, yh, yl, ya, yb, b, yF, yT, yM, yC, yp, yt, yz) c := by
  unfold wpY_kind
  dsimp only
  unfold ch_kd at h
  by_cases e : 8 < c
  · rw [if_pos e] at h; exact br_f (Int32.not_le.mpr e) h
  · rw [if_neg e] at h; exact br_t (Int32.not_lt.mp e) h
theorem cy_isOf {post : Int32 → Prop} {c : Int32} {s : Nat} (hs : s < 2) (h : post (ch_bI (ch_ow c s))) : wpY_isOf post (yg, ym, yh, yl, ya, yb, b, yF, yT, yM, yC, yp, yt, yz) c (nI s) := by
  unfold wpY_isOf
  dsimp only
  by_cases e : c = 0
  · rw [e, ch_ow_0] at h; exact br_t e h
  · refine br_f e ?_
    rcases ch_s2 hs with rfl | rfl
    · refine br_t nI_0 ?_
      by_cases e8 : c < 8
      · have q : ch_ow c 0 = true := by simp [ch_ow, e, e8]
        rw [q] at h
        exact br_f (Int32.not_le.mpr e8) h
      · have q : ch_ow c 0 = false := by simp [ch_ow, e, e8]
        rw [q] at h
        exact br_t (Int32.not_lt.mp e8) h
    · refine br_f (by decide) ?_
      by_cases e8 : 8 < c
      · have q : ch_ow c 1 = true := by simp [ch_ow, e8]
        rw [q] at h
        exact br_f (Int32.not_le.mpr e8) h
      · have q : ch_ow c 1 = false := by simp [ch_ow, e8]
        rw [q] at h
        exact br_t (Int32.not_lt.mp e8) h
theorem cy_pc_l {post : Int32 → Prop} (H : post (nI (ch_nz b))) : ∀ d j, j + d = 36 → wY_pieces_4 post yg ym yh yl ya yb b yF yT yM yC yp yt yz (d + 1) (nI (ch_ct (fun i => !decide (b i = 0)) j)) (nI j) := by
  intro d
  induction d with
  | zero =>
    intro j hj
    have e : j = 36 := by omega
    subst e
    exact br_t (nI_le (Nat.le_refl 36) (by decide)) H
  | succ d ih =>
    intro j hj
    have cl : (nI j).toNatClampNeg = j := nI_clamp (by omega)
    have h1 := ih (j + 1) (by omega)
    refine br_f (nI_ge (b := 36) (by omega) (by decide)) ⟨vp_in_nI (by omega) (by decide), ek_if (d := b j = 0) (by rw [cl]) (fun z => nm_r (nI_1 j) ?_) (fun z => nm_r (nI_1 _) (nm_r (nI_1 j) ?_))⟩
    · rw [ch_ct_f (by simp [z])] at h1; exact h1
    · rw [ch_ct_t (by simp [z])] at h1; exact h1
theorem cy_pieces {post : Int32 → Prop} (H : post (nI (ch_nz b))) : wpY_pieces post (yg, ym, yh, yl, ya, yb, b, yF, yT, yM, yC, yp, yt, yz) := ⟨37, cy_pc_l H 36 0 rfl⟩
theorem cy_sign {post : Int32 → Prop} {x : Int32} (h : post (ch_sg x)) : wpY_sign post (yg, ym, yh, yl, ya, yb, b, yF, yT, yM, yC, yp, yt, yz) x := by
  unfold wpY_sign
  dsimp only
  unfold ch_sg at h
  by_cases h1 : 0 < x
  · rw [if_pos h1] at h
    exact br_t (Int32.le_of_lt h1) (br_f (Int32.not_le.mpr h1) h)
  · rw [if_neg h1] at h
    by_cases h2 : x < 0
    · rw [if_pos h2] at h
      exact br_f (Int32.not_le.mpr h2) h
    · rw [if_neg h2] at h
      exact br_t (Int32.not_lt.mp h2) (br_t (Int32.not_lt.mp h1) h)
theorem cy_cl_l {post : Int32 → Prop} {f t : Nat} (hf : f < 36) (ht : t < 36) (hq : ch_qn f t = true) (H : post (ch_bI (ch_cl b f t))) : ∀ d j, j + 1 + d = ch_ln f t → (∀ i, 1 ≤ i → i < j + 1 → b (ch_sq f t i) = 0) → wY_isClear_26 post (nI t) (ch_sp f t) yg ym yh yl ya yb b yF yT yM yC yp yt yz (d + 1) (ch_qI f t (j + 1)) (nI j) := by
  have hl := (ch_t_ln f hf t ht).2.1
  intro d
  induction d with
  | zero =>
    intro j hj h3
    have e := (ch_t_to f hf t ht hq (j + 1) (by omega) (by omega)).mpr (by omega)
    have e2 : ch_cl b f t = true := ch_cl_iff.mpr fun i a c => h3 i a (by omega)
    rw [e2] at H
    exact br_f (nI_ge (b := 6) (by omega) (by decide)) (br_t e H)
  | succ d ih =>
    intro j hj h3
    have e : ¬ ch_qI f t (j + 1) = nI t := fun z => by have := (ch_t_to f hf t ht hq (j + 1) (by omega) (by omega)).mp z; omega
    have hs := ch_sq_lt (f := f) (t := t) (i := j + 1) hf ht (by omega)
    refine br_f (nI_ge (b := 6) (by omega) (by decide)) (br_f e ⟨hs.2.1, ?_⟩)
    by_cases z : b (ch_sq f t (j + 1)) = 0
    · refine br_t z (nm_r (ch_q_next f t (j + 1)) (nm_r (nI_1 j) (ih (j + 1) (by omega) fun i a c => ?_)))
      by_cases e3 : i = j + 1
      · rw [e3]; exact z
      · exact h3 i a (by omega)
    · have e2 : ch_cl b f t = false := by
        cases hc : ch_cl b f t with
        | false => rfl
        | true => exact absurd (ch_cl_iff.mp hc (j + 1) (by omega) (by omega)) z
      rw [e2] at H
      exact br_f z H
theorem cy_isClear {post : Int32 → Prop} {f t : Nat} (hf : f < 36) (ht : t < 36) (hq : ch_qn f t = true) (H : post (ch_bI (ch_lo b f t))) : wpY_isClear post (yg, ym, yh, yl, ya, yb, b, yF, yT, yM, yC, yp, yt, yz) (nI f) (nI t) (ch_R f t) (ch_C f t) := by
  have h0 : 0 < ch_ln f t := by
    have h1 := (ch_t_ln f hf t ht).2.2
    have h2 : ¬ f = t := by intro e; unfold ch_qn at hq; rw [decide_eq_true e] at hq; simp at hq
    omega
  have e : ch_lo b f t = ch_cl b f t := by unfold ch_lo; rw [decide_eq_true h0]; rfl
  rw [e] at H
  unfold wpY_isClear
  dsimp only
  refine cy_sign ?_
  refine cy_sign ?_
  refine nm_r (e' := ch_sp f t) ?_ (nm_r (e' := ch_qI f t 1) (ch_q_1 f t) ⟨ch_ln f t - 1 + 1, cy_cl_l hf ht hq H (ch_ln f t - 1) 0 (by omega) (fun i a c => by omega)⟩)
  unfold ch_sp
  rw [Int32.mul_comm]
theorem cy_at57 {post : Int32 → Prop} {f t : Nat} (hf : f < 36) (ht : t < 36) (hb : ch_ok (b f)) (H : post (ch_bI (ch_at b f t))) : wY_attacks_57 post (nI f) (nI t) (b f) (ch_R f t) (ch_C f t) (ch_ab (ch_R f t)) (ch_ab (ch_C f t)) yg ym yh yl ya yb b yF yT yM yC yp yt yz := by
  by_cases z : b f = 0
  · have e : ch_at b f t = false := by unfold ch_at; rw [z, ch_kd_0]; rfl
    rw [e] at H
    exact br_t z H
  · refine br_f z ?_
    by_cases ef : f = t
    · rw [← ef, ch_at_self hf] at H
      exact br_t (by rw [ef]) H
    · have en : ¬ nI f = nI t := fun q => ef ((nI_eq (by omega) (by omega)).mp q)
      refine br_f en (cy_kind ?_)
      have tdg := ch_t_dg f hf t ht
      have tsr := ch_t_sr f hf t ht
      rcases ch_kd_ne hb z with k | k | k | k | k | k
      · have e : ch_at b f t = ch_pa (ch_sd (b f)) f t := by unfold ch_at; rw [if_pos k]
        rw [k]
        rw [e] at H
        refine br_f (by decide) (br_f (by decide) (br_t rfl ?_))
        by_cases h8 : b f < 8
        · rw [(ch_sd8 (b f)).mp h8] at H
          exact br_f (Int32.not_le.mpr h8) (ch_aY (ch_t_pa0 f hf t ht) H)
        · have h1 : ch_sd (b f) = 1 := by unfold ch_sd; rw [if_neg h8]
          rw [h1] at H
          exact br_t (Int32.not_lt.mp h8) (ch_aY (ch_t_pa1 f hf t ht) H)
      · have e : ch_at b f t = ch_kn f t := by unfold ch_at; rw [k]; rfl
        rw [k]
        rw [e] at H
        exact br_f (by decide) (br_f (by decide) (br_f (by decide) (br_t rfl (ch_bX (ch_t_kn f hf t ht) H))))
      · have e : ch_at b f t = (ch_dg f t && ch_lo b f t) := by unfold ch_at; rw [k]; rfl
        rw [k]
        rw [e] at H
        refine br_f (by decide) (br_f (by decide) (br_f (by decide) (br_f (by decide) (br_t rfl ?_))))
        cases hd : ch_dg f t with
        | false => rw [hd] at H tdg; exact br_f (fun q => Bool.noConfusion (tdg.mp q)) H
        | true => rw [hd] at H tdg; exact br_t (tdg.mpr rfl) (cy_isClear hf ht (by unfold ch_qn; rw [hd]; simp [ef]) (ch_rX H))
      · have e : ch_at b f t = (ch_sr f t && ch_lo b f t) := by unfold ch_at; rw [k]; rfl
        rw [k]
        rw [e] at H
        refine br_f (by decide) (br_f (by decide) (br_f (by decide) (br_f (by decide) (br_f (by decide) (br_t rfl ?_)))))
        cases hd : ch_sr f t with
        | false =>
          rw [hd] at H tsr
          exact br_f (fun q => Bool.noConfusion (tsr.mp (Or.inl q))) (br_f (fun q => Bool.noConfusion (tsr.mp (Or.inr q))) H)
        | true =>
          rw [hd] at H tsr
          have h9 : wY_attacks_209 post (nI f) (nI t) (ch_R f t) (ch_C f t) yg ym yh yl ya yb b yF yT yM yC yp yt yz := cy_isClear hf ht (by unfold ch_qn; rw [hd]; simp [ef]) (ch_rX H)
          by_cases q : ch_ab (ch_R f t) = 0
          · exact br_t q h9
          · exact br_f q (br_t ((tsr.mpr rfl).resolve_left q) h9)
      · have e : ch_at b f t = ((ch_sr f t || ch_dg f t) && ch_lo b f t) := by unfold ch_at; rw [k]; rfl
        rw [k]
        rw [e] at H
        refine br_f (by decide) (br_f (by decide) (br_f (by decide) (br_f (by decide) (br_f (by decide) (br_f (by decide) (br_t rfl ?_))))))
        cases hq : (ch_sr f t || ch_dg f t) with
        | false =>
          rw [hq] at H
          rw [Bool.or_eq_false_iff] at hq
          rw [hq.1] at tsr
          rw [hq.2] at tdg
          exact br_f (fun q => Bool.noConfusion (tdg.mp q)) (br_f (fun q => Bool.noConfusion (tsr.mp (Or.inl q))) (br_f (fun q => Bool.noConfusion (tsr.mp (Or.inr q))) H))
        | true =>
          rw [hq] at H
          have h9 : wY_attacks_245 post (nI f) (nI t) (ch_R f t) (ch_C f t) yg ym yh yl ya yb b yF yT yM yC yp yt yz := cy_isClear hf ht (by unfold ch_qn; rw [hq]; simp [ef]) (ch_rX H)
          by_cases q1 : ch_ab (ch_R f t) = ch_ab (ch_C f t)
          · exact br_t q1 h9
          · refine br_f q1 ?_
            have hd : ch_dg f t = false := by
              cases hd : ch_dg f t with
              | false => rfl
              | true => exact absurd (tdg.mpr hd) q1
            rw [hd, Bool.or_false] at hq
            by_cases q : ch_ab (ch_R f t) = 0
            · exact br_t q h9
            · exact br_f q (br_t ((tsr.mpr hq).resolve_left q) h9)
      · have e : ch_at b f t = ch_kk f t := by unfold ch_at; rw [k]; rfl
        rw [k]
        rw [e] at H
        refine br_f (by decide) (br_f (by decide) (br_f (by decide) (br_f (by decide) (br_f (by decide) (br_f (by decide) (br_f (by decide) (br_t rfl ?_)))))))
        have tk := ch_t_kk f hf t ht ef
        cases hk : ch_kk f t with
        | true =>
          rw [hk] at H tk
          have q := tk.mpr rfl
          exact br_f (Int32.not_lt.mpr q.1) (br_f (Int32.not_lt.mpr q.2) H)
        | false =>
          rw [hk] at H tk
          exact br_c (fun _ => H) (fun q1 => br_c (fun _ => H) (fun q2 => Bool.noConfusion (tk.mp ⟨Int32.not_lt.mp q1, Int32.not_lt.mp q2⟩)))
theorem cy_attacks {post : Int32 → Prop} {f t : Nat} (hf : f < 36) (ht : t < 36) (hb : ch_ok (b f)) (H : post (ch_bI (ch_at b f t))) : wpY_attacks post (yg, ym, yh, yl, ya, yb, b, yF, yT, yM, yC, yp, yt, yz) (nI f) (nI t) := by
  have h57 := cy_at57 (yg := yg) (ym := ym) (yh := yh) (yl := yl) (ya := ya) (yb := yb) (yF := yF) (yT := yT) (yM := yM) (yC := yC) (yp := yp) (yt := yt) (yz := yz) hf ht hb H
  have h42 : wY_attacks_42 post (nI f) (nI t) (b f) (ch_R f t) (ch_C f t) (ch_ab (ch_R f t)) yg ym yh yl ya yb b yF yT yM yC yp yt yz := ch_abX (P := fun z => wY_attacks_57 post (nI f) (nI t) (b f) (ch_R f t) (ch_C f t) (ch_ab (ch_R f t)) z yg ym yh yl ya yb b yF yT yM yC yp yt yz) h57
  exact ⟨vp_in_nI hf (by decide), nm_r (e' := b f) (congrArg b (nI_clamp (by omega))) ⟨by decide, by decide, nm_r (e' := ch_R f t) rfl ⟨by decide, by decide, nm_r (e' := ch_C f t) rfl (ch_abX (P := fun z => wY_attacks_42 post (nI f) (nI t) (b f) (ch_R f t) (ch_C f t) z yg ym yh yl ya yb b yF yT yM yC yp yt yz) h42)⟩⟩⟩
end
