/-! check, moves, good boards: pure -/
def ch_an (p : Nat → Bool) (n : Nat) : Bool := decide (0 < ch_ct p n)
theorem ch_an_iff {p : Nat → Bool} {n : Nat} : ch_an p n = true ↔ ∃ i, i < n ∧ p i = true := by
  unfold ch_an
  simp only [decide_eq_true_eq]
  exact ch_ct_pos
def ch_aa (b : Nat → Int32) (k s : Nat) : Nat := ch_ct (fun f => ch_ow (b f) s && ch_at b f k) 36
/-- IN CHECK -/
def ch_ck (b : Nat → Int32) (s : Nat) : Bool := ch_an (fun k => decide (b k = ch_kg s) && decide (0 < ch_aa b k (1 - s))) 36
theorem ch_aa_iff {b : Nat → Int32} {k s : Nat} : 0 < ch_aa b k s ↔ ∃ f, f < 36 ∧ ch_ow (b f) s = true ∧ ch_at b f k = true := by
  unfold ch_aa
  rw [ch_ct_pos]
  simp only [Bool.and_eq_true]
theorem ch_ck_iff {b : Nat → Int32} {s : Nat} : ch_ck b s = true ↔ ∃ k, k < 36 ∧ b k = ch_kg s ∧ ∃ f, f < 36 ∧ ch_ow (b f) (1 - s) = true ∧ ch_at b f k = true := by
  unfold ch_ck
  rw [ch_an_iff]
  simp only [Bool.and_eq_true, decide_eq_true_eq, ch_aa_iff]
theorem ch_s2 {s : Nat} (hs : s < 2) : s = 0 ∨ s = 1 := by omega
theorem ch_s3 {s : Nat} (hs : s < 2) : 1 - (1 - s) = s := by omega
theorem ch_s4 {s : Nat} (hs : s < 2) : (1 : Int32) - nI s = nI (1 - s) := by
  rcases ch_s2 hs with rfl | rfl <;> decide
theorem ch_ow_alt {c : Int32} {s : Nat} (hs : s < 2) (h : ch_ow c s = true) : ch_ow c (1 - s) = false := by
  rcases ch_s2 hs with rfl | rfl
  · exact ch_ow_not h
  · cases h1 : ch_ow c (1 - 1) with
    | false => rfl
    | true => rw [ch_ow_not h1] at h; cases h
theorem ch_ck_mono {b b' : Nat → Int32} {s : Nat} (hs : s < 2) (H : ∀ i, i < 36 → b i = b' i ∨ (ch_ow (b i) s = true ∧ ch_ow (b' i) s = true ∧ b i ≠ ch_kg s ∧ b' i ≠ ch_kg s)) (h : ch_ck b s = true) : ch_ck b' s = true := by
  rw [ch_ck_iff] at h ⊢
  obtain ⟨k, hk, ek, f, hf, of, af⟩ := h
  have hz : ∀ i, i < 36 → (b i = 0 ↔ b' i = 0) := by
    intro i hi
    rcases H i hi with e | ⟨h1, h2, _⟩
    · rw [e]
    · exact ⟨fun z => absurd z (ch_ow_ne h1), fun z => absurd z (ch_ow_ne h2)⟩
  have e1 : b k = b' k := by
    rcases H k hk with e | ⟨_, _, h3, _⟩
    · exact e
    · exact absurd ek h3
  have e2 : b f = b' f := by
    rcases H f hf with e | ⟨h1, _⟩
    · exact e
    · rw [ch_ow_alt hs h1] at of; cases of
  exact ⟨k, hk, e1 ▸ ek, f, hf, e2 ▸ of, by rw [← ch_at_congr hf hk hz e2]; exact af⟩
theorem ch_ck_congr {b b' : Nat → Int32} {s : Nat} (hs : s < 2) (H : ∀ i, i < 36 → b i = b' i ∨ (ch_ow (b i) s = true ∧ ch_ow (b' i) s = true ∧ b i ≠ ch_kg s ∧ b' i ≠ ch_kg s)) : ch_ck b s = ch_ck b' s := by
  apply Bool.eq_iff_iff.mpr
  refine ⟨ch_ck_mono hs H, ch_ck_mono hs fun i hi => ?_⟩
  rcases H i hi with e | ⟨h1, h2, h3, h4⟩
  · exact Or.inl e.symm
  · exact Or.inr ⟨h2, h1, h4, h3⟩
/-- what stands on 'to' after a move, the board after it, and the board with the pawn left a pawn -/
def ch_pc (b : Nat → Int32) (s f t : Nat) : Int32 := if ch_kd (b f) = 1 ∧ (t < 6 ∨ 30 ≤ t) then (if s = 0 then 5 else 13) else b f
def ch_pl (b : Nat → Int32) (s f t : Nat) : Nat → Int32 := upd (upd b f 0) t (ch_pc b s f t)
def ch_tp (b : Nat → Int32) (f t : Nat) : Nat → Int32 := upd (upd b f 0) t (b f)
def ch_cg (b : Nat → Int32) (s f t : Nat) : Bool := ch_ow (b f) s && (!ch_ow (b t) s && (if ch_kd (b f) = 1 ∧ b t = 0 then (if s = 0 then decide (t = f + 6) else decide (f = t + 6)) else ch_at b f t))
def ch_lp (b : Nat → Int32) (s f t : Nat) : Bool := ch_cg b s f t && !ch_ck (ch_pl b s f t) s
def ch_lg (b : Nat → Int32) (s p : Nat) : Bool := ch_lp b s (p / 36) (p % 36)
def ch_pp (b : Nat → Int32) (s p : Nat) : Nat → Int32 := ch_pl b s (p / 36) (p % 36)
def ch_L (b : Nat → Int32) (s : Nat) : List Nat := ch_Rl (ch_lg b s) 0
theorem ch_cg_ow {b : Nat → Int32} {s f t : Nat} (h : ch_cg b s f t = true) : ch_ow (b f) s = true ∧ ch_ow (b t) s = false ∧ f ≠ t := by
  unfold ch_cg at h
  rw [Bool.and_eq_true, Bool.and_eq_true] at h
  obtain ⟨h1, h2, -⟩ := h
  have h3 : ch_ow (b t) s = false := by simpa using h2
  refine ⟨h1, h3, fun e => ?_⟩
  rw [e, h3] at h1
  cases h1
theorem ch_lp_cg {b : Nat → Int32} {s f t : Nat} (h : ch_lp b s f t = true) : ch_cg b s f t = true := by
  unfold ch_lp at h
  rw [Bool.and_eq_true] at h
  exact h.1
theorem ch_cg_geo {b : Nat → Int32} {s f t : Nat} (hf : f < 36) (ht : t < 36) (h : ch_cg b s f t = true) : (ch_kd (b f) = 2 ∧ ch_kn f t = true) ∨ (ch_kd (b f) ≠ 2 ∧ ch_qn f t = true) := by
  unfold ch_cg at h
  rw [Bool.and_eq_true, Bool.and_eq_true] at h
  obtain ⟨-, -, h3⟩ := h
  by_cases k : ch_kd (b f) = 1 ∧ b t = 0
  · rw [if_pos k] at h3
    obtain ⟨q1, q2, -⟩ := ch_t_q f hf t ht
    refine Or.inr ⟨by rw [k.1]; decide, ?_⟩
    split at h3
    · exact q1 (of_decide_eq_true h3)
    · exact q2 (of_decide_eq_true h3)
  · rw [if_neg k] at h3
    exact ch_at_geo hf ht h3
theorem ch_kd_kg (s : Nat) : ch_kd (ch_kg s) = 6 := by
  unfold ch_kg; split <;> decide
theorem ch_kg_0 (s : Nat) : ch_kg s ≠ 0 := by
  unfold ch_kg; split <;> decide
theorem ch_q_kg (s s' : Nat) : (if s = 0 then (5 : Int32) else 13) ≠ ch_kg s' := by
  unfold ch_kg; split <;> split <;> decide
theorem ch_q_ow {s : Nat} (hs : s < 2) : ch_ow (if s = 0 then (5 : Int32) else 13) s = true := by
  rcases ch_s2 hs with rfl | rfl <;> decide
theorem ch_pc_ow {b : Nat → Int32} {s f t : Nat} (hs : s < 2) (h : ch_ow (b f) s = true) : ch_ow (ch_pc b s f t) s = true := by
  unfold ch_pc
  split
  · exact ch_q_ow hs
  · exact h
theorem ch_ck_tp {b : Nat → Int32} {s f t : Nat} (hs : s < 2) (h : ch_ow (b f) s = true) : ch_ck (ch_tp b f t) s = ch_ck (ch_pl b s f t) s := by
  refine ch_ck_congr hs fun i _ => ?_
  unfold ch_tp ch_pl
  by_cases e : i = t
  · subst e
    rw [pk_us, pk_us]
    unfold ch_pc
    by_cases k : ch_kd (b f) = 1 ∧ (i < 6 ∨ 30 ≤ i)
    · rw [if_pos k]
      refine Or.inr ⟨h, ch_q_ow hs, fun z => ?_, ch_q_kg s s⟩
      have := k.1
      rw [z, ch_kd_kg] at this
      exact absurd this (by decide)
    · rw [if_neg k]; exact Or.inl rfl
  · rw [pk_un e, pk_un e]; exact Or.inl rfl
theorem ch_uc {b : Nat → Int32} {i j : Nat} {x y : Int32} (h : i ≠ j) : upd (upd b i x) j y = upd (upd b j y) i x := by
  funext k
  unfold upd
  by_cases e : k = i
  · have : ¬ k = j := by omega
    rw [if_neg this, if_pos e, if_pos e]
  · by_cases e2 : k = j
    · rw [if_pos e2, if_neg e, if_pos e2]
    · rw [if_neg e2, if_neg e, if_neg e, if_neg e2]
/-- a move is taken back -/
theorem ch_back {b : Nat → Int32} {f t : Nat} {x : Int32} (h : f ≠ t) : upd (upd (upd (upd b f 0) t x) f (b f)) t (b t) = b := by
  funext k
  unfold upd
  by_cases e : k = t
  · rw [if_pos e, e]
  · rw [if_neg e]
    by_cases e2 : k = f
    · rw [if_pos e2, e2]
    · rw [if_neg e2, if_neg e, if_neg e2]
def ch_Ok (b : Nat → Int32) : Prop := ∀ i, i < 36 → ch_ok (b i)
def ch_K1 (b : Nat → Int32) : Prop := ∀ s, s < 2 → ∀ i j, i < 36 → j < 36 → b i = ch_kg s → b j = ch_kg s → i = j
def ch_nz (b : Nat → Int32) : Nat := ch_ct (fun i => !decide (b i = 0)) 36
def ch_np (b : Nat → Int32) (s : Nat) : Nat := ch_ct (fun i => ch_ow (b i) s) 36
/-- a good board: pieces alone, six at most, a king a side at most -/
def ch_G (b : Nat → Int32) : Prop := ch_Ok b ∧ ch_K1 b ∧ ch_nz b ≤ 6
theorem ch_Ok_u {b : Nat → Int32} {k : Nat} {x : Int32} (h : ch_Ok b) (hx : ch_ok x) : ch_Ok (upd b k x) := by
  intro i hi
  unfold upd
  split
  · exact hx
  · exact h i hi
theorem ch_ok_0 : ch_ok 0 := Or.inl rfl
theorem ch_ok_q (s : Nat) : ch_ok (if s = 0 then (5 : Int32) else 13) := by
  unfold ch_ok; split <;> decide
theorem ch_Ok_tp {b : Nat → Int32} {f t : Nat} (h : ch_Ok b) (hf : f < 36) : ch_Ok (ch_tp b f t) := ch_Ok_u (ch_Ok_u h ch_ok_0) (h f hf)
theorem ch_Ok_pl {b : Nat → Int32} {s f t : Nat} (h : ch_Ok b) (hf : f < 36) : ch_Ok (ch_pl b s f t) := by
  refine ch_Ok_u (ch_Ok_u h ch_ok_0) ?_
  unfold ch_pc
  split
  · exact ch_ok_q s
  · exact h f hf
theorem ch_K1_gen {b : Nat → Int32} {f t : Nat} {x : Int32} (h : ch_K1 b) (hf : f < 36) (hx : ∀ s, s < 2 → x = ch_kg s → b f = ch_kg s) : ch_K1 (upd (upd b f 0) t x) := by
  intro s hs i j hi hj ei ej
  have key : ∀ k, k < 36 → upd (upd b f 0) t x k = ch_kg s → (k = t ∧ b f = ch_kg s) ∨ (k ≠ f ∧ b k = ch_kg s) := by
    intro k hk e
    unfold upd at e
    by_cases e1 : k = t
    · rw [if_pos e1] at e; exact Or.inl ⟨e1, hx s hs e⟩
    · rw [if_neg e1] at e
      by_cases e2 : k = f
      · rw [if_pos e2] at e; exact absurd e.symm (ch_kg_0 s)
      · rw [if_neg e2] at e; exact Or.inr ⟨e2, e⟩
  rcases key i hi ei with ⟨a1, a2⟩ | ⟨a1, a2⟩ <;> rcases key j hj ej with ⟨b1, b2⟩ | ⟨b1, b2⟩
  · omega
  · exact absurd (h s hs f j hf hj a2 b2).symm b1
  · exact absurd (h s hs f i hf hi b2 a2).symm a1
  · exact h s hs i j hi hj a2 b2
theorem ch_K1_tp {b : Nat → Int32} {f t : Nat} (h : ch_K1 b) (hf : f < 36) : ch_K1 (ch_tp b f t) := ch_K1_gen h hf fun _ _ e => e
theorem ch_K1_pl {b : Nat → Int32} {s f t : Nat} (h : ch_K1 b) (hf : f < 36) : ch_K1 (ch_pl b s f t) := by
  refine ch_K1_gen h hf fun s' _ e => ?_
  unfold ch_pc at e
  split at e
  · exact absurd e (ch_q_kg s s')
  · exact e
theorem ch_ct_mv {p p' : Nat → Bool} {f t n : Nat} (hf : f < n) (ht : t < n) (hne : f ≠ t) (pf : p f = true) (e : ∀ i, i ≠ t → p' i = if i = f then false else p i) : ch_ct p' n ≤ ch_ct p n := by
  have h1 := ch_ct_upd p f false n hf
  have h2 := ch_ct_upd (fun i => if i = f then false else p i) t (p' t) n ht
  have h3 : ch_ct (fun i => if i = t then p' t else if i = f then false else p i) n = ch_ct p' n := by
    refine ch_ct_congr fun i _ => ?_
    by_cases c : i = t
    · rw [if_pos c, c]
    · rw [if_neg c, e i c]
  rw [pf] at h1
  rw [h3] at h2
  have h4 : (if p' t = true then 1 else 0) ≤ 1 := by split <;> omega
  simp only [if_true, Bool.false_eq_true, if_false] at h1
  omega
theorem ch_nz_pl {b : Nat → Int32} {s f t : Nat} (hf : f < 36) (ht : t < 36) (h : f ≠ t) (h0 : ch_ow (b f) s = true) : ch_nz (ch_pl b s f t) ≤ ch_nz b := by
  unfold ch_nz
  refine ch_ct_mv hf ht h (by simp [ch_ow_ne h0]) fun i hi => ?_
  unfold ch_pl
  rw [pk_un hi]
  unfold upd
  by_cases e : i = f
  · rw [if_pos e, if_pos e]; decide
  · rw [if_neg e, if_neg e]
theorem ch_np_own {b : Nat → Int32} {s f t : Nat} (hf : f < 36) (ht : t < 36) (h : ch_cg b s f t = true) : ch_np (ch_pl b s f t) s ≤ ch_np b s := by
  obtain ⟨h0, -, hne⟩ := ch_cg_ow h
  unfold ch_np
  refine ch_ct_mv hf ht hne h0 fun i hi => ?_
  unfold ch_pl
  rw [pk_un hi]
  unfold upd
  by_cases e : i = f
  · rw [if_pos e, if_pos e]; exact ch_ow_0 s
  · rw [if_neg e, if_neg e]
theorem ch_np_oth {b : Nat → Int32} {s f t : Nat} (hs : s < 2) (h : ch_cg b s f t = true) : ch_np (ch_pl b s f t) (1 - s) ≤ ch_np b (1 - s) := by
  obtain ⟨h0, -, -⟩ := ch_cg_ow h
  unfold ch_np
  refine ch_ct_mono fun i _ hi => ?_
  unfold ch_pl at hi
  by_cases e : i = t
  · rw [e, pk_us, ch_ow_alt hs (ch_pc_ow hs h0)] at hi; cases hi
  · rw [pk_un e] at hi
    by_cases e2 : i = f
    · rw [e2, pk_us, ch_ow_0] at hi; cases hi
    · rw [pk_un e2] at hi; exact hi
theorem ch_G_pl {b : Nat → Int32} {s f t : Nat} (g : ch_G b) (hf : f < 36) (ht : t < 36) (h : ch_cg b s f t = true) : ch_G (ch_pl b s f t) := by
  obtain ⟨h0, -, hne⟩ := ch_cg_ow h
  exact ⟨ch_Ok_pl g.1 hf, ch_K1_pl g.2.1 hf, Nat.le_trans (ch_nz_pl hf ht hne h0) g.2.2⟩
theorem ch_np_nz (b : Nat → Int32) {s : Nat} (hs : s < 2) : ch_np b s + ch_np b (1 - s) ≤ ch_nz b := by
  unfold ch_np ch_nz
  refine ch_ct_add _ _ _ 36 fun i _ => ⟨fun z => ?_, fun z => ?_, fun z => ch_ow_alt hs z⟩
  · simp [ch_ow_ne z]
  · simp [ch_ow_ne z]
theorem ch_ct_split (g : Nat → Bool) (m : Nat) : ∀ n, ch_ct g (m + n) = ch_ct g m + ch_ct (fun t => g (m + t)) n := by
  intro n
  induction n with
  | zero => rfl
  | succ n ih => rw [← Nat.add_assoc]; simp only [ch_ct]; rw [ih]; omega
theorem ch_len_f {b : Nat → Int32} {s f : Nat} (hf : f < 36) : ch_ct (fun t => ch_lg b s (36 * f + t)) 36 ≤ if ch_ow (b f) s then 20 else 0 := by
  have e : ∀ t, t < 36 → ch_lg b s (36 * f + t) = ch_lp b s f t := by
    intro t ht
    unfold ch_lg
    rw [show (36 * f + t) / 36 = f by omega, show (36 * f + t) % 36 = t by omega]
  rw [ch_ct_congr e]
  cases h : ch_ow (b f) s with
  | false =>
    rw [ch_ct_0 fun t _ => ?_]
    · exact Nat.zero_le _
    · cases h2 : ch_lp b s f t with
      | false => rfl
      | true => rw [(ch_cg_ow (ch_lp_cg h2)).1] at h; cases h
  | true =>
    have hT := ch_t_ckn f hf
    simp only [if_true]
    by_cases k : ch_kd (b f) = 2
    · refine Nat.le_trans (ch_ct_mono (q := ch_kn f) fun t ht h2 => ?_) hT.1
      rcases ch_cg_geo hf ht (ch_lp_cg h2) with z | z
      · exact z.2
      · exact absurd k z.1
    · refine Nat.le_trans (ch_ct_mono (q := ch_qn f) fun t ht h2 => ?_) hT.2
      rcases ch_cg_geo hf ht (ch_lp_cg h2) with z | z
      · exact absurd z.1 k
      · exact z.2
theorem ch_len_k {b : Nat → Int32} {s : Nat} : ∀ k, k ≤ 36 → ch_ct (ch_lg b s) (36 * k) ≤ 20 * ch_ct (fun i => ch_ow (b i) s) k := by
  intro k
  induction k with
  | zero => intro _; exact Nat.le_refl 0
  | succ k ih =>
    intro hk
    have h1 := ih (by omega)
    have h2 := ch_len_f (b := b) (s := s) (f := k) (by omega)
    rw [show 36 * (k + 1) = 36 * k + 36 by omega, ch_ct_split]
    cases h : ch_ow (b k) s with
    | true =>
      rw [ch_ct_t (p := fun i => ch_ow (b i) s) h]
      simp only [h, if_true] at h2
      omega
    | false =>
      rw [ch_ct_f (p := fun i => ch_ow (b i) s) h]
      simp only [h, Bool.false_eq_true, if_false] at h2
      omega
theorem ch_len (b : Nat → Int32) (s : Nat) : (ch_L b s).length ≤ 20 * ch_np b s := by
  unfold ch_L
  rw [ch_Rlen0]
  exact ch_len_k (b := b) (s := s) 36 (Nat.le_refl 36)
theorem ch_L_mem {b : Nat → Int32} {s p : Nat} (h : p ∈ ch_L b s) : p < 1296 ∧ ch_lg b s p = true := (ch_Rmem 1296 0 (by omega) h).2
/-- how many steps a walk of the depth d takes -/
def ch_T : Nat → (Nat → Int32) → Nat → Nat
  | 0, _, _ => 1
  | d + 1, b, s => 1 + ch_sm (fun p => 1 + ch_T d (ch_pp b s p) (1 - s)) (ch_L b s)
def ch_B : Nat → Nat → Nat → Nat
  | 0, _, _ => 1
  | d + 1, P, Q => 1 + 20 * P * (1 + ch_B d Q P)
theorem ch_B_mono : ∀ d P Q P' Q', P ≤ P' → Q ≤ Q' → ch_B d P Q ≤ ch_B d P' Q' := by
  intro d
  induction d with
  | zero => intro P Q P' Q' _ _; exact Nat.le_refl 1
  | succ d ih =>
    intro P Q P' Q' h1 h2
    have h3 := ih Q P Q' P' h2 h1
    simp only [ch_B]
    exact Nat.add_le_add_left (Nat.mul_le_mul (Nat.mul_le_mul_left 20 h1) (by omega)) 1
theorem ch_lg_in {b : Nat → Int32} {s p : Nat} (hp : p < 1296) (h : ch_lg b s p = true) : p / 36 < 36 ∧ p % 36 < 36 ∧ ch_cg b s (p / 36) (p % 36) = true := ⟨by omega, by omega, ch_lp_cg h⟩
theorem ch_T_le : ∀ d b s, s < 2 → ch_T d b s ≤ ch_B d (ch_np b s) (ch_np b (1 - s)) := by
  intro d
  induction d with
  | zero => intro b s _; exact Nat.le_refl 1
  | succ d ih =>
    intro b s hs
    simp only [ch_T, ch_B]
    have h1 : ch_sm (fun p => 1 + ch_T d (ch_pp b s p) (1 - s)) (ch_L b s) ≤ (ch_L b s).length * (1 + ch_B d (ch_np b (1 - s)) (ch_np b s)) := by
      refine ch_sm_le _ fun p hp => ?_
      obtain ⟨p1, p2⟩ := ch_L_mem hp
      obtain ⟨q1, q2, q3⟩ := ch_lg_in p1 p2
      have h2 := ih (ch_pp b s p) (1 - s) (by omega)
      rw [ch_s3 hs] at h2
      have h3 := ch_B_mono d _ _ _ _ (ch_np_oth hs q3) (ch_np_own q1 q2 q3)
      exact Nat.add_le_add_left (Nat.le_trans h2 h3) 1
    exact Nat.add_le_add_left (Nat.le_trans h1 (Nat.mul_le_mul_right _ (ch_len b s))) 1
theorem ch_B_num : ∀ P, P < 7 → ∀ Q, Q < 7 → P + Q ≤ 6 → ∀ d, d < 4 → ch_B d P Q ≤ 600000 := by decide +kernel
theorem ch_T_num {d : Nat} {b : Nat → Int32} {s : Nat} (hd : d ≤ 3) (hs : s < 2) (h : ch_nz b ≤ 6) : ch_T d b s ≤ 600000 := by
  have h1 := ch_np_nz b hs
  exact Nat.le_trans (ch_T_le d b s hs) (ch_B_num _ (by omega) _ (by omega) (by omega) d (by omega))
