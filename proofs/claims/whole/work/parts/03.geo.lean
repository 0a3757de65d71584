/-! the geometry of the board: rows, columns, lines; tables -/
def ch_R (f t : Nat) : Int32 := nI t / 6 - nI f / 6
def ch_C (f t : Nat) : Int32 := (nI t - nI t / 6 * 6) - (nI f - nI f / 6 * 6)
def ch_D (f t : Nat) : Int32 := ch_R f t * ch_R f t + ch_C f t * ch_C f t
def ch_sg (x : Int32) : Int32 := if 0 < x then 1 else if x < 0 then -1 else 0
def ch_ab (x : Int32) : Int32 := if x < 0 then -x else x
def ch_sp (f t : Nat) : Int32 := ch_sg (ch_R f t) * 6 + ch_sg (ch_C f t)
def ch_lI (f t : Nat) : Int32 := if ch_R f t = 0 then ch_C f t * ch_sg (ch_C f t) else ch_R f t * ch_sg (ch_R f t)
def ch_ln (f t : Nat) : Nat := (ch_lI f t).toNatClampNeg
def ch_qI (f t i : Nat) : Int32 := nI f + nI i * ch_sp f t
def ch_sq (f t i : Nat) : Nat := (ch_qI f t i).toNatClampNeg
def ch_pa (s f t : Nat) : Bool := decide (ch_R f t = (if s = 0 then 1 else -1)) && decide (ch_D f t = 2)
def ch_kn (f t : Nat) : Bool := decide (ch_D f t = 5)
def ch_kk (f t : Nat) : Bool := decide (ch_D f t = 1) || decide (ch_D f t = 2)
def ch_sr (f t : Nat) : Bool := decide (ch_R f t = 0) || decide (ch_C f t = 0)
def ch_dg (f t : Nat) : Bool := decide (ch_R f t = ch_C f t) || decide (ch_R f t = -ch_C f t)
def ch_qn (f t : Nat) : Bool := (ch_sr f t || ch_dg f t) && !decide (f = t)
/-- tables over all pairs of squares -/
theorem ch_t_ln : ∀ f, f < 36 → ∀ t, t < 36 → ch_lI f t = nI (ch_ln f t) ∧ ch_ln f t ≤ 5 ∧ (ch_ln f t = 0 → f = t) := by decide +kernel
theorem ch_t_self : ∀ f, f < 36 → ch_ln f f = 0 ∧ ch_D f f = 0 := by decide +kernel
theorem ch_t_sq : ∀ f, f < 36 → ∀ t, t < 36 → ∀ i, i < ch_ln f t → 0 ≤ (ch_qI f t i).toInt ∧ (ch_qI f t i).toInt < 36 := by decide +kernel
theorem ch_t_pa0 : ∀ f, f < 36 → ∀ t, t < 36 → ((ch_R f t = 1 ∧ ch_ab (ch_C f t) = 1) ↔ ch_pa 0 f t = true) := by decide +kernel
theorem ch_t_pa1 : ∀ f, f < 36 → ∀ t, t < 36 → ((ch_R f t = -1 ∧ ch_ab (ch_C f t) = 1) ↔ ch_pa 1 f t = true) := by decide +kernel
theorem ch_t_kn : ∀ f, f < 36 → ∀ t, t < 36 → (ch_ab (ch_R f t) * ch_ab (ch_C f t) = 2 ↔ ch_kn f t = true) := by decide +kernel
theorem ch_t_kk : ∀ f, f < 36 → ∀ t, t < 36 → f ≠ t → ((ch_ab (ch_R f t) ≤ 1 ∧ ch_ab (ch_C f t) ≤ 1) ↔ ch_kk f t = true) := by decide +kernel
theorem ch_t_dg : ∀ f, f < 36 → ∀ t, t < 36 → (ch_ab (ch_R f t) = ch_ab (ch_C f t) ↔ ch_dg f t = true) := by decide +kernel
theorem ch_t_sr : ∀ f, f < 36 → ∀ t, t < 36 → ((ch_ab (ch_R f t) = 0 ∨ ch_ab (ch_C f t) = 0) ↔ ch_sr f t = true) := by decide +kernel
theorem ch_t_to0 : ∀ f, f < 36 → ∀ t, t < 36 → ∀ i, i < 6 → (ch_qn f t = true → (ch_qI f t (i + 1) = nI t ↔ i + 1 = ch_ln f t)) := by decide +kernel
theorem ch_t_to (f : Nat) (hf : f < 36) (t : Nat) (ht : t < 36) (hq : ch_qn f t = true) (i : Nat) (hi : i < 7) (h1 : 1 ≤ i) : ch_qI f t i = nI t ↔ i = ch_ln f t := by
  obtain ⟨j, rfl⟩ : ∃ j, i = j + 1 := ⟨i - 1, by omega⟩
  exact ch_t_to0 f hf t ht j (by omega) hq
theorem ch_t_f6 : ∀ f, f < 36 → ∀ t, t < 36 → ((nI t - nI f = 6 ↔ t = f + 6) ∧ (nI t - nI f = -6 ↔ f = t + 6) ∧ (nI t = nI f + 6 ↔ t = f + 6) ∧ (nI t = nI f - 6 ↔ f = t + 6)) := by decide +kernel
theorem ch_t_q : ∀ f, f < 36 → ∀ t, t < 36 → ((t = f + 6 → ch_qn f t = true) ∧ (f = t + 6 → ch_qn f t = true) ∧ (ch_pa 0 f t = true → ch_qn f t = true) ∧ (ch_pa 1 f t = true → ch_qn f t = true) ∧ (ch_kk f t = true → ch_qn f t = true)) := by decide +kernel
theorem ch_t_end : ∀ f, f < 36 → ∀ t, t < 36 → (((t = f + 6 ∨ ch_pa 0 f t = true) → ¬ t < 6) ∧ ((f = t + 6 ∨ ch_pa 1 f t = true) → ¬ 30 ≤ t)) := by decide +kernel
theorem ch_t_ckn : ∀ f, f < 36 → ch_ct (ch_kn f) 36 ≤ 20 ∧ ch_ct (ch_qn f) 36 ≤ 20 := by decide +kernel
theorem ch_t_row : ∀ t, t < 36 → ((nI t / 6 = 5 ↔ 30 ≤ t) ∧ (nI t / 6 = 0 ↔ t < 6) ∧ (nI t < 6 ↔ t < 6) ∧ (30 ≤ nI t ↔ 30 ≤ t)) := by decide +kernel
/-- no piece between -/
def ch_cl (b : Nat → Int32) (f t : Nat) : Bool := (List.range (ch_ln f t)).all fun i => decide (i = 0) || decide (b (ch_sq f t i) = 0)
def ch_lo (b : Nat → Int32) (f t : Nat) : Bool := decide (0 < ch_ln f t) && ch_cl b f t
theorem ch_cl_iff {b : Nat → Int32} {f t : Nat} : ch_cl b f t = true ↔ ∀ i, 1 ≤ i → i < ch_ln f t → b (ch_sq f t i) = 0 := by
  unfold ch_cl
  rw [List.all_eq_true]
  constructor
  · intro h i h1 h2
    have h3 := h i (List.mem_range.mpr h2)
    rcases Bool.or_eq_true_iff.mp h3 with h4 | h4
    · exact absurd (of_decide_eq_true h4) (by omega)
    · exact of_decide_eq_true h4
  · intro h i hi
    rw [List.mem_range] at hi
    rw [Bool.or_eq_true_iff]
    by_cases e : i = 0
    · exact Or.inl (decide_eq_true e)
    · exact Or.inr (decide_eq_true (h i (by omega) hi))
theorem ch_sq_lt {f t i : Nat} (hf : f < 36) (ht : t < 36) (hi : i < ch_ln f t) : ch_sq f t i < 36 ∧ vp_in (ch_qI f t i) 36 ∧ ch_qI f t i = nI (ch_sq f t i) := by
  have h := ch_t_sq f hf t ht i hi
  have h1 : vp_in (ch_qI f t i) 36 := vp_in_iff.mpr ⟨h.1, h.2⟩
  obtain ⟨j, hj, e⟩ := vp_in_of h1 (by decide)
  have h2 : ch_sq f t i = j := by unfold ch_sq; rw [e, nI_clamp (by omega)]
  exact ⟨by omega, h1, by rw [h2, e]⟩
/-- WHAT A PIECE ATTACKS -/
def ch_at (b : Nat → Int32) (f t : Nat) : Bool :=
  if ch_kd (b f) = 1 then ch_pa (ch_sd (b f)) f t
  else if ch_kd (b f) = 2 then ch_kn f t
  else if ch_kd (b f) = 3 then (ch_dg f t && ch_lo b f t)
  else if ch_kd (b f) = 4 then (ch_sr f t && ch_lo b f t)
  else if ch_kd (b f) = 5 then ((ch_sr f t || ch_dg f t) && ch_lo b f t)
  else if ch_kd (b f) = 6 then ch_kk f t
  else false
theorem ch_lo_congr {b b' : Nat → Int32} {f t : Nat} (hf : f < 36) (ht : t < 36) (hz : ∀ i, i < 36 → (b i = 0 ↔ b' i = 0)) : ch_lo b f t = ch_lo b' f t := by
  unfold ch_lo
  congr 1
  apply Bool.eq_iff_iff.mpr
  rw [ch_cl_iff, ch_cl_iff]
  constructor
  · intro h i h1 h2; exact (hz _ (ch_sq_lt hf ht h2).1).mp (h i h1 h2)
  · intro h i h1 h2; exact (hz _ (ch_sq_lt hf ht h2).1).mpr (h i h1 h2)
theorem ch_at_congr {b b' : Nat → Int32} {f t : Nat} (hf : f < 36) (ht : t < 36) (hz : ∀ i, i < 36 → (b i = 0 ↔ b' i = 0)) (e : b f = b' f) : ch_at b f t = ch_at b' f t := by
  unfold ch_at
  rw [e, ch_lo_congr hf ht hz]
theorem ch_lo_self {b : Nat → Int32} {f : Nat} (hf : f < 36) : ch_lo b f f = false := by
  unfold ch_lo; rw [(ch_t_self f hf).1]; rfl
theorem ch_at_self {b : Nat → Int32} {f : Nat} (hf : f < 36) : ch_at b f f = false := by
  have h := (ch_t_self f hf).2
  unfold ch_at
  rw [ch_lo_self hf]
  simp only [Bool.and_false, ch_pa, ch_kn, ch_kk, h]
  simp
/-- a knight's or a queen's geometry holds all attacks -/
theorem ch_at_geo {b : Nat → Int32} {f t : Nat} (hf : f < 36) (ht : t < 36) (h : ch_at b f t = true) : (ch_kd (b f) = 2 ∧ ch_kn f t = true) ∨ (ch_kd (b f) ≠ 2 ∧ ch_qn f t = true) := by
  have hne : ¬ f = t := by intro e; rw [← e, ch_at_self hf] at h; cases h
  obtain ⟨-, -, q1, q2, q3⟩ := ch_t_q f hf t ht
  unfold ch_at at h
  by_cases k1 : ch_kd (b f) = 1
  · rw [if_pos k1] at h
    refine Or.inr ⟨by rw [k1]; decide, ?_⟩
    unfold ch_sd at h
    split at h
    · exact q1 h
    · exact q2 h
  · rw [if_neg k1] at h
    by_cases k2 : ch_kd (b f) = 2
    · rw [if_pos k2] at h; exact Or.inl ⟨k2, h⟩
    · rw [if_neg k2] at h
      refine Or.inr ⟨k2, ?_⟩
      by_cases k3 : ch_kd (b f) = 3
      · rw [if_pos k3, Bool.and_eq_true] at h
        simp [ch_qn, h.1, hne]
      · rw [if_neg k3] at h
        by_cases k4 : ch_kd (b f) = 4
        · rw [if_pos k4, Bool.and_eq_true] at h
          simp [ch_qn, h.1, hne]
        · rw [if_neg k4] at h
          by_cases k5 : ch_kd (b f) = 5
          · rw [if_pos k5, Bool.and_eq_true] at h
            simp only [ch_qn, h.1, hne]; rfl
          · rw [if_neg k5] at h
            by_cases k6 : ch_kd (b f) = 6
            · rw [if_pos k6] at h; exact q3 h
            · rw [if_neg k6] at h; cases h
