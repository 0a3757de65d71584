/-! the past of a game: boards, quiet moves, the stack of moves; arrays written in loops -/
def ch_H (h : Nat) (b pX q pY F T M C : Nat → Int32) : Prop :=
  ∃ B : Nat → Nat → Int32, B h = b ∧
    (∀ k, k ≤ h → ch_G (B k) ∧ (∀ i, i < 36 → pX (36 * k + i) = B k i ∧ pY (36 * k + i) = B k i) ∧ q k = nI (ch_qt M C k)) ∧
    (∀ k, k < h → ∃ f t, f < 36 ∧ t < 36 ∧ F k = nI f ∧ T k = nI t ∧ B k = upd (upd (B (k + 1)) f (M k)) t (C k))
theorem ch_H_G {h : Nat} {b pX q pY F T M C : Nat → Int32} (H : ch_H h b pX q pY F T M C) : ch_G b := by
  obtain ⟨B, e, h1, -⟩ := H
  rw [← e]
  exact (h1 h (Nat.le_refl h)).1
theorem ch_H_keep {h : Nat} {b pX q pY F T M C F' T' M' C' : Nat → Int32} (H : ch_H h b pX q pY F T M C) (e : ch_e4 h F T M C F' T' M' C') : ch_H h b pX q pY F' T' M' C' := by
  obtain ⟨B, eB, h1, h2⟩ := H
  obtain ⟨e1, e2, e3, e4⟩ := e
  refine ⟨B, eB, fun k hk => ?_, fun k hk => ?_⟩
  · obtain ⟨a, c, d⟩ := h1 k hk
    refine ⟨a, c, ?_⟩
    rw [d, ch_qt_congr k fun i hi => ⟨e3 i (by omega), e4 i (by omega)⟩]
  · obtain ⟨f, t, hf, ht, a1, a2, a3⟩ := h2 k hk
    exact ⟨f, t, hf, ht, by rw [e1 k hk, a1], by rw [e2 k hk, a2], by rw [e3 k hk, e4 k hk, a3]⟩
theorem ch_H_0 {b pX q pY F T M C : Nat → Int32} (g : ch_G b) (h1 : ∀ i, i < 36 → pX i = b i) (h2 : ∀ i, i < 36 → pY i = b i) (h3 : q 0 = 0) : ch_H 0 b pX q pY F T M C := by
  refine ⟨fun _ => b, rfl, fun k hk => ?_, fun k hk => absurd hk (Nat.not_lt_zero k)⟩
  have e : k = 0 := by omega
  subst e
  refine ⟨g, fun i hi => ?_, h3⟩
  rw [Nat.mul_zero, Nat.zero_add]
  exact ⟨h1 i hi, h2 i hi⟩
theorem ch_H_push {h s f t : Nat} {b pX q pY F T M C pX' q' pY' : Nat → Int32} (H : ch_H h b pX q pY F T M C) (hf : f < 36) (ht : t < 36) (hc : ch_cg b s f t = true)
    (x1 : ∀ i, i < 36 * (h + 1) → pX' i = pX i) (x2 : ∀ i, i < 36 → pX' (36 * (h + 1) + i) = ch_pl b s f t i)
    (y1 : ∀ i, i < 36 * (h + 1) → pY' i = pY i) (y2 : ∀ i, i < 36 → pY' (36 * (h + 1) + i) = ch_pl b s f t i)
    (q1 : ∀ k, k ≤ h → q' k = q k) (q2 : q' (h + 1) = if b t = 0 ∧ ¬ ch_kd (b f) = 1 then q h + 1 else 0) :
    ch_H (h + 1) (ch_pl b s f t) pX' q' pY' (upd F h (nI f)) (upd T h (nI t)) (upd M h (b f)) (upd C h (b t)) := by
  have g := ch_H_G H
  obtain ⟨B, eB, h1, h2⟩ := H
  obtain ⟨-, -, hne⟩ := ch_cg_ow hc
  have hq : ∀ k, k ≤ h → ch_qt (upd M h (b f)) (upd C h (b t)) k = ch_qt M C k := fun k hk => ch_qt_congr k fun i hi => ⟨pk_un (by omega), pk_un (by omega)⟩
  refine ⟨fun k => if k = h + 1 then ch_pl b s f t else B k, if_pos rfl, fun k hk => ?_, fun k hk => ?_⟩
  · by_cases e : k = h + 1
    · subst e
      simp only [if_pos]
      refine ⟨ch_G_pl g hf ht hc, fun i hi => ⟨x2 i hi, y2 i hi⟩, ?_⟩
      rw [q2]
      simp only [ch_qt]
      rw [pk_us, pk_us, hq h (Nat.le_refl h), (h1 h (Nat.le_refl h)).2.2]
      split
      · exact nI_1 _
      · rfl
    · obtain ⟨a, c, d⟩ := h1 k (by omega)
      simp only [if_neg e]
      refine ⟨a, fun i hi => ?_, ?_⟩
      · rw [x1 _ (by omega), y1 _ (by omega)]; exact c i hi
      · rw [q1 k (by omega), d, hq k (by omega)]
  · by_cases e : k = h
    · subst e
      refine ⟨f, t, hf, ht, pk_us, pk_us, ?_⟩
      simp only [if_neg (show ¬ k = k + 1 by omega), if_pos]
      rw [pk_us, pk_us, eB]
      unfold ch_pl
      exact (ch_back hne).symm
    · obtain ⟨f', t', hf', ht', a1, a2, a3⟩ := h2 k (by omega)
      refine ⟨f', t', hf', ht', by rw [pk_un e, a1], by rw [pk_un e, a2], ?_⟩
      simp only [if_neg (show ¬ k = h + 1 by omega), if_neg (show ¬ k + 1 = h + 1 by omega)]
      rw [pk_un e, pk_un e]
      exact a3
theorem ch_H_pop {h : Nat} {b pX q pY F T M C : Nat → Int32} (H : ch_H (h + 1) b pX q pY F T M C) :
    ∃ f t, f < 36 ∧ t < 36 ∧ F h = nI f ∧ T h = nI t ∧ ch_H h (upd (upd b f (M h)) t (C h)) pX q pY F T M C ∧ (∀ i, i < 36 → pX (36 * h + i) = upd (upd b f (M h)) t (C h) i) ∧ (∀ i, 36 ≤ i → b i = upd (upd b f (M h)) t (C h) i) := by
  obtain ⟨B, eB, h1, h2⟩ := H
  obtain ⟨f, t, hf, ht, a1, a2, a3⟩ := h2 h (by omega)
  rw [eB] at a3
  refine ⟨f, t, hf, ht, a1, a2, ⟨B, a3, fun k hk => h1 k (by omega), fun k hk => h2 k (by omega)⟩, fun i hi => ?_, fun i hi => ?_⟩
  · rw [((h1 h (by omega)).2.1 i hi).1, a3]
  · rw [pk_un (by omega), pk_un (by omega)]
/-- an array after n cells of a board were copied to 36 * h on -/
def ch_kp (p b : Nat → Int32) (h n : Nat) : Nat → Int32 := fun i => if 36 * h ≤ i ∧ i < 36 * h + n then b (i - 36 * h) else p i
theorem ch_kp_0 (p b : Nat → Int32) (h : Nat) : ch_kp p b h 0 = p := by
  funext i
  unfold ch_kp
  rw [if_neg (by omega)]
theorem ch_kp_s (p b : Nat → Int32) (h n : Nat) : upd (ch_kp p b h n) (36 * h + n) (b n) = ch_kp p b h (n + 1) := by
  funext i
  unfold ch_kp upd
  by_cases e : i = 36 * h + n
  · rw [if_pos e, if_pos (by omega), e, show 36 * h + n - 36 * h = n by omega]
  · rw [if_neg e]
    dsimp only
    by_cases e2 : 36 * h ≤ i ∧ i < 36 * h + n
    · rw [if_pos e2, if_pos (by omega)]
    · rw [if_neg e2, if_neg (by omega)]
theorem ch_kp_lo {p b : Nat → Int32} {h n i : Nat} (hi : i < 36 * h) : ch_kp p b h n i = p i := if_neg (by omega)
theorem ch_kp_at {p b : Nat → Int32} {h n i : Nat} (hi : i < n) : ch_kp p b h n (36 * h + i) = b i := by
  unfold ch_kp
  rw [if_pos (by omega), show 36 * h + i - 36 * h = i by omega]
/-- a board after its first n cells were copied from c -/
def ch_cp (b c : Nat → Int32) (n : Nat) : Nat → Int32 := fun i => if i < n then c i else b i
theorem ch_cp_0 (b c : Nat → Int32) : ch_cp b c 0 = b := by
  funext i
  exact if_neg (Nat.not_lt_zero i)
theorem ch_cp_s (b c : Nat → Int32) (n : Nat) : upd (ch_cp b c n) n (c n) = ch_cp b c (n + 1) := by
  funext i
  unfold ch_cp upd
  by_cases e : i = n
  · rw [if_pos e, if_pos (by omega), e]
  · rw [if_neg e]
    dsimp only
    by_cases e2 : i < n
    · rw [if_pos e2, if_pos (by omega)]
    · rw [if_neg e2, if_neg (by omega)]
theorem ch_cp_36 {b c d : Nat → Int32} (h1 : ∀ i, i < 36 → c i = d i) (h2 : ∀ i, 36 ≤ i → b i = d i) : ch_cp b c 36 = d := by
  funext i
  unfold ch_cp
  by_cases e : i < 36
  · rw [if_pos e]; exact h1 i e
  · rw [if_neg e]; exact h2 i (by omega)
/-- the loop over quiet moves -/
theorem ch_qt_back (M C : Nat → Int32) {h n : Nat} (hn : n ≤ h) (q : ∀ j, j < n → C (h - 1 - j) = 0 ∧ ¬ ch_kd (M (h - 1 - j)) = 1) : ch_qt M C h = n + ch_qt M C (h - n) := by
  induction n with
  | zero => rw [Nat.zero_add, Nat.sub_zero]
  | succ n ih =>
    rw [ih (by omega) fun j hj => q j (by omega)]
    have h1 := q n (by omega)
    rw [show h - 1 - n = h - (n + 1) by omega] at h1
    rw [show h - n = (h - (n + 1)) + 1 by omega]
    simp only [ch_qt]
    rw [if_pos h1]
    omega
