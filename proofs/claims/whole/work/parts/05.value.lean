/-! the value, the best move, rows of moves, mates, repeats, quiet moves: pure -/
theorem ch_addI {x y : Int32} (h1 : -1000000 ≤ x.toInt) (h2 : x.toInt ≤ 1000000) (h3 : -1000000 ≤ y.toInt) (h4 : y.toInt ≤ 1000000) : (x + y).toInt = x.toInt + y.toInt := by
  rw [Int32.toInt_add]
  exact Int.bmod_eq_of_le (by omega) (by omega)
theorem ch_subI {x y : Int32} (h1 : -1000000 ≤ x.toInt) (h2 : x.toInt ≤ 1000000) (h3 : -1000000 ≤ y.toInt) (h4 : y.toInt ≤ 1000000) : (x - y).toInt = x.toInt - y.toInt := by
  rw [Int32.toInt_sub]
  exact Int.bmod_eq_of_le (by omega) (by omega)
theorem ch_negI {x : Int32} (h1 : -1000000 ≤ x.toInt) (h2 : x.toInt ≤ 1000000) : (-x).toInt = -x.toInt := by
  rw [Int32.toInt_neg]
  exact Int.bmod_eq_of_le (by omega) (by omega)
def ch_wt (c : Int32) : Int32 := if ch_kd c = 1 then 1 else if ch_kd c = 2 then 3 else if ch_kd c = 3 then 3 else if ch_kd c = 4 then 5 else if ch_kd c = 5 then 9 else 0
theorem ch_wt_in (c : Int32) : 0 ≤ (ch_wt c).toInt ∧ (ch_wt c).toInt ≤ 9 := by
  unfold ch_wt
  split
  · decide
  split
  · decide
  split
  · decide
  split
  · decide
  split <;> decide
def ch_sb (b : Nat → Int32) (s : Nat) : Nat → Int32
  | 0 => 0
  | n + 1 => if ch_ow (b n) s then ch_sb b s n + ch_wt (b n) else ch_sb b s n - ch_wt (b n)
def ch_bl (b : Nat → Int32) (s : Nat) : Int32 := ch_sb b s 36
theorem ch_sb_in {b : Nat → Int32} {s : Nat} : ∀ n : Nat, n ≤ 36 → -(9 * (n : Int)) ≤ (ch_sb b s n).toInt ∧ (ch_sb b s n).toInt ≤ 9 * (n : Int) := by
  intro n
  induction n with
  | zero =>
    intro _
    have e : (ch_sb b s 0).toInt = 0 := (by decide : (0 : Int32).toInt = 0)
    omega
  | succ n ih =>
    intro hn
    have h1 := ih (by omega)
    have h2 := ch_wt_in (b n)
    simp only [ch_sb]
    split
    · rw [ch_addI (by omega) (by omega) (by omega) (by omega)]; omega
    · rw [ch_subI (by omega) (by omega) (by omega) (by omega)]; omega
def ch_nm (p : Nat) : Nat := 64 * (p / 36) + p % 36
def ch_mx (v : Nat → Int32) : Int32 → List Nat → Int32
  | g, [] => g
  | g, p :: r => ch_mx v (if g < -v p then -v p else g) r
def ch_bm (v : Nat → Int32) : Int32 → Int32 → List Nat → Int32
  | _, m, [] => m
  | g, m, p :: r => ch_bm v (if g < -v p then -v p else g) (if g < -v p then nI (ch_nm p) else m) r
/-- the value of a level whose moves are done: g is the greatest -/
def ch_no (d : Nat) (b : Nat → Int32) (s : Nat) : Int32 := if ch_ck b s then -1000 - nI d else 0
def ch_v : Nat → (Nat → Int32) → Nat → Int32
  | 0, b, s => ch_bl b s
  | d + 1, b, s => match ch_L b s with
    | [] => ch_no (d + 1) b s
    | p :: r => ch_mx (fun p => ch_v d (ch_pp b s p) (1 - s)) (-ch_v d (ch_pp b s p) (1 - s)) r
def ch_w (d : Nat) (b : Nat → Int32) (s p : Nat) : Int32 := ch_v d (ch_pp b s p) (1 - s)
theorem ch_v_nil {d : Nat} {b : Nat → Int32} {s : Nat} (h : ch_L b s = []) : ch_v (d + 1) b s = ch_no (d + 1) b s := by
  simp only [ch_v, h]
theorem ch_v_cons {d : Nat} {b : Nat → Int32} {s p : Nat} {r : List Nat} (h : ch_L b s = p :: r) : ch_v (d + 1) b s = ch_mx (ch_w d b s) (-ch_w d b s p) r := by
  simp only [ch_v, h]
  rfl
def ch_in (x : Int32) : Prop := -1003 ≤ x.toInt ∧ x.toInt ≤ 1003
theorem ch_in_neg {x : Int32} (h : ch_in x) : ch_in (-x) := by
  obtain ⟨h1, h2⟩ := h
  unfold ch_in
  rw [ch_negI (by omega) (by omega)]
  omega
theorem ch_mx_in {v : Nat → Int32} (hv : ∀ p, ch_in (v p)) : ∀ (l : List Nat) (g : Int32), ch_in g → ch_in (ch_mx v g l) := by
  intro l
  induction l with
  | nil => intro g h; exact h
  | cons p r ih =>
    intro g h
    simp only [ch_mx]
    refine ih _ ?_
    split
    · exact ch_in_neg (hv p)
    · exact h
theorem ch_no_in : ∀ d, d < 4 → ch_in (-1000 - nI d) := by
  intro d hd
  have h : ∀ d, d < 4 → -1003 ≤ (-1000 - nI d).toInt ∧ (-1000 - nI d).toInt ≤ 1003 := by decide +kernel
  exact h d hd
theorem ch_v_in : ∀ d, d ≤ 3 → ∀ b s, ch_in (ch_v d b s) := by
  intro d
  induction d with
  | zero =>
    intro _ b s
    have h := ch_sb_in (b := b) (s := s) 36 (Nat.le_refl 36)
    show ch_in (ch_sb b s 36)
    unfold ch_in
    omega
  | succ d ih =>
    intro hd b s
    have h1 := ih (by omega)
    cases h : ch_L b s with
    | nil =>
      rw [ch_v_nil h]
      unfold ch_no
      split
      · exact ch_no_in (d + 1) (by omega)
      · exact ⟨by decide, by decide⟩
    | cons p r =>
      rw [ch_v_cons h]
      exact ch_mx_in (fun q => h1 _ _) r _ (ch_in_neg (h1 _ _))
theorem ch_in_gt {x : Int32} (h : ch_in x) : (-5000 : Int32) < -x ∧ (-1000000 : Int32) < -x ∧ (-5000 : Int32) < x ∧ (-1000000 : Int32) < x := by
  obtain ⟨h1, h2⟩ := h
  have a : (-5000 : Int32).toInt = -5000 := by decide
  have c : (-1000000 : Int32).toInt = -1000000 := by decide
  simp only [Int32.lt_iff_toInt_lt, a, c]
  rw [ch_negI (by omega) (by omega)]
  omega
/-- rows of d moves -/
def ch_cn : Nat → (Nat → Int32) → Nat → Nat
  | 0, _, _ => 1
  | d + 1, b, s => ch_sm (fun p => ch_cn d (ch_pp b s p) (1 - s)) (ch_L b s)
/-- mates -/
def ch_mt (b : Nat → Int32) (s : Nat) : Bool := ch_ck b s && (ch_L b s).isEmpty
def ch_cm (b : Nat → Int32) (s : Nat) : Bool := (ch_L b s).any fun p => ch_mt (ch_pp b s p) (1 - s)
def ch_ls (b : Nat → Int32) (s : Nat) : Bool := if (ch_L b s).isEmpty then ch_ck b s else (ch_L b s).all fun p => ch_cm (ch_pp b s p) (1 - s)
def ch_m2 (b : Nat → Int32) (s : Nat) : Bool := (ch_L b s).any fun p => ch_ls (ch_pp b s p) (1 - s)
theorem ch_cm_m2 {b : Nat → Int32} {s : Nat} (h : ch_cm b s = true) : ch_m2 b s = true := by
  unfold ch_cm at h
  unfold ch_m2
  rw [List.any_eq_true] at h ⊢
  obtain ⟨p, hp, h⟩ := h
  refine ⟨p, hp, ?_⟩
  unfold ch_mt at h
  rw [Bool.and_eq_true] at h
  unfold ch_ls
  rw [if_pos h.2]
  exact h.1
/-- every second number from k down that e has -/
def ch_b1 (x : Bool) : Nat := if x then 1 else 0
def ch_st (e : Nat → Bool) : Nat → Nat
  | 0 => ch_b1 (e 0)
  | 1 => ch_b1 (e 1)
  | k + 2 => ch_b1 (e (k + 2)) + ch_st e k
/-- the quiet moves at the end of k moves -/
def ch_qt (M C : Nat → Int32) : Nat → Nat
  | 0 => 0
  | k + 1 => if C k = 0 ∧ ¬ ch_kd (M k) = 1 then ch_qt M C k + 1 else 0
theorem ch_qt_le (M C : Nat → Int32) : ∀ k, ch_qt M C k ≤ k := by
  intro k
  induction k with
  | zero => exact Nat.le_refl 0
  | succ k ih => simp only [ch_qt]; split <;> omega
theorem ch_qt_congr {M C M' C' : Nat → Int32} : ∀ k, (∀ i, i < k → M' i = M i ∧ C' i = C i) → ch_qt M' C' k = ch_qt M C k := by
  intro k
  induction k with
  | zero => intro _; rfl
  | succ k ih =>
    intro h
    simp only [ch_qt]
    rw [(h k (by omega)).1, (h k (by omega)).2, ih fun i hi => h i (by omega)]
