/-! cells, counts, lists of numbers: pure -/
def ch_bI (x : Bool) : Int32 := if x then 1 else 0
theorem ch_bI_t : ch_bI true = 1 := rfl
theorem ch_bI_f : ch_bI false = 0 := rfl
theorem ch_bI_0 {x : Bool} : ch_bI x = 0 ↔ x = false := by cases x <;> decide
def ch_ok (c : Int32) : Prop := c = 0 ∨ c = 1 ∨ c = 2 ∨ c = 3 ∨ c = 4 ∨ c = 5 ∨ c = 6 ∨ c = 9 ∨ c = 10 ∨ c = 11 ∨ c = 12 ∨ c = 13 ∨ c = 14
theorem ch_okE {P : Int32 → Prop} {c : Int32} (h : ch_ok c) (h0 : P 0) (h1 : P 1) (h2 : P 2) (h3 : P 3) (h4 : P 4) (h5 : P 5) (h6 : P 6) (h9 : P 9) (h10 : P 10) (h11 : P 11) (h12 : P 12) (h13 : P 13) (h14 : P 14) : P c := by
  rcases h with h | h | h | h | h | h | h | h | h | h | h | h | h <;> subst h <;> assumption
/-- the kind of a piece -/
def ch_kd (c : Int32) : Int32 := if 8 < c then c - 8 else c
/-- a piece of the side s -/
def ch_ow (c : Int32) (s : Nat) : Bool := if s = 0 then (!decide (c = 0) && decide (c < 8)) else decide (8 < c)
def ch_sd (c : Int32) : Nat := if c < 8 then 0 else 1
def ch_kg (s : Nat) : Int32 := if s = 0 then 6 else 14
def ch_ot (s : Nat) : Nat := 1 - s
theorem ch_ow_0 (s : Nat) : ch_ow 0 s = false := by
  unfold ch_ow; split <;> decide
theorem ch_ow_sd {c : Int32} {s : Nat} (hs : s < 2) (h : ch_ow c s = true) : ch_sd c = s := by
  have h2 : s = 0 ∨ s = 1 := by omega
  rcases h2 with rfl | rfl
  · simp [ch_ow] at h; simp [ch_sd, h.2]
  · simp only [ch_ow, if_neg (show ¬ (1 : Nat) = 0 by decide), decide_eq_true_eq] at h
    have : ¬ c < 8 := fun q => Int32.lt_irrefl (Int32.lt_trans h q)
    simp [ch_sd, this]
theorem ch_ow_ne {c : Int32} {s : Nat} (h : ch_ow c s = true) : ¬ c = 0 := by
  intro e; rw [e, ch_ow_0] at h; cases h
theorem ch_ow_not {c : Int32} (h : ch_ow c 0 = true) : ch_ow c 1 = false := by
  cases h1 : ch_ow c 1 with
  | false => rfl
  | true => exact absurd ((ch_ow_sd (by decide) h).symm.trans (ch_ow_sd (by decide) h1)) (by decide)
/-- how many i below n -/
def ch_ct (p : Nat → Bool) : Nat → Nat
  | 0 => 0
  | n + 1 => ch_ct p n + (if p n then 1 else 0)
theorem ch_ct_t {p : Nat → Bool} {n : Nat} (h : p n = true) : ch_ct p (n + 1) = ch_ct p n + 1 := by simp [ch_ct, h]
theorem ch_ct_f {p : Nat → Bool} {n : Nat} (h : p n = false) : ch_ct p (n + 1) = ch_ct p n := by simp [ch_ct, h]
theorem ch_ct_le (p : Nat → Bool) (n : Nat) : ch_ct p n ≤ n := by
  induction n with
  | zero => exact Nat.le_refl 0
  | succ n ih => simp only [ch_ct]; split <;> omega
theorem ch_ct_mono {p q : Nat → Bool} {n : Nat} (h : ∀ i, i < n → p i = true → q i = true) : ch_ct p n ≤ ch_ct q n := by
  induction n with
  | zero => exact Nat.le_refl 0
  | succ n ih =>
    have h1 := ih fun i hi => h i (by omega)
    have h2 := h n (by omega)
    simp only [ch_ct]
    cases hp : p n with
    | false => simp; omega
    | true => simp [h2 hp]; omega
theorem ch_ct_congr {p q : Nat → Bool} {n : Nat} (h : ∀ i, i < n → p i = q i) : ch_ct p n = ch_ct q n := by
  induction n with
  | zero => rfl
  | succ n ih => simp only [ch_ct]; rw [ih fun i hi => h i (by omega), h n (by omega)]
theorem ch_ct_0 {p : Nat → Bool} {n : Nat} (h : ∀ i, i < n → p i = false) : ch_ct p n = 0 := by
  induction n with
  | zero => rfl
  | succ n ih => rw [ch_ct_f (h n (by omega)), ih fun i hi => h i (by omega)]
theorem ch_ct_pos {p : Nat → Bool} {n : Nat} : 0 < ch_ct p n ↔ ∃ i, i < n ∧ p i = true := by
  induction n with
  | zero => exact ⟨fun h => absurd h (Nat.lt_irrefl 0), fun ⟨i, hi, _⟩ => absurd hi (Nat.not_lt_zero i)⟩
  | succ n ih =>
    cases hp : p n with
    | true =>
      rw [ch_ct_t hp]
      exact ⟨fun _ => ⟨n, by omega, hp⟩, fun _ => by omega⟩
    | false =>
      rw [ch_ct_f hp, ih]
      constructor
      · rintro ⟨i, hi, h⟩; exact ⟨i, by omega, h⟩
      · rintro ⟨i, hi, h⟩
        have : i ≠ n := by intro e; rw [e, hp] at h; cases h
        exact ⟨i, by omega, h⟩
theorem ch_ct_one {p : Nat → Bool} {n i j : Nat} (h : ch_ct p n ≤ 1) (hi : i < n) (hj : j < n) (pi : p i = true) (pj : p j = true) : i = j := by
  induction n with
  | zero => omega
  | succ n ih =>
    by_cases e1 : i = n
    · by_cases e2 : j = n
      · omega
      · exfalso
        have : 0 < ch_ct p n := ch_ct_pos.mpr ⟨j, by omega, pj⟩
        rw [ch_ct_t (e1 ▸ pi)] at h
        omega
    · by_cases e2 : j = n
      · exfalso
        have : 0 < ch_ct p n := ch_ct_pos.mpr ⟨i, by omega, pi⟩
        rw [ch_ct_t (e2 ▸ pj)] at h
        omega
      · refine ih ?_ (by omega) (by omega)
        simp only [ch_ct] at h
        omega
theorem ch_ct_upd (p : Nat → Bool) (k : Nat) (v : Bool) (n : Nat) (hk : k < n) : ch_ct (fun i => if i = k then v else p i) n + (if p k then 1 else 0) = ch_ct p n + (if v then 1 else 0) := by
  induction n with
  | zero => omega
  | succ n ih =>
    by_cases e : k = n
    · have h1 : ch_ct (fun i => if i = k then v else p i) n = ch_ct p n := ch_ct_congr fun i hi => if_neg (by omega)
      simp only [ch_ct, h1, if_pos e.symm]
      rw [e]
      omega
    · have h1 := ih (by omega)
      simp only [ch_ct, if_neg (show ¬ n = k from fun z => e z.symm)]
      omega
theorem ch_ct_add (p q r : Nat → Bool) (n : Nat) (h : ∀ i, i < n → (p i = true → r i = true) ∧ (q i = true → r i = true) ∧ (p i = true → q i = false)) : ch_ct p n + ch_ct q n ≤ ch_ct r n := by
  induction n with
  | zero => exact Nat.le_refl 0
  | succ n ih =>
    have h1 := ih fun i hi => h i (by omega)
    obtain ⟨a, b, c⟩ := h n (by omega)
    simp only [ch_ct]
    cases hp : p n with
    | true => simp [a hp, c hp]; omega
    | false =>
      cases hq : q n with
      | true => simp [b hq]; omega
      | false => simp; omega
/-- the numbers from q on, below 1296, that g has -/
def ch_rm (g : Nat → Bool) : Nat → Nat → List Nat
  | 0, _ => []
  | n + 1, q => if g q then q :: ch_rm g n (q + 1) else ch_rm g n (q + 1)
def ch_Rl (g : Nat → Bool) (q : Nat) : List Nat := ch_rm g (1296 - q) q
theorem ch_Re {g : Nat → Bool} {q : Nat} (h : 1296 ≤ q) : ch_Rl g q = [] := by
  unfold ch_Rl
  rw [show 1296 - q = 0 by omega]
  rfl
theorem ch_Rt {g : Nat → Bool} {q : Nat} (h : q < 1296) (hg : g q = true) : ch_Rl g q = q :: ch_Rl g (q + 1) := by
  unfold ch_Rl
  obtain ⟨m, hm⟩ : ∃ m, 1296 - q = m + 1 := ⟨1295 - q, by omega⟩
  rw [hm, show 1296 - (q + 1) = m by omega]
  simp [ch_rm, hg]
theorem ch_Rf {g : Nat → Bool} {q : Nat} (h : q < 1296) (hg : g q = false) : ch_Rl g q = ch_Rl g (q + 1) := by
  unfold ch_Rl
  obtain ⟨m, hm⟩ : ∃ m, 1296 - q = m + 1 := ⟨1295 - q, by omega⟩
  rw [hm, show 1296 - (q + 1) = m by omega]
  simp [ch_rm, hg]
theorem ch_Rskip {g : Nat → Bool} {q p : Nat} (hq : q ≤ p) (hp : p ≤ 1296) (h : ∀ j, q ≤ j → j < p → g j = false) : ch_Rl g q = ch_Rl g p := by
  obtain ⟨m, rfl⟩ : ∃ m, p = q + m := ⟨p - q, by omega⟩
  induction m with
  | zero => rfl
  | succ m ih =>
    rw [ih (by omega) (by omega) (fun j a b => h j a (by omega)), ch_Rf (by omega) (h (q + m) (by omega) (by omega))]
    rfl
theorem ch_Rcons {g : Nat → Bool} : ∀ (m q : Nat), 1296 - q = m → ∀ p r, ch_Rl g q = p :: r → q ≤ p ∧ p < 1296 ∧ g p = true ∧ r = ch_Rl g (p + 1) ∧ ∀ j, q ≤ j → j < p → g j = false := by
  intro m
  induction m with
  | zero =>
    intro q hq p r h
    rw [ch_Re (by omega)] at h
    cases h
  | succ m ih =>
    intro q hq p r h
    cases hg : g q with
    | true =>
      rw [ch_Rt (by omega) hg] at h
      cases h
      exact ⟨Nat.le_refl q, by omega, hg, rfl, fun j a b => by omega⟩
    | false =>
      rw [ch_Rf (by omega) hg] at h
      obtain ⟨a, b, c, d, e⟩ := ih (q + 1) (by omega) p r h
      refine ⟨by omega, b, c, d, fun j hj hp => ?_⟩
      by_cases ej : j = q
      · rw [ej]; exact hg
      · exact e j (by omega) hp
theorem ch_Rnil {g : Nat → Bool} : ∀ (m q : Nat), 1296 - q = m → ch_Rl g q = [] → ∀ j, q ≤ j → j < 1296 → g j = false := by
  intro m
  induction m with
  | zero => intro q hq _ j a b; omega
  | succ m ih =>
    intro q hq h j a b
    cases hg : g q with
    | true => rw [ch_Rt (by omega) hg] at h; cases h
    | false =>
      rw [ch_Rf (by omega) hg] at h
      by_cases ej : j = q
      · rw [ej]; exact hg
      · exact ih (q + 1) (by omega) h j (by omega) b
theorem ch_Rmem {g : Nat → Bool} {p : Nat} : ∀ (m q : Nat), 1296 - q = m → p ∈ ch_Rl g q → q ≤ p ∧ p < 1296 ∧ g p = true := by
  intro m
  induction m with
  | zero => intro q hq h; rw [ch_Re (by omega)] at h; cases h
  | succ m ih =>
    intro q hq h
    cases hg : g q with
    | true =>
      rw [ch_Rt (by omega) hg] at h
      rcases List.mem_cons.mp h with e | e
      · rw [e]; exact ⟨Nat.le_refl q, by omega, hg⟩
      · obtain ⟨a, b, c⟩ := ih (q + 1) (by omega) e
        exact ⟨by omega, b, c⟩
    | false =>
      rw [ch_Rf (by omega) hg] at h
      obtain ⟨a, b, c⟩ := ih (q + 1) (by omega) h
      exact ⟨by omega, b, c⟩
theorem ch_Rlen {g : Nat → Bool} : ∀ (m q : Nat), q + m = 1296 → ch_ct g q + (ch_Rl g q).length = ch_ct g 1296 := by
  intro m
  induction m with
  | zero =>
    intro q hq
    rw [ch_Re (by omega), show q = 1296 by omega]
    rfl
  | succ m ih =>
    intro q hq
    have h := ih (q + 1) (by omega)
    cases hg : g q with
    | true => rw [ch_Rt (by omega) hg]; rw [ch_ct_t hg] at h; simp only [List.length_cons]; omega
    | false => rw [ch_Rf (by omega) hg]; rw [ch_ct_f hg] at h; exact h
theorem ch_Rlen0 (g : Nat → Bool) : (ch_Rl g 0).length = ch_ct g 1296 := by
  have h := ch_Rlen (g := g) 1296 0 (by omega)
  rw [show ch_ct g 0 = 0 from rfl] at h
  omega
def ch_sm (v : Nat → Nat) : List Nat → Nat
  | [] => 0
  | p :: r => v p + ch_sm v r
theorem ch_sm_le {v : Nat → Nat} {M : Nat} : ∀ (l : List Nat), (∀ p, p ∈ l → v p ≤ M) → ch_sm v l ≤ l.length * M := by
  intro l
  induction l with
  | nil => intro _; exact Nat.zero_le _
  | cons p r ih =>
    intro h
    have h1 := ih fun x hx => h x (List.mem_cons_of_mem p hx)
    have h2 := h p List.mem_cons_self
    simp only [ch_sm, List.length_cons, Nat.add_mul, Nat.one_mul]
    omega
