/-! cells as the two classes reckon them; arrays that agree below -/
theorem ch_kdX {c : Int32} (h : ch_ok c) : c &&& 7 = ch_kd c := by
  rcases h with rfl | rfl | rfl | rfl | rfl | rfl | rfl | rfl | rfl | rfl | rfl | rfl | rfl <;> decide
def ch_oX (c : Int32) : Int32 := if c = 0 then -1 else c >>> ((3 : Int32) &&& 31)
theorem ch_owX {c : Int32} {s : Nat} (h : ch_ok c) (hs : s < 2) : ch_oX c = nI s ↔ ch_ow c s = true := by
  rcases ch_s2 hs with rfl | rfl <;> rcases h with rfl | rfl | rfl | rfl | rfl | rfl | rfl | rfl | rfl | rfl | rfl | rfl | rfl <;> decide
theorem ch_sdX {c : Int32} (h : ch_ok c) (h0 : ¬ c = 0) : ch_oX c = 0 ↔ ch_sd c = 0 := by
  rcases h with rfl | rfl | rfl | rfl | rfl | rfl | rfl | rfl | rfl | rfl | rfl | rfl | rfl <;> first | exact absurd rfl h0 | decide
theorem ch_kd_ne {c : Int32} (h : ch_ok c) (h0 : ¬ c = 0) : ch_kd c = 1 ∨ ch_kd c = 2 ∨ ch_kd c = 3 ∨ ch_kd c = 4 ∨ ch_kd c = 5 ∨ ch_kd c = 6 := by
  rcases h with rfl | rfl | rfl | rfl | rfl | rfl | rfl | rfl | rfl | rfl | rfl | rfl | rfl <;> first | exact absurd rfl h0 | decide
theorem ch_kd_0 : ch_kd 0 = 0 := by decide
theorem ch_kd1 {c : Int32} (h : ch_ok c) : ch_kd c = 1 ↔ c = 1 ∨ c = 9 := by
  rcases h with rfl | rfl | rfl | rfl | rfl | rfl | rfl | rfl | rfl | rfl | rfl | rfl | rfl <;> decide
theorem ch_sd8 (c : Int32) : c < 8 ↔ ch_sd c = 0 := by
  unfold ch_sd
  by_cases h : c < 8
  · simp [h]
  · simp [h]
theorem ch_ok_in {p : Int32} : ch_ok p ↔ (¬ p < 0 ∧ p ≤ 14 ∧ ¬ p = 7 ∧ ¬ p = 8) := by
  constructor
  · intro h
    rcases h with rfl | rfl | rfl | rfl | rfl | rfl | rfl | rfl | rfl | rfl | rfl | rfl | rfl <;> decide
  · rintro ⟨h0, h1, h2, h3⟩
    obtain ⟨j, hj, rfl⟩ := nI_of2 (M := 14) (n := 14) (by decide) h0 h1
    have hj2 : j = 0 ∨ j = 1 ∨ j = 2 ∨ j = 3 ∨ j = 4 ∨ j = 5 ∨ j = 6 ∨ j = 7 ∨ j = 8 ∨ j = 9 ∨ j = 10 ∨ j = 11 ∨ j = 12 ∨ j = 13 ∨ j = 14 := by omega
    rcases hj2 with rfl | rfl | rfl | rfl | rfl | rfl | rfl | rfl | rfl | rfl | rfl | rfl | rfl | rfl | rfl <;> first | exact absurd rfl h2 | exact absurd rfl h3 | (unfold ch_ok; decide)
theorem ch_ok_X {p : Int32} (h0 : ¬ p < 0) (h1 : p ≤ 14) : ch_ok p ↔ (p &&& 7) ≤ 6 ∧ (p = 0 ∨ ¬ (p &&& 7) = 0) := by
  rw [ch_ok_in]
  obtain ⟨j, hj, rfl⟩ := nI_of2 (M := 14) (n := 14) (by decide) h0 h1
  have key : ∀ j, j < 15 → ((¬ nI j < 0 ∧ nI j ≤ 14 ∧ ¬ nI j = 7 ∧ ¬ nI j = 8) ↔ (nI j &&& 7) ≤ 6 ∧ (nI j = 0 ∨ ¬ (nI j &&& 7) = 0)) := by decide +kernel
  exact key j (by omega)
def ch_e1 (n : Nat) (a a' : Nat → Int32) : Prop := ∀ i, i < n → a' i = a i
theorem ch_e1_r {n : Nat} {a : Nat → Int32} : ch_e1 n a a := fun _ _ => rfl
theorem ch_e1_t {n : Nat} {a b c : Nat → Int32} (h : ch_e1 n a b) (g : ch_e1 n b c) : ch_e1 n a c := fun i hi => (g i hi).trans (h i hi)
theorem ch_e1_m {n m : Nat} {a b : Nat → Int32} (h : ch_e1 m a b) (l : n ≤ m) : ch_e1 n a b := fun i hi => h i (by omega)
theorem ch_e1_u {n k : Nat} {a : Nat → Int32} {x : Int32} (l : n ≤ k) : ch_e1 n a (upd a k x) := fun i hi => pk_un (by omega)
def ch_e4 (n : Nat) (F T M C F' T' M' C' : Nat → Int32) : Prop := ch_e1 n F F' ∧ ch_e1 n T T' ∧ ch_e1 n M M' ∧ ch_e1 n C C'
theorem ch_e4_r {n : Nat} {F T M C : Nat → Int32} : ch_e4 n F T M C F T M C := ⟨ch_e1_r, ch_e1_r, ch_e1_r, ch_e1_r⟩
theorem ch_e4_t {n : Nat} {F T M C F' T' M' C' F2 T2 M2 C2 : Nat → Int32} (h : ch_e4 n F T M C F' T' M' C') (g : ch_e4 n F' T' M' C' F2 T2 M2 C2) : ch_e4 n F T M C F2 T2 M2 C2 := ⟨ch_e1_t h.1 g.1, ch_e1_t h.2.1 g.2.1, ch_e1_t h.2.2.1 g.2.2.1, ch_e1_t h.2.2.2 g.2.2.2⟩
theorem ch_e4_m {n m : Nat} {F T M C F' T' M' C' : Nat → Int32} (h : ch_e4 m F T M C F' T' M' C') (l : n ≤ m) : ch_e4 n F T M C F' T' M' C' := ⟨ch_e1_m h.1 l, ch_e1_m h.2.1 l, ch_e1_m h.2.2.1 l, ch_e1_m h.2.2.2 l⟩
theorem ch_e4_u {n k : Nat} {F T M C : Nat → Int32} {x y z w : Int32} (l : n ≤ k) : ch_e4 n F T M C (upd F k x) (upd T k y) (upd M k z) (upd C k w) := ⟨ch_e1_u l, ch_e1_u l, ch_e1_u l, ch_e1_u l⟩
/-- the number that the classes answer for a list of moves that are left -/
def ch_hX : List Nat → Int32
  | [] => -1
  | p :: _ => nI (ch_nm p)
def ch_hY : List Nat → Nat
  | [] => 1296
  | p :: _ => p
theorem ch_nm_lt {p : Nat} (h : p < 1296) : ch_nm p < 2304 := by unfold ch_nm; omega
theorem ch_nm_ne {p : Nat} (h : p < 1296) : ¬ nI (ch_nm p) = -1 := by
  have h2 := ch_nm_lt h
  intro e
  have h1 : (nI (ch_nm p)).toInt = (-1 : Int32).toInt := congrArg Int32.toInt e
  rw [nI_toInt (by omega), show (-1 : Int32).toInt = -1 by decide] at h1
  omega
theorem ch_hX_nil {l : List Nat} (hl : ∀ p, p ∈ l → p < 1296) : ch_hX l = -1 ↔ l = [] := by
  cases l with
  | nil => exact ⟨fun _ => rfl, fun _ => rfl⟩
  | cons p r => exact ⟨fun e => absurd e (ch_nm_ne (hl p List.mem_cons_self)), fun e => by cases e⟩
theorem ch_bm_ne {v : Nat → Int32} : ∀ (l : List Nat) (g m : Int32), (∀ p, p ∈ l → p < 1296) → ¬ m = -1 → ¬ ch_bm v g m l = -1 := by
  intro l
  induction l with
  | nil => intro g m _ h; exact h
  | cons p r ih =>
    intro g m hl h
    simp only [ch_bm]
    refine ih _ _ (fun x hx => hl x (List.mem_cons_of_mem p hx)) ?_
    split
    · exact ch_nm_ne (hl p List.mem_cons_self)
    · exact h
def ch_nt : List Nat → Nat → Int32
  | [], _ => -2
  | p :: _, 0 => nI (ch_nm p)
  | _ :: r, k + 1 => ch_nt r k
theorem ch_Rl_lt {g : Nat → Bool} {q : Nat} : ∀ p, p ∈ ch_Rl g q → p < 1296 := fun _ h => (ch_Rmem _ q rfl h).2.1
/-- the steps of counting rows: at most those of a walk -/
def ch_TC : Nat → (Nat → Int32) → Nat → Nat
  | 0, b, s => (ch_L b s).length
  | d + 1, b, s => ch_sm (fun p => 2 + ch_TC d (ch_pp b s p) (1 - s)) (ch_L b s)
theorem ch_sm_mono {v w : Nat → Nat} : ∀ (l : List Nat), (∀ p, p ∈ l → v p ≤ w p) → ch_sm v l ≤ ch_sm w l := by
  intro l
  induction l with
  | nil => intro _; exact Nat.le_refl 0
  | cons p r ih =>
    intro h
    have h1 := ih fun x hx => h x (List.mem_cons_of_mem p hx)
    have h2 := h p List.mem_cons_self
    simp only [ch_sm]
    omega
theorem ch_sm_1 (k : Nat) : ∀ (l : List Nat), ch_sm (fun _ => k) l = l.length * k := by
  intro l
  induction l with
  | nil => simp [ch_sm]
  | cons p r ih => simp only [ch_sm, ih, List.length_cons, Nat.add_mul, Nat.one_mul]; omega
theorem ch_TC_le : ∀ d b s, 1 + ch_TC d b s ≤ ch_T (d + 1) b s := by
  intro d
  induction d with
  | zero =>
    intro b s
    have h := ch_sm_1 (1 + 1) (ch_L b s)
    have e : ch_T (0 + 1) b s = 1 + ch_sm (fun _ => 1 + 1) (ch_L b s) := rfl
    rw [e, h]
    show 1 + (ch_L b s).length ≤ _
    omega
  | succ d ih =>
    intro b s
    have h : ch_sm (fun p => 2 + ch_TC d (ch_pp b s p) (1 - s)) (ch_L b s) ≤ ch_sm (fun p => 1 + ch_T (d + 1) (ch_pp b s p) (1 - s)) (ch_L b s) := by
      refine ch_sm_mono _ fun p _ => ?_
      have := ih (ch_pp b s p) (1 - s)
      omega
    exact Nat.add_le_add_left h 1
